theorem dX3_growOlder_0 : decode cX3_growOlder 0 = .ok (.iconst 0, 1) := by decide +kernel
theorem dX3_growOlder_1 : decode cX3_growOlder 1 = .ok (.istore_n 2, 1) := by decide +kernel
theorem dX3_growOlder_2 : decode cX3_growOlder 2 = .ok (.iconst 0, 1) := by decide +kernel
theorem dX3_growOlder_3 : decode cX3_growOlder 3 = .ok (.istore_n 3, 1) := by decide +kernel
theorem dX3_growOlder_4 : decode cX3_growOlder 4 = .ok (.iload_n 3, 1) := by decide +kernel
theorem dX3_growOlder_5 : decode cX3_growOlder 5 = .ok (.aload_n 1, 1) := by decide +kernel
theorem dX3_growOlder_6 : decode cX3_growOlder 6 = .ok (.getfield 138, 3) := by decide +kernel
theorem dX3_growOlder_9 : decode cX3_growOlder 9 = .ok (.if_icmp .ge 25, 3) := by decide +kernel
theorem dX3_growOlder_12 : decode cX3_growOlder 12 = .ok (.iload_n 2, 1) := by decide +kernel
theorem dX3_growOlder_13 : decode cX3_growOlder 13 = .ok (.aload_n 0, 1) := by decide +kernel
theorem dX3_growOlder_14 : decode cX3_growOlder 14 = .ok (.getfield 33, 3) := by decide +kernel
theorem dX3_growOlder_17 : decode cX3_growOlder 17 = .ok (.aload_n 1, 1) := by decide +kernel
theorem dX3_growOlder_18 : decode cX3_growOlder 18 = .ok (.getfield 117, 3) := by decide +kernel
theorem dX3_growOlder_21 : decode cX3_growOlder 21 = .ok (.iload_n 3, 1) := by decide +kernel
theorem dX3_growOlder_22 : decode cX3_growOlder 22 = .ok (.iaload, 1) := by decide +kernel
theorem dX3_growOlder_23 : decode cX3_growOlder 23 = .ok (.iaload, 1) := by decide +kernel
theorem dX3_growOlder_24 : decode cX3_growOlder 24 = .ok (.invokestatic 141, 3) := by decide +kernel
theorem dX3_growOlder_27 : decode cX3_growOlder 27 = .ok (.istore_n 2, 1) := by decide +kernel
theorem dX3_growOlder_28 : decode cX3_growOlder 28 = .ok (.iinc 3 1, 3) := by decide +kernel
theorem dX3_growOlder_31 : decode cX3_growOlder 31 = .ok (.goto (-27), 3) := by decide +kernel
theorem dX3_growOlder_34 : decode cX3_growOlder 34 = .ok (.iconst 0, 1) := by decide +kernel
theorem dX3_growOlder_35 : decode cX3_growOlder 35 = .ok (.istore_n 3, 1) := by decide +kernel
theorem dX3_growOlder_36 : decode cX3_growOlder 36 = .ok (.iload_n 3, 1) := by decide +kernel
theorem dX3_growOlder_37 : decode cX3_growOlder 37 = .ok (.aload_n 1, 1) := by decide +kernel
theorem dX3_growOlder_38 : decode cX3_growOlder 38 = .ok (.getfield 138, 3) := by decide +kernel
theorem dX3_growOlder_41 : decode cX3_growOlder 41 = .ok (.if_icmp .ge 26, 3) := by decide +kernel
theorem dX3_growOlder_44 : decode cX3_growOlder 44 = .ok (.aload_n 0, 1) := by decide +kernel
theorem dX3_growOlder_45 : decode cX3_growOlder 45 = .ok (.getfield 33, 3) := by decide +kernel
theorem dX3_growOlder_48 : decode cX3_growOlder 48 = .ok (.aload_n 1, 1) := by decide +kernel
theorem dX3_growOlder_49 : decode cX3_growOlder 49 = .ok (.getfield 117, 3) := by decide +kernel
theorem dX3_growOlder_52 : decode cX3_growOlder 52 = .ok (.iload_n 3, 1) := by decide +kernel
theorem dX3_growOlder_53 : decode cX3_growOlder 53 = .ok (.iaload, 1) := by decide +kernel
theorem dX3_growOlder_54 : decode cX3_growOlder 54 = .ok (.dup2, 1) := by decide +kernel
theorem dX3_growOlder_55 : decode cX3_growOlder 55 = .ok (.iaload, 1) := by decide +kernel
theorem dX3_growOlder_56 : decode cX3_growOlder 56 = .ok (.iconst 3, 1) := by decide +kernel
theorem dX3_growOlder_57 : decode cX3_growOlder 57 = .ok (.iload_n 2, 1) := by decide +kernel
theorem dX3_growOlder_58 : decode cX3_growOlder 58 = .ok (.isub, 1) := by decide +kernel
theorem dX3_growOlder_59 : decode cX3_growOlder 59 = .ok (.iadd, 1) := by decide +kernel
theorem dX3_growOlder_60 : decode cX3_growOlder 60 = .ok (.iastore, 1) := by decide +kernel
theorem dX3_growOlder_61 : decode cX3_growOlder 61 = .ok (.iinc 3 1, 3) := by decide +kernel
theorem dX3_growOlder_64 : decode cX3_growOlder 64 = .ok (.goto (-28), 3) := by decide +kernel
theorem dX3_growOlder_67 : decode cX3_growOlder 67 = .ok (.return_, 1) := by decide +kernel
def X3_growOlder_b36 (k : Nat) (v1 : Int32) (v3 : Int32) (m4 : gM) (k36 : Int32 → gM → Option (Unit × gM)) : Option (Unit × gM) :=
  if (m4 1 0 3) ≤ v3 then (some ((), m4)) else (gAt m4 17 0 v3 (fun (x5 : Int32) => gAt m4 32 k x5 (fun (x6 : Int32) => gPut m4 32 k x5 (x6 + (3 - v1)) (fun (m7 : gM) => gLet (v3 + 1) (fun (x8 : Int32) => k36 x8 m7)))))
def X3_growOlder_b4 (k : Nat) (j34 : Int32 → gM → Option (Unit × gM)) (v9 v10 : Int32) (m11 : gM) (k4 : Int32 → Int32 → gM → Option (Unit × gM)) : Option (Unit × gM) :=
  if (m11 1 0 3) ≤ v10 then (j34 v9 m11) else (gAt m11 17 0 v10 (fun (x12 : Int32) => gAt m11 32 k x12 (fun (x13 : Int32) => gLet (gMax v9 x13) (fun (x14 : Int32) => gLet (v10 + 1) (fun (x15 : Int32) => k4 x14 x15 m11)))))
def X3_growOlder (k : Nat) (m : gM) : Option (Unit × gM) :=
  gJ1 (fun (v1 : Int32) (m2 : gM) => gL1 FU (X3_growOlder_b36 k v1) 0 m2) (fun (j34 : Int32 → gM → Option (Unit × gM)) => gL2 FU (X3_growOlder_b4 k j34) 0 0 m)
set_option maxRecDepth 100000 in
set_option maxHeartbeats 4000000 in
theorem c_X3_growOlder (k : Nat) (m : gM) : gCon eU yX3_growOlder cX3_growOlder 4 none 1 [.inr (3, k), .inr (1, 0)] m (X3_growOlder k m) := by
  refine gCon.of (lv := [some (.inr (3, k)), some (.inr (1, 0)), none, none]) (by decide +kernel) (Nat.le_of_ble_eq_true rfl) rfl (fun X C => ?_)
  unfold X3_growOlder
  refine r_iconst (v := 0) C dX3_growOlder_0 (by decide) ?_
  refine r_istore_n (lv' := [some (.inr (3, k)), some (.inr (1, 0)), some (.inl 0), none]) C dX3_growOlder_1 rfl (by decide) rfl ?_
  refine r_iconst (v := 0) C dX3_growOlder_2 (by decide) ?_
  refine r_istore_n (lv' := [some (.inr (3, k)), some (.inr (1, 0)), some (.inl 0), some (.inl 0)]) C dX3_growOlder_3 rfl (by decide) rfl ?_
  refine r_j1 34 (fun v1 => [some (.inr (3, k)), some (.inr (1, 0)), some (.inl v1), none]) (fun v1 => []) (fun v1 m2 => ?_) (fun j34 hj34 => ?_)
  · refine r_iconst (v := 0) C dX3_growOlder_34 (by decide) ?_
    refine r_istore_n (lv' := [some (.inr (3, k)), some (.inr (1, 0)), some (.inl v1), some (.inl 0)]) C dX3_growOlder_35 rfl (by decide) rfl ?_
    refine r_weak (lv' := [some (.inr (3, k)), some (.inr (1, 0)), some (.inl v1), some (.inl 0)]) ⟨rfl, rfl, rfl, rfl, trivial⟩ ?_
    refine r_l1 (pj := 36) (fun v3 => [some (.inr (3, k)), some (.inr (1, 0)), some (.inl v1), some (.inl v3)]) (fun v3 m4 k36 hk36 => ?_) _ _ _
    unfold X3_growOlder_b36
    refine r_iload_n C dX3_growOlder_36 rfl rfl ?_
    refine r_aload_n C dX3_growOlder_37 rfl rfl ?_
    refine r_get (v := .inl (m4 1 0 3)) C fl_X3_138 dX3_growOlder_38 rfl ?_
    refine r_icmp_ge (tgt := 67) C dX3_growOlder_41 (by decide) ?_ ?_
    · exact r_return C dX3_growOlder_67
    refine r_aload_n C dX3_growOlder_44 rfl rfl ?_
    refine r_get (v := .inr (32, k)) C fl_X3_33 dX3_growOlder_45 rfl ?_
    refine r_aload_n C dX3_growOlder_48 rfl rfl ?_
    refine r_get (v := .inr (17, 0)) C fl_X3_117 dX3_growOlder_49 rfl ?_
    refine r_iload_n C dX3_growOlder_52 rfl rfl ?_
    refine r_iald C rfl dX3_growOlder_53 (fun x5 => ?_)
    refine r_dup2 C dX3_growOlder_54 ?_
    refine r_iald C rfl dX3_growOlder_55 (fun x6 => ?_)
    refine r_iconst (v := 3) C dX3_growOlder_56 (by decide) ?_
    refine r_iload_n C dX3_growOlder_57 rfl rfl ?_
    refine r_isub C dX3_growOlder_58 ?_
    refine r_iadd C dX3_growOlder_59 ?_
    refine r_iast C rfl dX3_growOlder_60 (fun m7 => ?_)
    refine r_iinc (v := 1) C dX3_growOlder_61 (by decide) rfl (by decide) (fun x8 => ?_)
    show gw X eU _ [some (.inr (3, k)), some (.inr (1, 0)), some (.inl v1), some (.inl x8)] _ _ _
    refine r_goto (tgt := 36) C dX3_growOlder_64 (by decide) ?_
    exact r_weak (lv' := [some (.inr (3, k)), some (.inr (1, 0)), some (.inl v1), some (.inl x8)]) ⟨rfl, rfl, rfl, rfl, trivial⟩ (hk36 _ _)
  refine r_weak (lv' := [some (.inr (3, k)), some (.inr (1, 0)), some (.inl 0), some (.inl 0)]) ⟨rfl, rfl, rfl, rfl, trivial⟩ ?_
  refine r_l2 (pj := 4) (fun v9 v10 => [some (.inr (3, k)), some (.inr (1, 0)), some (.inl v9), some (.inl v10)]) (fun v9 v10 m11 k4 hk4 => ?_) _ _ _ _
  unfold X3_growOlder_b4
  refine r_iload_n C dX3_growOlder_4 rfl rfl ?_
  refine r_aload_n C dX3_growOlder_5 rfl rfl ?_
  refine r_get (v := .inl (m11 1 0 3)) C fl_X3_138 dX3_growOlder_6 rfl ?_
  refine r_icmp_ge (tgt := 34) C dX3_growOlder_9 (by decide) ?_ ?_
  · exact r_weak (lv' := [some (.inr (3, k)), some (.inr (1, 0)), some (.inl v9), none]) ⟨rfl, rfl, rfl, trivial⟩ (hj34 _ _)
  refine r_iload_n C dX3_growOlder_12 rfl rfl ?_
  refine r_aload_n C dX3_growOlder_13 rfl rfl ?_
  refine r_get (v := .inr (32, k)) C fl_X3_33 dX3_growOlder_14 rfl ?_
  refine r_aload_n C dX3_growOlder_17 rfl rfl ?_
  refine r_get (v := .inr (17, 0)) C fl_X3_117 dX3_growOlder_18 rfl ?_
  refine r_iload_n C dX3_growOlder_21 rfl rfl ?_
  refine r_iald C rfl dX3_growOlder_22 (fun x12 => ?_)
  refine r_iald C rfl dX3_growOlder_23 (fun x13 => ?_)
  refine r_mmax C im_X3_141 (by decide) (Nat.le_of_ble_eq_true rfl) dX3_growOlder_24 ?_
  refine r_let (fun x14 => ?_)
  refine r_istore_n (lv' := [some (.inr (3, k)), some (.inr (1, 0)), some (.inl x14), some (.inl v10)]) C dX3_growOlder_27 rfl (by decide) rfl ?_
  refine r_iinc (v := 1) C dX3_growOlder_28 (by decide) rfl (by decide) (fun x15 => ?_)
  show gw X eU _ [some (.inr (3, k)), some (.inr (1, 0)), some (.inl x14), some (.inl x15)] _ _ _
  refine r_goto (tgt := 4) C dX3_growOlder_31 (by decide) ?_
  exact r_weak (lv' := [some (.inr (3, k)), some (.inr (1, 0)), some (.inl x14), some (.inl x15)]) ⟨rfl, rfl, rfl, rfl, trivial⟩ (hk4 _ _ _)
theorem dX3_bringBack_0 : decode cX3_bringBack 0 = .ok (.aload_n 0, 1) := by decide +kernel
theorem dX3_bringBack_1 : decode cX3_bringBack 1 = .ok (.getfield 24, 3) := by decide +kernel
theorem dX3_bringBack_4 : decode cX3_bringBack 4 = .ok (.iload_n 1, 1) := by decide +kernel
theorem dX3_bringBack_5 : decode cX3_bringBack 5 = .ok (.iaload, 1) := by decide +kernel
theorem dX3_bringBack_6 : decode cX3_bringBack 6 = .ok (.istore_n 2, 1) := by decide +kernel
theorem dX3_bringBack_7 : decode cX3_bringBack 7 = .ok (.iload_n 2, 1) := by decide +kernel
theorem dX3_bringBack_8 : decode cX3_bringBack 8 = .ok (.iconst (-1), 1) := by decide +kernel
theorem dX3_bringBack_9 : decode cX3_bringBack 9 = .ok (.if_icmp .eq 12, 3) := by decide +kernel
theorem dX3_bringBack_12 : decode cX3_bringBack 12 = .ok (.aload_n 0, 1) := by decide +kernel
theorem dX3_bringBack_13 : decode cX3_bringBack 13 = .ok (.getfield 30, 3) := by decide +kernel
theorem dX3_bringBack_16 : decode cX3_bringBack 16 = .ok (.iload_n 1, 1) := by decide +kernel
theorem dX3_bringBack_17 : decode cX3_bringBack 17 = .ok (.iaload, 1) := by decide +kernel
theorem dX3_bringBack_18 : decode cX3_bringBack 18 = .ok (.ifCond .ne 5, 3) := by decide +kernel
theorem dX3_bringBack_21 : decode cX3_bringBack 21 = .ok (.iconst 0, 1) := by decide +kernel
theorem dX3_bringBack_22 : decode cX3_bringBack 22 = .ok (.ireturn, 1) := by decide +kernel
theorem dX3_bringBack_23 : decode cX3_bringBack 23 = .ok (.aload_n 0, 1) := by decide +kernel
theorem dX3_bringBack_24 : decode cX3_bringBack 24 = .ok (.getfield 21, 3) := by decide +kernel
theorem dX3_bringBack_27 : decode cX3_bringBack 27 = .ok (.iload_n 2, 1) := by decide +kernel
theorem dX3_bringBack_28 : decode cX3_bringBack 28 = .ok (.aload_n 0, 1) := by decide +kernel
theorem dX3_bringBack_29 : decode cX3_bringBack 29 = .ok (.getfield 27, 3) := by decide +kernel
theorem dX3_bringBack_32 : decode cX3_bringBack 32 = .ok (.iload_n 1, 1) := by decide +kernel
theorem dX3_bringBack_33 : decode cX3_bringBack 33 = .ok (.iaload, 1) := by decide +kernel
theorem dX3_bringBack_34 : decode cX3_bringBack 34 = .ok (.iastore, 1) := by decide +kernel
theorem dX3_bringBack_35 : decode cX3_bringBack 35 = .ok (.aload_n 0, 1) := by decide +kernel
theorem dX3_bringBack_36 : decode cX3_bringBack 36 = .ok (.getfield 30, 3) := by decide +kernel
theorem dX3_bringBack_39 : decode cX3_bringBack 39 = .ok (.iload_n 1, 1) := by decide +kernel
theorem dX3_bringBack_40 : decode cX3_bringBack 40 = .ok (.iconst 0, 1) := by decide +kernel
theorem dX3_bringBack_41 : decode cX3_bringBack 41 = .ok (.iastore, 1) := by decide +kernel
theorem dX3_bringBack_42 : decode cX3_bringBack 42 = .ok (.aload_n 0, 1) := by decide +kernel
theorem dX3_bringBack_43 : decode cX3_bringBack 43 = .ok (.getfield 15, 3) := by decide +kernel
theorem dX3_bringBack_46 : decode cX3_bringBack 46 = .ok (.iconst 3, 1) := by decide +kernel
theorem dX3_bringBack_47 : decode cX3_bringBack 47 = .ok (.dup2, 1) := by decide +kernel
theorem dX3_bringBack_48 : decode cX3_bringBack 48 = .ok (.iaload, 1) := by decide +kernel
theorem dX3_bringBack_49 : decode cX3_bringBack 49 = .ok (.iconst 1, 1) := by decide +kernel
theorem dX3_bringBack_50 : decode cX3_bringBack 50 = .ok (.iadd, 1) := by decide +kernel
theorem dX3_bringBack_51 : decode cX3_bringBack 51 = .ok (.iastore, 1) := by decide +kernel
theorem dX3_bringBack_52 : decode cX3_bringBack 52 = .ok (.iconst 1, 1) := by decide +kernel
theorem dX3_bringBack_53 : decode cX3_bringBack 53 = .ok (.ireturn, 1) := by decide +kernel
def X3_bringBack (k : Nat) (a1 : Int32) (m : gM) : Option (Int32 × gM) :=
  gAt m 29 k a1 (fun (x1 : Int32) => if x1 = (-1) then (some (0, m)) else (gAt m 31 k a1 (fun (x2 : Int32) => if x2 = 0 then (some (0, m)) else (gAt m 30 k a1 (fun (x3 : Int32) => gPut m 28 k x1 x3 (fun (m4 : gM) => gPut m4 31 k a1 0 (fun (m5 : gM) => gAt m5 26 k 3 (fun (x6 : Int32) => gPut m5 26 k 3 (x6 + 1) (fun (m7 : gM) => some (1, m7))))))))))
set_option maxRecDepth 100000 in
set_option maxHeartbeats 4000000 in
theorem c_X3_bringBack (k : Nat) (a1 : Int32) (m : gM) : gCon eI yX3_bringBack cX3_bringBack 3 (some .int) 0 [.inr (3, k), .inl a1] m (X3_bringBack k a1 m) := by
  refine gCon.of (lv := [some (.inr (3, k)), some (.inl a1), none]) (by decide +kernel) (Nat.le_of_ble_eq_true rfl) rfl (fun X C => ?_)
  unfold X3_bringBack
  refine r_aload_n C dX3_bringBack_0 rfl rfl ?_
  refine r_get (v := .inr (29, k)) C fl_X3_24 dX3_bringBack_1 rfl ?_
  refine r_iload_n C dX3_bringBack_4 rfl rfl ?_
  refine r_iald C rfl dX3_bringBack_5 (fun x1 => ?_)
  refine r_istore_n (lv' := [some (.inr (3, k)), some (.inl a1), some (.inl x1)]) C dX3_bringBack_6 rfl (by decide) rfl ?_
  refine r_iload_n C dX3_bringBack_7 rfl rfl ?_
  refine r_iconst (v := (-1)) C dX3_bringBack_8 (by decide) ?_
  refine r_icmp_eq (tgt := 21) C dX3_bringBack_9 (by decide) ?_ ?_
  · refine r_iconst (v := 0) C dX3_bringBack_21 (by decide) ?_
    exact r_ireturn C dX3_bringBack_22
  refine r_aload_n C dX3_bringBack_12 rfl rfl ?_
  refine r_get (v := .inr (31, k)) C fl_X3_30 dX3_bringBack_13 rfl ?_
  refine r_iload_n C dX3_bringBack_16 rfl rfl ?_
  refine r_iald C rfl dX3_bringBack_17 (fun x2 => ?_)
  refine r_if_ne (tgt := 23) C dX3_bringBack_18 (by decide) ?_ ?_
  · refine r_aload_n C dX3_bringBack_23 rfl rfl ?_
    refine r_get (v := .inr (28, k)) C fl_X3_21 dX3_bringBack_24 rfl ?_
    refine r_iload_n C dX3_bringBack_27 rfl rfl ?_
    refine r_aload_n C dX3_bringBack_28 rfl rfl ?_
    refine r_get (v := .inr (30, k)) C fl_X3_27 dX3_bringBack_29 rfl ?_
    refine r_iload_n C dX3_bringBack_32 rfl rfl ?_
    refine r_iald C rfl dX3_bringBack_33 (fun x3 => ?_)
    refine r_iast C rfl dX3_bringBack_34 (fun m4 => ?_)
    refine r_aload_n C dX3_bringBack_35 rfl rfl ?_
    refine r_get (v := .inr (31, k)) C fl_X3_30 dX3_bringBack_36 rfl ?_
    refine r_iload_n C dX3_bringBack_39 rfl rfl ?_
    refine r_iconst (v := 0) C dX3_bringBack_40 (by decide) ?_
    refine r_iast C rfl dX3_bringBack_41 (fun m5 => ?_)
    refine r_aload_n C dX3_bringBack_42 rfl rfl ?_
    refine r_get (v := .inr (26, k)) C fl_X3_15 dX3_bringBack_43 rfl ?_
    refine r_iconst (v := 3) C dX3_bringBack_46 (by decide) ?_
    refine r_dup2 C dX3_bringBack_47 ?_
    refine r_iald C rfl dX3_bringBack_48 (fun x6 => ?_)
    refine r_iconst (v := 1) C dX3_bringBack_49 (by decide) ?_
    refine r_iadd C dX3_bringBack_50 ?_
    refine r_iast C rfl dX3_bringBack_51 (fun m7 => ?_)
    refine r_iconst (v := 1) C dX3_bringBack_52 (by decide) ?_
    exact r_ireturn C dX3_bringBack_53
  refine r_iconst (v := 0) C dX3_bringBack_21 (by decide) ?_
  exact r_ireturn C dX3_bringBack_22
theorem dX3_moveLine_0 : decode cX3_moveLine 0 = .ok (.aload_n 0, 1) := by decide +kernel
theorem dX3_moveLine_1 : decode cX3_moveLine 1 = .ok (.getfield 24, 3) := by decide +kernel
theorem dX3_moveLine_4 : decode cX3_moveLine 4 = .ok (.iload_n 2, 1) := by decide +kernel
theorem dX3_moveLine_5 : decode cX3_moveLine 5 = .ok (.aload_n 0, 1) := by decide +kernel
theorem dX3_moveLine_6 : decode cX3_moveLine 6 = .ok (.getfield 24, 3) := by decide +kernel
theorem dX3_moveLine_9 : decode cX3_moveLine 9 = .ok (.iload_n 1, 1) := by decide +kernel
theorem dX3_moveLine_10 : decode cX3_moveLine 10 = .ok (.iaload, 1) := by decide +kernel
theorem dX3_moveLine_11 : decode cX3_moveLine 11 = .ok (.iastore, 1) := by decide +kernel
theorem dX3_moveLine_12 : decode cX3_moveLine 12 = .ok (.aload_n 0, 1) := by decide +kernel
theorem dX3_moveLine_13 : decode cX3_moveLine 13 = .ok (.getfield 27, 3) := by decide +kernel
theorem dX3_moveLine_16 : decode cX3_moveLine 16 = .ok (.iload_n 2, 1) := by decide +kernel
theorem dX3_moveLine_17 : decode cX3_moveLine 17 = .ok (.aload_n 0, 1) := by decide +kernel
theorem dX3_moveLine_18 : decode cX3_moveLine 18 = .ok (.getfield 27, 3) := by decide +kernel
theorem dX3_moveLine_21 : decode cX3_moveLine 21 = .ok (.iload_n 1, 1) := by decide +kernel
theorem dX3_moveLine_22 : decode cX3_moveLine 22 = .ok (.iaload, 1) := by decide +kernel
theorem dX3_moveLine_23 : decode cX3_moveLine 23 = .ok (.iastore, 1) := by decide +kernel
theorem dX3_moveLine_24 : decode cX3_moveLine 24 = .ok (.aload_n 0, 1) := by decide +kernel
theorem dX3_moveLine_25 : decode cX3_moveLine 25 = .ok (.getfield 30, 3) := by decide +kernel
theorem dX3_moveLine_28 : decode cX3_moveLine 28 = .ok (.iload_n 2, 1) := by decide +kernel
theorem dX3_moveLine_29 : decode cX3_moveLine 29 = .ok (.aload_n 0, 1) := by decide +kernel
theorem dX3_moveLine_30 : decode cX3_moveLine 30 = .ok (.getfield 30, 3) := by decide +kernel
theorem dX3_moveLine_33 : decode cX3_moveLine 33 = .ok (.iload_n 1, 1) := by decide +kernel
theorem dX3_moveLine_34 : decode cX3_moveLine 34 = .ok (.iaload, 1) := by decide +kernel
theorem dX3_moveLine_35 : decode cX3_moveLine 35 = .ok (.iastore, 1) := by decide +kernel
theorem dX3_moveLine_36 : decode cX3_moveLine 36 = .ok (.aload_n 0, 1) := by decide +kernel
theorem dX3_moveLine_37 : decode cX3_moveLine 37 = .ok (.getfield 33, 3) := by decide +kernel
theorem dX3_moveLine_40 : decode cX3_moveLine 40 = .ok (.iload_n 2, 1) := by decide +kernel
theorem dX3_moveLine_41 : decode cX3_moveLine 41 = .ok (.aload_n 0, 1) := by decide +kernel
theorem dX3_moveLine_42 : decode cX3_moveLine 42 = .ok (.getfield 33, 3) := by decide +kernel
theorem dX3_moveLine_45 : decode cX3_moveLine 45 = .ok (.iload_n 1, 1) := by decide +kernel
theorem dX3_moveLine_46 : decode cX3_moveLine 46 = .ok (.iaload, 1) := by decide +kernel
theorem dX3_moveLine_47 : decode cX3_moveLine 47 = .ok (.iastore, 1) := by decide +kernel
theorem dX3_moveLine_48 : decode cX3_moveLine 48 = .ok (.return_, 1) := by decide +kernel
def X3_moveLine (k : Nat) (a1 : Int32) (a2 : Int32) (m : gM) : Option (Unit × gM) :=
  gAt m 29 k a1 (fun (x1 : Int32) => gPut m 29 k a2 x1 (fun (m2 : gM) => gAt m2 30 k a1 (fun (x3 : Int32) => gPut m2 30 k a2 x3 (fun (m4 : gM) => gAt m4 31 k a1 (fun (x5 : Int32) => gPut m4 31 k a2 x5 (fun (m6 : gM) => gAt m6 32 k a1 (fun (x7 : Int32) => gPut m6 32 k a2 x7 (fun (m8 : gM) => some ((), m8)))))))))
set_option maxRecDepth 100000 in
set_option maxHeartbeats 4000000 in
theorem c_X3_moveLine (k : Nat) (a1 : Int32) (a2 : Int32) (m : gM) : gCon eU yX3_moveLine cX3_moveLine 3 none 0 [.inr (3, k), .inl a1, .inl a2] m (X3_moveLine k a1 a2 m) := by
  refine gCon.of (lv := [some (.inr (3, k)), some (.inl a1), some (.inl a2)]) (by decide +kernel) (Nat.le_of_ble_eq_true rfl) rfl (fun X C => ?_)
  unfold X3_moveLine
  refine r_aload_n C dX3_moveLine_0 rfl rfl ?_
  refine r_get (v := .inr (29, k)) C fl_X3_24 dX3_moveLine_1 rfl ?_
  refine r_iload_n C dX3_moveLine_4 rfl rfl ?_
  refine r_aload_n C dX3_moveLine_5 rfl rfl ?_
  refine r_get (v := .inr (29, k)) C fl_X3_24 dX3_moveLine_6 rfl ?_
  refine r_iload_n C dX3_moveLine_9 rfl rfl ?_
  refine r_iald C rfl dX3_moveLine_10 (fun x1 => ?_)
  refine r_iast C rfl dX3_moveLine_11 (fun m2 => ?_)
  refine r_aload_n C dX3_moveLine_12 rfl rfl ?_
  refine r_get (v := .inr (30, k)) C fl_X3_27 dX3_moveLine_13 rfl ?_
  refine r_iload_n C dX3_moveLine_16 rfl rfl ?_
  refine r_aload_n C dX3_moveLine_17 rfl rfl ?_
  refine r_get (v := .inr (30, k)) C fl_X3_27 dX3_moveLine_18 rfl ?_
  refine r_iload_n C dX3_moveLine_21 rfl rfl ?_
  refine r_iald C rfl dX3_moveLine_22 (fun x3 => ?_)
  refine r_iast C rfl dX3_moveLine_23 (fun m4 => ?_)
  refine r_aload_n C dX3_moveLine_24 rfl rfl ?_
  refine r_get (v := .inr (31, k)) C fl_X3_30 dX3_moveLine_25 rfl ?_
  refine r_iload_n C dX3_moveLine_28 rfl rfl ?_
  refine r_aload_n C dX3_moveLine_29 rfl rfl ?_
  refine r_get (v := .inr (31, k)) C fl_X3_30 dX3_moveLine_30 rfl ?_
  refine r_iload_n C dX3_moveLine_33 rfl rfl ?_
  refine r_iald C rfl dX3_moveLine_34 (fun x5 => ?_)
  refine r_iast C rfl dX3_moveLine_35 (fun m6 => ?_)
  refine r_aload_n C dX3_moveLine_36 rfl rfl ?_
  refine r_get (v := .inr (32, k)) C fl_X3_33 dX3_moveLine_37 rfl ?_
  refine r_iload_n C dX3_moveLine_40 rfl rfl ?_
  refine r_aload_n C dX3_moveLine_41 rfl rfl ?_
  refine r_get (v := .inr (32, k)) C fl_X3_33 dX3_moveLine_42 rfl ?_
  refine r_iload_n C dX3_moveLine_45 rfl rfl ?_
  refine r_iald C rfl dX3_moveLine_46 (fun x7 => ?_)
  refine r_iast C rfl dX3_moveLine_47 (fun m8 => ?_)
  exact r_return C dX3_moveLine_48
theorem dX3_moveOn_0 : decode cX3_moveOn 0 = .ok (.iconst 0, 1) := by decide +kernel
theorem dX3_moveOn_1 : decode cX3_moveOn 1 = .ok (.istore_n 3, 1) := by decide +kernel
theorem dX3_moveOn_2 : decode cX3_moveOn 2 = .ok (.iload_n 2, 1) := by decide +kernel
theorem dX3_moveOn_3 : decode cX3_moveOn 3 = .ok (.istore 4, 2) := by decide +kernel
theorem dX3_moveOn_5 : decode cX3_moveOn 5 = .ok (.aload_n 1, 1) := by decide +kernel
theorem dX3_moveOn_6 : decode cX3_moveOn 6 = .ok (.getfield 144, 3) := by decide +kernel
theorem dX3_moveOn_9 : decode cX3_moveOn 9 = .ok (.iload 4, 2) := by decide +kernel
theorem dX3_moveOn_11 : decode cX3_moveOn 11 = .ok (.iaload, 1) := by decide +kernel
theorem dX3_moveOn_12 : decode cX3_moveOn 12 = .ok (.istore 5, 2) := by decide +kernel
theorem dX3_moveOn_14 : decode cX3_moveOn 14 = .ok (.iload 5, 2) := by decide +kernel
theorem dX3_moveOn_16 : decode cX3_moveOn 16 = .ok (.iconst (-1), 1) := by decide +kernel
theorem dX3_moveOn_17 : decode cX3_moveOn 17 = .ok (.if_icmp .eq 45, 3) := by decide +kernel
theorem dX3_moveOn_20 : decode cX3_moveOn 20 = .ok (.iload_n 3, 1) := by decide +kernel
theorem dX3_moveOn_21 : decode cX3_moveOn 21 = .ok (.iconst 3, 1) := by decide +kernel
theorem dX3_moveOn_22 : decode cX3_moveOn 22 = .ok (.if_icmp .ge 40, 3) := by decide +kernel
theorem dX3_moveOn_25 : decode cX3_moveOn 25 = .ok (.aload_n 0, 1) := by decide +kernel
theorem dX3_moveOn_26 : decode cX3_moveOn 26 = .ok (.aload_n 1, 1) := by decide +kernel
theorem dX3_moveOn_27 : decode cX3_moveOn 27 = .ok (.getfield 117, 3) := by decide +kernel
theorem dX3_moveOn_30 : decode cX3_moveOn 30 = .ok (.iload 5, 2) := by decide +kernel
theorem dX3_moveOn_32 : decode cX3_moveOn 32 = .ok (.iaload, 1) := by decide +kernel
theorem dX3_moveOn_33 : decode cX3_moveOn 33 = .ok (.aload_n 1, 1) := by decide +kernel
theorem dX3_moveOn_34 : decode cX3_moveOn 34 = .ok (.getfield 117, 3) := by decide +kernel
theorem dX3_moveOn_37 : decode cX3_moveOn 37 = .ok (.iload 4, 2) := by decide +kernel
theorem dX3_moveOn_39 : decode cX3_moveOn 39 = .ok (.iaload, 1) := by decide +kernel
theorem dX3_moveOn_40 : decode cX3_moveOn 40 = .ok (.invokevirtual 147, 3) := by decide +kernel
theorem dX3_moveOn_43 : decode cX3_moveOn 43 = .ok (.iinc 3 1, 3) := by decide +kernel
theorem dX3_moveOn_46 : decode cX3_moveOn 46 = .ok (.iload 5, 2) := by decide +kernel
theorem dX3_moveOn_48 : decode cX3_moveOn 48 = .ok (.istore 4, 2) := by decide +kernel
theorem dX3_moveOn_50 : decode cX3_moveOn 50 = .ok (.aload_n 1, 1) := by decide +kernel
theorem dX3_moveOn_51 : decode cX3_moveOn 51 = .ok (.getfield 144, 3) := by decide +kernel
theorem dX3_moveOn_54 : decode cX3_moveOn 54 = .ok (.iload 4, 2) := by decide +kernel
theorem dX3_moveOn_56 : decode cX3_moveOn 56 = .ok (.iaload, 1) := by decide +kernel
theorem dX3_moveOn_57 : decode cX3_moveOn 57 = .ok (.istore 5, 2) := by decide +kernel
theorem dX3_moveOn_59 : decode cX3_moveOn 59 = .ok (.goto (-45), 3) := by decide +kernel
theorem dX3_moveOn_62 : decode cX3_moveOn 62 = .ok (.aload_n 0, 1) := by decide +kernel
theorem dX3_moveOn_63 : decode cX3_moveOn 63 = .ok (.getfield 15, 3) := by decide +kernel
theorem dX3_moveOn_66 : decode cX3_moveOn 66 = .ok (.iconst 4, 1) := by decide +kernel
theorem dX3_moveOn_67 : decode cX3_moveOn 67 = .ok (.dup2, 1) := by decide +kernel
theorem dX3_moveOn_68 : decode cX3_moveOn 68 = .ok (.iaload, 1) := by decide +kernel
theorem dX3_moveOn_69 : decode cX3_moveOn 69 = .ok (.iload_n 3, 1) := by decide +kernel
theorem dX3_moveOn_70 : decode cX3_moveOn 70 = .ok (.iadd, 1) := by decide +kernel
theorem dX3_moveOn_71 : decode cX3_moveOn 71 = .ok (.iastore, 1) := by decide +kernel
theorem dX3_moveOn_72 : decode cX3_moveOn 72 = .ok (.iload_n 3, 1) := by decide +kernel
theorem dX3_moveOn_73 : decode cX3_moveOn 73 = .ok (.ireturn, 1) := by decide +kernel
def X3_moveOn_b14 (k : Nat) (j62 : Int32 → gM → Option (Int32 × gM)) (v6 v7 v8 : Int32) (m9 : gM) (k14 : Int32 → Int32 → Int32 → gM → Option (Int32 × gM)) : Option (Int32 × gM) :=
  if v8 = (-1) then (j62 v6 m9) else (if 3 ≤ v6 then (j62 v6 m9) else (gAt m9 17 0 v8 (fun (x10 : Int32) => gAt m9 17 0 v7 (fun (x11 : Int32) => gCall (X3_moveLine k x10 x11 m9) (fun (r13 : Unit) (m12 : gM) => gLet (v6 + 1) (fun (x14 : Int32) => gAt m12 18 0 v8 (fun (x15 : Int32) => k14 x14 v8 x15 m12)))))))
def X3_moveOn (k : Nat) (a2 : Int32) (m : gM) : Option (Int32 × gM) :=
  gAt m 18 0 a2 (fun (x1 : Int32) => gJ1 (fun (v2 : Int32) (m3 : gM) => gAt m3 26 k 4 (fun (x4 : Int32) => gPut m3 26 k 4 (x4 + v2) (fun (m5 : gM) => some (v2, m5)))) (fun (j62 : Int32 → gM → Option (Int32 × gM)) => gL3 FU (X3_moveOn_b14 k j62) 0 a2 x1 m))
set_option maxRecDepth 100000 in
set_option maxHeartbeats 4000000 in
theorem c_X3_moveOn (k : Nat) (a2 : Int32) (m : gM) : gCon eI yX3_moveOn cX3_moveOn 6 (some .int) 1 [.inr (3, k), .inr (1, 0), .inl a2] m (X3_moveOn k a2 m) := by
  refine gCon.of (lv := [some (.inr (3, k)), some (.inr (1, 0)), some (.inl a2), none, none, none]) (by decide +kernel) (Nat.le_of_ble_eq_true rfl) rfl (fun X C => ?_)
  unfold X3_moveOn
  refine r_iconst (v := 0) C dX3_moveOn_0 (by decide) ?_
  refine r_istore_n (lv' := [some (.inr (3, k)), some (.inr (1, 0)), some (.inl a2), some (.inl 0), none, none]) C dX3_moveOn_1 rfl (by decide) rfl ?_
  refine r_iload_n C dX3_moveOn_2 rfl rfl ?_
  refine r_istore (lv' := [some (.inr (3, k)), some (.inr (1, 0)), some (.inl a2), some (.inl 0), some (.inl a2), none]) C dX3_moveOn_3 (by decide) rfl ?_
  refine r_aload_n C dX3_moveOn_5 rfl rfl ?_
  refine r_get (v := .inr (18, 0)) C fl_X3_144 dX3_moveOn_6 rfl ?_
  refine r_iload C dX3_moveOn_9 rfl ?_
  refine r_iald C rfl dX3_moveOn_11 (fun x1 => ?_)
  refine r_istore (lv' := [some (.inr (3, k)), some (.inr (1, 0)), some (.inl a2), some (.inl 0), some (.inl a2), some (.inl x1)]) C dX3_moveOn_12 (by decide) rfl ?_
  refine r_j1 62 (fun v2 => [some (.inr (3, k)), none, none, some (.inl v2), none, none]) (fun v2 => []) (fun v2 m3 => ?_) (fun j62 hj62 => ?_)
  · refine r_aload_n C dX3_moveOn_62 rfl rfl ?_
    refine r_get (v := .inr (26, k)) C fl_X3_15 dX3_moveOn_63 rfl ?_
    refine r_iconst (v := 4) C dX3_moveOn_66 (by decide) ?_
    refine r_dup2 C dX3_moveOn_67 ?_
    refine r_iald C rfl dX3_moveOn_68 (fun x4 => ?_)
    refine r_iload_n C dX3_moveOn_69 rfl rfl ?_
    refine r_iadd C dX3_moveOn_70 ?_
    refine r_iast C rfl dX3_moveOn_71 (fun m5 => ?_)
    refine r_iload_n C dX3_moveOn_72 rfl rfl ?_
    exact r_ireturn C dX3_moveOn_73
  refine r_weak (lv' := [some (.inr (3, k)), some (.inr (1, 0)), none, some (.inl 0), some (.inl a2), some (.inl x1)]) ⟨rfl, rfl, rfl, rfl, rfl, trivial⟩ ?_
  refine r_l3 (pj := 14) (fun v6 v7 v8 => [some (.inr (3, k)), some (.inr (1, 0)), none, some (.inl v6), some (.inl v7), some (.inl v8)]) (fun v6 v7 v8 m9 k14 hk14 => ?_) _ _ _ _ _
  unfold X3_moveOn_b14
  refine r_iload C dX3_moveOn_14 rfl ?_
  refine r_iconst (v := (-1)) C dX3_moveOn_16 (by decide) ?_
  refine r_icmp_eq (tgt := 62) C dX3_moveOn_17 (by decide) ?_ ?_
  · exact r_weak (lv' := [some (.inr (3, k)), none, none, some (.inl v6), none, none]) ⟨rfl, rfl, trivial⟩ (hj62 _ _)
  refine r_iload_n C dX3_moveOn_20 rfl rfl ?_
  refine r_iconst (v := 3) C dX3_moveOn_21 (by decide) ?_
  refine r_icmp_ge (tgt := 62) C dX3_moveOn_22 (by decide) ?_ ?_
  · exact r_weak (lv' := [some (.inr (3, k)), none, none, some (.inl v6), none, none]) ⟨rfl, rfl, trivial⟩ (hj62 _ _)
  refine r_aload_n C dX3_moveOn_25 rfl rfl ?_
  refine r_aload_n C dX3_moveOn_26 rfl rfl ?_
  refine r_get (v := .inr (17, 0)) C fl_X3_117 dX3_moveOn_27 rfl ?_
  refine r_iload C dX3_moveOn_30 rfl ?_
  refine r_iald C rfl dX3_moveOn_32 (fun x10 => ?_)
  refine r_aload_n C dX3_moveOn_33 rfl rfl ?_
  refine r_get (v := .inr (17, 0)) C fl_X3_117 dX3_moveOn_34 rfl ?_
  refine r_iload C dX3_moveOn_37 rfl ?_
  refine r_iald C rfl dX3_moveOn_39 (fun x11 => ?_)
  refine r_invU (t := 3) (kb := k) (As := [.inl x10, .inl x11]) (st := []) C il_X3_147 co_X3_moveLine (by decide) rfl (c_X3_moveLine k x10 x11 m9) (by decide) (by decide) rfl rfl (Nat.le_of_ble_eq_true rfl) dX3_moveOn_40 (fun r13 m12 => ?_)
  refine r_iinc (v := 1) C dX3_moveOn_43 (by decide) rfl (by decide) (fun x14 => ?_)
  show gw X eI _ [some (.inr (3, k)), some (.inr (1, 0)), none, some (.inl x14), some (.inl v7), some (.inl v8)] _ _ _
  refine r_iload C dX3_moveOn_46 rfl ?_
  refine r_istore (lv' := [some (.inr (3, k)), some (.inr (1, 0)), none, some (.inl x14), some (.inl v8), some (.inl v8)]) C dX3_moveOn_48 (by decide) rfl ?_
  refine r_aload_n C dX3_moveOn_50 rfl rfl ?_
  refine r_get (v := .inr (18, 0)) C fl_X3_144 dX3_moveOn_51 rfl ?_
  refine r_iload C dX3_moveOn_54 rfl ?_
  refine r_iald C rfl dX3_moveOn_56 (fun x15 => ?_)
  refine r_istore (lv' := [some (.inr (3, k)), some (.inr (1, 0)), none, some (.inl x14), some (.inl v8), some (.inl x15)]) C dX3_moveOn_57 (by decide) rfl ?_
  refine r_goto (tgt := 14) C dX3_moveOn_59 (by decide) ?_
  exact r_weak (lv' := [some (.inr (3, k)), some (.inr (1, 0)), none, some (.inl x14), some (.inl v8), some (.inl x15)]) ⟨rfl, rfl, rfl, rfl, rfl, trivial⟩ (hk14 _ _ _ _)
theorem dX3_settle_0 : decode cX3_settle 0 = .ok (.aload_n 0, 1) := by decide +kernel
theorem dX3_settle_1 : decode cX3_settle 1 = .ok (.getfield 24, 3) := by decide +kernel
theorem dX3_settle_4 : decode cX3_settle 4 = .ok (.iload_n 2, 1) := by decide +kernel
theorem dX3_settle_5 : decode cX3_settle 5 = .ok (.iload_n 1, 1) := by decide +kernel
theorem dX3_settle_6 : decode cX3_settle 6 = .ok (.iastore, 1) := by decide +kernel
theorem dX3_settle_7 : decode cX3_settle 7 = .ok (.aload_n 0, 1) := by decide +kernel
theorem dX3_settle_8 : decode cX3_settle 8 = .ok (.getfield 27, 3) := by decide +kernel
theorem dX3_settle_11 : decode cX3_settle 11 = .ok (.iload_n 2, 1) := by decide +kernel
theorem dX3_settle_12 : decode cX3_settle 12 = .ok (.aload_n 0, 1) := by decide +kernel
theorem dX3_settle_13 : decode cX3_settle 13 = .ok (.getfield 21, 3) := by decide +kernel
theorem dX3_settle_16 : decode cX3_settle 16 = .ok (.iload_n 1, 1) := by decide +kernel
theorem dX3_settle_17 : decode cX3_settle 17 = .ok (.iaload, 1) := by decide +kernel
theorem dX3_settle_18 : decode cX3_settle 18 = .ok (.iastore, 1) := by decide +kernel
theorem dX3_settle_19 : decode cX3_settle 19 = .ok (.aload_n 0, 1) := by decide +kernel
theorem dX3_settle_20 : decode cX3_settle 20 = .ok (.getfield 30, 3) := by decide +kernel
theorem dX3_settle_23 : decode cX3_settle 23 = .ok (.iload_n 2, 1) := by decide +kernel
theorem dX3_settle_24 : decode cX3_settle 24 = .ok (.iconst 0, 1) := by decide +kernel
theorem dX3_settle_25 : decode cX3_settle 25 = .ok (.iastore, 1) := by decide +kernel
theorem dX3_settle_26 : decode cX3_settle 26 = .ok (.aload_n 0, 1) := by decide +kernel
theorem dX3_settle_27 : decode cX3_settle 27 = .ok (.getfield 33, 3) := by decide +kernel
theorem dX3_settle_30 : decode cX3_settle 30 = .ok (.iload_n 2, 1) := by decide +kernel
theorem dX3_settle_31 : decode cX3_settle 31 = .ok (.iconst 2, 1) := by decide +kernel
theorem dX3_settle_32 : decode cX3_settle 32 = .ok (.iastore, 1) := by decide +kernel
theorem dX3_settle_33 : decode cX3_settle 33 = .ok (.return_, 1) := by decide +kernel
def X3_settle (k : Nat) (a1 : Int32) (a2 : Int32) (m : gM) : Option (Unit × gM) :=
  gPut m 29 k a2 a1 (fun (m1 : gM) => gAt m1 28 k a1 (fun (x2 : Int32) => gPut m1 30 k a2 x2 (fun (m3 : gM) => gPut m3 31 k a2 0 (fun (m4 : gM) => gPut m4 32 k a2 2 (fun (m5 : gM) => some ((), m5))))))
set_option maxRecDepth 100000 in
set_option maxHeartbeats 4000000 in
theorem c_X3_settle (k : Nat) (a1 : Int32) (a2 : Int32) (m : gM) : gCon eU yX3_settle cX3_settle 3 none 0 [.inr (3, k), .inl a1, .inl a2] m (X3_settle k a1 a2 m) := by
  refine gCon.of (lv := [some (.inr (3, k)), some (.inl a1), some (.inl a2)]) (by decide +kernel) (Nat.le_of_ble_eq_true rfl) rfl (fun X C => ?_)
  unfold X3_settle
  refine r_aload_n C dX3_settle_0 rfl rfl ?_
  refine r_get (v := .inr (29, k)) C fl_X3_24 dX3_settle_1 rfl ?_
  refine r_iload_n C dX3_settle_4 rfl rfl ?_
  refine r_iload_n C dX3_settle_5 rfl rfl ?_
  refine r_iast C rfl dX3_settle_6 (fun m1 => ?_)
  refine r_aload_n C dX3_settle_7 rfl rfl ?_
  refine r_get (v := .inr (30, k)) C fl_X3_27 dX3_settle_8 rfl ?_
  refine r_iload_n C dX3_settle_11 rfl rfl ?_
  refine r_aload_n C dX3_settle_12 rfl rfl ?_
  refine r_get (v := .inr (28, k)) C fl_X3_21 dX3_settle_13 rfl ?_
  refine r_iload_n C dX3_settle_16 rfl rfl ?_
  refine r_iald C rfl dX3_settle_17 (fun x2 => ?_)
  refine r_iast C rfl dX3_settle_18 (fun m3 => ?_)
  refine r_aload_n C dX3_settle_19 rfl rfl ?_
  refine r_get (v := .inr (31, k)) C fl_X3_30 dX3_settle_20 rfl ?_
  refine r_iload_n C dX3_settle_23 rfl rfl ?_
  refine r_iconst (v := 0) C dX3_settle_24 (by decide) ?_
  refine r_iast C rfl dX3_settle_25 (fun m4 => ?_)
  refine r_aload_n C dX3_settle_26 rfl rfl ?_
  refine r_get (v := .inr (32, k)) C fl_X3_33 dX3_settle_27 rfl ?_
  refine r_iload_n C dX3_settle_30 rfl rfl ?_
  refine r_iconst (v := 2) C dX3_settle_31 (by decide) ?_
  refine r_iast C rfl dX3_settle_32 (fun m5 => ?_)
  exact r_return C dX3_settle_33
theorem dX3_come_0 : decode cX3_come 0 = .ok (.aload_n 0, 1) := by decide +kernel
theorem dX3_come_1 : decode cX3_come 1 = .ok (.iload_n 1, 1) := by decide +kernel
theorem dX3_come_2 : decode cX3_come 2 = .ok (.invokevirtual 100, 3) := by decide +kernel
theorem dX3_come_5 : decode cX3_come 5 = .ok (.istore_n 3, 1) := by decide +kernel
theorem dX3_come_6 : decode cX3_come 6 = .ok (.iload_n 3, 1) := by decide +kernel
theorem dX3_come_7 : decode cX3_come 7 = .ok (.iconst (-1), 1) := by decide +kernel
theorem dX3_come_8 : decode cX3_come 8 = .ok (.if_icmp .eq 22, 3) := by decide +kernel
theorem dX3_come_11 : decode cX3_come 11 = .ok (.aload_n 0, 1) := by decide +kernel
theorem dX3_come_12 : decode cX3_come 12 = .ok (.getfield 15, 3) := by decide +kernel
theorem dX3_come_15 : decode cX3_come 15 = .ok (.iconst 0, 1) := by decide +kernel
theorem dX3_come_16 : decode cX3_come 16 = .ok (.dup2, 1) := by decide +kernel
theorem dX3_come_17 : decode cX3_come 17 = .ok (.iaload, 1) := by decide +kernel
theorem dX3_come_18 : decode cX3_come 18 = .ok (.iconst 1, 1) := by decide +kernel
theorem dX3_come_19 : decode cX3_come 19 = .ok (.iadd, 1) := by decide +kernel
theorem dX3_come_20 : decode cX3_come 20 = .ok (.iastore, 1) := by decide +kernel
theorem dX3_come_21 : decode cX3_come 21 = .ok (.aload_n 0, 1) := by decide +kernel
theorem dX3_come_22 : decode cX3_come 22 = .ok (.getfield 33, 3) := by decide +kernel
theorem dX3_come_25 : decode cX3_come 25 = .ok (.iload_n 3, 1) := by decide +kernel
theorem dX3_come_26 : decode cX3_come 26 = .ok (.iconst 0, 1) := by decide +kernel
theorem dX3_come_27 : decode cX3_come 27 = .ok (.iastore, 1) := by decide +kernel
theorem dX3_come_28 : decode cX3_come 28 = .ok (.iload_n 3, 1) := by decide +kernel
theorem dX3_come_29 : decode cX3_come 29 = .ok (.ireturn, 1) := by decide +kernel
theorem dX3_come_30 : decode cX3_come 30 = .ok (.aload_n 0, 1) := by decide +kernel
theorem dX3_come_31 : decode cX3_come 31 = .ok (.getfield 15, 3) := by decide +kernel
theorem dX3_come_34 : decode cX3_come 34 = .ok (.iconst 1, 1) := by decide +kernel
theorem dX3_come_35 : decode cX3_come 35 = .ok (.dup2, 1) := by decide +kernel
theorem dX3_come_36 : decode cX3_come 36 = .ok (.iaload, 1) := by decide +kernel
theorem dX3_come_37 : decode cX3_come 37 = .ok (.iconst 1, 1) := by decide +kernel
theorem dX3_come_38 : decode cX3_come 38 = .ok (.iadd, 1) := by decide +kernel
theorem dX3_come_39 : decode cX3_come 39 = .ok (.iastore, 1) := by decide +kernel
theorem dX3_come_40 : decode cX3_come 40 = .ok (.aload_n 2, 1) := by decide +kernel
theorem dX3_come_41 : decode cX3_come 41 = .ok (.aload_n 0, 1) := by decide +kernel
theorem dX3_come_42 : decode cX3_come 42 = .ok (.iload_n 1, 1) := by decide +kernel
theorem dX3_come_43 : decode cX3_come 43 = .ok (.aload_n 0, 1) := by decide +kernel
theorem dX3_come_44 : decode cX3_come 44 = .ok (.getfield 59, 3) := by decide +kernel
theorem dX3_come_47 : decode cX3_come 47 = .ok (.invokevirtual 103, 3) := by decide +kernel
theorem dX3_come_50 : decode cX3_come 50 = .ok (.aload_n 2, 1) := by decide +kernel
theorem dX3_come_51 : decode cX3_come 51 = .ok (.aload_n 0, 1) := by decide +kernel
theorem dX3_come_52 : decode cX3_come 52 = .ok (.invokevirtual 109, 3) := by decide +kernel
theorem dX3_come_55 : decode cX3_come 55 = .ok (.istore 4, 2) := by decide +kernel
theorem dX3_come_57 : decode cX3_come 57 = .ok (.iload 4, 2) := by decide +kernel
theorem dX3_come_59 : decode cX3_come 59 = .ok (.iconst (-1), 1) := by decide +kernel
theorem dX3_come_60 : decode cX3_come 60 = .ok (.if_icmp .ne 23, 3) := by decide +kernel
theorem dX3_come_63 : decode cX3_come 63 = .ok (.aload_n 0, 1) := by decide +kernel
theorem dX3_come_64 : decode cX3_come 64 = .ok (.getfield 15, 3) := by decide +kernel
theorem dX3_come_67 : decode cX3_come 67 = .ok (.iconst 5, 1) := by decide +kernel
theorem dX3_come_68 : decode cX3_come 68 = .ok (.dup2, 1) := by decide +kernel
theorem dX3_come_69 : decode cX3_come 69 = .ok (.iaload, 1) := by decide +kernel
theorem dX3_come_70 : decode cX3_come 70 = .ok (.iconst 1, 1) := by decide +kernel
theorem dX3_come_71 : decode cX3_come 71 = .ok (.iadd, 1) := by decide +kernel
theorem dX3_come_72 : decode cX3_come 72 = .ok (.iastore, 1) := by decide +kernel
theorem dX3_come_73 : decode cX3_come 73 = .ok (.aload_n 0, 1) := by decide +kernel
theorem dX3_come_74 : decode cX3_come 74 = .ok (.iload_n 1, 1) := by decide +kernel
theorem dX3_come_75 : decode cX3_come 75 = .ok (.iconst (-1), 1) := by decide +kernel
theorem dX3_come_76 : decode cX3_come 76 = .ok (.iconst 0, 1) := by decide +kernel
theorem dX3_come_77 : decode cX3_come 77 = .ok (.iconst 1, 1) := by decide +kernel
theorem dX3_come_78 : decode cX3_come 78 = .ok (.invokevirtual 113, 3) := by decide +kernel
theorem dX3_come_81 : decode cX3_come 81 = .ok (.iconst (-1), 1) := by decide +kernel
theorem dX3_come_82 : decode cX3_come 82 = .ok (.ireturn, 1) := by decide +kernel
theorem dX3_come_83 : decode cX3_come 83 = .ok (.aload_n 0, 1) := by decide +kernel
theorem dX3_come_84 : decode cX3_come 84 = .ok (.getfield 24, 3) := by decide +kernel
theorem dX3_come_87 : decode cX3_come 87 = .ok (.aload_n 2, 1) := by decide +kernel
theorem dX3_come_88 : decode cX3_come 88 = .ok (.getfield 117, 3) := by decide +kernel
theorem dX3_come_91 : decode cX3_come 91 = .ok (.iload 4, 2) := by decide +kernel
theorem dX3_come_93 : decode cX3_come 93 = .ok (.iaload, 1) := by decide +kernel
theorem dX3_come_94 : decode cX3_come 94 = .ok (.iaload, 1) := by decide +kernel
theorem dX3_come_95 : decode cX3_come 95 = .ok (.istore 5, 2) := by decide +kernel
theorem dX3_come_97 : decode cX3_come 97 = .ok (.iload 5, 2) := by decide +kernel
theorem dX3_come_99 : decode cX3_come 99 = .ok (.iconst (-1), 1) := by decide +kernel
theorem dX3_come_100 : decode cX3_come 100 = .ok (.if_icmp .eq 30, 3) := by decide +kernel
theorem dX3_come_103 : decode cX3_come 103 = .ok (.aload_n 0, 1) := by decide +kernel
theorem dX3_come_104 : decode cX3_come 104 = .ok (.aload_n 2, 1) := by decide +kernel
theorem dX3_come_105 : decode cX3_come 105 = .ok (.invokevirtual 120, 3) := by decide +kernel
theorem dX3_come_108 : decode cX3_come 108 = .ok (.aload_n 0, 1) := by decide +kernel
theorem dX3_come_109 : decode cX3_come 109 = .ok (.getfield 15, 3) := by decide +kernel
theorem dX3_come_112 : decode cX3_come 112 = .ok (.iconst 2, 1) := by decide +kernel
theorem dX3_come_113 : decode cX3_come 113 = .ok (.dup2, 1) := by decide +kernel
theorem dX3_come_114 : decode cX3_come 114 = .ok (.iaload, 1) := by decide +kernel
theorem dX3_come_115 : decode cX3_come 115 = .ok (.iconst 1, 1) := by decide +kernel
theorem dX3_come_116 : decode cX3_come 116 = .ok (.iadd, 1) := by decide +kernel
theorem dX3_come_117 : decode cX3_come 117 = .ok (.iastore, 1) := by decide +kernel
theorem dX3_come_118 : decode cX3_come 118 = .ok (.aload_n 0, 1) := by decide +kernel
theorem dX3_come_119 : decode cX3_come 119 = .ok (.aload_n 2, 1) := by decide +kernel
theorem dX3_come_120 : decode cX3_come 120 = .ok (.getfield 117, 3) := by decide +kernel
theorem dX3_come_123 : decode cX3_come 123 = .ok (.iload 4, 2) := by decide +kernel
theorem dX3_come_125 : decode cX3_come 125 = .ok (.iaload, 1) := by decide +kernel
theorem dX3_come_126 : decode cX3_come 126 = .ok (.invokevirtual 124, 3) := by decide +kernel
theorem dX3_come_129 : decode cX3_come 129 = .ok (.pop, 1) := by decide +kernel
theorem dX3_come_130 : decode cX3_come 130 = .ok (.aload_n 0, 1) := by decide +kernel
theorem dX3_come_131 : decode cX3_come 131 = .ok (.aload_n 2, 1) := by decide +kernel
theorem dX3_come_132 : decode cX3_come 132 = .ok (.iload 4, 2) := by decide +kernel
theorem dX3_come_134 : decode cX3_come 134 = .ok (.invokevirtual 127, 3) := by decide +kernel
theorem dX3_come_137 : decode cX3_come 137 = .ok (.istore 6, 2) := by decide +kernel
theorem dX3_come_139 : decode cX3_come 139 = .ok (.aload_n 2, 1) := by decide +kernel
theorem dX3_come_140 : decode cX3_come 140 = .ok (.getfield 117, 3) := by decide +kernel
theorem dX3_come_143 : decode cX3_come 143 = .ok (.aload_n 2, 1) := by decide +kernel
theorem dX3_come_144 : decode cX3_come 144 = .ok (.iload 4, 2) := by decide +kernel
theorem dX3_come_146 : decode cX3_come 146 = .ok (.invokevirtual 131, 3) := by decide +kernel
theorem dX3_come_149 : decode cX3_come 149 = .ok (.iaload, 1) := by decide +kernel
theorem dX3_come_150 : decode cX3_come 150 = .ok (.istore 7, 2) := by decide +kernel
theorem dX3_come_152 : decode cX3_come 152 = .ok (.aload_n 0, 1) := by decide +kernel
theorem dX3_come_153 : decode cX3_come 153 = .ok (.iload_n 1, 1) := by decide +kernel
theorem dX3_come_154 : decode cX3_come 154 = .ok (.iload 7, 2) := by decide +kernel
theorem dX3_come_156 : decode cX3_come 156 = .ok (.invokevirtual 134, 3) := by decide +kernel
theorem dX3_come_159 : decode cX3_come 159 = .ok (.aload_n 0, 1) := by decide +kernel
theorem dX3_come_160 : decode cX3_come 160 = .ok (.iload_n 1, 1) := by decide +kernel
theorem dX3_come_161 : decode cX3_come 161 = .ok (.iload 5, 2) := by decide +kernel
theorem dX3_come_163 : decode cX3_come 163 = .ok (.iload 6, 2) := by decide +kernel
theorem dX3_come_165 : decode cX3_come 165 = .ok (.iconst 0, 1) := by decide +kernel
theorem dX3_come_166 : decode cX3_come 166 = .ok (.invokevirtual 113, 3) := by decide +kernel
theorem dX3_come_169 : decode cX3_come 169 = .ok (.iload 7, 2) := by decide +kernel
theorem dX3_come_171 : decode cX3_come 171 = .ok (.ireturn, 1) := by decide +kernel
def X3_come (k : Nat) (a1 : Int32) (m : gM) : Option (Int32 × gM) :=
  gCall (X3_placeOf k a1 m) (fun (r2 : Int32) (m1 : gM) => if r2 = (-1) then (gAt m1 26 k 1 (fun (x3 : Int32) => gPut m1 26 k 1 (x3 + 1) (fun (m4 : gM) => gCall (X1_look k a1 (m4 3 k 2) m4) (fun (r6 : Unit) (m5 : gM) => gCall (X1_choose k m5) (fun (r8 : Int32) (m7 : gM) => if r8 = (-1) then (gAt m7 26 k 5 (fun (x28 : Int32) => gPut m7 26 k 5 (x28 + 1) (fun (m29 : gM) => gCall (X3_note k a1 (-1) 0 1 m29) (fun (r31 : Unit) (m30 : gM) => some ((-1), m30))))) else (gAt m7 17 0 r8 (fun (x9 : Int32) => gAt m7 29 k x9 (fun (x10 : Int32) => gJ0 (fun (m11 : gM) => gCall (X3_moveOn k r8 m11) (fun (r13 : Int32) (m12 : gM) => gCall (X1_topOf r8 m12) (fun (r15 : Int32) (m14 : gM) => gAt m14 17 0 r15 (fun (x16 : Int32) => gCall (X3_settle k a1 x16 m14) (fun (r18 : Unit) (m17 : gM) => gCall (X3_note k a1 x10 r13 0 m17) (fun (r20 : Unit) (m19 : gM) => some (x16, m19))))))) (fun (j130 : gM → Option (Int32 × gM)) => if x10 = (-1) then (j130 m7) else (gCall (X3_growOlder k m7) (fun (r22 : Unit) (m21 : gM) => gAt m21 26 k 2 (fun (x23 : Int32) => gPut m21 26 k 2 (x23 + 1) (fun (m24 : gM) => gAt m24 17 0 r8 (fun (x25 : Int32) => gCall (X3_bringBack k x25 m24) (fun (r27 : Int32) (m26 : gM) => j130 m26))))))))))))))) else (gAt m1 26 k 0 (fun (x32 : Int32) => gPut m1 26 k 0 (x32 + 1) (fun (m33 : gM) => gPut m33 32 k r2 0 (fun (m34 : gM) => some (r2, m34))))))
set_option maxRecDepth 100000 in
set_option maxHeartbeats 4000000 in
theorem c_X3_come (k : Nat) (a1 : Int32) (m : gM) : gCon eI yX3_come cX3_come 8 (some .int) 4 [.inr (3, k), .inl a1, .inr (1, 0)] m (X3_come k a1 m) := by
  refine gCon.of (lv := [some (.inr (3, k)), some (.inl a1), some (.inr (1, 0)), none, none, none, none, none]) (by decide +kernel) (Nat.le_of_ble_eq_true rfl) rfl (fun X C => ?_)
  unfold X3_come
  refine r_aload_n C dX3_come_0 rfl rfl ?_
  refine r_iload_n C dX3_come_1 rfl rfl ?_
  refine r_invI (t := 3) (kb := k) (As := [.inl a1]) (st := []) C il_X3_100 co_X3_placeOf (by decide) rfl (c_X3_placeOf k a1 m) (by decide) (by decide) rfl rfl (Nat.le_of_ble_eq_true rfl) dX3_come_2 (fun r2 m1 => ?_)
  refine r_istore_n (lv' := [some (.inr (3, k)), some (.inl a1), some (.inr (1, 0)), some (.inl r2), none, none, none, none]) C dX3_come_5 rfl (by decide) rfl ?_
  refine r_iload_n C dX3_come_6 rfl rfl ?_
  refine r_iconst (v := (-1)) C dX3_come_7 (by decide) ?_
  refine r_icmp_eq (tgt := 30) C dX3_come_8 (by decide) ?_ ?_
  · refine r_aload_n C dX3_come_30 rfl rfl ?_
    refine r_get (v := .inr (26, k)) C fl_X3_15 dX3_come_31 rfl ?_
    refine r_iconst (v := 1) C dX3_come_34 (by decide) ?_
    refine r_dup2 C dX3_come_35 ?_
    refine r_iald C rfl dX3_come_36 (fun x3 => ?_)
    refine r_iconst (v := 1) C dX3_come_37 (by decide) ?_
    refine r_iadd C dX3_come_38 ?_
    refine r_iast C rfl dX3_come_39 (fun m4 => ?_)
    refine r_aload_n C dX3_come_40 rfl rfl ?_
    refine r_aload_n C dX3_come_41 rfl rfl ?_
    refine r_iload_n C dX3_come_42 rfl rfl ?_
    refine r_aload_n C dX3_come_43 rfl rfl ?_
    refine r_get (v := .inl (m4 3 k 2)) C fl_X3_59 dX3_come_44 rfl ?_
    refine r_invU (t := 1) (kb := 0) (As := [.inr (3, k), .inl a1, .inl (m4 3 k 2)]) (st := []) C il_X3_103 co_X1_look (by decide) rfl (c_X1_look k a1 (m4 3 k 2) m4) (by decide) (by decide) rfl rfl (Nat.le_of_ble_eq_true rfl) dX3_come_47 (fun r6 m5 => ?_)
    refine r_aload_n C dX3_come_50 rfl rfl ?_
    refine r_aload_n C dX3_come_51 rfl rfl ?_
    refine r_invI (t := 1) (kb := 0) (As := [.inr (3, k)]) (st := []) C il_X3_109 co_X1_choose (by decide) rfl (c_X1_choose k m5) (by decide) (by decide) rfl rfl (Nat.le_of_ble_eq_true rfl) dX3_come_52 (fun r8 m7 => ?_)
    refine r_istore (lv' := [some (.inr (3, k)), some (.inl a1), some (.inr (1, 0)), some (.inl r2), some (.inl r8), none, none, none]) C dX3_come_55 (by decide) rfl ?_
    refine r_iload C dX3_come_57 rfl ?_
    refine r_iconst (v := (-1)) C dX3_come_59 (by decide) ?_
    refine r_icmp_ne (tgt := 83) C dX3_come_60 (by decide) ?_ ?_
    · refine r_aload_n C dX3_come_83 rfl rfl ?_
      refine r_get (v := .inr (29, k)) C fl_X3_24 dX3_come_84 rfl ?_
      refine r_aload_n C dX3_come_87 rfl rfl ?_
      refine r_get (v := .inr (17, 0)) C fl_X3_117 dX3_come_88 rfl ?_
      refine r_iload C dX3_come_91 rfl ?_
      refine r_iald C rfl dX3_come_93 (fun x9 => ?_)
      refine r_iald C rfl dX3_come_94 (fun x10 => ?_)
      refine r_istore (lv' := [some (.inr (3, k)), some (.inl a1), some (.inr (1, 0)), some (.inl r2), some (.inl r8), some (.inl x10), none, none]) C dX3_come_95 (by decide) rfl ?_
      refine r_iload C dX3_come_97 rfl ?_
      refine r_iconst (v := (-1)) C dX3_come_99 (by decide) ?_
      refine r_j0 130 [some (.inr (3, k)), some (.inl a1), some (.inr (1, 0)), none, some (.inl r8), some (.inl x10), none, none] [] (fun m11 => ?_) (fun j130 hj130 => ?_)
      · refine r_aload_n C dX3_come_130 rfl rfl ?_
        refine r_aload_n C dX3_come_131 rfl rfl ?_
        refine r_iload C dX3_come_132 rfl ?_
        refine r_invI (t := 3) (kb := k) (As := [.inr (1, 0), .inl r8]) (st := []) C il_X3_127 co_X3_moveOn (by decide) rfl (c_X3_moveOn k r8 m11) (by decide) (by decide) rfl rfl (Nat.le_of_ble_eq_true rfl) dX3_come_134 (fun r13 m12 => ?_)
        refine r_istore (lv' := [some (.inr (3, k)), some (.inl a1), some (.inr (1, 0)), none, some (.inl r8), some (.inl x10), some (.inl r13), none]) C dX3_come_137 (by decide) rfl ?_
        refine r_aload_n C dX3_come_139 rfl rfl ?_
        refine r_get (v := .inr (17, 0)) C fl_X3_117 dX3_come_140 rfl ?_
        refine r_aload_n C dX3_come_143 rfl rfl ?_
        refine r_iload C dX3_come_144 rfl ?_
        refine r_invI (t := 1) (kb := 0) (As := [.inl r8]) (st := [.inr (17, 0)]) C il_X3_131 co_X1_topOf (by decide) rfl (c_X1_topOf r8 m12) (by decide) (by decide) rfl rfl (Nat.le_of_ble_eq_true rfl) dX3_come_146 (fun r15 m14 => ?_)
        refine r_iald C rfl dX3_come_149 (fun x16 => ?_)
        refine r_istore (lv' := [some (.inr (3, k)), some (.inl a1), some (.inr (1, 0)), none, some (.inl r8), some (.inl x10), some (.inl r13), some (.inl x16)]) C dX3_come_150 (by decide) rfl ?_
        refine r_aload_n C dX3_come_152 rfl rfl ?_
        refine r_iload_n C dX3_come_153 rfl rfl ?_
        refine r_iload C dX3_come_154 rfl ?_
        refine r_invU (t := 3) (kb := k) (As := [.inl a1, .inl x16]) (st := []) C il_X3_134 co_X3_settle (by decide) rfl (c_X3_settle k a1 x16 m14) (by decide) (by decide) rfl rfl (Nat.le_of_ble_eq_true rfl) dX3_come_156 (fun r18 m17 => ?_)
        refine r_aload_n C dX3_come_159 rfl rfl ?_
        refine r_iload_n C dX3_come_160 rfl rfl ?_
        refine r_iload C dX3_come_161 rfl ?_
        refine r_iload C dX3_come_163 rfl ?_
        refine r_iconst (v := 0) C dX3_come_165 (by decide) ?_
        refine r_invU (t := 3) (kb := k) (As := [.inl a1, .inl x10, .inl r13, .inl 0]) (st := []) C il_X3_113 co_X3_note (by decide) rfl (c_X3_note k a1 x10 r13 0 m17) (by decide) (by decide) rfl rfl (Nat.le_of_ble_eq_true rfl) dX3_come_166 (fun r20 m19 => ?_)
        refine r_iload C dX3_come_169 rfl ?_
        exact r_ireturn C dX3_come_171
      refine r_icmp_eq (tgt := 130) C dX3_come_100 (by decide) ?_ ?_
      · exact r_weak (lv' := [some (.inr (3, k)), some (.inl a1), some (.inr (1, 0)), none, some (.inl r8), some (.inl x10), none, none]) ⟨rfl, rfl, rfl, rfl, rfl, trivial⟩ (hj130 _)
      refine r_aload_n C dX3_come_103 rfl rfl ?_
      refine r_aload_n C dX3_come_104 rfl rfl ?_
      refine r_invU (t := 3) (kb := k) (As := [.inr (1, 0)]) (st := []) C il_X3_120 co_X3_growOlder (by decide) rfl (c_X3_growOlder k m7) (by decide) (by decide) rfl rfl (Nat.le_of_ble_eq_true rfl) dX3_come_105 (fun r22 m21 => ?_)
      refine r_aload_n C dX3_come_108 rfl rfl ?_
      refine r_get (v := .inr (26, k)) C fl_X3_15 dX3_come_109 rfl ?_
      refine r_iconst (v := 2) C dX3_come_112 (by decide) ?_
      refine r_dup2 C dX3_come_113 ?_
      refine r_iald C rfl dX3_come_114 (fun x23 => ?_)
      refine r_iconst (v := 1) C dX3_come_115 (by decide) ?_
      refine r_iadd C dX3_come_116 ?_
      refine r_iast C rfl dX3_come_117 (fun m24 => ?_)
      refine r_aload_n C dX3_come_118 rfl rfl ?_
      refine r_aload_n C dX3_come_119 rfl rfl ?_
      refine r_get (v := .inr (17, 0)) C fl_X3_117 dX3_come_120 rfl ?_
      refine r_iload C dX3_come_123 rfl ?_
      refine r_iald C rfl dX3_come_125 (fun x25 => ?_)
      refine r_invI (t := 3) (kb := k) (As := [.inl x25]) (st := []) C il_X3_124 co_X3_bringBack (by decide) rfl (c_X3_bringBack k x25 m24) (by decide) (by decide) rfl rfl (Nat.le_of_ble_eq_true rfl) dX3_come_126 (fun r27 m26 => ?_)
      refine r_pop C dX3_come_129 ?_
      exact r_weak (lv' := [some (.inr (3, k)), some (.inl a1), some (.inr (1, 0)), none, some (.inl r8), some (.inl x10), none, none]) ⟨rfl, rfl, rfl, rfl, rfl, trivial⟩ (hj130 _)
    refine r_aload_n C dX3_come_63 rfl rfl ?_
    refine r_get (v := .inr (26, k)) C fl_X3_15 dX3_come_64 rfl ?_
    refine r_iconst (v := 5) C dX3_come_67 (by decide) ?_
    refine r_dup2 C dX3_come_68 ?_
    refine r_iald C rfl dX3_come_69 (fun x28 => ?_)
    refine r_iconst (v := 1) C dX3_come_70 (by decide) ?_
    refine r_iadd C dX3_come_71 ?_
    refine r_iast C rfl dX3_come_72 (fun m29 => ?_)
    refine r_aload_n C dX3_come_73 rfl rfl ?_
    refine r_iload_n C dX3_come_74 rfl rfl ?_
    refine r_iconst (v := (-1)) C dX3_come_75 (by decide) ?_
    refine r_iconst (v := 0) C dX3_come_76 (by decide) ?_
    refine r_iconst (v := 1) C dX3_come_77 (by decide) ?_
    refine r_invU (t := 3) (kb := k) (As := [.inl a1, .inl (-1), .inl 0, .inl 1]) (st := []) C il_X3_113 co_X3_note (by decide) rfl (c_X3_note k a1 (-1) 0 1 m29) (by decide) (by decide) rfl rfl (Nat.le_of_ble_eq_true rfl) dX3_come_78 (fun r31 m30 => ?_)
    refine r_iconst (v := (-1)) C dX3_come_81 (by decide) ?_
    exact r_ireturn C dX3_come_82
  refine r_aload_n C dX3_come_11 rfl rfl ?_
  refine r_get (v := .inr (26, k)) C fl_X3_15 dX3_come_12 rfl ?_
  refine r_iconst (v := 0) C dX3_come_15 (by decide) ?_
  refine r_dup2 C dX3_come_16 ?_
  refine r_iald C rfl dX3_come_17 (fun x32 => ?_)
  refine r_iconst (v := 1) C dX3_come_18 (by decide) ?_
  refine r_iadd C dX3_come_19 ?_
  refine r_iast C rfl dX3_come_20 (fun m33 => ?_)
  refine r_aload_n C dX3_come_21 rfl rfl ?_
  refine r_get (v := .inr (32, k)) C fl_X3_33 dX3_come_22 rfl ?_
  refine r_iload_n C dX3_come_25 rfl rfl ?_
  refine r_iconst (v := 0) C dX3_come_26 (by decide) ?_
  refine r_iast C rfl dX3_come_27 (fun m34 => ?_)
  refine r_iload_n C dX3_come_28 rfl rfl ?_
  exact r_ireturn C dX3_come_29
theorem dX3_put_0 : decode cX3_put 0 = .ok (.iload_n 2, 1) := by decide +kernel
theorem dX3_put_1 : decode cX3_put 1 = .ok (.iconst (-1), 1) := by decide +kernel
theorem dX3_put_2 : decode cX3_put 2 = .ok (.if_icmp .ne 13, 3) := by decide +kernel
theorem dX3_put_5 : decode cX3_put 5 = .ok (.aload_n 0, 1) := by decide +kernel
theorem dX3_put_6 : decode cX3_put 6 = .ok (.getfield 21, 3) := by decide +kernel
theorem dX3_put_9 : decode cX3_put 9 = .ok (.iload_n 1, 1) := by decide +kernel
theorem dX3_put_10 : decode cX3_put 10 = .ok (.iload_n 3, 1) := by decide +kernel
theorem dX3_put_11 : decode cX3_put 11 = .ok (.iastore, 1) := by decide +kernel
theorem dX3_put_12 : decode cX3_put 12 = .ok (.goto 17, 3) := by decide +kernel
theorem dX3_put_15 : decode cX3_put 15 = .ok (.aload_n 0, 1) := by decide +kernel
theorem dX3_put_16 : decode cX3_put 16 = .ok (.getfield 27, 3) := by decide +kernel
theorem dX3_put_19 : decode cX3_put 19 = .ok (.iload_n 2, 1) := by decide +kernel
theorem dX3_put_20 : decode cX3_put 20 = .ok (.iload_n 3, 1) := by decide +kernel
theorem dX3_put_21 : decode cX3_put 21 = .ok (.iastore, 1) := by decide +kernel
theorem dX3_put_22 : decode cX3_put 22 = .ok (.aload_n 0, 1) := by decide +kernel
theorem dX3_put_23 : decode cX3_put 23 = .ok (.getfield 30, 3) := by decide +kernel
theorem dX3_put_26 : decode cX3_put 26 = .ok (.iload_n 2, 1) := by decide +kernel
theorem dX3_put_27 : decode cX3_put 27 = .ok (.iconst 1, 1) := by decide +kernel
theorem dX3_put_28 : decode cX3_put 28 = .ok (.iastore, 1) := by decide +kernel
theorem dX3_put_29 : decode cX3_put 29 = .ok (.return_, 1) := by decide +kernel
def X3_put (k : Nat) (a1 : Int32) (a2 : Int32) (a3 : Int32) (m : gM) : Option (Unit × gM) :=
  if a2 = (-1) then (gPut m 28 k a1 a3 (fun (m3 : gM) => some ((), m3))) else (gPut m 30 k a2 a3 (fun (m1 : gM) => gPut m1 31 k a2 1 (fun (m2 : gM) => some ((), m2))))
set_option maxRecDepth 100000 in
set_option maxHeartbeats 4000000 in
theorem c_X3_put (k : Nat) (a1 : Int32) (a2 : Int32) (a3 : Int32) (m : gM) : gCon eU yX3_put cX3_put 4 none 0 [.inr (3, k), .inl a1, .inl a2, .inl a3] m (X3_put k a1 a2 a3 m) := by
  refine gCon.of (lv := [some (.inr (3, k)), some (.inl a1), some (.inl a2), some (.inl a3)]) (by decide +kernel) (Nat.le_of_ble_eq_true rfl) rfl (fun X C => ?_)
  unfold X3_put
  refine r_iload_n C dX3_put_0 rfl rfl ?_
  refine r_iconst (v := (-1)) C dX3_put_1 (by decide) ?_
  refine r_icmp_ne (tgt := 15) C dX3_put_2 (by decide) ?_ ?_
  · refine r_aload_n C dX3_put_15 rfl rfl ?_
    refine r_get (v := .inr (30, k)) C fl_X3_27 dX3_put_16 rfl ?_
    refine r_iload_n C dX3_put_19 rfl rfl ?_
    refine r_iload_n C dX3_put_20 rfl rfl ?_
    refine r_iast C rfl dX3_put_21 (fun m1 => ?_)
    refine r_aload_n C dX3_put_22 rfl rfl ?_
    refine r_get (v := .inr (31, k)) C fl_X3_30 dX3_put_23 rfl ?_
    refine r_iload_n C dX3_put_26 rfl rfl ?_
    refine r_iconst (v := 1) C dX3_put_27 (by decide) ?_
    refine r_iast C rfl dX3_put_28 (fun m2 => ?_)
    exact r_return C dX3_put_29
  refine r_aload_n C dX3_put_5 rfl rfl ?_
  refine r_get (v := .inr (28, k)) C fl_X3_21 dX3_put_6 rfl ?_
  refine r_iload_n C dX3_put_9 rfl rfl ?_
  refine r_iload_n C dX3_put_10 rfl rfl ?_
  refine r_iast C rfl dX3_put_11 (fun m3 => ?_)
  refine r_goto (tgt := 29) C dX3_put_12 (by decide) ?_
  exact r_return C dX3_put_29
theorem dX3_makeEmpty_0 : decode cX3_makeEmpty 0 = .ok (.aload_n 0, 1) := by decide +kernel
theorem dX3_makeEmpty_1 : decode cX3_makeEmpty 1 = .ok (.getfield 24, 3) := by decide +kernel
theorem dX3_makeEmpty_4 : decode cX3_makeEmpty 4 = .ok (.iload_n 1, 1) := by decide +kernel
theorem dX3_makeEmpty_5 : decode cX3_makeEmpty 5 = .ok (.iconst (-1), 1) := by decide +kernel
theorem dX3_makeEmpty_6 : decode cX3_makeEmpty 6 = .ok (.iastore, 1) := by decide +kernel
theorem dX3_makeEmpty_7 : decode cX3_makeEmpty 7 = .ok (.aload_n 0, 1) := by decide +kernel
theorem dX3_makeEmpty_8 : decode cX3_makeEmpty 8 = .ok (.getfield 27, 3) := by decide +kernel
theorem dX3_makeEmpty_11 : decode cX3_makeEmpty 11 = .ok (.iload_n 1, 1) := by decide +kernel
theorem dX3_makeEmpty_12 : decode cX3_makeEmpty 12 = .ok (.iconst 0, 1) := by decide +kernel
theorem dX3_makeEmpty_13 : decode cX3_makeEmpty 13 = .ok (.iastore, 1) := by decide +kernel
theorem dX3_makeEmpty_14 : decode cX3_makeEmpty 14 = .ok (.aload_n 0, 1) := by decide +kernel
theorem dX3_makeEmpty_15 : decode cX3_makeEmpty 15 = .ok (.getfield 30, 3) := by decide +kernel
theorem dX3_makeEmpty_18 : decode cX3_makeEmpty 18 = .ok (.iload_n 1, 1) := by decide +kernel
theorem dX3_makeEmpty_19 : decode cX3_makeEmpty 19 = .ok (.iconst 0, 1) := by decide +kernel
theorem dX3_makeEmpty_20 : decode cX3_makeEmpty 20 = .ok (.iastore, 1) := by decide +kernel
theorem dX3_makeEmpty_21 : decode cX3_makeEmpty 21 = .ok (.aload_n 0, 1) := by decide +kernel
theorem dX3_makeEmpty_22 : decode cX3_makeEmpty 22 = .ok (.getfield 33, 3) := by decide +kernel
theorem dX3_makeEmpty_25 : decode cX3_makeEmpty 25 = .ok (.iload_n 1, 1) := by decide +kernel
theorem dX3_makeEmpty_26 : decode cX3_makeEmpty 26 = .ok (.iconst 0, 1) := by decide +kernel
theorem dX3_makeEmpty_27 : decode cX3_makeEmpty 27 = .ok (.iastore, 1) := by decide +kernel
theorem dX3_makeEmpty_28 : decode cX3_makeEmpty 28 = .ok (.aload_n 0, 1) := by decide +kernel
theorem dX3_makeEmpty_29 : decode cX3_makeEmpty 29 = .ok (.getfield 36, 3) := by decide +kernel
theorem dX3_makeEmpty_32 : decode cX3_makeEmpty 32 = .ok (.iload_n 1, 1) := by decide +kernel
theorem dX3_makeEmpty_33 : decode cX3_makeEmpty 33 = .ok (.iconst 0, 1) := by decide +kernel
theorem dX3_makeEmpty_34 : decode cX3_makeEmpty 34 = .ok (.iastore, 1) := by decide +kernel
theorem dX3_makeEmpty_35 : decode cX3_makeEmpty 35 = .ok (.return_, 1) := by decide +kernel
def X3_makeEmpty (k : Nat) (a1 : Int32) (m : gM) : Option (Unit × gM) :=
  gPut m 29 k a1 (-1) (fun (m1 : gM) => gPut m1 30 k a1 0 (fun (m2 : gM) => gPut m2 31 k a1 0 (fun (m3 : gM) => gPut m3 32 k a1 0 (fun (m4 : gM) => gPut m4 33 k a1 0 (fun (m5 : gM) => some ((), m5))))))
set_option maxRecDepth 100000 in
set_option maxHeartbeats 4000000 in
theorem c_X3_makeEmpty (k : Nat) (a1 : Int32) (m : gM) : gCon eU yX3_makeEmpty cX3_makeEmpty 2 none 0 [.inr (3, k), .inl a1] m (X3_makeEmpty k a1 m) := by
  refine gCon.of (lv := [some (.inr (3, k)), some (.inl a1)]) (by decide +kernel) (Nat.le_of_ble_eq_true rfl) rfl (fun X C => ?_)
  unfold X3_makeEmpty
  refine r_aload_n C dX3_makeEmpty_0 rfl rfl ?_
  refine r_get (v := .inr (29, k)) C fl_X3_24 dX3_makeEmpty_1 rfl ?_
  refine r_iload_n C dX3_makeEmpty_4 rfl rfl ?_
  refine r_iconst (v := (-1)) C dX3_makeEmpty_5 (by decide) ?_
  refine r_iast C rfl dX3_makeEmpty_6 (fun m1 => ?_)
  refine r_aload_n C dX3_makeEmpty_7 rfl rfl ?_
  refine r_get (v := .inr (30, k)) C fl_X3_27 dX3_makeEmpty_8 rfl ?_
  refine r_iload_n C dX3_makeEmpty_11 rfl rfl ?_
  refine r_iconst (v := 0) C dX3_makeEmpty_12 (by decide) ?_
  refine r_iast C rfl dX3_makeEmpty_13 (fun m2 => ?_)
  refine r_aload_n C dX3_makeEmpty_14 rfl rfl ?_
  refine r_get (v := .inr (31, k)) C fl_X3_30 dX3_makeEmpty_15 rfl ?_
  refine r_iload_n C dX3_makeEmpty_18 rfl rfl ?_
  refine r_iconst (v := 0) C dX3_makeEmpty_19 (by decide) ?_
  refine r_iast C rfl dX3_makeEmpty_20 (fun m3 => ?_)
  refine r_aload_n C dX3_makeEmpty_21 rfl rfl ?_
  refine r_get (v := .inr (32, k)) C fl_X3_33 dX3_makeEmpty_22 rfl ?_
  refine r_iload_n C dX3_makeEmpty_25 rfl rfl ?_
  refine r_iconst (v := 0) C dX3_makeEmpty_26 (by decide) ?_
  refine r_iast C rfl dX3_makeEmpty_27 (fun m4 => ?_)
  refine r_aload_n C dX3_makeEmpty_28 rfl rfl ?_
  refine r_get (v := .inr (33, k)) C fl_X3_36 dX3_makeEmpty_29 rfl ?_
  refine r_iload_n C dX3_makeEmpty_32 rfl rfl ?_
  refine r_iconst (v := 0) C dX3_makeEmpty_33 (by decide) ?_
  refine r_iast C rfl dX3_makeEmpty_34 (fun m5 => ?_)
  exact r_return C dX3_makeEmpty_35
theorem dX3_emptyAll_0 : decode cX3_emptyAll 0 = .ok (.iconst 0, 1) := by decide +kernel
theorem dX3_emptyAll_1 : decode cX3_emptyAll 1 = .ok (.istore_n 1, 1) := by decide +kernel
theorem dX3_emptyAll_2 : decode cX3_emptyAll 2 = .ok (.iconst 0, 1) := by decide +kernel
theorem dX3_emptyAll_3 : decode cX3_emptyAll 3 = .ok (.istore_n 2, 1) := by decide +kernel
theorem dX3_emptyAll_4 : decode cX3_emptyAll 4 = .ok (.iload_n 2, 1) := by decide +kernel
theorem dX3_emptyAll_5 : decode cX3_emptyAll 5 = .ok (.bipush 64, 2) := by decide +kernel
theorem dX3_emptyAll_7 : decode cX3_emptyAll 7 = .ok (.if_icmp .ge 22, 3) := by decide +kernel
theorem dX3_emptyAll_10 : decode cX3_emptyAll 10 = .ok (.iload_n 1, 1) := by decide +kernel
theorem dX3_emptyAll_11 : decode cX3_emptyAll 11 = .ok (.aload_n 0, 1) := by decide +kernel
theorem dX3_emptyAll_12 : decode cX3_emptyAll 12 = .ok (.iload_n 2, 1) := by decide +kernel
theorem dX3_emptyAll_13 : decode cX3_emptyAll 13 = .ok (.invokevirtual 124, 3) := by decide +kernel
theorem dX3_emptyAll_16 : decode cX3_emptyAll 16 = .ok (.iadd, 1) := by decide +kernel
theorem dX3_emptyAll_17 : decode cX3_emptyAll 17 = .ok (.istore_n 1, 1) := by decide +kernel
theorem dX3_emptyAll_18 : decode cX3_emptyAll 18 = .ok (.aload_n 0, 1) := by decide +kernel
theorem dX3_emptyAll_19 : decode cX3_emptyAll 19 = .ok (.iload_n 2, 1) := by decide +kernel
theorem dX3_emptyAll_20 : decode cX3_emptyAll 20 = .ok (.invokevirtual 150, 3) := by decide +kernel
theorem dX3_emptyAll_23 : decode cX3_emptyAll 23 = .ok (.iinc 2 1, 3) := by decide +kernel
theorem dX3_emptyAll_26 : decode cX3_emptyAll 26 = .ok (.goto (-22), 3) := by decide +kernel
theorem dX3_emptyAll_29 : decode cX3_emptyAll 29 = .ok (.iload_n 1, 1) := by decide +kernel
theorem dX3_emptyAll_30 : decode cX3_emptyAll 30 = .ok (.ireturn, 1) := by decide +kernel
def X3_emptyAll_b4 (k : Nat) (v1 v2 : Int32) (m3 : gM) (k4 : Int32 → Int32 → gM → Option (Int32 × gM)) : Option (Int32 × gM) :=
  if 64 ≤ v2 then (some (v1, m3)) else (gCall (X3_bringBack k v2 m3) (fun (r5 : Int32) (m4 : gM) => gLet (v1 + r5) (fun (x6 : Int32) => gCall (X3_makeEmpty k v2 m4) (fun (r8 : Unit) (m7 : gM) => gLet (v2 + 1) (fun (x9 : Int32) => k4 x6 x9 m7)))))
def X3_emptyAll (k : Nat) (m : gM) : Option (Int32 × gM) :=
  gL2 FU (X3_emptyAll_b4 k) 0 0 m
set_option maxRecDepth 100000 in
set_option maxHeartbeats 4000000 in
theorem c_X3_emptyAll (k : Nat) (m : gM) : gCon eI yX3_emptyAll cX3_emptyAll 3 (some .int) 1 [.inr (3, k)] m (X3_emptyAll k m) := by
  refine gCon.of (lv := [some (.inr (3, k)), none, none]) (by decide +kernel) (Nat.le_of_ble_eq_true rfl) rfl (fun X C => ?_)
  unfold X3_emptyAll
  refine r_iconst (v := 0) C dX3_emptyAll_0 (by decide) ?_
  refine r_istore_n (lv' := [some (.inr (3, k)), some (.inl 0), none]) C dX3_emptyAll_1 rfl (by decide) rfl ?_
  refine r_iconst (v := 0) C dX3_emptyAll_2 (by decide) ?_
  refine r_istore_n (lv' := [some (.inr (3, k)), some (.inl 0), some (.inl 0)]) C dX3_emptyAll_3 rfl (by decide) rfl ?_
  refine r_weak (lv' := [some (.inr (3, k)), some (.inl 0), some (.inl 0)]) ⟨rfl, rfl, rfl, trivial⟩ ?_
  refine r_l2 (pj := 4) (fun v1 v2 => [some (.inr (3, k)), some (.inl v1), some (.inl v2)]) (fun v1 v2 m3 k4 hk4 => ?_) _ _ _ _
  unfold X3_emptyAll_b4
  refine r_iload_n C dX3_emptyAll_4 rfl rfl ?_
  refine r_bipush (v := 64) C dX3_emptyAll_5 (by decide) ?_
  refine r_icmp_ge (tgt := 29) C dX3_emptyAll_7 (by decide) ?_ ?_
  · refine r_iload_n C dX3_emptyAll_29 rfl rfl ?_
    exact r_ireturn C dX3_emptyAll_30
  refine r_iload_n C dX3_emptyAll_10 rfl rfl ?_
  refine r_aload_n C dX3_emptyAll_11 rfl rfl ?_
  refine r_iload_n C dX3_emptyAll_12 rfl rfl ?_
  refine r_invI (t := 3) (kb := k) (As := [.inl v2]) (st := [.inl v1]) C il_X3_124 co_X3_bringBack (by decide) rfl (c_X3_bringBack k v2 m3) (by decide) (by decide) rfl rfl (Nat.le_of_ble_eq_true rfl) dX3_emptyAll_13 (fun r5 m4 => ?_)
  refine r_iadd C dX3_emptyAll_16 ?_
  refine r_let (fun x6 => ?_)
  refine r_istore_n (lv' := [some (.inr (3, k)), some (.inl x6), some (.inl v2)]) C dX3_emptyAll_17 rfl (by decide) rfl ?_
  refine r_aload_n C dX3_emptyAll_18 rfl rfl ?_
  refine r_iload_n C dX3_emptyAll_19 rfl rfl ?_
  refine r_invU (t := 3) (kb := k) (As := [.inl v2]) (st := []) C il_X3_150 co_X3_makeEmpty (by decide) rfl (c_X3_makeEmpty k v2 m4) (by decide) (by decide) rfl rfl (Nat.le_of_ble_eq_true rfl) dX3_emptyAll_20 (fun r8 m7 => ?_)
  refine r_iinc (v := 1) C dX3_emptyAll_23 (by decide) rfl (by decide) (fun x9 => ?_)
  show gw X eI _ [some (.inr (3, k)), some (.inl x6), some (.inl x9)] _ _ _
  refine r_goto (tgt := 4) C dX3_emptyAll_26 (by decide) ?_
  exact r_weak (lv' := [some (.inr (3, k)), some (.inl x6), some (.inl x9)]) ⟨rfl, rfl, rfl, trivial⟩ (hk4 _ _ _)
theorem dX3_coolAll_0 : decode cX3_coolAll 0 = .ok (.iconst 0, 1) := by decide +kernel
theorem dX3_coolAll_1 : decode cX3_coolAll 1 = .ok (.istore_n 1, 1) := by decide +kernel
theorem dX3_coolAll_2 : decode cX3_coolAll 2 = .ok (.iconst 0, 1) := by decide +kernel
theorem dX3_coolAll_3 : decode cX3_coolAll 3 = .ok (.istore_n 2, 1) := by decide +kernel
theorem dX3_coolAll_4 : decode cX3_coolAll 4 = .ok (.iload_n 2, 1) := by decide +kernel
theorem dX3_coolAll_5 : decode cX3_coolAll 5 = .ok (.bipush 64, 2) := by decide +kernel
theorem dX3_coolAll_7 : decode cX3_coolAll 7 = .ok (.if_icmp .ge 42, 3) := by decide +kernel
theorem dX3_coolAll_10 : decode cX3_coolAll 10 = .ok (.aload_n 0, 1) := by decide +kernel
theorem dX3_coolAll_11 : decode cX3_coolAll 11 = .ok (.getfield 24, 3) := by decide +kernel
theorem dX3_coolAll_14 : decode cX3_coolAll 14 = .ok (.iload_n 2, 1) := by decide +kernel
theorem dX3_coolAll_15 : decode cX3_coolAll 15 = .ok (.iaload, 1) := by decide +kernel
theorem dX3_coolAll_16 : decode cX3_coolAll 16 = .ok (.iconst (-1), 1) := by decide +kernel
theorem dX3_coolAll_17 : decode cX3_coolAll 17 = .ok (.if_icmp .eq 26, 3) := by decide +kernel
theorem dX3_coolAll_20 : decode cX3_coolAll 20 = .ok (.aload_n 0, 1) := by decide +kernel
theorem dX3_coolAll_21 : decode cX3_coolAll 21 = .ok (.getfield 33, 3) := by decide +kernel
theorem dX3_coolAll_24 : decode cX3_coolAll 24 = .ok (.iload_n 2, 1) := by decide +kernel
theorem dX3_coolAll_25 : decode cX3_coolAll 25 = .ok (.iaload, 1) := by decide +kernel
theorem dX3_coolAll_26 : decode cX3_coolAll 26 = .ok (.iconst 3, 1) := by decide +kernel
theorem dX3_coolAll_27 : decode cX3_coolAll 27 = .ok (.if_icmp .ge 16, 3) := by decide +kernel
theorem dX3_coolAll_30 : decode cX3_coolAll 30 = .ok (.aload_n 0, 1) := by decide +kernel
theorem dX3_coolAll_31 : decode cX3_coolAll 31 = .ok (.getfield 33, 3) := by decide +kernel
theorem dX3_coolAll_34 : decode cX3_coolAll 34 = .ok (.iload_n 2, 1) := by decide +kernel
theorem dX3_coolAll_35 : decode cX3_coolAll 35 = .ok (.dup2, 1) := by decide +kernel
theorem dX3_coolAll_36 : decode cX3_coolAll 36 = .ok (.iaload, 1) := by decide +kernel
theorem dX3_coolAll_37 : decode cX3_coolAll 37 = .ok (.iconst 1, 1) := by decide +kernel
theorem dX3_coolAll_38 : decode cX3_coolAll 38 = .ok (.iadd, 1) := by decide +kernel
theorem dX3_coolAll_39 : decode cX3_coolAll 39 = .ok (.iastore, 1) := by decide +kernel
theorem dX3_coolAll_40 : decode cX3_coolAll 40 = .ok (.iinc 1 1, 3) := by decide +kernel
theorem dX3_coolAll_43 : decode cX3_coolAll 43 = .ok (.iinc 2 1, 3) := by decide +kernel
theorem dX3_coolAll_46 : decode cX3_coolAll 46 = .ok (.goto (-42), 3) := by decide +kernel
theorem dX3_coolAll_49 : decode cX3_coolAll 49 = .ok (.iload_n 1, 1) := by decide +kernel
theorem dX3_coolAll_50 : decode cX3_coolAll 50 = .ok (.ireturn, 1) := by decide +kernel
def X3_coolAll_b4 (k : Nat) (v1 v2 : Int32) (m3 : gM) (k4 : Int32 → Int32 → gM → Option (Int32 × gM)) : Option (Int32 × gM) :=
  if 64 ≤ v2 then (some (v1, m3)) else (gAt m3 29 k v2 (fun (x4 : Int32) => if x4 = (-1) then (gLet (v2 + 1) (fun (x5 : Int32) => k4 v1 x5 m3)) else (gAt m3 32 k v2 (fun (x6 : Int32) => if 3 ≤ x6 then (gLet (v2 + 1) (fun (x7 : Int32) => k4 v1 x7 m3)) else (gAt m3 32 k v2 (fun (x8 : Int32) => gPut m3 32 k v2 (x8 + 1) (fun (m9 : gM) => gLet (v1 + 1) (fun (x10 : Int32) => gLet (v2 + 1) (fun (x11 : Int32) => k4 x10 x11 m9)))))))))
def X3_coolAll (k : Nat) (m : gM) : Option (Int32 × gM) :=
  gL2 FU (X3_coolAll_b4 k) 0 0 m
set_option maxRecDepth 100000 in
set_option maxHeartbeats 4000000 in
theorem c_X3_coolAll (k : Nat) (m : gM) : gCon eI yX3_coolAll cX3_coolAll 3 (some .int) 0 [.inr (3, k)] m (X3_coolAll k m) := by
  refine gCon.of (lv := [some (.inr (3, k)), none, none]) (by decide +kernel) (Nat.le_of_ble_eq_true rfl) rfl (fun X C => ?_)
  unfold X3_coolAll
  refine r_iconst (v := 0) C dX3_coolAll_0 (by decide) ?_
  refine r_istore_n (lv' := [some (.inr (3, k)), some (.inl 0), none]) C dX3_coolAll_1 rfl (by decide) rfl ?_
  refine r_iconst (v := 0) C dX3_coolAll_2 (by decide) ?_
  refine r_istore_n (lv' := [some (.inr (3, k)), some (.inl 0), some (.inl 0)]) C dX3_coolAll_3 rfl (by decide) rfl ?_
  refine r_weak (lv' := [some (.inr (3, k)), some (.inl 0), some (.inl 0)]) ⟨rfl, rfl, rfl, trivial⟩ ?_
  refine r_l2 (pj := 4) (fun v1 v2 => [some (.inr (3, k)), some (.inl v1), some (.inl v2)]) (fun v1 v2 m3 k4 hk4 => ?_) _ _ _ _
  unfold X3_coolAll_b4
  refine r_iload_n C dX3_coolAll_4 rfl rfl ?_
  refine r_bipush (v := 64) C dX3_coolAll_5 (by decide) ?_
  refine r_icmp_ge (tgt := 49) C dX3_coolAll_7 (by decide) ?_ ?_
  · refine r_iload_n C dX3_coolAll_49 rfl rfl ?_
    exact r_ireturn C dX3_coolAll_50
  refine r_aload_n C dX3_coolAll_10 rfl rfl ?_
  refine r_get (v := .inr (29, k)) C fl_X3_24 dX3_coolAll_11 rfl ?_
  refine r_iload_n C dX3_coolAll_14 rfl rfl ?_
  refine r_iald C rfl dX3_coolAll_15 (fun x4 => ?_)
  refine r_iconst (v := (-1)) C dX3_coolAll_16 (by decide) ?_
  refine r_icmp_eq (tgt := 43) C dX3_coolAll_17 (by decide) ?_ ?_
  · refine r_iinc (v := 1) C dX3_coolAll_43 (by decide) rfl (by decide) (fun x5 => ?_)
    show gw X eI _ [some (.inr (3, k)), some (.inl v1), some (.inl x5)] _ _ _
    refine r_goto (tgt := 4) C dX3_coolAll_46 (by decide) ?_
    exact r_weak (lv' := [some (.inr (3, k)), some (.inl v1), some (.inl x5)]) ⟨rfl, rfl, rfl, trivial⟩ (hk4 _ _ _)
  refine r_aload_n C dX3_coolAll_20 rfl rfl ?_
  refine r_get (v := .inr (32, k)) C fl_X3_33 dX3_coolAll_21 rfl ?_
  refine r_iload_n C dX3_coolAll_24 rfl rfl ?_
  refine r_iald C rfl dX3_coolAll_25 (fun x6 => ?_)
  refine r_iconst (v := 3) C dX3_coolAll_26 (by decide) ?_
  refine r_icmp_ge (tgt := 43) C dX3_coolAll_27 (by decide) ?_ ?_
  · refine r_iinc (v := 1) C dX3_coolAll_43 (by decide) rfl (by decide) (fun x7 => ?_)
    show gw X eI _ [some (.inr (3, k)), some (.inl v1), some (.inl x7)] _ _ _
    refine r_goto (tgt := 4) C dX3_coolAll_46 (by decide) ?_
    exact r_weak (lv' := [some (.inr (3, k)), some (.inl v1), some (.inl x7)]) ⟨rfl, rfl, rfl, trivial⟩ (hk4 _ _ _)
  refine r_aload_n C dX3_coolAll_30 rfl rfl ?_
  refine r_get (v := .inr (32, k)) C fl_X3_33 dX3_coolAll_31 rfl ?_
  refine r_iload_n C dX3_coolAll_34 rfl rfl ?_
  refine r_dup2 C dX3_coolAll_35 ?_
  refine r_iald C rfl dX3_coolAll_36 (fun x8 => ?_)
  refine r_iconst (v := 1) C dX3_coolAll_37 (by decide) ?_
  refine r_iadd C dX3_coolAll_38 ?_
  refine r_iast C rfl dX3_coolAll_39 (fun m9 => ?_)
  refine r_iinc (v := 1) C dX3_coolAll_40 (by decide) rfl (by decide) (fun x10 => ?_)
  show gw X eI _ [some (.inr (3, k)), some (.inl x10), some (.inl v2)] _ _ _
  refine r_iinc (v := 1) C dX3_coolAll_43 (by decide) rfl (by decide) (fun x11 => ?_)
  show gw X eI _ [some (.inr (3, k)), some (.inl x10), some (.inl x11)] _ _ _
  refine r_goto (tgt := 4) C dX3_coolAll_46 (by decide) ?_
  exact r_weak (lv' := [some (.inr (3, k)), some (.inl x10), some (.inl x11)]) ⟨rfl, rfl, rfl, trivial⟩ (hk4 _ _ _)
theorem dX3_tradeParts_0 : decode cX3_tradeParts 0 = .ok (.iconst 0, 1) := by decide +kernel
theorem dX3_tradeParts_1 : decode cX3_tradeParts 1 = .ok (.istore 4, 2) := by decide +kernel
theorem dX3_tradeParts_3 : decode cX3_tradeParts 3 = .ok (.iload 4, 2) := by decide +kernel
theorem dX3_tradeParts_5 : decode cX3_tradeParts 5 = .ok (.iload_n 3, 1) := by decide +kernel
theorem dX3_tradeParts_6 : decode cX3_tradeParts 6 = .ok (.if_icmp .ge 45, 3) := by decide +kernel
theorem dX3_tradeParts_9 : decode cX3_tradeParts 9 = .ok (.aload_n 0, 1) := by decide +kernel
theorem dX3_tradeParts_10 : decode cX3_tradeParts 10 = .ok (.iload_n 1, 1) := by decide +kernel
theorem dX3_tradeParts_11 : decode cX3_tradeParts 11 = .ok (.iload_n 3, 1) := by decide +kernel
theorem dX3_tradeParts_12 : decode cX3_tradeParts 12 = .ok (.imul, 1) := by decide +kernel
theorem dX3_tradeParts_13 : decode cX3_tradeParts 13 = .ok (.iload 4, 2) := by decide +kernel
theorem dX3_tradeParts_15 : decode cX3_tradeParts 15 = .ok (.iadd, 1) := by decide +kernel
theorem dX3_tradeParts_16 : decode cX3_tradeParts 16 = .ok (.iaload, 1) := by decide +kernel
theorem dX3_tradeParts_17 : decode cX3_tradeParts 17 = .ok (.istore 5, 2) := by decide +kernel
theorem dX3_tradeParts_19 : decode cX3_tradeParts 19 = .ok (.aload_n 0, 1) := by decide +kernel
theorem dX3_tradeParts_20 : decode cX3_tradeParts 20 = .ok (.iload_n 1, 1) := by decide +kernel
theorem dX3_tradeParts_21 : decode cX3_tradeParts 21 = .ok (.iload_n 3, 1) := by decide +kernel
theorem dX3_tradeParts_22 : decode cX3_tradeParts 22 = .ok (.imul, 1) := by decide +kernel
theorem dX3_tradeParts_23 : decode cX3_tradeParts 23 = .ok (.iload 4, 2) := by decide +kernel
theorem dX3_tradeParts_25 : decode cX3_tradeParts 25 = .ok (.iadd, 1) := by decide +kernel
theorem dX3_tradeParts_26 : decode cX3_tradeParts 26 = .ok (.aload_n 0, 1) := by decide +kernel
theorem dX3_tradeParts_27 : decode cX3_tradeParts 27 = .ok (.iload_n 2, 1) := by decide +kernel
theorem dX3_tradeParts_28 : decode cX3_tradeParts 28 = .ok (.iload_n 3, 1) := by decide +kernel
theorem dX3_tradeParts_29 : decode cX3_tradeParts 29 = .ok (.imul, 1) := by decide +kernel
theorem dX3_tradeParts_30 : decode cX3_tradeParts 30 = .ok (.iload 4, 2) := by decide +kernel
theorem dX3_tradeParts_32 : decode cX3_tradeParts 32 = .ok (.iadd, 1) := by decide +kernel
theorem dX3_tradeParts_33 : decode cX3_tradeParts 33 = .ok (.iaload, 1) := by decide +kernel
theorem dX3_tradeParts_34 : decode cX3_tradeParts 34 = .ok (.iastore, 1) := by decide +kernel
theorem dX3_tradeParts_35 : decode cX3_tradeParts 35 = .ok (.aload_n 0, 1) := by decide +kernel
theorem dX3_tradeParts_36 : decode cX3_tradeParts 36 = .ok (.iload_n 2, 1) := by decide +kernel
theorem dX3_tradeParts_37 : decode cX3_tradeParts 37 = .ok (.iload_n 3, 1) := by decide +kernel
theorem dX3_tradeParts_38 : decode cX3_tradeParts 38 = .ok (.imul, 1) := by decide +kernel
theorem dX3_tradeParts_39 : decode cX3_tradeParts 39 = .ok (.iload 4, 2) := by decide +kernel
theorem dX3_tradeParts_41 : decode cX3_tradeParts 41 = .ok (.iadd, 1) := by decide +kernel
theorem dX3_tradeParts_42 : decode cX3_tradeParts 42 = .ok (.iload 5, 2) := by decide +kernel
theorem dX3_tradeParts_44 : decode cX3_tradeParts 44 = .ok (.iastore, 1) := by decide +kernel
theorem dX3_tradeParts_45 : decode cX3_tradeParts 45 = .ok (.iinc 4 1, 3) := by decide +kernel
theorem dX3_tradeParts_48 : decode cX3_tradeParts 48 = .ok (.goto (-45), 3) := by decide +kernel
theorem dX3_tradeParts_51 : decode cX3_tradeParts 51 = .ok (.return_, 1) := by decide +kernel
def X3_tradeParts_b3 (t1 : Nat) (u1 : Nat) (a2 : Int32) (a3 : Int32) (a4 : Int32) (v1 : Int32) (m2 : gM) (k3 : Int32 → gM → Option (Unit × gM)) : Option (Unit × gM) :=
  if a4 ≤ v1 then (some ((), m2)) else (gAt m2 t1 u1 ((a2 * a4) + v1) (fun (x3 : Int32) => gAt m2 t1 u1 ((a3 * a4) + v1) (fun (x4 : Int32) => gPut m2 t1 u1 ((a2 * a4) + v1) x4 (fun (m5 : gM) => gPut m5 t1 u1 ((a3 * a4) + v1) x3 (fun (m6 : gM) => gLet (v1 + 1) (fun (x7 : Int32) => k3 x7 m6))))))
def X3_tradeParts (t1 u1 : Nat) (a2 : Int32) (a3 : Int32) (a4 : Int32) (m : gM) : Option (Unit × gM) :=
  gL1 FU (X3_tradeParts_b3 t1 u1 a2 a3 a4) 0 m
set_option maxRecDepth 100000 in
set_option maxHeartbeats 4000000 in
theorem c_X3_tradeParts (t1 u1 : Nat) (a2 : Int32) (a3 : Int32) (a4 : Int32) (ht1 : gia t1 = true) (m : gM) : gCon eU yX3_tradeParts cX3_tradeParts 6 none 0 [.inr (t1, u1), .inl a2, .inl a3, .inl a4] m (X3_tradeParts t1 u1 a2 a3 a4 m) := by
  refine gCon.of (lv := [some (.inr (t1, u1)), some (.inl a2), some (.inl a3), some (.inl a4), none, none]) (by decide +kernel) (Nat.le_of_ble_eq_true rfl) rfl (fun X C => ?_)
  unfold X3_tradeParts
  refine r_iconst (v := 0) C dX3_tradeParts_0 (by decide) ?_
  refine r_istore (lv' := [some (.inr (t1, u1)), some (.inl a2), some (.inl a3), some (.inl a4), some (.inl 0), none]) C dX3_tradeParts_1 (by decide) rfl ?_
  refine r_weak (lv' := [some (.inr (t1, u1)), some (.inl a2), some (.inl a3), some (.inl a4), some (.inl 0), none]) ⟨rfl, rfl, rfl, rfl, rfl, trivial⟩ ?_
  refine r_l1 (pj := 3) (fun v1 => [some (.inr (t1, u1)), some (.inl a2), some (.inl a3), some (.inl a4), some (.inl v1), none]) (fun v1 m2 k3 hk3 => ?_) _ _ _
  unfold X3_tradeParts_b3
  refine r_iload C dX3_tradeParts_3 rfl ?_
  refine r_iload_n C dX3_tradeParts_5 rfl rfl ?_
  refine r_icmp_ge (tgt := 51) C dX3_tradeParts_6 (by decide) ?_ ?_
  · exact r_return C dX3_tradeParts_51
  refine r_aload_n C dX3_tradeParts_9 rfl rfl ?_
  refine r_iload_n C dX3_tradeParts_10 rfl rfl ?_
  refine r_iload_n C dX3_tradeParts_11 rfl rfl ?_
  refine r_imul C dX3_tradeParts_12 ?_
  refine r_iload C dX3_tradeParts_13 rfl ?_
  refine r_iadd C dX3_tradeParts_15 ?_
  refine r_iald C ht1 dX3_tradeParts_16 (fun x3 => ?_)
  refine r_istore (lv' := [some (.inr (t1, u1)), some (.inl a2), some (.inl a3), some (.inl a4), some (.inl v1), some (.inl x3)]) C dX3_tradeParts_17 (by decide) rfl ?_
  refine r_aload_n C dX3_tradeParts_19 rfl rfl ?_
  refine r_iload_n C dX3_tradeParts_20 rfl rfl ?_
  refine r_iload_n C dX3_tradeParts_21 rfl rfl ?_
  refine r_imul C dX3_tradeParts_22 ?_
  refine r_iload C dX3_tradeParts_23 rfl ?_
  refine r_iadd C dX3_tradeParts_25 ?_
  refine r_aload_n C dX3_tradeParts_26 rfl rfl ?_
  refine r_iload_n C dX3_tradeParts_27 rfl rfl ?_
  refine r_iload_n C dX3_tradeParts_28 rfl rfl ?_
  refine r_imul C dX3_tradeParts_29 ?_
  refine r_iload C dX3_tradeParts_30 rfl ?_
  refine r_iadd C dX3_tradeParts_32 ?_
  refine r_iald C ht1 dX3_tradeParts_33 (fun x4 => ?_)
  refine r_iast C ht1 dX3_tradeParts_34 (fun m5 => ?_)
  refine r_aload_n C dX3_tradeParts_35 rfl rfl ?_
  refine r_iload_n C dX3_tradeParts_36 rfl rfl ?_
  refine r_iload_n C dX3_tradeParts_37 rfl rfl ?_
  refine r_imul C dX3_tradeParts_38 ?_
  refine r_iload C dX3_tradeParts_39 rfl ?_
  refine r_iadd C dX3_tradeParts_41 ?_
  refine r_iload C dX3_tradeParts_42 rfl ?_
  refine r_iast C ht1 dX3_tradeParts_44 (fun m6 => ?_)
  refine r_iinc (v := 1) C dX3_tradeParts_45 (by decide) rfl (by decide) (fun x7 => ?_)
  show gw X eU _ [some (.inr (t1, u1)), some (.inl a2), some (.inl a3), some (.inl a4), some (.inl x7), some (.inl x3)] _ _ _
  refine r_goto (tgt := 3) C dX3_tradeParts_48 (by decide) ?_
  exact r_weak (lv' := [some (.inr (t1, u1)), some (.inl a2), some (.inl a3), some (.inl a4), some (.inl x7), none]) ⟨rfl, rfl, rfl, rfl, rfl, trivial⟩ (hk3 _ _)
theorem dX3_tradeWays_0 : decode cX3_tradeWays 0 = .ok (.aload_n 0, 1) := by decide +kernel
theorem dX3_tradeWays_1 : decode cX3_tradeWays 1 = .ok (.getfield 9, 3) := by decide +kernel
theorem dX3_tradeWays_4 : decode cX3_tradeWays 4 = .ok (.iload_n 1, 1) := by decide +kernel
theorem dX3_tradeWays_5 : decode cX3_tradeWays 5 = .ok (.iload_n 2, 1) := by decide +kernel
theorem dX3_tradeWays_6 : decode cX3_tradeWays 6 = .ok (.iconst 4, 1) := by decide +kernel
theorem dX3_tradeWays_7 : decode cX3_tradeWays 7 = .ok (.invokestatic 153, 3) := by decide +kernel
theorem dX3_tradeWays_10 : decode cX3_tradeWays 10 = .ok (.aload_n 0, 1) := by decide +kernel
theorem dX3_tradeWays_11 : decode cX3_tradeWays 11 = .ok (.getfield 24, 3) := by decide +kernel
theorem dX3_tradeWays_14 : decode cX3_tradeWays 14 = .ok (.iload_n 1, 1) := by decide +kernel
theorem dX3_tradeWays_15 : decode cX3_tradeWays 15 = .ok (.iload_n 2, 1) := by decide +kernel
theorem dX3_tradeWays_16 : decode cX3_tradeWays 16 = .ok (.bipush 16, 2) := by decide +kernel
theorem dX3_tradeWays_18 : decode cX3_tradeWays 18 = .ok (.invokestatic 153, 3) := by decide +kernel
theorem dX3_tradeWays_21 : decode cX3_tradeWays 21 = .ok (.aload_n 0, 1) := by decide +kernel
theorem dX3_tradeWays_22 : decode cX3_tradeWays 22 = .ok (.getfield 27, 3) := by decide +kernel
theorem dX3_tradeWays_25 : decode cX3_tradeWays 25 = .ok (.iload_n 1, 1) := by decide +kernel
theorem dX3_tradeWays_26 : decode cX3_tradeWays 26 = .ok (.iload_n 2, 1) := by decide +kernel
theorem dX3_tradeWays_27 : decode cX3_tradeWays 27 = .ok (.bipush 16, 2) := by decide +kernel
theorem dX3_tradeWays_29 : decode cX3_tradeWays 29 = .ok (.invokestatic 153, 3) := by decide +kernel
theorem dX3_tradeWays_32 : decode cX3_tradeWays 32 = .ok (.aload_n 0, 1) := by decide +kernel
theorem dX3_tradeWays_33 : decode cX3_tradeWays 33 = .ok (.getfield 30, 3) := by decide +kernel
theorem dX3_tradeWays_36 : decode cX3_tradeWays 36 = .ok (.iload_n 1, 1) := by decide +kernel
theorem dX3_tradeWays_37 : decode cX3_tradeWays 37 = .ok (.iload_n 2, 1) := by decide +kernel
theorem dX3_tradeWays_38 : decode cX3_tradeWays 38 = .ok (.bipush 16, 2) := by decide +kernel
theorem dX3_tradeWays_40 : decode cX3_tradeWays 40 = .ok (.invokestatic 153, 3) := by decide +kernel
theorem dX3_tradeWays_43 : decode cX3_tradeWays 43 = .ok (.aload_n 0, 1) := by decide +kernel
theorem dX3_tradeWays_44 : decode cX3_tradeWays 44 = .ok (.getfield 33, 3) := by decide +kernel
theorem dX3_tradeWays_47 : decode cX3_tradeWays 47 = .ok (.iload_n 1, 1) := by decide +kernel
theorem dX3_tradeWays_48 : decode cX3_tradeWays 48 = .ok (.iload_n 2, 1) := by decide +kernel
theorem dX3_tradeWays_49 : decode cX3_tradeWays 49 = .ok (.bipush 16, 2) := by decide +kernel
theorem dX3_tradeWays_51 : decode cX3_tradeWays 51 = .ok (.invokestatic 153, 3) := by decide +kernel
theorem dX3_tradeWays_54 : decode cX3_tradeWays 54 = .ok (.aload_n 0, 1) := by decide +kernel
theorem dX3_tradeWays_55 : decode cX3_tradeWays 55 = .ok (.getfield 36, 3) := by decide +kernel
theorem dX3_tradeWays_58 : decode cX3_tradeWays 58 = .ok (.iload_n 1, 1) := by decide +kernel
theorem dX3_tradeWays_59 : decode cX3_tradeWays 59 = .ok (.iload_n 2, 1) := by decide +kernel
theorem dX3_tradeWays_60 : decode cX3_tradeWays 60 = .ok (.bipush 16, 2) := by decide +kernel
theorem dX3_tradeWays_62 : decode cX3_tradeWays 62 = .ok (.invokestatic 153, 3) := by decide +kernel
theorem dX3_tradeWays_65 : decode cX3_tradeWays 65 = .ok (.return_, 1) := by decide +kernel
def X3_tradeWays (k : Nat) (a1 : Int32) (a2 : Int32) (m : gM) : Option (Unit × gM) :=
  gCall (X3_tradeParts 25 k a1 a2 4 m) (fun (r2 : Unit) (m1 : gM) => gCall (X3_tradeParts 29 k a1 a2 16 m1) (fun (r4 : Unit) (m3 : gM) => gCall (X3_tradeParts 30 k a1 a2 16 m3) (fun (r6 : Unit) (m5 : gM) => gCall (X3_tradeParts 31 k a1 a2 16 m5) (fun (r8 : Unit) (m7 : gM) => gCall (X3_tradeParts 32 k a1 a2 16 m7) (fun (r10 : Unit) (m9 : gM) => gCall (X3_tradeParts 33 k a1 a2 16 m9) (fun (r12 : Unit) (m11 : gM) => some ((), m11)))))))
set_option maxRecDepth 100000 in
set_option maxHeartbeats 4000000 in
theorem c_X3_tradeWays (k : Nat) (a1 : Int32) (a2 : Int32) (m : gM) : gCon eU yX3_tradeWays cX3_tradeWays 3 none 1 [.inr (3, k), .inl a1, .inl a2] m (X3_tradeWays k a1 a2 m) := by
  refine gCon.of (lv := [some (.inr (3, k)), some (.inl a1), some (.inl a2)]) (by decide +kernel) (Nat.le_of_ble_eq_true rfl) rfl (fun X C => ?_)
  unfold X3_tradeWays
  refine r_aload_n C dX3_tradeWays_0 rfl rfl ?_
  refine r_get (v := .inr (25, k)) C fl_X3_9 dX3_tradeWays_1 rfl ?_
  refine r_iload_n C dX3_tradeWays_4 rfl rfl ?_
  refine r_iload_n C dX3_tradeWays_5 rfl rfl ?_
  refine r_iconst (v := 4) C dX3_tradeWays_6 (by decide) ?_
  refine r_insU (As := [.inr (25, k), .inl a1, .inl a2, .inl 4]) (st := []) C il_X3_153 co_X3_tradeParts (c_X3_tradeParts 25 k a1 a2 4 rfl m) (by decide) (by decide) rfl rfl (Nat.le_of_ble_eq_true rfl) dX3_tradeWays_7 (fun r2 m1 => ?_)
  refine r_aload_n C dX3_tradeWays_10 rfl rfl ?_
  refine r_get (v := .inr (29, k)) C fl_X3_24 dX3_tradeWays_11 rfl ?_
  refine r_iload_n C dX3_tradeWays_14 rfl rfl ?_
  refine r_iload_n C dX3_tradeWays_15 rfl rfl ?_
  refine r_bipush (v := 16) C dX3_tradeWays_16 (by decide) ?_
  refine r_insU (As := [.inr (29, k), .inl a1, .inl a2, .inl 16]) (st := []) C il_X3_153 co_X3_tradeParts (c_X3_tradeParts 29 k a1 a2 16 rfl m1) (by decide) (by decide) rfl rfl (Nat.le_of_ble_eq_true rfl) dX3_tradeWays_18 (fun r4 m3 => ?_)
  refine r_aload_n C dX3_tradeWays_21 rfl rfl ?_
  refine r_get (v := .inr (30, k)) C fl_X3_27 dX3_tradeWays_22 rfl ?_
  refine r_iload_n C dX3_tradeWays_25 rfl rfl ?_
  refine r_iload_n C dX3_tradeWays_26 rfl rfl ?_
  refine r_bipush (v := 16) C dX3_tradeWays_27 (by decide) ?_
  refine r_insU (As := [.inr (30, k), .inl a1, .inl a2, .inl 16]) (st := []) C il_X3_153 co_X3_tradeParts (c_X3_tradeParts 30 k a1 a2 16 rfl m3) (by decide) (by decide) rfl rfl (Nat.le_of_ble_eq_true rfl) dX3_tradeWays_29 (fun r6 m5 => ?_)
  refine r_aload_n C dX3_tradeWays_32 rfl rfl ?_
  refine r_get (v := .inr (31, k)) C fl_X3_30 dX3_tradeWays_33 rfl ?_
  refine r_iload_n C dX3_tradeWays_36 rfl rfl ?_
  refine r_iload_n C dX3_tradeWays_37 rfl rfl ?_
  refine r_bipush (v := 16) C dX3_tradeWays_38 (by decide) ?_
  refine r_insU (As := [.inr (31, k), .inl a1, .inl a2, .inl 16]) (st := []) C il_X3_153 co_X3_tradeParts (c_X3_tradeParts 31 k a1 a2 16 rfl m5) (by decide) (by decide) rfl rfl (Nat.le_of_ble_eq_true rfl) dX3_tradeWays_40 (fun r8 m7 => ?_)
  refine r_aload_n C dX3_tradeWays_43 rfl rfl ?_
  refine r_get (v := .inr (32, k)) C fl_X3_33 dX3_tradeWays_44 rfl ?_
  refine r_iload_n C dX3_tradeWays_47 rfl rfl ?_
  refine r_iload_n C dX3_tradeWays_48 rfl rfl ?_
  refine r_bipush (v := 16) C dX3_tradeWays_49 (by decide) ?_
  refine r_insU (As := [.inr (32, k), .inl a1, .inl a2, .inl 16]) (st := []) C il_X3_153 co_X3_tradeParts (c_X3_tradeParts 32 k a1 a2 16 rfl m7) (by decide) (by decide) rfl rfl (Nat.le_of_ble_eq_true rfl) dX3_tradeWays_51 (fun r10 m9 => ?_)
  refine r_aload_n C dX3_tradeWays_54 rfl rfl ?_
  refine r_get (v := .inr (33, k)) C fl_X3_36 dX3_tradeWays_55 rfl ?_
  refine r_iload_n C dX3_tradeWays_58 rfl rfl ?_
  refine r_iload_n C dX3_tradeWays_59 rfl rfl ?_
  refine r_bipush (v := 16) C dX3_tradeWays_60 (by decide) ?_
  refine r_insU (As := [.inr (33, k), .inl a1, .inl a2, .inl 16]) (st := []) C il_X3_153 co_X3_tradeParts (c_X3_tradeParts 33 k a1 a2 16 rfl m9) (by decide) (by decide) rfl rfl (Nat.le_of_ble_eq_true rfl) dX3_tradeWays_62 (fun r12 m11 => ?_)
  exact r_return C dX3_tradeWays_65
theorem dX4_mostUnlike_0 : decode cX4_mostUnlike 0 = .ok (.aload_n 0, 1) := by decide +kernel
theorem dX4_mostUnlike_1 : decode cX4_mostUnlike 1 = .ok (.getfield 9, 3) := by decide +kernel
theorem dX4_mostUnlike_4 : decode cX4_mostUnlike 4 = .ok (.iconst 0, 1) := by decide +kernel
theorem dX4_mostUnlike_5 : decode cX4_mostUnlike 5 = .ok (.invokestatic 24, 3) := by decide +kernel
theorem dX4_mostUnlike_8 : decode cX4_mostUnlike 8 = .ok (.iconst 0, 1) := by decide +kernel
theorem dX4_mostUnlike_9 : decode cX4_mostUnlike 9 = .ok (.istore_n 3, 1) := by decide +kernel
theorem dX4_mostUnlike_10 : decode cX4_mostUnlike 10 = .ok (.iconst 0, 1) := by decide +kernel
theorem dX4_mostUnlike_11 : decode cX4_mostUnlike 11 = .ok (.istore 4, 2) := by decide +kernel
theorem dX4_mostUnlike_13 : decode cX4_mostUnlike 13 = .ok (.iconst 0, 1) := by decide +kernel
theorem dX4_mostUnlike_14 : decode cX4_mostUnlike 14 = .ok (.istore 5, 2) := by decide +kernel
theorem dX4_mostUnlike_16 : decode cX4_mostUnlike 16 = .ok (.iload 5, 2) := by decide +kernel
theorem dX4_mostUnlike_18 : decode cX4_mostUnlike 18 = .ok (.aload_n 1, 1) := by decide +kernel
theorem dX4_mostUnlike_19 : decode cX4_mostUnlike 19 = .ok (.getfield 30, 3) := by decide +kernel
theorem dX4_mostUnlike_22 : decode cX4_mostUnlike 22 = .ok (.if_icmp .ge 91, 3) := by decide +kernel
theorem dX4_mostUnlike_25 : decode cX4_mostUnlike 25 = .ok (.aload_n 1, 1) := by decide +kernel
theorem dX4_mostUnlike_26 : decode cX4_mostUnlike 26 = .ok (.getfield 36, 3) := by decide +kernel
theorem dX4_mostUnlike_29 : decode cX4_mostUnlike 29 = .ok (.iload 5, 2) := by decide +kernel
theorem dX4_mostUnlike_31 : decode cX4_mostUnlike 31 = .ok (.iaload, 1) := by decide +kernel
theorem dX4_mostUnlike_32 : decode cX4_mostUnlike 32 = .ok (.istore 6, 2) := by decide +kernel
theorem dX4_mostUnlike_34 : decode cX4_mostUnlike 34 = .ok (.aload_n 0, 1) := by decide +kernel
theorem dX4_mostUnlike_35 : decode cX4_mostUnlike 35 = .ok (.getfield 9, 3) := by decide +kernel
theorem dX4_mostUnlike_38 : decode cX4_mostUnlike 38 = .ok (.iload 6, 2) := by decide +kernel
theorem dX4_mostUnlike_40 : decode cX4_mostUnlike 40 = .ok (.iaload, 1) := by decide +kernel
theorem dX4_mostUnlike_41 : decode cX4_mostUnlike 41 = .ok (.ifCond .ne 6, 3) := by decide +kernel
theorem dX4_mostUnlike_44 : decode cX4_mostUnlike 44 = .ok (.iinc 3 1, 3) := by decide +kernel
theorem dX4_mostUnlike_47 : decode cX4_mostUnlike 47 = .ok (.aload_n 0, 1) := by decide +kernel
theorem dX4_mostUnlike_48 : decode cX4_mostUnlike 48 = .ok (.getfield 9, 3) := by decide +kernel
theorem dX4_mostUnlike_51 : decode cX4_mostUnlike 51 = .ok (.iload 6, 2) := by decide +kernel
theorem dX4_mostUnlike_53 : decode cX4_mostUnlike 53 = .ok (.dup2, 1) := by decide +kernel
theorem dX4_mostUnlike_54 : decode cX4_mostUnlike 54 = .ok (.iaload, 1) := by decide +kernel
theorem dX4_mostUnlike_55 : decode cX4_mostUnlike 55 = .ok (.iconst 1, 1) := by decide +kernel
theorem dX4_mostUnlike_56 : decode cX4_mostUnlike 56 = .ok (.iadd, 1) := by decide +kernel
theorem dX4_mostUnlike_57 : decode cX4_mostUnlike 57 = .ok (.iastore, 1) := by decide +kernel
theorem dX4_mostUnlike_58 : decode cX4_mostUnlike 58 = .ok (.iload 5, 2) := by decide +kernel
theorem dX4_mostUnlike_60 : decode cX4_mostUnlike 60 = .ok (.iload_n 2, 1) := by decide +kernel
theorem dX4_mostUnlike_61 : decode cX4_mostUnlike 61 = .ok (.if_icmp .lt 38, 3) := by decide +kernel
theorem dX4_mostUnlike_64 : decode cX4_mostUnlike 64 = .ok (.aload_n 1, 1) := by decide +kernel
theorem dX4_mostUnlike_65 : decode cX4_mostUnlike 65 = .ok (.getfield 36, 3) := by decide +kernel
theorem dX4_mostUnlike_68 : decode cX4_mostUnlike 68 = .ok (.iload 5, 2) := by decide +kernel
theorem dX4_mostUnlike_70 : decode cX4_mostUnlike 70 = .ok (.iload_n 2, 1) := by decide +kernel
theorem dX4_mostUnlike_71 : decode cX4_mostUnlike 71 = .ok (.isub, 1) := by decide +kernel
theorem dX4_mostUnlike_72 : decode cX4_mostUnlike 72 = .ok (.iaload, 1) := by decide +kernel
theorem dX4_mostUnlike_73 : decode cX4_mostUnlike 73 = .ok (.istore 7, 2) := by decide +kernel
theorem dX4_mostUnlike_75 : decode cX4_mostUnlike 75 = .ok (.aload_n 0, 1) := by decide +kernel
theorem dX4_mostUnlike_76 : decode cX4_mostUnlike 76 = .ok (.getfield 9, 3) := by decide +kernel
theorem dX4_mostUnlike_79 : decode cX4_mostUnlike 79 = .ok (.iload 7, 2) := by decide +kernel
theorem dX4_mostUnlike_81 : decode cX4_mostUnlike 81 = .ok (.dup2, 1) := by decide +kernel
theorem dX4_mostUnlike_82 : decode cX4_mostUnlike 82 = .ok (.iaload, 1) := by decide +kernel
theorem dX4_mostUnlike_83 : decode cX4_mostUnlike 83 = .ok (.iconst 1, 1) := by decide +kernel
theorem dX4_mostUnlike_84 : decode cX4_mostUnlike 84 = .ok (.isub, 1) := by decide +kernel
theorem dX4_mostUnlike_85 : decode cX4_mostUnlike 85 = .ok (.iastore, 1) := by decide +kernel
theorem dX4_mostUnlike_86 : decode cX4_mostUnlike 86 = .ok (.aload_n 0, 1) := by decide +kernel
theorem dX4_mostUnlike_87 : decode cX4_mostUnlike 87 = .ok (.getfield 9, 3) := by decide +kernel
theorem dX4_mostUnlike_90 : decode cX4_mostUnlike 90 = .ok (.iload 7, 2) := by decide +kernel
theorem dX4_mostUnlike_92 : decode cX4_mostUnlike 92 = .ok (.iaload, 1) := by decide +kernel
theorem dX4_mostUnlike_93 : decode cX4_mostUnlike 93 = .ok (.ifCond .ne 6, 3) := by decide +kernel
theorem dX4_mostUnlike_96 : decode cX4_mostUnlike 96 = .ok (.iinc 3 (-1), 3) := by decide +kernel
theorem dX4_mostUnlike_99 : decode cX4_mostUnlike 99 = .ok (.iload 4, 2) := by decide +kernel
theorem dX4_mostUnlike_101 : decode cX4_mostUnlike 101 = .ok (.iload_n 3, 1) := by decide +kernel
theorem dX4_mostUnlike_102 : decode cX4_mostUnlike 102 = .ok (.invokestatic 39, 3) := by decide +kernel
theorem dX4_mostUnlike_105 : decode cX4_mostUnlike 105 = .ok (.istore 4, 2) := by decide +kernel
theorem dX4_mostUnlike_107 : decode cX4_mostUnlike 107 = .ok (.iinc 5 1, 3) := by decide +kernel
theorem dX4_mostUnlike_110 : decode cX4_mostUnlike 110 = .ok (.goto (-94), 3) := by decide +kernel
theorem dX4_mostUnlike_113 : decode cX4_mostUnlike 113 = .ok (.iload 4, 2) := by decide +kernel
theorem dX4_mostUnlike_115 : decode cX4_mostUnlike 115 = .ok (.ireturn, 1) := by decide +kernel
def X4_mostUnlike_b16 (o1 : Nat) (a2 : Int32) (v3 v4 v5 : Int32) (m6 : gM) (k16 : Int32 → Int32 → Int32 → gM → Option (Int32 × gM)) : Option (Int32 × gM) :=
  if (m6 5 o1 2) ≤ v5 then (some (v4, m6)) else (gAt m6 38 o1 v5 (fun (x7 : Int32) => gAt m6 34 0 x7 (fun (x8 : Int32) => gJ1 (fun (v9 : Int32) (m10 : gM) => gAt m10 34 0 x7 (fun (x11 : Int32) => gPut m10 34 0 x7 (x11 + 1) (fun (m12 : gM) => gJ1 (fun (v13 : Int32) (m14 : gM) => gLet (gMax v4 v13) (fun (x15 : Int32) => gLet (v5 + 1) (fun (x16 : Int32) => k16 v13 x15 x16 m14))) (fun (j99 : Int32 → gM → Option (Int32 × gM)) => if v5 < a2 then (j99 v9 m12) else (gAt m12 38 o1 (v5 - a2) (fun (x17 : Int32) => gAt m12 34 0 x17 (fun (x18 : Int32) => gPut m12 34 0 x17 (x18 - 1) (fun (m19 : gM) => gAt m19 34 0 x17 (fun (x20 : Int32) => if x20 = 0 then (gLet (v9 + (-1)) (fun (x21 : Int32) => j99 x21 m19)) else (j99 v9 m19)))))))))) (fun (j47 : Int32 → gM → Option (Int32 × gM)) => if x8 = 0 then (gLet (v3 + 1) (fun (x22 : Int32) => j47 x22 m6)) else (j47 v3 m6)))))
def X4_mostUnlike (o1 : Nat) (a2 : Int32) (m : gM) : Option (Int32 × gM) :=
  gCall (J7_fill_53178 34 0 0 m) (fun (r2 : Unit) (m1 : gM) => gL3 FU (X4_mostUnlike_b16 o1 a2) 0 0 0 m1)
set_option maxRecDepth 100000 in
set_option maxHeartbeats 4000000 in
theorem c_X4_mostUnlike (o1 : Nat) (a2 : Int32) (m : gM) : gCon eI yX4_mostUnlike cX4_mostUnlike 8 (some .int) 1 [.inr (4, 0), .inr (5, o1), .inl a2] m (X4_mostUnlike o1 a2 m) := by
  refine gCon.of (lv := [some (.inr (4, 0)), some (.inr (5, o1)), some (.inl a2), none, none, none, none, none]) (by decide +kernel) (Nat.le_of_ble_eq_true rfl) rfl (fun X C => ?_)
  unfold X4_mostUnlike
  refine r_aload_n C dX4_mostUnlike_0 rfl rfl ?_
  refine r_get (v := .inr (34, 0)) C fl_X4_9 dX4_mostUnlike_1 rfl ?_
  refine r_iconst (v := 0) C dX4_mostUnlike_4 (by decide) ?_
  refine r_insU (As := [.inr (34, 0), .inl 0]) (st := []) C il_X4_24 co_J7_fill_53178 (c_J7_fill_53178 34 0 0 rfl m) (by decide) (by decide) rfl rfl (Nat.le_of_ble_eq_true rfl) dX4_mostUnlike_5 (fun r2 m1 => ?_)
  refine r_iconst (v := 0) C dX4_mostUnlike_8 (by decide) ?_
  refine r_istore_n (lv' := [some (.inr (4, 0)), some (.inr (5, o1)), some (.inl a2), some (.inl 0), none, none, none, none]) C dX4_mostUnlike_9 rfl (by decide) rfl ?_
  refine r_iconst (v := 0) C dX4_mostUnlike_10 (by decide) ?_
  refine r_istore (lv' := [some (.inr (4, 0)), some (.inr (5, o1)), some (.inl a2), some (.inl 0), some (.inl 0), none, none, none]) C dX4_mostUnlike_11 (by decide) rfl ?_
  refine r_iconst (v := 0) C dX4_mostUnlike_13 (by decide) ?_
  refine r_istore (lv' := [some (.inr (4, 0)), some (.inr (5, o1)), some (.inl a2), some (.inl 0), some (.inl 0), some (.inl 0), none, none]) C dX4_mostUnlike_14 (by decide) rfl ?_
  refine r_weak (lv' := [some (.inr (4, 0)), some (.inr (5, o1)), some (.inl a2), some (.inl 0), some (.inl 0), some (.inl 0), none, none]) ⟨rfl, rfl, rfl, rfl, rfl, rfl, trivial⟩ ?_
  refine r_l3 (pj := 16) (fun v3 v4 v5 => [some (.inr (4, 0)), some (.inr (5, o1)), some (.inl a2), some (.inl v3), some (.inl v4), some (.inl v5), none, none]) (fun v3 v4 v5 m6 k16 hk16 => ?_) _ _ _ _ _
  unfold X4_mostUnlike_b16
  refine r_iload C dX4_mostUnlike_16 rfl ?_
  refine r_aload_n C dX4_mostUnlike_18 rfl rfl ?_
  refine r_get (v := .inl (m6 5 o1 2)) C fl_X4_30 dX4_mostUnlike_19 rfl ?_
  refine r_icmp_ge (tgt := 113) C dX4_mostUnlike_22 (by decide) ?_ ?_
  · refine r_iload C dX4_mostUnlike_113 rfl ?_
    exact r_ireturn C dX4_mostUnlike_115
  refine r_aload_n C dX4_mostUnlike_25 rfl rfl ?_
  refine r_get (v := .inr (38, o1)) C fl_X4_36 dX4_mostUnlike_26 rfl ?_
  refine r_iload C dX4_mostUnlike_29 rfl ?_
  refine r_iald C rfl dX4_mostUnlike_31 (fun x7 => ?_)
  refine r_istore (lv' := [some (.inr (4, 0)), some (.inr (5, o1)), some (.inl a2), some (.inl v3), some (.inl v4), some (.inl v5), some (.inl x7), none]) C dX4_mostUnlike_32 (by decide) rfl ?_
  refine r_aload_n C dX4_mostUnlike_34 rfl rfl ?_
  refine r_get (v := .inr (34, 0)) C fl_X4_9 dX4_mostUnlike_35 rfl ?_
  refine r_iload C dX4_mostUnlike_38 rfl ?_
  refine r_iald C rfl dX4_mostUnlike_40 (fun x8 => ?_)
  refine r_j1 47 (fun v9 => [some (.inr (4, 0)), some (.inr (5, o1)), some (.inl a2), some (.inl v9), some (.inl v4), some (.inl v5), some (.inl x7), none]) (fun v9 => []) (fun v9 m10 => ?_) (fun j47 hj47 => ?_)
  · refine r_aload_n C dX4_mostUnlike_47 rfl rfl ?_
    refine r_get (v := .inr (34, 0)) C fl_X4_9 dX4_mostUnlike_48 rfl ?_
    refine r_iload C dX4_mostUnlike_51 rfl ?_
    refine r_dup2 C dX4_mostUnlike_53 ?_
    refine r_iald C rfl dX4_mostUnlike_54 (fun x11 => ?_)
    refine r_iconst (v := 1) C dX4_mostUnlike_55 (by decide) ?_
    refine r_iadd C dX4_mostUnlike_56 ?_
    refine r_iast C rfl dX4_mostUnlike_57 (fun m12 => ?_)
    refine r_iload C dX4_mostUnlike_58 rfl ?_
    refine r_iload_n C dX4_mostUnlike_60 rfl rfl ?_
    refine r_j1 99 (fun v13 => [some (.inr (4, 0)), some (.inr (5, o1)), some (.inl a2), some (.inl v13), some (.inl v4), some (.inl v5), none, none]) (fun v13 => []) (fun v13 m14 => ?_) (fun j99 hj99 => ?_)
    · refine r_iload C dX4_mostUnlike_99 rfl ?_
      refine r_iload_n C dX4_mostUnlike_101 rfl rfl ?_
      refine r_mmax C im_X4_39 (by decide) (Nat.le_of_ble_eq_true rfl) dX4_mostUnlike_102 ?_
      refine r_let (fun x15 => ?_)
      refine r_istore (lv' := [some (.inr (4, 0)), some (.inr (5, o1)), some (.inl a2), some (.inl v13), some (.inl x15), some (.inl v5), none, none]) C dX4_mostUnlike_105 (by decide) rfl ?_
      refine r_iinc (v := 1) C dX4_mostUnlike_107 (by decide) rfl (by decide) (fun x16 => ?_)
      show gw X eI _ [some (.inr (4, 0)), some (.inr (5, o1)), some (.inl a2), some (.inl v13), some (.inl x15), some (.inl x16), none, none] _ _ _
      refine r_goto (tgt := 16) C dX4_mostUnlike_110 (by decide) ?_
      exact r_weak (lv' := [some (.inr (4, 0)), some (.inr (5, o1)), some (.inl a2), some (.inl v13), some (.inl x15), some (.inl x16), none, none]) ⟨rfl, rfl, rfl, rfl, rfl, rfl, trivial⟩ (hk16 _ _ _ _)
    refine r_icmp_lt (tgt := 99) C dX4_mostUnlike_61 (by decide) ?_ ?_
    · exact r_weak (lv' := [some (.inr (4, 0)), some (.inr (5, o1)), some (.inl a2), some (.inl v9), some (.inl v4), some (.inl v5), none, none]) ⟨rfl, rfl, rfl, rfl, rfl, rfl, trivial⟩ (hj99 _ _)
    refine r_aload_n C dX4_mostUnlike_64 rfl rfl ?_
    refine r_get (v := .inr (38, o1)) C fl_X4_36 dX4_mostUnlike_65 rfl ?_
    refine r_iload C dX4_mostUnlike_68 rfl ?_
    refine r_iload_n C dX4_mostUnlike_70 rfl rfl ?_
    refine r_isub C dX4_mostUnlike_71 ?_
    refine r_iald C rfl dX4_mostUnlike_72 (fun x17 => ?_)
    refine r_istore (lv' := [some (.inr (4, 0)), some (.inr (5, o1)), some (.inl a2), some (.inl v9), some (.inl v4), some (.inl v5), some (.inl x7), some (.inl x17)]) C dX4_mostUnlike_73 (by decide) rfl ?_
    refine r_aload_n C dX4_mostUnlike_75 rfl rfl ?_
    refine r_get (v := .inr (34, 0)) C fl_X4_9 dX4_mostUnlike_76 rfl ?_
    refine r_iload C dX4_mostUnlike_79 rfl ?_
    refine r_dup2 C dX4_mostUnlike_81 ?_
    refine r_iald C rfl dX4_mostUnlike_82 (fun x18 => ?_)
    refine r_iconst (v := 1) C dX4_mostUnlike_83 (by decide) ?_
    refine r_isub C dX4_mostUnlike_84 ?_
    refine r_iast C rfl dX4_mostUnlike_85 (fun m19 => ?_)
    refine r_aload_n C dX4_mostUnlike_86 rfl rfl ?_
    refine r_get (v := .inr (34, 0)) C fl_X4_9 dX4_mostUnlike_87 rfl ?_
    refine r_iload C dX4_mostUnlike_90 rfl ?_
    refine r_iald C rfl dX4_mostUnlike_92 (fun x20 => ?_)
    refine r_if_ne (tgt := 99) C dX4_mostUnlike_93 (by decide) ?_ ?_
    · exact r_weak (lv' := [some (.inr (4, 0)), some (.inr (5, o1)), some (.inl a2), some (.inl v9), some (.inl v4), some (.inl v5), none, none]) ⟨rfl, rfl, rfl, rfl, rfl, rfl, trivial⟩ (hj99 _ _)
    refine r_iinc (v := (-1)) C dX4_mostUnlike_96 (by decide) rfl (by decide) (fun x21 => ?_)
    show gw X eI _ [some (.inr (4, 0)), some (.inr (5, o1)), some (.inl a2), some (.inl x21), some (.inl v4), some (.inl v5), some (.inl x7), some (.inl x17)] _ _ _
    exact r_weak (lv' := [some (.inr (4, 0)), some (.inr (5, o1)), some (.inl a2), some (.inl x21), some (.inl v4), some (.inl v5), none, none]) ⟨rfl, rfl, rfl, rfl, rfl, rfl, trivial⟩ (hj99 _ _)
  refine r_if_ne (tgt := 47) C dX4_mostUnlike_41 (by decide) ?_ ?_
  · exact r_weak (lv' := [some (.inr (4, 0)), some (.inr (5, o1)), some (.inl a2), some (.inl v3), some (.inl v4), some (.inl v5), some (.inl x7), none]) ⟨rfl, rfl, rfl, rfl, rfl, rfl, rfl, trivial⟩ (hj47 _ _)
  refine r_iinc (v := 1) C dX4_mostUnlike_44 (by decide) rfl (by decide) (fun x22 => ?_)
  show gw X eI _ [some (.inr (4, 0)), some (.inr (5, o1)), some (.inl a2), some (.inl x22), some (.inl v4), some (.inl v5), some (.inl x7), none] _ _ _
  exact r_weak (lv' := [some (.inr (4, 0)), some (.inr (5, o1)), some (.inl a2), some (.inl x22), some (.inl v4), some (.inl v5), some (.inl x7), none]) ⟨rfl, rfl, rfl, rfl, rfl, rfl, rfl, trivial⟩ (hj47 _ _)
theorem dX4_hottestLine_0 : decode cX4_hottestLine 0 = .ok (.aload_n 0, 1) := by decide +kernel
theorem dX4_hottestLine_1 : decode cX4_hottestLine 1 = .ok (.getfield 9, 3) := by decide +kernel
theorem dX4_hottestLine_4 : decode cX4_hottestLine 4 = .ok (.iconst 0, 1) := by decide +kernel
theorem dX4_hottestLine_5 : decode cX4_hottestLine 5 = .ok (.invokestatic 24, 3) := by decide +kernel
theorem dX4_hottestLine_8 : decode cX4_hottestLine 8 = .ok (.iconst 0, 1) := by decide +kernel
theorem dX4_hottestLine_9 : decode cX4_hottestLine 9 = .ok (.istore_n 2, 1) := by decide +kernel
theorem dX4_hottestLine_10 : decode cX4_hottestLine 10 = .ok (.iload_n 2, 1) := by decide +kernel
theorem dX4_hottestLine_11 : decode cX4_hottestLine 11 = .ok (.aload_n 1, 1) := by decide +kernel
theorem dX4_hottestLine_12 : decode cX4_hottestLine 12 = .ok (.getfield 30, 3) := by decide +kernel
theorem dX4_hottestLine_15 : decode cX4_hottestLine 15 = .ok (.if_icmp .ge 24, 3) := by decide +kernel
theorem dX4_hottestLine_18 : decode cX4_hottestLine 18 = .ok (.aload_n 0, 1) := by decide +kernel
theorem dX4_hottestLine_19 : decode cX4_hottestLine 19 = .ok (.getfield 9, 3) := by decide +kernel
theorem dX4_hottestLine_22 : decode cX4_hottestLine 22 = .ok (.aload_n 1, 1) := by decide +kernel
theorem dX4_hottestLine_23 : decode cX4_hottestLine 23 = .ok (.getfield 36, 3) := by decide +kernel
theorem dX4_hottestLine_26 : decode cX4_hottestLine 26 = .ok (.iload_n 2, 1) := by decide +kernel
theorem dX4_hottestLine_27 : decode cX4_hottestLine 27 = .ok (.iaload, 1) := by decide +kernel
theorem dX4_hottestLine_28 : decode cX4_hottestLine 28 = .ok (.dup2, 1) := by decide +kernel
theorem dX4_hottestLine_29 : decode cX4_hottestLine 29 = .ok (.iaload, 1) := by decide +kernel
theorem dX4_hottestLine_30 : decode cX4_hottestLine 30 = .ok (.iconst 1, 1) := by decide +kernel
theorem dX4_hottestLine_31 : decode cX4_hottestLine 31 = .ok (.iadd, 1) := by decide +kernel
theorem dX4_hottestLine_32 : decode cX4_hottestLine 32 = .ok (.iastore, 1) := by decide +kernel
theorem dX4_hottestLine_33 : decode cX4_hottestLine 33 = .ok (.iinc 2 1, 3) := by decide +kernel
theorem dX4_hottestLine_36 : decode cX4_hottestLine 36 = .ok (.goto (-26), 3) := by decide +kernel
theorem dX4_hottestLine_39 : decode cX4_hottestLine 39 = .ok (.iconst (-1), 1) := by decide +kernel
theorem dX4_hottestLine_40 : decode cX4_hottestLine 40 = .ok (.istore_n 2, 1) := by decide +kernel
theorem dX4_hottestLine_41 : decode cX4_hottestLine 41 = .ok (.iconst 0, 1) := by decide +kernel
theorem dX4_hottestLine_42 : decode cX4_hottestLine 42 = .ok (.istore_n 3, 1) := by decide +kernel
theorem dX4_hottestLine_43 : decode cX4_hottestLine 43 = .ok (.iconst 0, 1) := by decide +kernel
theorem dX4_hottestLine_44 : decode cX4_hottestLine 44 = .ok (.istore 4, 2) := by decide +kernel
theorem dX4_hottestLine_46 : decode cX4_hottestLine 46 = .ok (.iload 4, 2) := by decide +kernel
theorem dX4_hottestLine_48 : decode cX4_hottestLine 48 = .ok (.sipush 1024, 3) := by decide +kernel
theorem dX4_hottestLine_51 : decode cX4_hottestLine 51 = .ok (.if_icmp .ge 31, 3) := by decide +kernel
theorem dX4_hottestLine_54 : decode cX4_hottestLine 54 = .ok (.aload_n 0, 1) := by decide +kernel
theorem dX4_hottestLine_55 : decode cX4_hottestLine 55 = .ok (.getfield 9, 3) := by decide +kernel
theorem dX4_hottestLine_58 : decode cX4_hottestLine 58 = .ok (.iload 4, 2) := by decide +kernel
theorem dX4_hottestLine_60 : decode cX4_hottestLine 60 = .ok (.iaload, 1) := by decide +kernel
theorem dX4_hottestLine_61 : decode cX4_hottestLine 61 = .ok (.iload_n 3, 1) := by decide +kernel
theorem dX4_hottestLine_62 : decode cX4_hottestLine 62 = .ok (.if_icmp .le 14, 3) := by decide +kernel
theorem dX4_hottestLine_65 : decode cX4_hottestLine 65 = .ok (.aload_n 0, 1) := by decide +kernel
theorem dX4_hottestLine_66 : decode cX4_hottestLine 66 = .ok (.getfield 9, 3) := by decide +kernel
theorem dX4_hottestLine_69 : decode cX4_hottestLine 69 = .ok (.iload 4, 2) := by decide +kernel
theorem dX4_hottestLine_71 : decode cX4_hottestLine 71 = .ok (.iaload, 1) := by decide +kernel
theorem dX4_hottestLine_72 : decode cX4_hottestLine 72 = .ok (.istore_n 3, 1) := by decide +kernel
theorem dX4_hottestLine_73 : decode cX4_hottestLine 73 = .ok (.iload 4, 2) := by decide +kernel
theorem dX4_hottestLine_75 : decode cX4_hottestLine 75 = .ok (.istore_n 2, 1) := by decide +kernel
theorem dX4_hottestLine_76 : decode cX4_hottestLine 76 = .ok (.iinc 4 1, 3) := by decide +kernel
theorem dX4_hottestLine_79 : decode cX4_hottestLine 79 = .ok (.goto (-33), 3) := by decide +kernel
theorem dX4_hottestLine_82 : decode cX4_hottestLine 82 = .ok (.iload_n 2, 1) := by decide +kernel
theorem dX4_hottestLine_83 : decode cX4_hottestLine 83 = .ok (.ireturn, 1) := by decide +kernel
def X4_hottestLine_b46 (v4 v5 v6 : Int32) (m7 : gM) (k46 : Int32 → Int32 → Int32 → gM → Option (Int32 × gM)) : Option (Int32 × gM) :=
  if 1024 ≤ v6 then (some (v4, m7)) else (gAt m7 34 0 v6 (fun (x8 : Int32) => if x8 ≤ v5 then (gLet (v6 + 1) (fun (x9 : Int32) => k46 v4 v5 x9 m7)) else (gAt m7 34 0 v6 (fun (x10 : Int32) => gLet (v6 + 1) (fun (x11 : Int32) => k46 v6 x10 x11 m7)))))
def X4_hottestLine_b10 (o1 : Nat) (j39 : gM → Option (Int32 × gM)) (v12 : Int32) (m13 : gM) (k10 : Int32 → gM → Option (Int32 × gM)) : Option (Int32 × gM) :=
  if (m13 5 o1 2) ≤ v12 then (j39 m13) else (gAt m13 38 o1 v12 (fun (x14 : Int32) => gAt m13 34 0 x14 (fun (x15 : Int32) => gPut m13 34 0 x14 (x15 + 1) (fun (m16 : gM) => gLet (v12 + 1) (fun (x17 : Int32) => k10 x17 m16)))))
def X4_hottestLine (o1 : Nat) (m : gM) : Option (Int32 × gM) :=
  gCall (J7_fill_53178 34 0 0 m) (fun (r2 : Unit) (m1 : gM) => gJ0 (fun (m3 : gM) => gL3 FU X4_hottestLine_b46 (-1) 0 0 m3) (fun (j39 : gM → Option (Int32 × gM)) => gL1 FU (X4_hottestLine_b10 o1 j39) 0 m1))
set_option maxRecDepth 100000 in
set_option maxHeartbeats 4000000 in
theorem c_X4_hottestLine (o1 : Nat) (m : gM) : gCon eI yX4_hottestLine cX4_hottestLine 5 (some .int) 1 [.inr (4, 0), .inr (5, o1)] m (X4_hottestLine o1 m) := by
  refine gCon.of (lv := [some (.inr (4, 0)), some (.inr (5, o1)), none, none, none]) (by decide +kernel) (Nat.le_of_ble_eq_true rfl) rfl (fun X C => ?_)
  unfold X4_hottestLine
  refine r_aload_n C dX4_hottestLine_0 rfl rfl ?_
  refine r_get (v := .inr (34, 0)) C fl_X4_9 dX4_hottestLine_1 rfl ?_
  refine r_iconst (v := 0) C dX4_hottestLine_4 (by decide) ?_
  refine r_insU (As := [.inr (34, 0), .inl 0]) (st := []) C il_X4_24 co_J7_fill_53178 (c_J7_fill_53178 34 0 0 rfl m) (by decide) (by decide) rfl rfl (Nat.le_of_ble_eq_true rfl) dX4_hottestLine_5 (fun r2 m1 => ?_)
  refine r_iconst (v := 0) C dX4_hottestLine_8 (by decide) ?_
  refine r_istore_n (lv' := [some (.inr (4, 0)), some (.inr (5, o1)), some (.inl 0), none, none]) C dX4_hottestLine_9 rfl (by decide) rfl ?_
  refine r_j0 39 [some (.inr (4, 0)), none, none, none, none] [] (fun m3 => ?_) (fun j39 hj39 => ?_)
  · refine r_iconst (v := (-1)) C dX4_hottestLine_39 (by decide) ?_
    refine r_istore_n (lv' := [some (.inr (4, 0)), none, some (.inl (-1)), none, none]) C dX4_hottestLine_40 rfl (by decide) rfl ?_
    refine r_iconst (v := 0) C dX4_hottestLine_41 (by decide) ?_
    refine r_istore_n (lv' := [some (.inr (4, 0)), none, some (.inl (-1)), some (.inl 0), none]) C dX4_hottestLine_42 rfl (by decide) rfl ?_
    refine r_iconst (v := 0) C dX4_hottestLine_43 (by decide) ?_
    refine r_istore (lv' := [some (.inr (4, 0)), none, some (.inl (-1)), some (.inl 0), some (.inl 0)]) C dX4_hottestLine_44 (by decide) rfl ?_
    refine r_weak (lv' := [some (.inr (4, 0)), none, some (.inl (-1)), some (.inl 0), some (.inl 0)]) ⟨rfl, rfl, rfl, rfl, trivial⟩ ?_
    refine r_l3 (pj := 46) (fun v4 v5 v6 => [some (.inr (4, 0)), none, some (.inl v4), some (.inl v5), some (.inl v6)]) (fun v4 v5 v6 m7 k46 hk46 => ?_) _ _ _ _ _
    unfold X4_hottestLine_b46
    refine r_iload C dX4_hottestLine_46 rfl ?_
    refine r_sipush (v := 1024) C dX4_hottestLine_48 (by decide) ?_
    refine r_icmp_ge (tgt := 82) C dX4_hottestLine_51 (by decide) ?_ ?_
    · refine r_iload_n C dX4_hottestLine_82 rfl rfl ?_
      exact r_ireturn C dX4_hottestLine_83
    refine r_aload_n C dX4_hottestLine_54 rfl rfl ?_
    refine r_get (v := .inr (34, 0)) C fl_X4_9 dX4_hottestLine_55 rfl ?_
    refine r_iload C dX4_hottestLine_58 rfl ?_
    refine r_iald C rfl dX4_hottestLine_60 (fun x8 => ?_)
    refine r_iload_n C dX4_hottestLine_61 rfl rfl ?_
    refine r_icmp_le (tgt := 76) C dX4_hottestLine_62 (by decide) ?_ ?_
    · refine r_iinc (v := 1) C dX4_hottestLine_76 (by decide) rfl (by decide) (fun x9 => ?_)
      show gw X eI _ [some (.inr (4, 0)), none, some (.inl v4), some (.inl v5), some (.inl x9)] _ _ _
      refine r_goto (tgt := 46) C dX4_hottestLine_79 (by decide) ?_
      exact r_weak (lv' := [some (.inr (4, 0)), none, some (.inl v4), some (.inl v5), some (.inl x9)]) ⟨rfl, rfl, rfl, rfl, trivial⟩ (hk46 _ _ _ _)
    refine r_aload_n C dX4_hottestLine_65 rfl rfl ?_
    refine r_get (v := .inr (34, 0)) C fl_X4_9 dX4_hottestLine_66 rfl ?_
    refine r_iload C dX4_hottestLine_69 rfl ?_
    refine r_iald C rfl dX4_hottestLine_71 (fun x10 => ?_)
    refine r_istore_n (lv' := [some (.inr (4, 0)), none, some (.inl v4), some (.inl x10), some (.inl v6)]) C dX4_hottestLine_72 rfl (by decide) rfl ?_
    refine r_iload C dX4_hottestLine_73 rfl ?_
    refine r_istore_n (lv' := [some (.inr (4, 0)), none, some (.inl v6), some (.inl x10), some (.inl v6)]) C dX4_hottestLine_75 rfl (by decide) rfl ?_
    refine r_iinc (v := 1) C dX4_hottestLine_76 (by decide) rfl (by decide) (fun x11 => ?_)
    show gw X eI _ [some (.inr (4, 0)), none, some (.inl v6), some (.inl x10), some (.inl x11)] _ _ _
    refine r_goto (tgt := 46) C dX4_hottestLine_79 (by decide) ?_
    exact r_weak (lv' := [some (.inr (4, 0)), none, some (.inl v6), some (.inl x10), some (.inl x11)]) ⟨rfl, rfl, rfl, rfl, trivial⟩ (hk46 _ _ _ _)
  refine r_weak (lv' := [some (.inr (4, 0)), some (.inr (5, o1)), some (.inl 0), none, none]) ⟨rfl, rfl, rfl, trivial⟩ ?_
  refine r_l1 (pj := 10) (fun v12 => [some (.inr (4, 0)), some (.inr (5, o1)), some (.inl v12), none, none]) (fun v12 m13 k10 hk10 => ?_) _ _ _
  unfold X4_hottestLine_b10
  refine r_iload_n C dX4_hottestLine_10 rfl rfl ?_
  refine r_aload_n C dX4_hottestLine_11 rfl rfl ?_
  refine r_get (v := .inl (m13 5 o1 2)) C fl_X4_30 dX4_hottestLine_12 rfl ?_
  refine r_icmp_ge (tgt := 39) C dX4_hottestLine_15 (by decide) ?_ ?_
  · exact r_weak (lv' := [some (.inr (4, 0)), none, none, none, none]) ⟨rfl, trivial⟩ (hj39 _)
  refine r_aload_n C dX4_hottestLine_18 rfl rfl ?_
  refine r_get (v := .inr (34, 0)) C fl_X4_9 dX4_hottestLine_19 rfl ?_
  refine r_aload_n C dX4_hottestLine_22 rfl rfl ?_
  refine r_get (v := .inr (38, o1)) C fl_X4_36 dX4_hottestLine_23 rfl ?_
  refine r_iload_n C dX4_hottestLine_26 rfl rfl ?_
  refine r_iald C rfl dX4_hottestLine_27 (fun x14 => ?_)
  refine r_dup2 C dX4_hottestLine_28 ?_
  refine r_iald C rfl dX4_hottestLine_29 (fun x15 => ?_)
  refine r_iconst (v := 1) C dX4_hottestLine_30 (by decide) ?_
  refine r_iadd C dX4_hottestLine_31 ?_
  refine r_iast C rfl dX4_hottestLine_32 (fun m16 => ?_)
  refine r_iinc (v := 1) C dX4_hottestLine_33 (by decide) rfl (by decide) (fun x17 => ?_)
  show gw X eI _ [some (.inr (4, 0)), some (.inr (5, o1)), some (.inl x17), none, none] _ _ _
  refine r_goto (tgt := 10) C dX4_hottestLine_36 (by decide) ?_
  exact r_weak (lv' := [some (.inr (4, 0)), some (.inr (5, o1)), some (.inl x17), none, none]) ⟨rfl, rfl, rfl, trivial⟩ (hk10 _ _)
theorem dX4_distanceAt_0 : decode cX4_distanceAt 0 = .ok (.aload_n 0, 1) := by decide +kernel
theorem dX4_distanceAt_1 : decode cX4_distanceAt 1 = .ok (.getfield 9, 3) := by decide +kernel
theorem dX4_distanceAt_4 : decode cX4_distanceAt 4 = .ok (.iconst 0, 1) := by decide +kernel
theorem dX4_distanceAt_5 : decode cX4_distanceAt 5 = .ok (.invokestatic 24, 3) := by decide +kernel
theorem dX4_distanceAt_8 : decode cX4_distanceAt 8 = .ok (.iconst 0, 1) := by decide +kernel
theorem dX4_distanceAt_9 : decode cX4_distanceAt 9 = .ok (.istore_n 3, 1) := by decide +kernel
theorem dX4_distanceAt_10 : decode cX4_distanceAt 10 = .ok (.iload_n 2, 1) := by decide +kernel
theorem dX4_distanceAt_11 : decode cX4_distanceAt 11 = .ok (.iconst 1, 1) := by decide +kernel
theorem dX4_distanceAt_12 : decode cX4_distanceAt 12 = .ok (.isub, 1) := by decide +kernel
theorem dX4_distanceAt_13 : decode cX4_distanceAt 13 = .ok (.istore 4, 2) := by decide +kernel
theorem dX4_distanceAt_15 : decode cX4_distanceAt 15 = .ok (.iload 4, 2) := by decide +kernel
theorem dX4_distanceAt_17 : decode cX4_distanceAt 17 = .ok (.ifCond .lt 52, 3) := by decide +kernel
theorem dX4_distanceAt_20 : decode cX4_distanceAt 20 = .ok (.aload_n 1, 1) := by decide +kernel
theorem dX4_distanceAt_21 : decode cX4_distanceAt 21 = .ok (.getfield 36, 3) := by decide +kernel
theorem dX4_distanceAt_24 : decode cX4_distanceAt 24 = .ok (.iload 4, 2) := by decide +kernel
theorem dX4_distanceAt_26 : decode cX4_distanceAt 26 = .ok (.iaload, 1) := by decide +kernel
theorem dX4_distanceAt_27 : decode cX4_distanceAt 27 = .ok (.istore 5, 2) := by decide +kernel
theorem dX4_distanceAt_29 : decode cX4_distanceAt 29 = .ok (.iload 5, 2) := by decide +kernel
theorem dX4_distanceAt_31 : decode cX4_distanceAt 31 = .ok (.aload_n 1, 1) := by decide +kernel
theorem dX4_distanceAt_32 : decode cX4_distanceAt 32 = .ok (.getfield 36, 3) := by decide +kernel
theorem dX4_distanceAt_35 : decode cX4_distanceAt 35 = .ok (.iload_n 2, 1) := by decide +kernel
theorem dX4_distanceAt_36 : decode cX4_distanceAt 36 = .ok (.iaload, 1) := by decide +kernel
theorem dX4_distanceAt_37 : decode cX4_distanceAt 37 = .ok (.if_icmp .ne 5, 3) := by decide +kernel
theorem dX4_distanceAt_40 : decode cX4_distanceAt 40 = .ok (.iload_n 3, 1) := by decide +kernel
theorem dX4_distanceAt_41 : decode cX4_distanceAt 41 = .ok (.ireturn, 1) := by decide +kernel
theorem dX4_distanceAt_42 : decode cX4_distanceAt 42 = .ok (.aload_n 0, 1) := by decide +kernel
theorem dX4_distanceAt_43 : decode cX4_distanceAt 43 = .ok (.getfield 9, 3) := by decide +kernel
theorem dX4_distanceAt_46 : decode cX4_distanceAt 46 = .ok (.iload 5, 2) := by decide +kernel
theorem dX4_distanceAt_48 : decode cX4_distanceAt 48 = .ok (.iaload, 1) := by decide +kernel
theorem dX4_distanceAt_49 : decode cX4_distanceAt 49 = .ok (.ifCond .ne 14, 3) := by decide +kernel
theorem dX4_distanceAt_52 : decode cX4_distanceAt 52 = .ok (.aload_n 0, 1) := by decide +kernel
theorem dX4_distanceAt_53 : decode cX4_distanceAt 53 = .ok (.getfield 9, 3) := by decide +kernel
theorem dX4_distanceAt_56 : decode cX4_distanceAt 56 = .ok (.iload 5, 2) := by decide +kernel
theorem dX4_distanceAt_58 : decode cX4_distanceAt 58 = .ok (.iconst 1, 1) := by decide +kernel
theorem dX4_distanceAt_59 : decode cX4_distanceAt 59 = .ok (.iastore, 1) := by decide +kernel
theorem dX4_distanceAt_60 : decode cX4_distanceAt 60 = .ok (.iinc 3 1, 3) := by decide +kernel
theorem dX4_distanceAt_63 : decode cX4_distanceAt 63 = .ok (.iinc 4 (-1), 3) := by decide +kernel
theorem dX4_distanceAt_66 : decode cX4_distanceAt 66 = .ok (.goto (-51), 3) := by decide +kernel
theorem dX4_distanceAt_69 : decode cX4_distanceAt 69 = .ok (.iconst (-1), 1) := by decide +kernel
theorem dX4_distanceAt_70 : decode cX4_distanceAt 70 = .ok (.ireturn, 1) := by decide +kernel
def X4_distanceAt_b15 (o1 : Nat) (a2 : Int32) (v4 v5 : Int32) (m6 : gM) (k15 : Int32 → Int32 → gM → Option (Int32 × gM)) : Option (Int32 × gM) :=
  if v5 < 0 then (some ((-1), m6)) else (gAt m6 38 o1 v5 (fun (x7 : Int32) => gAt m6 38 o1 a2 (fun (x8 : Int32) => if x7 = x8 then (some (v4, m6)) else (gAt m6 34 0 x7 (fun (x9 : Int32) => if x9 = 0 then (gPut m6 34 0 x7 1 (fun (m11 : gM) => gLet (v4 + 1) (fun (x12 : Int32) => gLet (v5 + (-1)) (fun (x13 : Int32) => k15 x12 x13 m11)))) else (gLet (v5 + (-1)) (fun (x10 : Int32) => k15 v4 x10 m6)))))))
def X4_distanceAt (o1 : Nat) (a2 : Int32) (m : gM) : Option (Int32 × gM) :=
  gCall (J7_fill_53178 34 0 0 m) (fun (r2 : Unit) (m1 : gM) => gLet (a2 - 1) (fun (x3 : Int32) => gL2 FU (X4_distanceAt_b15 o1 a2) 0 x3 m1))
set_option maxRecDepth 100000 in
set_option maxHeartbeats 4000000 in
theorem c_X4_distanceAt (o1 : Nat) (a2 : Int32) (m : gM) : gCon eI yX4_distanceAt cX4_distanceAt 6 (some .int) 1 [.inr (4, 0), .inr (5, o1), .inl a2] m (X4_distanceAt o1 a2 m) := by
  refine gCon.of (lv := [some (.inr (4, 0)), some (.inr (5, o1)), some (.inl a2), none, none, none]) (by decide +kernel) (Nat.le_of_ble_eq_true rfl) rfl (fun X C => ?_)
  unfold X4_distanceAt
  refine r_aload_n C dX4_distanceAt_0 rfl rfl ?_
  refine r_get (v := .inr (34, 0)) C fl_X4_9 dX4_distanceAt_1 rfl ?_
  refine r_iconst (v := 0) C dX4_distanceAt_4 (by decide) ?_
  refine r_insU (As := [.inr (34, 0), .inl 0]) (st := []) C il_X4_24 co_J7_fill_53178 (c_J7_fill_53178 34 0 0 rfl m) (by decide) (by decide) rfl rfl (Nat.le_of_ble_eq_true rfl) dX4_distanceAt_5 (fun r2 m1 => ?_)
  refine r_iconst (v := 0) C dX4_distanceAt_8 (by decide) ?_
  refine r_istore_n (lv' := [some (.inr (4, 0)), some (.inr (5, o1)), some (.inl a2), some (.inl 0), none, none]) C dX4_distanceAt_9 rfl (by decide) rfl ?_
  refine r_iload_n C dX4_distanceAt_10 rfl rfl ?_
  refine r_iconst (v := 1) C dX4_distanceAt_11 (by decide) ?_
  refine r_isub C dX4_distanceAt_12 ?_
  refine r_let (fun x3 => ?_)
  refine r_istore (lv' := [some (.inr (4, 0)), some (.inr (5, o1)), some (.inl a2), some (.inl 0), some (.inl x3), none]) C dX4_distanceAt_13 (by decide) rfl ?_
  refine r_weak (lv' := [some (.inr (4, 0)), some (.inr (5, o1)), some (.inl a2), some (.inl 0), some (.inl x3), none]) ⟨rfl, rfl, rfl, rfl, rfl, trivial⟩ ?_
  refine r_l2 (pj := 15) (fun v4 v5 => [some (.inr (4, 0)), some (.inr (5, o1)), some (.inl a2), some (.inl v4), some (.inl v5), none]) (fun v4 v5 m6 k15 hk15 => ?_) _ _ _ _
  unfold X4_distanceAt_b15
  refine r_iload C dX4_distanceAt_15 rfl ?_
  refine r_if_lt (tgt := 69) C dX4_distanceAt_17 (by decide) ?_ ?_
  · refine r_iconst (v := (-1)) C dX4_distanceAt_69 (by decide) ?_
    exact r_ireturn C dX4_distanceAt_70
  refine r_aload_n C dX4_distanceAt_20 rfl rfl ?_
  refine r_get (v := .inr (38, o1)) C fl_X4_36 dX4_distanceAt_21 rfl ?_
  refine r_iload C dX4_distanceAt_24 rfl ?_
  refine r_iald C rfl dX4_distanceAt_26 (fun x7 => ?_)
  refine r_istore (lv' := [some (.inr (4, 0)), some (.inr (5, o1)), some (.inl a2), some (.inl v4), some (.inl v5), some (.inl x7)]) C dX4_distanceAt_27 (by decide) rfl ?_
  refine r_iload C dX4_distanceAt_29 rfl ?_
  refine r_aload_n C dX4_distanceAt_31 rfl rfl ?_
  refine r_get (v := .inr (38, o1)) C fl_X4_36 dX4_distanceAt_32 rfl ?_
  refine r_iload_n C dX4_distanceAt_35 rfl rfl ?_
  refine r_iald C rfl dX4_distanceAt_36 (fun x8 => ?_)
  refine r_icmp_ne (tgt := 42) C dX4_distanceAt_37 (by decide) ?_ ?_
  · refine r_aload_n C dX4_distanceAt_42 rfl rfl ?_
    refine r_get (v := .inr (34, 0)) C fl_X4_9 dX4_distanceAt_43 rfl ?_
    refine r_iload C dX4_distanceAt_46 rfl ?_
    refine r_iald C rfl dX4_distanceAt_48 (fun x9 => ?_)
    refine r_if_ne (tgt := 63) C dX4_distanceAt_49 (by decide) ?_ ?_
    · refine r_iinc (v := (-1)) C dX4_distanceAt_63 (by decide) rfl (by decide) (fun x10 => ?_)
      show gw X eI _ [some (.inr (4, 0)), some (.inr (5, o1)), some (.inl a2), some (.inl v4), some (.inl x10), some (.inl x7)] _ _ _
      refine r_goto (tgt := 15) C dX4_distanceAt_66 (by decide) ?_
      exact r_weak (lv' := [some (.inr (4, 0)), some (.inr (5, o1)), some (.inl a2), some (.inl v4), some (.inl x10), none]) ⟨rfl, rfl, rfl, rfl, rfl, trivial⟩ (hk15 _ _ _)
    refine r_aload_n C dX4_distanceAt_52 rfl rfl ?_
    refine r_get (v := .inr (34, 0)) C fl_X4_9 dX4_distanceAt_53 rfl ?_
    refine r_iload C dX4_distanceAt_56 rfl ?_
    refine r_iconst (v := 1) C dX4_distanceAt_58 (by decide) ?_
    refine r_iast C rfl dX4_distanceAt_59 (fun m11 => ?_)
    refine r_iinc (v := 1) C dX4_distanceAt_60 (by decide) rfl (by decide) (fun x12 => ?_)
    show gw X eI _ [some (.inr (4, 0)), some (.inr (5, o1)), some (.inl a2), some (.inl x12), some (.inl v5), some (.inl x7)] _ _ _
    refine r_iinc (v := (-1)) C dX4_distanceAt_63 (by decide) rfl (by decide) (fun x13 => ?_)
    show gw X eI _ [some (.inr (4, 0)), some (.inr (5, o1)), some (.inl a2), some (.inl x12), some (.inl x13), some (.inl x7)] _ _ _
    refine r_goto (tgt := 15) C dX4_distanceAt_66 (by decide) ?_
    exact r_weak (lv' := [some (.inr (4, 0)), some (.inr (5, o1)), some (.inl a2), some (.inl x12), some (.inl x13), none]) ⟨rfl, rfl, rfl, rfl, rfl, trivial⟩ (hk15 _ _ _)
  refine r_iload_n C dX4_distanceAt_40 rfl rfl ?_
  exact r_ireturn C dX4_distanceAt_41
theorem dX4_placeHolding_0 : decode cX4_placeHolding 0 = .ok (.iconst 0, 1) := by decide +kernel
theorem dX4_placeHolding_1 : decode cX4_placeHolding 1 = .ok (.istore_n 2, 1) := by decide +kernel
theorem dX4_placeHolding_2 : decode cX4_placeHolding 2 = .ok (.iload_n 2, 1) := by decide +kernel
theorem dX4_placeHolding_3 : decode cX4_placeHolding 3 = .ok (.aload_n 0, 1) := by decide +kernel
theorem dX4_placeHolding_4 : decode cX4_placeHolding 4 = .ok (.getfield 45, 3) := by decide +kernel
theorem dX4_placeHolding_7 : decode cX4_placeHolding 7 = .ok (.if_icmp .ge 21, 3) := by decide +kernel
theorem dX4_placeHolding_10 : decode cX4_placeHolding 10 = .ok (.aload_n 0, 1) := by decide +kernel
theorem dX4_placeHolding_11 : decode cX4_placeHolding 11 = .ok (.getfield 18, 3) := by decide +kernel
theorem dX4_placeHolding_14 : decode cX4_placeHolding 14 = .ok (.iload_n 2, 1) := by decide +kernel
theorem dX4_placeHolding_15 : decode cX4_placeHolding 15 = .ok (.iaload, 1) := by decide +kernel
theorem dX4_placeHolding_16 : decode cX4_placeHolding 16 = .ok (.iload_n 1, 1) := by decide +kernel
theorem dX4_placeHolding_17 : decode cX4_placeHolding 17 = .ok (.if_icmp .ne 5, 3) := by decide +kernel
theorem dX4_placeHolding_20 : decode cX4_placeHolding 20 = .ok (.iload_n 2, 1) := by decide +kernel
theorem dX4_placeHolding_21 : decode cX4_placeHolding 21 = .ok (.ireturn, 1) := by decide +kernel
theorem dX4_placeHolding_22 : decode cX4_placeHolding 22 = .ok (.iinc 2 1, 3) := by decide +kernel
theorem dX4_placeHolding_25 : decode cX4_placeHolding 25 = .ok (.goto (-23), 3) := by decide +kernel
theorem dX4_placeHolding_28 : decode cX4_placeHolding 28 = .ok (.iconst (-1), 1) := by decide +kernel
theorem dX4_placeHolding_29 : decode cX4_placeHolding 29 = .ok (.ireturn, 1) := by decide +kernel
def X4_placeHolding_b2 (a1 : Int32) (v1 : Int32) (m2 : gM) (k2 : Int32 → gM → Option (Int32 × gM)) : Option (Int32 × gM) :=
  if (m2 4 0 4) ≤ v1 then (some ((-1), m2)) else (gAt m2 36 0 v1 (fun (x3 : Int32) => if x3 = a1 then (some (v1, m2)) else (gLet (v1 + 1) (fun (x4 : Int32) => k2 x4 m2))))
def X4_placeHolding (a1 : Int32) (m : gM) : Option (Int32 × gM) :=
  gL1 FU (X4_placeHolding_b2 a1) 0 m
set_option maxRecDepth 100000 in
set_option maxHeartbeats 4000000 in
theorem c_X4_placeHolding (a1 : Int32) (m : gM) : gCon eI yX4_placeHolding cX4_placeHolding 3 (some .int) 0 [.inr (4, 0), .inl a1] m (X4_placeHolding a1 m) := by
  refine gCon.of (lv := [some (.inr (4, 0)), some (.inl a1), none]) (by decide +kernel) (Nat.le_of_ble_eq_true rfl) rfl (fun X C => ?_)
  unfold X4_placeHolding
  refine r_iconst (v := 0) C dX4_placeHolding_0 (by decide) ?_
  refine r_istore_n (lv' := [some (.inr (4, 0)), some (.inl a1), some (.inl 0)]) C dX4_placeHolding_1 rfl (by decide) rfl ?_
  refine r_weak (lv' := [some (.inr (4, 0)), some (.inl a1), some (.inl 0)]) ⟨rfl, rfl, rfl, trivial⟩ ?_
  refine r_l1 (pj := 2) (fun v1 => [some (.inr (4, 0)), some (.inl a1), some (.inl v1)]) (fun v1 m2 k2 hk2 => ?_) _ _ _
  unfold X4_placeHolding_b2
  refine r_iload_n C dX4_placeHolding_2 rfl rfl ?_
  refine r_aload_n C dX4_placeHolding_3 rfl rfl ?_
  refine r_get (v := .inl (m2 4 0 4)) C fl_X4_45 dX4_placeHolding_4 rfl ?_
  refine r_icmp_ge (tgt := 28) C dX4_placeHolding_7 (by decide) ?_ ?_
  · refine r_iconst (v := (-1)) C dX4_placeHolding_28 (by decide) ?_
    exact r_ireturn C dX4_placeHolding_29
  refine r_aload_n C dX4_placeHolding_10 rfl rfl ?_
  refine r_get (v := .inr (36, 0)) C fl_X4_18 dX4_placeHolding_11 rfl ?_
  refine r_iload_n C dX4_placeHolding_14 rfl rfl ?_
  refine r_iald C rfl dX4_placeHolding_15 (fun x3 => ?_)
  refine r_iload_n C dX4_placeHolding_16 rfl rfl ?_
  refine r_icmp_ne (tgt := 22) C dX4_placeHolding_17 (by decide) ?_ ?_
  · refine r_iinc (v := 1) C dX4_placeHolding_22 (by decide) rfl (by decide) (fun x4 => ?_)
    show gw X eI _ [some (.inr (4, 0)), some (.inl a1), some (.inl x4)] _ _ _
    refine r_goto (tgt := 2) C dX4_placeHolding_25 (by decide) ?_
    exact r_weak (lv' := [some (.inr (4, 0)), some (.inl a1), some (.inl x4)]) ⟨rfl, rfl, rfl, trivial⟩ (hk2 _ _)
  refine r_iload_n C dX4_placeHolding_20 rfl rfl ?_
  exact r_ireturn C dX4_placeHolding_21
theorem dX4_missesByRecency_0 : decode cX4_missesByRecency 0 = .ok (.aload_n 0, 1) := by decide +kernel
theorem dX4_missesByRecency_1 : decode cX4_missesByRecency 1 = .ok (.iconst 0, 1) := by decide +kernel
theorem dX4_missesByRecency_2 : decode cX4_missesByRecency 2 = .ok (.putfield 45, 3) := by decide +kernel
theorem dX4_missesByRecency_5 : decode cX4_missesByRecency 5 = .ok (.iconst 0, 1) := by decide +kernel
theorem dX4_missesByRecency_6 : decode cX4_missesByRecency 6 = .ok (.istore_n 3, 1) := by decide +kernel
theorem dX4_missesByRecency_7 : decode cX4_missesByRecency 7 = .ok (.iconst 0, 1) := by decide +kernel
theorem dX4_missesByRecency_8 : decode cX4_missesByRecency 8 = .ok (.istore 4, 2) := by decide +kernel
theorem dX4_missesByRecency_10 : decode cX4_missesByRecency 10 = .ok (.iload 4, 2) := by decide +kernel
theorem dX4_missesByRecency_12 : decode cX4_missesByRecency 12 = .ok (.aload_n 1, 1) := by decide +kernel
theorem dX4_missesByRecency_13 : decode cX4_missesByRecency 13 = .ok (.getfield 30, 3) := by decide +kernel
theorem dX4_missesByRecency_16 : decode cX4_missesByRecency 16 = .ok (.if_icmp .ge 109, 3) := by decide +kernel
theorem dX4_missesByRecency_19 : decode cX4_missesByRecency 19 = .ok (.aload_n 1, 1) := by decide +kernel
theorem dX4_missesByRecency_20 : decode cX4_missesByRecency 20 = .ok (.getfield 36, 3) := by decide +kernel
theorem dX4_missesByRecency_23 : decode cX4_missesByRecency 23 = .ok (.iload 4, 2) := by decide +kernel
theorem dX4_missesByRecency_25 : decode cX4_missesByRecency 25 = .ok (.iaload, 1) := by decide +kernel
theorem dX4_missesByRecency_26 : decode cX4_missesByRecency 26 = .ok (.istore 5, 2) := by decide +kernel
theorem dX4_missesByRecency_28 : decode cX4_missesByRecency 28 = .ok (.aload_n 0, 1) := by decide +kernel
theorem dX4_missesByRecency_29 : decode cX4_missesByRecency 29 = .ok (.iload 5, 2) := by decide +kernel
theorem dX4_missesByRecency_31 : decode cX4_missesByRecency 31 = .ok (.invokevirtual 48, 3) := by decide +kernel
theorem dX4_missesByRecency_34 : decode cX4_missesByRecency 34 = .ok (.istore 6, 2) := by decide +kernel
theorem dX4_missesByRecency_36 : decode cX4_missesByRecency 36 = .ok (.iload 6, 2) := by decide +kernel
theorem dX4_missesByRecency_38 : decode cX4_missesByRecency 38 = .ok (.iconst (-1), 1) := by decide +kernel
theorem dX4_missesByRecency_39 : decode cX4_missesByRecency 39 = .ok (.if_icmp .ne 41, 3) := by decide +kernel
theorem dX4_missesByRecency_42 : decode cX4_missesByRecency 42 = .ok (.iinc 3 1, 3) := by decide +kernel
theorem dX4_missesByRecency_45 : decode cX4_missesByRecency 45 = .ok (.aload_n 0, 1) := by decide +kernel
theorem dX4_missesByRecency_46 : decode cX4_missesByRecency 46 = .ok (.getfield 45, 3) := by decide +kernel
theorem dX4_missesByRecency_49 : decode cX4_missesByRecency 49 = .ok (.iload_n 2, 1) := by decide +kernel
theorem dX4_missesByRecency_50 : decode cX4_missesByRecency 50 = .ok (.if_icmp .ge 22, 3) := by decide +kernel
theorem dX4_missesByRecency_53 : decode cX4_missesByRecency 53 = .ok (.aload_n 0, 1) := by decide +kernel
theorem dX4_missesByRecency_54 : decode cX4_missesByRecency 54 = .ok (.getfield 45, 3) := by decide +kernel
theorem dX4_missesByRecency_57 : decode cX4_missesByRecency 57 = .ok (.bipush 64, 2) := by decide +kernel
theorem dX4_missesByRecency_59 : decode cX4_missesByRecency 59 = .ok (.if_icmp .ge 13, 3) := by decide +kernel
theorem dX4_missesByRecency_62 : decode cX4_missesByRecency 62 = .ok (.aload_n 0, 1) := by decide +kernel
theorem dX4_missesByRecency_63 : decode cX4_missesByRecency 63 = .ok (.dup, 1) := by decide +kernel
theorem dX4_missesByRecency_64 : decode cX4_missesByRecency 64 = .ok (.getfield 45, 3) := by decide +kernel
theorem dX4_missesByRecency_67 : decode cX4_missesByRecency 67 = .ok (.iconst 1, 1) := by decide +kernel
theorem dX4_missesByRecency_68 : decode cX4_missesByRecency 68 = .ok (.iadd, 1) := by decide +kernel
theorem dX4_missesByRecency_69 : decode cX4_missesByRecency 69 = .ok (.putfield 45, 3) := by decide +kernel
theorem dX4_missesByRecency_72 : decode cX4_missesByRecency 72 = .ok (.aload_n 0, 1) := by decide +kernel
theorem dX4_missesByRecency_73 : decode cX4_missesByRecency 73 = .ok (.getfield 45, 3) := by decide +kernel
theorem dX4_missesByRecency_76 : decode cX4_missesByRecency 76 = .ok (.iconst 1, 1) := by decide +kernel
theorem dX4_missesByRecency_77 : decode cX4_missesByRecency 77 = .ok (.isub, 1) := by decide +kernel
theorem dX4_missesByRecency_78 : decode cX4_missesByRecency 78 = .ok (.istore 6, 2) := by decide +kernel
theorem dX4_missesByRecency_80 : decode cX4_missesByRecency 80 = .ok (.iload 6, 2) := by decide +kernel
theorem dX4_missesByRecency_82 : decode cX4_missesByRecency 82 = .ok (.istore 7, 2) := by decide +kernel
theorem dX4_missesByRecency_84 : decode cX4_missesByRecency 84 = .ok (.iload 7, 2) := by decide +kernel
theorem dX4_missesByRecency_86 : decode cX4_missesByRecency 86 = .ok (.ifCond .le 25, 3) := by decide +kernel
theorem dX4_missesByRecency_89 : decode cX4_missesByRecency 89 = .ok (.aload_n 0, 1) := by decide +kernel
theorem dX4_missesByRecency_90 : decode cX4_missesByRecency 90 = .ok (.getfield 18, 3) := by decide +kernel
theorem dX4_missesByRecency_93 : decode cX4_missesByRecency 93 = .ok (.iload 7, 2) := by decide +kernel
theorem dX4_missesByRecency_95 : decode cX4_missesByRecency 95 = .ok (.aload_n 0, 1) := by decide +kernel
theorem dX4_missesByRecency_96 : decode cX4_missesByRecency 96 = .ok (.getfield 18, 3) := by decide +kernel
theorem dX4_missesByRecency_99 : decode cX4_missesByRecency 99 = .ok (.iload 7, 2) := by decide +kernel
theorem dX4_missesByRecency_101 : decode cX4_missesByRecency 101 = .ok (.iconst 1, 1) := by decide +kernel
theorem dX4_missesByRecency_102 : decode cX4_missesByRecency 102 = .ok (.isub, 1) := by decide +kernel
theorem dX4_missesByRecency_103 : decode cX4_missesByRecency 103 = .ok (.iaload, 1) := by decide +kernel
theorem dX4_missesByRecency_104 : decode cX4_missesByRecency 104 = .ok (.iastore, 1) := by decide +kernel
theorem dX4_missesByRecency_105 : decode cX4_missesByRecency 105 = .ok (.iinc 7 (-1), 3) := by decide +kernel
theorem dX4_missesByRecency_108 : decode cX4_missesByRecency 108 = .ok (.goto (-24), 3) := by decide +kernel
theorem dX4_missesByRecency_111 : decode cX4_missesByRecency 111 = .ok (.aload_n 0, 1) := by decide +kernel
theorem dX4_missesByRecency_112 : decode cX4_missesByRecency 112 = .ok (.getfield 18, 3) := by decide +kernel
theorem dX4_missesByRecency_115 : decode cX4_missesByRecency 115 = .ok (.iconst 0, 1) := by decide +kernel
theorem dX4_missesByRecency_116 : decode cX4_missesByRecency 116 = .ok (.iload 5, 2) := by decide +kernel
theorem dX4_missesByRecency_118 : decode cX4_missesByRecency 118 = .ok (.iastore, 1) := by decide +kernel
theorem dX4_missesByRecency_119 : decode cX4_missesByRecency 119 = .ok (.iinc 4 1, 3) := by decide +kernel
theorem dX4_missesByRecency_122 : decode cX4_missesByRecency 122 = .ok (.goto (-112), 3) := by decide +kernel
theorem dX4_missesByRecency_125 : decode cX4_missesByRecency 125 = .ok (.iload_n 3, 1) := by decide +kernel
theorem dX4_missesByRecency_126 : decode cX4_missesByRecency 126 = .ok (.ireturn, 1) := by decide +kernel
def X4_missesByRecency_b84 (j111 : gM → Option (Int32 × gM)) (v14 : Int32) (m15 : gM) (k84 : Int32 → gM → Option (Int32 × gM)) : Option (Int32 × gM) :=
  if v14 ≤ 0 then (j111 m15) else (gAt m15 36 0 (v14 - 1) (fun (x16 : Int32) => gPut m15 36 0 v14 x16 (fun (m17 : gM) => gLet (v14 + (-1)) (fun (x18 : Int32) => k84 x18 m17))))
def X4_missesByRecency_b10 (o1 : Nat) (a2 : Int32) (v2 v3 : Int32) (m4 : gM) (k10 : Int32 → Int32 → gM → Option (Int32 × gM)) : Option (Int32 × gM) :=
  if (m4 5 o1 2) ≤ v3 then (some (v2, m4)) else (gAt m4 38 o1 v3 (fun (x5 : Int32) => gCall (X4_placeHolding x5 m4) (fun (r7 : Int32) (m6 : gM) => gJ2 (fun (v8 v9 : Int32) (m10 : gM) => gJ0 (fun (m11 : gM) => gPut m11 36 0 0 x5 (fun (m12 : gM) => gLet (v3 + 1) (fun (x13 : Int32) => k10 v8 x13 m12))) (fun (j111 : gM → Option (Int32 × gM)) => gL1 FU (X4_missesByRecency_b84 j111) v9 m10)) (fun (j80 : Int32 → Int32 → gM → Option (Int32 × gM)) => if r7 = (-1) then (gLet (v2 + 1) (fun (x19 : Int32) => gJ0 (fun (m20 : gM) => gLet ((m20 4 0 4) - 1) (fun (x21 : Int32) => j80 x19 x21 m20)) (fun (j72 : gM → Option (Int32 × gM)) => if a2 ≤ (m6 4 0 4) then (j72 m6) else (if 64 ≤ (m6 4 0 4) then (j72 m6) else (gLet ((m6 4 0 4) + 1) (fun (x22 : Int32) => gSet m6 4 0 4 x22 (fun (m23 : gM) => j72 m23))))))) else (j80 v2 r7 m6)))))
def X4_missesByRecency (o1 : Nat) (a2 : Int32) (m : gM) : Option (Int32 × gM) :=
  gSet m 4 0 4 0 (fun (m1 : gM) => gL2 FU (X4_missesByRecency_b10 o1 a2) 0 0 m1)
set_option maxRecDepth 100000 in
set_option maxHeartbeats 4000000 in
theorem c_X4_missesByRecency (o1 : Nat) (a2 : Int32) (m : gM) : gCon eI yX4_missesByRecency cX4_missesByRecency 8 (some .int) 1 [.inr (4, 0), .inr (5, o1), .inl a2] m (X4_missesByRecency o1 a2 m) := by
  refine gCon.of (lv := [some (.inr (4, 0)), some (.inr (5, o1)), some (.inl a2), none, none, none, none, none]) (by decide +kernel) (Nat.le_of_ble_eq_true rfl) rfl (fun X C => ?_)
  unfold X4_missesByRecency
  refine r_aload_n C dX4_missesByRecency_0 rfl rfl ?_
  refine r_iconst (v := 0) C dX4_missesByRecency_1 (by decide) ?_
  refine r_put C fl_X4_45 rfl rfl rfl dX4_missesByRecency_2 (fun m1 => ?_)
  refine r_iconst (v := 0) C dX4_missesByRecency_5 (by decide) ?_
  refine r_istore_n (lv' := [some (.inr (4, 0)), some (.inr (5, o1)), some (.inl a2), some (.inl 0), none, none, none, none]) C dX4_missesByRecency_6 rfl (by decide) rfl ?_
  refine r_iconst (v := 0) C dX4_missesByRecency_7 (by decide) ?_
  refine r_istore (lv' := [some (.inr (4, 0)), some (.inr (5, o1)), some (.inl a2), some (.inl 0), some (.inl 0), none, none, none]) C dX4_missesByRecency_8 (by decide) rfl ?_
  refine r_weak (lv' := [some (.inr (4, 0)), some (.inr (5, o1)), some (.inl a2), some (.inl 0), some (.inl 0), none, none, none]) ⟨rfl, rfl, rfl, rfl, rfl, trivial⟩ ?_
  refine r_l2 (pj := 10) (fun v2 v3 => [some (.inr (4, 0)), some (.inr (5, o1)), some (.inl a2), some (.inl v2), some (.inl v3), none, none, none]) (fun v2 v3 m4 k10 hk10 => ?_) _ _ _ _
  unfold X4_missesByRecency_b10
  refine r_iload C dX4_missesByRecency_10 rfl ?_
  refine r_aload_n C dX4_missesByRecency_12 rfl rfl ?_
  refine r_get (v := .inl (m4 5 o1 2)) C fl_X4_30 dX4_missesByRecency_13 rfl ?_
  refine r_icmp_ge (tgt := 125) C dX4_missesByRecency_16 (by decide) ?_ ?_
  · refine r_iload_n C dX4_missesByRecency_125 rfl rfl ?_
    exact r_ireturn C dX4_missesByRecency_126
  refine r_aload_n C dX4_missesByRecency_19 rfl rfl ?_
  refine r_get (v := .inr (38, o1)) C fl_X4_36 dX4_missesByRecency_20 rfl ?_
  refine r_iload C dX4_missesByRecency_23 rfl ?_
  refine r_iald C rfl dX4_missesByRecency_25 (fun x5 => ?_)
  refine r_istore (lv' := [some (.inr (4, 0)), some (.inr (5, o1)), some (.inl a2), some (.inl v2), some (.inl v3), some (.inl x5), none, none]) C dX4_missesByRecency_26 (by decide) rfl ?_
  refine r_aload_n C dX4_missesByRecency_28 rfl rfl ?_
  refine r_iload C dX4_missesByRecency_29 rfl ?_
  refine r_invI (t := 4) (kb := 0) (As := [.inl x5]) (st := []) C il_X4_48 co_X4_placeHolding (by decide) rfl (c_X4_placeHolding x5 m4) (by decide) (by decide) rfl rfl (Nat.le_of_ble_eq_true rfl) dX4_missesByRecency_31 (fun r7 m6 => ?_)
  refine r_istore (lv' := [some (.inr (4, 0)), some (.inr (5, o1)), some (.inl a2), some (.inl v2), some (.inl v3), some (.inl x5), some (.inl r7), none]) C dX4_missesByRecency_34 (by decide) rfl ?_
  refine r_iload C dX4_missesByRecency_36 rfl ?_
  refine r_iconst (v := (-1)) C dX4_missesByRecency_38 (by decide) ?_
  refine r_j2 80 (fun v8 v9 => [some (.inr (4, 0)), some (.inr (5, o1)), some (.inl a2), some (.inl v8), some (.inl v3), some (.inl x5), some (.inl v9), none]) (fun v8 v9 => []) (fun v8 v9 m10 => ?_) (fun j80 hj80 => ?_)
  · refine r_iload C dX4_missesByRecency_80 rfl ?_
    refine r_istore (lv' := [some (.inr (4, 0)), some (.inr (5, o1)), some (.inl a2), some (.inl v8), some (.inl v3), some (.inl x5), some (.inl v9), some (.inl v9)]) C dX4_missesByRecency_82 (by decide) rfl ?_
    refine r_j0 111 [some (.inr (4, 0)), some (.inr (5, o1)), some (.inl a2), some (.inl v8), some (.inl v3), some (.inl x5), none, none] [] (fun m11 => ?_) (fun j111 hj111 => ?_)
    · refine r_aload_n C dX4_missesByRecency_111 rfl rfl ?_
      refine r_get (v := .inr (36, 0)) C fl_X4_18 dX4_missesByRecency_112 rfl ?_
      refine r_iconst (v := 0) C dX4_missesByRecency_115 (by decide) ?_
      refine r_iload C dX4_missesByRecency_116 rfl ?_
      refine r_iast C rfl dX4_missesByRecency_118 (fun m12 => ?_)
      refine r_iinc (v := 1) C dX4_missesByRecency_119 (by decide) rfl (by decide) (fun x13 => ?_)
      show gw X eI _ [some (.inr (4, 0)), some (.inr (5, o1)), some (.inl a2), some (.inl v8), some (.inl x13), some (.inl x5), none, none] _ _ _
      refine r_goto (tgt := 10) C dX4_missesByRecency_122 (by decide) ?_
      exact r_weak (lv' := [some (.inr (4, 0)), some (.inr (5, o1)), some (.inl a2), some (.inl v8), some (.inl x13), none, none, none]) ⟨rfl, rfl, rfl, rfl, rfl, trivial⟩ (hk10 _ _ _)
    refine r_weak (lv' := [some (.inr (4, 0)), some (.inr (5, o1)), some (.inl a2), some (.inl v8), some (.inl v3), some (.inl x5), none, some (.inl v9)]) ⟨rfl, rfl, rfl, rfl, rfl, rfl, rfl, trivial⟩ ?_
    refine r_l1 (pj := 84) (fun v14 => [some (.inr (4, 0)), some (.inr (5, o1)), some (.inl a2), some (.inl v8), some (.inl v3), some (.inl x5), none, some (.inl v14)]) (fun v14 m15 k84 hk84 => ?_) _ _ _
    unfold X4_missesByRecency_b84
    refine r_iload C dX4_missesByRecency_84 rfl ?_
    refine r_if_le (tgt := 111) C dX4_missesByRecency_86 (by decide) ?_ ?_
    · exact r_weak (lv' := [some (.inr (4, 0)), some (.inr (5, o1)), some (.inl a2), some (.inl v8), some (.inl v3), some (.inl x5), none, none]) ⟨rfl, rfl, rfl, rfl, rfl, rfl, trivial⟩ (hj111 _)
    refine r_aload_n C dX4_missesByRecency_89 rfl rfl ?_
    refine r_get (v := .inr (36, 0)) C fl_X4_18 dX4_missesByRecency_90 rfl ?_
    refine r_iload C dX4_missesByRecency_93 rfl ?_
    refine r_aload_n C dX4_missesByRecency_95 rfl rfl ?_
    refine r_get (v := .inr (36, 0)) C fl_X4_18 dX4_missesByRecency_96 rfl ?_
    refine r_iload C dX4_missesByRecency_99 rfl ?_
    refine r_iconst (v := 1) C dX4_missesByRecency_101 (by decide) ?_
    refine r_isub C dX4_missesByRecency_102 ?_
    refine r_iald C rfl dX4_missesByRecency_103 (fun x16 => ?_)
    refine r_iast C rfl dX4_missesByRecency_104 (fun m17 => ?_)
    refine r_iinc (v := (-1)) C dX4_missesByRecency_105 (by decide) rfl (by decide) (fun x18 => ?_)
    show gw X eI _ [some (.inr (4, 0)), some (.inr (5, o1)), some (.inl a2), some (.inl v8), some (.inl v3), some (.inl x5), none, some (.inl x18)] _ _ _
    refine r_goto (tgt := 84) C dX4_missesByRecency_108 (by decide) ?_
    exact r_weak (lv' := [some (.inr (4, 0)), some (.inr (5, o1)), some (.inl a2), some (.inl v8), some (.inl v3), some (.inl x5), none, some (.inl x18)]) ⟨rfl, rfl, rfl, rfl, rfl, rfl, rfl, trivial⟩ (hk84 _ _)
  refine r_icmp_ne (tgt := 80) C dX4_missesByRecency_39 (by decide) ?_ ?_
  · exact r_weak (lv' := [some (.inr (4, 0)), some (.inr (5, o1)), some (.inl a2), some (.inl v2), some (.inl v3), some (.inl x5), some (.inl r7), none]) ⟨rfl, rfl, rfl, rfl, rfl, rfl, rfl, trivial⟩ (hj80 _ _ _)
  refine r_iinc (v := 1) C dX4_missesByRecency_42 (by decide) rfl (by decide) (fun x19 => ?_)
  show gw X eI _ [some (.inr (4, 0)), some (.inr (5, o1)), some (.inl a2), some (.inl x19), some (.inl v3), some (.inl x5), some (.inl r7), none] _ _ _
  refine r_aload_n C dX4_missesByRecency_45 rfl rfl ?_
  refine r_get (v := .inl (m6 4 0 4)) C fl_X4_45 dX4_missesByRecency_46 rfl ?_
  refine r_iload_n C dX4_missesByRecency_49 rfl rfl ?_
  refine r_j0 72 [some (.inr (4, 0)), some (.inr (5, o1)), some (.inl a2), some (.inl x19), some (.inl v3), some (.inl x5), none, none] [] (fun m20 => ?_) (fun j72 hj72 => ?_)
  · refine r_aload_n C dX4_missesByRecency_72 rfl rfl ?_
    refine r_get (v := .inl (m20 4 0 4)) C fl_X4_45 dX4_missesByRecency_73 rfl ?_
    refine r_iconst (v := 1) C dX4_missesByRecency_76 (by decide) ?_
    refine r_isub C dX4_missesByRecency_77 ?_
    refine r_let (fun x21 => ?_)
    refine r_istore (lv' := [some (.inr (4, 0)), some (.inr (5, o1)), some (.inl a2), some (.inl x19), some (.inl v3), some (.inl x5), some (.inl x21), none]) C dX4_missesByRecency_78 (by decide) rfl ?_
    exact r_weak (lv' := [some (.inr (4, 0)), some (.inr (5, o1)), some (.inl a2), some (.inl x19), some (.inl v3), some (.inl x5), some (.inl x21), none]) ⟨rfl, rfl, rfl, rfl, rfl, rfl, rfl, trivial⟩ (hj80 _ _ _)
  refine r_icmp_ge (tgt := 72) C dX4_missesByRecency_50 (by decide) ?_ ?_
  · exact r_weak (lv' := [some (.inr (4, 0)), some (.inr (5, o1)), some (.inl a2), some (.inl x19), some (.inl v3), some (.inl x5), none, none]) ⟨rfl, rfl, rfl, rfl, rfl, rfl, trivial⟩ (hj72 _)
  refine r_aload_n C dX4_missesByRecency_53 rfl rfl ?_
  refine r_get (v := .inl (m6 4 0 4)) C fl_X4_45 dX4_missesByRecency_54 rfl ?_
  refine r_bipush (v := 64) C dX4_missesByRecency_57 (by decide) ?_
  refine r_icmp_ge (tgt := 72) C dX4_missesByRecency_59 (by decide) ?_ ?_
  · exact r_weak (lv' := [some (.inr (4, 0)), some (.inr (5, o1)), some (.inl a2), some (.inl x19), some (.inl v3), some (.inl x5), none, none]) ⟨rfl, rfl, rfl, rfl, rfl, rfl, trivial⟩ (hj72 _)
  refine r_aload_n C dX4_missesByRecency_62 rfl rfl ?_
  refine r_dup C dX4_missesByRecency_63 ?_
  refine r_get (v := .inl (m6 4 0 4)) C fl_X4_45 dX4_missesByRecency_64 rfl ?_
  refine r_iconst (v := 1) C dX4_missesByRecency_67 (by decide) ?_
  refine r_iadd C dX4_missesByRecency_68 ?_
  refine r_let (fun x22 => ?_)
  refine r_put C fl_X4_45 rfl rfl rfl dX4_missesByRecency_69 (fun m23 => ?_)
  exact r_weak (lv' := [some (.inr (4, 0)), some (.inr (5, o1)), some (.inl a2), some (.inl x19), some (.inl v3), some (.inl x5), none, none]) ⟨rfl, rfl, rfl, rfl, rfl, rfl, trivial⟩ (hj72 _)
theorem dX4_findNextUses_0 : decode cX4_findNextUses 0 = .ok (.aload_n 0, 1) := by decide +kernel
theorem dX4_findNextUses_1 : decode cX4_findNextUses 1 = .ok (.getfield 9, 3) := by decide +kernel
theorem dX4_findNextUses_4 : decode cX4_findNextUses 4 = .ok (.sipush 600, 3) := by decide +kernel
theorem dX4_findNextUses_7 : decode cX4_findNextUses 7 = .ok (.invokestatic 24, 3) := by decide +kernel
theorem dX4_findNextUses_10 : decode cX4_findNextUses 10 = .ok (.aload_n 1, 1) := by decide +kernel
theorem dX4_findNextUses_11 : decode cX4_findNextUses 11 = .ok (.getfield 30, 3) := by decide +kernel
theorem dX4_findNextUses_14 : decode cX4_findNextUses 14 = .ok (.iconst 1, 1) := by decide +kernel
theorem dX4_findNextUses_15 : decode cX4_findNextUses 15 = .ok (.isub, 1) := by decide +kernel
theorem dX4_findNextUses_16 : decode cX4_findNextUses 16 = .ok (.istore_n 2, 1) := by decide +kernel
theorem dX4_findNextUses_17 : decode cX4_findNextUses 17 = .ok (.iload_n 2, 1) := by decide +kernel
theorem dX4_findNextUses_18 : decode cX4_findNextUses 18 = .ok (.ifCond .lt 38, 3) := by decide +kernel
theorem dX4_findNextUses_21 : decode cX4_findNextUses 21 = .ok (.aload_n 0, 1) := by decide +kernel
theorem dX4_findNextUses_22 : decode cX4_findNextUses 22 = .ok (.getfield 15, 3) := by decide +kernel
theorem dX4_findNextUses_25 : decode cX4_findNextUses 25 = .ok (.iload_n 2, 1) := by decide +kernel
theorem dX4_findNextUses_26 : decode cX4_findNextUses 26 = .ok (.aload_n 0, 1) := by decide +kernel
theorem dX4_findNextUses_27 : decode cX4_findNextUses 27 = .ok (.getfield 9, 3) := by decide +kernel
theorem dX4_findNextUses_30 : decode cX4_findNextUses 30 = .ok (.aload_n 1, 1) := by decide +kernel
theorem dX4_findNextUses_31 : decode cX4_findNextUses 31 = .ok (.getfield 36, 3) := by decide +kernel
theorem dX4_findNextUses_34 : decode cX4_findNextUses 34 = .ok (.iload_n 2, 1) := by decide +kernel
theorem dX4_findNextUses_35 : decode cX4_findNextUses 35 = .ok (.iaload, 1) := by decide +kernel
theorem dX4_findNextUses_36 : decode cX4_findNextUses 36 = .ok (.iaload, 1) := by decide +kernel
theorem dX4_findNextUses_37 : decode cX4_findNextUses 37 = .ok (.iastore, 1) := by decide +kernel
theorem dX4_findNextUses_38 : decode cX4_findNextUses 38 = .ok (.aload_n 0, 1) := by decide +kernel
theorem dX4_findNextUses_39 : decode cX4_findNextUses 39 = .ok (.getfield 9, 3) := by decide +kernel
theorem dX4_findNextUses_42 : decode cX4_findNextUses 42 = .ok (.aload_n 1, 1) := by decide +kernel
theorem dX4_findNextUses_43 : decode cX4_findNextUses 43 = .ok (.getfield 36, 3) := by decide +kernel
theorem dX4_findNextUses_46 : decode cX4_findNextUses 46 = .ok (.iload_n 2, 1) := by decide +kernel
theorem dX4_findNextUses_47 : decode cX4_findNextUses 47 = .ok (.iaload, 1) := by decide +kernel
theorem dX4_findNextUses_48 : decode cX4_findNextUses 48 = .ok (.iload_n 2, 1) := by decide +kernel
theorem dX4_findNextUses_49 : decode cX4_findNextUses 49 = .ok (.iastore, 1) := by decide +kernel
theorem dX4_findNextUses_50 : decode cX4_findNextUses 50 = .ok (.iinc 2 (-1), 3) := by decide +kernel
theorem dX4_findNextUses_53 : decode cX4_findNextUses 53 = .ok (.goto (-36), 3) := by decide +kernel
theorem dX4_findNextUses_56 : decode cX4_findNextUses 56 = .ok (.return_, 1) := by decide +kernel
def X4_findNextUses_b17 (o1 : Nat) (v4 : Int32) (m5 : gM) (k17 : Int32 → gM → Option (Unit × gM)) : Option (Unit × gM) :=
  if v4 < 0 then (some ((), m5)) else (gAt m5 38 o1 v4 (fun (x6 : Int32) => gAt m5 34 0 x6 (fun (x7 : Int32) => gPut m5 35 0 v4 x7 (fun (m8 : gM) => gAt m8 38 o1 v4 (fun (x9 : Int32) => gPut m8 34 0 x9 v4 (fun (m10 : gM) => gLet (v4 + (-1)) (fun (x11 : Int32) => k17 x11 m10)))))))
def X4_findNextUses (o1 : Nat) (m : gM) : Option (Unit × gM) :=
  gCall (J7_fill_53178 34 0 600 m) (fun (r2 : Unit) (m1 : gM) => gLet ((m1 5 o1 2) - 1) (fun (x3 : Int32) => gL1 FU (X4_findNextUses_b17 o1) x3 m1))
set_option maxRecDepth 100000 in
set_option maxHeartbeats 4000000 in
theorem c_X4_findNextUses (o1 : Nat) (m : gM) : gCon eU yX4_findNextUses cX4_findNextUses 3 none 1 [.inr (4, 0), .inr (5, o1)] m (X4_findNextUses o1 m) := by
  refine gCon.of (lv := [some (.inr (4, 0)), some (.inr (5, o1)), none]) (by decide +kernel) (Nat.le_of_ble_eq_true rfl) rfl (fun X C => ?_)
  unfold X4_findNextUses
  refine r_aload_n C dX4_findNextUses_0 rfl rfl ?_
  refine r_get (v := .inr (34, 0)) C fl_X4_9 dX4_findNextUses_1 rfl ?_
  refine r_sipush (v := 600) C dX4_findNextUses_4 (by decide) ?_
  refine r_insU (As := [.inr (34, 0), .inl 600]) (st := []) C il_X4_24 co_J7_fill_53178 (c_J7_fill_53178 34 0 600 rfl m) (by decide) (by decide) rfl rfl (Nat.le_of_ble_eq_true rfl) dX4_findNextUses_7 (fun r2 m1 => ?_)
  refine r_aload_n C dX4_findNextUses_10 rfl rfl ?_
  refine r_get (v := .inl (m1 5 o1 2)) C fl_X4_30 dX4_findNextUses_11 rfl ?_
  refine r_iconst (v := 1) C dX4_findNextUses_14 (by decide) ?_
  refine r_isub C dX4_findNextUses_15 ?_
  refine r_let (fun x3 => ?_)
  refine r_istore_n (lv' := [some (.inr (4, 0)), some (.inr (5, o1)), some (.inl x3)]) C dX4_findNextUses_16 rfl (by decide) rfl ?_
  refine r_weak (lv' := [some (.inr (4, 0)), some (.inr (5, o1)), some (.inl x3)]) ⟨rfl, rfl, rfl, trivial⟩ ?_
  refine r_l1 (pj := 17) (fun v4 => [some (.inr (4, 0)), some (.inr (5, o1)), some (.inl v4)]) (fun v4 m5 k17 hk17 => ?_) _ _ _
  unfold X4_findNextUses_b17
  refine r_iload_n C dX4_findNextUses_17 rfl rfl ?_
  refine r_if_lt (tgt := 56) C dX4_findNextUses_18 (by decide) ?_ ?_
  · exact r_return C dX4_findNextUses_56
  refine r_aload_n C dX4_findNextUses_21 rfl rfl ?_
  refine r_get (v := .inr (35, 0)) C fl_X4_15 dX4_findNextUses_22 rfl ?_
  refine r_iload_n C dX4_findNextUses_25 rfl rfl ?_
  refine r_aload_n C dX4_findNextUses_26 rfl rfl ?_
  refine r_get (v := .inr (34, 0)) C fl_X4_9 dX4_findNextUses_27 rfl ?_
  refine r_aload_n C dX4_findNextUses_30 rfl rfl ?_
  refine r_get (v := .inr (38, o1)) C fl_X4_36 dX4_findNextUses_31 rfl ?_
  refine r_iload_n C dX4_findNextUses_34 rfl rfl ?_
  refine r_iald C rfl dX4_findNextUses_35 (fun x6 => ?_)
  refine r_iald C rfl dX4_findNextUses_36 (fun x7 => ?_)
  refine r_iast C rfl dX4_findNextUses_37 (fun m8 => ?_)
  refine r_aload_n C dX4_findNextUses_38 rfl rfl ?_
  refine r_get (v := .inr (34, 0)) C fl_X4_9 dX4_findNextUses_39 rfl ?_
  refine r_aload_n C dX4_findNextUses_42 rfl rfl ?_
  refine r_get (v := .inr (38, o1)) C fl_X4_36 dX4_findNextUses_43 rfl ?_
  refine r_iload_n C dX4_findNextUses_46 rfl rfl ?_
  refine r_iald C rfl dX4_findNextUses_47 (fun x9 => ?_)
  refine r_iload_n C dX4_findNextUses_48 rfl rfl ?_
  refine r_iast C rfl dX4_findNextUses_49 (fun m10 => ?_)
  refine r_iinc (v := (-1)) C dX4_findNextUses_50 (by decide) rfl (by decide) (fun x11 => ?_)
  show gw X eU _ [some (.inr (4, 0)), some (.inr (5, o1)), some (.inl x11)] _ _ _
  refine r_goto (tgt := 17) C dX4_findNextUses_53 (by decide) ?_
  exact r_weak (lv' := [some (.inr (4, 0)), some (.inr (5, o1)), some (.inl x11)]) ⟨rfl, rfl, rfl, trivial⟩ (hk17 _ _)
theorem dX4_placeToFill_0 : decode cX4_placeToFill 0 = .ok (.aload_n 0, 1) := by decide +kernel
theorem dX4_placeToFill_1 : decode cX4_placeToFill 1 = .ok (.getfield 45, 3) := by decide +kernel
theorem dX4_placeToFill_4 : decode cX4_placeToFill 4 = .ok (.iload_n 1, 1) := by decide +kernel
theorem dX4_placeToFill_5 : decode cX4_placeToFill 5 = .ok (.if_icmp .ge 29, 3) := by decide +kernel
theorem dX4_placeToFill_8 : decode cX4_placeToFill 8 = .ok (.aload_n 0, 1) := by decide +kernel
theorem dX4_placeToFill_9 : decode cX4_placeToFill 9 = .ok (.getfield 45, 3) := by decide +kernel
theorem dX4_placeToFill_12 : decode cX4_placeToFill 12 = .ok (.bipush 64, 2) := by decide +kernel
theorem dX4_placeToFill_14 : decode cX4_placeToFill 14 = .ok (.if_icmp .ge 20, 3) := by decide +kernel
theorem dX4_placeToFill_17 : decode cX4_placeToFill 17 = .ok (.aload_n 0, 1) := by decide +kernel
theorem dX4_placeToFill_18 : decode cX4_placeToFill 18 = .ok (.dup, 1) := by decide +kernel
theorem dX4_placeToFill_19 : decode cX4_placeToFill 19 = .ok (.getfield 45, 3) := by decide +kernel
theorem dX4_placeToFill_22 : decode cX4_placeToFill 22 = .ok (.iconst 1, 1) := by decide +kernel
theorem dX4_placeToFill_23 : decode cX4_placeToFill 23 = .ok (.iadd, 1) := by decide +kernel
theorem dX4_placeToFill_24 : decode cX4_placeToFill 24 = .ok (.putfield 45, 3) := by decide +kernel
theorem dX4_placeToFill_27 : decode cX4_placeToFill 27 = .ok (.aload_n 0, 1) := by decide +kernel
theorem dX4_placeToFill_28 : decode cX4_placeToFill 28 = .ok (.getfield 45, 3) := by decide +kernel
theorem dX4_placeToFill_31 : decode cX4_placeToFill 31 = .ok (.iconst 1, 1) := by decide +kernel
theorem dX4_placeToFill_32 : decode cX4_placeToFill 32 = .ok (.isub, 1) := by decide +kernel
theorem dX4_placeToFill_33 : decode cX4_placeToFill 33 = .ok (.ireturn, 1) := by decide +kernel
theorem dX4_placeToFill_34 : decode cX4_placeToFill 34 = .ok (.iconst 0, 1) := by decide +kernel
theorem dX4_placeToFill_35 : decode cX4_placeToFill 35 = .ok (.istore_n 2, 1) := by decide +kernel
theorem dX4_placeToFill_36 : decode cX4_placeToFill 36 = .ok (.iconst 1, 1) := by decide +kernel
theorem dX4_placeToFill_37 : decode cX4_placeToFill 37 = .ok (.istore_n 3, 1) := by decide +kernel
theorem dX4_placeToFill_38 : decode cX4_placeToFill 38 = .ok (.iload_n 3, 1) := by decide +kernel
theorem dX4_placeToFill_39 : decode cX4_placeToFill 39 = .ok (.aload_n 0, 1) := by decide +kernel
theorem dX4_placeToFill_40 : decode cX4_placeToFill 40 = .ok (.getfield 45, 3) := by decide +kernel
theorem dX4_placeToFill_43 : decode cX4_placeToFill 43 = .ok (.if_icmp .ge 26, 3) := by decide +kernel
theorem dX4_placeToFill_46 : decode cX4_placeToFill 46 = .ok (.aload_n 0, 1) := by decide +kernel
theorem dX4_placeToFill_47 : decode cX4_placeToFill 47 = .ok (.getfield 21, 3) := by decide +kernel
theorem dX4_placeToFill_50 : decode cX4_placeToFill 50 = .ok (.iload_n 3, 1) := by decide +kernel
theorem dX4_placeToFill_51 : decode cX4_placeToFill 51 = .ok (.iaload, 1) := by decide +kernel
theorem dX4_placeToFill_52 : decode cX4_placeToFill 52 = .ok (.aload_n 0, 1) := by decide +kernel
theorem dX4_placeToFill_53 : decode cX4_placeToFill 53 = .ok (.getfield 21, 3) := by decide +kernel
theorem dX4_placeToFill_56 : decode cX4_placeToFill 56 = .ok (.iload_n 2, 1) := by decide +kernel
theorem dX4_placeToFill_57 : decode cX4_placeToFill 57 = .ok (.iaload, 1) := by decide +kernel
theorem dX4_placeToFill_58 : decode cX4_placeToFill 58 = .ok (.if_icmp .le 5, 3) := by decide +kernel
theorem dX4_placeToFill_61 : decode cX4_placeToFill 61 = .ok (.iload_n 3, 1) := by decide +kernel
theorem dX4_placeToFill_62 : decode cX4_placeToFill 62 = .ok (.istore_n 2, 1) := by decide +kernel
theorem dX4_placeToFill_63 : decode cX4_placeToFill 63 = .ok (.iinc 3 1, 3) := by decide +kernel
theorem dX4_placeToFill_66 : decode cX4_placeToFill 66 = .ok (.goto (-28), 3) := by decide +kernel
theorem dX4_placeToFill_69 : decode cX4_placeToFill 69 = .ok (.iload_n 2, 1) := by decide +kernel
theorem dX4_placeToFill_70 : decode cX4_placeToFill 70 = .ok (.ireturn, 1) := by decide +kernel
def X4_placeToFill_b38 (v2 v3 : Int32) (m4 : gM) (k38 : Int32 → Int32 → gM → Option (Int32 × gM)) : Option (Int32 × gM) :=
  if (m4 4 0 4) ≤ v3 then (some (v2, m4)) else (gAt m4 37 0 v3 (fun (x5 : Int32) => gAt m4 37 0 v2 (fun (x6 : Int32) => if x5 ≤ x6 then (gLet (v3 + 1) (fun (x7 : Int32) => k38 v2 x7 m4)) else (gLet (v3 + 1) (fun (x8 : Int32) => k38 v3 x8 m4)))))
def X4_placeToFill (a1 : Int32) (m : gM) : Option (Int32 × gM) :=
  gJ0 (fun (m1 : gM) => gL2 FU X4_placeToFill_b38 0 1 m1) (fun (j34 : gM → Option (Int32 × gM)) => if a1 ≤ (m 4 0 4) then (j34 m) else (if 64 ≤ (m 4 0 4) then (j34 m) else (gLet ((m 4 0 4) + 1) (fun (x9 : Int32) => gSet m 4 0 4 x9 (fun (m10 : gM) => some ((m10 4 0 4) - 1, m10))))))
set_option maxRecDepth 100000 in
set_option maxHeartbeats 4000000 in
theorem c_X4_placeToFill (a1 : Int32) (m : gM) : gCon eI yX4_placeToFill cX4_placeToFill 4 (some .int) 0 [.inr (4, 0), .inl a1] m (X4_placeToFill a1 m) := by
  refine gCon.of (lv := [some (.inr (4, 0)), some (.inl a1), none, none]) (by decide +kernel) (Nat.le_of_ble_eq_true rfl) rfl (fun X C => ?_)
  unfold X4_placeToFill
  refine r_aload_n C dX4_placeToFill_0 rfl rfl ?_
  refine r_get (v := .inl (m 4 0 4)) C fl_X4_45 dX4_placeToFill_1 rfl ?_
  refine r_iload_n C dX4_placeToFill_4 rfl rfl ?_
  refine r_j0 34 [some (.inr (4, 0)), none, none, none] [] (fun m1 => ?_) (fun j34 hj34 => ?_)
  · refine r_iconst (v := 0) C dX4_placeToFill_34 (by decide) ?_
    refine r_istore_n (lv' := [some (.inr (4, 0)), none, some (.inl 0), none]) C dX4_placeToFill_35 rfl (by decide) rfl ?_
    refine r_iconst (v := 1) C dX4_placeToFill_36 (by decide) ?_
    refine r_istore_n (lv' := [some (.inr (4, 0)), none, some (.inl 0), some (.inl 1)]) C dX4_placeToFill_37 rfl (by decide) rfl ?_
    refine r_weak (lv' := [some (.inr (4, 0)), none, some (.inl 0), some (.inl 1)]) ⟨rfl, rfl, rfl, trivial⟩ ?_
    refine r_l2 (pj := 38) (fun v2 v3 => [some (.inr (4, 0)), none, some (.inl v2), some (.inl v3)]) (fun v2 v3 m4 k38 hk38 => ?_) _ _ _ _
    unfold X4_placeToFill_b38
    refine r_iload_n C dX4_placeToFill_38 rfl rfl ?_
    refine r_aload_n C dX4_placeToFill_39 rfl rfl ?_
    refine r_get (v := .inl (m4 4 0 4)) C fl_X4_45 dX4_placeToFill_40 rfl ?_
    refine r_icmp_ge (tgt := 69) C dX4_placeToFill_43 (by decide) ?_ ?_
    · refine r_iload_n C dX4_placeToFill_69 rfl rfl ?_
      exact r_ireturn C dX4_placeToFill_70
    refine r_aload_n C dX4_placeToFill_46 rfl rfl ?_
    refine r_get (v := .inr (37, 0)) C fl_X4_21 dX4_placeToFill_47 rfl ?_
    refine r_iload_n C dX4_placeToFill_50 rfl rfl ?_
    refine r_iald C rfl dX4_placeToFill_51 (fun x5 => ?_)
    refine r_aload_n C dX4_placeToFill_52 rfl rfl ?_
    refine r_get (v := .inr (37, 0)) C fl_X4_21 dX4_placeToFill_53 rfl ?_
    refine r_iload_n C dX4_placeToFill_56 rfl rfl ?_
    refine r_iald C rfl dX4_placeToFill_57 (fun x6 => ?_)
    refine r_icmp_le (tgt := 63) C dX4_placeToFill_58 (by decide) ?_ ?_
    · refine r_iinc (v := 1) C dX4_placeToFill_63 (by decide) rfl (by decide) (fun x7 => ?_)
      show gw X eI _ [some (.inr (4, 0)), none, some (.inl v2), some (.inl x7)] _ _ _
      refine r_goto (tgt := 38) C dX4_placeToFill_66 (by decide) ?_
      exact r_weak (lv' := [some (.inr (4, 0)), none, some (.inl v2), some (.inl x7)]) ⟨rfl, rfl, rfl, trivial⟩ (hk38 _ _ _)
    refine r_iload_n C dX4_placeToFill_61 rfl rfl ?_
    refine r_istore_n (lv' := [some (.inr (4, 0)), none, some (.inl v3), some (.inl v3)]) C dX4_placeToFill_62 rfl (by decide) rfl ?_
    refine r_iinc (v := 1) C dX4_placeToFill_63 (by decide) rfl (by decide) (fun x8 => ?_)
    show gw X eI _ [some (.inr (4, 0)), none, some (.inl v3), some (.inl x8)] _ _ _
    refine r_goto (tgt := 38) C dX4_placeToFill_66 (by decide) ?_
    exact r_weak (lv' := [some (.inr (4, 0)), none, some (.inl v3), some (.inl x8)]) ⟨rfl, rfl, rfl, trivial⟩ (hk38 _ _ _)
  refine r_icmp_ge (tgt := 34) C dX4_placeToFill_5 (by decide) ?_ ?_
  · exact r_weak (lv' := [some (.inr (4, 0)), none, none, none]) ⟨rfl, trivial⟩ (hj34 _)
  refine r_aload_n C dX4_placeToFill_8 rfl rfl ?_
  refine r_get (v := .inl (m 4 0 4)) C fl_X4_45 dX4_placeToFill_9 rfl ?_
  refine r_bipush (v := 64) C dX4_placeToFill_12 (by decide) ?_
  refine r_icmp_ge (tgt := 34) C dX4_placeToFill_14 (by decide) ?_ ?_
  · exact r_weak (lv' := [some (.inr (4, 0)), none, none, none]) ⟨rfl, trivial⟩ (hj34 _)
  refine r_aload_n C dX4_placeToFill_17 rfl rfl ?_
  refine r_dup C dX4_placeToFill_18 ?_
  refine r_get (v := .inl (m 4 0 4)) C fl_X4_45 dX4_placeToFill_19 rfl ?_
  refine r_iconst (v := 1) C dX4_placeToFill_22 (by decide) ?_
  refine r_iadd C dX4_placeToFill_23 ?_
  refine r_let (fun x9 => ?_)
  refine r_put C fl_X4_45 rfl rfl rfl dX4_placeToFill_24 (fun m10 => ?_)
  refine r_aload_n C dX4_placeToFill_27 rfl rfl ?_
  refine r_get (v := .inl (m10 4 0 4)) C fl_X4_45 dX4_placeToFill_28 rfl ?_
  refine r_iconst (v := 1) C dX4_placeToFill_31 (by decide) ?_
  refine r_isub C dX4_placeToFill_32 ?_
  exact r_ireturn C dX4_placeToFill_33
theorem dX4_fewestMisses_0 : decode cX4_fewestMisses 0 = .ok (.aload_n 0, 1) := by decide +kernel
theorem dX4_fewestMisses_1 : decode cX4_fewestMisses 1 = .ok (.aload_n 1, 1) := by decide +kernel
theorem dX4_fewestMisses_2 : decode cX4_fewestMisses 2 = .ok (.invokevirtual 52, 3) := by decide +kernel
theorem dX4_fewestMisses_5 : decode cX4_fewestMisses 5 = .ok (.aload_n 0, 1) := by decide +kernel
theorem dX4_fewestMisses_6 : decode cX4_fewestMisses 6 = .ok (.iconst 0, 1) := by decide +kernel
theorem dX4_fewestMisses_7 : decode cX4_fewestMisses 7 = .ok (.putfield 45, 3) := by decide +kernel
theorem dX4_fewestMisses_10 : decode cX4_fewestMisses 10 = .ok (.iconst 0, 1) := by decide +kernel
theorem dX4_fewestMisses_11 : decode cX4_fewestMisses 11 = .ok (.istore_n 3, 1) := by decide +kernel
theorem dX4_fewestMisses_12 : decode cX4_fewestMisses 12 = .ok (.iconst 0, 1) := by decide +kernel
theorem dX4_fewestMisses_13 : decode cX4_fewestMisses 13 = .ok (.istore 4, 2) := by decide +kernel
theorem dX4_fewestMisses_15 : decode cX4_fewestMisses 15 = .ok (.iload 4, 2) := by decide +kernel
theorem dX4_fewestMisses_17 : decode cX4_fewestMisses 17 = .ok (.aload_n 1, 1) := by decide +kernel
theorem dX4_fewestMisses_18 : decode cX4_fewestMisses 18 = .ok (.getfield 30, 3) := by decide +kernel
theorem dX4_fewestMisses_21 : decode cX4_fewestMisses 21 = .ok (.if_icmp .ge 66, 3) := by decide +kernel
theorem dX4_fewestMisses_24 : decode cX4_fewestMisses 24 = .ok (.aload_n 0, 1) := by decide +kernel
theorem dX4_fewestMisses_25 : decode cX4_fewestMisses 25 = .ok (.aload_n 1, 1) := by decide +kernel
theorem dX4_fewestMisses_26 : decode cX4_fewestMisses 26 = .ok (.getfield 36, 3) := by decide +kernel
theorem dX4_fewestMisses_29 : decode cX4_fewestMisses 29 = .ok (.iload 4, 2) := by decide +kernel
theorem dX4_fewestMisses_31 : decode cX4_fewestMisses 31 = .ok (.iaload, 1) := by decide +kernel
theorem dX4_fewestMisses_32 : decode cX4_fewestMisses 32 = .ok (.invokevirtual 48, 3) := by decide +kernel
theorem dX4_fewestMisses_35 : decode cX4_fewestMisses 35 = .ok (.istore 5, 2) := by decide +kernel
theorem dX4_fewestMisses_37 : decode cX4_fewestMisses 37 = .ok (.iload 5, 2) := by decide +kernel
theorem dX4_fewestMisses_39 : decode cX4_fewestMisses 39 = .ok (.iconst (-1), 1) := by decide +kernel
theorem dX4_fewestMisses_40 : decode cX4_fewestMisses 40 = .ok (.if_icmp .ne 13, 3) := by decide +kernel
theorem dX4_fewestMisses_43 : decode cX4_fewestMisses 43 = .ok (.iinc 3 1, 3) := by decide +kernel
theorem dX4_fewestMisses_46 : decode cX4_fewestMisses 46 = .ok (.aload_n 0, 1) := by decide +kernel
theorem dX4_fewestMisses_47 : decode cX4_fewestMisses 47 = .ok (.iload_n 2, 1) := by decide +kernel
theorem dX4_fewestMisses_48 : decode cX4_fewestMisses 48 = .ok (.invokevirtual 56, 3) := by decide +kernel
theorem dX4_fewestMisses_51 : decode cX4_fewestMisses 51 = .ok (.istore 5, 2) := by decide +kernel
theorem dX4_fewestMisses_53 : decode cX4_fewestMisses 53 = .ok (.aload_n 0, 1) := by decide +kernel
theorem dX4_fewestMisses_54 : decode cX4_fewestMisses 54 = .ok (.getfield 18, 3) := by decide +kernel
theorem dX4_fewestMisses_57 : decode cX4_fewestMisses 57 = .ok (.iload 5, 2) := by decide +kernel
theorem dX4_fewestMisses_59 : decode cX4_fewestMisses 59 = .ok (.aload_n 1, 1) := by decide +kernel
theorem dX4_fewestMisses_60 : decode cX4_fewestMisses 60 = .ok (.getfield 36, 3) := by decide +kernel
theorem dX4_fewestMisses_63 : decode cX4_fewestMisses 63 = .ok (.iload 4, 2) := by decide +kernel
theorem dX4_fewestMisses_65 : decode cX4_fewestMisses 65 = .ok (.iaload, 1) := by decide +kernel
theorem dX4_fewestMisses_66 : decode cX4_fewestMisses 66 = .ok (.iastore, 1) := by decide +kernel
theorem dX4_fewestMisses_67 : decode cX4_fewestMisses 67 = .ok (.aload_n 0, 1) := by decide +kernel
theorem dX4_fewestMisses_68 : decode cX4_fewestMisses 68 = .ok (.getfield 21, 3) := by decide +kernel
theorem dX4_fewestMisses_71 : decode cX4_fewestMisses 71 = .ok (.iload 5, 2) := by decide +kernel
theorem dX4_fewestMisses_73 : decode cX4_fewestMisses 73 = .ok (.aload_n 0, 1) := by decide +kernel
theorem dX4_fewestMisses_74 : decode cX4_fewestMisses 74 = .ok (.getfield 15, 3) := by decide +kernel
theorem dX4_fewestMisses_77 : decode cX4_fewestMisses 77 = .ok (.iload 4, 2) := by decide +kernel
theorem dX4_fewestMisses_79 : decode cX4_fewestMisses 79 = .ok (.iaload, 1) := by decide +kernel
theorem dX4_fewestMisses_80 : decode cX4_fewestMisses 80 = .ok (.iastore, 1) := by decide +kernel
theorem dX4_fewestMisses_81 : decode cX4_fewestMisses 81 = .ok (.iinc 4 1, 3) := by decide +kernel
theorem dX4_fewestMisses_84 : decode cX4_fewestMisses 84 = .ok (.goto (-69), 3) := by decide +kernel
theorem dX4_fewestMisses_87 : decode cX4_fewestMisses 87 = .ok (.iload_n 3, 1) := by decide +kernel
theorem dX4_fewestMisses_88 : decode cX4_fewestMisses 88 = .ok (.ireturn, 1) := by decide +kernel
def X4_fewestMisses_b15 (o1 : Nat) (a2 : Int32) (v4 v5 : Int32) (m6 : gM) (k15 : Int32 → Int32 → gM → Option (Int32 × gM)) : Option (Int32 × gM) :=
  if (m6 5 o1 2) ≤ v5 then (some (v4, m6)) else (gAt m6 38 o1 v5 (fun (x7 : Int32) => gCall (X4_placeHolding x7 m6) (fun (r9 : Int32) (m8 : gM) => gJ2 (fun (v10 v11 : Int32) (m12 : gM) => gAt m12 38 o1 v5 (fun (x13 : Int32) => gPut m12 36 0 v11 x13 (fun (m14 : gM) => gAt m14 35 0 v5 (fun (x15 : Int32) => gPut m14 37 0 v11 x15 (fun (m16 : gM) => gLet (v5 + 1) (fun (x17 : Int32) => k15 v10 x17 m16)))))) (fun (j53 : Int32 → Int32 → gM → Option (Int32 × gM)) => if r9 = (-1) then (gLet (v4 + 1) (fun (x18 : Int32) => gCall (X4_placeToFill a2 m8) (fun (r20 : Int32) (m19 : gM) => j53 x18 r20 m19))) else (j53 v4 r9 m8)))))
def X4_fewestMisses (o1 : Nat) (a2 : Int32) (m : gM) : Option (Int32 × gM) :=
  gCall (X4_findNextUses o1 m) (fun (r2 : Unit) (m1 : gM) => gSet m1 4 0 4 0 (fun (m3 : gM) => gL2 FU (X4_fewestMisses_b15 o1 a2) 0 0 m3))
set_option maxRecDepth 100000 in
set_option maxHeartbeats 4000000 in
theorem c_X4_fewestMisses (o1 : Nat) (a2 : Int32) (m : gM) : gCon eI yX4_fewestMisses cX4_fewestMisses 6 (some .int) 2 [.inr (4, 0), .inr (5, o1), .inl a2] m (X4_fewestMisses o1 a2 m) := by
  refine gCon.of (lv := [some (.inr (4, 0)), some (.inr (5, o1)), some (.inl a2), none, none, none]) (by decide +kernel) (Nat.le_of_ble_eq_true rfl) rfl (fun X C => ?_)
  unfold X4_fewestMisses
  refine r_aload_n C dX4_fewestMisses_0 rfl rfl ?_
  refine r_aload_n C dX4_fewestMisses_1 rfl rfl ?_
  refine r_invU (t := 4) (kb := 0) (As := [.inr (5, o1)]) (st := []) C il_X4_52 co_X4_findNextUses (by decide) rfl (c_X4_findNextUses o1 m) (by decide) (by decide) rfl rfl (Nat.le_of_ble_eq_true rfl) dX4_fewestMisses_2 (fun r2 m1 => ?_)
  refine r_aload_n C dX4_fewestMisses_5 rfl rfl ?_
  refine r_iconst (v := 0) C dX4_fewestMisses_6 (by decide) ?_
  refine r_put C fl_X4_45 rfl rfl rfl dX4_fewestMisses_7 (fun m3 => ?_)
  refine r_iconst (v := 0) C dX4_fewestMisses_10 (by decide) ?_
  refine r_istore_n (lv' := [some (.inr (4, 0)), some (.inr (5, o1)), some (.inl a2), some (.inl 0), none, none]) C dX4_fewestMisses_11 rfl (by decide) rfl ?_
  refine r_iconst (v := 0) C dX4_fewestMisses_12 (by decide) ?_
  refine r_istore (lv' := [some (.inr (4, 0)), some (.inr (5, o1)), some (.inl a2), some (.inl 0), some (.inl 0), none]) C dX4_fewestMisses_13 (by decide) rfl ?_
  refine r_weak (lv' := [some (.inr (4, 0)), some (.inr (5, o1)), some (.inl a2), some (.inl 0), some (.inl 0), none]) ⟨rfl, rfl, rfl, rfl, rfl, trivial⟩ ?_
  refine r_l2 (pj := 15) (fun v4 v5 => [some (.inr (4, 0)), some (.inr (5, o1)), some (.inl a2), some (.inl v4), some (.inl v5), none]) (fun v4 v5 m6 k15 hk15 => ?_) _ _ _ _
  unfold X4_fewestMisses_b15
  refine r_iload C dX4_fewestMisses_15 rfl ?_
  refine r_aload_n C dX4_fewestMisses_17 rfl rfl ?_
  refine r_get (v := .inl (m6 5 o1 2)) C fl_X4_30 dX4_fewestMisses_18 rfl ?_
  refine r_icmp_ge (tgt := 87) C dX4_fewestMisses_21 (by decide) ?_ ?_
  · refine r_iload_n C dX4_fewestMisses_87 rfl rfl ?_
    exact r_ireturn C dX4_fewestMisses_88
  refine r_aload_n C dX4_fewestMisses_24 rfl rfl ?_
  refine r_aload_n C dX4_fewestMisses_25 rfl rfl ?_
  refine r_get (v := .inr (38, o1)) C fl_X4_36 dX4_fewestMisses_26 rfl ?_
  refine r_iload C dX4_fewestMisses_29 rfl ?_
  refine r_iald C rfl dX4_fewestMisses_31 (fun x7 => ?_)
  refine r_invI (t := 4) (kb := 0) (As := [.inl x7]) (st := []) C il_X4_48 co_X4_placeHolding (by decide) rfl (c_X4_placeHolding x7 m6) (by decide) (by decide) rfl rfl (Nat.le_of_ble_eq_true rfl) dX4_fewestMisses_32 (fun r9 m8 => ?_)
  refine r_istore (lv' := [some (.inr (4, 0)), some (.inr (5, o1)), some (.inl a2), some (.inl v4), some (.inl v5), some (.inl r9)]) C dX4_fewestMisses_35 (by decide) rfl ?_
  refine r_iload C dX4_fewestMisses_37 rfl ?_
  refine r_iconst (v := (-1)) C dX4_fewestMisses_39 (by decide) ?_
  refine r_j2 53 (fun v10 v11 => [some (.inr (4, 0)), some (.inr (5, o1)), some (.inl a2), some (.inl v10), some (.inl v5), some (.inl v11)]) (fun v10 v11 => []) (fun v10 v11 m12 => ?_) (fun j53 hj53 => ?_)
  · refine r_aload_n C dX4_fewestMisses_53 rfl rfl ?_
    refine r_get (v := .inr (36, 0)) C fl_X4_18 dX4_fewestMisses_54 rfl ?_
    refine r_iload C dX4_fewestMisses_57 rfl ?_
    refine r_aload_n C dX4_fewestMisses_59 rfl rfl ?_
    refine r_get (v := .inr (38, o1)) C fl_X4_36 dX4_fewestMisses_60 rfl ?_
    refine r_iload C dX4_fewestMisses_63 rfl ?_
    refine r_iald C rfl dX4_fewestMisses_65 (fun x13 => ?_)
    refine r_iast C rfl dX4_fewestMisses_66 (fun m14 => ?_)
    refine r_aload_n C dX4_fewestMisses_67 rfl rfl ?_
    refine r_get (v := .inr (37, 0)) C fl_X4_21 dX4_fewestMisses_68 rfl ?_
    refine r_iload C dX4_fewestMisses_71 rfl ?_
    refine r_aload_n C dX4_fewestMisses_73 rfl rfl ?_
    refine r_get (v := .inr (35, 0)) C fl_X4_15 dX4_fewestMisses_74 rfl ?_
    refine r_iload C dX4_fewestMisses_77 rfl ?_
    refine r_iald C rfl dX4_fewestMisses_79 (fun x15 => ?_)
    refine r_iast C rfl dX4_fewestMisses_80 (fun m16 => ?_)
    refine r_iinc (v := 1) C dX4_fewestMisses_81 (by decide) rfl (by decide) (fun x17 => ?_)
    show gw X eI _ [some (.inr (4, 0)), some (.inr (5, o1)), some (.inl a2), some (.inl v10), some (.inl x17), some (.inl v11)] _ _ _
    refine r_goto (tgt := 15) C dX4_fewestMisses_84 (by decide) ?_
    exact r_weak (lv' := [some (.inr (4, 0)), some (.inr (5, o1)), some (.inl a2), some (.inl v10), some (.inl x17), none]) ⟨rfl, rfl, rfl, rfl, rfl, trivial⟩ (hk15 _ _ _)
  refine r_icmp_ne (tgt := 53) C dX4_fewestMisses_40 (by decide) ?_ ?_
  · exact r_weak (lv' := [some (.inr (4, 0)), some (.inr (5, o1)), some (.inl a2), some (.inl v4), some (.inl v5), some (.inl r9)]) ⟨rfl, rfl, rfl, rfl, rfl, rfl, trivial⟩ (hj53 _ _ _)
  refine r_iinc (v := 1) C dX4_fewestMisses_43 (by decide) rfl (by decide) (fun x18 => ?_)
  show gw X eI _ [some (.inr (4, 0)), some (.inr (5, o1)), some (.inl a2), some (.inl x18), some (.inl v5), some (.inl r9)] _ _ _
  refine r_aload_n C dX4_fewestMisses_46 rfl rfl ?_
  refine r_iload_n C dX4_fewestMisses_47 rfl rfl ?_
  refine r_invI (t := 4) (kb := 0) (As := [.inl a2]) (st := []) C il_X4_56 co_X4_placeToFill (by decide) rfl (c_X4_placeToFill a2 m8) (by decide) (by decide) rfl rfl (Nat.le_of_ble_eq_true rfl) dX4_fewestMisses_48 (fun r20 m19 => ?_)
  refine r_istore (lv' := [some (.inr (4, 0)), some (.inr (5, o1)), some (.inl a2), some (.inl x18), some (.inl v5), some (.inl r20)]) C dX4_fewestMisses_51 (by decide) rfl ?_
  exact r_weak (lv' := [some (.inr (4, 0)), some (.inr (5, o1)), some (.inl a2), some (.inl x18), some (.inl v5), some (.inl r20)]) ⟨rfl, rfl, rfl, rfl, rfl, rfl, trivial⟩ (hj53 _ _ _)
theorem dX5_takeTrace_0 : decode cX5_takeTrace 0 = .ok (.aload_n 0, 1) := by decide +kernel
theorem dX5_takeTrace_1 : decode cX5_takeTrace 1 = .ok (.aload_n 1, 1) := by decide +kernel
theorem dX5_takeTrace_2 : decode cX5_takeTrace 2 = .ok (.getfield 18, 3) := by decide +kernel
theorem dX5_takeTrace_5 : decode cX5_takeTrace 5 = .ok (.putfield 18, 3) := by decide +kernel
theorem dX5_takeTrace_8 : decode cX5_takeTrace 8 = .ok (.aload_n 1, 1) := by decide +kernel
theorem dX5_takeTrace_9 : decode cX5_takeTrace 9 = .ok (.getfield 9, 3) := by decide +kernel
theorem dX5_takeTrace_12 : decode cX5_takeTrace 12 = .ok (.iconst 0, 1) := by decide +kernel
theorem dX5_takeTrace_13 : decode cX5_takeTrace 13 = .ok (.aload_n 0, 1) := by decide +kernel
theorem dX5_takeTrace_14 : decode cX5_takeTrace 14 = .ok (.getfield 9, 3) := by decide +kernel
theorem dX5_takeTrace_17 : decode cX5_takeTrace 17 = .ok (.iconst 0, 1) := by decide +kernel
theorem dX5_takeTrace_18 : decode cX5_takeTrace 18 = .ok (.aload_n 0, 1) := by decide +kernel
theorem dX5_takeTrace_19 : decode cX5_takeTrace 19 = .ok (.getfield 18, 3) := by decide +kernel
theorem dX5_takeTrace_22 : decode cX5_takeTrace 22 = .ok (.invokestatic 22, 3) := by decide +kernel
theorem dX5_takeTrace_25 : decode cX5_takeTrace 25 = .ok (.aload_n 1, 1) := by decide +kernel
theorem dX5_takeTrace_26 : decode cX5_takeTrace 26 = .ok (.getfield 15, 3) := by decide +kernel
theorem dX5_takeTrace_29 : decode cX5_takeTrace 29 = .ok (.iconst 0, 1) := by decide +kernel
theorem dX5_takeTrace_30 : decode cX5_takeTrace 30 = .ok (.aload_n 0, 1) := by decide +kernel
theorem dX5_takeTrace_31 : decode cX5_takeTrace 31 = .ok (.getfield 15, 3) := by decide +kernel
theorem dX5_takeTrace_34 : decode cX5_takeTrace 34 = .ok (.iconst 0, 1) := by decide +kernel
theorem dX5_takeTrace_35 : decode cX5_takeTrace 35 = .ok (.aload_n 0, 1) := by decide +kernel
theorem dX5_takeTrace_36 : decode cX5_takeTrace 36 = .ok (.getfield 18, 3) := by decide +kernel
theorem dX5_takeTrace_39 : decode cX5_takeTrace 39 = .ok (.invokestatic 22, 3) := by decide +kernel
theorem dX5_takeTrace_42 : decode cX5_takeTrace 42 = .ok (.return_, 1) := by decide +kernel
def X5_takeTrace (k : Nat) (o1 : Nat) (m : gM) : Option (Unit × gM) :=
  gSet m 5 k 2 (m 5 o1 2) (fun (m1 : gM) => gCopy m1 38 o1 38 k 0 0 (m1 5 k 2) (fun (m2 : gM) => gCopy m2 39 o1 39 k 0 0 (m2 5 k 2) (fun (m3 : gM) => some ((), m3))))
set_option maxRecDepth 100000 in
set_option maxHeartbeats 4000000 in
theorem c_X5_takeTrace (k : Nat) (o1 : Nat) (m : gM) : gCon eU yX5_takeTrace cX5_takeTrace 2 none 1 [.inr (5, k), .inr (5, o1)] m (X5_takeTrace k o1 m) := by
  refine gCon.of (lv := [some (.inr (5, k)), some (.inr (5, o1))]) (by decide +kernel) (Nat.le_of_ble_eq_true rfl) rfl (fun X C => ?_)
  unfold X5_takeTrace
  refine r_aload_n C dX5_takeTrace_0 rfl rfl ?_
  refine r_aload_n C dX5_takeTrace_1 rfl rfl ?_
  refine r_get (v := .inl (m 5 o1 2)) C fl_X5_18 dX5_takeTrace_2 rfl ?_
  refine r_put C fl_X5_18 rfl rfl rfl dX5_takeTrace_5 (fun m1 => ?_)
  refine r_aload_n C dX5_takeTrace_8 rfl rfl ?_
  refine r_get (v := .inr (38, o1)) C fl_X5_9 dX5_takeTrace_9 rfl ?_
  refine r_iconst (v := 0) C dX5_takeTrace_12 (by decide) ?_
  refine r_aload_n C dX5_takeTrace_13 rfl rfl ?_
  refine r_get (v := .inr (38, k)) C fl_X5_9 dX5_takeTrace_14 rfl ?_
  refine r_iconst (v := 0) C dX5_takeTrace_17 (by decide) ?_
  refine r_aload_n C dX5_takeTrace_18 rfl rfl ?_
  refine r_get (v := .inl (m1 5 k 2)) C fl_X5_18 dX5_takeTrace_19 rfl ?_
  refine r_copy C rfl rfl ia_X5_22 (by decide) (by decide +kernel) dX5_takeTrace_22 (fun m2 => ?_)
  refine r_aload_n C dX5_takeTrace_25 rfl rfl ?_
  refine r_get (v := .inr (39, o1)) C fl_X5_15 dX5_takeTrace_26 rfl ?_
  refine r_iconst (v := 0) C dX5_takeTrace_29 (by decide) ?_
  refine r_aload_n C dX5_takeTrace_30 rfl rfl ?_
  refine r_get (v := .inr (39, k)) C fl_X5_15 dX5_takeTrace_31 rfl ?_
  refine r_iconst (v := 0) C dX5_takeTrace_34 (by decide) ?_
  refine r_aload_n C dX5_takeTrace_35 rfl rfl ?_
  refine r_get (v := .inl (m2 5 k 2)) C fl_X5_18 dX5_takeTrace_36 rfl ?_
  refine r_copy C rfl rfl ia_X5_22 (by decide) (by decide +kernel) dX5_takeTrace_39 (fun m3 => ?_)
  exact r_return C dX5_takeTrace_42
theorem dX5_written_0 : decode cX5_written 0 = .ok (.iconst 0, 1) := by decide +kernel
theorem dX5_written_1 : decode cX5_written 1 = .ok (.istore_n 1, 1) := by decide +kernel
theorem dX5_written_2 : decode cX5_written 2 = .ok (.iconst 0, 1) := by decide +kernel
theorem dX5_written_3 : decode cX5_written 3 = .ok (.istore_n 2, 1) := by decide +kernel
theorem dX5_written_4 : decode cX5_written 4 = .ok (.iload_n 2, 1) := by decide +kernel
theorem dX5_written_5 : decode cX5_written 5 = .ok (.aload_n 0, 1) := by decide +kernel
theorem dX5_written_6 : decode cX5_written 6 = .ok (.getfield 18, 3) := by decide +kernel
theorem dX5_written_9 : decode cX5_written 9 = .ok (.if_icmp .ge 22, 3) := by decide +kernel
theorem dX5_written_12 : decode cX5_written 12 = .ok (.aload_n 0, 1) := by decide +kernel
theorem dX5_written_13 : decode cX5_written 13 = .ok (.getfield 15, 3) := by decide +kernel
theorem dX5_written_16 : decode cX5_written 16 = .ok (.iload_n 2, 1) := by decide +kernel
theorem dX5_written_17 : decode cX5_written 17 = .ok (.iaload, 1) := by decide +kernel
theorem dX5_written_18 : decode cX5_written 18 = .ok (.iconst (-1), 1) := by decide +kernel
theorem dX5_written_19 : decode cX5_written 19 = .ok (.if_icmp .eq 6, 3) := by decide +kernel
theorem dX5_written_22 : decode cX5_written 22 = .ok (.iinc 1 1, 3) := by decide +kernel
theorem dX5_written_25 : decode cX5_written 25 = .ok (.iinc 2 1, 3) := by decide +kernel
theorem dX5_written_28 : decode cX5_written 28 = .ok (.goto (-24), 3) := by decide +kernel
theorem dX5_written_31 : decode cX5_written 31 = .ok (.iload_n 1, 1) := by decide +kernel
theorem dX5_written_32 : decode cX5_written 32 = .ok (.ireturn, 1) := by decide +kernel
def X5_written_b4 (k : Nat) (v1 v2 : Int32) (m3 : gM) (k4 : Int32 → Int32 → gM → Option (Int32 × gM)) : Option (Int32 × gM) :=
  if (m3 5 k 2) ≤ v2 then (some (v1, m3)) else (gAt m3 39 k v2 (fun (x4 : Int32) => if x4 = (-1) then (gLet (v2 + 1) (fun (x5 : Int32) => k4 v1 x5 m3)) else (gLet (v1 + 1) (fun (x6 : Int32) => gLet (v2 + 1) (fun (x7 : Int32) => k4 x6 x7 m3)))))
def X5_written (k : Nat) (m : gM) : Option (Int32 × gM) :=
  gL2 FU (X5_written_b4 k) 0 0 m
set_option maxRecDepth 100000 in
set_option maxHeartbeats 4000000 in
theorem c_X5_written (k : Nat) (m : gM) : gCon eI yX5_written cX5_written 3 (some .int) 0 [.inr (5, k)] m (X5_written k m) := by
  refine gCon.of (lv := [some (.inr (5, k)), none, none]) (by decide +kernel) (Nat.le_of_ble_eq_true rfl) rfl (fun X C => ?_)
  unfold X5_written
  refine r_iconst (v := 0) C dX5_written_0 (by decide) ?_
  refine r_istore_n (lv' := [some (.inr (5, k)), some (.inl 0), none]) C dX5_written_1 rfl (by decide) rfl ?_
  refine r_iconst (v := 0) C dX5_written_2 (by decide) ?_
  refine r_istore_n (lv' := [some (.inr (5, k)), some (.inl 0), some (.inl 0)]) C dX5_written_3 rfl (by decide) rfl ?_
  refine r_weak (lv' := [some (.inr (5, k)), some (.inl 0), some (.inl 0)]) ⟨rfl, rfl, rfl, trivial⟩ ?_
  refine r_l2 (pj := 4) (fun v1 v2 => [some (.inr (5, k)), some (.inl v1), some (.inl v2)]) (fun v1 v2 m3 k4 hk4 => ?_) _ _ _ _
  unfold X5_written_b4
  refine r_iload_n C dX5_written_4 rfl rfl ?_
  refine r_aload_n C dX5_written_5 rfl rfl ?_
  refine r_get (v := .inl (m3 5 k 2)) C fl_X5_18 dX5_written_6 rfl ?_
  refine r_icmp_ge (tgt := 31) C dX5_written_9 (by decide) ?_ ?_
  · refine r_iload_n C dX5_written_31 rfl rfl ?_
    exact r_ireturn C dX5_written_32
  refine r_aload_n C dX5_written_12 rfl rfl ?_
  refine r_get (v := .inr (39, k)) C fl_X5_15 dX5_written_13 rfl ?_
  refine r_iload_n C dX5_written_16 rfl rfl ?_
  refine r_iald C rfl dX5_written_17 (fun x4 => ?_)
  refine r_iconst (v := (-1)) C dX5_written_18 (by decide) ?_
  refine r_icmp_eq (tgt := 25) C dX5_written_19 (by decide) ?_ ?_
  · refine r_iinc (v := 1) C dX5_written_25 (by decide) rfl (by decide) (fun x5 => ?_)
    show gw X eI _ [some (.inr (5, k)), some (.inl v1), some (.inl x5)] _ _ _
    refine r_goto (tgt := 4) C dX5_written_28 (by decide) ?_
    exact r_weak (lv' := [some (.inr (5, k)), some (.inl v1), some (.inl x5)]) ⟨rfl, rfl, rfl, trivial⟩ (hk4 _ _ _)
  refine r_iinc (v := 1) C dX5_written_22 (by decide) rfl (by decide) (fun x6 => ?_)
  show gw X eI _ [some (.inr (5, k)), some (.inl x6), some (.inl v2)] _ _ _
  refine r_iinc (v := 1) C dX5_written_25 (by decide) rfl (by decide) (fun x7 => ?_)
  show gw X eI _ [some (.inr (5, k)), some (.inl x6), some (.inl x7)] _ _ _
  refine r_goto (tgt := 4) C dX5_written_28 (by decide) ?_
  exact r_weak (lv' := [some (.inr (5, k)), some (.inl x6), some (.inl x7)]) ⟨rfl, rfl, rfl, trivial⟩ (hk4 _ _ _)
theorem dX6_takeAll_0 : decode cX6_takeAll 0 = .ok (.aload_n 0, 1) := by decide +kernel
theorem dX6_takeAll_1 : decode cX6_takeAll 1 = .ok (.getfield 12, 3) := by decide +kernel
theorem dX6_takeAll_4 : decode cX6_takeAll 4 = .ok (.aload_n 1, 1) := by decide +kernel
theorem dX6_takeAll_5 : decode cX6_takeAll 5 = .ok (.getfield 12, 3) := by decide +kernel
theorem dX6_takeAll_8 : decode cX6_takeAll 8 = .ok (.invokevirtual 33, 3) := by decide +kernel
theorem dX6_takeAll_11 : decode cX6_takeAll 11 = .ok (.aload_n 0, 1) := by decide +kernel
theorem dX6_takeAll_12 : decode cX6_takeAll 12 = .ok (.iconst 0, 1) := by decide +kernel
theorem dX6_takeAll_13 : decode cX6_takeAll 13 = .ok (.putfield 37, 3) := by decide +kernel
theorem dX6_takeAll_16 : decode cX6_takeAll 16 = .ok (.aload_n 0, 1) := by decide +kernel
theorem dX6_takeAll_17 : decode cX6_takeAll 17 = .ok (.aload_n 1, 1) := by decide +kernel
theorem dX6_takeAll_18 : decode cX6_takeAll 18 = .ok (.getfield 41, 3) := by decide +kernel
theorem dX6_takeAll_21 : decode cX6_takeAll 21 = .ok (.putfield 41, 3) := by decide +kernel
theorem dX6_takeAll_24 : decode cX6_takeAll 24 = .ok (.iconst 0, 1) := by decide +kernel
theorem dX6_takeAll_25 : decode cX6_takeAll 25 = .ok (.istore_n 2, 1) := by decide +kernel
theorem dX6_takeAll_26 : decode cX6_takeAll 26 = .ok (.iload_n 2, 1) := by decide +kernel
theorem dX6_takeAll_27 : decode cX6_takeAll 27 = .ok (.aload_n 0, 1) := by decide +kernel
theorem dX6_takeAll_28 : decode cX6_takeAll 28 = .ok (.getfield 41, 3) := by decide +kernel
theorem dX6_takeAll_31 : decode cX6_takeAll 31 = .ok (.if_icmp .ge 32, 3) := by decide +kernel
theorem dX6_takeAll_34 : decode cX6_takeAll 34 = .ok (.aload_n 0, 1) := by decide +kernel
theorem dX6_takeAll_35 : decode cX6_takeAll 35 = .ok (.getfield 18, 3) := by decide +kernel
theorem dX6_takeAll_38 : decode cX6_takeAll 38 = .ok (.iload_n 2, 1) := by decide +kernel
theorem dX6_takeAll_39 : decode cX6_takeAll 39 = .ok (.aaload, 1) := by decide +kernel
theorem dX6_takeAll_40 : decode cX6_takeAll 40 = .ok (.aload_n 1, 1) := by decide +kernel
theorem dX6_takeAll_41 : decode cX6_takeAll 41 = .ok (.getfield 18, 3) := by decide +kernel
theorem dX6_takeAll_44 : decode cX6_takeAll 44 = .ok (.aload_n 1, 1) := by decide +kernel
theorem dX6_takeAll_45 : decode cX6_takeAll 45 = .ok (.getfield 37, 3) := by decide +kernel
theorem dX6_takeAll_48 : decode cX6_takeAll 48 = .ok (.iload_n 2, 1) := by decide +kernel
theorem dX6_takeAll_49 : decode cX6_takeAll 49 = .ok (.iadd, 1) := by decide +kernel
theorem dX6_takeAll_50 : decode cX6_takeAll 50 = .ok (.bipush 20, 2) := by decide +kernel
theorem dX6_takeAll_52 : decode cX6_takeAll 52 = .ok (.irem, 1) := by decide +kernel
theorem dX6_takeAll_53 : decode cX6_takeAll 53 = .ok (.aaload, 1) := by decide +kernel
theorem dX6_takeAll_54 : decode cX6_takeAll 54 = .ok (.invokevirtual 33, 3) := by decide +kernel
theorem dX6_takeAll_57 : decode cX6_takeAll 57 = .ok (.iinc 2 1, 3) := by decide +kernel
theorem dX6_takeAll_60 : decode cX6_takeAll 60 = .ok (.goto (-34), 3) := by decide +kernel
theorem dX6_takeAll_63 : decode cX6_takeAll 63 = .ok (.aload_n 0, 1) := by decide +kernel
theorem dX6_takeAll_64 : decode cX6_takeAll 64 = .ok (.aload_n 1, 1) := by decide +kernel
theorem dX6_takeAll_65 : decode cX6_takeAll 65 = .ok (.getfield 44, 3) := by decide +kernel
theorem dX6_takeAll_68 : decode cX6_takeAll 68 = .ok (.putfield 44, 3) := by decide +kernel
theorem dX6_takeAll_71 : decode cX6_takeAll 71 = .ok (.iconst 0, 1) := by decide +kernel
theorem dX6_takeAll_72 : decode cX6_takeAll 72 = .ok (.istore_n 2, 1) := by decide +kernel
theorem dX6_takeAll_73 : decode cX6_takeAll 73 = .ok (.iload_n 2, 1) := by decide +kernel
theorem dX6_takeAll_74 : decode cX6_takeAll 74 = .ok (.aload_n 0, 1) := by decide +kernel
theorem dX6_takeAll_75 : decode cX6_takeAll 75 = .ok (.getfield 44, 3) := by decide +kernel
theorem dX6_takeAll_78 : decode cX6_takeAll 78 = .ok (.if_icmp .ge 24, 3) := by decide +kernel
theorem dX6_takeAll_81 : decode cX6_takeAll 81 = .ok (.aload_n 0, 1) := by decide +kernel
theorem dX6_takeAll_82 : decode cX6_takeAll 82 = .ok (.getfield 24, 3) := by decide +kernel
theorem dX6_takeAll_85 : decode cX6_takeAll 85 = .ok (.iload_n 2, 1) := by decide +kernel
theorem dX6_takeAll_86 : decode cX6_takeAll 86 = .ok (.aaload, 1) := by decide +kernel
theorem dX6_takeAll_87 : decode cX6_takeAll 87 = .ok (.aload_n 1, 1) := by decide +kernel
theorem dX6_takeAll_88 : decode cX6_takeAll 88 = .ok (.getfield 24, 3) := by decide +kernel
theorem dX6_takeAll_91 : decode cX6_takeAll 91 = .ok (.iload_n 2, 1) := by decide +kernel
theorem dX6_takeAll_92 : decode cX6_takeAll 92 = .ok (.aaload, 1) := by decide +kernel
theorem dX6_takeAll_93 : decode cX6_takeAll 93 = .ok (.invokevirtual 47, 3) := by decide +kernel
theorem dX6_takeAll_96 : decode cX6_takeAll 96 = .ok (.iinc 2 1, 3) := by decide +kernel
theorem dX6_takeAll_99 : decode cX6_takeAll 99 = .ok (.goto (-26), 3) := by decide +kernel
theorem dX6_takeAll_102 : decode cX6_takeAll 102 = .ok (.aload_n 0, 1) := by decide +kernel
theorem dX6_takeAll_103 : decode cX6_takeAll 103 = .ok (.aload_n 1, 1) := by decide +kernel
theorem dX6_takeAll_104 : decode cX6_takeAll 104 = .ok (.getfield 51, 3) := by decide +kernel
theorem dX6_takeAll_107 : decode cX6_takeAll 107 = .ok (.putfield 51, 3) := by decide +kernel
theorem dX6_takeAll_110 : decode cX6_takeAll 110 = .ok (.aload_n 1, 1) := by decide +kernel
theorem dX6_takeAll_111 : decode cX6_takeAll 111 = .ok (.getfield 28, 3) := by decide +kernel
theorem dX6_takeAll_114 : decode cX6_takeAll 114 = .ok (.iconst 0, 1) := by decide +kernel
theorem dX6_takeAll_115 : decode cX6_takeAll 115 = .ok (.aload_n 0, 1) := by decide +kernel
theorem dX6_takeAll_116 : decode cX6_takeAll 116 = .ok (.getfield 28, 3) := by decide +kernel
theorem dX6_takeAll_119 : decode cX6_takeAll 119 = .ok (.iconst 0, 1) := by decide +kernel
theorem dX6_takeAll_120 : decode cX6_takeAll 120 = .ok (.aload_n 0, 1) := by decide +kernel
theorem dX6_takeAll_121 : decode cX6_takeAll 121 = .ok (.getfield 51, 3) := by decide +kernel
theorem dX6_takeAll_124 : decode cX6_takeAll 124 = .ok (.invokestatic 54, 3) := by decide +kernel
theorem dX6_takeAll_127 : decode cX6_takeAll 127 = .ok (.return_, 1) := by decide +kernel
def X6_takeAll_b73 (k : Nat) (o1 : Nat) (j102 : gM → Option (Unit × gM)) (v10 : Int32) (m11 : gM) (k73 : Int32 → gM → Option (Unit × gM)) : Option (Unit × gM) :=
  if (m11 6 k 6) ≤ v10 then (j102 m11) else (gAtR 42 v10 (fun (n12 : Nat) => gAtR 42 v10 (fun (n13 : Nat) => gCall (X5_takeTrace (4 * k + n12) (4 * o1 + n13) m11) (fun (r15 : Unit) (m14 : gM) => gLet (v10 + 1) (fun (x16 : Int32) => k73 x16 m14)))))
def X6_takeAll_b26 (k : Nat) (o1 : Nat) (j63 : gM → Option (Unit × gM)) (v17 : Int32) (m18 : gM) (k26 : Int32 → gM → Option (Unit × gM)) : Option (Unit × gM) :=
  if (m18 6 k 5) ≤ v17 then (j63 m18) else (gAtR 41 v17 (fun (n19 : Nat) => gAtR 41 (gRem ((m18 6 o1 4) + v17) 20) (fun (n20 : Nat) => gCall (X3_takeStore (21 * k + 1 + n19) (21 * o1 + 1 + n20) m18) (fun (r22 : Unit) (m21 : gM) => gLet (v17 + 1) (fun (x23 : Int32) => k26 x23 m21)))))
def X6_takeAll (k : Nat) (o1 : Nat) (m : gM) : Option (Unit × gM) :=
  gCall (X3_takeStore (21 * k) (21 * o1) m) (fun (r2 : Unit) (m1 : gM) => gSet m1 6 k 4 0 (fun (m3 : gM) => gSet m3 6 k 5 (m3 6 o1 5) (fun (m4 : gM) => gJ0 (fun (m5 : gM) => gSet m5 6 k 6 (m5 6 o1 6) (fun (m6 : gM) => gJ0 (fun (m7 : gM) => gSet m7 6 k 7 (m7 6 o1 7) (fun (m8 : gM) => gCopy m8 40 o1 40 k 0 0 (m8 6 k 7) (fun (m9 : gM) => some ((), m9)))) (fun (j102 : gM → Option (Unit × gM)) => gL1 FU (X6_takeAll_b73 k o1 j102) 0 m6))) (fun (j63 : gM → Option (Unit × gM)) => gL1 FU (X6_takeAll_b26 k o1 j63) 0 m4))))
set_option maxRecDepth 100000 in
set_option maxHeartbeats 4000000 in
theorem c_X6_takeAll (k : Nat) (o1 : Nat) (m : gM) : gCon eU yX6_takeAll cX6_takeAll 3 none 3 [.inr (6, k), .inr (6, o1)] m (X6_takeAll k o1 m) := by
  refine gCon.of (lv := [some (.inr (6, k)), some (.inr (6, o1)), none]) (by decide +kernel) (Nat.le_of_ble_eq_true rfl) rfl (fun X C => ?_)
  unfold X6_takeAll
  refine r_aload_n C dX6_takeAll_0 rfl rfl ?_
  refine r_get (v := .inr (3, (21 * k))) C fl_X6_12 dX6_takeAll_1 rfl ?_
  refine r_aload_n C dX6_takeAll_4 rfl rfl ?_
  refine r_get (v := .inr (3, (21 * o1))) C fl_X6_12 dX6_takeAll_5 rfl ?_
  refine r_invU (t := 3) (kb := (21 * k)) (As := [.inr (3, (21 * o1))]) (st := []) C il_X6_33 co_X3_takeStore (by decide) rfl (c_X3_takeStore (21 * k) (21 * o1) m) (by decide) (by decide) rfl rfl (Nat.le_of_ble_eq_true rfl) dX6_takeAll_8 (fun r2 m1 => ?_)
  refine r_aload_n C dX6_takeAll_11 rfl rfl ?_
  refine r_iconst (v := 0) C dX6_takeAll_12 (by decide) ?_
  refine r_put C fl_X6_37 rfl rfl rfl dX6_takeAll_13 (fun m3 => ?_)
  refine r_aload_n C dX6_takeAll_16 rfl rfl ?_
  refine r_aload_n C dX6_takeAll_17 rfl rfl ?_
  refine r_get (v := .inl (m3 6 o1 5)) C fl_X6_41 dX6_takeAll_18 rfl ?_
  refine r_put C fl_X6_41 rfl rfl rfl dX6_takeAll_21 (fun m4 => ?_)
  refine r_iconst (v := 0) C dX6_takeAll_24 (by decide) ?_
  refine r_istore_n (lv' := [some (.inr (6, k)), some (.inr (6, o1)), some (.inl 0)]) C dX6_takeAll_25 rfl (by decide) rfl ?_
  refine r_j0 63 [some (.inr (6, k)), some (.inr (6, o1)), none] [] (fun m5 => ?_) (fun j63 hj63 => ?_)
  · refine r_aload_n C dX6_takeAll_63 rfl rfl ?_
    refine r_aload_n C dX6_takeAll_64 rfl rfl ?_
    refine r_get (v := .inl (m5 6 o1 6)) C fl_X6_44 dX6_takeAll_65 rfl ?_
    refine r_put C fl_X6_44 rfl rfl rfl dX6_takeAll_68 (fun m6 => ?_)
    refine r_iconst (v := 0) C dX6_takeAll_71 (by decide) ?_
    refine r_istore_n (lv' := [some (.inr (6, k)), some (.inr (6, o1)), some (.inl 0)]) C dX6_takeAll_72 rfl (by decide) rfl ?_
    refine r_j0 102 [some (.inr (6, k)), some (.inr (6, o1)), none] [] (fun m7 => ?_) (fun j102 hj102 => ?_)
    · refine r_aload_n C dX6_takeAll_102 rfl rfl ?_
      refine r_aload_n C dX6_takeAll_103 rfl rfl ?_
      refine r_get (v := .inl (m7 6 o1 7)) C fl_X6_51 dX6_takeAll_104 rfl ?_
      refine r_put C fl_X6_51 rfl rfl rfl dX6_takeAll_107 (fun m8 => ?_)
      refine r_aload_n C dX6_takeAll_110 rfl rfl ?_
      refine r_get (v := .inr (40, o1)) C fl_X6_28 dX6_takeAll_111 rfl ?_
      refine r_iconst (v := 0) C dX6_takeAll_114 (by decide) ?_
      refine r_aload_n C dX6_takeAll_115 rfl rfl ?_
      refine r_get (v := .inr (40, k)) C fl_X6_28 dX6_takeAll_116 rfl ?_
      refine r_iconst (v := 0) C dX6_takeAll_119 (by decide) ?_
      refine r_aload_n C dX6_takeAll_120 rfl rfl ?_
      refine r_get (v := .inl (m8 6 k 7)) C fl_X6_51 dX6_takeAll_121 rfl ?_
      refine r_copy C rfl rfl ia_X6_54 (by decide) (by decide +kernel) dX6_takeAll_124 (fun m9 => ?_)
      exact r_return C dX6_takeAll_127
    refine r_weak (lv' := [some (.inr (6, k)), some (.inr (6, o1)), some (.inl 0)]) ⟨rfl, rfl, rfl, trivial⟩ ?_
    refine r_l1 (pj := 73) (fun v10 => [some (.inr (6, k)), some (.inr (6, o1)), some (.inl v10)]) (fun v10 m11 k73 hk73 => ?_) _ _ _
    unfold X6_takeAll_b73
    refine r_iload_n C dX6_takeAll_73 rfl rfl ?_
    refine r_aload_n C dX6_takeAll_74 rfl rfl ?_
    refine r_get (v := .inl (m11 6 k 6)) C fl_X6_44 dX6_takeAll_75 rfl ?_
    refine r_icmp_ge (tgt := 102) C dX6_takeAll_78 (by decide) ?_ ?_
    · exact r_weak (lv' := [some (.inr (6, k)), some (.inr (6, o1)), none]) ⟨rfl, rfl, trivial⟩ (hj102 _)
    refine r_aload_n C dX6_takeAll_81 rfl rfl ?_
    refine r_get (v := .inr (42, k)) C fl_X6_24 dX6_takeAll_82 rfl ?_
    refine r_iload_n C dX6_takeAll_85 rfl rfl ?_
    refine r_aald (q := fun n12 => (5, (4 * k + n12))) C (by decide) (fun _ => rfl) dX6_takeAll_86 (fun n12 => ?_)
    refine r_aload_n C dX6_takeAll_87 rfl rfl ?_
    refine r_get (v := .inr (42, o1)) C fl_X6_24 dX6_takeAll_88 rfl ?_
    refine r_iload_n C dX6_takeAll_91 rfl rfl ?_
    refine r_aald (q := fun n13 => (5, (4 * o1 + n13))) C (by decide) (fun _ => rfl) dX6_takeAll_92 (fun n13 => ?_)
    refine r_invU (t := 5) (kb := (4 * k + n12)) (As := [.inr (5, (4 * o1 + n13))]) (st := []) C il_X6_47 co_X5_takeTrace (by decide) rfl (c_X5_takeTrace (4 * k + n12) (4 * o1 + n13) m11) (by decide) (by decide) rfl rfl (Nat.le_of_ble_eq_true rfl) dX6_takeAll_93 (fun r15 m14 => ?_)
    refine r_iinc (v := 1) C dX6_takeAll_96 (by decide) rfl (by decide) (fun x16 => ?_)
    show gw X eU _ [some (.inr (6, k)), some (.inr (6, o1)), some (.inl x16)] _ _ _
    refine r_goto (tgt := 73) C dX6_takeAll_99 (by decide) ?_
    exact r_weak (lv' := [some (.inr (6, k)), some (.inr (6, o1)), some (.inl x16)]) ⟨rfl, rfl, rfl, trivial⟩ (hk73 _ _)
  refine r_weak (lv' := [some (.inr (6, k)), some (.inr (6, o1)), some (.inl 0)]) ⟨rfl, rfl, rfl, trivial⟩ ?_
  refine r_l1 (pj := 26) (fun v17 => [some (.inr (6, k)), some (.inr (6, o1)), some (.inl v17)]) (fun v17 m18 k26 hk26 => ?_) _ _ _
  unfold X6_takeAll_b26
  refine r_iload_n C dX6_takeAll_26 rfl rfl ?_
  refine r_aload_n C dX6_takeAll_27 rfl rfl ?_
  refine r_get (v := .inl (m18 6 k 5)) C fl_X6_41 dX6_takeAll_28 rfl ?_
  refine r_icmp_ge (tgt := 63) C dX6_takeAll_31 (by decide) ?_ ?_
  · exact r_weak (lv' := [some (.inr (6, k)), some (.inr (6, o1)), none]) ⟨rfl, rfl, trivial⟩ (hj63 _)
  refine r_aload_n C dX6_takeAll_34 rfl rfl ?_
  refine r_get (v := .inr (41, k)) C fl_X6_18 dX6_takeAll_35 rfl ?_
  refine r_iload_n C dX6_takeAll_38 rfl rfl ?_
  refine r_aald (q := fun n19 => (3, (21 * k + 1 + n19))) C (by decide) (fun _ => rfl) dX6_takeAll_39 (fun n19 => ?_)
  refine r_aload_n C dX6_takeAll_40 rfl rfl ?_
  refine r_get (v := .inr (41, o1)) C fl_X6_18 dX6_takeAll_41 rfl ?_
  refine r_aload_n C dX6_takeAll_44 rfl rfl ?_
  refine r_get (v := .inl (m18 6 o1 4)) C fl_X6_37 dX6_takeAll_45 rfl ?_
  refine r_iload_n C dX6_takeAll_48 rfl rfl ?_
  refine r_iadd C dX6_takeAll_49 ?_
  refine r_bipush (v := 20) C dX6_takeAll_50 (by decide) ?_
  refine r_irem C dX6_takeAll_52 (by decide) ?_
  refine r_aald (q := fun n20 => (3, (21 * o1 + 1 + n20))) C (by decide) (fun _ => rfl) dX6_takeAll_53 (fun n20 => ?_)
  refine r_invU (t := 3) (kb := (21 * k + 1 + n19)) (As := [.inr (3, (21 * o1 + 1 + n20))]) (st := []) C il_X6_33 co_X3_takeStore (by decide) rfl (c_X3_takeStore (21 * k + 1 + n19) (21 * o1 + 1 + n20) m18) (by decide) (by decide) rfl rfl (Nat.le_of_ble_eq_true rfl) dX6_takeAll_54 (fun r22 m21 => ?_)
  refine r_iinc (v := 1) C dX6_takeAll_57 (by decide) rfl (by decide) (fun x23 => ?_)
  show gw X eU _ [some (.inr (6, k)), some (.inr (6, o1)), some (.inl x23)] _ _ _
  refine r_goto (tgt := 26) C dX6_takeAll_60 (by decide) ?_
  exact r_weak (lv' := [some (.inr (6, k)), some (.inr (6, o1)), some (.inl x23)]) ⟨rfl, rfl, rfl, trivial⟩ (hk26 _ _)
theorem dX6_remember_0 : decode cX6_remember 0 = .ok (.aload_n 0, 1) := by decide +kernel
theorem dX6_remember_1 : decode cX6_remember 1 = .ok (.getfield 41, 3) := by decide +kernel
theorem dX6_remember_4 : decode cX6_remember 4 = .ok (.bipush 20, 2) := by decide +kernel
theorem dX6_remember_6 : decode cX6_remember 6 = .ok (.if_icmp .ne 26, 3) := by decide +kernel
theorem dX6_remember_9 : decode cX6_remember 9 = .ok (.aload_n 0, 1) := by decide +kernel
theorem dX6_remember_10 : decode cX6_remember 10 = .ok (.aload_n 0, 1) := by decide +kernel
theorem dX6_remember_11 : decode cX6_remember 11 = .ok (.getfield 37, 3) := by decide +kernel
theorem dX6_remember_14 : decode cX6_remember 14 = .ok (.iconst 1, 1) := by decide +kernel
theorem dX6_remember_15 : decode cX6_remember 15 = .ok (.iadd, 1) := by decide +kernel
theorem dX6_remember_16 : decode cX6_remember 16 = .ok (.bipush 20, 2) := by decide +kernel
theorem dX6_remember_18 : decode cX6_remember 18 = .ok (.irem, 1) := by decide +kernel
theorem dX6_remember_19 : decode cX6_remember 19 = .ok (.putfield 37, 3) := by decide +kernel
theorem dX6_remember_22 : decode cX6_remember 22 = .ok (.aload_n 0, 1) := by decide +kernel
theorem dX6_remember_23 : decode cX6_remember 23 = .ok (.dup, 1) := by decide +kernel
theorem dX6_remember_24 : decode cX6_remember 24 = .ok (.getfield 41, 3) := by decide +kernel
theorem dX6_remember_27 : decode cX6_remember 27 = .ok (.iconst 1, 1) := by decide +kernel
theorem dX6_remember_28 : decode cX6_remember 28 = .ok (.isub, 1) := by decide +kernel
theorem dX6_remember_29 : decode cX6_remember 29 = .ok (.putfield 41, 3) := by decide +kernel
theorem dX6_remember_32 : decode cX6_remember 32 = .ok (.aload_n 0, 1) := by decide +kernel
theorem dX6_remember_33 : decode cX6_remember 33 = .ok (.getfield 18, 3) := by decide +kernel
theorem dX6_remember_36 : decode cX6_remember 36 = .ok (.aload_n 0, 1) := by decide +kernel
theorem dX6_remember_37 : decode cX6_remember 37 = .ok (.getfield 37, 3) := by decide +kernel
theorem dX6_remember_40 : decode cX6_remember 40 = .ok (.aload_n 0, 1) := by decide +kernel
theorem dX6_remember_41 : decode cX6_remember 41 = .ok (.getfield 41, 3) := by decide +kernel
theorem dX6_remember_44 : decode cX6_remember 44 = .ok (.iadd, 1) := by decide +kernel
theorem dX6_remember_45 : decode cX6_remember 45 = .ok (.bipush 20, 2) := by decide +kernel
theorem dX6_remember_47 : decode cX6_remember 47 = .ok (.irem, 1) := by decide +kernel
theorem dX6_remember_48 : decode cX6_remember 48 = .ok (.aaload, 1) := by decide +kernel
theorem dX6_remember_49 : decode cX6_remember 49 = .ok (.aload_n 0, 1) := by decide +kernel
theorem dX6_remember_50 : decode cX6_remember 50 = .ok (.getfield 12, 3) := by decide +kernel
theorem dX6_remember_53 : decode cX6_remember 53 = .ok (.invokevirtual 33, 3) := by decide +kernel
theorem dX6_remember_56 : decode cX6_remember 56 = .ok (.aload_n 0, 1) := by decide +kernel
theorem dX6_remember_57 : decode cX6_remember 57 = .ok (.dup, 1) := by decide +kernel
theorem dX6_remember_58 : decode cX6_remember 58 = .ok (.getfield 41, 3) := by decide +kernel
theorem dX6_remember_61 : decode cX6_remember 61 = .ok (.iconst 1, 1) := by decide +kernel
theorem dX6_remember_62 : decode cX6_remember 62 = .ok (.iadd, 1) := by decide +kernel
theorem dX6_remember_63 : decode cX6_remember 63 = .ok (.putfield 41, 3) := by decide +kernel
theorem dX6_remember_66 : decode cX6_remember 66 = .ok (.return_, 1) := by decide +kernel
def X6_remember (k : Nat) (m : gM) : Option (Unit × gM) :=
  gJ0 (fun (m1 : gM) => gAtR 41 (gRem ((m1 6 k 4) + (m1 6 k 5)) 20) (fun (n2 : Nat) => gCall (X3_takeStore (21 * k + 1 + n2) (21 * k) m1) (fun (r4 : Unit) (m3 : gM) => gLet ((m3 6 k 5) + 1) (fun (x5 : Int32) => gSet m3 6 k 5 x5 (fun (m6 : gM) => some ((), m6)))))) (fun (j32 : gM → Option (Unit × gM)) => if (m 6 k 5) = 20 then (gLet (gRem ((m 6 k 4) + 1) 20) (fun (x7 : Int32) => gSet m 6 k 4 x7 (fun (m8 : gM) => gLet ((m8 6 k 5) - 1) (fun (x9 : Int32) => gSet m8 6 k 5 x9 (fun (m10 : gM) => j32 m10))))) else (j32 m))
set_option maxRecDepth 100000 in
set_option maxHeartbeats 4000000 in
theorem c_X6_remember (k : Nat) (m : gM) : gCon eU yX6_remember cX6_remember 1 none 3 [.inr (6, k)] m (X6_remember k m) := by
  refine gCon.of (lv := [some (.inr (6, k))]) (by decide +kernel) (Nat.le_of_ble_eq_true rfl) rfl (fun X C => ?_)
  unfold X6_remember
  refine r_aload_n C dX6_remember_0 rfl rfl ?_
  refine r_get (v := .inl (m 6 k 5)) C fl_X6_41 dX6_remember_1 rfl ?_
  refine r_bipush (v := 20) C dX6_remember_4 (by decide) ?_
  refine r_j0 32 [some (.inr (6, k))] [] (fun m1 => ?_) (fun j32 hj32 => ?_)
  · refine r_aload_n C dX6_remember_32 rfl rfl ?_
    refine r_get (v := .inr (41, k)) C fl_X6_18 dX6_remember_33 rfl ?_
    refine r_aload_n C dX6_remember_36 rfl rfl ?_
    refine r_get (v := .inl (m1 6 k 4)) C fl_X6_37 dX6_remember_37 rfl ?_
    refine r_aload_n C dX6_remember_40 rfl rfl ?_
    refine r_get (v := .inl (m1 6 k 5)) C fl_X6_41 dX6_remember_41 rfl ?_
    refine r_iadd C dX6_remember_44 ?_
    refine r_bipush (v := 20) C dX6_remember_45 (by decide) ?_
    refine r_irem C dX6_remember_47 (by decide) ?_
    refine r_aald (q := fun n2 => (3, (21 * k + 1 + n2))) C (by decide) (fun _ => rfl) dX6_remember_48 (fun n2 => ?_)
    refine r_aload_n C dX6_remember_49 rfl rfl ?_
    refine r_get (v := .inr (3, (21 * k))) C fl_X6_12 dX6_remember_50 rfl ?_
    refine r_invU (t := 3) (kb := (21 * k + 1 + n2)) (As := [.inr (3, (21 * k))]) (st := []) C il_X6_33 co_X3_takeStore (by decide) rfl (c_X3_takeStore (21 * k + 1 + n2) (21 * k) m1) (by decide) (by decide) rfl rfl (Nat.le_of_ble_eq_true rfl) dX6_remember_53 (fun r4 m3 => ?_)
    refine r_aload_n C dX6_remember_56 rfl rfl ?_
    refine r_dup C dX6_remember_57 ?_
    refine r_get (v := .inl (m3 6 k 5)) C fl_X6_41 dX6_remember_58 rfl ?_
    refine r_iconst (v := 1) C dX6_remember_61 (by decide) ?_
    refine r_iadd C dX6_remember_62 ?_
    refine r_let (fun x5 => ?_)
    refine r_put C fl_X6_41 rfl rfl rfl dX6_remember_63 (fun m6 => ?_)
    exact r_return C dX6_remember_66
  refine r_icmp_ne (tgt := 32) C dX6_remember_6 (by decide) ?_ ?_
  · exact r_weak (lv' := [some (.inr (6, k))]) ⟨rfl, trivial⟩ (hj32 _)
  refine r_aload_n C dX6_remember_9 rfl rfl ?_
  refine r_aload_n C dX6_remember_10 rfl rfl ?_
  refine r_get (v := .inl (m 6 k 4)) C fl_X6_37 dX6_remember_11 rfl ?_
  refine r_iconst (v := 1) C dX6_remember_14 (by decide) ?_
  refine r_iadd C dX6_remember_15 ?_
  refine r_bipush (v := 20) C dX6_remember_16 (by decide) ?_
  refine r_irem C dX6_remember_18 (by decide) ?_
  refine r_let (fun x7 => ?_)
  refine r_put C fl_X6_37 rfl rfl rfl dX6_remember_19 (fun m8 => ?_)
  refine r_aload_n C dX6_remember_22 rfl rfl ?_
  refine r_dup C dX6_remember_23 ?_
  refine r_get (v := .inl (m8 6 k 5)) C fl_X6_41 dX6_remember_24 rfl ?_
  refine r_iconst (v := 1) C dX6_remember_27 (by decide) ?_
  refine r_isub C dX6_remember_28 ?_
  refine r_let (fun x9 => ?_)
  refine r_put C fl_X6_41 rfl rfl rfl dX6_remember_29 (fun m10 => ?_)
  exact r_weak (lv' := [some (.inr (6, k))]) ⟨rfl, trivial⟩ (hj32 _)
theorem dX6_takeBack_0 : decode cX6_takeBack 0 = .ok (.aload_n 0, 1) := by decide +kernel
theorem dX6_takeBack_1 : decode cX6_takeBack 1 = .ok (.getfield 41, 3) := by decide +kernel
theorem dX6_takeBack_4 : decode cX6_takeBack 4 = .ok (.ifCond .ne 5, 3) := by decide +kernel
theorem dX6_takeBack_7 : decode cX6_takeBack 7 = .ok (.iconst (-1), 1) := by decide +kernel
theorem dX6_takeBack_8 : decode cX6_takeBack 8 = .ok (.ireturn, 1) := by decide +kernel
theorem dX6_takeBack_9 : decode cX6_takeBack 9 = .ok (.aload_n 0, 1) := by decide +kernel
theorem dX6_takeBack_10 : decode cX6_takeBack 10 = .ok (.dup, 1) := by decide +kernel
theorem dX6_takeBack_11 : decode cX6_takeBack 11 = .ok (.getfield 41, 3) := by decide +kernel
theorem dX6_takeBack_14 : decode cX6_takeBack 14 = .ok (.iconst 1, 1) := by decide +kernel
theorem dX6_takeBack_15 : decode cX6_takeBack 15 = .ok (.isub, 1) := by decide +kernel
theorem dX6_takeBack_16 : decode cX6_takeBack 16 = .ok (.putfield 41, 3) := by decide +kernel
theorem dX6_takeBack_19 : decode cX6_takeBack 19 = .ok (.aload_n 0, 1) := by decide +kernel
theorem dX6_takeBack_20 : decode cX6_takeBack 20 = .ok (.getfield 12, 3) := by decide +kernel
theorem dX6_takeBack_23 : decode cX6_takeBack 23 = .ok (.aload_n 0, 1) := by decide +kernel
theorem dX6_takeBack_24 : decode cX6_takeBack 24 = .ok (.getfield 18, 3) := by decide +kernel
theorem dX6_takeBack_27 : decode cX6_takeBack 27 = .ok (.aload_n 0, 1) := by decide +kernel
theorem dX6_takeBack_28 : decode cX6_takeBack 28 = .ok (.getfield 37, 3) := by decide +kernel
theorem dX6_takeBack_31 : decode cX6_takeBack 31 = .ok (.aload_n 0, 1) := by decide +kernel
theorem dX6_takeBack_32 : decode cX6_takeBack 32 = .ok (.getfield 41, 3) := by decide +kernel
theorem dX6_takeBack_35 : decode cX6_takeBack 35 = .ok (.iadd, 1) := by decide +kernel
theorem dX6_takeBack_36 : decode cX6_takeBack 36 = .ok (.bipush 20, 2) := by decide +kernel
theorem dX6_takeBack_38 : decode cX6_takeBack 38 = .ok (.irem, 1) := by decide +kernel
theorem dX6_takeBack_39 : decode cX6_takeBack 39 = .ok (.aaload, 1) := by decide +kernel
theorem dX6_takeBack_40 : decode cX6_takeBack 40 = .ok (.invokevirtual 33, 3) := by decide +kernel
theorem dX6_takeBack_43 : decode cX6_takeBack 43 = .ok (.aload_n 0, 1) := by decide +kernel
theorem dX6_takeBack_44 : decode cX6_takeBack 44 = .ok (.getfield 41, 3) := by decide +kernel
theorem dX6_takeBack_47 : decode cX6_takeBack 47 = .ok (.ireturn, 1) := by decide +kernel
def X6_takeBack (k : Nat) (m : gM) : Option (Int32 × gM) :=
  if (m 6 k 5) = 0 then (some ((-1), m)) else (gLet ((m 6 k 5) - 1) (fun (x1 : Int32) => gSet m 6 k 5 x1 (fun (m2 : gM) => gAtR 41 (gRem ((m2 6 k 4) + (m2 6 k 5)) 20) (fun (n3 : Nat) => gCall (X3_takeStore (21 * k) (21 * k + 1 + n3) m2) (fun (r5 : Unit) (m4 : gM) => some ((m4 6 k 5), m4))))))
set_option maxRecDepth 100000 in
set_option maxHeartbeats 4000000 in
theorem c_X6_takeBack (k : Nat) (m : gM) : gCon eI yX6_takeBack cX6_takeBack 1 (some .int) 3 [.inr (6, k)] m (X6_takeBack k m) := by
  refine gCon.of (lv := [some (.inr (6, k))]) (by decide +kernel) (Nat.le_of_ble_eq_true rfl) rfl (fun X C => ?_)
  unfold X6_takeBack
  refine r_aload_n C dX6_takeBack_0 rfl rfl ?_
  refine r_get (v := .inl (m 6 k 5)) C fl_X6_41 dX6_takeBack_1 rfl ?_
  refine r_if_ne (tgt := 9) C dX6_takeBack_4 (by decide) ?_ ?_
  · refine r_aload_n C dX6_takeBack_9 rfl rfl ?_
    refine r_dup C dX6_takeBack_10 ?_
    refine r_get (v := .inl (m 6 k 5)) C fl_X6_41 dX6_takeBack_11 rfl ?_
    refine r_iconst (v := 1) C dX6_takeBack_14 (by decide) ?_
    refine r_isub C dX6_takeBack_15 ?_
    refine r_let (fun x1 => ?_)
    refine r_put C fl_X6_41 rfl rfl rfl dX6_takeBack_16 (fun m2 => ?_)
    refine r_aload_n C dX6_takeBack_19 rfl rfl ?_
    refine r_get (v := .inr (3, (21 * k))) C fl_X6_12 dX6_takeBack_20 rfl ?_
    refine r_aload_n C dX6_takeBack_23 rfl rfl ?_
    refine r_get (v := .inr (41, k)) C fl_X6_18 dX6_takeBack_24 rfl ?_
    refine r_aload_n C dX6_takeBack_27 rfl rfl ?_
    refine r_get (v := .inl (m2 6 k 4)) C fl_X6_37 dX6_takeBack_28 rfl ?_
    refine r_aload_n C dX6_takeBack_31 rfl rfl ?_
    refine r_get (v := .inl (m2 6 k 5)) C fl_X6_41 dX6_takeBack_32 rfl ?_
    refine r_iadd C dX6_takeBack_35 ?_
    refine r_bipush (v := 20) C dX6_takeBack_36 (by decide) ?_
    refine r_irem C dX6_takeBack_38 (by decide) ?_
    refine r_aald (q := fun n3 => (3, (21 * k + 1 + n3))) C (by decide) (fun _ => rfl) dX6_takeBack_39 (fun n3 => ?_)
    refine r_invU (t := 3) (kb := (21 * k)) (As := [.inr (3, (21 * k + 1 + n3))]) (st := []) C il_X6_33 co_X3_takeStore (by decide) rfl (c_X3_takeStore (21 * k) (21 * k + 1 + n3) m2) (by decide) (by decide) rfl rfl (Nat.le_of_ble_eq_true rfl) dX6_takeBack_40 (fun r5 m4 => ?_)
    refine r_aload_n C dX6_takeBack_43 rfl rfl ?_
    refine r_get (v := .inl (m4 6 k 5)) C fl_X6_41 dX6_takeBack_44 rfl ?_
    exact r_ireturn C dX6_takeBack_47
  refine r_iconst (v := (-1)) C dX6_takeBack_7 (by decide) ?_
  exact r_ireturn C dX6_takeBack_8
theorem dX6_placeInSet_0 : decode cX6_placeInSet 0 = .ok (.iconst 0, 1) := by decide +kernel
theorem dX6_placeInSet_1 : decode cX6_placeInSet 1 = .ok (.istore_n 2, 1) := by decide +kernel
theorem dX6_placeInSet_2 : decode cX6_placeInSet 2 = .ok (.iload_n 2, 1) := by decide +kernel
theorem dX6_placeInSet_3 : decode cX6_placeInSet 3 = .ok (.aload_n 0, 1) := by decide +kernel
theorem dX6_placeInSet_4 : decode cX6_placeInSet 4 = .ok (.getfield 51, 3) := by decide +kernel
theorem dX6_placeInSet_7 : decode cX6_placeInSet 7 = .ok (.if_icmp .ge 21, 3) := by decide +kernel
theorem dX6_placeInSet_10 : decode cX6_placeInSet 10 = .ok (.aload_n 0, 1) := by decide +kernel
theorem dX6_placeInSet_11 : decode cX6_placeInSet 11 = .ok (.getfield 28, 3) := by decide +kernel
theorem dX6_placeInSet_14 : decode cX6_placeInSet 14 = .ok (.iload_n 2, 1) := by decide +kernel
theorem dX6_placeInSet_15 : decode cX6_placeInSet 15 = .ok (.iaload, 1) := by decide +kernel
theorem dX6_placeInSet_16 : decode cX6_placeInSet 16 = .ok (.iload_n 1, 1) := by decide +kernel
theorem dX6_placeInSet_17 : decode cX6_placeInSet 17 = .ok (.if_icmp .ne 5, 3) := by decide +kernel
theorem dX6_placeInSet_20 : decode cX6_placeInSet 20 = .ok (.iload_n 2, 1) := by decide +kernel
theorem dX6_placeInSet_21 : decode cX6_placeInSet 21 = .ok (.ireturn, 1) := by decide +kernel
theorem dX6_placeInSet_22 : decode cX6_placeInSet 22 = .ok (.iinc 2 1, 3) := by decide +kernel
theorem dX6_placeInSet_25 : decode cX6_placeInSet 25 = .ok (.goto (-23), 3) := by decide +kernel
theorem dX6_placeInSet_28 : decode cX6_placeInSet 28 = .ok (.iconst (-1), 1) := by decide +kernel
theorem dX6_placeInSet_29 : decode cX6_placeInSet 29 = .ok (.ireturn, 1) := by decide +kernel
def X6_placeInSet_b2 (k : Nat) (a1 : Int32) (v1 : Int32) (m2 : gM) (k2 : Int32 → gM → Option (Int32 × gM)) : Option (Int32 × gM) :=
  if (m2 6 k 7) ≤ v1 then (some ((-1), m2)) else (gAt m2 40 k v1 (fun (x3 : Int32) => if x3 = a1 then (some (v1, m2)) else (gLet (v1 + 1) (fun (x4 : Int32) => k2 x4 m2))))
def X6_placeInSet (k : Nat) (a1 : Int32) (m : gM) : Option (Int32 × gM) :=
  gL1 FU (X6_placeInSet_b2 k a1) 0 m
set_option maxRecDepth 100000 in
set_option maxHeartbeats 4000000 in
theorem c_X6_placeInSet (k : Nat) (a1 : Int32) (m : gM) : gCon eI yX6_placeInSet cX6_placeInSet 3 (some .int) 0 [.inr (6, k), .inl a1] m (X6_placeInSet k a1 m) := by
  refine gCon.of (lv := [some (.inr (6, k)), some (.inl a1), none]) (by decide +kernel) (Nat.le_of_ble_eq_true rfl) rfl (fun X C => ?_)
  unfold X6_placeInSet
  refine r_iconst (v := 0) C dX6_placeInSet_0 (by decide) ?_
  refine r_istore_n (lv' := [some (.inr (6, k)), some (.inl a1), some (.inl 0)]) C dX6_placeInSet_1 rfl (by decide) rfl ?_
  refine r_weak (lv' := [some (.inr (6, k)), some (.inl a1), some (.inl 0)]) ⟨rfl, rfl, rfl, trivial⟩ ?_
  refine r_l1 (pj := 2) (fun v1 => [some (.inr (6, k)), some (.inl a1), some (.inl v1)]) (fun v1 m2 k2 hk2 => ?_) _ _ _
  unfold X6_placeInSet_b2
  refine r_iload_n C dX6_placeInSet_2 rfl rfl ?_
  refine r_aload_n C dX6_placeInSet_3 rfl rfl ?_
  refine r_get (v := .inl (m2 6 k 7)) C fl_X6_51 dX6_placeInSet_4 rfl ?_
  refine r_icmp_ge (tgt := 28) C dX6_placeInSet_7 (by decide) ?_ ?_
  · refine r_iconst (v := (-1)) C dX6_placeInSet_28 (by decide) ?_
    exact r_ireturn C dX6_placeInSet_29
  refine r_aload_n C dX6_placeInSet_10 rfl rfl ?_
  refine r_get (v := .inr (40, k)) C fl_X6_28 dX6_placeInSet_11 rfl ?_
  refine r_iload_n C dX6_placeInSet_14 rfl rfl ?_
  refine r_iald C rfl dX6_placeInSet_15 (fun x3 => ?_)
  refine r_iload_n C dX6_placeInSet_16 rfl rfl ?_
  refine r_icmp_ne (tgt := 22) C dX6_placeInSet_17 (by decide) ?_ ?_
  · refine r_iinc (v := 1) C dX6_placeInSet_22 (by decide) rfl (by decide) (fun x4 => ?_)
    show gw X eI _ [some (.inr (6, k)), some (.inl a1), some (.inl x4)] _ _ _
    refine r_goto (tgt := 2) C dX6_placeInSet_25 (by decide) ?_
    exact r_weak (lv' := [some (.inr (6, k)), some (.inl a1), some (.inl x4)]) ⟨rfl, rfl, rfl, trivial⟩ (hk2 _ _)
  refine r_iload_n C dX6_placeInSet_20 rfl rfl ?_
  exact r_ireturn C dX6_placeInSet_21
theorem dX6_addToSet_0 : decode cX6_addToSet 0 = .ok (.aload_n 0, 1) := by decide +kernel
theorem dX6_addToSet_1 : decode cX6_addToSet 1 = .ok (.getfield 51, 3) := by decide +kernel
theorem dX6_addToSet_4 : decode cX6_addToSet 4 = .ok (.bipush 32, 2) := by decide +kernel
theorem dX6_addToSet_6 : decode cX6_addToSet 6 = .ok (.if_icmp .ge 23, 3) := by decide +kernel
theorem dX6_addToSet_9 : decode cX6_addToSet 9 = .ok (.aload_n 0, 1) := by decide +kernel
theorem dX6_addToSet_10 : decode cX6_addToSet 10 = .ok (.getfield 28, 3) := by decide +kernel
theorem dX6_addToSet_13 : decode cX6_addToSet 13 = .ok (.aload_n 0, 1) := by decide +kernel
theorem dX6_addToSet_14 : decode cX6_addToSet 14 = .ok (.getfield 51, 3) := by decide +kernel
theorem dX6_addToSet_17 : decode cX6_addToSet 17 = .ok (.iload_n 1, 1) := by decide +kernel
theorem dX6_addToSet_18 : decode cX6_addToSet 18 = .ok (.iastore, 1) := by decide +kernel
theorem dX6_addToSet_19 : decode cX6_addToSet 19 = .ok (.aload_n 0, 1) := by decide +kernel
theorem dX6_addToSet_20 : decode cX6_addToSet 20 = .ok (.dup, 1) := by decide +kernel
theorem dX6_addToSet_21 : decode cX6_addToSet 21 = .ok (.getfield 51, 3) := by decide +kernel
theorem dX6_addToSet_24 : decode cX6_addToSet 24 = .ok (.iconst 1, 1) := by decide +kernel
theorem dX6_addToSet_25 : decode cX6_addToSet 25 = .ok (.iadd, 1) := by decide +kernel
theorem dX6_addToSet_26 : decode cX6_addToSet 26 = .ok (.putfield 51, 3) := by decide +kernel
theorem dX6_addToSet_29 : decode cX6_addToSet 29 = .ok (.return_, 1) := by decide +kernel
def X6_addToSet (k : Nat) (a1 : Int32) (m : gM) : Option (Unit × gM) :=
  if 32 ≤ (m 6 k 7) then (some ((), m)) else (gPut m 40 k (m 6 k 7) a1 (fun (m1 : gM) => gLet ((m1 6 k 7) + 1) (fun (x2 : Int32) => gSet m1 6 k 7 x2 (fun (m3 : gM) => some ((), m3)))))
set_option maxRecDepth 100000 in
set_option maxHeartbeats 4000000 in
theorem c_X6_addToSet (k : Nat) (a1 : Int32) (m : gM) : gCon eU yX6_addToSet cX6_addToSet 2 none 0 [.inr (6, k), .inl a1] m (X6_addToSet k a1 m) := by
  refine gCon.of (lv := [some (.inr (6, k)), some (.inl a1)]) (by decide +kernel) (Nat.le_of_ble_eq_true rfl) rfl (fun X C => ?_)
  unfold X6_addToSet
  refine r_aload_n C dX6_addToSet_0 rfl rfl ?_
  refine r_get (v := .inl (m 6 k 7)) C fl_X6_51 dX6_addToSet_1 rfl ?_
  refine r_bipush (v := 32) C dX6_addToSet_4 (by decide) ?_
  refine r_icmp_ge (tgt := 29) C dX6_addToSet_6 (by decide) ?_ ?_
  · exact r_return C dX6_addToSet_29
  refine r_aload_n C dX6_addToSet_9 rfl rfl ?_
  refine r_get (v := .inr (40, k)) C fl_X6_28 dX6_addToSet_10 rfl ?_
  refine r_aload_n C dX6_addToSet_13 rfl rfl ?_
  refine r_get (v := .inl (m 6 k 7)) C fl_X6_51 dX6_addToSet_14 rfl ?_
  refine r_iload_n C dX6_addToSet_17 rfl rfl ?_
  refine r_iast C rfl dX6_addToSet_18 (fun m1 => ?_)
  refine r_aload_n C dX6_addToSet_19 rfl rfl ?_
  refine r_dup C dX6_addToSet_20 ?_
  refine r_get (v := .inl (m1 6 k 7)) C fl_X6_51 dX6_addToSet_21 rfl ?_
  refine r_iconst (v := 1) C dX6_addToSet_24 (by decide) ?_
  refine r_iadd C dX6_addToSet_25 ?_
  refine r_let (fun x2 => ?_)
  refine r_put C fl_X6_51 rfl rfl rfl dX6_addToSet_26 (fun m3 => ?_)
  exact r_return C dX6_addToSet_29
theorem dX6_dropFromSet_0 : decode cX6_dropFromSet 0 = .ok (.iload_n 1, 1) := by decide +kernel
theorem dX6_dropFromSet_1 : decode cX6_dropFromSet 1 = .ok (.istore_n 2, 1) := by decide +kernel
theorem dX6_dropFromSet_2 : decode cX6_dropFromSet 2 = .ok (.iload_n 2, 1) := by decide +kernel
theorem dX6_dropFromSet_3 : decode cX6_dropFromSet 3 = .ok (.iconst 1, 1) := by decide +kernel
theorem dX6_dropFromSet_4 : decode cX6_dropFromSet 4 = .ok (.iadd, 1) := by decide +kernel
theorem dX6_dropFromSet_5 : decode cX6_dropFromSet 5 = .ok (.aload_n 0, 1) := by decide +kernel
theorem dX6_dropFromSet_6 : decode cX6_dropFromSet 6 = .ok (.getfield 51, 3) := by decide +kernel
theorem dX6_dropFromSet_9 : decode cX6_dropFromSet 9 = .ok (.if_icmp .ge 23, 3) := by decide +kernel
theorem dX6_dropFromSet_12 : decode cX6_dropFromSet 12 = .ok (.aload_n 0, 1) := by decide +kernel
theorem dX6_dropFromSet_13 : decode cX6_dropFromSet 13 = .ok (.getfield 28, 3) := by decide +kernel
theorem dX6_dropFromSet_16 : decode cX6_dropFromSet 16 = .ok (.iload_n 2, 1) := by decide +kernel
theorem dX6_dropFromSet_17 : decode cX6_dropFromSet 17 = .ok (.aload_n 0, 1) := by decide +kernel
theorem dX6_dropFromSet_18 : decode cX6_dropFromSet 18 = .ok (.getfield 28, 3) := by decide +kernel
theorem dX6_dropFromSet_21 : decode cX6_dropFromSet 21 = .ok (.iload_n 2, 1) := by decide +kernel
theorem dX6_dropFromSet_22 : decode cX6_dropFromSet 22 = .ok (.iconst 1, 1) := by decide +kernel
theorem dX6_dropFromSet_23 : decode cX6_dropFromSet 23 = .ok (.iadd, 1) := by decide +kernel
theorem dX6_dropFromSet_24 : decode cX6_dropFromSet 24 = .ok (.iaload, 1) := by decide +kernel
theorem dX6_dropFromSet_25 : decode cX6_dropFromSet 25 = .ok (.iastore, 1) := by decide +kernel
theorem dX6_dropFromSet_26 : decode cX6_dropFromSet 26 = .ok (.iinc 2 1, 3) := by decide +kernel
theorem dX6_dropFromSet_29 : decode cX6_dropFromSet 29 = .ok (.goto (-27), 3) := by decide +kernel
theorem dX6_dropFromSet_32 : decode cX6_dropFromSet 32 = .ok (.aload_n 0, 1) := by decide +kernel
theorem dX6_dropFromSet_33 : decode cX6_dropFromSet 33 = .ok (.dup, 1) := by decide +kernel
theorem dX6_dropFromSet_34 : decode cX6_dropFromSet 34 = .ok (.getfield 51, 3) := by decide +kernel
theorem dX6_dropFromSet_37 : decode cX6_dropFromSet 37 = .ok (.iconst 1, 1) := by decide +kernel
theorem dX6_dropFromSet_38 : decode cX6_dropFromSet 38 = .ok (.isub, 1) := by decide +kernel
theorem dX6_dropFromSet_39 : decode cX6_dropFromSet 39 = .ok (.putfield 51, 3) := by decide +kernel
theorem dX6_dropFromSet_42 : decode cX6_dropFromSet 42 = .ok (.return_, 1) := by decide +kernel
def X6_dropFromSet_b2 (k : Nat) (j32 : gM → Option (Unit × gM)) (v4 : Int32) (m5 : gM) (k2 : Int32 → gM → Option (Unit × gM)) : Option (Unit × gM) :=
  if (m5 6 k 7) ≤ (v4 + 1) then (j32 m5) else (gAt m5 40 k (v4 + 1) (fun (x6 : Int32) => gPut m5 40 k v4 x6 (fun (m7 : gM) => gLet (v4 + 1) (fun (x8 : Int32) => k2 x8 m7))))
def X6_dropFromSet (k : Nat) (a1 : Int32) (m : gM) : Option (Unit × gM) :=
  gJ0 (fun (m1 : gM) => gLet ((m1 6 k 7) - 1) (fun (x2 : Int32) => gSet m1 6 k 7 x2 (fun (m3 : gM) => some ((), m3)))) (fun (j32 : gM → Option (Unit × gM)) => gL1 FU (X6_dropFromSet_b2 k j32) a1 m)
set_option maxRecDepth 100000 in
set_option maxHeartbeats 4000000 in
theorem c_X6_dropFromSet (k : Nat) (a1 : Int32) (m : gM) : gCon eU yX6_dropFromSet cX6_dropFromSet 3 none 0 [.inr (6, k), .inl a1] m (X6_dropFromSet k a1 m) := by
  refine gCon.of (lv := [some (.inr (6, k)), some (.inl a1), none]) (by decide +kernel) (Nat.le_of_ble_eq_true rfl) rfl (fun X C => ?_)
  unfold X6_dropFromSet
  refine r_iload_n C dX6_dropFromSet_0 rfl rfl ?_
  refine r_istore_n (lv' := [some (.inr (6, k)), some (.inl a1), some (.inl a1)]) C dX6_dropFromSet_1 rfl (by decide) rfl ?_
  refine r_j0 32 [some (.inr (6, k)), none, none] [] (fun m1 => ?_) (fun j32 hj32 => ?_)
  · refine r_aload_n C dX6_dropFromSet_32 rfl rfl ?_
    refine r_dup C dX6_dropFromSet_33 ?_
    refine r_get (v := .inl (m1 6 k 7)) C fl_X6_51 dX6_dropFromSet_34 rfl ?_
    refine r_iconst (v := 1) C dX6_dropFromSet_37 (by decide) ?_
    refine r_isub C dX6_dropFromSet_38 ?_
    refine r_let (fun x2 => ?_)
    refine r_put C fl_X6_51 rfl rfl rfl dX6_dropFromSet_39 (fun m3 => ?_)
    exact r_return C dX6_dropFromSet_42
  refine r_weak (lv' := [some (.inr (6, k)), none, some (.inl a1)]) ⟨rfl, rfl, trivial⟩ ?_
  refine r_l1 (pj := 2) (fun v4 => [some (.inr (6, k)), none, some (.inl v4)]) (fun v4 m5 k2 hk2 => ?_) _ _ _
  unfold X6_dropFromSet_b2
  refine r_iload_n C dX6_dropFromSet_2 rfl rfl ?_
  refine r_iconst (v := 1) C dX6_dropFromSet_3 (by decide) ?_
  refine r_iadd C dX6_dropFromSet_4 ?_
  refine r_aload_n C dX6_dropFromSet_5 rfl rfl ?_
  refine r_get (v := .inl (m5 6 k 7)) C fl_X6_51 dX6_dropFromSet_6 rfl ?_
  refine r_icmp_ge (tgt := 32) C dX6_dropFromSet_9 (by decide) ?_ ?_
  · exact r_weak (lv' := [some (.inr (6, k)), none, none]) ⟨rfl, trivial⟩ (hj32 _)
  refine r_aload_n C dX6_dropFromSet_12 rfl rfl ?_
  refine r_get (v := .inr (40, k)) C fl_X6_28 dX6_dropFromSet_13 rfl ?_
  refine r_iload_n C dX6_dropFromSet_16 rfl rfl ?_
  refine r_aload_n C dX6_dropFromSet_17 rfl rfl ?_
  refine r_get (v := .inr (40, k)) C fl_X6_28 dX6_dropFromSet_18 rfl ?_
  refine r_iload_n C dX6_dropFromSet_21 rfl rfl ?_
  refine r_iconst (v := 1) C dX6_dropFromSet_22 (by decide) ?_
  refine r_iadd C dX6_dropFromSet_23 ?_
  refine r_iald C rfl dX6_dropFromSet_24 (fun x6 => ?_)
  refine r_iast C rfl dX6_dropFromSet_25 (fun m7 => ?_)
  refine r_iinc (v := 1) C dX6_dropFromSet_26 (by decide) rfl (by decide) (fun x8 => ?_)
  show gw X eU _ [some (.inr (6, k)), none, some (.inl x8)] _ _ _
  refine r_goto (tgt := 2) C dX6_dropFromSet_29 (by decide) ?_
  exact r_weak (lv' := [some (.inr (6, k)), none, some (.inl x8)]) ⟨rfl, rfl, trivial⟩ (hk2 _ _)
theorem dX6_collectFrom_0 : decode cX6_collectFrom 0 = .ok (.aload_n 0, 1) := by decide +kernel
theorem dX6_collectFrom_1 : decode cX6_collectFrom 1 = .ok (.iconst 0, 1) := by decide +kernel
theorem dX6_collectFrom_2 : decode cX6_collectFrom 2 = .ok (.putfield 51, 3) := by decide +kernel
theorem dX6_collectFrom_5 : decode cX6_collectFrom 5 = .ok (.iconst 0, 1) := by decide +kernel
theorem dX6_collectFrom_6 : decode cX6_collectFrom 6 = .ok (.istore_n 2, 1) := by decide +kernel
theorem dX6_collectFrom_7 : decode cX6_collectFrom 7 = .ok (.iload_n 2, 1) := by decide +kernel
theorem dX6_collectFrom_8 : decode cX6_collectFrom 8 = .ok (.aload_n 1, 1) := by decide +kernel
theorem dX6_collectFrom_9 : decode cX6_collectFrom 9 = .ok (.getfield 60, 3) := by decide +kernel
theorem dX6_collectFrom_12 : decode cX6_collectFrom 12 = .ok (.if_icmp .ge 33, 3) := by decide +kernel
theorem dX6_collectFrom_15 : decode cX6_collectFrom 15 = .ok (.aload_n 0, 1) := by decide +kernel
theorem dX6_collectFrom_16 : decode cX6_collectFrom 16 = .ok (.aload_n 1, 1) := by decide +kernel
theorem dX6_collectFrom_17 : decode cX6_collectFrom 17 = .ok (.getfield 63, 3) := by decide +kernel
theorem dX6_collectFrom_20 : decode cX6_collectFrom 20 = .ok (.iload_n 2, 1) := by decide +kernel
theorem dX6_collectFrom_21 : decode cX6_collectFrom 21 = .ok (.iaload, 1) := by decide +kernel
theorem dX6_collectFrom_22 : decode cX6_collectFrom 22 = .ok (.invokevirtual 66, 3) := by decide +kernel
theorem dX6_collectFrom_25 : decode cX6_collectFrom 25 = .ok (.iconst (-1), 1) := by decide +kernel
theorem dX6_collectFrom_26 : decode cX6_collectFrom 26 = .ok (.if_icmp .ne 13, 3) := by decide +kernel
theorem dX6_collectFrom_29 : decode cX6_collectFrom 29 = .ok (.aload_n 0, 1) := by decide +kernel
theorem dX6_collectFrom_30 : decode cX6_collectFrom 30 = .ok (.aload_n 1, 1) := by decide +kernel
theorem dX6_collectFrom_31 : decode cX6_collectFrom 31 = .ok (.getfield 63, 3) := by decide +kernel
theorem dX6_collectFrom_34 : decode cX6_collectFrom 34 = .ok (.iload_n 2, 1) := by decide +kernel
theorem dX6_collectFrom_35 : decode cX6_collectFrom 35 = .ok (.iaload, 1) := by decide +kernel
theorem dX6_collectFrom_36 : decode cX6_collectFrom 36 = .ok (.invokevirtual 70, 3) := by decide +kernel
theorem dX6_collectFrom_39 : decode cX6_collectFrom 39 = .ok (.iinc 2 1, 3) := by decide +kernel
theorem dX6_collectFrom_42 : decode cX6_collectFrom 42 = .ok (.goto (-35), 3) := by decide +kernel
theorem dX6_collectFrom_45 : decode cX6_collectFrom 45 = .ok (.return_, 1) := by decide +kernel
def X6_collectFrom_b7 (k : Nat) (o1 : Nat) (v2 : Int32) (m3 : gM) (k7 : Int32 → gM → Option (Unit × gM)) : Option (Unit × gM) :=
  if (m3 5 o1 2) ≤ v2 then (some ((), m3)) else (gAt m3 38 o1 v2 (fun (x4 : Int32) => gCall (X6_placeInSet k x4 m3) (fun (r6 : Int32) (m5 : gM) => if r6 = (-1) then (gAt m5 38 o1 v2 (fun (x8 : Int32) => gCall (X6_addToSet k x8 m5) (fun (r10 : Unit) (m9 : gM) => gLet (v2 + 1) (fun (x11 : Int32) => k7 x11 m9)))) else (gLet (v2 + 1) (fun (x7 : Int32) => k7 x7 m5)))))
def X6_collectFrom (k : Nat) (o1 : Nat) (m : gM) : Option (Unit × gM) :=
  gSet m 6 k 7 0 (fun (m1 : gM) => gL1 FU (X6_collectFrom_b7 k o1) 0 m1)
set_option maxRecDepth 100000 in
set_option maxHeartbeats 4000000 in
theorem c_X6_collectFrom (k : Nat) (o1 : Nat) (m : gM) : gCon eU yX6_collectFrom cX6_collectFrom 3 none 1 [.inr (6, k), .inr (5, o1)] m (X6_collectFrom k o1 m) := by
  refine gCon.of (lv := [some (.inr (6, k)), some (.inr (5, o1)), none]) (by decide +kernel) (Nat.le_of_ble_eq_true rfl) rfl (fun X C => ?_)
  unfold X6_collectFrom
  refine r_aload_n C dX6_collectFrom_0 rfl rfl ?_
  refine r_iconst (v := 0) C dX6_collectFrom_1 (by decide) ?_
  refine r_put C fl_X6_51 rfl rfl rfl dX6_collectFrom_2 (fun m1 => ?_)
  refine r_iconst (v := 0) C dX6_collectFrom_5 (by decide) ?_
  refine r_istore_n (lv' := [some (.inr (6, k)), some (.inr (5, o1)), some (.inl 0)]) C dX6_collectFrom_6 rfl (by decide) rfl ?_
  refine r_weak (lv' := [some (.inr (6, k)), some (.inr (5, o1)), some (.inl 0)]) ⟨rfl, rfl, rfl, trivial⟩ ?_
  refine r_l1 (pj := 7) (fun v2 => [some (.inr (6, k)), some (.inr (5, o1)), some (.inl v2)]) (fun v2 m3 k7 hk7 => ?_) _ _ _
  unfold X6_collectFrom_b7
  refine r_iload_n C dX6_collectFrom_7 rfl rfl ?_
  refine r_aload_n C dX6_collectFrom_8 rfl rfl ?_
  refine r_get (v := .inl (m3 5 o1 2)) C fl_X6_60 dX6_collectFrom_9 rfl ?_
  refine r_icmp_ge (tgt := 45) C dX6_collectFrom_12 (by decide) ?_ ?_
  · exact r_return C dX6_collectFrom_45
  refine r_aload_n C dX6_collectFrom_15 rfl rfl ?_
  refine r_aload_n C dX6_collectFrom_16 rfl rfl ?_
  refine r_get (v := .inr (38, o1)) C fl_X6_63 dX6_collectFrom_17 rfl ?_
  refine r_iload_n C dX6_collectFrom_20 rfl rfl ?_
  refine r_iald C rfl dX6_collectFrom_21 (fun x4 => ?_)
  refine r_invI (t := 6) (kb := k) (As := [.inl x4]) (st := []) C il_X6_66 co_X6_placeInSet (by decide) rfl (c_X6_placeInSet k x4 m3) (by decide) (by decide) rfl rfl (Nat.le_of_ble_eq_true rfl) dX6_collectFrom_22 (fun r6 m5 => ?_)
  refine r_iconst (v := (-1)) C dX6_collectFrom_25 (by decide) ?_
  refine r_icmp_ne (tgt := 39) C dX6_collectFrom_26 (by decide) ?_ ?_
  · refine r_iinc (v := 1) C dX6_collectFrom_39 (by decide) rfl (by decide) (fun x7 => ?_)
    show gw X eU _ [some (.inr (6, k)), some (.inr (5, o1)), some (.inl x7)] _ _ _
    refine r_goto (tgt := 7) C dX6_collectFrom_42 (by decide) ?_
    exact r_weak (lv' := [some (.inr (6, k)), some (.inr (5, o1)), some (.inl x7)]) ⟨rfl, rfl, rfl, trivial⟩ (hk7 _ _)
  refine r_aload_n C dX6_collectFrom_29 rfl rfl ?_
  refine r_aload_n C dX6_collectFrom_30 rfl rfl ?_
  refine r_get (v := .inr (38, o1)) C fl_X6_63 dX6_collectFrom_31 rfl ?_
  refine r_iload_n C dX6_collectFrom_34 rfl rfl ?_
  refine r_iald C rfl dX6_collectFrom_35 (fun x8 => ?_)
  refine r_invU (t := 6) (kb := k) (As := [.inl x8]) (st := []) C il_X6_70 co_X6_addToSet (by decide) rfl (c_X6_addToSet k x8 m5) (by decide) (by decide) rfl rfl (Nat.le_of_ble_eq_true rfl) dX6_collectFrom_36 (fun r10 m9 => ?_)
  refine r_iinc (v := 1) C dX6_collectFrom_39 (by decide) rfl (by decide) (fun x11 => ?_)
  show gw X eU _ [some (.inr (6, k)), some (.inr (5, o1)), some (.inl x11)] _ _ _
  refine r_goto (tgt := 7) C dX6_collectFrom_42 (by decide) ?_
  exact r_weak (lv' := [some (.inr (6, k)), some (.inr (5, o1)), some (.inl x11)]) ⟨rfl, rfl, rfl, trivial⟩ (hk7 _ _)
theorem dX7_addMasks_0 : decode cX7_addMasks 0 = .ok (.iload_n 3, 1) := by decide +kernel
theorem dX7_addMasks_1 : decode cX7_addMasks 1 = .ok (.istore 4, 2) := by decide +kernel
theorem dX7_addMasks_3 : decode cX7_addMasks 3 = .ok (.iconst 0, 1) := by decide +kernel
theorem dX7_addMasks_4 : decode cX7_addMasks 4 = .ok (.istore 5, 2) := by decide +kernel
theorem dX7_addMasks_6 : decode cX7_addMasks 6 = .ok (.iload 5, 2) := by decide +kernel
theorem dX7_addMasks_8 : decode cX7_addMasks 8 = .ok (.aload_n 1, 1) := by decide +kernel
theorem dX7_addMasks_9 : decode cX7_addMasks 9 = .ok (.getfield 32, 3) := by decide +kernel
theorem dX7_addMasks_12 : decode cX7_addMasks 12 = .ok (.if_icmp .ge 40, 3) := by decide +kernel
theorem dX7_addMasks_15 : decode cX7_addMasks 15 = .ok (.iload 4, 2) := by decide +kernel
theorem dX7_addMasks_17 : decode cX7_addMasks 17 = .ok (.aload_n 0, 1) := by decide +kernel
theorem dX7_addMasks_18 : decode cX7_addMasks 18 = .ok (.getfield 9, 3) := by decide +kernel
theorem dX7_addMasks_21 : decode cX7_addMasks 21 = .ok (.arraylength, 1) := by decide +kernel
theorem dX7_addMasks_22 : decode cX7_addMasks 22 = .ok (.if_icmp .ge 30, 3) := by decide +kernel
theorem dX7_addMasks_25 : decode cX7_addMasks 25 = .ok (.aload_n 0, 1) := by decide +kernel
theorem dX7_addMasks_26 : decode cX7_addMasks 26 = .ok (.getfield 9, 3) := by decide +kernel
theorem dX7_addMasks_29 : decode cX7_addMasks 29 = .ok (.iload 4, 2) := by decide +kernel
theorem dX7_addMasks_31 : decode cX7_addMasks 31 = .ok (.aload_n 1, 1) := by decide +kernel
theorem dX7_addMasks_32 : decode cX7_addMasks 32 = .ok (.getfield 35, 3) := by decide +kernel
theorem dX7_addMasks_35 : decode cX7_addMasks 35 = .ok (.iload_n 2, 1) := by decide +kernel
theorem dX7_addMasks_36 : decode cX7_addMasks 36 = .ok (.iload 5, 2) := by decide +kernel
theorem dX7_addMasks_38 : decode cX7_addMasks 38 = .ok (.invokestatic 38, 3) := by decide +kernel
theorem dX7_addMasks_41 : decode cX7_addMasks 41 = .ok (.iaload, 1) := by decide +kernel
theorem dX7_addMasks_42 : decode cX7_addMasks 42 = .ok (.iastore, 1) := by decide +kernel
theorem dX7_addMasks_43 : decode cX7_addMasks 43 = .ok (.iinc 4 1, 3) := by decide +kernel
theorem dX7_addMasks_46 : decode cX7_addMasks 46 = .ok (.iinc 5 1, 3) := by decide +kernel
theorem dX7_addMasks_49 : decode cX7_addMasks 49 = .ok (.goto (-43), 3) := by decide +kernel
theorem dX7_addMasks_52 : decode cX7_addMasks 52 = .ok (.iload 4, 2) := by decide +kernel
theorem dX7_addMasks_54 : decode cX7_addMasks 54 = .ok (.ireturn, 1) := by decide +kernel
def X7_addMasks_b6 (o1 : Nat) (a2 : Int32) (v1 v2 : Int32) (m3 : gM) (k6 : Int32 → Int32 → gM → Option (Int32 × gM)) : Option (Int32 × gM) :=
  if (m3 3 o1 1) ≤ v2 then (some (v1, m3)) else (if 16 ≤ v1 then (some (v1, m3)) else (gCall (X8_maskAt a2 v2 m3) (fun (r5 : Int32) (m4 : gM) => gAt m4 25 o1 r5 (fun (x6 : Int32) => gPut m4 43 0 v1 x6 (fun (m7 : gM) => gLet (v1 + 1) (fun (x8 : Int32) => gLet (v2 + 1) (fun (x9 : Int32) => k6 x8 x9 m7)))))))
def X7_addMasks (o1 : Nat) (a2 : Int32) (a3 : Int32) (m : gM) : Option (Int32 × gM) :=
  gL2 FU (X7_addMasks_b6 o1 a2) a3 0 m
set_option maxRecDepth 100000 in
set_option maxHeartbeats 4000000 in
theorem c_X7_addMasks (o1 : Nat) (a2 : Int32) (a3 : Int32) (m : gM) : gCon eI yX7_addMasks cX7_addMasks 6 (some .int) 1 [.inr (7, 0), .inr (3, o1), .inl a2, .inl a3] m (X7_addMasks o1 a2 a3 m) := by
  refine gCon.of (lv := [some (.inr (7, 0)), some (.inr (3, o1)), some (.inl a2), some (.inl a3), none, none]) (by decide +kernel) (Nat.le_of_ble_eq_true rfl) rfl (fun X C => ?_)
  unfold X7_addMasks
  refine r_iload_n C dX7_addMasks_0 rfl rfl ?_
  refine r_istore (lv' := [some (.inr (7, 0)), some (.inr (3, o1)), some (.inl a2), some (.inl a3), some (.inl a3), none]) C dX7_addMasks_1 (by decide) rfl ?_
  refine r_iconst (v := 0) C dX7_addMasks_3 (by decide) ?_
  refine r_istore (lv' := [some (.inr (7, 0)), some (.inr (3, o1)), some (.inl a2), some (.inl a3), some (.inl a3), some (.inl 0)]) C dX7_addMasks_4 (by decide) rfl ?_
  refine r_weak (lv' := [some (.inr (7, 0)), some (.inr (3, o1)), some (.inl a2), none, some (.inl a3), some (.inl 0)]) ⟨rfl, rfl, rfl, rfl, rfl, trivial⟩ ?_
  refine r_l2 (pj := 6) (fun v1 v2 => [some (.inr (7, 0)), some (.inr (3, o1)), some (.inl a2), none, some (.inl v1), some (.inl v2)]) (fun v1 v2 m3 k6 hk6 => ?_) _ _ _ _
  unfold X7_addMasks_b6
  refine r_iload C dX7_addMasks_6 rfl ?_
  refine r_aload_n C dX7_addMasks_8 rfl rfl ?_
  refine r_get (v := .inl (m3 3 o1 1)) C fl_X7_32 dX7_addMasks_9 rfl ?_
  refine r_icmp_ge (tgt := 52) C dX7_addMasks_12 (by decide) ?_ ?_
  · refine r_iload C dX7_addMasks_52 rfl ?_
    exact r_ireturn C dX7_addMasks_54
  refine r_iload C dX7_addMasks_15 rfl ?_
  refine r_aload_n C dX7_addMasks_17 rfl rfl ?_
  refine r_get (v := .inr (43, 0)) C fl_X7_9 dX7_addMasks_18 rfl ?_
  refine r_alen (v := 16) C (by decide) rfl dX7_addMasks_21 ?_
  refine r_icmp_ge (tgt := 52) C dX7_addMasks_22 (by decide) ?_ ?_
  · refine r_iload C dX7_addMasks_52 rfl ?_
    exact r_ireturn C dX7_addMasks_54
  refine r_aload_n C dX7_addMasks_25 rfl rfl ?_
  refine r_get (v := .inr (43, 0)) C fl_X7_9 dX7_addMasks_26 rfl ?_
  refine r_iload C dX7_addMasks_29 rfl ?_
  refine r_aload_n C dX7_addMasks_31 rfl rfl ?_
  refine r_get (v := .inr (25, o1)) C fl_X7_35 dX7_addMasks_32 rfl ?_
  refine r_iload_n C dX7_addMasks_35 rfl rfl ?_
  refine r_iload C dX7_addMasks_36 rfl ?_
  refine r_insI (As := [.inl a2, .inl v2]) (st := [.inr (25, o1), .inl v1, .inr (43, 0)]) C il_X7_38 co_X8_maskAt (c_X8_maskAt a2 v2 m3) (by decide) (by decide) rfl rfl (Nat.le_of_ble_eq_true rfl) dX7_addMasks_38 (fun r5 m4 => ?_)
  refine r_iald C rfl dX7_addMasks_41 (fun x6 => ?_)
  refine r_iast C rfl dX7_addMasks_42 (fun m7 => ?_)
  refine r_iinc (v := 1) C dX7_addMasks_43 (by decide) rfl (by decide) (fun x8 => ?_)
  show gw X eI _ [some (.inr (7, 0)), some (.inr (3, o1)), some (.inl a2), none, some (.inl x8), some (.inl v2)] _ _ _
  refine r_iinc (v := 1) C dX7_addMasks_46 (by decide) rfl (by decide) (fun x9 => ?_)
  show gw X eI _ [some (.inr (7, 0)), some (.inr (3, o1)), some (.inl a2), none, some (.inl x8), some (.inl x9)] _ _ _
  refine r_goto (tgt := 6) C dX7_addMasks_49 (by decide) ?_
  exact r_weak (lv' := [some (.inr (7, 0)), some (.inr (3, o1)), some (.inl a2), none, some (.inl x8), some (.inl x9)]) ⟨rfl, rfl, rfl, rfl, rfl, trivial⟩ (hk6 _ _ _)
theorem dX7_clearBelow_0 : decode cX7_clearBelow 0 = .ok (.aload_n 0, 1) := by decide +kernel
theorem dX7_clearBelow_1 : decode cX7_clearBelow 1 = .ok (.getfield 9, 3) := by decide +kernel
theorem dX7_clearBelow_4 : decode cX7_clearBelow 4 = .ok (.iload_n 1, 1) := by decide +kernel
theorem dX7_clearBelow_5 : decode cX7_clearBelow 5 = .ok (.iaload, 1) := by decide +kernel
theorem dX7_clearBelow_6 : decode cX7_clearBelow 6 = .ok (.aload_n 0, 1) := by decide +kernel
theorem dX7_clearBelow_7 : decode cX7_clearBelow 7 = .ok (.getfield 9, 3) := by decide +kernel
theorem dX7_clearBelow_10 : decode cX7_clearBelow 10 = .ok (.iload_n 1, 1) := by decide +kernel
theorem dX7_clearBelow_11 : decode cX7_clearBelow 11 = .ok (.iaload, 1) := by decide +kernel
theorem dX7_clearBelow_12 : decode cX7_clearBelow 12 = .ok (.ineg, 1) := by decide +kernel
theorem dX7_clearBelow_13 : decode cX7_clearBelow 13 = .ok (.iand, 1) := by decide +kernel
theorem dX7_clearBelow_14 : decode cX7_clearBelow 14 = .ok (.istore_n 3, 1) := by decide +kernel
theorem dX7_clearBelow_15 : decode cX7_clearBelow 15 = .ok (.iload_n 1, 1) := by decide +kernel
theorem dX7_clearBelow_16 : decode cX7_clearBelow 16 = .ok (.iconst 1, 1) := by decide +kernel
theorem dX7_clearBelow_17 : decode cX7_clearBelow 17 = .ok (.iadd, 1) := by decide +kernel
theorem dX7_clearBelow_18 : decode cX7_clearBelow 18 = .ok (.istore 4, 2) := by decide +kernel
theorem dX7_clearBelow_20 : decode cX7_clearBelow 20 = .ok (.iload 4, 2) := by decide +kernel
theorem dX7_clearBelow_22 : decode cX7_clearBelow 22 = .ok (.iload_n 2, 1) := by decide +kernel
theorem dX7_clearBelow_23 : decode cX7_clearBelow 23 = .ok (.if_icmp .ge 37, 3) := by decide +kernel
theorem dX7_clearBelow_26 : decode cX7_clearBelow 26 = .ok (.aload_n 0, 1) := by decide +kernel
theorem dX7_clearBelow_27 : decode cX7_clearBelow 27 = .ok (.getfield 9, 3) := by decide +kernel
theorem dX7_clearBelow_30 : decode cX7_clearBelow 30 = .ok (.iload 4, 2) := by decide +kernel
theorem dX7_clearBelow_32 : decode cX7_clearBelow 32 = .ok (.iaload, 1) := by decide +kernel
theorem dX7_clearBelow_33 : decode cX7_clearBelow 33 = .ok (.iload_n 3, 1) := by decide +kernel
theorem dX7_clearBelow_34 : decode cX7_clearBelow 34 = .ok (.iand, 1) := by decide +kernel
theorem dX7_clearBelow_35 : decode cX7_clearBelow 35 = .ok (.ifCond .eq 19, 3) := by decide +kernel
theorem dX7_clearBelow_38 : decode cX7_clearBelow 38 = .ok (.aload_n 0, 1) := by decide +kernel
theorem dX7_clearBelow_39 : decode cX7_clearBelow 39 = .ok (.getfield 9, 3) := by decide +kernel
theorem dX7_clearBelow_42 : decode cX7_clearBelow 42 = .ok (.iload 4, 2) := by decide +kernel
theorem dX7_clearBelow_44 : decode cX7_clearBelow 44 = .ok (.dup2, 1) := by decide +kernel
theorem dX7_clearBelow_45 : decode cX7_clearBelow 45 = .ok (.iaload, 1) := by decide +kernel
theorem dX7_clearBelow_46 : decode cX7_clearBelow 46 = .ok (.aload_n 0, 1) := by decide +kernel
theorem dX7_clearBelow_47 : decode cX7_clearBelow 47 = .ok (.getfield 9, 3) := by decide +kernel
theorem dX7_clearBelow_50 : decode cX7_clearBelow 50 = .ok (.iload_n 1, 1) := by decide +kernel
theorem dX7_clearBelow_51 : decode cX7_clearBelow 51 = .ok (.iaload, 1) := by decide +kernel
theorem dX7_clearBelow_52 : decode cX7_clearBelow 52 = .ok (.ixor, 1) := by decide +kernel
theorem dX7_clearBelow_53 : decode cX7_clearBelow 53 = .ok (.iastore, 1) := by decide +kernel
theorem dX7_clearBelow_54 : decode cX7_clearBelow 54 = .ok (.iinc 4 1, 3) := by decide +kernel
theorem dX7_clearBelow_57 : decode cX7_clearBelow 57 = .ok (.goto (-37), 3) := by decide +kernel
theorem dX7_clearBelow_60 : decode cX7_clearBelow 60 = .ok (.return_, 1) := by decide +kernel
def X7_clearBelow_b20 (a1 : Int32) (a2 : Int32) (x3 : Int32) (v5 : Int32) (m6 : gM) (k20 : Int32 → gM → Option (Unit × gM)) : Option (Unit × gM) :=
  if a2 ≤ v5 then (some ((), m6)) else (gAt m6 43 0 v5 (fun (x7 : Int32) => if (x7 &&& x3) = 0 then (gLet (v5 + 1) (fun (x8 : Int32) => k20 x8 m6)) else (gAt m6 43 0 v5 (fun (x9 : Int32) => gAt m6 43 0 a1 (fun (x10 : Int32) => gPut m6 43 0 v5 (x9 ^^^ x10) (fun (m11 : gM) => gLet (v5 + 1) (fun (x12 : Int32) => k20 x12 m11)))))))
def X7_clearBelow (a1 : Int32) (a2 : Int32) (m : gM) : Option (Unit × gM) :=
  gAt m 43 0 a1 (fun (x1 : Int32) => gAt m 43 0 a1 (fun (x2 : Int32) => gLet (x1 &&& (-x2)) (fun (x3 : Int32) => gLet (a1 + 1) (fun (x4 : Int32) => gL1 FU (X7_clearBelow_b20 a1 a2 x3) x4 m))))
set_option maxRecDepth 100000 in
set_option maxHeartbeats 4000000 in
theorem c_X7_clearBelow (a1 : Int32) (a2 : Int32) (m : gM) : gCon eU yX7_clearBelow cX7_clearBelow 5 none 0 [.inr (7, 0), .inl a1, .inl a2] m (X7_clearBelow a1 a2 m) := by
  refine gCon.of (lv := [some (.inr (7, 0)), some (.inl a1), some (.inl a2), none, none]) (by decide +kernel) (Nat.le_of_ble_eq_true rfl) rfl (fun X C => ?_)
  unfold X7_clearBelow
  refine r_aload_n C dX7_clearBelow_0 rfl rfl ?_
  refine r_get (v := .inr (43, 0)) C fl_X7_9 dX7_clearBelow_1 rfl ?_
  refine r_iload_n C dX7_clearBelow_4 rfl rfl ?_
  refine r_iald C rfl dX7_clearBelow_5 (fun x1 => ?_)
  refine r_aload_n C dX7_clearBelow_6 rfl rfl ?_
  refine r_get (v := .inr (43, 0)) C fl_X7_9 dX7_clearBelow_7 rfl ?_
  refine r_iload_n C dX7_clearBelow_10 rfl rfl ?_
  refine r_iald C rfl dX7_clearBelow_11 (fun x2 => ?_)
  refine r_ineg C dX7_clearBelow_12 ?_
  refine r_iand C dX7_clearBelow_13 ?_
  refine r_let (fun x3 => ?_)
  refine r_istore_n (lv' := [some (.inr (7, 0)), some (.inl a1), some (.inl a2), some (.inl x3), none]) C dX7_clearBelow_14 rfl (by decide) rfl ?_
  refine r_iload_n C dX7_clearBelow_15 rfl rfl ?_
  refine r_iconst (v := 1) C dX7_clearBelow_16 (by decide) ?_
  refine r_iadd C dX7_clearBelow_17 ?_
  refine r_let (fun x4 => ?_)
  refine r_istore (lv' := [some (.inr (7, 0)), some (.inl a1), some (.inl a2), some (.inl x3), some (.inl x4)]) C dX7_clearBelow_18 (by decide) rfl ?_
  refine r_weak (lv' := [some (.inr (7, 0)), some (.inl a1), some (.inl a2), some (.inl x3), some (.inl x4)]) ⟨rfl, rfl, rfl, rfl, rfl, trivial⟩ ?_
  refine r_l1 (pj := 20) (fun v5 => [some (.inr (7, 0)), some (.inl a1), some (.inl a2), some (.inl x3), some (.inl v5)]) (fun v5 m6 k20 hk20 => ?_) _ _ _
  unfold X7_clearBelow_b20
  refine r_iload C dX7_clearBelow_20 rfl ?_
  refine r_iload_n C dX7_clearBelow_22 rfl rfl ?_
  refine r_icmp_ge (tgt := 60) C dX7_clearBelow_23 (by decide) ?_ ?_
  · exact r_return C dX7_clearBelow_60
  refine r_aload_n C dX7_clearBelow_26 rfl rfl ?_
  refine r_get (v := .inr (43, 0)) C fl_X7_9 dX7_clearBelow_27 rfl ?_
  refine r_iload C dX7_clearBelow_30 rfl ?_
  refine r_iald C rfl dX7_clearBelow_32 (fun x7 => ?_)
  refine r_iload_n C dX7_clearBelow_33 rfl rfl ?_
  refine r_iand C dX7_clearBelow_34 ?_
  refine r_if_eq (tgt := 54) C dX7_clearBelow_35 (by decide) ?_ ?_
  · refine r_iinc (v := 1) C dX7_clearBelow_54 (by decide) rfl (by decide) (fun x8 => ?_)
    show gw X eU _ [some (.inr (7, 0)), some (.inl a1), some (.inl a2), some (.inl x3), some (.inl x8)] _ _ _
    refine r_goto (tgt := 20) C dX7_clearBelow_57 (by decide) ?_
    exact r_weak (lv' := [some (.inr (7, 0)), some (.inl a1), some (.inl a2), some (.inl x3), some (.inl x8)]) ⟨rfl, rfl, rfl, rfl, rfl, trivial⟩ (hk20 _ _)
  refine r_aload_n C dX7_clearBelow_38 rfl rfl ?_
  refine r_get (v := .inr (43, 0)) C fl_X7_9 dX7_clearBelow_39 rfl ?_
  refine r_iload C dX7_clearBelow_42 rfl ?_
  refine r_dup2 C dX7_clearBelow_44 ?_
  refine r_iald C rfl dX7_clearBelow_45 (fun x9 => ?_)
  refine r_aload_n C dX7_clearBelow_46 rfl rfl ?_
  refine r_get (v := .inr (43, 0)) C fl_X7_9 dX7_clearBelow_47 rfl ?_
  refine r_iload_n C dX7_clearBelow_50 rfl rfl ?_
  refine r_iald C rfl dX7_clearBelow_51 (fun x10 => ?_)
  refine r_ixor C dX7_clearBelow_52 ?_
  refine r_iast C rfl dX7_clearBelow_53 (fun m11 => ?_)
  refine r_iinc (v := 1) C dX7_clearBelow_54 (by decide) rfl (by decide) (fun x12 => ?_)
  show gw X eU _ [some (.inr (7, 0)), some (.inl a1), some (.inl a2), some (.inl x3), some (.inl x12)] _ _ _
  refine r_goto (tgt := 20) C dX7_clearBelow_57 (by decide) ?_
  exact r_weak (lv' := [some (.inr (7, 0)), some (.inl a1), some (.inl a2), some (.inl x3), some (.inl x12)]) ⟨rfl, rfl, rfl, rfl, rfl, trivial⟩ (hk20 _ _)
theorem dX7_rankOfRows_0 : decode cX7_rankOfRows 0 = .ok (.iconst 0, 1) := by decide +kernel
theorem dX7_rankOfRows_1 : decode cX7_rankOfRows 1 = .ok (.istore_n 2, 1) := by decide +kernel
theorem dX7_rankOfRows_2 : decode cX7_rankOfRows 2 = .ok (.iconst 0, 1) := by decide +kernel
theorem dX7_rankOfRows_3 : decode cX7_rankOfRows 3 = .ok (.istore_n 3, 1) := by decide +kernel
theorem dX7_rankOfRows_4 : decode cX7_rankOfRows 4 = .ok (.iload_n 3, 1) := by decide +kernel
theorem dX7_rankOfRows_5 : decode cX7_rankOfRows 5 = .ok (.iload_n 1, 1) := by decide +kernel
theorem dX7_rankOfRows_6 : decode cX7_rankOfRows 6 = .ok (.if_icmp .ge 27, 3) := by decide +kernel
theorem dX7_rankOfRows_9 : decode cX7_rankOfRows 9 = .ok (.aload_n 0, 1) := by decide +kernel
theorem dX7_rankOfRows_10 : decode cX7_rankOfRows 10 = .ok (.getfield 9, 3) := by decide +kernel
theorem dX7_rankOfRows_13 : decode cX7_rankOfRows 13 = .ok (.iload_n 3, 1) := by decide +kernel
theorem dX7_rankOfRows_14 : decode cX7_rankOfRows 14 = .ok (.iaload, 1) := by decide +kernel
theorem dX7_rankOfRows_15 : decode cX7_rankOfRows 15 = .ok (.ifCond .eq 12, 3) := by decide +kernel
theorem dX7_rankOfRows_18 : decode cX7_rankOfRows 18 = .ok (.iinc 2 1, 3) := by decide +kernel
theorem dX7_rankOfRows_21 : decode cX7_rankOfRows 21 = .ok (.aload_n 0, 1) := by decide +kernel
theorem dX7_rankOfRows_22 : decode cX7_rankOfRows 22 = .ok (.iload_n 3, 1) := by decide +kernel
theorem dX7_rankOfRows_23 : decode cX7_rankOfRows 23 = .ok (.iload_n 1, 1) := by decide +kernel
theorem dX7_rankOfRows_24 : decode cX7_rankOfRows 24 = .ok (.invokevirtual 42, 3) := by decide +kernel
theorem dX7_rankOfRows_27 : decode cX7_rankOfRows 27 = .ok (.iinc 3 1, 3) := by decide +kernel
theorem dX7_rankOfRows_30 : decode cX7_rankOfRows 30 = .ok (.goto (-26), 3) := by decide +kernel
theorem dX7_rankOfRows_33 : decode cX7_rankOfRows 33 = .ok (.iload_n 2, 1) := by decide +kernel
theorem dX7_rankOfRows_34 : decode cX7_rankOfRows 34 = .ok (.ireturn, 1) := by decide +kernel
def X7_rankOfRows_b4 (a1 : Int32) (v1 v2 : Int32) (m3 : gM) (k4 : Int32 → Int32 → gM → Option (Int32 × gM)) : Option (Int32 × gM) :=
  if a1 ≤ v2 then (some (v1, m3)) else (gAt m3 43 0 v2 (fun (x4 : Int32) => if x4 = 0 then (gLet (v2 + 1) (fun (x5 : Int32) => k4 v1 x5 m3)) else (gLet (v1 + 1) (fun (x6 : Int32) => gCall (X7_clearBelow v2 a1 m3) (fun (r8 : Unit) (m7 : gM) => gLet (v2 + 1) (fun (x9 : Int32) => k4 x6 x9 m7))))))
def X7_rankOfRows (a1 : Int32) (m : gM) : Option (Int32 × gM) :=
  gL2 FU (X7_rankOfRows_b4 a1) 0 0 m
set_option maxRecDepth 100000 in
set_option maxHeartbeats 4000000 in
theorem c_X7_rankOfRows (a1 : Int32) (m : gM) : gCon eI yX7_rankOfRows cX7_rankOfRows 4 (some .int) 1 [.inr (7, 0), .inl a1] m (X7_rankOfRows a1 m) := by
  refine gCon.of (lv := [some (.inr (7, 0)), some (.inl a1), none, none]) (by decide +kernel) (Nat.le_of_ble_eq_true rfl) rfl (fun X C => ?_)
  unfold X7_rankOfRows
  refine r_iconst (v := 0) C dX7_rankOfRows_0 (by decide) ?_
  refine r_istore_n (lv' := [some (.inr (7, 0)), some (.inl a1), some (.inl 0), none]) C dX7_rankOfRows_1 rfl (by decide) rfl ?_
  refine r_iconst (v := 0) C dX7_rankOfRows_2 (by decide) ?_
  refine r_istore_n (lv' := [some (.inr (7, 0)), some (.inl a1), some (.inl 0), some (.inl 0)]) C dX7_rankOfRows_3 rfl (by decide) rfl ?_
  refine r_weak (lv' := [some (.inr (7, 0)), some (.inl a1), some (.inl 0), some (.inl 0)]) ⟨rfl, rfl, rfl, rfl, trivial⟩ ?_
  refine r_l2 (pj := 4) (fun v1 v2 => [some (.inr (7, 0)), some (.inl a1), some (.inl v1), some (.inl v2)]) (fun v1 v2 m3 k4 hk4 => ?_) _ _ _ _
  unfold X7_rankOfRows_b4
  refine r_iload_n C dX7_rankOfRows_4 rfl rfl ?_
  refine r_iload_n C dX7_rankOfRows_5 rfl rfl ?_
  refine r_icmp_ge (tgt := 33) C dX7_rankOfRows_6 (by decide) ?_ ?_
  · refine r_iload_n C dX7_rankOfRows_33 rfl rfl ?_
    exact r_ireturn C dX7_rankOfRows_34
  refine r_aload_n C dX7_rankOfRows_9 rfl rfl ?_
  refine r_get (v := .inr (43, 0)) C fl_X7_9 dX7_rankOfRows_10 rfl ?_
  refine r_iload_n C dX7_rankOfRows_13 rfl rfl ?_
  refine r_iald C rfl dX7_rankOfRows_14 (fun x4 => ?_)
  refine r_if_eq (tgt := 27) C dX7_rankOfRows_15 (by decide) ?_ ?_
  · refine r_iinc (v := 1) C dX7_rankOfRows_27 (by decide) rfl (by decide) (fun x5 => ?_)
    show gw X eI _ [some (.inr (7, 0)), some (.inl a1), some (.inl v1), some (.inl x5)] _ _ _
    refine r_goto (tgt := 4) C dX7_rankOfRows_30 (by decide) ?_
    exact r_weak (lv' := [some (.inr (7, 0)), some (.inl a1), some (.inl v1), some (.inl x5)]) ⟨rfl, rfl, rfl, rfl, trivial⟩ (hk4 _ _ _)
  refine r_iinc (v := 1) C dX7_rankOfRows_18 (by decide) rfl (by decide) (fun x6 => ?_)
  show gw X eI _ [some (.inr (7, 0)), some (.inl a1), some (.inl x6), some (.inl v2)] _ _ _
  refine r_aload_n C dX7_rankOfRows_21 rfl rfl ?_
  refine r_iload_n C dX7_rankOfRows_22 rfl rfl ?_
  refine r_iload_n C dX7_rankOfRows_23 rfl rfl ?_
  refine r_invU (t := 7) (kb := 0) (As := [.inl v2, .inl a1]) (st := []) C il_X7_42 co_X7_clearBelow (by decide) rfl (c_X7_clearBelow v2 a1 m3) (by decide) (by decide) rfl rfl (Nat.le_of_ble_eq_true rfl) dX7_rankOfRows_24 (fun r8 m7 => ?_)
  refine r_iinc (v := 1) C dX7_rankOfRows_27 (by decide) rfl (by decide) (fun x9 => ?_)
  show gw X eI _ [some (.inr (7, 0)), some (.inl a1), some (.inl x6), some (.inl x9)] _ _ _
  refine r_goto (tgt := 4) C dX7_rankOfRows_30 (by decide) ?_
  exact r_weak (lv' := [some (.inr (7, 0)), some (.inl a1), some (.inl x6), some (.inl x9)]) ⟨rfl, rfl, rfl, rfl, trivial⟩ (hk4 _ _ _)
theorem dX7_rankOfAll_0 : decode cX7_rankOfAll 0 = .ok (.iconst 0, 1) := by decide +kernel
theorem dX7_rankOfAll_1 : decode cX7_rankOfAll 1 = .ok (.istore_n 2, 1) := by decide +kernel
theorem dX7_rankOfAll_2 : decode cX7_rankOfAll 2 = .ok (.iconst 0, 1) := by decide +kernel
theorem dX7_rankOfAll_3 : decode cX7_rankOfAll 3 = .ok (.istore_n 3, 1) := by decide +kernel
theorem dX7_rankOfAll_4 : decode cX7_rankOfAll 4 = .ok (.iload_n 3, 1) := by decide +kernel
theorem dX7_rankOfAll_5 : decode cX7_rankOfAll 5 = .ok (.aload_n 1, 1) := by decide +kernel
theorem dX7_rankOfAll_6 : decode cX7_rankOfAll 6 = .ok (.getfield 18, 3) := by decide +kernel
theorem dX7_rankOfAll_9 : decode cX7_rankOfAll 9 = .ok (.if_icmp .ge 17, 3) := by decide +kernel
theorem dX7_rankOfAll_12 : decode cX7_rankOfAll 12 = .ok (.aload_n 0, 1) := by decide +kernel
theorem dX7_rankOfAll_13 : decode cX7_rankOfAll 13 = .ok (.aload_n 1, 1) := by decide +kernel
theorem dX7_rankOfAll_14 : decode cX7_rankOfAll 14 = .ok (.iload_n 3, 1) := by decide +kernel
theorem dX7_rankOfAll_15 : decode cX7_rankOfAll 15 = .ok (.iload_n 2, 1) := by decide +kernel
theorem dX7_rankOfAll_16 : decode cX7_rankOfAll 16 = .ok (.invokevirtual 24, 3) := by decide +kernel
theorem dX7_rankOfAll_19 : decode cX7_rankOfAll 19 = .ok (.istore_n 2, 1) := by decide +kernel
theorem dX7_rankOfAll_20 : decode cX7_rankOfAll 20 = .ok (.iinc 3 1, 3) := by decide +kernel
theorem dX7_rankOfAll_23 : decode cX7_rankOfAll 23 = .ok (.goto (-19), 3) := by decide +kernel
theorem dX7_rankOfAll_26 : decode cX7_rankOfAll 26 = .ok (.aload_n 0, 1) := by decide +kernel
theorem dX7_rankOfAll_27 : decode cX7_rankOfAll 27 = .ok (.iload_n 2, 1) := by decide +kernel
theorem dX7_rankOfAll_28 : decode cX7_rankOfAll 28 = .ok (.invokevirtual 28, 3) := by decide +kernel
theorem dX7_rankOfAll_31 : decode cX7_rankOfAll 31 = .ok (.ireturn, 1) := by decide +kernel
def X7_rankOfAll_b4 (o1 : Nat) (j26 : Int32 → gM → Option (Int32 × gM)) (v5 v6 : Int32) (m7 : gM) (k4 : Int32 → Int32 → gM → Option (Int32 × gM)) : Option (Int32 × gM) :=
  if (m7 3 o1 0) ≤ v6 then (j26 v5 m7) else (gCall (X7_addMasks o1 v6 v5 m7) (fun (r9 : Int32) (m8 : gM) => gLet (v6 + 1) (fun (x10 : Int32) => k4 r9 x10 m8)))
def X7_rankOfAll (o1 : Nat) (m : gM) : Option (Int32 × gM) :=
  gJ1 (fun (v1 : Int32) (m2 : gM) => gCall (X7_rankOfRows v1 m2) (fun (r4 : Int32) (m3 : gM) => some (r4, m3))) (fun (j26 : Int32 → gM → Option (Int32 × gM)) => gL2 FU (X7_rankOfAll_b4 o1 j26) 0 0 m)
set_option maxRecDepth 100000 in
set_option maxHeartbeats 4000000 in
theorem c_X7_rankOfAll (o1 : Nat) (m : gM) : gCon eI yX7_rankOfAll cX7_rankOfAll 4 (some .int) 2 [.inr (7, 0), .inr (3, o1)] m (X7_rankOfAll o1 m) := by
  refine gCon.of (lv := [some (.inr (7, 0)), some (.inr (3, o1)), none, none]) (by decide +kernel) (Nat.le_of_ble_eq_true rfl) rfl (fun X C => ?_)
  unfold X7_rankOfAll
  refine r_iconst (v := 0) C dX7_rankOfAll_0 (by decide) ?_
  refine r_istore_n (lv' := [some (.inr (7, 0)), some (.inr (3, o1)), some (.inl 0), none]) C dX7_rankOfAll_1 rfl (by decide) rfl ?_
  refine r_iconst (v := 0) C dX7_rankOfAll_2 (by decide) ?_
  refine r_istore_n (lv' := [some (.inr (7, 0)), some (.inr (3, o1)), some (.inl 0), some (.inl 0)]) C dX7_rankOfAll_3 rfl (by decide) rfl ?_
  refine r_j1 26 (fun v1 => [some (.inr (7, 0)), none, some (.inl v1), none]) (fun v1 => []) (fun v1 m2 => ?_) (fun j26 hj26 => ?_)
  · refine r_aload_n C dX7_rankOfAll_26 rfl rfl ?_
    refine r_iload_n C dX7_rankOfAll_27 rfl rfl ?_
    refine r_invI (t := 7) (kb := 0) (As := [.inl v1]) (st := []) C il_X7_28 co_X7_rankOfRows (by decide) rfl (c_X7_rankOfRows v1 m2) (by decide) (by decide) rfl rfl (Nat.le_of_ble_eq_true rfl) dX7_rankOfAll_28 (fun r4 m3 => ?_)
    exact r_ireturn C dX7_rankOfAll_31
  refine r_weak (lv' := [some (.inr (7, 0)), some (.inr (3, o1)), some (.inl 0), some (.inl 0)]) ⟨rfl, rfl, rfl, rfl, trivial⟩ ?_
  refine r_l2 (pj := 4) (fun v5 v6 => [some (.inr (7, 0)), some (.inr (3, o1)), some (.inl v5), some (.inl v6)]) (fun v5 v6 m7 k4 hk4 => ?_) _ _ _ _
  unfold X7_rankOfAll_b4
  refine r_iload_n C dX7_rankOfAll_4 rfl rfl ?_
  refine r_aload_n C dX7_rankOfAll_5 rfl rfl ?_
  refine r_get (v := .inl (m7 3 o1 0)) C fl_X7_18 dX7_rankOfAll_6 rfl ?_
  refine r_icmp_ge (tgt := 26) C dX7_rankOfAll_9 (by decide) ?_ ?_
  · exact r_weak (lv' := [some (.inr (7, 0)), none, some (.inl v5), none]) ⟨rfl, rfl, trivial⟩ (hj26 _ _)
  refine r_aload_n C dX7_rankOfAll_12 rfl rfl ?_
  refine r_aload_n C dX7_rankOfAll_13 rfl rfl ?_
  refine r_iload_n C dX7_rankOfAll_14 rfl rfl ?_
  refine r_iload_n C dX7_rankOfAll_15 rfl rfl ?_
  refine r_invI (t := 7) (kb := 0) (As := [.inr (3, o1), .inl v6, .inl v5]) (st := []) C il_X7_24 co_X7_addMasks (by decide) rfl (c_X7_addMasks o1 v6 v5 m7) (by decide) (by decide) rfl rfl (Nat.le_of_ble_eq_true rfl) dX7_rankOfAll_16 (fun r9 m8 => ?_)
  refine r_istore_n (lv' := [some (.inr (7, 0)), some (.inr (3, o1)), some (.inl r9), some (.inl v6)]) C dX7_rankOfAll_19 rfl (by decide) rfl ?_
  refine r_iinc (v := 1) C dX7_rankOfAll_20 (by decide) rfl (by decide) (fun x10 => ?_)
  show gw X eI _ [some (.inr (7, 0)), some (.inr (3, o1)), some (.inl r9), some (.inl x10)] _ _ _
  refine r_goto (tgt := 4) C dX7_rankOfAll_23 (by decide) ?_
  exact r_weak (lv' := [some (.inr (7, 0)), some (.inr (3, o1)), some (.inl r9), some (.inl x10)]) ⟨rfl, rfl, rfl, rfl, trivial⟩ (hk4 _ _ _)
theorem dX7_rankOfTwo_0 : decode cX7_rankOfTwo 0 = .ok (.aload_n 0, 1) := by decide +kernel
theorem dX7_rankOfTwo_1 : decode cX7_rankOfTwo 1 = .ok (.aload_n 1, 1) := by decide +kernel
theorem dX7_rankOfTwo_2 : decode cX7_rankOfTwo 2 = .ok (.iload_n 2, 1) := by decide +kernel
theorem dX7_rankOfTwo_3 : decode cX7_rankOfTwo 3 = .ok (.iconst 0, 1) := by decide +kernel
theorem dX7_rankOfTwo_4 : decode cX7_rankOfTwo 4 = .ok (.invokevirtual 24, 3) := by decide +kernel
theorem dX7_rankOfTwo_7 : decode cX7_rankOfTwo 7 = .ok (.istore 4, 2) := by decide +kernel
theorem dX7_rankOfTwo_9 : decode cX7_rankOfTwo 9 = .ok (.iload_n 3, 1) := by decide +kernel
theorem dX7_rankOfTwo_10 : decode cX7_rankOfTwo 10 = .ok (.iload_n 2, 1) := by decide +kernel
theorem dX7_rankOfTwo_11 : decode cX7_rankOfTwo 11 = .ok (.if_icmp .eq 13, 3) := by decide +kernel
theorem dX7_rankOfTwo_14 : decode cX7_rankOfTwo 14 = .ok (.aload_n 0, 1) := by decide +kernel
theorem dX7_rankOfTwo_15 : decode cX7_rankOfTwo 15 = .ok (.aload_n 1, 1) := by decide +kernel
theorem dX7_rankOfTwo_16 : decode cX7_rankOfTwo 16 = .ok (.iload_n 3, 1) := by decide +kernel
theorem dX7_rankOfTwo_17 : decode cX7_rankOfTwo 17 = .ok (.iload 4, 2) := by decide +kernel
theorem dX7_rankOfTwo_19 : decode cX7_rankOfTwo 19 = .ok (.invokevirtual 24, 3) := by decide +kernel
theorem dX7_rankOfTwo_22 : decode cX7_rankOfTwo 22 = .ok (.istore 4, 2) := by decide +kernel
theorem dX7_rankOfTwo_24 : decode cX7_rankOfTwo 24 = .ok (.aload_n 0, 1) := by decide +kernel
theorem dX7_rankOfTwo_25 : decode cX7_rankOfTwo 25 = .ok (.iload 4, 2) := by decide +kernel
theorem dX7_rankOfTwo_27 : decode cX7_rankOfTwo 27 = .ok (.invokevirtual 28, 3) := by decide +kernel
theorem dX7_rankOfTwo_30 : decode cX7_rankOfTwo 30 = .ok (.ireturn, 1) := by decide +kernel
def X7_rankOfTwo (o1 : Nat) (a2 : Int32) (a3 : Int32) (m : gM) : Option (Int32 × gM) :=
  gCall (X7_addMasks o1 a2 0 m) (fun (r2 : Int32) (m1 : gM) => gJ1 (fun (v3 : Int32) (m4 : gM) => gCall (X7_rankOfRows v3 m4) (fun (r6 : Int32) (m5 : gM) => some (r6, m5))) (fun (j24 : Int32 → gM → Option (Int32 × gM)) => if a3 = a2 then (j24 r2 m1) else (gCall (X7_addMasks o1 a3 r2 m1) (fun (r8 : Int32) (m7 : gM) => j24 r8 m7))))
set_option maxRecDepth 100000 in
set_option maxHeartbeats 4000000 in
theorem c_X7_rankOfTwo (o1 : Nat) (a2 : Int32) (a3 : Int32) (m : gM) : gCon eI yX7_rankOfTwo cX7_rankOfTwo 5 (some .int) 2 [.inr (7, 0), .inr (3, o1), .inl a2, .inl a3] m (X7_rankOfTwo o1 a2 a3 m) := by
  refine gCon.of (lv := [some (.inr (7, 0)), some (.inr (3, o1)), some (.inl a2), some (.inl a3), none]) (by decide +kernel) (Nat.le_of_ble_eq_true rfl) rfl (fun X C => ?_)
  unfold X7_rankOfTwo
  refine r_aload_n C dX7_rankOfTwo_0 rfl rfl ?_
  refine r_aload_n C dX7_rankOfTwo_1 rfl rfl ?_
  refine r_iload_n C dX7_rankOfTwo_2 rfl rfl ?_
  refine r_iconst (v := 0) C dX7_rankOfTwo_3 (by decide) ?_
  refine r_invI (t := 7) (kb := 0) (As := [.inr (3, o1), .inl a2, .inl 0]) (st := []) C il_X7_24 co_X7_addMasks (by decide) rfl (c_X7_addMasks o1 a2 0 m) (by decide) (by decide) rfl rfl (Nat.le_of_ble_eq_true rfl) dX7_rankOfTwo_4 (fun r2 m1 => ?_)
  refine r_istore (lv' := [some (.inr (7, 0)), some (.inr (3, o1)), some (.inl a2), some (.inl a3), some (.inl r2)]) C dX7_rankOfTwo_7 (by decide) rfl ?_
  refine r_iload_n C dX7_rankOfTwo_9 rfl rfl ?_
  refine r_iload_n C dX7_rankOfTwo_10 rfl rfl ?_
  refine r_j1 24 (fun v3 => [some (.inr (7, 0)), none, none, none, some (.inl v3)]) (fun v3 => []) (fun v3 m4 => ?_) (fun j24 hj24 => ?_)
  · refine r_aload_n C dX7_rankOfTwo_24 rfl rfl ?_
    refine r_iload C dX7_rankOfTwo_25 rfl ?_
    refine r_invI (t := 7) (kb := 0) (As := [.inl v3]) (st := []) C il_X7_28 co_X7_rankOfRows (by decide) rfl (c_X7_rankOfRows v3 m4) (by decide) (by decide) rfl rfl (Nat.le_of_ble_eq_true rfl) dX7_rankOfTwo_27 (fun r6 m5 => ?_)
    exact r_ireturn C dX7_rankOfTwo_30
  refine r_icmp_eq (tgt := 24) C dX7_rankOfTwo_11 (by decide) ?_ ?_
  · exact r_weak (lv' := [some (.inr (7, 0)), none, none, none, some (.inl r2)]) ⟨rfl, rfl, trivial⟩ (hj24 _ _)
  refine r_aload_n C dX7_rankOfTwo_14 rfl rfl ?_
  refine r_aload_n C dX7_rankOfTwo_15 rfl rfl ?_
  refine r_iload_n C dX7_rankOfTwo_16 rfl rfl ?_
  refine r_iload C dX7_rankOfTwo_17 rfl ?_
  refine r_invI (t := 7) (kb := 0) (As := [.inr (3, o1), .inl a3, .inl r2]) (st := []) C il_X7_24 co_X7_addMasks (by decide) rfl (c_X7_addMasks o1 a3 r2 m1) (by decide) (by decide) rfl rfl (Nat.le_of_ble_eq_true rfl) dX7_rankOfTwo_19 (fun r8 m7 => ?_)
  refine r_istore (lv' := [some (.inr (7, 0)), some (.inr (3, o1)), some (.inl a2), some (.inl a3), some (.inl r8)]) C dX7_rankOfTwo_22 (by decide) rfl ?_
  exact r_weak (lv' := [some (.inr (7, 0)), none, none, none, some (.inl r8)]) ⟨rfl, rfl, trivial⟩ (hj24 _ _)
theorem dX7_layOut_0 : decode cX7_layOut 0 = .ok (.aload_n 0, 1) := by decide +kernel
theorem dX7_layOut_1 : decode cX7_layOut 1 = .ok (.getfield 15, 3) := by decide +kernel
theorem dX7_layOut_4 : decode cX7_layOut 4 = .ok (.iconst 0, 1) := by decide +kernel
theorem dX7_layOut_5 : decode cX7_layOut 5 = .ok (.invokestatic 46, 3) := by decide +kernel
theorem dX7_layOut_8 : decode cX7_layOut 8 = .ok (.iconst 0, 1) := by decide +kernel
theorem dX7_layOut_9 : decode cX7_layOut 9 = .ok (.istore 5, 2) := by decide +kernel
theorem dX7_layOut_11 : decode cX7_layOut 11 = .ok (.iload 5, 2) := by decide +kernel
theorem dX7_layOut_13 : decode cX7_layOut 13 = .ok (.iload 4, 2) := by decide +kernel
theorem dX7_layOut_15 : decode cX7_layOut 15 = .ok (.if_icmp .ge 31, 3) := by decide +kernel
theorem dX7_layOut_18 : decode cX7_layOut 18 = .ok (.aload_n 0, 1) := by decide +kernel
theorem dX7_layOut_19 : decode cX7_layOut 19 = .ok (.getfield 15, 3) := by decide +kernel
theorem dX7_layOut_22 : decode cX7_layOut 22 = .ok (.aload_n 1, 1) := by decide +kernel
theorem dX7_layOut_23 : decode cX7_layOut 23 = .ok (.iload 5, 2) := by decide +kernel
theorem dX7_layOut_25 : decode cX7_layOut 25 = .ok (.iload_n 3, 1) := by decide +kernel
theorem dX7_layOut_26 : decode cX7_layOut 26 = .ok (.imul, 1) := by decide +kernel
theorem dX7_layOut_27 : decode cX7_layOut 27 = .ok (.sipush 1024, 3) := by decide +kernel
theorem dX7_layOut_30 : decode cX7_layOut 30 = .ok (.irem, 1) := by decide +kernel
theorem dX7_layOut_31 : decode cX7_layOut 31 = .ok (.iload_n 2, 1) := by decide +kernel
theorem dX7_layOut_32 : decode cX7_layOut 32 = .ok (.invokevirtual 52, 3) := by decide +kernel
theorem dX7_layOut_35 : decode cX7_layOut 35 = .ok (.dup2, 1) := by decide +kernel
theorem dX7_layOut_36 : decode cX7_layOut 36 = .ok (.iaload, 1) := by decide +kernel
theorem dX7_layOut_37 : decode cX7_layOut 37 = .ok (.iconst 1, 1) := by decide +kernel
theorem dX7_layOut_38 : decode cX7_layOut 38 = .ok (.iadd, 1) := by decide +kernel
theorem dX7_layOut_39 : decode cX7_layOut 39 = .ok (.iastore, 1) := by decide +kernel
theorem dX7_layOut_40 : decode cX7_layOut 40 = .ok (.iinc 5 1, 3) := by decide +kernel
theorem dX7_layOut_43 : decode cX7_layOut 43 = .ok (.goto (-32), 3) := by decide +kernel
theorem dX7_layOut_46 : decode cX7_layOut 46 = .ok (.return_, 1) := by decide +kernel
def X7_layOut_b11 (o1 : Nat) (a2 : Int32) (a3 : Int32) (a4 : Int32) (v3 : Int32) (m4 : gM) (k11 : Int32 → gM → Option (Unit × gM)) : Option (Unit × gM) :=
  if a4 ≤ v3 then (some ((), m4)) else (gCall (X3_indexOf o1 (gRem (v3 * a3) 1024) a2 m4) (fun (r6 : Int32) (m5 : gM) => gAt m5 44 0 r6 (fun (x7 : Int32) => gPut m5 44 0 r6 (x7 + 1) (fun (m8 : gM) => gLet (v3 + 1) (fun (x9 : Int32) => k11 x9 m8)))))
def X7_layOut (o1 : Nat) (a2 : Int32) (a3 : Int32) (a4 : Int32) (m : gM) : Option (Unit × gM) :=
  gCall (J7_fill_53178 44 0 0 m) (fun (r2 : Unit) (m1 : gM) => gL1 FU (X7_layOut_b11 o1 a2 a3 a4) 0 m1)
set_option maxRecDepth 100000 in
set_option maxHeartbeats 4000000 in
theorem c_X7_layOut (o1 : Nat) (a2 : Int32) (a3 : Int32) (a4 : Int32) (m : gM) : gCon eU yX7_layOut cX7_layOut 6 none 2 [.inr (7, 0), .inr (3, o1), .inl a2, .inl a3, .inl a4] m (X7_layOut o1 a2 a3 a4 m) := by
  refine gCon.of (lv := [some (.inr (7, 0)), some (.inr (3, o1)), some (.inl a2), some (.inl a3), some (.inl a4), none]) (by decide +kernel) (Nat.le_of_ble_eq_true rfl) rfl (fun X C => ?_)
  unfold X7_layOut
  refine r_aload_n C dX7_layOut_0 rfl rfl ?_
  refine r_get (v := .inr (44, 0)) C fl_X7_15 dX7_layOut_1 rfl ?_
  refine r_iconst (v := 0) C dX7_layOut_4 (by decide) ?_
  refine r_insU (As := [.inr (44, 0), .inl 0]) (st := []) C il_X7_46 co_J7_fill_53178 (c_J7_fill_53178 44 0 0 rfl m) (by decide) (by decide) rfl rfl (Nat.le_of_ble_eq_true rfl) dX7_layOut_5 (fun r2 m1 => ?_)
  refine r_iconst (v := 0) C dX7_layOut_8 (by decide) ?_
  refine r_istore (lv' := [some (.inr (7, 0)), some (.inr (3, o1)), some (.inl a2), some (.inl a3), some (.inl a4), some (.inl 0)]) C dX7_layOut_9 (by decide) rfl ?_
  refine r_weak (lv' := [some (.inr (7, 0)), some (.inr (3, o1)), some (.inl a2), some (.inl a3), some (.inl a4), some (.inl 0)]) ⟨rfl, rfl, rfl, rfl, rfl, rfl, trivial⟩ ?_
  refine r_l1 (pj := 11) (fun v3 => [some (.inr (7, 0)), some (.inr (3, o1)), some (.inl a2), some (.inl a3), some (.inl a4), some (.inl v3)]) (fun v3 m4 k11 hk11 => ?_) _ _ _
  unfold X7_layOut_b11
  refine r_iload C dX7_layOut_11 rfl ?_
  refine r_iload C dX7_layOut_13 rfl ?_
  refine r_icmp_ge (tgt := 46) C dX7_layOut_15 (by decide) ?_ ?_
  · exact r_return C dX7_layOut_46
  refine r_aload_n C dX7_layOut_18 rfl rfl ?_
  refine r_get (v := .inr (44, 0)) C fl_X7_15 dX7_layOut_19 rfl ?_
  refine r_aload_n C dX7_layOut_22 rfl rfl ?_
  refine r_iload C dX7_layOut_23 rfl ?_
  refine r_iload_n C dX7_layOut_25 rfl rfl ?_
  refine r_imul C dX7_layOut_26 ?_
  refine r_sipush (v := 1024) C dX7_layOut_27 (by decide) ?_
  refine r_irem C dX7_layOut_30 (by decide) ?_
  refine r_iload_n C dX7_layOut_31 rfl rfl ?_
  refine r_invI (t := 3) (kb := o1) (As := [.inl (gRem (v3 * a3) 1024), .inl a2]) (st := [.inr (44, 0)]) C il_X7_52 co_X3_indexOf (by decide) rfl (c_X3_indexOf o1 (gRem (v3 * a3) 1024) a2 m4) (by decide) (by decide) rfl rfl (Nat.le_of_ble_eq_true rfl) dX7_layOut_32 (fun r6 m5 => ?_)
  refine r_dup2 C dX7_layOut_35 ?_
  refine r_iald C rfl dX7_layOut_36 (fun x7 => ?_)
  refine r_iconst (v := 1) C dX7_layOut_37 (by decide) ?_
  refine r_iadd C dX7_layOut_38 ?_
  refine r_iast C rfl dX7_layOut_39 (fun m8 => ?_)
  refine r_iinc (v := 1) C dX7_layOut_40 (by decide) rfl (by decide) (fun x9 => ?_)
  show gw X eU _ [some (.inr (7, 0)), some (.inr (3, o1)), some (.inl a2), some (.inl a3), some (.inl a4), some (.inl x9)] _ _ _
  refine r_goto (tgt := 11) C dX7_layOut_43 (by decide) ?_
  exact r_weak (lv' := [some (.inr (7, 0)), some (.inr (3, o1)), some (.inl a2), some (.inl a3), some (.inl a4), some (.inl x9)]) ⟨rfl, rfl, rfl, rfl, rfl, rfl, trivial⟩ (hk11 _ _)
theorem dX7_slotsUsed_0 : decode cX7_slotsUsed 0 = .ok (.iconst 0, 1) := by decide +kernel
theorem dX7_slotsUsed_1 : decode cX7_slotsUsed 1 = .ok (.istore_n 1, 1) := by decide +kernel
theorem dX7_slotsUsed_2 : decode cX7_slotsUsed 2 = .ok (.iconst 0, 1) := by decide +kernel
theorem dX7_slotsUsed_3 : decode cX7_slotsUsed 3 = .ok (.istore_n 2, 1) := by decide +kernel
theorem dX7_slotsUsed_4 : decode cX7_slotsUsed 4 = .ok (.iload_n 2, 1) := by decide +kernel
theorem dX7_slotsUsed_5 : decode cX7_slotsUsed 5 = .ok (.aload_n 0, 1) := by decide +kernel
theorem dX7_slotsUsed_6 : decode cX7_slotsUsed 6 = .ok (.getfield 15, 3) := by decide +kernel
theorem dX7_slotsUsed_9 : decode cX7_slotsUsed 9 = .ok (.arraylength, 1) := by decide +kernel
theorem dX7_slotsUsed_10 : decode cX7_slotsUsed 10 = .ok (.if_icmp .ge 21, 3) := by decide +kernel
theorem dX7_slotsUsed_13 : decode cX7_slotsUsed 13 = .ok (.aload_n 0, 1) := by decide +kernel
theorem dX7_slotsUsed_14 : decode cX7_slotsUsed 14 = .ok (.getfield 15, 3) := by decide +kernel
theorem dX7_slotsUsed_17 : decode cX7_slotsUsed 17 = .ok (.iload_n 2, 1) := by decide +kernel
theorem dX7_slotsUsed_18 : decode cX7_slotsUsed 18 = .ok (.iaload, 1) := by decide +kernel
theorem dX7_slotsUsed_19 : decode cX7_slotsUsed 19 = .ok (.ifCond .le 6, 3) := by decide +kernel
theorem dX7_slotsUsed_22 : decode cX7_slotsUsed 22 = .ok (.iinc 1 1, 3) := by decide +kernel
theorem dX7_slotsUsed_25 : decode cX7_slotsUsed 25 = .ok (.iinc 2 1, 3) := by decide +kernel
theorem dX7_slotsUsed_28 : decode cX7_slotsUsed 28 = .ok (.goto (-24), 3) := by decide +kernel
theorem dX7_slotsUsed_31 : decode cX7_slotsUsed 31 = .ok (.iload_n 1, 1) := by decide +kernel
theorem dX7_slotsUsed_32 : decode cX7_slotsUsed 32 = .ok (.ireturn, 1) := by decide +kernel
def X7_slotsUsed_b4 (v1 v2 : Int32) (m3 : gM) (k4 : Int32 → Int32 → gM → Option (Int32 × gM)) : Option (Int32 × gM) :=
  if 16 ≤ v2 then (some (v1, m3)) else (gAt m3 44 0 v2 (fun (x4 : Int32) => if x4 ≤ 0 then (gLet (v2 + 1) (fun (x5 : Int32) => k4 v1 x5 m3)) else (gLet (v1 + 1) (fun (x6 : Int32) => gLet (v2 + 1) (fun (x7 : Int32) => k4 x6 x7 m3)))))
def X7_slotsUsed (m : gM) : Option (Int32 × gM) :=
  gL2 FU X7_slotsUsed_b4 0 0 m
set_option maxRecDepth 100000 in
set_option maxHeartbeats 4000000 in
theorem c_X7_slotsUsed (m : gM) : gCon eI yX7_slotsUsed cX7_slotsUsed 3 (some .int) 0 [.inr (7, 0)] m (X7_slotsUsed m) := by
  refine gCon.of (lv := [some (.inr (7, 0)), none, none]) (by decide +kernel) (Nat.le_of_ble_eq_true rfl) rfl (fun X C => ?_)
  unfold X7_slotsUsed
  refine r_iconst (v := 0) C dX7_slotsUsed_0 (by decide) ?_
  refine r_istore_n (lv' := [some (.inr (7, 0)), some (.inl 0), none]) C dX7_slotsUsed_1 rfl (by decide) rfl ?_
  refine r_iconst (v := 0) C dX7_slotsUsed_2 (by decide) ?_
  refine r_istore_n (lv' := [some (.inr (7, 0)), some (.inl 0), some (.inl 0)]) C dX7_slotsUsed_3 rfl (by decide) rfl ?_
  refine r_weak (lv' := [some (.inr (7, 0)), some (.inl 0), some (.inl 0)]) ⟨rfl, rfl, rfl, trivial⟩ ?_
  refine r_l2 (pj := 4) (fun v1 v2 => [some (.inr (7, 0)), some (.inl v1), some (.inl v2)]) (fun v1 v2 m3 k4 hk4 => ?_) _ _ _ _
  unfold X7_slotsUsed_b4
  refine r_iload_n C dX7_slotsUsed_4 rfl rfl ?_
  refine r_aload_n C dX7_slotsUsed_5 rfl rfl ?_
  refine r_get (v := .inr (44, 0)) C fl_X7_15 dX7_slotsUsed_6 rfl ?_
  refine r_alen (v := 16) C (by decide) rfl dX7_slotsUsed_9 ?_
  refine r_icmp_ge (tgt := 31) C dX7_slotsUsed_10 (by decide) ?_ ?_
  · refine r_iload_n C dX7_slotsUsed_31 rfl rfl ?_
    exact r_ireturn C dX7_slotsUsed_32
  refine r_aload_n C dX7_slotsUsed_13 rfl rfl ?_
  refine r_get (v := .inr (44, 0)) C fl_X7_15 dX7_slotsUsed_14 rfl ?_
  refine r_iload_n C dX7_slotsUsed_17 rfl rfl ?_
  refine r_iald C rfl dX7_slotsUsed_18 (fun x4 => ?_)
  refine r_if_le (tgt := 25) C dX7_slotsUsed_19 (by decide) ?_ ?_
  · refine r_iinc (v := 1) C dX7_slotsUsed_25 (by decide) rfl (by decide) (fun x5 => ?_)
    show gw X eI _ [some (.inr (7, 0)), some (.inl v1), some (.inl x5)] _ _ _
    refine r_goto (tgt := 4) C dX7_slotsUsed_28 (by decide) ?_
    exact r_weak (lv' := [some (.inr (7, 0)), some (.inl v1), some (.inl x5)]) ⟨rfl, rfl, rfl, trivial⟩ (hk4 _ _ _)
  refine r_iinc (v := 1) C dX7_slotsUsed_22 (by decide) rfl (by decide) (fun x6 => ?_)
  show gw X eI _ [some (.inr (7, 0)), some (.inl x6), some (.inl v2)] _ _ _
  refine r_iinc (v := 1) C dX7_slotsUsed_25 (by decide) rfl (by decide) (fun x7 => ?_)
  show gw X eI _ [some (.inr (7, 0)), some (.inl x6), some (.inl x7)] _ _ _
  refine r_goto (tgt := 4) C dX7_slotsUsed_28 (by decide) ?_
  exact r_weak (lv' := [some (.inr (7, 0)), some (.inl x6), some (.inl x7)]) ⟨rfl, rfl, rfl, trivial⟩ (hk4 _ _ _)
theorem dX7_mostInOne_0 : decode cX7_mostInOne 0 = .ok (.iconst 0, 1) := by decide +kernel
theorem dX7_mostInOne_1 : decode cX7_mostInOne 1 = .ok (.istore_n 1, 1) := by decide +kernel
theorem dX7_mostInOne_2 : decode cX7_mostInOne 2 = .ok (.iconst 0, 1) := by decide +kernel
theorem dX7_mostInOne_3 : decode cX7_mostInOne 3 = .ok (.istore_n 2, 1) := by decide +kernel
theorem dX7_mostInOne_4 : decode cX7_mostInOne 4 = .ok (.iload_n 2, 1) := by decide +kernel
theorem dX7_mostInOne_5 : decode cX7_mostInOne 5 = .ok (.aload_n 0, 1) := by decide +kernel
theorem dX7_mostInOne_6 : decode cX7_mostInOne 6 = .ok (.getfield 15, 3) := by decide +kernel
theorem dX7_mostInOne_9 : decode cX7_mostInOne 9 = .ok (.arraylength, 1) := by decide +kernel
theorem dX7_mostInOne_10 : decode cX7_mostInOne 10 = .ok (.if_icmp .ge 20, 3) := by decide +kernel
theorem dX7_mostInOne_13 : decode cX7_mostInOne 13 = .ok (.iload_n 1, 1) := by decide +kernel
theorem dX7_mostInOne_14 : decode cX7_mostInOne 14 = .ok (.aload_n 0, 1) := by decide +kernel
theorem dX7_mostInOne_15 : decode cX7_mostInOne 15 = .ok (.getfield 15, 3) := by decide +kernel
theorem dX7_mostInOne_18 : decode cX7_mostInOne 18 = .ok (.iload_n 2, 1) := by decide +kernel
theorem dX7_mostInOne_19 : decode cX7_mostInOne 19 = .ok (.iaload, 1) := by decide +kernel
theorem dX7_mostInOne_20 : decode cX7_mostInOne 20 = .ok (.invokestatic 55, 3) := by decide +kernel
theorem dX7_mostInOne_23 : decode cX7_mostInOne 23 = .ok (.istore_n 1, 1) := by decide +kernel
theorem dX7_mostInOne_24 : decode cX7_mostInOne 24 = .ok (.iinc 2 1, 3) := by decide +kernel
theorem dX7_mostInOne_27 : decode cX7_mostInOne 27 = .ok (.goto (-23), 3) := by decide +kernel
theorem dX7_mostInOne_30 : decode cX7_mostInOne 30 = .ok (.iload_n 1, 1) := by decide +kernel
theorem dX7_mostInOne_31 : decode cX7_mostInOne 31 = .ok (.ireturn, 1) := by decide +kernel
def X7_mostInOne_b4 (v1 v2 : Int32) (m3 : gM) (k4 : Int32 → Int32 → gM → Option (Int32 × gM)) : Option (Int32 × gM) :=
  if 16 ≤ v2 then (some (v1, m3)) else (gAt m3 44 0 v2 (fun (x4 : Int32) => gLet (gMax v1 x4) (fun (x5 : Int32) => gLet (v2 + 1) (fun (x6 : Int32) => k4 x5 x6 m3))))
def X7_mostInOne (m : gM) : Option (Int32 × gM) :=
  gL2 FU X7_mostInOne_b4 0 0 m
set_option maxRecDepth 100000 in
set_option maxHeartbeats 4000000 in
theorem c_X7_mostInOne (m : gM) : gCon eI yX7_mostInOne cX7_mostInOne 3 (some .int) 1 [.inr (7, 0)] m (X7_mostInOne m) := by
  refine gCon.of (lv := [some (.inr (7, 0)), none, none]) (by decide +kernel) (Nat.le_of_ble_eq_true rfl) rfl (fun X C => ?_)
  unfold X7_mostInOne
  refine r_iconst (v := 0) C dX7_mostInOne_0 (by decide) ?_
  refine r_istore_n (lv' := [some (.inr (7, 0)), some (.inl 0), none]) C dX7_mostInOne_1 rfl (by decide) rfl ?_
  refine r_iconst (v := 0) C dX7_mostInOne_2 (by decide) ?_
  refine r_istore_n (lv' := [some (.inr (7, 0)), some (.inl 0), some (.inl 0)]) C dX7_mostInOne_3 rfl (by decide) rfl ?_
  refine r_weak (lv' := [some (.inr (7, 0)), some (.inl 0), some (.inl 0)]) ⟨rfl, rfl, rfl, trivial⟩ ?_
  refine r_l2 (pj := 4) (fun v1 v2 => [some (.inr (7, 0)), some (.inl v1), some (.inl v2)]) (fun v1 v2 m3 k4 hk4 => ?_) _ _ _ _
  unfold X7_mostInOne_b4
  refine r_iload_n C dX7_mostInOne_4 rfl rfl ?_
  refine r_aload_n C dX7_mostInOne_5 rfl rfl ?_
  refine r_get (v := .inr (44, 0)) C fl_X7_15 dX7_mostInOne_6 rfl ?_
  refine r_alen (v := 16) C (by decide) rfl dX7_mostInOne_9 ?_
  refine r_icmp_ge (tgt := 30) C dX7_mostInOne_10 (by decide) ?_ ?_
  · refine r_iload_n C dX7_mostInOne_30 rfl rfl ?_
    exact r_ireturn C dX7_mostInOne_31
  refine r_iload_n C dX7_mostInOne_13 rfl rfl ?_
  refine r_aload_n C dX7_mostInOne_14 rfl rfl ?_
  refine r_get (v := .inr (44, 0)) C fl_X7_15 dX7_mostInOne_15 rfl ?_
  refine r_iload_n C dX7_mostInOne_18 rfl rfl ?_
  refine r_iald C rfl dX7_mostInOne_19 (fun x4 => ?_)
  refine r_mmax C im_X7_55 (by decide) (Nat.le_of_ble_eq_true rfl) dX7_mostInOne_20 ?_
  refine r_let (fun x5 => ?_)
  refine r_istore_n (lv' := [some (.inr (7, 0)), some (.inl x5), some (.inl v2)]) C dX7_mostInOne_23 rfl (by decide) rfl ?_
  refine r_iinc (v := 1) C dX7_mostInOne_24 (by decide) rfl (by decide) (fun x6 => ?_)
  show gw X eI _ [some (.inr (7, 0)), some (.inl x5), some (.inl x6)] _ _ _
  refine r_goto (tgt := 4) C dX7_mostInOne_27 (by decide) ?_
  exact r_weak (lv' := [some (.inr (7, 0)), some (.inl x5), some (.inl x6)]) ⟨rfl, rfl, rfl, trivial⟩ (hk4 _ _ _)
