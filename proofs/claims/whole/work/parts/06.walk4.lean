theorem dX9_victim_0 : decode cX9_victim 0 = .ok (.iload_n 1, 1) := by decide +kernel
theorem dX9_victim_1 : decode cX9_victim 1 = .ok (.invokestatic 212, 3) := by decide +kernel
theorem dX9_victim_4 : decode cX9_victim 4 = .ok (.ifCond .ne 5, 3) := by decide +kernel
theorem dX9_victim_7 : decode cX9_victim 7 = .ok (.iconst (-1), 1) := by decide +kernel
theorem dX9_victim_8 : decode cX9_victim 8 = .ok (.ireturn, 1) := by decide +kernel
theorem dX9_victim_9 : decode cX9_victim 9 = .ok (.aload_n 0, 1) := by decide +kernel
theorem dX9_victim_10 : decode cX9_victim 10 = .ok (.iload_n 1, 1) := by decide +kernel
theorem dX9_victim_11 : decode cX9_victim 11 = .ok (.aload_n 0, 1) := by decide +kernel
theorem dX9_victim_12 : decode cX9_victim 12 = .ok (.getfield 7, 3) := by decide +kernel
theorem dX9_victim_15 : decode cX9_victim 15 = .ok (.bipush 38, 2) := by decide +kernel
theorem dX9_victim_17 : decode cX9_victim 17 = .ok (.iaload, 1) := by decide +kernel
theorem dX9_victim_18 : decode cX9_victim 18 = .ok (.invokevirtual 193, 3) := by decide +kernel
theorem dX9_victim_21 : decode cX9_victim 21 = .ok (.aload_n 0, 1) := by decide +kernel
theorem dX9_victim_22 : decode cX9_victim 22 = .ok (.getfield 171, 3) := by decide +kernel
theorem dX9_victim_25 : decode cX9_victim 25 = .ok (.ifCond .ne 7, 3) := by decide +kernel
theorem dX9_victim_28 : decode cX9_victim 28 = .ok (.iconst (-1), 1) := by decide +kernel
theorem dX9_victim_29 : decode cX9_victim 29 = .ok (.goto 16, 3) := by decide +kernel
theorem dX9_victim_32 : decode cX9_victim 32 = .ok (.aload_n 0, 1) := by decide +kernel
theorem dX9_victim_33 : decode cX9_victim 33 = .ok (.aload_n 0, 1) := by decide +kernel
theorem dX9_victim_34 : decode cX9_victim 34 = .ok (.getfield 32, 3) := by decide +kernel
theorem dX9_victim_37 : decode cX9_victim 37 = .ok (.aload_n 0, 1) := by decide +kernel
theorem dX9_victim_38 : decode cX9_victim 38 = .ok (.invokevirtual 180, 3) := by decide +kernel
theorem dX9_victim_41 : decode cX9_victim 41 = .ok (.iaload, 1) := by decide +kernel
theorem dX9_victim_42 : decode cX9_victim 42 = .ok (.invokevirtual 102, 3) := by decide +kernel
theorem dX9_victim_45 : decode cX9_victim 45 = .ok (.ireturn, 1) := by decide +kernel
def X9_victim (a1 : Int32) (m : gM) : Option (Int32 × gM) :=
  gCall (X9_isLine a1 m) (fun (r2 : Bool) (m1 : gM) => if r2 = true then (gAt m1 47 0 38 (fun (x3 : Int32) => gCall (X9_layFound a1 x3 m1) (fun (r5 : Unit) (m4 : gM) => if (m4 9 0 18) = 0 then (some ((-1), m4)) else (gCall (X9_taken m4) (fun (r7 : Int32) (m6 : gM) => gAt m6 52 0 r7 (fun (x8 : Int32) => gCall (X9_lineAt x8 m6) (fun (r10 : Int32) (m9 : gM) => some (r10, m9)))))))) else (some ((-1), m1)))
set_option maxRecDepth 100000 in
set_option maxHeartbeats 4000000 in
theorem c_X9_victim (a1 : Int32) (m : gM) : gCon eI yX9_victim cX9_victim 2 (some .int) 5 [.inr (9, 0), .inl a1] m (X9_victim a1 m) := by
  refine gCon.of (lv := [some (.inr (9, 0)), some (.inl a1)]) (by decide +kernel) (Nat.le_of_ble_eq_true rfl) rfl (fun X C => ?_)
  unfold X9_victim
  refine r_iload_n C dX9_victim_0 rfl rfl ?_
  refine r_insB (As := [.inl a1]) (st := []) C il_X9_212 co_X9_isLine (c_X9_isLine a1 m) (by decide) (by decide) rfl rfl (Nat.le_of_ble_eq_true rfl) dX9_victim_1 (fun r2 m1 => ?_)
  refine r_ifneB (tgt := 9) C dX9_victim_4 (by decide) ?_ ?_
  · refine r_aload_n C dX9_victim_9 rfl rfl ?_
    refine r_iload_n C dX9_victim_10 rfl rfl ?_
    refine r_aload_n C dX9_victim_11 rfl rfl ?_
    refine r_get (v := .inr (47, 0)) C fl_X9_7 dX9_victim_12 rfl ?_
    refine r_bipush (v := 38) C dX9_victim_15 (by decide) ?_
    refine r_iald C rfl dX9_victim_17 (fun x3 => ?_)
    refine r_invU (t := 9) (kb := 0) (As := [.inl a1, .inl x3]) (st := []) C il_X9_193 co_X9_layFound (by decide) rfl (c_X9_layFound a1 x3 m1) (by decide) (by decide) rfl rfl (Nat.le_of_ble_eq_true rfl) dX9_victim_18 (fun r5 m4 => ?_)
    refine r_aload_n C dX9_victim_21 rfl rfl ?_
    refine r_get (v := .inl (m4 9 0 18)) C fl_X9_171 dX9_victim_22 rfl ?_
    refine r_if_ne (tgt := 32) C dX9_victim_25 (by decide) ?_ ?_
    · refine r_aload_n C dX9_victim_32 rfl rfl ?_
      refine r_aload_n C dX9_victim_33 rfl rfl ?_
      refine r_get (v := .inr (52, 0)) C fl_X9_32 dX9_victim_34 rfl ?_
      refine r_aload_n C dX9_victim_37 rfl rfl ?_
      refine r_invI (t := 9) (kb := 0) (As := []) (st := [.inr (52, 0), .inr (9, 0)]) C il_X9_180 co_X9_taken (by decide) rfl (c_X9_taken m4) (by decide) (by decide) rfl rfl (Nat.le_of_ble_eq_true rfl) dX9_victim_38 (fun r7 m6 => ?_)
      refine r_iald C rfl dX9_victim_41 (fun x8 => ?_)
      refine r_invI (t := 9) (kb := 0) (As := [.inl x8]) (st := []) C il_X9_102 co_X9_lineAt (by decide) rfl (c_X9_lineAt x8 m6) (by decide) (by decide) rfl rfl (Nat.le_of_ble_eq_true rfl) dX9_victim_42 (fun r10 m9 => ?_)
      exact r_ireturn C dX9_victim_45
    refine r_iconst (v := (-1)) C dX9_victim_28 (by decide) ?_
    refine r_goto (tgt := 45) C dX9_victim_29 (by decide) ?_
    exact r_ireturn C dX9_victim_45
  refine r_iconst (v := (-1)) C dX9_victim_7 (by decide) ?_
  exact r_ireturn C dX9_victim_8
theorem dX9_moved_0 : decode cX9_moved 0 = .ok (.iload_n 1, 1) := by decide +kernel
theorem dX9_moved_1 : decode cX9_moved 1 = .ok (.invokestatic 212, 3) := by decide +kernel
theorem dX9_moved_4 : decode cX9_moved 4 = .ok (.ifCond .eq 8, 3) := by decide +kernel
theorem dX9_moved_7 : decode cX9_moved 7 = .ok (.iload_n 2, 1) := by decide +kernel
theorem dX9_moved_8 : decode cX9_moved 8 = .ok (.iconst (-1), 1) := by decide +kernel
theorem dX9_moved_9 : decode cX9_moved 9 = .ok (.if_icmp .ge 5, 3) := by decide +kernel
theorem dX9_moved_12 : decode cX9_moved 12 = .ok (.iconst (-1), 1) := by decide +kernel
theorem dX9_moved_13 : decode cX9_moved 13 = .ok (.ireturn, 1) := by decide +kernel
theorem dX9_moved_14 : decode cX9_moved 14 = .ok (.aload_n 0, 1) := by decide +kernel
theorem dX9_moved_15 : decode cX9_moved 15 = .ok (.iload_n 1, 1) := by decide +kernel
theorem dX9_moved_16 : decode cX9_moved 16 = .ok (.aload_n 0, 1) := by decide +kernel
theorem dX9_moved_17 : decode cX9_moved 17 = .ok (.getfield 7, 3) := by decide +kernel
theorem dX9_moved_20 : decode cX9_moved 20 = .ok (.bipush 38, 2) := by decide +kernel
theorem dX9_moved_22 : decode cX9_moved 22 = .ok (.iaload, 1) := by decide +kernel
theorem dX9_moved_23 : decode cX9_moved 23 = .ok (.invokevirtual 193, 3) := by decide +kernel
theorem dX9_moved_26 : decode cX9_moved 26 = .ok (.iconst 0, 1) := by decide +kernel
theorem dX9_moved_27 : decode cX9_moved 27 = .ok (.istore_n 3, 1) := by decide +kernel
theorem dX9_moved_28 : decode cX9_moved 28 = .ok (.aload_n 0, 1) := by decide +kernel
theorem dX9_moved_29 : decode cX9_moved 29 = .ok (.getfield 171, 3) := by decide +kernel
theorem dX9_moved_32 : decode cX9_moved 32 = .ok (.ifCond .ne 7, 3) := by decide +kernel
theorem dX9_moved_35 : decode cX9_moved 35 = .ok (.iconst (-1), 1) := by decide +kernel
theorem dX9_moved_36 : decode cX9_moved 36 = .ok (.goto 7, 3) := by decide +kernel
theorem dX9_moved_39 : decode cX9_moved 39 = .ok (.aload_n 0, 1) := by decide +kernel
theorem dX9_moved_40 : decode cX9_moved 40 = .ok (.invokevirtual 180, 3) := by decide +kernel
theorem dX9_moved_43 : decode cX9_moved 43 = .ok (.istore 4, 2) := by decide +kernel
theorem dX9_moved_45 : decode cX9_moved 45 = .ok (.iload 4, 2) := by decide +kernel
theorem dX9_moved_47 : decode cX9_moved 47 = .ok (.iconst (-1), 1) := by decide +kernel
theorem dX9_moved_48 : decode cX9_moved 48 = .ok (.if_icmp .eq 51, 3) := by decide +kernel
theorem dX9_moved_51 : decode cX9_moved 51 = .ok (.aload_n 0, 1) := by decide +kernel
theorem dX9_moved_52 : decode cX9_moved 52 = .ok (.getfield 35, 3) := by decide +kernel
theorem dX9_moved_55 : decode cX9_moved 55 = .ok (.iload 4, 2) := by decide +kernel
theorem dX9_moved_57 : decode cX9_moved 57 = .ok (.iaload, 1) := by decide +kernel
theorem dX9_moved_58 : decode cX9_moved 58 = .ok (.iconst (-1), 1) := by decide +kernel
theorem dX9_moved_59 : decode cX9_moved 59 = .ok (.if_icmp .eq 40, 3) := by decide +kernel
theorem dX9_moved_62 : decode cX9_moved 62 = .ok (.iload_n 3, 1) := by decide +kernel
theorem dX9_moved_63 : decode cX9_moved 63 = .ok (.iload_n 2, 1) := by decide +kernel
theorem dX9_moved_64 : decode cX9_moved 64 = .ok (.if_icmp .ne 20, 3) := by decide +kernel
theorem dX9_moved_67 : decode cX9_moved 67 = .ok (.aload_n 0, 1) := by decide +kernel
theorem dX9_moved_68 : decode cX9_moved 68 = .ok (.aload_n 0, 1) := by decide +kernel
theorem dX9_moved_69 : decode cX9_moved 69 = .ok (.getfield 32, 3) := by decide +kernel
theorem dX9_moved_72 : decode cX9_moved 72 = .ok (.aload_n 0, 1) := by decide +kernel
theorem dX9_moved_73 : decode cX9_moved 73 = .ok (.getfield 35, 3) := by decide +kernel
theorem dX9_moved_76 : decode cX9_moved 76 = .ok (.iload 4, 2) := by decide +kernel
theorem dX9_moved_78 : decode cX9_moved 78 = .ok (.iaload, 1) := by decide +kernel
theorem dX9_moved_79 : decode cX9_moved 79 = .ok (.iaload, 1) := by decide +kernel
theorem dX9_moved_80 : decode cX9_moved 80 = .ok (.invokevirtual 102, 3) := by decide +kernel
theorem dX9_moved_83 : decode cX9_moved 83 = .ok (.ireturn, 1) := by decide +kernel
theorem dX9_moved_84 : decode cX9_moved 84 = .ok (.iinc 3 1, 3) := by decide +kernel
theorem dX9_moved_87 : decode cX9_moved 87 = .ok (.aload_n 0, 1) := by decide +kernel
theorem dX9_moved_88 : decode cX9_moved 88 = .ok (.getfield 35, 3) := by decide +kernel
theorem dX9_moved_91 : decode cX9_moved 91 = .ok (.iload 4, 2) := by decide +kernel
theorem dX9_moved_93 : decode cX9_moved 93 = .ok (.iaload, 1) := by decide +kernel
theorem dX9_moved_94 : decode cX9_moved 94 = .ok (.istore 4, 2) := by decide +kernel
theorem dX9_moved_96 : decode cX9_moved 96 = .ok (.goto (-51), 3) := by decide +kernel
theorem dX9_moved_99 : decode cX9_moved 99 = .ok (.iload_n 2, 1) := by decide +kernel
theorem dX9_moved_100 : decode cX9_moved 100 = .ok (.iconst (-1), 1) := by decide +kernel
theorem dX9_moved_101 : decode cX9_moved 101 = .ok (.if_icmp .ne 7, 3) := by decide +kernel
theorem dX9_moved_104 : decode cX9_moved 104 = .ok (.iload_n 3, 1) := by decide +kernel
theorem dX9_moved_105 : decode cX9_moved 105 = .ok (.goto 4, 3) := by decide +kernel
theorem dX9_moved_108 : decode cX9_moved 108 = .ok (.iconst (-1), 1) := by decide +kernel
theorem dX9_moved_109 : decode cX9_moved 109 = .ok (.ireturn, 1) := by decide +kernel
def X9_moved_b45 (a2 : Int32) (j67 : Int32 → gM → Option (Int32 × gM)) (j99 : Int32 → gM → Option (Int32 × gM)) (v16 v17 : Int32) (m18 : gM) (k45 : Int32 → Int32 → gM → Option (Int32 × gM)) : Option (Int32 × gM) :=
  if v17 = (-1) then (j99 v16 m18) else (gAt m18 53 0 v17 (fun (x19 : Int32) => if x19 = (-1) then (j99 v16 m18) else (if v16 = a2 then (j67 v17 m18) else (gLet (v16 + 1) (fun (x20 : Int32) => gAt m18 53 0 v17 (fun (x21 : Int32) => k45 x20 x21 m18))))))
def X9_moved (a1 : Int32) (a2 : Int32) (m : gM) : Option (Int32 × gM) :=
  gCall (X9_isLine a1 m) (fun (r2 : Bool) (m1 : gM) => if r2 = true then (if (-1) ≤ a2 then (gAt m1 47 0 38 (fun (x3 : Int32) => gCall (X9_layFound a1 x3 m1) (fun (r5 : Unit) (m4 : gM) => gJ1 (fun (w6 : Int32) (m7 : gM) => gJ1 (fun (v8 : Int32) (m9 : gM) => gAt m9 53 0 v8 (fun (x10 : Int32) => gAt m9 52 0 x10 (fun (x11 : Int32) => gCall (X9_lineAt x11 m9) (fun (r13 : Int32) (m12 : gM) => some (r13, m12))))) (fun (j67 : Int32 → gM → Option (Int32 × gM)) => gJ1 (fun (v14 : Int32) (m15 : gM) => if a2 = (-1) then (some (v14, m15)) else (some ((-1), m15))) (fun (j99 : Int32 → gM → Option (Int32 × gM)) => gL2 FU (X9_moved_b45 a2 j67 j99) 0 w6 m7))) (fun (j43 : Int32 → gM → Option (Int32 × gM)) => if (m4 9 0 18) = 0 then (j43 (-1) m4) else (gCall (X9_taken m4) (fun (r23 : Int32) (m22 : gM) => j43 r23 m22)))))) else (some ((-1), m1))) else (some ((-1), m1)))
set_option maxRecDepth 100000 in
set_option maxHeartbeats 4000000 in
theorem c_X9_moved (a1 : Int32) (a2 : Int32) (m : gM) : gCon eI yX9_moved cX9_moved 5 (some .int) 5 [.inr (9, 0), .inl a1, .inl a2] m (X9_moved a1 a2 m) := by
  refine gCon.of (lv := [some (.inr (9, 0)), some (.inl a1), some (.inl a2), none, none]) (by decide +kernel) (Nat.le_of_ble_eq_true rfl) rfl (fun X C => ?_)
  unfold X9_moved
  refine r_iload_n C dX9_moved_0 rfl rfl ?_
  refine r_insB (As := [.inl a1]) (st := []) C il_X9_212 co_X9_isLine (c_X9_isLine a1 m) (by decide) (by decide) rfl rfl (Nat.le_of_ble_eq_true rfl) dX9_moved_1 (fun r2 m1 => ?_)
  refine r_ifeqB (tgt := 12) C dX9_moved_4 (by decide) ?_ ?_
  · refine r_iconst (v := (-1)) C dX9_moved_12 (by decide) ?_
    exact r_ireturn C dX9_moved_13
  refine r_iload_n C dX9_moved_7 rfl rfl ?_
  refine r_iconst (v := (-1)) C dX9_moved_8 (by decide) ?_
  refine r_icmp_ge (tgt := 14) C dX9_moved_9 (by decide) ?_ ?_
  · refine r_aload_n C dX9_moved_14 rfl rfl ?_
    refine r_iload_n C dX9_moved_15 rfl rfl ?_
    refine r_aload_n C dX9_moved_16 rfl rfl ?_
    refine r_get (v := .inr (47, 0)) C fl_X9_7 dX9_moved_17 rfl ?_
    refine r_bipush (v := 38) C dX9_moved_20 (by decide) ?_
    refine r_iald C rfl dX9_moved_22 (fun x3 => ?_)
    refine r_invU (t := 9) (kb := 0) (As := [.inl a1, .inl x3]) (st := []) C il_X9_193 co_X9_layFound (by decide) rfl (c_X9_layFound a1 x3 m1) (by decide) (by decide) rfl rfl (Nat.le_of_ble_eq_true rfl) dX9_moved_23 (fun r5 m4 => ?_)
    refine r_iconst (v := 0) C dX9_moved_26 (by decide) ?_
    refine r_istore_n (lv' := [some (.inr (9, 0)), some (.inl a1), some (.inl a2), some (.inl 0), none]) C dX9_moved_27 rfl (by decide) rfl ?_
    refine r_aload_n C dX9_moved_28 rfl rfl ?_
    refine r_get (v := .inl (m4 9 0 18)) C fl_X9_171 dX9_moved_29 rfl ?_
    refine r_j1 43 (fun w6 => [some (.inr (9, 0)), none, some (.inl a2), some (.inl 0), none]) (fun w6 => [.inl w6]) (fun w6 m7 => ?_) (fun j43 hj43 => ?_)
    · refine r_istore (lv' := [some (.inr (9, 0)), none, some (.inl a2), some (.inl 0), some (.inl w6)]) C dX9_moved_43 (by decide) rfl ?_
      refine r_j1 67 (fun v8 => [some (.inr (9, 0)), none, none, none, some (.inl v8)]) (fun v8 => []) (fun v8 m9 => ?_) (fun j67 hj67 => ?_)
      · refine r_aload_n C dX9_moved_67 rfl rfl ?_
        refine r_aload_n C dX9_moved_68 rfl rfl ?_
        refine r_get (v := .inr (52, 0)) C fl_X9_32 dX9_moved_69 rfl ?_
        refine r_aload_n C dX9_moved_72 rfl rfl ?_
        refine r_get (v := .inr (53, 0)) C fl_X9_35 dX9_moved_73 rfl ?_
        refine r_iload C dX9_moved_76 rfl ?_
        refine r_iald C rfl dX9_moved_78 (fun x10 => ?_)
        refine r_iald C rfl dX9_moved_79 (fun x11 => ?_)
        refine r_invI (t := 9) (kb := 0) (As := [.inl x11]) (st := []) C il_X9_102 co_X9_lineAt (by decide) rfl (c_X9_lineAt x11 m9) (by decide) (by decide) rfl rfl (Nat.le_of_ble_eq_true rfl) dX9_moved_80 (fun r13 m12 => ?_)
        exact r_ireturn C dX9_moved_83
      refine r_j1 99 (fun v14 => [none, none, some (.inl a2), some (.inl v14), none]) (fun v14 => []) (fun v14 m15 => ?_) (fun j99 hj99 => ?_)
      · refine r_iload_n C dX9_moved_99 rfl rfl ?_
        refine r_iconst (v := (-1)) C dX9_moved_100 (by decide) ?_
        refine r_icmp_ne (tgt := 108) C dX9_moved_101 (by decide) ?_ ?_
        · refine r_iconst (v := (-1)) C dX9_moved_108 (by decide) ?_
          exact r_ireturn C dX9_moved_109
        refine r_iload_n C dX9_moved_104 rfl rfl ?_
        refine r_goto (tgt := 109) C dX9_moved_105 (by decide) ?_
        exact r_ireturn C dX9_moved_109
      refine r_weak (lv' := [some (.inr (9, 0)), none, some (.inl a2), some (.inl 0), some (.inl w6)]) ⟨rfl, rfl, rfl, rfl, trivial⟩ ?_
      refine r_l2 (pj := 45) (fun v16 v17 => [some (.inr (9, 0)), none, some (.inl a2), some (.inl v16), some (.inl v17)]) (fun v16 v17 m18 k45 hk45 => ?_) _ _ _ _
      unfold X9_moved_b45
      refine r_iload C dX9_moved_45 rfl ?_
      refine r_iconst (v := (-1)) C dX9_moved_47 (by decide) ?_
      refine r_icmp_eq (tgt := 99) C dX9_moved_48 (by decide) ?_ ?_
      · exact r_weak (lv' := [none, none, some (.inl a2), some (.inl v16), none]) ⟨rfl, rfl, trivial⟩ (hj99 _ _)
      refine r_aload_n C dX9_moved_51 rfl rfl ?_
      refine r_get (v := .inr (53, 0)) C fl_X9_35 dX9_moved_52 rfl ?_
      refine r_iload C dX9_moved_55 rfl ?_
      refine r_iald C rfl dX9_moved_57 (fun x19 => ?_)
      refine r_iconst (v := (-1)) C dX9_moved_58 (by decide) ?_
      refine r_icmp_eq (tgt := 99) C dX9_moved_59 (by decide) ?_ ?_
      · exact r_weak (lv' := [none, none, some (.inl a2), some (.inl v16), none]) ⟨rfl, rfl, trivial⟩ (hj99 _ _)
      refine r_iload_n C dX9_moved_62 rfl rfl ?_
      refine r_iload_n C dX9_moved_63 rfl rfl ?_
      refine r_icmp_ne (tgt := 84) C dX9_moved_64 (by decide) ?_ ?_
      · refine r_iinc (v := 1) C dX9_moved_84 (by decide) rfl (by decide) (fun x20 => ?_)
        show gw X eI _ [some (.inr (9, 0)), none, some (.inl a2), some (.inl x20), some (.inl v17)] _ _ _
        refine r_aload_n C dX9_moved_87 rfl rfl ?_
        refine r_get (v := .inr (53, 0)) C fl_X9_35 dX9_moved_88 rfl ?_
        refine r_iload C dX9_moved_91 rfl ?_
        refine r_iald C rfl dX9_moved_93 (fun x21 => ?_)
        refine r_istore (lv' := [some (.inr (9, 0)), none, some (.inl a2), some (.inl x20), some (.inl x21)]) C dX9_moved_94 (by decide) rfl ?_
        refine r_goto (tgt := 45) C dX9_moved_96 (by decide) ?_
        exact r_weak (lv' := [some (.inr (9, 0)), none, some (.inl a2), some (.inl x20), some (.inl x21)]) ⟨rfl, rfl, rfl, rfl, trivial⟩ (hk45 _ _ _)
      exact r_weak (lv' := [some (.inr (9, 0)), none, none, none, some (.inl v17)]) ⟨rfl, rfl, trivial⟩ (hj67 _ _)
    refine r_if_ne (tgt := 39) C dX9_moved_32 (by decide) ?_ ?_
    · refine r_aload_n C dX9_moved_39 rfl rfl ?_
      refine r_invI (t := 9) (kb := 0) (As := []) (st := []) C il_X9_180 co_X9_taken (by decide) rfl (c_X9_taken m4) (by decide) (by decide) rfl rfl (Nat.le_of_ble_eq_true rfl) dX9_moved_40 (fun r23 m22 => ?_)
      exact r_weak (lv' := [some (.inr (9, 0)), none, some (.inl a2), some (.inl 0), none]) ⟨rfl, rfl, rfl, trivial⟩ (hj43 _ _)
    refine r_iconst (v := (-1)) C dX9_moved_35 (by decide) ?_
    refine r_goto (tgt := 43) C dX9_moved_36 (by decide) ?_
    exact r_weak (lv' := [some (.inr (9, 0)), none, some (.inl a2), some (.inl 0), none]) ⟨rfl, rfl, rfl, trivial⟩ (hj43 _ _)
  refine r_iconst (v := (-1)) C dX9_moved_12 (by decide) ?_
  exact r_ireturn C dX9_moved_13
theorem dX9_length_0 : decode cX9_length 0 = .ok (.aload_n 0, 1) := by decide +kernel
theorem dX9_length_1 : decode cX9_length 1 = .ok (.iload_n 1, 1) := by decide +kernel
theorem dX9_length_2 : decode cX9_length 2 = .ok (.invokevirtual 255, 3) := by decide +kernel
theorem dX9_length_5 : decode cX9_length 5 = .ok (.ifCond .eq 11, 3) := by decide +kernel
theorem dX9_length_8 : decode cX9_length 8 = .ok (.aload_n 0, 1) := by decide +kernel
theorem dX9_length_9 : decode cX9_length 9 = .ok (.iload_n 1, 1) := by decide +kernel
theorem dX9_length_10 : decode cX9_length 10 = .ok (.invokevirtual 246, 3) := by decide +kernel
theorem dX9_length_13 : decode cX9_length 13 = .ok (.goto 4, 3) := by decide +kernel
theorem dX9_length_16 : decode cX9_length 16 = .ok (.iconst (-1), 1) := by decide +kernel
theorem dX9_length_17 : decode cX9_length 17 = .ok (.ireturn, 1) := by decide +kernel
def X9_length (a1 : Int32) (m : gM) : Option (Int32 × gM) :=
  gCall (X9_isTrace a1 m) (fun (r2 : Bool) (m1 : gM) => if r2 = true then (gCall (X9_lengthOf a1 m1) (fun (r4 : Int32) (m3 : gM) => some (r4, m3))) else (some ((-1), m1)))
set_option maxRecDepth 100000 in
set_option maxHeartbeats 4000000 in
theorem c_X9_length (a1 : Int32) (m : gM) : gCon eI yX9_length cX9_length 2 (some .int) 2 [.inr (9, 0), .inl a1] m (X9_length a1 m) := by
  refine gCon.of (lv := [some (.inr (9, 0)), some (.inl a1)]) (by decide +kernel) (Nat.le_of_ble_eq_true rfl) rfl (fun X C => ?_)
  unfold X9_length
  refine r_aload_n C dX9_length_0 rfl rfl ?_
  refine r_iload_n C dX9_length_1 rfl rfl ?_
  refine r_invB (t := 9) (kb := 0) (As := [.inl a1]) (st := []) C il_X9_255 co_X9_isTrace (by decide) rfl (c_X9_isTrace a1 m) (by decide) (by decide) rfl rfl (Nat.le_of_ble_eq_true rfl) dX9_length_2 (fun r2 m1 => ?_)
  refine r_ifeqB (tgt := 16) C dX9_length_5 (by decide) ?_ ?_
  · refine r_iconst (v := (-1)) C dX9_length_16 (by decide) ?_
    exact r_ireturn C dX9_length_17
  refine r_aload_n C dX9_length_8 rfl rfl ?_
  refine r_iload_n C dX9_length_9 rfl rfl ?_
  refine r_invI (t := 9) (kb := 0) (As := [.inl a1]) (st := []) C il_X9_246 co_X9_lengthOf (by decide) rfl (c_X9_lengthOf a1 m1) (by decide) (by decide) rfl rfl (Nat.le_of_ble_eq_true rfl) dX9_length_10 (fun r4 m3 => ?_)
  refine r_goto (tgt := 17) C dX9_length_13 (by decide) ?_
  exact r_ireturn C dX9_length_17
theorem dX9_step_0 : decode cX9_step 0 = .ok (.aload_n 0, 1) := by decide +kernel
theorem dX9_step_1 : decode cX9_step 1 = .ok (.iload_n 1, 1) := by decide +kernel
theorem dX9_step_2 : decode cX9_step 2 = .ok (.invokevirtual 255, 3) := by decide +kernel
theorem dX9_step_5 : decode cX9_step 5 = .ok (.ifCond .eq 27, 3) := by decide +kernel
theorem dX9_step_8 : decode cX9_step 8 = .ok (.iload_n 2, 1) := by decide +kernel
theorem dX9_step_9 : decode cX9_step 9 = .ok (.iconst 0, 1) := by decide +kernel
theorem dX9_step_10 : decode cX9_step 10 = .ok (.aload_n 0, 1) := by decide +kernel
theorem dX9_step_11 : decode cX9_step 11 = .ok (.iload_n 1, 1) := by decide +kernel
theorem dX9_step_12 : decode cX9_step 12 = .ok (.invokevirtual 246, 3) := by decide +kernel
theorem dX9_step_15 : decode cX9_step 15 = .ok (.iconst 1, 1) := by decide +kernel
theorem dX9_step_16 : decode cX9_step 16 = .ok (.isub, 1) := by decide +kernel
theorem dX9_step_17 : decode cX9_step 17 = .ok (.invokestatic 77, 3) := by decide +kernel
theorem dX9_step_20 : decode cX9_step 20 = .ok (.ifCond .eq 12, 3) := by decide +kernel
theorem dX9_step_23 : decode cX9_step 23 = .ok (.aload_n 0, 1) := by decide +kernel
theorem dX9_step_24 : decode cX9_step 24 = .ok (.iload_n 1, 1) := by decide +kernel
theorem dX9_step_25 : decode cX9_step 25 = .ok (.iload_n 2, 1) := by decide +kernel
theorem dX9_step_26 : decode cX9_step 26 = .ok (.invokevirtual 252, 3) := by decide +kernel
theorem dX9_step_29 : decode cX9_step 29 = .ok (.goto 4, 3) := by decide +kernel
theorem dX9_step_32 : decode cX9_step 32 = .ok (.iconst (-1), 1) := by decide +kernel
theorem dX9_step_33 : decode cX9_step 33 = .ok (.ireturn, 1) := by decide +kernel
def X9_step (a1 : Int32) (a2 : Int32) (m : gM) : Option (Int32 × gM) :=
  gCall (X9_isTrace a1 m) (fun (r2 : Bool) (m1 : gM) => if r2 = true then (gCall (X9_lengthOf a1 m1) (fun (r4 : Int32) (m3 : gM) => gCall (X9_isIn a2 0 (r4 - 1) m3) (fun (r6 : Bool) (m5 : gM) => if r6 = true then (gCall (X9_lineOf a1 a2 m5) (fun (r8 : Int32) (m7 : gM) => some (r8, m7))) else (some ((-1), m5))))) else (some ((-1), m1)))
set_option maxRecDepth 100000 in
set_option maxHeartbeats 4000000 in
theorem c_X9_step (a1 : Int32) (a2 : Int32) (m : gM) : gCon eI yX9_step cX9_step 3 (some .int) 2 [.inr (9, 0), .inl a1, .inl a2] m (X9_step a1 a2 m) := by
  refine gCon.of (lv := [some (.inr (9, 0)), some (.inl a1), some (.inl a2)]) (by decide +kernel) (Nat.le_of_ble_eq_true rfl) rfl (fun X C => ?_)
  unfold X9_step
  refine r_aload_n C dX9_step_0 rfl rfl ?_
  refine r_iload_n C dX9_step_1 rfl rfl ?_
  refine r_invB (t := 9) (kb := 0) (As := [.inl a1]) (st := []) C il_X9_255 co_X9_isTrace (by decide) rfl (c_X9_isTrace a1 m) (by decide) (by decide) rfl rfl (Nat.le_of_ble_eq_true rfl) dX9_step_2 (fun r2 m1 => ?_)
  refine r_ifeqB (tgt := 32) C dX9_step_5 (by decide) ?_ ?_
  · refine r_iconst (v := (-1)) C dX9_step_32 (by decide) ?_
    exact r_ireturn C dX9_step_33
  refine r_iload_n C dX9_step_8 rfl rfl ?_
  refine r_iconst (v := 0) C dX9_step_9 (by decide) ?_
  refine r_aload_n C dX9_step_10 rfl rfl ?_
  refine r_iload_n C dX9_step_11 rfl rfl ?_
  refine r_invI (t := 9) (kb := 0) (As := [.inl a1]) (st := [.inl 0, .inl a2]) C il_X9_246 co_X9_lengthOf (by decide) rfl (c_X9_lengthOf a1 m1) (by decide) (by decide) rfl rfl (Nat.le_of_ble_eq_true rfl) dX9_step_12 (fun r4 m3 => ?_)
  refine r_iconst (v := 1) C dX9_step_15 (by decide) ?_
  refine r_isub C dX9_step_16 ?_
  refine r_insB (As := [.inl a2, .inl 0, .inl (r4 - 1)]) (st := []) C il_X9_77 co_X9_isIn (c_X9_isIn a2 0 (r4 - 1) m3) (by decide) (by decide) rfl rfl (Nat.le_of_ble_eq_true rfl) dX9_step_17 (fun r6 m5 => ?_)
  refine r_ifeqB (tgt := 32) C dX9_step_20 (by decide) ?_ ?_
  · refine r_iconst (v := (-1)) C dX9_step_32 (by decide) ?_
    exact r_ireturn C dX9_step_33
  refine r_aload_n C dX9_step_23 rfl rfl ?_
  refine r_iload_n C dX9_step_24 rfl rfl ?_
  refine r_iload_n C dX9_step_25 rfl rfl ?_
  refine r_invI (t := 9) (kb := 0) (As := [.inl a1, .inl a2]) (st := []) C il_X9_252 co_X9_lineOf (by decide) rfl (c_X9_lineOf a1 a2 m5) (by decide) (by decide) rfl rfl (Nat.le_of_ble_eq_true rfl) dX9_step_26 (fun r8 m7 => ?_)
  refine r_goto (tgt := 33) C dX9_step_29 (by decide) ?_
  exact r_ireturn C dX9_step_33
theorem dX9_latest_0 : decode cX9_latest 0 = .ok (.iload_n 2, 1) := by decide +kernel
theorem dX9_latest_1 : decode cX9_latest 1 = .ok (.iconst 1, 1) := by decide +kernel
theorem dX9_latest_2 : decode cX9_latest 2 = .ok (.isub, 1) := by decide +kernel
theorem dX9_latest_3 : decode cX9_latest 3 = .ok (.istore_n 3, 1) := by decide +kernel
theorem dX9_latest_4 : decode cX9_latest 4 = .ok (.iload_n 3, 1) := by decide +kernel
theorem dX9_latest_5 : decode cX9_latest 5 = .ok (.ifCond .lt 24, 3) := by decide +kernel
theorem dX9_latest_8 : decode cX9_latest 8 = .ok (.aload_n 0, 1) := by decide +kernel
theorem dX9_latest_9 : decode cX9_latest 9 = .ok (.iload_n 1, 1) := by decide +kernel
theorem dX9_latest_10 : decode cX9_latest 10 = .ok (.iload_n 3, 1) := by decide +kernel
theorem dX9_latest_11 : decode cX9_latest 11 = .ok (.invokevirtual 252, 3) := by decide +kernel
theorem dX9_latest_14 : decode cX9_latest 14 = .ok (.aload_n 0, 1) := by decide +kernel
theorem dX9_latest_15 : decode cX9_latest 15 = .ok (.iload_n 1, 1) := by decide +kernel
theorem dX9_latest_16 : decode cX9_latest 16 = .ok (.iload_n 2, 1) := by decide +kernel
theorem dX9_latest_17 : decode cX9_latest 17 = .ok (.invokevirtual 252, 3) := by decide +kernel
theorem dX9_latest_20 : decode cX9_latest 20 = .ok (.if_icmp .eq 9, 3) := by decide +kernel
theorem dX9_latest_23 : decode cX9_latest 23 = .ok (.iinc 3 (-1), 3) := by decide +kernel
theorem dX9_latest_26 : decode cX9_latest 26 = .ok (.goto (-22), 3) := by decide +kernel
theorem dX9_latest_29 : decode cX9_latest 29 = .ok (.iload_n 3, 1) := by decide +kernel
theorem dX9_latest_30 : decode cX9_latest 30 = .ok (.ireturn, 1) := by decide +kernel
def X9_latest_b4 (a1 : Int32) (a2 : Int32) (v2 : Int32) (m3 : gM) (k4 : Int32 → gM → Option (Int32 × gM)) : Option (Int32 × gM) :=
  if v2 < 0 then (some (v2, m3)) else (gCall (X9_lineOf a1 v2 m3) (fun (r5 : Int32) (m4 : gM) => gCall (X9_lineOf a1 a2 m4) (fun (r7 : Int32) (m6 : gM) => if r5 = r7 then (some (v2, m6)) else (gLet (v2 + (-1)) (fun (x8 : Int32) => k4 x8 m6)))))
def X9_latest (a1 : Int32) (a2 : Int32) (m : gM) : Option (Int32 × gM) :=
  gLet (a2 - 1) (fun (x1 : Int32) => gL1 FU (X9_latest_b4 a1 a2) x1 m)
set_option maxRecDepth 100000 in
set_option maxHeartbeats 4000000 in
theorem c_X9_latest (a1 : Int32) (a2 : Int32) (m : gM) : gCon eI yX9_latest cX9_latest 4 (some .int) 1 [.inr (9, 0), .inl a1, .inl a2] m (X9_latest a1 a2 m) := by
  refine gCon.of (lv := [some (.inr (9, 0)), some (.inl a1), some (.inl a2), none]) (by decide +kernel) (Nat.le_of_ble_eq_true rfl) rfl (fun X C => ?_)
  unfold X9_latest
  refine r_iload_n C dX9_latest_0 rfl rfl ?_
  refine r_iconst (v := 1) C dX9_latest_1 (by decide) ?_
  refine r_isub C dX9_latest_2 ?_
  refine r_let (fun x1 => ?_)
  refine r_istore_n (lv' := [some (.inr (9, 0)), some (.inl a1), some (.inl a2), some (.inl x1)]) C dX9_latest_3 rfl (by decide) rfl ?_
  refine r_weak (lv' := [some (.inr (9, 0)), some (.inl a1), some (.inl a2), some (.inl x1)]) ⟨rfl, rfl, rfl, rfl, trivial⟩ ?_
  refine r_l1 (pj := 4) (fun v2 => [some (.inr (9, 0)), some (.inl a1), some (.inl a2), some (.inl v2)]) (fun v2 m3 k4 hk4 => ?_) _ _ _
  unfold X9_latest_b4
  refine r_iload_n C dX9_latest_4 rfl rfl ?_
  refine r_if_lt (tgt := 29) C dX9_latest_5 (by decide) ?_ ?_
  · refine r_iload_n C dX9_latest_29 rfl rfl ?_
    exact r_ireturn C dX9_latest_30
  refine r_aload_n C dX9_latest_8 rfl rfl ?_
  refine r_iload_n C dX9_latest_9 rfl rfl ?_
  refine r_iload_n C dX9_latest_10 rfl rfl ?_
  refine r_invI (t := 9) (kb := 0) (As := [.inl a1, .inl v2]) (st := []) C il_X9_252 co_X9_lineOf (by decide) rfl (c_X9_lineOf a1 v2 m3) (by decide) (by decide) rfl rfl (Nat.le_of_ble_eq_true rfl) dX9_latest_11 (fun r5 m4 => ?_)
  refine r_aload_n C dX9_latest_14 rfl rfl ?_
  refine r_iload_n C dX9_latest_15 rfl rfl ?_
  refine r_iload_n C dX9_latest_16 rfl rfl ?_
  refine r_invI (t := 9) (kb := 0) (As := [.inl a1, .inl a2]) (st := [.inl r5]) C il_X9_252 co_X9_lineOf (by decide) rfl (c_X9_lineOf a1 a2 m4) (by decide) (by decide) rfl rfl (Nat.le_of_ble_eq_true rfl) dX9_latest_17 (fun r7 m6 => ?_)
  refine r_icmp_eq (tgt := 29) C dX9_latest_20 (by decide) ?_ ?_
  · refine r_iload_n C dX9_latest_29 rfl rfl ?_
    exact r_ireturn C dX9_latest_30
  refine r_iinc (v := (-1)) C dX9_latest_23 (by decide) rfl (by decide) (fun x8 => ?_)
  show gw X eI _ [some (.inr (9, 0)), some (.inl a1), some (.inl a2), some (.inl x8)] _ _ _
  refine r_goto (tgt := 4) C dX9_latest_26 (by decide) ?_
  exact r_weak (lv' := [some (.inr (9, 0)), some (.inl a1), some (.inl a2), some (.inl x8)]) ⟨rfl, rfl, rfl, rfl, trivial⟩ (hk4 _ _)
theorem dX9_wide_0 : decode cX9_wide 0 = .ok (.aload_n 0, 1) := by decide +kernel
theorem dX9_wide_1 : decode cX9_wide 1 = .ok (.iload_n 1, 1) := by decide +kernel
theorem dX9_wide_2 : decode cX9_wide 2 = .ok (.invokevirtual 255, 3) := by decide +kernel
theorem dX9_wide_5 : decode cX9_wide 5 = .ok (.ifCond .ne 5, 3) := by decide +kernel
theorem dX9_wide_8 : decode cX9_wide 8 = .ok (.iconst (-1), 1) := by decide +kernel
theorem dX9_wide_9 : decode cX9_wide 9 = .ok (.ireturn, 1) := by decide +kernel
theorem dX9_wide_10 : decode cX9_wide 10 = .ok (.iconst 0, 1) := by decide +kernel
theorem dX9_wide_11 : decode cX9_wide 11 = .ok (.istore_n 2, 1) := by decide +kernel
theorem dX9_wide_12 : decode cX9_wide 12 = .ok (.iconst 0, 1) := by decide +kernel
theorem dX9_wide_13 : decode cX9_wide 13 = .ok (.istore_n 3, 1) := by decide +kernel
theorem dX9_wide_14 : decode cX9_wide 14 = .ok (.iload_n 3, 1) := by decide +kernel
theorem dX9_wide_15 : decode cX9_wide 15 = .ok (.aload_n 0, 1) := by decide +kernel
theorem dX9_wide_16 : decode cX9_wide 16 = .ok (.iload_n 1, 1) := by decide +kernel
theorem dX9_wide_17 : decode cX9_wide 17 = .ok (.invokevirtual 246, 3) := by decide +kernel
theorem dX9_wide_20 : decode cX9_wide 20 = .ok (.if_icmp .ge 27, 3) := by decide +kernel
theorem dX9_wide_23 : decode cX9_wide 23 = .ok (.iload_n 2, 1) := by decide +kernel
theorem dX9_wide_24 : decode cX9_wide 24 = .ok (.aload_n 0, 1) := by decide +kernel
theorem dX9_wide_25 : decode cX9_wide 25 = .ok (.iload_n 1, 1) := by decide +kernel
theorem dX9_wide_26 : decode cX9_wide 26 = .ok (.iload_n 3, 1) := by decide +kernel
theorem dX9_wide_27 : decode cX9_wide 27 = .ok (.invokevirtual 322, 3) := by decide +kernel
theorem dX9_wide_30 : decode cX9_wide 30 = .ok (.iconst (-1), 1) := by decide +kernel
theorem dX9_wide_31 : decode cX9_wide 31 = .ok (.if_icmp .ne 7, 3) := by decide +kernel
theorem dX9_wide_34 : decode cX9_wide 34 = .ok (.iconst 1, 1) := by decide +kernel
theorem dX9_wide_35 : decode cX9_wide 35 = .ok (.goto 4, 3) := by decide +kernel
theorem dX9_wide_38 : decode cX9_wide 38 = .ok (.iconst 0, 1) := by decide +kernel
theorem dX9_wide_39 : decode cX9_wide 39 = .ok (.iadd, 1) := by decide +kernel
theorem dX9_wide_40 : decode cX9_wide 40 = .ok (.istore_n 2, 1) := by decide +kernel
theorem dX9_wide_41 : decode cX9_wide 41 = .ok (.iinc 3 1, 3) := by decide +kernel
theorem dX9_wide_44 : decode cX9_wide 44 = .ok (.goto (-30), 3) := by decide +kernel
theorem dX9_wide_47 : decode cX9_wide 47 = .ok (.iload_n 2, 1) := by decide +kernel
theorem dX9_wide_48 : decode cX9_wide 48 = .ok (.ireturn, 1) := by decide +kernel
def X9_wide_b14 (a1 : Int32) (v3 v4 : Int32) (m5 : gM) (k14 : Int32 → Int32 → gM → Option (Int32 × gM)) : Option (Int32 × gM) :=
  gCall (X9_lengthOf a1 m5) (fun (r7 : Int32) (m6 : gM) => if r7 ≤ v4 then (some (v3, m6)) else (gCall (X9_latest a1 v4 m6) (fun (r9 : Int32) (m8 : gM) => if r9 = (-1) then (gLet (v3 + 1) (fun (x12 : Int32) => gLet (v4 + 1) (fun (x13 : Int32) => k14 x12 x13 m8))) else (gLet (v3 + 0) (fun (x10 : Int32) => gLet (v4 + 1) (fun (x11 : Int32) => k14 x10 x11 m8))))))
def X9_wide (a1 : Int32) (m : gM) : Option (Int32 × gM) :=
  gCall (X9_isTrace a1 m) (fun (r2 : Bool) (m1 : gM) => if r2 = true then (gL2 FU (X9_wide_b14 a1) 0 0 m1) else (some ((-1), m1)))
set_option maxRecDepth 100000 in
set_option maxHeartbeats 4000000 in
theorem c_X9_wide (a1 : Int32) (m : gM) : gCon eI yX9_wide cX9_wide 4 (some .int) 2 [.inr (9, 0), .inl a1] m (X9_wide a1 m) := by
  refine gCon.of (lv := [some (.inr (9, 0)), some (.inl a1), none, none]) (by decide +kernel) (Nat.le_of_ble_eq_true rfl) rfl (fun X C => ?_)
  unfold X9_wide
  refine r_aload_n C dX9_wide_0 rfl rfl ?_
  refine r_iload_n C dX9_wide_1 rfl rfl ?_
  refine r_invB (t := 9) (kb := 0) (As := [.inl a1]) (st := []) C il_X9_255 co_X9_isTrace (by decide) rfl (c_X9_isTrace a1 m) (by decide) (by decide) rfl rfl (Nat.le_of_ble_eq_true rfl) dX9_wide_2 (fun r2 m1 => ?_)
  refine r_ifneB (tgt := 10) C dX9_wide_5 (by decide) ?_ ?_
  · refine r_iconst (v := 0) C dX9_wide_10 (by decide) ?_
    refine r_istore_n (lv' := [some (.inr (9, 0)), some (.inl a1), some (.inl 0), none]) C dX9_wide_11 rfl (by decide) rfl ?_
    refine r_iconst (v := 0) C dX9_wide_12 (by decide) ?_
    refine r_istore_n (lv' := [some (.inr (9, 0)), some (.inl a1), some (.inl 0), some (.inl 0)]) C dX9_wide_13 rfl (by decide) rfl ?_
    refine r_weak (lv' := [some (.inr (9, 0)), some (.inl a1), some (.inl 0), some (.inl 0)]) ⟨rfl, rfl, rfl, rfl, trivial⟩ ?_
    refine r_l2 (pj := 14) (fun v3 v4 => [some (.inr (9, 0)), some (.inl a1), some (.inl v3), some (.inl v4)]) (fun v3 v4 m5 k14 hk14 => ?_) _ _ _ _
    unfold X9_wide_b14
    refine r_iload_n C dX9_wide_14 rfl rfl ?_
    refine r_aload_n C dX9_wide_15 rfl rfl ?_
    refine r_iload_n C dX9_wide_16 rfl rfl ?_
    refine r_invI (t := 9) (kb := 0) (As := [.inl a1]) (st := [.inl v4]) C il_X9_246 co_X9_lengthOf (by decide) rfl (c_X9_lengthOf a1 m5) (by decide) (by decide) rfl rfl (Nat.le_of_ble_eq_true rfl) dX9_wide_17 (fun r7 m6 => ?_)
    refine r_icmp_ge (tgt := 47) C dX9_wide_20 (by decide) ?_ ?_
    · refine r_iload_n C dX9_wide_47 rfl rfl ?_
      exact r_ireturn C dX9_wide_48
    refine r_iload_n C dX9_wide_23 rfl rfl ?_
    refine r_aload_n C dX9_wide_24 rfl rfl ?_
    refine r_iload_n C dX9_wide_25 rfl rfl ?_
    refine r_iload_n C dX9_wide_26 rfl rfl ?_
    refine r_invI (t := 9) (kb := 0) (As := [.inl a1, .inl v4]) (st := [.inl v3]) C il_X9_322 co_X9_latest (by decide) rfl (c_X9_latest a1 v4 m6) (by decide) (by decide) rfl rfl (Nat.le_of_ble_eq_true rfl) dX9_wide_27 (fun r9 m8 => ?_)
    refine r_iconst (v := (-1)) C dX9_wide_30 (by decide) ?_
    refine r_icmp_ne (tgt := 38) C dX9_wide_31 (by decide) ?_ ?_
    · refine r_iconst (v := 0) C dX9_wide_38 (by decide) ?_
      refine r_iadd C dX9_wide_39 ?_
      refine r_let (fun x10 => ?_)
      refine r_istore_n (lv' := [some (.inr (9, 0)), some (.inl a1), some (.inl x10), some (.inl v4)]) C dX9_wide_40 rfl (by decide) rfl ?_
      refine r_iinc (v := 1) C dX9_wide_41 (by decide) rfl (by decide) (fun x11 => ?_)
      show gw X eI _ [some (.inr (9, 0)), some (.inl a1), some (.inl x10), some (.inl x11)] _ _ _
      refine r_goto (tgt := 14) C dX9_wide_44 (by decide) ?_
      exact r_weak (lv' := [some (.inr (9, 0)), some (.inl a1), some (.inl x10), some (.inl x11)]) ⟨rfl, rfl, rfl, rfl, trivial⟩ (hk14 _ _ _)
    refine r_iconst (v := 1) C dX9_wide_34 (by decide) ?_
    refine r_goto (tgt := 39) C dX9_wide_35 (by decide) ?_
    refine r_iadd C dX9_wide_39 ?_
    refine r_let (fun x12 => ?_)
    refine r_istore_n (lv' := [some (.inr (9, 0)), some (.inl a1), some (.inl x12), some (.inl v4)]) C dX9_wide_40 rfl (by decide) rfl ?_
    refine r_iinc (v := 1) C dX9_wide_41 (by decide) rfl (by decide) (fun x13 => ?_)
    show gw X eI _ [some (.inr (9, 0)), some (.inl a1), some (.inl x12), some (.inl x13)] _ _ _
    refine r_goto (tgt := 14) C dX9_wide_44 (by decide) ?_
    exact r_weak (lv' := [some (.inr (9, 0)), some (.inl a1), some (.inl x12), some (.inl x13)]) ⟨rfl, rfl, rfl, rfl, trivial⟩ (hk14 _ _ _)
  refine r_iconst (v := (-1)) C dX9_wide_8 (by decide) ?_
  exact r_ireturn C dX9_wide_9
theorem dX9_writes_0 : decode cX9_writes 0 = .ok (.aload_n 0, 1) := by decide +kernel
theorem dX9_writes_1 : decode cX9_writes 1 = .ok (.iload_n 1, 1) := by decide +kernel
theorem dX9_writes_2 : decode cX9_writes 2 = .ok (.invokevirtual 255, 3) := by decide +kernel
theorem dX9_writes_5 : decode cX9_writes 5 = .ok (.ifCond .ne 5, 3) := by decide +kernel
theorem dX9_writes_8 : decode cX9_writes 8 = .ok (.iconst (-1), 1) := by decide +kernel
theorem dX9_writes_9 : decode cX9_writes 9 = .ok (.ireturn, 1) := by decide +kernel
theorem dX9_writes_10 : decode cX9_writes 10 = .ok (.iconst 0, 1) := by decide +kernel
theorem dX9_writes_11 : decode cX9_writes 11 = .ok (.istore_n 2, 1) := by decide +kernel
theorem dX9_writes_12 : decode cX9_writes 12 = .ok (.iconst 0, 1) := by decide +kernel
theorem dX9_writes_13 : decode cX9_writes 13 = .ok (.istore_n 3, 1) := by decide +kernel
theorem dX9_writes_14 : decode cX9_writes 14 = .ok (.iload_n 3, 1) := by decide +kernel
theorem dX9_writes_15 : decode cX9_writes 15 = .ok (.aload_n 0, 1) := by decide +kernel
theorem dX9_writes_16 : decode cX9_writes 16 = .ok (.iload_n 1, 1) := by decide +kernel
theorem dX9_writes_17 : decode cX9_writes 17 = .ok (.invokevirtual 246, 3) := by decide +kernel
theorem dX9_writes_20 : decode cX9_writes 20 = .ok (.if_icmp .ge 27, 3) := by decide +kernel
theorem dX9_writes_23 : decode cX9_writes 23 = .ok (.iload_n 2, 1) := by decide +kernel
theorem dX9_writes_24 : decode cX9_writes 24 = .ok (.aload_n 0, 1) := by decide +kernel
theorem dX9_writes_25 : decode cX9_writes 25 = .ok (.iload_n 1, 1) := by decide +kernel
theorem dX9_writes_26 : decode cX9_writes 26 = .ok (.iload_n 3, 1) := by decide +kernel
theorem dX9_writes_27 : decode cX9_writes 27 = .ok (.invokevirtual 249, 3) := by decide +kernel
theorem dX9_writes_30 : decode cX9_writes 30 = .ok (.iconst (-1), 1) := by decide +kernel
theorem dX9_writes_31 : decode cX9_writes 31 = .ok (.if_icmp .ne 7, 3) := by decide +kernel
theorem dX9_writes_34 : decode cX9_writes 34 = .ok (.iconst 0, 1) := by decide +kernel
theorem dX9_writes_35 : decode cX9_writes 35 = .ok (.goto 4, 3) := by decide +kernel
theorem dX9_writes_38 : decode cX9_writes 38 = .ok (.iconst 1, 1) := by decide +kernel
theorem dX9_writes_39 : decode cX9_writes 39 = .ok (.iadd, 1) := by decide +kernel
theorem dX9_writes_40 : decode cX9_writes 40 = .ok (.istore_n 2, 1) := by decide +kernel
theorem dX9_writes_41 : decode cX9_writes 41 = .ok (.iinc 3 1, 3) := by decide +kernel
theorem dX9_writes_44 : decode cX9_writes 44 = .ok (.goto (-30), 3) := by decide +kernel
theorem dX9_writes_47 : decode cX9_writes 47 = .ok (.iload_n 2, 1) := by decide +kernel
theorem dX9_writes_48 : decode cX9_writes 48 = .ok (.ireturn, 1) := by decide +kernel
def X9_writes_b14 (a1 : Int32) (v3 v4 : Int32) (m5 : gM) (k14 : Int32 → Int32 → gM → Option (Int32 × gM)) : Option (Int32 × gM) :=
  gCall (X9_lengthOf a1 m5) (fun (r7 : Int32) (m6 : gM) => if r7 ≤ v4 then (some (v3, m6)) else (gCall (X9_valueIn a1 v4 m6) (fun (r9 : Int32) (m8 : gM) => if r9 = (-1) then (gLet (v3 + 0) (fun (x12 : Int32) => gLet (v4 + 1) (fun (x13 : Int32) => k14 x12 x13 m8))) else (gLet (v3 + 1) (fun (x10 : Int32) => gLet (v4 + 1) (fun (x11 : Int32) => k14 x10 x11 m8))))))
def X9_writes (a1 : Int32) (m : gM) : Option (Int32 × gM) :=
  gCall (X9_isTrace a1 m) (fun (r2 : Bool) (m1 : gM) => if r2 = true then (gL2 FU (X9_writes_b14 a1) 0 0 m1) else (some ((-1), m1)))
set_option maxRecDepth 100000 in
set_option maxHeartbeats 4000000 in
theorem c_X9_writes (a1 : Int32) (m : gM) : gCon eI yX9_writes cX9_writes 4 (some .int) 2 [.inr (9, 0), .inl a1] m (X9_writes a1 m) := by
  refine gCon.of (lv := [some (.inr (9, 0)), some (.inl a1), none, none]) (by decide +kernel) (Nat.le_of_ble_eq_true rfl) rfl (fun X C => ?_)
  unfold X9_writes
  refine r_aload_n C dX9_writes_0 rfl rfl ?_
  refine r_iload_n C dX9_writes_1 rfl rfl ?_
  refine r_invB (t := 9) (kb := 0) (As := [.inl a1]) (st := []) C il_X9_255 co_X9_isTrace (by decide) rfl (c_X9_isTrace a1 m) (by decide) (by decide) rfl rfl (Nat.le_of_ble_eq_true rfl) dX9_writes_2 (fun r2 m1 => ?_)
  refine r_ifneB (tgt := 10) C dX9_writes_5 (by decide) ?_ ?_
  · refine r_iconst (v := 0) C dX9_writes_10 (by decide) ?_
    refine r_istore_n (lv' := [some (.inr (9, 0)), some (.inl a1), some (.inl 0), none]) C dX9_writes_11 rfl (by decide) rfl ?_
    refine r_iconst (v := 0) C dX9_writes_12 (by decide) ?_
    refine r_istore_n (lv' := [some (.inr (9, 0)), some (.inl a1), some (.inl 0), some (.inl 0)]) C dX9_writes_13 rfl (by decide) rfl ?_
    refine r_weak (lv' := [some (.inr (9, 0)), some (.inl a1), some (.inl 0), some (.inl 0)]) ⟨rfl, rfl, rfl, rfl, trivial⟩ ?_
    refine r_l2 (pj := 14) (fun v3 v4 => [some (.inr (9, 0)), some (.inl a1), some (.inl v3), some (.inl v4)]) (fun v3 v4 m5 k14 hk14 => ?_) _ _ _ _
    unfold X9_writes_b14
    refine r_iload_n C dX9_writes_14 rfl rfl ?_
    refine r_aload_n C dX9_writes_15 rfl rfl ?_
    refine r_iload_n C dX9_writes_16 rfl rfl ?_
    refine r_invI (t := 9) (kb := 0) (As := [.inl a1]) (st := [.inl v4]) C il_X9_246 co_X9_lengthOf (by decide) rfl (c_X9_lengthOf a1 m5) (by decide) (by decide) rfl rfl (Nat.le_of_ble_eq_true rfl) dX9_writes_17 (fun r7 m6 => ?_)
    refine r_icmp_ge (tgt := 47) C dX9_writes_20 (by decide) ?_ ?_
    · refine r_iload_n C dX9_writes_47 rfl rfl ?_
      exact r_ireturn C dX9_writes_48
    refine r_iload_n C dX9_writes_23 rfl rfl ?_
    refine r_aload_n C dX9_writes_24 rfl rfl ?_
    refine r_iload_n C dX9_writes_25 rfl rfl ?_
    refine r_iload_n C dX9_writes_26 rfl rfl ?_
    refine r_invI (t := 9) (kb := 0) (As := [.inl a1, .inl v4]) (st := [.inl v3]) C il_X9_249 co_X9_valueIn (by decide) rfl (c_X9_valueIn a1 v4 m6) (by decide) (by decide) rfl rfl (Nat.le_of_ble_eq_true rfl) dX9_writes_27 (fun r9 m8 => ?_)
    refine r_iconst (v := (-1)) C dX9_writes_30 (by decide) ?_
    refine r_icmp_ne (tgt := 38) C dX9_writes_31 (by decide) ?_ ?_
    · refine r_iconst (v := 1) C dX9_writes_38 (by decide) ?_
      refine r_iadd C dX9_writes_39 ?_
      refine r_let (fun x10 => ?_)
      refine r_istore_n (lv' := [some (.inr (9, 0)), some (.inl a1), some (.inl x10), some (.inl v4)]) C dX9_writes_40 rfl (by decide) rfl ?_
      refine r_iinc (v := 1) C dX9_writes_41 (by decide) rfl (by decide) (fun x11 => ?_)
      show gw X eI _ [some (.inr (9, 0)), some (.inl a1), some (.inl x10), some (.inl x11)] _ _ _
      refine r_goto (tgt := 14) C dX9_writes_44 (by decide) ?_
      exact r_weak (lv' := [some (.inr (9, 0)), some (.inl a1), some (.inl x10), some (.inl x11)]) ⟨rfl, rfl, rfl, rfl, trivial⟩ (hk14 _ _ _)
    refine r_iconst (v := 0) C dX9_writes_34 (by decide) ?_
    refine r_goto (tgt := 39) C dX9_writes_35 (by decide) ?_
    refine r_iadd C dX9_writes_39 ?_
    refine r_let (fun x12 => ?_)
    refine r_istore_n (lv' := [some (.inr (9, 0)), some (.inl a1), some (.inl x12), some (.inl v4)]) C dX9_writes_40 rfl (by decide) rfl ?_
    refine r_iinc (v := 1) C dX9_writes_41 (by decide) rfl (by decide) (fun x13 => ?_)
    show gw X eI _ [some (.inr (9, 0)), some (.inl a1), some (.inl x12), some (.inl x13)] _ _ _
    refine r_goto (tgt := 14) C dX9_writes_44 (by decide) ?_
    exact r_weak (lv' := [some (.inr (9, 0)), some (.inl a1), some (.inl x12), some (.inl x13)]) ⟨rfl, rfl, rfl, rfl, trivial⟩ (hk14 _ _ _)
  refine r_iconst (v := (-1)) C dX9_writes_8 (by decide) ?_
  exact r_ireturn C dX9_writes_9
theorem dX9_working_0 : decode cX9_working 0 = .ok (.aload_n 0, 1) := by decide +kernel
theorem dX9_working_1 : decode cX9_working 1 = .ok (.iload_n 1, 1) := by decide +kernel
theorem dX9_working_2 : decode cX9_working 2 = .ok (.invokevirtual 255, 3) := by decide +kernel
theorem dX9_working_5 : decode cX9_working 5 = .ok (.ifCond .eq 13, 3) := by decide +kernel
theorem dX9_working_8 : decode cX9_working 8 = .ok (.iload_n 2, 1) := by decide +kernel
theorem dX9_working_9 : decode cX9_working 9 = .ok (.iconst 1, 1) := by decide +kernel
theorem dX9_working_10 : decode cX9_working 10 = .ok (.bipush 99, 2) := by decide +kernel
theorem dX9_working_12 : decode cX9_working 12 = .ok (.invokestatic 77, 3) := by decide +kernel
theorem dX9_working_15 : decode cX9_working 15 = .ok (.ifCond .ne 5, 3) := by decide +kernel
theorem dX9_working_18 : decode cX9_working 18 = .ok (.iconst (-1), 1) := by decide +kernel
theorem dX9_working_19 : decode cX9_working 19 = .ok (.ireturn, 1) := by decide +kernel
theorem dX9_working_20 : decode cX9_working 20 = .ok (.iconst 0, 1) := by decide +kernel
theorem dX9_working_21 : decode cX9_working 21 = .ok (.istore_n 3, 1) := by decide +kernel
theorem dX9_working_22 : decode cX9_working 22 = .ok (.iconst 0, 1) := by decide +kernel
theorem dX9_working_23 : decode cX9_working 23 = .ok (.istore 4, 2) := by decide +kernel
theorem dX9_working_25 : decode cX9_working 25 = .ok (.iload 4, 2) := by decide +kernel
theorem dX9_working_27 : decode cX9_working 27 = .ok (.aload_n 0, 1) := by decide +kernel
theorem dX9_working_28 : decode cX9_working 28 = .ok (.iload_n 1, 1) := by decide +kernel
theorem dX9_working_29 : decode cX9_working 29 = .ok (.invokevirtual 246, 3) := by decide +kernel
theorem dX9_working_32 : decode cX9_working 32 = .ok (.if_icmp .ge 76, 3) := by decide +kernel
theorem dX9_working_35 : decode cX9_working 35 = .ok (.iconst 0, 1) := by decide +kernel
theorem dX9_working_36 : decode cX9_working 36 = .ok (.istore 5, 2) := by decide +kernel
theorem dX9_working_38 : decode cX9_working 38 = .ok (.iload 4, 2) := by decide +kernel
theorem dX9_working_40 : decode cX9_working 40 = .ok (.istore 6, 2) := by decide +kernel
theorem dX9_working_42 : decode cX9_working 42 = .ok (.iload 6, 2) := by decide +kernel
theorem dX9_working_44 : decode cX9_working 44 = .ok (.iload 4, 2) := by decide +kernel
theorem dX9_working_46 : decode cX9_working 46 = .ok (.iload_n 2, 1) := by decide +kernel
theorem dX9_working_47 : decode cX9_working 47 = .ok (.iadd, 1) := by decide +kernel
theorem dX9_working_48 : decode cX9_working 48 = .ok (.if_icmp .ge 41, 3) := by decide +kernel
theorem dX9_working_51 : decode cX9_working 51 = .ok (.iload 6, 2) := by decide +kernel
theorem dX9_working_53 : decode cX9_working 53 = .ok (.aload_n 0, 1) := by decide +kernel
theorem dX9_working_54 : decode cX9_working 54 = .ok (.iload_n 1, 1) := by decide +kernel
theorem dX9_working_55 : decode cX9_working 55 = .ok (.invokevirtual 246, 3) := by decide +kernel
theorem dX9_working_58 : decode cX9_working 58 = .ok (.if_icmp .ge 31, 3) := by decide +kernel
theorem dX9_working_61 : decode cX9_working 61 = .ok (.iload 5, 2) := by decide +kernel
theorem dX9_working_63 : decode cX9_working 63 = .ok (.aload_n 0, 1) := by decide +kernel
theorem dX9_working_64 : decode cX9_working 64 = .ok (.iload_n 1, 1) := by decide +kernel
theorem dX9_working_65 : decode cX9_working 65 = .ok (.iload 6, 2) := by decide +kernel
theorem dX9_working_67 : decode cX9_working 67 = .ok (.invokevirtual 322, 3) := by decide +kernel
theorem dX9_working_70 : decode cX9_working 70 = .ok (.iload 4, 2) := by decide +kernel
theorem dX9_working_72 : decode cX9_working 72 = .ok (.if_icmp .ge 7, 3) := by decide +kernel
theorem dX9_working_75 : decode cX9_working 75 = .ok (.iconst 1, 1) := by decide +kernel
theorem dX9_working_76 : decode cX9_working 76 = .ok (.goto 4, 3) := by decide +kernel
theorem dX9_working_79 : decode cX9_working 79 = .ok (.iconst 0, 1) := by decide +kernel
theorem dX9_working_80 : decode cX9_working 80 = .ok (.iadd, 1) := by decide +kernel
theorem dX9_working_81 : decode cX9_working 81 = .ok (.istore 5, 2) := by decide +kernel
theorem dX9_working_83 : decode cX9_working 83 = .ok (.iinc 6 1, 3) := by decide +kernel
theorem dX9_working_86 : decode cX9_working 86 = .ok (.goto (-44), 3) := by decide +kernel
theorem dX9_working_89 : decode cX9_working 89 = .ok (.iload 5, 2) := by decide +kernel
theorem dX9_working_91 : decode cX9_working 91 = .ok (.iload_n 3, 1) := by decide +kernel
theorem dX9_working_92 : decode cX9_working 92 = .ok (.if_icmp .le 8, 3) := by decide +kernel
theorem dX9_working_95 : decode cX9_working 95 = .ok (.iload 5, 2) := by decide +kernel
theorem dX9_working_97 : decode cX9_working 97 = .ok (.goto 4, 3) := by decide +kernel
theorem dX9_working_100 : decode cX9_working 100 = .ok (.iload_n 3, 1) := by decide +kernel
theorem dX9_working_101 : decode cX9_working 101 = .ok (.istore_n 3, 1) := by decide +kernel
theorem dX9_working_102 : decode cX9_working 102 = .ok (.iinc 4 1, 3) := by decide +kernel
theorem dX9_working_105 : decode cX9_working 105 = .ok (.goto (-80), 3) := by decide +kernel
theorem dX9_working_108 : decode cX9_working 108 = .ok (.iload_n 3, 1) := by decide +kernel
theorem dX9_working_109 : decode cX9_working 109 = .ok (.ireturn, 1) := by decide +kernel
def X9_working_b42 (a1 : Int32) (a2 : Int32) (j89 : Int32 → gM → Option (Int32 × gM)) (v6 : Int32) (v14 v15 : Int32) (m16 : gM) (k42 : Int32 → Int32 → gM → Option (Int32 × gM)) : Option (Int32 × gM) :=
  if (v6 + a2) ≤ v15 then (j89 v14 m16) else (gCall (X9_lengthOf a1 m16) (fun (r18 : Int32) (m17 : gM) => if r18 ≤ v15 then (j89 v14 m17) else (gCall (X9_latest a1 v15 m17) (fun (r20 : Int32) (m19 : gM) => if v6 ≤ r20 then (gLet (v14 + 0) (fun (x21 : Int32) => gLet (v15 + 1) (fun (x22 : Int32) => k42 x21 x22 m19))) else (gLet (v14 + 1) (fun (x23 : Int32) => gLet (v15 + 1) (fun (x24 : Int32) => k42 x23 x24 m19)))))))
def X9_working_b25 (a1 : Int32) (a2 : Int32) (v5 v6 : Int32) (m7 : gM) (k25 : Int32 → Int32 → gM → Option (Int32 × gM)) : Option (Int32 × gM) :=
  gCall (X9_lengthOf a1 m7) (fun (r9 : Int32) (m8 : gM) => if r9 ≤ v6 then (some (v5, m8)) else (gJ1 (fun (v10 : Int32) (m11 : gM) => if v10 ≤ v5 then (gLet (v6 + 1) (fun (x12 : Int32) => k25 v5 x12 m11)) else (gLet (v6 + 1) (fun (x13 : Int32) => k25 v10 x13 m11))) (fun (j89 : Int32 → gM → Option (Int32 × gM)) => gL2 FU (X9_working_b42 a1 a2 j89 v6) 0 v6 m8)))
def X9_working (a1 : Int32) (a2 : Int32) (m : gM) : Option (Int32 × gM) :=
  gCall (X9_isTrace a1 m) (fun (r2 : Bool) (m1 : gM) => if r2 = true then (gCall (X9_isIn a2 1 99 m1) (fun (r4 : Bool) (m3 : gM) => if r4 = true then (gL2 FU (X9_working_b25 a1 a2) 0 0 m3) else (some ((-1), m3)))) else (some ((-1), m1)))
set_option maxRecDepth 100000 in
set_option maxHeartbeats 4000000 in
theorem c_X9_working (a1 : Int32) (a2 : Int32) (m : gM) : gCon eI yX9_working cX9_working 7 (some .int) 2 [.inr (9, 0), .inl a1, .inl a2] m (X9_working a1 a2 m) := by
  refine gCon.of (lv := [some (.inr (9, 0)), some (.inl a1), some (.inl a2), none, none, none, none]) (by decide +kernel) (Nat.le_of_ble_eq_true rfl) rfl (fun X C => ?_)
  unfold X9_working
  refine r_aload_n C dX9_working_0 rfl rfl ?_
  refine r_iload_n C dX9_working_1 rfl rfl ?_
  refine r_invB (t := 9) (kb := 0) (As := [.inl a1]) (st := []) C il_X9_255 co_X9_isTrace (by decide) rfl (c_X9_isTrace a1 m) (by decide) (by decide) rfl rfl (Nat.le_of_ble_eq_true rfl) dX9_working_2 (fun r2 m1 => ?_)
  refine r_ifeqB (tgt := 18) C dX9_working_5 (by decide) ?_ ?_
  · refine r_iconst (v := (-1)) C dX9_working_18 (by decide) ?_
    exact r_ireturn C dX9_working_19
  refine r_iload_n C dX9_working_8 rfl rfl ?_
  refine r_iconst (v := 1) C dX9_working_9 (by decide) ?_
  refine r_bipush (v := 99) C dX9_working_10 (by decide) ?_
  refine r_insB (As := [.inl a2, .inl 1, .inl 99]) (st := []) C il_X9_77 co_X9_isIn (c_X9_isIn a2 1 99 m1) (by decide) (by decide) rfl rfl (Nat.le_of_ble_eq_true rfl) dX9_working_12 (fun r4 m3 => ?_)
  refine r_ifneB (tgt := 20) C dX9_working_15 (by decide) ?_ ?_
  · refine r_iconst (v := 0) C dX9_working_20 (by decide) ?_
    refine r_istore_n (lv' := [some (.inr (9, 0)), some (.inl a1), some (.inl a2), some (.inl 0), none, none, none]) C dX9_working_21 rfl (by decide) rfl ?_
    refine r_iconst (v := 0) C dX9_working_22 (by decide) ?_
    refine r_istore (lv' := [some (.inr (9, 0)), some (.inl a1), some (.inl a2), some (.inl 0), some (.inl 0), none, none]) C dX9_working_23 (by decide) rfl ?_
    refine r_weak (lv' := [some (.inr (9, 0)), some (.inl a1), some (.inl a2), some (.inl 0), some (.inl 0), none, none]) ⟨rfl, rfl, rfl, rfl, rfl, trivial⟩ ?_
    refine r_l2 (pj := 25) (fun v5 v6 => [some (.inr (9, 0)), some (.inl a1), some (.inl a2), some (.inl v5), some (.inl v6), none, none]) (fun v5 v6 m7 k25 hk25 => ?_) _ _ _ _
    unfold X9_working_b25
    refine r_iload C dX9_working_25 rfl ?_
    refine r_aload_n C dX9_working_27 rfl rfl ?_
    refine r_iload_n C dX9_working_28 rfl rfl ?_
    refine r_invI (t := 9) (kb := 0) (As := [.inl a1]) (st := [.inl v6]) C il_X9_246 co_X9_lengthOf (by decide) rfl (c_X9_lengthOf a1 m7) (by decide) (by decide) rfl rfl (Nat.le_of_ble_eq_true rfl) dX9_working_29 (fun r9 m8 => ?_)
    refine r_icmp_ge (tgt := 108) C dX9_working_32 (by decide) ?_ ?_
    · refine r_iload_n C dX9_working_108 rfl rfl ?_
      exact r_ireturn C dX9_working_109
    refine r_iconst (v := 0) C dX9_working_35 (by decide) ?_
    refine r_istore (lv' := [some (.inr (9, 0)), some (.inl a1), some (.inl a2), some (.inl v5), some (.inl v6), some (.inl 0), none]) C dX9_working_36 (by decide) rfl ?_
    refine r_iload C dX9_working_38 rfl ?_
    refine r_istore (lv' := [some (.inr (9, 0)), some (.inl a1), some (.inl a2), some (.inl v5), some (.inl v6), some (.inl 0), some (.inl v6)]) C dX9_working_40 (by decide) rfl ?_
    refine r_j1 89 (fun v10 => [some (.inr (9, 0)), some (.inl a1), some (.inl a2), some (.inl v5), some (.inl v6), some (.inl v10), none]) (fun v10 => []) (fun v10 m11 => ?_) (fun j89 hj89 => ?_)
    · refine r_iload C dX9_working_89 rfl ?_
      refine r_iload_n C dX9_working_91 rfl rfl ?_
      refine r_icmp_le (tgt := 100) C dX9_working_92 (by decide) ?_ ?_
      · refine r_iload_n C dX9_working_100 rfl rfl ?_
        refine r_istore_n (lv' := [some (.inr (9, 0)), some (.inl a1), some (.inl a2), some (.inl v5), some (.inl v6), some (.inl v10), none]) C dX9_working_101 rfl (by decide) rfl ?_
        refine r_iinc (v := 1) C dX9_working_102 (by decide) rfl (by decide) (fun x12 => ?_)
        show gw X eI _ [some (.inr (9, 0)), some (.inl a1), some (.inl a2), some (.inl v5), some (.inl x12), some (.inl v10), none] _ _ _
        refine r_goto (tgt := 25) C dX9_working_105 (by decide) ?_
        exact r_weak (lv' := [some (.inr (9, 0)), some (.inl a1), some (.inl a2), some (.inl v5), some (.inl x12), none, none]) ⟨rfl, rfl, rfl, rfl, rfl, trivial⟩ (hk25 _ _ _)
      refine r_iload C dX9_working_95 rfl ?_
      refine r_goto (tgt := 101) C dX9_working_97 (by decide) ?_
      refine r_istore_n (lv' := [some (.inr (9, 0)), some (.inl a1), some (.inl a2), some (.inl v10), some (.inl v6), some (.inl v10), none]) C dX9_working_101 rfl (by decide) rfl ?_
      refine r_iinc (v := 1) C dX9_working_102 (by decide) rfl (by decide) (fun x13 => ?_)
      show gw X eI _ [some (.inr (9, 0)), some (.inl a1), some (.inl a2), some (.inl v10), some (.inl x13), some (.inl v10), none] _ _ _
      refine r_goto (tgt := 25) C dX9_working_105 (by decide) ?_
      exact r_weak (lv' := [some (.inr (9, 0)), some (.inl a1), some (.inl a2), some (.inl v10), some (.inl x13), none, none]) ⟨rfl, rfl, rfl, rfl, rfl, trivial⟩ (hk25 _ _ _)
    refine r_weak (lv' := [some (.inr (9, 0)), some (.inl a1), some (.inl a2), some (.inl v5), some (.inl v6), some (.inl 0), some (.inl v6)]) ⟨rfl, rfl, rfl, rfl, rfl, rfl, rfl, trivial⟩ ?_
    refine r_l2 (pj := 42) (fun v14 v15 => [some (.inr (9, 0)), some (.inl a1), some (.inl a2), some (.inl v5), some (.inl v6), some (.inl v14), some (.inl v15)]) (fun v14 v15 m16 k42 hk42 => ?_) _ _ _ _
    unfold X9_working_b42
    refine r_iload C dX9_working_42 rfl ?_
    refine r_iload C dX9_working_44 rfl ?_
    refine r_iload_n C dX9_working_46 rfl rfl ?_
    refine r_iadd C dX9_working_47 ?_
    refine r_icmp_ge (tgt := 89) C dX9_working_48 (by decide) ?_ ?_
    · exact r_weak (lv' := [some (.inr (9, 0)), some (.inl a1), some (.inl a2), some (.inl v5), some (.inl v6), some (.inl v14), none]) ⟨rfl, rfl, rfl, rfl, rfl, rfl, trivial⟩ (hj89 _ _)
    refine r_iload C dX9_working_51 rfl ?_
    refine r_aload_n C dX9_working_53 rfl rfl ?_
    refine r_iload_n C dX9_working_54 rfl rfl ?_
    refine r_invI (t := 9) (kb := 0) (As := [.inl a1]) (st := [.inl v15]) C il_X9_246 co_X9_lengthOf (by decide) rfl (c_X9_lengthOf a1 m16) (by decide) (by decide) rfl rfl (Nat.le_of_ble_eq_true rfl) dX9_working_55 (fun r18 m17 => ?_)
    refine r_icmp_ge (tgt := 89) C dX9_working_58 (by decide) ?_ ?_
    · exact r_weak (lv' := [some (.inr (9, 0)), some (.inl a1), some (.inl a2), some (.inl v5), some (.inl v6), some (.inl v14), none]) ⟨rfl, rfl, rfl, rfl, rfl, rfl, trivial⟩ (hj89 _ _)
    refine r_iload C dX9_working_61 rfl ?_
    refine r_aload_n C dX9_working_63 rfl rfl ?_
    refine r_iload_n C dX9_working_64 rfl rfl ?_
    refine r_iload C dX9_working_65 rfl ?_
    refine r_invI (t := 9) (kb := 0) (As := [.inl a1, .inl v15]) (st := [.inl v14]) C il_X9_322 co_X9_latest (by decide) rfl (c_X9_latest a1 v15 m17) (by decide) (by decide) rfl rfl (Nat.le_of_ble_eq_true rfl) dX9_working_67 (fun r20 m19 => ?_)
    refine r_iload C dX9_working_70 rfl ?_
    refine r_icmp_ge (tgt := 79) C dX9_working_72 (by decide) ?_ ?_
    · refine r_iconst (v := 0) C dX9_working_79 (by decide) ?_
      refine r_iadd C dX9_working_80 ?_
      refine r_let (fun x21 => ?_)
      refine r_istore (lv' := [some (.inr (9, 0)), some (.inl a1), some (.inl a2), some (.inl v5), some (.inl v6), some (.inl x21), some (.inl v15)]) C dX9_working_81 (by decide) rfl ?_
      refine r_iinc (v := 1) C dX9_working_83 (by decide) rfl (by decide) (fun x22 => ?_)
      show gw X eI _ [some (.inr (9, 0)), some (.inl a1), some (.inl a2), some (.inl v5), some (.inl v6), some (.inl x21), some (.inl x22)] _ _ _
      refine r_goto (tgt := 42) C dX9_working_86 (by decide) ?_
      exact r_weak (lv' := [some (.inr (9, 0)), some (.inl a1), some (.inl a2), some (.inl v5), some (.inl v6), some (.inl x21), some (.inl x22)]) ⟨rfl, rfl, rfl, rfl, rfl, rfl, rfl, trivial⟩ (hk42 _ _ _)
    refine r_iconst (v := 1) C dX9_working_75 (by decide) ?_
    refine r_goto (tgt := 80) C dX9_working_76 (by decide) ?_
    refine r_iadd C dX9_working_80 ?_
    refine r_let (fun x23 => ?_)
    refine r_istore (lv' := [some (.inr (9, 0)), some (.inl a1), some (.inl a2), some (.inl v5), some (.inl v6), some (.inl x23), some (.inl v15)]) C dX9_working_81 (by decide) rfl ?_
    refine r_iinc (v := 1) C dX9_working_83 (by decide) rfl (by decide) (fun x24 => ?_)
    show gw X eI _ [some (.inr (9, 0)), some (.inl a1), some (.inl a2), some (.inl v5), some (.inl v6), some (.inl x23), some (.inl x24)] _ _ _
    refine r_goto (tgt := 42) C dX9_working_86 (by decide) ?_
    exact r_weak (lv' := [some (.inr (9, 0)), some (.inl a1), some (.inl a2), some (.inl v5), some (.inl v6), some (.inl x23), some (.inl x24)]) ⟨rfl, rfl, rfl, rfl, rfl, rfl, rfl, trivial⟩ (hk42 _ _ _)
  refine r_iconst (v := (-1)) C dX9_working_18 (by decide) ?_
  exact r_ireturn C dX9_working_19
theorem dX9_timesOf_0 : decode cX9_timesOf 0 = .ok (.iconst 0, 1) := by decide +kernel
theorem dX9_timesOf_1 : decode cX9_timesOf 1 = .ok (.istore_n 3, 1) := by decide +kernel
theorem dX9_timesOf_2 : decode cX9_timesOf 2 = .ok (.iconst 0, 1) := by decide +kernel
theorem dX9_timesOf_3 : decode cX9_timesOf 3 = .ok (.istore 4, 2) := by decide +kernel
theorem dX9_timesOf_5 : decode cX9_timesOf 5 = .ok (.iload 4, 2) := by decide +kernel
theorem dX9_timesOf_7 : decode cX9_timesOf 7 = .ok (.aload_n 0, 1) := by decide +kernel
theorem dX9_timesOf_8 : decode cX9_timesOf 8 = .ok (.iload_n 1, 1) := by decide +kernel
theorem dX9_timesOf_9 : decode cX9_timesOf 9 = .ok (.invokevirtual 246, 3) := by decide +kernel
theorem dX9_timesOf_12 : decode cX9_timesOf 12 = .ok (.if_icmp .ge 28, 3) := by decide +kernel
theorem dX9_timesOf_15 : decode cX9_timesOf 15 = .ok (.iload_n 3, 1) := by decide +kernel
theorem dX9_timesOf_16 : decode cX9_timesOf 16 = .ok (.aload_n 0, 1) := by decide +kernel
theorem dX9_timesOf_17 : decode cX9_timesOf 17 = .ok (.iload_n 1, 1) := by decide +kernel
theorem dX9_timesOf_18 : decode cX9_timesOf 18 = .ok (.iload 4, 2) := by decide +kernel
theorem dX9_timesOf_20 : decode cX9_timesOf 20 = .ok (.invokevirtual 252, 3) := by decide +kernel
theorem dX9_timesOf_23 : decode cX9_timesOf 23 = .ok (.iload_n 2, 1) := by decide +kernel
theorem dX9_timesOf_24 : decode cX9_timesOf 24 = .ok (.if_icmp .ne 7, 3) := by decide +kernel
theorem dX9_timesOf_27 : decode cX9_timesOf 27 = .ok (.iconst 1, 1) := by decide +kernel
theorem dX9_timesOf_28 : decode cX9_timesOf 28 = .ok (.goto 4, 3) := by decide +kernel
theorem dX9_timesOf_31 : decode cX9_timesOf 31 = .ok (.iconst 0, 1) := by decide +kernel
theorem dX9_timesOf_32 : decode cX9_timesOf 32 = .ok (.iadd, 1) := by decide +kernel
theorem dX9_timesOf_33 : decode cX9_timesOf 33 = .ok (.istore_n 3, 1) := by decide +kernel
theorem dX9_timesOf_34 : decode cX9_timesOf 34 = .ok (.iinc 4 1, 3) := by decide +kernel
theorem dX9_timesOf_37 : decode cX9_timesOf 37 = .ok (.goto (-32), 3) := by decide +kernel
theorem dX9_timesOf_40 : decode cX9_timesOf 40 = .ok (.iload_n 3, 1) := by decide +kernel
theorem dX9_timesOf_41 : decode cX9_timesOf 41 = .ok (.ireturn, 1) := by decide +kernel
def X9_timesOf_b5 (a1 : Int32) (a2 : Int32) (v1 v2 : Int32) (m3 : gM) (k5 : Int32 → Int32 → gM → Option (Int32 × gM)) : Option (Int32 × gM) :=
  gCall (X9_lengthOf a1 m3) (fun (r5 : Int32) (m4 : gM) => if r5 ≤ v2 then (some (v1, m4)) else (gCall (X9_lineOf a1 v2 m4) (fun (r7 : Int32) (m6 : gM) => if r7 = a2 then (gLet (v1 + 1) (fun (x10 : Int32) => gLet (v2 + 1) (fun (x11 : Int32) => k5 x10 x11 m6))) else (gLet (v1 + 0) (fun (x8 : Int32) => gLet (v2 + 1) (fun (x9 : Int32) => k5 x8 x9 m6))))))
def X9_timesOf (a1 : Int32) (a2 : Int32) (m : gM) : Option (Int32 × gM) :=
  gL2 FU (X9_timesOf_b5 a1 a2) 0 0 m
set_option maxRecDepth 100000 in
set_option maxHeartbeats 4000000 in
theorem c_X9_timesOf (a1 : Int32) (a2 : Int32) (m : gM) : gCon eI yX9_timesOf cX9_timesOf 5 (some .int) 1 [.inr (9, 0), .inl a1, .inl a2] m (X9_timesOf a1 a2 m) := by
  refine gCon.of (lv := [some (.inr (9, 0)), some (.inl a1), some (.inl a2), none, none]) (by decide +kernel) (Nat.le_of_ble_eq_true rfl) rfl (fun X C => ?_)
  unfold X9_timesOf
  refine r_iconst (v := 0) C dX9_timesOf_0 (by decide) ?_
  refine r_istore_n (lv' := [some (.inr (9, 0)), some (.inl a1), some (.inl a2), some (.inl 0), none]) C dX9_timesOf_1 rfl (by decide) rfl ?_
  refine r_iconst (v := 0) C dX9_timesOf_2 (by decide) ?_
  refine r_istore (lv' := [some (.inr (9, 0)), some (.inl a1), some (.inl a2), some (.inl 0), some (.inl 0)]) C dX9_timesOf_3 (by decide) rfl ?_
  refine r_weak (lv' := [some (.inr (9, 0)), some (.inl a1), some (.inl a2), some (.inl 0), some (.inl 0)]) ⟨rfl, rfl, rfl, rfl, rfl, trivial⟩ ?_
  refine r_l2 (pj := 5) (fun v1 v2 => [some (.inr (9, 0)), some (.inl a1), some (.inl a2), some (.inl v1), some (.inl v2)]) (fun v1 v2 m3 k5 hk5 => ?_) _ _ _ _
  unfold X9_timesOf_b5
  refine r_iload C dX9_timesOf_5 rfl ?_
  refine r_aload_n C dX9_timesOf_7 rfl rfl ?_
  refine r_iload_n C dX9_timesOf_8 rfl rfl ?_
  refine r_invI (t := 9) (kb := 0) (As := [.inl a1]) (st := [.inl v2]) C il_X9_246 co_X9_lengthOf (by decide) rfl (c_X9_lengthOf a1 m3) (by decide) (by decide) rfl rfl (Nat.le_of_ble_eq_true rfl) dX9_timesOf_9 (fun r5 m4 => ?_)
  refine r_icmp_ge (tgt := 40) C dX9_timesOf_12 (by decide) ?_ ?_
  · refine r_iload_n C dX9_timesOf_40 rfl rfl ?_
    exact r_ireturn C dX9_timesOf_41
  refine r_iload_n C dX9_timesOf_15 rfl rfl ?_
  refine r_aload_n C dX9_timesOf_16 rfl rfl ?_
  refine r_iload_n C dX9_timesOf_17 rfl rfl ?_
  refine r_iload C dX9_timesOf_18 rfl ?_
  refine r_invI (t := 9) (kb := 0) (As := [.inl a1, .inl v2]) (st := [.inl v1]) C il_X9_252 co_X9_lineOf (by decide) rfl (c_X9_lineOf a1 v2 m4) (by decide) (by decide) rfl rfl (Nat.le_of_ble_eq_true rfl) dX9_timesOf_20 (fun r7 m6 => ?_)
  refine r_iload_n C dX9_timesOf_23 rfl rfl ?_
  refine r_icmp_ne (tgt := 31) C dX9_timesOf_24 (by decide) ?_ ?_
  · refine r_iconst (v := 0) C dX9_timesOf_31 (by decide) ?_
    refine r_iadd C dX9_timesOf_32 ?_
    refine r_let (fun x8 => ?_)
    refine r_istore_n (lv' := [some (.inr (9, 0)), some (.inl a1), some (.inl a2), some (.inl x8), some (.inl v2)]) C dX9_timesOf_33 rfl (by decide) rfl ?_
    refine r_iinc (v := 1) C dX9_timesOf_34 (by decide) rfl (by decide) (fun x9 => ?_)
    show gw X eI _ [some (.inr (9, 0)), some (.inl a1), some (.inl a2), some (.inl x8), some (.inl x9)] _ _ _
    refine r_goto (tgt := 5) C dX9_timesOf_37 (by decide) ?_
    exact r_weak (lv' := [some (.inr (9, 0)), some (.inl a1), some (.inl a2), some (.inl x8), some (.inl x9)]) ⟨rfl, rfl, rfl, rfl, rfl, trivial⟩ (hk5 _ _ _)
  refine r_iconst (v := 1) C dX9_timesOf_27 (by decide) ?_
  refine r_goto (tgt := 32) C dX9_timesOf_28 (by decide) ?_
  refine r_iadd C dX9_timesOf_32 ?_
  refine r_let (fun x10 => ?_)
  refine r_istore_n (lv' := [some (.inr (9, 0)), some (.inl a1), some (.inl a2), some (.inl x10), some (.inl v2)]) C dX9_timesOf_33 rfl (by decide) rfl ?_
  refine r_iinc (v := 1) C dX9_timesOf_34 (by decide) rfl (by decide) (fun x11 => ?_)
  show gw X eI _ [some (.inr (9, 0)), some (.inl a1), some (.inl a2), some (.inl x10), some (.inl x11)] _ _ _
  refine r_goto (tgt := 5) C dX9_timesOf_37 (by decide) ?_
  exact r_weak (lv' := [some (.inr (9, 0)), some (.inl a1), some (.inl a2), some (.inl x10), some (.inl x11)]) ⟨rfl, rfl, rfl, rfl, rfl, trivial⟩ (hk5 _ _ _)
theorem dX9_hottest_0 : decode cX9_hottest 0 = .ok (.aload_n 0, 1) := by decide +kernel
theorem dX9_hottest_1 : decode cX9_hottest 1 = .ok (.iload_n 1, 1) := by decide +kernel
theorem dX9_hottest_2 : decode cX9_hottest 2 = .ok (.invokevirtual 255, 3) := by decide +kernel
theorem dX9_hottest_5 : decode cX9_hottest 5 = .ok (.ifCond .ne 5, 3) := by decide +kernel
theorem dX9_hottest_8 : decode cX9_hottest 8 = .ok (.iconst (-1), 1) := by decide +kernel
theorem dX9_hottest_9 : decode cX9_hottest 9 = .ok (.ireturn, 1) := by decide +kernel
theorem dX9_hottest_10 : decode cX9_hottest 10 = .ok (.iconst (-1), 1) := by decide +kernel
theorem dX9_hottest_11 : decode cX9_hottest 11 = .ok (.istore_n 3, 1) := by decide +kernel
theorem dX9_hottest_12 : decode cX9_hottest 12 = .ok (.iconst 0, 1) := by decide +kernel
theorem dX9_hottest_13 : decode cX9_hottest 13 = .ok (.istore 4, 2) := by decide +kernel
theorem dX9_hottest_15 : decode cX9_hottest 15 = .ok (.iconst 0, 1) := by decide +kernel
theorem dX9_hottest_16 : decode cX9_hottest 16 = .ok (.istore 5, 2) := by decide +kernel
theorem dX9_hottest_18 : decode cX9_hottest 18 = .ok (.iload 5, 2) := by decide +kernel
theorem dX9_hottest_20 : decode cX9_hottest 20 = .ok (.sipush 1024, 3) := by decide +kernel
theorem dX9_hottest_23 : decode cX9_hottest 23 = .ok (.if_icmp .ge 35, 3) := by decide +kernel
theorem dX9_hottest_26 : decode cX9_hottest 26 = .ok (.aload_n 0, 1) := by decide +kernel
theorem dX9_hottest_27 : decode cX9_hottest 27 = .ok (.iload_n 1, 1) := by decide +kernel
theorem dX9_hottest_28 : decode cX9_hottest 28 = .ok (.iload 5, 2) := by decide +kernel
theorem dX9_hottest_30 : decode cX9_hottest 30 = .ok (.invokevirtual 325, 3) := by decide +kernel
theorem dX9_hottest_33 : decode cX9_hottest 33 = .ok (.istore 6, 2) := by decide +kernel
theorem dX9_hottest_35 : decode cX9_hottest 35 = .ok (.iload 6, 2) := by decide +kernel
theorem dX9_hottest_37 : decode cX9_hottest 37 = .ok (.iload 4, 2) := by decide +kernel
theorem dX9_hottest_39 : decode cX9_hottest 39 = .ok (.if_icmp .gt 6, 3) := by decide +kernel
theorem dX9_hottest_42 : decode cX9_hottest 42 = .ok (.goto 10, 3) := by decide +kernel
theorem dX9_hottest_45 : decode cX9_hottest 45 = .ok (.iload 5, 2) := by decide +kernel
theorem dX9_hottest_47 : decode cX9_hottest 47 = .ok (.istore_n 3, 1) := by decide +kernel
theorem dX9_hottest_48 : decode cX9_hottest 48 = .ok (.iload 6, 2) := by decide +kernel
theorem dX9_hottest_50 : decode cX9_hottest 50 = .ok (.istore 4, 2) := by decide +kernel
theorem dX9_hottest_52 : decode cX9_hottest 52 = .ok (.iinc 5 1, 3) := by decide +kernel
theorem dX9_hottest_55 : decode cX9_hottest 55 = .ok (.goto (-37), 3) := by decide +kernel
theorem dX9_hottest_58 : decode cX9_hottest 58 = .ok (.iload_n 2, 1) := by decide +kernel
theorem dX9_hottest_59 : decode cX9_hottest 59 = .ok (.ifCond .eq 8, 3) := by decide +kernel
theorem dX9_hottest_62 : decode cX9_hottest 62 = .ok (.iload 4, 2) := by decide +kernel
theorem dX9_hottest_64 : decode cX9_hottest 64 = .ok (.goto 4, 3) := by decide +kernel
theorem dX9_hottest_67 : decode cX9_hottest 67 = .ok (.iload_n 3, 1) := by decide +kernel
theorem dX9_hottest_68 : decode cX9_hottest 68 = .ok (.ireturn, 1) := by decide +kernel
def X9_hottest_b18 (a1 : Int32) (j58 : Int32 → Int32 → gM → Option (Int32 × gM)) (v6 v7 v8 : Int32) (m9 : gM) (k18 : Int32 → Int32 → Int32 → gM → Option (Int32 × gM)) : Option (Int32 × gM) :=
  if 1024 ≤ v8 then (j58 v6 v7 m9) else (gCall (X9_timesOf a1 v8 m9) (fun (r11 : Int32) (m10 : gM) => if v7 < r11 then (gLet (v8 + 1) (fun (x12 : Int32) => k18 v8 r11 x12 m10)) else (gLet (v8 + 1) (fun (x13 : Int32) => k18 v6 v7 x13 m10))))
def X9_hottest (a1 : Int32) (a2 : Int32) (m : gM) : Option (Int32 × gM) :=
  gCall (X9_isTrace a1 m) (fun (r2 : Bool) (m1 : gM) => if r2 = true then (gJ2 (fun (v3 v4 : Int32) (m5 : gM) => if a2 = 0 then (some (v3, m5)) else (some (v4, m5))) (fun (j58 : Int32 → Int32 → gM → Option (Int32 × gM)) => gL3 FU (X9_hottest_b18 a1 j58) (-1) 0 0 m1)) else (some ((-1), m1)))
set_option maxRecDepth 100000 in
set_option maxHeartbeats 4000000 in
theorem c_X9_hottest (a1 : Int32) (a2 : Int32) (m : gM) : gCon eI yX9_hottest cX9_hottest 7 (some .int) 2 [.inr (9, 0), .inl a1, .inl a2] m (X9_hottest a1 a2 m) := by
  refine gCon.of (lv := [some (.inr (9, 0)), some (.inl a1), some (.inl a2), none, none, none, none]) (by decide +kernel) (Nat.le_of_ble_eq_true rfl) rfl (fun X C => ?_)
  unfold X9_hottest
  refine r_aload_n C dX9_hottest_0 rfl rfl ?_
  refine r_iload_n C dX9_hottest_1 rfl rfl ?_
  refine r_invB (t := 9) (kb := 0) (As := [.inl a1]) (st := []) C il_X9_255 co_X9_isTrace (by decide) rfl (c_X9_isTrace a1 m) (by decide) (by decide) rfl rfl (Nat.le_of_ble_eq_true rfl) dX9_hottest_2 (fun r2 m1 => ?_)
  refine r_ifneB (tgt := 10) C dX9_hottest_5 (by decide) ?_ ?_
  · refine r_iconst (v := (-1)) C dX9_hottest_10 (by decide) ?_
    refine r_istore_n (lv' := [some (.inr (9, 0)), some (.inl a1), some (.inl a2), some (.inl (-1)), none, none, none]) C dX9_hottest_11 rfl (by decide) rfl ?_
    refine r_iconst (v := 0) C dX9_hottest_12 (by decide) ?_
    refine r_istore (lv' := [some (.inr (9, 0)), some (.inl a1), some (.inl a2), some (.inl (-1)), some (.inl 0), none, none]) C dX9_hottest_13 (by decide) rfl ?_
    refine r_iconst (v := 0) C dX9_hottest_15 (by decide) ?_
    refine r_istore (lv' := [some (.inr (9, 0)), some (.inl a1), some (.inl a2), some (.inl (-1)), some (.inl 0), some (.inl 0), none]) C dX9_hottest_16 (by decide) rfl ?_
    refine r_j2 58 (fun v3 v4 => [none, none, some (.inl a2), some (.inl v3), some (.inl v4), none, none]) (fun v3 v4 => []) (fun v3 v4 m5 => ?_) (fun j58 hj58 => ?_)
    · refine r_iload_n C dX9_hottest_58 rfl rfl ?_
      refine r_if_eq (tgt := 67) C dX9_hottest_59 (by decide) ?_ ?_
      · refine r_iload_n C dX9_hottest_67 rfl rfl ?_
        exact r_ireturn C dX9_hottest_68
      refine r_iload C dX9_hottest_62 rfl ?_
      refine r_goto (tgt := 68) C dX9_hottest_64 (by decide) ?_
      exact r_ireturn C dX9_hottest_68
    refine r_weak (lv' := [some (.inr (9, 0)), some (.inl a1), some (.inl a2), some (.inl (-1)), some (.inl 0), some (.inl 0), none]) ⟨rfl, rfl, rfl, rfl, rfl, rfl, trivial⟩ ?_
    refine r_l3 (pj := 18) (fun v6 v7 v8 => [some (.inr (9, 0)), some (.inl a1), some (.inl a2), some (.inl v6), some (.inl v7), some (.inl v8), none]) (fun v6 v7 v8 m9 k18 hk18 => ?_) _ _ _ _ _
    unfold X9_hottest_b18
    refine r_iload C dX9_hottest_18 rfl ?_
    refine r_sipush (v := 1024) C dX9_hottest_20 (by decide) ?_
    refine r_icmp_ge (tgt := 58) C dX9_hottest_23 (by decide) ?_ ?_
    · exact r_weak (lv' := [none, none, some (.inl a2), some (.inl v6), some (.inl v7), none, none]) ⟨rfl, rfl, rfl, trivial⟩ (hj58 _ _ _)
    refine r_aload_n C dX9_hottest_26 rfl rfl ?_
    refine r_iload_n C dX9_hottest_27 rfl rfl ?_
    refine r_iload C dX9_hottest_28 rfl ?_
    refine r_invI (t := 9) (kb := 0) (As := [.inl a1, .inl v8]) (st := []) C il_X9_325 co_X9_timesOf (by decide) rfl (c_X9_timesOf a1 v8 m9) (by decide) (by decide) rfl rfl (Nat.le_of_ble_eq_true rfl) dX9_hottest_30 (fun r11 m10 => ?_)
    refine r_istore (lv' := [some (.inr (9, 0)), some (.inl a1), some (.inl a2), some (.inl v6), some (.inl v7), some (.inl v8), some (.inl r11)]) C dX9_hottest_33 (by decide) rfl ?_
    refine r_iload C dX9_hottest_35 rfl ?_
    refine r_iload C dX9_hottest_37 rfl ?_
    refine r_icmp_gt (tgt := 45) C dX9_hottest_39 (by decide) ?_ ?_
    · refine r_iload C dX9_hottest_45 rfl ?_
      refine r_istore_n (lv' := [some (.inr (9, 0)), some (.inl a1), some (.inl a2), some (.inl v8), some (.inl v7), some (.inl v8), some (.inl r11)]) C dX9_hottest_47 rfl (by decide) rfl ?_
      refine r_iload C dX9_hottest_48 rfl ?_
      refine r_istore (lv' := [some (.inr (9, 0)), some (.inl a1), some (.inl a2), some (.inl v8), some (.inl r11), some (.inl v8), some (.inl r11)]) C dX9_hottest_50 (by decide) rfl ?_
      refine r_iinc (v := 1) C dX9_hottest_52 (by decide) rfl (by decide) (fun x12 => ?_)
      show gw X eI _ [some (.inr (9, 0)), some (.inl a1), some (.inl a2), some (.inl v8), some (.inl r11), some (.inl x12), some (.inl r11)] _ _ _
      refine r_goto (tgt := 18) C dX9_hottest_55 (by decide) ?_
      exact r_weak (lv' := [some (.inr (9, 0)), some (.inl a1), some (.inl a2), some (.inl v8), some (.inl r11), some (.inl x12), none]) ⟨rfl, rfl, rfl, rfl, rfl, rfl, trivial⟩ (hk18 _ _ _ _)
    refine r_goto (tgt := 52) C dX9_hottest_42 (by decide) ?_
    refine r_iinc (v := 1) C dX9_hottest_52 (by decide) rfl (by decide) (fun x13 => ?_)
    show gw X eI _ [some (.inr (9, 0)), some (.inl a1), some (.inl a2), some (.inl v6), some (.inl v7), some (.inl x13), some (.inl r11)] _ _ _
    refine r_goto (tgt := 18) C dX9_hottest_55 (by decide) ?_
    exact r_weak (lv' := [some (.inr (9, 0)), some (.inl a1), some (.inl a2), some (.inl v6), some (.inl v7), some (.inl x13), none]) ⟨rfl, rfl, rfl, rfl, rfl, rfl, trivial⟩ (hk18 _ _ _ _)
  refine r_iconst (v := (-1)) C dX9_hottest_8 (by decide) ?_
  exact r_ireturn C dX9_hottest_9
theorem dX9_hits_0 : decode cX9_hits 0 = .ok (.aload_n 0, 1) := by decide +kernel
theorem dX9_hits_1 : decode cX9_hits 1 = .ok (.iload_n 1, 1) := by decide +kernel
theorem dX9_hits_2 : decode cX9_hits 2 = .ok (.invokevirtual 255, 3) := by decide +kernel
theorem dX9_hits_5 : decode cX9_hits 5 = .ok (.ifCond .ne 5, 3) := by decide +kernel
theorem dX9_hits_8 : decode cX9_hits 8 = .ok (.iconst (-1), 1) := by decide +kernel
theorem dX9_hits_9 : decode cX9_hits 9 = .ok (.ireturn, 1) := by decide +kernel
theorem dX9_hits_10 : decode cX9_hits 10 = .ok (.aload_n 0, 1) := by decide +kernel
theorem dX9_hits_11 : decode cX9_hits 11 = .ok (.invokevirtual 310, 3) := by decide +kernel
theorem dX9_hits_14 : decode cX9_hits 14 = .ok (.aload_n 0, 1) := by decide +kernel
theorem dX9_hits_15 : decode cX9_hits 15 = .ok (.iload_n 1, 1) := by decide +kernel
theorem dX9_hits_16 : decode cX9_hits 16 = .ok (.invokevirtual 246, 3) := by decide +kernel
theorem dX9_hits_19 : decode cX9_hits 19 = .ok (.aload_n 0, 1) := by decide +kernel
theorem dX9_hits_20 : decode cX9_hits 20 = .ok (.iload_n 1, 1) := by decide +kernel
theorem dX9_hits_21 : decode cX9_hits 21 = .ok (.invokevirtual 258, 3) := by decide +kernel
theorem dX9_hits_24 : decode cX9_hits 24 = .ok (.isub, 1) := by decide +kernel
theorem dX9_hits_25 : decode cX9_hits 25 = .ok (.istore_n 2, 1) := by decide +kernel
theorem dX9_hits_26 : decode cX9_hits 26 = .ok (.aload_n 0, 1) := by decide +kernel
theorem dX9_hits_27 : decode cX9_hits 27 = .ok (.invokevirtual 316, 3) := by decide +kernel
theorem dX9_hits_30 : decode cX9_hits 30 = .ok (.iload_n 2, 1) := by decide +kernel
theorem dX9_hits_31 : decode cX9_hits 31 = .ok (.ireturn, 1) := by decide +kernel
def X9_hits (a1 : Int32) (m : gM) : Option (Int32 × gM) :=
  gCall (X9_isTrace a1 m) (fun (r2 : Bool) (m1 : gM) => if r2 = true then (gCall (X9_putAside m1) (fun (r4 : Unit) (m3 : gM) => gCall (X9_lengthOf a1 m3) (fun (r6 : Int32) (m5 : gM) => gCall (X9_runNow a1 m5) (fun (r8 : Int32) (m7 : gM) => gLet (r6 - r8) (fun (x9 : Int32) => gCall (X9_bringBack m7) (fun (r11 : Unit) (m10 : gM) => some (x9, m10))))))) else (some ((-1), m1)))
set_option maxRecDepth 100000 in
set_option maxHeartbeats 4000000 in
theorem c_X9_hits (a1 : Int32) (m : gM) : gCon eI yX9_hits cX9_hits 3 (some .int) 8 [.inr (9, 0), .inl a1] m (X9_hits a1 m) := by
  refine gCon.of (lv := [some (.inr (9, 0)), some (.inl a1), none]) (by decide +kernel) (Nat.le_of_ble_eq_true rfl) rfl (fun X C => ?_)
  unfold X9_hits
  refine r_aload_n C dX9_hits_0 rfl rfl ?_
  refine r_iload_n C dX9_hits_1 rfl rfl ?_
  refine r_invB (t := 9) (kb := 0) (As := [.inl a1]) (st := []) C il_X9_255 co_X9_isTrace (by decide) rfl (c_X9_isTrace a1 m) (by decide) (by decide) rfl rfl (Nat.le_of_ble_eq_true rfl) dX9_hits_2 (fun r2 m1 => ?_)
  refine r_ifneB (tgt := 10) C dX9_hits_5 (by decide) ?_ ?_
  · refine r_aload_n C dX9_hits_10 rfl rfl ?_
    refine r_invU (t := 9) (kb := 0) (As := []) (st := []) C il_X9_310 co_X9_putAside (by decide) rfl (c_X9_putAside m1) (by decide) (by decide) rfl rfl (Nat.le_of_ble_eq_true rfl) dX9_hits_11 (fun r4 m3 => ?_)
    refine r_aload_n C dX9_hits_14 rfl rfl ?_
    refine r_iload_n C dX9_hits_15 rfl rfl ?_
    refine r_invI (t := 9) (kb := 0) (As := [.inl a1]) (st := []) C il_X9_246 co_X9_lengthOf (by decide) rfl (c_X9_lengthOf a1 m3) (by decide) (by decide) rfl rfl (Nat.le_of_ble_eq_true rfl) dX9_hits_16 (fun r6 m5 => ?_)
    refine r_aload_n C dX9_hits_19 rfl rfl ?_
    refine r_iload_n C dX9_hits_20 rfl rfl ?_
    refine r_invI (t := 9) (kb := 0) (As := [.inl a1]) (st := [.inl r6]) C il_X9_258 co_X9_runNow (by decide) rfl (c_X9_runNow a1 m5) (by decide) (by decide) rfl rfl (Nat.le_of_ble_eq_true rfl) dX9_hits_21 (fun r8 m7 => ?_)
    refine r_isub C dX9_hits_24 ?_
    refine r_let (fun x9 => ?_)
    refine r_istore_n (lv' := [some (.inr (9, 0)), some (.inl a1), some (.inl x9)]) C dX9_hits_25 rfl (by decide) rfl ?_
    refine r_aload_n C dX9_hits_26 rfl rfl ?_
    refine r_invU (t := 9) (kb := 0) (As := []) (st := []) C il_X9_316 co_X9_bringBack (by decide) rfl (c_X9_bringBack m7) (by decide) (by decide) rfl rfl (Nat.le_of_ble_eq_true rfl) dX9_hits_27 (fun r11 m10 => ?_)
    refine r_iload_n C dX9_hits_30 rfl rfl ?_
    exact r_ireturn C dX9_hits_31
  refine r_iconst (v := (-1)) C dX9_hits_8 (by decide) ?_
  exact r_ireturn C dX9_hits_9
theorem dX9_missesBy_0 : decode cX9_missesBy 0 = .ok (.aload_n 0, 1) := by decide +kernel
theorem dX9_missesBy_1 : decode cX9_missesBy 1 = .ok (.invokevirtual 310, 3) := by decide +kernel
theorem dX9_missesBy_4 : decode cX9_missesBy 4 = .ok (.aload_n 0, 1) := by decide +kernel
theorem dX9_missesBy_5 : decode cX9_missesBy 5 = .ok (.invokevirtual 234, 3) := by decide +kernel
theorem dX9_missesBy_8 : decode cX9_missesBy 8 = .ok (.istore 4, 2) := by decide +kernel
theorem dX9_missesBy_10 : decode cX9_missesBy 10 = .ok (.aload_n 0, 1) := by decide +kernel
theorem dX9_missesBy_11 : decode cX9_missesBy 11 = .ok (.getfield 7, 3) := by decide +kernel
theorem dX9_missesBy_14 : decode cX9_missesBy 14 = .ok (.bipush 38, 2) := by decide +kernel
theorem dX9_missesBy_16 : decode cX9_missesBy 16 = .ok (.iload_n 2, 1) := by decide +kernel
theorem dX9_missesBy_17 : decode cX9_missesBy 17 = .ok (.iastore, 1) := by decide +kernel
theorem dX9_missesBy_18 : decode cX9_missesBy 18 = .ok (.iload_n 3, 1) := by decide +kernel
theorem dX9_missesBy_19 : decode cX9_missesBy 19 = .ok (.iconst (-1), 1) := by decide +kernel
theorem dX9_missesBy_20 : decode cX9_missesBy 20 = .ok (.if_icmp .eq 8, 3) := by decide +kernel
theorem dX9_missesBy_23 : decode cX9_missesBy 23 = .ok (.aload_n 0, 1) := by decide +kernel
theorem dX9_missesBy_24 : decode cX9_missesBy 24 = .ok (.iload_n 3, 1) := by decide +kernel
theorem dX9_missesBy_25 : decode cX9_missesBy 25 = .ok (.invokevirtual 69, 3) := by decide +kernel
theorem dX9_missesBy_28 : decode cX9_missesBy 28 = .ok (.aload_n 0, 1) := by decide +kernel
theorem dX9_missesBy_29 : decode cX9_missesBy 29 = .ok (.iload_n 1, 1) := by decide +kernel
theorem dX9_missesBy_30 : decode cX9_missesBy 30 = .ok (.invokevirtual 258, 3) := by decide +kernel
theorem dX9_missesBy_33 : decode cX9_missesBy 33 = .ok (.istore 5, 2) := by decide +kernel
theorem dX9_missesBy_35 : decode cX9_missesBy 35 = .ok (.aload_n 0, 1) := by decide +kernel
theorem dX9_missesBy_36 : decode cX9_missesBy 36 = .ok (.invokevirtual 316, 3) := by decide +kernel
theorem dX9_missesBy_39 : decode cX9_missesBy 39 = .ok (.iload 5, 2) := by decide +kernel
theorem dX9_missesBy_41 : decode cX9_missesBy 41 = .ok (.ireturn, 1) := by decide +kernel
def X9_missesBy (a1 : Int32) (a2 : Int32) (a3 : Int32) (m : gM) : Option (Int32 × gM) :=
  gCall (X9_putAside m) (fun (r2 : Unit) (m1 : gM) => gCall (X9_emptyNow m1) (fun (r4 : Int32) (m3 : gM) => gPut m3 47 0 38 a2 (fun (m5 : gM) => gJ0 (fun (m6 : gM) => gCall (X9_runNow a1 m6) (fun (r8 : Int32) (m7 : gM) => gCall (X9_bringBack m7) (fun (r10 : Unit) (m9 : gM) => some (r8, m9)))) (fun (j28 : gM → Option (Int32 × gM)) => if a3 = (-1) then (j28 m5) else (gCall (X9_layFamily a3 m5) (fun (r12 : Unit) (m11 : gM) => j28 m11))))))
set_option maxRecDepth 100000 in
set_option maxHeartbeats 4000000 in
theorem c_X9_missesBy (a1 : Int32) (a2 : Int32) (a3 : Int32) (m : gM) : gCon eI yX9_missesBy cX9_missesBy 6 (some .int) 8 [.inr (9, 0), .inl a1, .inl a2, .inl a3] m (X9_missesBy a1 a2 a3 m) := by
  refine gCon.of (lv := [some (.inr (9, 0)), some (.inl a1), some (.inl a2), some (.inl a3), none, none]) (by decide +kernel) (Nat.le_of_ble_eq_true rfl) rfl (fun X C => ?_)
  unfold X9_missesBy
  refine r_aload_n C dX9_missesBy_0 rfl rfl ?_
  refine r_invU (t := 9) (kb := 0) (As := []) (st := []) C il_X9_310 co_X9_putAside (by decide) rfl (c_X9_putAside m) (by decide) (by decide) rfl rfl (Nat.le_of_ble_eq_true rfl) dX9_missesBy_1 (fun r2 m1 => ?_)
  refine r_aload_n C dX9_missesBy_4 rfl rfl ?_
  refine r_invI (t := 9) (kb := 0) (As := []) (st := []) C il_X9_234 co_X9_emptyNow (by decide) rfl (c_X9_emptyNow m1) (by decide) (by decide) rfl rfl (Nat.le_of_ble_eq_true rfl) dX9_missesBy_5 (fun r4 m3 => ?_)
  refine r_istore (lv' := [some (.inr (9, 0)), some (.inl a1), some (.inl a2), some (.inl a3), some (.inl r4), none]) C dX9_missesBy_8 (by decide) rfl ?_
  refine r_aload_n C dX9_missesBy_10 rfl rfl ?_
  refine r_get (v := .inr (47, 0)) C fl_X9_7 dX9_missesBy_11 rfl ?_
  refine r_bipush (v := 38) C dX9_missesBy_14 (by decide) ?_
  refine r_iload_n C dX9_missesBy_16 rfl rfl ?_
  refine r_iast C rfl dX9_missesBy_17 (fun m5 => ?_)
  refine r_iload_n C dX9_missesBy_18 rfl rfl ?_
  refine r_iconst (v := (-1)) C dX9_missesBy_19 (by decide) ?_
  refine r_j0 28 [some (.inr (9, 0)), some (.inl a1), none, none, none, none] [] (fun m6 => ?_) (fun j28 hj28 => ?_)
  · refine r_aload_n C dX9_missesBy_28 rfl rfl ?_
    refine r_iload_n C dX9_missesBy_29 rfl rfl ?_
    refine r_invI (t := 9) (kb := 0) (As := [.inl a1]) (st := []) C il_X9_258 co_X9_runNow (by decide) rfl (c_X9_runNow a1 m6) (by decide) (by decide) rfl rfl (Nat.le_of_ble_eq_true rfl) dX9_missesBy_30 (fun r8 m7 => ?_)
    refine r_istore (lv' := [some (.inr (9, 0)), some (.inl a1), none, none, none, some (.inl r8)]) C dX9_missesBy_33 (by decide) rfl ?_
    refine r_aload_n C dX9_missesBy_35 rfl rfl ?_
    refine r_invU (t := 9) (kb := 0) (As := []) (st := []) C il_X9_316 co_X9_bringBack (by decide) rfl (c_X9_bringBack m7) (by decide) (by decide) rfl rfl (Nat.le_of_ble_eq_true rfl) dX9_missesBy_36 (fun r10 m9 => ?_)
    refine r_iload C dX9_missesBy_39 rfl ?_
    exact r_ireturn C dX9_missesBy_41
  refine r_icmp_eq (tgt := 28) C dX9_missesBy_20 (by decide) ?_ ?_
  · exact r_weak (lv' := [some (.inr (9, 0)), some (.inl a1), none, none, none, none]) ⟨rfl, rfl, trivial⟩ (hj28 _)
  refine r_aload_n C dX9_missesBy_23 rfl rfl ?_
  refine r_iload_n C dX9_missesBy_24 rfl rfl ?_
  refine r_invU (t := 9) (kb := 0) (As := [.inl a3]) (st := []) C il_X9_69 co_X9_layFamily (by decide) rfl (c_X9_layFamily a3 m5) (by decide) (by decide) rfl rfl (Nat.le_of_ble_eq_true rfl) dX9_missesBy_25 (fun r12 m11 => ?_)
  exact r_weak (lv' := [some (.inr (9, 0)), some (.inl a1), none, none, none, none]) ⟨rfl, rfl, trivial⟩ (hj28 _)
theorem dX9_misses_0 : decode cX9_misses 0 = .ok (.aload_n 0, 1) := by decide +kernel
theorem dX9_misses_1 : decode cX9_misses 1 = .ok (.iload_n 1, 1) := by decide +kernel
theorem dX9_misses_2 : decode cX9_misses 2 = .ok (.invokevirtual 255, 3) := by decide +kernel
theorem dX9_misses_5 : decode cX9_misses 5 = .ok (.ifCond .eq 22, 3) := by decide +kernel
theorem dX9_misses_8 : decode cX9_misses 8 = .ok (.iload_n 2, 1) := by decide +kernel
theorem dX9_misses_9 : decode cX9_misses 9 = .ok (.iconst 0, 1) := by decide +kernel
theorem dX9_misses_10 : decode cX9_misses 10 = .ok (.iconst 3, 1) := by decide +kernel
theorem dX9_misses_11 : decode cX9_misses 11 = .ok (.invokestatic 77, 3) := by decide +kernel
theorem dX9_misses_14 : decode cX9_misses 14 = .ok (.ifCond .eq 13, 3) := by decide +kernel
theorem dX9_misses_17 : decode cX9_misses 17 = .ok (.aload_n 0, 1) := by decide +kernel
theorem dX9_misses_18 : decode cX9_misses 18 = .ok (.iload_n 1, 1) := by decide +kernel
theorem dX9_misses_19 : decode cX9_misses 19 = .ok (.iload_n 2, 1) := by decide +kernel
theorem dX9_misses_20 : decode cX9_misses 20 = .ok (.iconst (-1), 1) := by decide +kernel
theorem dX9_misses_21 : decode cX9_misses 21 = .ok (.invokevirtual 328, 3) := by decide +kernel
theorem dX9_misses_24 : decode cX9_misses 24 = .ok (.goto 4, 3) := by decide +kernel
theorem dX9_misses_27 : decode cX9_misses 27 = .ok (.iconst (-1), 1) := by decide +kernel
theorem dX9_misses_28 : decode cX9_misses 28 = .ok (.ireturn, 1) := by decide +kernel
def X9_misses (a1 : Int32) (a2 : Int32) (m : gM) : Option (Int32 × gM) :=
  gCall (X9_isTrace a1 m) (fun (r2 : Bool) (m1 : gM) => if r2 = true then (gCall (X9_isIn a2 0 3 m1) (fun (r4 : Bool) (m3 : gM) => if r4 = true then (gCall (X9_missesBy a1 a2 (-1) m3) (fun (r6 : Int32) (m5 : gM) => some (r6, m5))) else (some ((-1), m3)))) else (some ((-1), m1)))
set_option maxRecDepth 100000 in
set_option maxHeartbeats 4000000 in
theorem c_X9_misses (a1 : Int32) (a2 : Int32) (m : gM) : gCon eI yX9_misses cX9_misses 3 (some .int) 9 [.inr (9, 0), .inl a1, .inl a2] m (X9_misses a1 a2 m) := by
  refine gCon.of (lv := [some (.inr (9, 0)), some (.inl a1), some (.inl a2)]) (by decide +kernel) (Nat.le_of_ble_eq_true rfl) rfl (fun X C => ?_)
  unfold X9_misses
  refine r_aload_n C dX9_misses_0 rfl rfl ?_
  refine r_iload_n C dX9_misses_1 rfl rfl ?_
  refine r_invB (t := 9) (kb := 0) (As := [.inl a1]) (st := []) C il_X9_255 co_X9_isTrace (by decide) rfl (c_X9_isTrace a1 m) (by decide) (by decide) rfl rfl (Nat.le_of_ble_eq_true rfl) dX9_misses_2 (fun r2 m1 => ?_)
  refine r_ifeqB (tgt := 27) C dX9_misses_5 (by decide) ?_ ?_
  · refine r_iconst (v := (-1)) C dX9_misses_27 (by decide) ?_
    exact r_ireturn C dX9_misses_28
  refine r_iload_n C dX9_misses_8 rfl rfl ?_
  refine r_iconst (v := 0) C dX9_misses_9 (by decide) ?_
  refine r_iconst (v := 3) C dX9_misses_10 (by decide) ?_
  refine r_insB (As := [.inl a2, .inl 0, .inl 3]) (st := []) C il_X9_77 co_X9_isIn (c_X9_isIn a2 0 3 m1) (by decide) (by decide) rfl rfl (Nat.le_of_ble_eq_true rfl) dX9_misses_11 (fun r4 m3 => ?_)
  refine r_ifeqB (tgt := 27) C dX9_misses_14 (by decide) ?_ ?_
  · refine r_iconst (v := (-1)) C dX9_misses_27 (by decide) ?_
    exact r_ireturn C dX9_misses_28
  refine r_aload_n C dX9_misses_17 rfl rfl ?_
  refine r_iload_n C dX9_misses_18 rfl rfl ?_
  refine r_iload_n C dX9_misses_19 rfl rfl ?_
  refine r_iconst (v := (-1)) C dX9_misses_20 (by decide) ?_
  refine r_invI (t := 9) (kb := 0) (As := [.inl a1, .inl a2, .inl (-1)]) (st := []) C il_X9_328 co_X9_missesBy (by decide) rfl (c_X9_missesBy a1 a2 (-1) m3) (by decide) (by decide) rfl rfl (Nat.le_of_ble_eq_true rfl) dX9_misses_21 (fun r6 m5 => ?_)
  refine r_goto (tgt := 28) C dX9_misses_24 (by decide) ?_
  exact r_ireturn C dX9_misses_28
theorem dX9_sweepNow_0 : decode cX9_sweepNow 0 = .ok (.aload_n 0, 1) := by decide +kernel
theorem dX9_sweepNow_1 : decode cX9_sweepNow 1 = .ok (.invokevirtual 234, 3) := by decide +kernel
theorem dX9_sweepNow_4 : decode cX9_sweepNow 4 = .ok (.istore 4, 2) := by decide +kernel
theorem dX9_sweepNow_6 : decode cX9_sweepNow 6 = .ok (.aload_n 0, 1) := by decide +kernel
theorem dX9_sweepNow_7 : decode cX9_sweepNow 7 = .ok (.getfield 7, 3) := by decide +kernel
theorem dX9_sweepNow_10 : decode cX9_sweepNow 10 = .ok (.bipush 40, 2) := by decide +kernel
theorem dX9_sweepNow_12 : decode cX9_sweepNow 12 = .ok (.iaload, 1) := by decide +kernel
theorem dX9_sweepNow_13 : decode cX9_sweepNow 13 = .ok (.istore 5, 2) := by decide +kernel
theorem dX9_sweepNow_15 : decode cX9_sweepNow 15 = .ok (.iconst 0, 1) := by decide +kernel
theorem dX9_sweepNow_16 : decode cX9_sweepNow 16 = .ok (.istore 6, 2) := by decide +kernel
theorem dX9_sweepNow_18 : decode cX9_sweepNow 18 = .ok (.iload 6, 2) := by decide +kernel
theorem dX9_sweepNow_20 : decode cX9_sweepNow 20 = .ok (.iload_n 3, 1) := by decide +kernel
theorem dX9_sweepNow_21 : decode cX9_sweepNow 21 = .ok (.if_icmp .ge 37, 3) := by decide +kernel
theorem dX9_sweepNow_24 : decode cX9_sweepNow 24 = .ok (.iconst 0, 1) := by decide +kernel
theorem dX9_sweepNow_25 : decode cX9_sweepNow 25 = .ok (.istore 7, 2) := by decide +kernel
theorem dX9_sweepNow_27 : decode cX9_sweepNow 27 = .ok (.iload 7, 2) := by decide +kernel
theorem dX9_sweepNow_29 : decode cX9_sweepNow 29 = .ok (.iload_n 2, 1) := by decide +kernel
theorem dX9_sweepNow_30 : decode cX9_sweepNow 30 = .ok (.if_icmp .ge 22, 3) := by decide +kernel
theorem dX9_sweepNow_33 : decode cX9_sweepNow 33 = .ok (.aload_n 0, 1) := by decide +kernel
theorem dX9_sweepNow_34 : decode cX9_sweepNow 34 = .ok (.iload 7, 2) := by decide +kernel
theorem dX9_sweepNow_36 : decode cX9_sweepNow 36 = .ok (.iload_n 1, 1) := by decide +kernel
theorem dX9_sweepNow_37 : decode cX9_sweepNow 37 = .ok (.imul, 1) := by decide +kernel
theorem dX9_sweepNow_38 : decode cX9_sweepNow 38 = .ok (.sipush 1024, 3) := by decide +kernel
theorem dX9_sweepNow_41 : decode cX9_sweepNow 41 = .ok (.irem, 1) := by decide +kernel
theorem dX9_sweepNow_42 : decode cX9_sweepNow 42 = .ok (.invokevirtual 199, 3) := by decide +kernel
theorem dX9_sweepNow_45 : decode cX9_sweepNow 45 = .ok (.pop, 1) := by decide +kernel
theorem dX9_sweepNow_46 : decode cX9_sweepNow 46 = .ok (.iinc 7 1, 3) := by decide +kernel
theorem dX9_sweepNow_49 : decode cX9_sweepNow 49 = .ok (.goto (-22), 3) := by decide +kernel
theorem dX9_sweepNow_52 : decode cX9_sweepNow 52 = .ok (.iinc 6 1, 3) := by decide +kernel
theorem dX9_sweepNow_55 : decode cX9_sweepNow 55 = .ok (.goto (-37), 3) := by decide +kernel
theorem dX9_sweepNow_58 : decode cX9_sweepNow 58 = .ok (.aload_n 0, 1) := by decide +kernel
theorem dX9_sweepNow_59 : decode cX9_sweepNow 59 = .ok (.getfield 7, 3) := by decide +kernel
theorem dX9_sweepNow_62 : decode cX9_sweepNow 62 = .ok (.bipush 40, 2) := by decide +kernel
theorem dX9_sweepNow_64 : decode cX9_sweepNow 64 = .ok (.iaload, 1) := by decide +kernel
theorem dX9_sweepNow_65 : decode cX9_sweepNow 65 = .ok (.iload 5, 2) := by decide +kernel
theorem dX9_sweepNow_67 : decode cX9_sweepNow 67 = .ok (.isub, 1) := by decide +kernel
theorem dX9_sweepNow_68 : decode cX9_sweepNow 68 = .ok (.ireturn, 1) := by decide +kernel
def X9_sweepNow_b27 (a1 : Int32) (a2 : Int32) (k18 : Int32 → gM → Option (Int32 × gM)) (v6 : Int32) (v8 : Int32) (m9 : gM) (k27 : Int32 → gM → Option (Int32 × gM)) : Option (Int32 × gM) :=
  if a2 ≤ v8 then (gLet (v6 + 1) (fun (x10 : Int32) => k18 x10 m9)) else (gCall (X9_askNow (gRem (v8 * a1) 1024) m9) (fun (r12 : Bool) (m11 : gM) => gLet (v8 + 1) (fun (x13 : Int32) => k27 x13 m11)))
def X9_sweepNow_b18 (a1 : Int32) (a2 : Int32) (a3 : Int32) (j58 : gM → Option (Int32 × gM)) (v6 : Int32) (m7 : gM) (k18 : Int32 → gM → Option (Int32 × gM)) : Option (Int32 × gM) :=
  if a3 ≤ v6 then (j58 m7) else (gL1 FU (X9_sweepNow_b27 a1 a2 k18 v6) 0 m7)
def X9_sweepNow (a1 : Int32) (a2 : Int32) (a3 : Int32) (m : gM) : Option (Int32 × gM) :=
  gCall (X9_emptyNow m) (fun (r2 : Int32) (m1 : gM) => gAt m1 47 0 40 (fun (x3 : Int32) => gJ0 (fun (m4 : gM) => gAt m4 47 0 40 (fun (x5 : Int32) => some (x5 - x3, m4))) (fun (j58 : gM → Option (Int32 × gM)) => gL1 FU (X9_sweepNow_b18 a1 a2 a3 j58) 0 m1)))
set_option maxRecDepth 100000 in
set_option maxHeartbeats 4000000 in
theorem c_X9_sweepNow (a1 : Int32) (a2 : Int32) (a3 : Int32) (m : gM) : gCon eI yX9_sweepNow cX9_sweepNow 8 (some .int) 6 [.inr (9, 0), .inl a1, .inl a2, .inl a3] m (X9_sweepNow a1 a2 a3 m) := by
  refine gCon.of (lv := [some (.inr (9, 0)), some (.inl a1), some (.inl a2), some (.inl a3), none, none, none, none]) (by decide +kernel) (Nat.le_of_ble_eq_true rfl) rfl (fun X C => ?_)
  unfold X9_sweepNow
  refine r_aload_n C dX9_sweepNow_0 rfl rfl ?_
  refine r_invI (t := 9) (kb := 0) (As := []) (st := []) C il_X9_234 co_X9_emptyNow (by decide) rfl (c_X9_emptyNow m) (by decide) (by decide) rfl rfl (Nat.le_of_ble_eq_true rfl) dX9_sweepNow_1 (fun r2 m1 => ?_)
  refine r_istore (lv' := [some (.inr (9, 0)), some (.inl a1), some (.inl a2), some (.inl a3), some (.inl r2), none, none, none]) C dX9_sweepNow_4 (by decide) rfl ?_
  refine r_aload_n C dX9_sweepNow_6 rfl rfl ?_
  refine r_get (v := .inr (47, 0)) C fl_X9_7 dX9_sweepNow_7 rfl ?_
  refine r_bipush (v := 40) C dX9_sweepNow_10 (by decide) ?_
  refine r_iald C rfl dX9_sweepNow_12 (fun x3 => ?_)
  refine r_istore (lv' := [some (.inr (9, 0)), some (.inl a1), some (.inl a2), some (.inl a3), some (.inl r2), some (.inl x3), none, none]) C dX9_sweepNow_13 (by decide) rfl ?_
  refine r_iconst (v := 0) C dX9_sweepNow_15 (by decide) ?_
  refine r_istore (lv' := [some (.inr (9, 0)), some (.inl a1), some (.inl a2), some (.inl a3), some (.inl r2), some (.inl x3), some (.inl 0), none]) C dX9_sweepNow_16 (by decide) rfl ?_
  refine r_j0 58 [some (.inr (9, 0)), none, none, none, none, some (.inl x3), none, none] [] (fun m4 => ?_) (fun j58 hj58 => ?_)
  · refine r_aload_n C dX9_sweepNow_58 rfl rfl ?_
    refine r_get (v := .inr (47, 0)) C fl_X9_7 dX9_sweepNow_59 rfl ?_
    refine r_bipush (v := 40) C dX9_sweepNow_62 (by decide) ?_
    refine r_iald C rfl dX9_sweepNow_64 (fun x5 => ?_)
    refine r_iload C dX9_sweepNow_65 rfl ?_
    refine r_isub C dX9_sweepNow_67 ?_
    exact r_ireturn C dX9_sweepNow_68
  refine r_weak (lv' := [some (.inr (9, 0)), some (.inl a1), some (.inl a2), some (.inl a3), none, some (.inl x3), some (.inl 0), none]) ⟨rfl, rfl, rfl, rfl, rfl, rfl, trivial⟩ ?_
  refine r_l1 (pj := 18) (fun v6 => [some (.inr (9, 0)), some (.inl a1), some (.inl a2), some (.inl a3), none, some (.inl x3), some (.inl v6), none]) (fun v6 m7 k18 hk18 => ?_) _ _ _
  unfold X9_sweepNow_b18
  refine r_iload C dX9_sweepNow_18 rfl ?_
  refine r_iload_n C dX9_sweepNow_20 rfl rfl ?_
  refine r_icmp_ge (tgt := 58) C dX9_sweepNow_21 (by decide) ?_ ?_
  · exact r_weak (lv' := [some (.inr (9, 0)), none, none, none, none, some (.inl x3), none, none]) ⟨rfl, rfl, trivial⟩ (hj58 _)
  refine r_iconst (v := 0) C dX9_sweepNow_24 (by decide) ?_
  refine r_istore (lv' := [some (.inr (9, 0)), some (.inl a1), some (.inl a2), some (.inl a3), none, some (.inl x3), some (.inl v6), some (.inl 0)]) C dX9_sweepNow_25 (by decide) rfl ?_
  refine r_weak (lv' := [some (.inr (9, 0)), some (.inl a1), some (.inl a2), some (.inl a3), none, some (.inl x3), some (.inl v6), some (.inl 0)]) ⟨rfl, rfl, rfl, rfl, rfl, rfl, rfl, trivial⟩ ?_
  refine r_l1 (pj := 27) (fun v8 => [some (.inr (9, 0)), some (.inl a1), some (.inl a2), some (.inl a3), none, some (.inl x3), some (.inl v6), some (.inl v8)]) (fun v8 m9 k27 hk27 => ?_) _ _ _
  unfold X9_sweepNow_b27
  refine r_iload C dX9_sweepNow_27 rfl ?_
  refine r_iload_n C dX9_sweepNow_29 rfl rfl ?_
  refine r_icmp_ge (tgt := 52) C dX9_sweepNow_30 (by decide) ?_ ?_
  · refine r_iinc (v := 1) C dX9_sweepNow_52 (by decide) rfl (by decide) (fun x10 => ?_)
    show gw X eI _ [some (.inr (9, 0)), some (.inl a1), some (.inl a2), some (.inl a3), none, some (.inl x3), some (.inl x10), some (.inl v8)] _ _ _
    refine r_goto (tgt := 18) C dX9_sweepNow_55 (by decide) ?_
    exact r_weak (lv' := [some (.inr (9, 0)), some (.inl a1), some (.inl a2), some (.inl a3), none, some (.inl x3), some (.inl x10), none]) ⟨rfl, rfl, rfl, rfl, rfl, rfl, trivial⟩ (hk18 _ _)
  refine r_aload_n C dX9_sweepNow_33 rfl rfl ?_
  refine r_iload C dX9_sweepNow_34 rfl ?_
  refine r_iload_n C dX9_sweepNow_36 rfl rfl ?_
  refine r_imul C dX9_sweepNow_37 ?_
  refine r_sipush (v := 1024) C dX9_sweepNow_38 (by decide) ?_
  refine r_irem C dX9_sweepNow_41 (by decide) ?_
  refine r_invB (t := 9) (kb := 0) (As := [.inl (gRem (v8 * a1) 1024)]) (st := []) C il_X9_199 co_X9_askNow (by decide) rfl (c_X9_askNow (gRem (v8 * a1) 1024) m9) (by decide) (by decide) rfl rfl (Nat.le_of_ble_eq_true rfl) dX9_sweepNow_42 (fun r12 m11 => ?_)
  refine r_pop C dX9_sweepNow_45 ?_
  refine r_iinc (v := 1) C dX9_sweepNow_46 (by decide) rfl (by decide) (fun x13 => ?_)
  show gw X eI _ [some (.inr (9, 0)), some (.inl a1), some (.inl a2), some (.inl a3), none, some (.inl x3), some (.inl v6), some (.inl x13)] _ _ _
  refine r_goto (tgt := 27) C dX9_sweepNow_49 (by decide) ?_
  exact r_weak (lv' := [some (.inr (9, 0)), some (.inl a1), some (.inl a2), some (.inl a3), none, some (.inl x3), some (.inl v6), some (.inl x13)]) ⟨rfl, rfl, rfl, rfl, rfl, rfl, rfl, trivial⟩ (hk27 _ _)
theorem dX9_isSwept_0 : decode cX9_isSwept 0 = .ok (.iload_n 0, 1) := by decide +kernel
theorem dX9_isSwept_1 : decode cX9_isSwept 1 = .ok (.iconst 1, 1) := by decide +kernel
theorem dX9_isSwept_2 : decode cX9_isSwept 2 = .ok (.sipush 1023, 3) := by decide +kernel
theorem dX9_isSwept_5 : decode cX9_isSwept 5 = .ok (.invokestatic 77, 3) := by decide +kernel
theorem dX9_isSwept_8 : decode cX9_isSwept 8 = .ok (.ifCond .eq 17, 3) := by decide +kernel
theorem dX9_isSwept_11 : decode cX9_isSwept 11 = .ok (.iload_n 1, 1) := by decide +kernel
theorem dX9_isSwept_12 : decode cX9_isSwept 12 = .ok (.iconst 1, 1) := by decide +kernel
theorem dX9_isSwept_13 : decode cX9_isSwept 13 = .ok (.bipush 64, 2) := by decide +kernel
theorem dX9_isSwept_15 : decode cX9_isSwept 15 = .ok (.invokestatic 77, 3) := by decide +kernel
theorem dX9_isSwept_18 : decode cX9_isSwept 18 = .ok (.ifCond .eq 7, 3) := by decide +kernel
theorem dX9_isSwept_21 : decode cX9_isSwept 21 = .ok (.iconst 1, 1) := by decide +kernel
theorem dX9_isSwept_22 : decode cX9_isSwept 22 = .ok (.goto 4, 3) := by decide +kernel
theorem dX9_isSwept_25 : decode cX9_isSwept 25 = .ok (.iconst 0, 1) := by decide +kernel
theorem dX9_isSwept_26 : decode cX9_isSwept 26 = .ok (.ireturn, 1) := by decide +kernel
def X9_isSwept (a1 : Int32) (a2 : Int32) (m : gM) : Option (Bool × gM) :=
  gCall (X9_isIn a1 1 1023 m) (fun (r2 : Bool) (m1 : gM) => if r2 = true then (gCall (X9_isIn a2 1 64 m1) (fun (r4 : Bool) (m3 : gM) => if r4 = true then (some (true, m3)) else (some (false, m3)))) else (some (false, m1)))
set_option maxRecDepth 100000 in
set_option maxHeartbeats 4000000 in
theorem c_X9_isSwept (a1 : Int32) (a2 : Int32) (m : gM) : gCon eB yX9_isSwept cX9_isSwept 2 (some .boolean) 1 [.inl a1, .inl a2] m (X9_isSwept a1 a2 m) := by
  refine gCon.of (lv := [some (.inl a1), some (.inl a2)]) (by decide +kernel) (Nat.le_of_ble_eq_true rfl) rfl (fun X C => ?_)
  unfold X9_isSwept
  refine r_iload_n C dX9_isSwept_0 rfl rfl ?_
  refine r_iconst (v := 1) C dX9_isSwept_1 (by decide) ?_
  refine r_sipush (v := 1023) C dX9_isSwept_2 (by decide) ?_
  refine r_insB (As := [.inl a1, .inl 1, .inl 1023]) (st := []) C il_X9_77 co_X9_isIn (c_X9_isIn a1 1 1023 m) (by decide) (by decide) rfl rfl (Nat.le_of_ble_eq_true rfl) dX9_isSwept_5 (fun r2 m1 => ?_)
  refine r_ifeqB (tgt := 25) C dX9_isSwept_8 (by decide) ?_ ?_
  · refine r_iconst (v := 0) C dX9_isSwept_25 (by decide) ?_
    exact r_zret0 C dX9_isSwept_26
  refine r_iload_n C dX9_isSwept_11 rfl rfl ?_
  refine r_iconst (v := 1) C dX9_isSwept_12 (by decide) ?_
  refine r_bipush (v := 64) C dX9_isSwept_13 (by decide) ?_
  refine r_insB (As := [.inl a2, .inl 1, .inl 64]) (st := []) C il_X9_77 co_X9_isIn (c_X9_isIn a2 1 64 m1) (by decide) (by decide) rfl rfl (Nat.le_of_ble_eq_true rfl) dX9_isSwept_15 (fun r4 m3 => ?_)
  refine r_ifeqB (tgt := 25) C dX9_isSwept_18 (by decide) ?_ ?_
  · refine r_iconst (v := 0) C dX9_isSwept_25 (by decide) ?_
    exact r_zret0 C dX9_isSwept_26
  refine r_iconst (v := 1) C dX9_isSwept_21 (by decide) ?_
  refine r_goto (tgt := 26) C dX9_isSwept_22 (by decide) ?_
  exact r_zret1 C dX9_isSwept_26
theorem dX9_sweep_0 : decode cX9_sweep 0 = .ok (.iload_n 1, 1) := by decide +kernel
theorem dX9_sweep_1 : decode cX9_sweep 1 = .ok (.iload_n 2, 1) := by decide +kernel
theorem dX9_sweep_2 : decode cX9_sweep 2 = .ok (.invokestatic 331, 3) := by decide +kernel
theorem dX9_sweep_5 : decode cX9_sweep 5 = .ok (.ifCond .eq 13, 3) := by decide +kernel
theorem dX9_sweep_8 : decode cX9_sweep 8 = .ok (.iload_n 3, 1) := by decide +kernel
theorem dX9_sweep_9 : decode cX9_sweep 9 = .ok (.iconst 1, 1) := by decide +kernel
theorem dX9_sweep_10 : decode cX9_sweep 10 = .ok (.bipush 9, 2) := by decide +kernel
theorem dX9_sweep_12 : decode cX9_sweep 12 = .ok (.invokestatic 77, 3) := by decide +kernel
theorem dX9_sweep_15 : decode cX9_sweep 15 = .ok (.ifCond .ne 5, 3) := by decide +kernel
theorem dX9_sweep_18 : decode cX9_sweep 18 = .ok (.iconst (-1), 1) := by decide +kernel
theorem dX9_sweep_19 : decode cX9_sweep 19 = .ok (.ireturn, 1) := by decide +kernel
theorem dX9_sweep_20 : decode cX9_sweep 20 = .ok (.aload_n 0, 1) := by decide +kernel
theorem dX9_sweep_21 : decode cX9_sweep 21 = .ok (.invokevirtual 310, 3) := by decide +kernel
theorem dX9_sweep_24 : decode cX9_sweep 24 = .ok (.aload_n 0, 1) := by decide +kernel
theorem dX9_sweep_25 : decode cX9_sweep 25 = .ok (.iload_n 1, 1) := by decide +kernel
theorem dX9_sweep_26 : decode cX9_sweep 26 = .ok (.iload_n 2, 1) := by decide +kernel
theorem dX9_sweep_27 : decode cX9_sweep 27 = .ok (.iload_n 3, 1) := by decide +kernel
theorem dX9_sweep_28 : decode cX9_sweep 28 = .ok (.invokevirtual 334, 3) := by decide +kernel
theorem dX9_sweep_31 : decode cX9_sweep 31 = .ok (.istore 4, 2) := by decide +kernel
theorem dX9_sweep_33 : decode cX9_sweep 33 = .ok (.aload_n 0, 1) := by decide +kernel
theorem dX9_sweep_34 : decode cX9_sweep 34 = .ok (.invokevirtual 316, 3) := by decide +kernel
theorem dX9_sweep_37 : decode cX9_sweep 37 = .ok (.iload 4, 2) := by decide +kernel
theorem dX9_sweep_39 : decode cX9_sweep 39 = .ok (.ireturn, 1) := by decide +kernel
def X9_sweep (a1 : Int32) (a2 : Int32) (a3 : Int32) (m : gM) : Option (Int32 × gM) :=
  gCall (X9_isSwept a1 a2 m) (fun (r2 : Bool) (m1 : gM) => if r2 = true then (gCall (X9_isIn a3 1 9 m1) (fun (r4 : Bool) (m3 : gM) => if r4 = true then (gCall (X9_putAside m3) (fun (r6 : Unit) (m5 : gM) => gCall (X9_sweepNow a1 a2 a3 m5) (fun (r8 : Int32) (m7 : gM) => gCall (X9_bringBack m7) (fun (r10 : Unit) (m9 : gM) => some (r8, m9))))) else (some ((-1), m3)))) else (some ((-1), m1)))
set_option maxRecDepth 100000 in
set_option maxHeartbeats 4000000 in
theorem c_X9_sweep (a1 : Int32) (a2 : Int32) (a3 : Int32) (m : gM) : gCon eI yX9_sweep cX9_sweep 5 (some .int) 7 [.inr (9, 0), .inl a1, .inl a2, .inl a3] m (X9_sweep a1 a2 a3 m) := by
  refine gCon.of (lv := [some (.inr (9, 0)), some (.inl a1), some (.inl a2), some (.inl a3), none]) (by decide +kernel) (Nat.le_of_ble_eq_true rfl) rfl (fun X C => ?_)
  unfold X9_sweep
  refine r_iload_n C dX9_sweep_0 rfl rfl ?_
  refine r_iload_n C dX9_sweep_1 rfl rfl ?_
  refine r_insB (As := [.inl a1, .inl a2]) (st := []) C il_X9_331 co_X9_isSwept (c_X9_isSwept a1 a2 m) (by decide) (by decide) rfl rfl (Nat.le_of_ble_eq_true rfl) dX9_sweep_2 (fun r2 m1 => ?_)
  refine r_ifeqB (tgt := 18) C dX9_sweep_5 (by decide) ?_ ?_
  · refine r_iconst (v := (-1)) C dX9_sweep_18 (by decide) ?_
    exact r_ireturn C dX9_sweep_19
  refine r_iload_n C dX9_sweep_8 rfl rfl ?_
  refine r_iconst (v := 1) C dX9_sweep_9 (by decide) ?_
  refine r_bipush (v := 9) C dX9_sweep_10 (by decide) ?_
  refine r_insB (As := [.inl a3, .inl 1, .inl 9]) (st := []) C il_X9_77 co_X9_isIn (c_X9_isIn a3 1 9 m1) (by decide) (by decide) rfl rfl (Nat.le_of_ble_eq_true rfl) dX9_sweep_12 (fun r4 m3 => ?_)
  refine r_ifneB (tgt := 20) C dX9_sweep_15 (by decide) ?_ ?_
  · refine r_aload_n C dX9_sweep_20 rfl rfl ?_
    refine r_invU (t := 9) (kb := 0) (As := []) (st := []) C il_X9_310 co_X9_putAside (by decide) rfl (c_X9_putAside m3) (by decide) (by decide) rfl rfl (Nat.le_of_ble_eq_true rfl) dX9_sweep_21 (fun r6 m5 => ?_)
    refine r_aload_n C dX9_sweep_24 rfl rfl ?_
    refine r_iload_n C dX9_sweep_25 rfl rfl ?_
    refine r_iload_n C dX9_sweep_26 rfl rfl ?_
    refine r_iload_n C dX9_sweep_27 rfl rfl ?_
    refine r_invI (t := 9) (kb := 0) (As := [.inl a1, .inl a2, .inl a3]) (st := []) C il_X9_334 co_X9_sweepNow (by decide) rfl (c_X9_sweepNow a1 a2 a3 m5) (by decide) (by decide) rfl rfl (Nat.le_of_ble_eq_true rfl) dX9_sweep_28 (fun r8 m7 => ?_)
    refine r_istore (lv' := [some (.inr (9, 0)), some (.inl a1), some (.inl a2), some (.inl a3), some (.inl r8)]) C dX9_sweep_31 (by decide) rfl ?_
    refine r_aload_n C dX9_sweep_33 rfl rfl ?_
    refine r_invU (t := 9) (kb := 0) (As := []) (st := []) C il_X9_316 co_X9_bringBack (by decide) rfl (c_X9_bringBack m7) (by decide) (by decide) rfl rfl (Nat.le_of_ble_eq_true rfl) dX9_sweep_34 (fun r10 m9 => ?_)
    refine r_iload C dX9_sweep_37 rfl ?_
    exact r_ireturn C dX9_sweep_39
  refine r_iconst (v := (-1)) C dX9_sweep_18 (by decide) ?_
  exact r_ireturn C dX9_sweep_19
theorem dX9_holds_0 : decode cX9_holds 0 = .ok (.iload_n 1, 1) := by decide +kernel
theorem dX9_holds_1 : decode cX9_holds 1 = .ok (.iload_n 2, 1) := by decide +kernel
theorem dX9_holds_2 : decode cX9_holds 2 = .ok (.invokestatic 331, 3) := by decide +kernel
theorem dX9_holds_5 : decode cX9_holds 5 = .ok (.ifCond .ne 5, 3) := by decide +kernel
theorem dX9_holds_8 : decode cX9_holds 8 = .ok (.iconst (-1), 1) := by decide +kernel
theorem dX9_holds_9 : decode cX9_holds 9 = .ok (.ireturn, 1) := by decide +kernel
theorem dX9_holds_10 : decode cX9_holds 10 = .ok (.aload_n 0, 1) := by decide +kernel
theorem dX9_holds_11 : decode cX9_holds 11 = .ok (.invokevirtual 310, 3) := by decide +kernel
theorem dX9_holds_14 : decode cX9_holds 14 = .ok (.aload_n 0, 1) := by decide +kernel
theorem dX9_holds_15 : decode cX9_holds 15 = .ok (.iload_n 1, 1) := by decide +kernel
theorem dX9_holds_16 : decode cX9_holds 16 = .ok (.iload_n 2, 1) := by decide +kernel
theorem dX9_holds_17 : decode cX9_holds 17 = .ok (.iconst 1, 1) := by decide +kernel
theorem dX9_holds_18 : decode cX9_holds 18 = .ok (.invokevirtual 334, 3) := by decide +kernel
theorem dX9_holds_21 : decode cX9_holds 21 = .ok (.istore_n 3, 1) := by decide +kernel
theorem dX9_holds_22 : decode cX9_holds 22 = .ok (.aload_n 0, 1) := by decide +kernel
theorem dX9_holds_23 : decode cX9_holds 23 = .ok (.invokevirtual 267, 3) := by decide +kernel
theorem dX9_holds_26 : decode cX9_holds 26 = .ok (.istore 4, 2) := by decide +kernel
theorem dX9_holds_28 : decode cX9_holds 28 = .ok (.aload_n 0, 1) := by decide +kernel
theorem dX9_holds_29 : decode cX9_holds 29 = .ok (.invokevirtual 316, 3) := by decide +kernel
theorem dX9_holds_32 : decode cX9_holds 32 = .ok (.iload 4, 2) := by decide +kernel
theorem dX9_holds_34 : decode cX9_holds 34 = .ok (.ireturn, 1) := by decide +kernel
def X9_holds (a1 : Int32) (a2 : Int32) (m : gM) : Option (Int32 × gM) :=
  gCall (X9_isSwept a1 a2 m) (fun (r2 : Bool) (m1 : gM) => if r2 = true then (gCall (X9_putAside m1) (fun (r4 : Unit) (m3 : gM) => gCall (X9_sweepNow a1 a2 1 m3) (fun (r6 : Int32) (m5 : gM) => gCall (X9_inSlots m5) (fun (r8 : Int32) (m7 : gM) => gCall (X9_bringBack m7) (fun (r10 : Unit) (m9 : gM) => some (r8, m9)))))) else (some ((-1), m1)))
set_option maxRecDepth 100000 in
set_option maxHeartbeats 4000000 in
theorem c_X9_holds (a1 : Int32) (a2 : Int32) (m : gM) : gCon eI yX9_holds cX9_holds 5 (some .int) 7 [.inr (9, 0), .inl a1, .inl a2] m (X9_holds a1 a2 m) := by
  refine gCon.of (lv := [some (.inr (9, 0)), some (.inl a1), some (.inl a2), none, none]) (by decide +kernel) (Nat.le_of_ble_eq_true rfl) rfl (fun X C => ?_)
  unfold X9_holds
  refine r_iload_n C dX9_holds_0 rfl rfl ?_
  refine r_iload_n C dX9_holds_1 rfl rfl ?_
  refine r_insB (As := [.inl a1, .inl a2]) (st := []) C il_X9_331 co_X9_isSwept (c_X9_isSwept a1 a2 m) (by decide) (by decide) rfl rfl (Nat.le_of_ble_eq_true rfl) dX9_holds_2 (fun r2 m1 => ?_)
  refine r_ifneB (tgt := 10) C dX9_holds_5 (by decide) ?_ ?_
  · refine r_aload_n C dX9_holds_10 rfl rfl ?_
    refine r_invU (t := 9) (kb := 0) (As := []) (st := []) C il_X9_310 co_X9_putAside (by decide) rfl (c_X9_putAside m1) (by decide) (by decide) rfl rfl (Nat.le_of_ble_eq_true rfl) dX9_holds_11 (fun r4 m3 => ?_)
    refine r_aload_n C dX9_holds_14 rfl rfl ?_
    refine r_iload_n C dX9_holds_15 rfl rfl ?_
    refine r_iload_n C dX9_holds_16 rfl rfl ?_
    refine r_iconst (v := 1) C dX9_holds_17 (by decide) ?_
    refine r_invI (t := 9) (kb := 0) (As := [.inl a1, .inl a2, .inl 1]) (st := []) C il_X9_334 co_X9_sweepNow (by decide) rfl (c_X9_sweepNow a1 a2 1 m3) (by decide) (by decide) rfl rfl (Nat.le_of_ble_eq_true rfl) dX9_holds_18 (fun r6 m5 => ?_)
    refine r_istore_n (lv' := [some (.inr (9, 0)), some (.inl a1), some (.inl a2), some (.inl r6), none]) C dX9_holds_21 rfl (by decide) rfl ?_
    refine r_aload_n C dX9_holds_22 rfl rfl ?_
    refine r_invI (t := 9) (kb := 0) (As := []) (st := []) C il_X9_267 co_X9_inSlots (by decide) rfl (c_X9_inSlots m5) (by decide) (by decide) rfl rfl (Nat.le_of_ble_eq_true rfl) dX9_holds_23 (fun r8 m7 => ?_)
    refine r_istore (lv' := [some (.inr (9, 0)), some (.inl a1), some (.inl a2), some (.inl r6), some (.inl r8)]) C dX9_holds_26 (by decide) rfl ?_
    refine r_aload_n C dX9_holds_28 rfl rfl ?_
    refine r_invU (t := 9) (kb := 0) (As := []) (st := []) C il_X9_316 co_X9_bringBack (by decide) rfl (c_X9_bringBack m7) (by decide) (by decide) rfl rfl (Nat.le_of_ble_eq_true rfl) dX9_holds_29 (fun r10 m9 => ?_)
    refine r_iload C dX9_holds_32 rfl ?_
    exact r_ireturn C dX9_holds_34
  refine r_iconst (v := (-1)) C dX9_holds_8 (by decide) ?_
  exact r_ireturn C dX9_holds_9
theorem dX9_deepest_0 : decode cX9_deepest 0 = .ok (.aload_n 0, 1) := by decide +kernel
theorem dX9_deepest_1 : decode cX9_deepest 1 = .ok (.iload_n 1, 1) := by decide +kernel
theorem dX9_deepest_2 : decode cX9_deepest 2 = .ok (.invokevirtual 255, 3) := by decide +kernel
theorem dX9_deepest_5 : decode cX9_deepest 5 = .ok (.ifCond .ne 5, 3) := by decide +kernel
theorem dX9_deepest_8 : decode cX9_deepest 8 = .ok (.iconst (-1), 1) := by decide +kernel
theorem dX9_deepest_9 : decode cX9_deepest 9 = .ok (.ireturn, 1) := by decide +kernel
theorem dX9_deepest_10 : decode cX9_deepest 10 = .ok (.iconst 0, 1) := by decide +kernel
theorem dX9_deepest_11 : decode cX9_deepest 11 = .ok (.istore_n 2, 1) := by decide +kernel
theorem dX9_deepest_12 : decode cX9_deepest 12 = .ok (.iconst 1, 1) := by decide +kernel
theorem dX9_deepest_13 : decode cX9_deepest 13 = .ok (.istore_n 3, 1) := by decide +kernel
theorem dX9_deepest_14 : decode cX9_deepest 14 = .ok (.iload_n 3, 1) := by decide +kernel
theorem dX9_deepest_15 : decode cX9_deepest 15 = .ok (.iconst 4, 1) := by decide +kernel
theorem dX9_deepest_16 : decode cX9_deepest 16 = .ok (.if_icmp .ge 28, 3) := by decide +kernel
theorem dX9_deepest_19 : decode cX9_deepest 19 = .ok (.aload_n 0, 1) := by decide +kernel
theorem dX9_deepest_20 : decode cX9_deepest 20 = .ok (.iload_n 1, 1) := by decide +kernel
theorem dX9_deepest_21 : decode cX9_deepest 21 = .ok (.iload_n 3, 1) := by decide +kernel
theorem dX9_deepest_22 : decode cX9_deepest 22 = .ok (.iconst (-1), 1) := by decide +kernel
theorem dX9_deepest_23 : decode cX9_deepest 23 = .ok (.invokevirtual 328, 3) := by decide +kernel
theorem dX9_deepest_26 : decode cX9_deepest 26 = .ok (.aload_n 0, 1) := by decide +kernel
theorem dX9_deepest_27 : decode cX9_deepest 27 = .ok (.iload_n 1, 1) := by decide +kernel
theorem dX9_deepest_28 : decode cX9_deepest 28 = .ok (.iload_n 2, 1) := by decide +kernel
theorem dX9_deepest_29 : decode cX9_deepest 29 = .ok (.iconst (-1), 1) := by decide +kernel
theorem dX9_deepest_30 : decode cX9_deepest 30 = .ok (.invokevirtual 328, 3) := by decide +kernel
theorem dX9_deepest_33 : decode cX9_deepest 33 = .ok (.if_icmp .ge 5, 3) := by decide +kernel
theorem dX9_deepest_36 : decode cX9_deepest 36 = .ok (.iload_n 3, 1) := by decide +kernel
theorem dX9_deepest_37 : decode cX9_deepest 37 = .ok (.istore_n 2, 1) := by decide +kernel
theorem dX9_deepest_38 : decode cX9_deepest 38 = .ok (.iinc 3 1, 3) := by decide +kernel
theorem dX9_deepest_41 : decode cX9_deepest 41 = .ok (.goto (-27), 3) := by decide +kernel
theorem dX9_deepest_44 : decode cX9_deepest 44 = .ok (.iload_n 2, 1) := by decide +kernel
theorem dX9_deepest_45 : decode cX9_deepest 45 = .ok (.ireturn, 1) := by decide +kernel
def X9_deepest_b14 (a1 : Int32) (v3 v4 : Int32) (m5 : gM) (k14 : Int32 → Int32 → gM → Option (Int32 × gM)) : Option (Int32 × gM) :=
  if 4 ≤ v4 then (some (v3, m5)) else (gCall (X9_missesBy a1 v4 (-1) m5) (fun (r7 : Int32) (m6 : gM) => gCall (X9_missesBy a1 v3 (-1) m6) (fun (r9 : Int32) (m8 : gM) => if r9 ≤ r7 then (gLet (v4 + 1) (fun (x10 : Int32) => k14 v3 x10 m8)) else (gLet (v4 + 1) (fun (x11 : Int32) => k14 v4 x11 m8)))))
def X9_deepest (a1 : Int32) (m : gM) : Option (Int32 × gM) :=
  gCall (X9_isTrace a1 m) (fun (r2 : Bool) (m1 : gM) => if r2 = true then (gL2 FU (X9_deepest_b14 a1) 0 1 m1) else (some ((-1), m1)))
set_option maxRecDepth 100000 in
set_option maxHeartbeats 4000000 in
theorem c_X9_deepest (a1 : Int32) (m : gM) : gCon eI yX9_deepest cX9_deepest 4 (some .int) 9 [.inr (9, 0), .inl a1] m (X9_deepest a1 m) := by
  refine gCon.of (lv := [some (.inr (9, 0)), some (.inl a1), none, none]) (by decide +kernel) (Nat.le_of_ble_eq_true rfl) rfl (fun X C => ?_)
  unfold X9_deepest
  refine r_aload_n C dX9_deepest_0 rfl rfl ?_
  refine r_iload_n C dX9_deepest_1 rfl rfl ?_
  refine r_invB (t := 9) (kb := 0) (As := [.inl a1]) (st := []) C il_X9_255 co_X9_isTrace (by decide) rfl (c_X9_isTrace a1 m) (by decide) (by decide) rfl rfl (Nat.le_of_ble_eq_true rfl) dX9_deepest_2 (fun r2 m1 => ?_)
  refine r_ifneB (tgt := 10) C dX9_deepest_5 (by decide) ?_ ?_
  · refine r_iconst (v := 0) C dX9_deepest_10 (by decide) ?_
    refine r_istore_n (lv' := [some (.inr (9, 0)), some (.inl a1), some (.inl 0), none]) C dX9_deepest_11 rfl (by decide) rfl ?_
    refine r_iconst (v := 1) C dX9_deepest_12 (by decide) ?_
    refine r_istore_n (lv' := [some (.inr (9, 0)), some (.inl a1), some (.inl 0), some (.inl 1)]) C dX9_deepest_13 rfl (by decide) rfl ?_
    refine r_weak (lv' := [some (.inr (9, 0)), some (.inl a1), some (.inl 0), some (.inl 1)]) ⟨rfl, rfl, rfl, rfl, trivial⟩ ?_
    refine r_l2 (pj := 14) (fun v3 v4 => [some (.inr (9, 0)), some (.inl a1), some (.inl v3), some (.inl v4)]) (fun v3 v4 m5 k14 hk14 => ?_) _ _ _ _
    unfold X9_deepest_b14
    refine r_iload_n C dX9_deepest_14 rfl rfl ?_
    refine r_iconst (v := 4) C dX9_deepest_15 (by decide) ?_
    refine r_icmp_ge (tgt := 44) C dX9_deepest_16 (by decide) ?_ ?_
    · refine r_iload_n C dX9_deepest_44 rfl rfl ?_
      exact r_ireturn C dX9_deepest_45
    refine r_aload_n C dX9_deepest_19 rfl rfl ?_
    refine r_iload_n C dX9_deepest_20 rfl rfl ?_
    refine r_iload_n C dX9_deepest_21 rfl rfl ?_
    refine r_iconst (v := (-1)) C dX9_deepest_22 (by decide) ?_
    refine r_invI (t := 9) (kb := 0) (As := [.inl a1, .inl v4, .inl (-1)]) (st := []) C il_X9_328 co_X9_missesBy (by decide) rfl (c_X9_missesBy a1 v4 (-1) m5) (by decide) (by decide) rfl rfl (Nat.le_of_ble_eq_true rfl) dX9_deepest_23 (fun r7 m6 => ?_)
    refine r_aload_n C dX9_deepest_26 rfl rfl ?_
    refine r_iload_n C dX9_deepest_27 rfl rfl ?_
    refine r_iload_n C dX9_deepest_28 rfl rfl ?_
    refine r_iconst (v := (-1)) C dX9_deepest_29 (by decide) ?_
    refine r_invI (t := 9) (kb := 0) (As := [.inl a1, .inl v3, .inl (-1)]) (st := [.inl r7]) C il_X9_328 co_X9_missesBy (by decide) rfl (c_X9_missesBy a1 v3 (-1) m6) (by decide) (by decide) rfl rfl (Nat.le_of_ble_eq_true rfl) dX9_deepest_30 (fun r9 m8 => ?_)
    refine r_icmp_ge (tgt := 38) C dX9_deepest_33 (by decide) ?_ ?_
    · refine r_iinc (v := 1) C dX9_deepest_38 (by decide) rfl (by decide) (fun x10 => ?_)
      show gw X eI _ [some (.inr (9, 0)), some (.inl a1), some (.inl v3), some (.inl x10)] _ _ _
      refine r_goto (tgt := 14) C dX9_deepest_41 (by decide) ?_
      exact r_weak (lv' := [some (.inr (9, 0)), some (.inl a1), some (.inl v3), some (.inl x10)]) ⟨rfl, rfl, rfl, rfl, trivial⟩ (hk14 _ _ _)
    refine r_iload_n C dX9_deepest_36 rfl rfl ?_
    refine r_istore_n (lv' := [some (.inr (9, 0)), some (.inl a1), some (.inl v4), some (.inl v4)]) C dX9_deepest_37 rfl (by decide) rfl ?_
    refine r_iinc (v := 1) C dX9_deepest_38 (by decide) rfl (by decide) (fun x11 => ?_)
    show gw X eI _ [some (.inr (9, 0)), some (.inl a1), some (.inl v4), some (.inl x11)] _ _ _
    refine r_goto (tgt := 14) C dX9_deepest_41 (by decide) ?_
    exact r_weak (lv' := [some (.inr (9, 0)), some (.inl a1), some (.inl v4), some (.inl x11)]) ⟨rfl, rfl, rfl, rfl, trivial⟩ (hk14 _ _ _)
  refine r_iconst (v := (-1)) C dX9_deepest_8 (by decide) ?_
  exact r_ireturn C dX9_deepest_9
theorem dX9_suited_0 : decode cX9_suited 0 = .ok (.aload_n 0, 1) := by decide +kernel
theorem dX9_suited_1 : decode cX9_suited 1 = .ok (.iload_n 1, 1) := by decide +kernel
theorem dX9_suited_2 : decode cX9_suited 2 = .ok (.invokevirtual 255, 3) := by decide +kernel
theorem dX9_suited_5 : decode cX9_suited 5 = .ok (.ifCond .ne 7, 3) := by decide +kernel
theorem dX9_suited_8 : decode cX9_suited 8 = .ok (.iconst (-1), 1) := by decide +kernel
theorem dX9_suited_9 : decode cX9_suited 9 = .ok (.goto 37, 3) := by decide +kernel
theorem dX9_suited_12 : decode cX9_suited 12 = .ok (.aload_n 0, 1) := by decide +kernel
theorem dX9_suited_13 : decode cX9_suited 13 = .ok (.iload_n 1, 1) := by decide +kernel
theorem dX9_suited_14 : decode cX9_suited 14 = .ok (.aload_n 0, 1) := by decide +kernel
theorem dX9_suited_15 : decode cX9_suited 15 = .ok (.getfield 7, 3) := by decide +kernel
theorem dX9_suited_18 : decode cX9_suited 18 = .ok (.bipush 38, 2) := by decide +kernel
theorem dX9_suited_20 : decode cX9_suited 20 = .ok (.iaload, 1) := by decide +kernel
theorem dX9_suited_21 : decode cX9_suited 21 = .ok (.iconst 1, 1) := by decide +kernel
theorem dX9_suited_22 : decode cX9_suited 22 = .ok (.invokevirtual 328, 3) := by decide +kernel
theorem dX9_suited_25 : decode cX9_suited 25 = .ok (.aload_n 0, 1) := by decide +kernel
theorem dX9_suited_26 : decode cX9_suited 26 = .ok (.iload_n 1, 1) := by decide +kernel
theorem dX9_suited_27 : decode cX9_suited 27 = .ok (.aload_n 0, 1) := by decide +kernel
theorem dX9_suited_28 : decode cX9_suited 28 = .ok (.getfield 7, 3) := by decide +kernel
theorem dX9_suited_31 : decode cX9_suited 31 = .ok (.bipush 38, 2) := by decide +kernel
theorem dX9_suited_33 : decode cX9_suited 33 = .ok (.iaload, 1) := by decide +kernel
theorem dX9_suited_34 : decode cX9_suited 34 = .ok (.iconst 0, 1) := by decide +kernel
theorem dX9_suited_35 : decode cX9_suited 35 = .ok (.invokevirtual 328, 3) := by decide +kernel
theorem dX9_suited_38 : decode cX9_suited 38 = .ok (.if_icmp .ge 7, 3) := by decide +kernel
theorem dX9_suited_41 : decode cX9_suited 41 = .ok (.iconst 1, 1) := by decide +kernel
theorem dX9_suited_42 : decode cX9_suited 42 = .ok (.goto 4, 3) := by decide +kernel
theorem dX9_suited_45 : decode cX9_suited 45 = .ok (.iconst 0, 1) := by decide +kernel
theorem dX9_suited_46 : decode cX9_suited 46 = .ok (.ireturn, 1) := by decide +kernel
def X9_suited (a1 : Int32) (m : gM) : Option (Int32 × gM) :=
  gCall (X9_isTrace a1 m) (fun (r2 : Bool) (m1 : gM) => if r2 = true then (gAt m1 47 0 38 (fun (x3 : Int32) => gCall (X9_missesBy a1 x3 1 m1) (fun (r5 : Int32) (m4 : gM) => gAt m4 47 0 38 (fun (x6 : Int32) => gCall (X9_missesBy a1 x6 0 m4) (fun (r8 : Int32) (m7 : gM) => if r8 ≤ r5 then (some (0, m7)) else (some (1, m7))))))) else (some ((-1), m1)))
set_option maxRecDepth 100000 in
set_option maxHeartbeats 4000000 in
theorem c_X9_suited (a1 : Int32) (m : gM) : gCon eI yX9_suited cX9_suited 2 (some .int) 9 [.inr (9, 0), .inl a1] m (X9_suited a1 m) := by
  refine gCon.of (lv := [some (.inr (9, 0)), some (.inl a1)]) (by decide +kernel) (Nat.le_of_ble_eq_true rfl) rfl (fun X C => ?_)
  unfold X9_suited
  refine r_aload_n C dX9_suited_0 rfl rfl ?_
  refine r_iload_n C dX9_suited_1 rfl rfl ?_
  refine r_invB (t := 9) (kb := 0) (As := [.inl a1]) (st := []) C il_X9_255 co_X9_isTrace (by decide) rfl (c_X9_isTrace a1 m) (by decide) (by decide) rfl rfl (Nat.le_of_ble_eq_true rfl) dX9_suited_2 (fun r2 m1 => ?_)
  refine r_ifneB (tgt := 12) C dX9_suited_5 (by decide) ?_ ?_
  · refine r_aload_n C dX9_suited_12 rfl rfl ?_
    refine r_iload_n C dX9_suited_13 rfl rfl ?_
    refine r_aload_n C dX9_suited_14 rfl rfl ?_
    refine r_get (v := .inr (47, 0)) C fl_X9_7 dX9_suited_15 rfl ?_
    refine r_bipush (v := 38) C dX9_suited_18 (by decide) ?_
    refine r_iald C rfl dX9_suited_20 (fun x3 => ?_)
    refine r_iconst (v := 1) C dX9_suited_21 (by decide) ?_
    refine r_invI (t := 9) (kb := 0) (As := [.inl a1, .inl x3, .inl 1]) (st := []) C il_X9_328 co_X9_missesBy (by decide) rfl (c_X9_missesBy a1 x3 1 m1) (by decide) (by decide) rfl rfl (Nat.le_of_ble_eq_true rfl) dX9_suited_22 (fun r5 m4 => ?_)
    refine r_aload_n C dX9_suited_25 rfl rfl ?_
    refine r_iload_n C dX9_suited_26 rfl rfl ?_
    refine r_aload_n C dX9_suited_27 rfl rfl ?_
    refine r_get (v := .inr (47, 0)) C fl_X9_7 dX9_suited_28 rfl ?_
    refine r_bipush (v := 38) C dX9_suited_31 (by decide) ?_
    refine r_iald C rfl dX9_suited_33 (fun x6 => ?_)
    refine r_iconst (v := 0) C dX9_suited_34 (by decide) ?_
    refine r_invI (t := 9) (kb := 0) (As := [.inl a1, .inl x6, .inl 0]) (st := [.inl r5]) C il_X9_328 co_X9_missesBy (by decide) rfl (c_X9_missesBy a1 x6 0 m4) (by decide) (by decide) rfl rfl (Nat.le_of_ble_eq_true rfl) dX9_suited_35 (fun r8 m7 => ?_)
    refine r_icmp_ge (tgt := 45) C dX9_suited_38 (by decide) ?_ ?_
    · refine r_iconst (v := 0) C dX9_suited_45 (by decide) ?_
      exact r_ireturn C dX9_suited_46
    refine r_iconst (v := 1) C dX9_suited_41 (by decide) ?_
    refine r_goto (tgt := 46) C dX9_suited_42 (by decide) ?_
    exact r_ireturn C dX9_suited_46
  refine r_iconst (v := (-1)) C dX9_suited_8 (by decide) ?_
  refine r_goto (tgt := 46) C dX9_suited_9 (by decide) ?_
  exact r_ireturn C dX9_suited_46
theorem dX9_nextOf_0 : decode cX9_nextOf 0 = .ok (.iload_n 2, 1) := by decide +kernel
theorem dX9_nextOf_1 : decode cX9_nextOf 1 = .ok (.iconst 1, 1) := by decide +kernel
theorem dX9_nextOf_2 : decode cX9_nextOf 2 = .ok (.iadd, 1) := by decide +kernel
theorem dX9_nextOf_3 : decode cX9_nextOf 3 = .ok (.istore 4, 2) := by decide +kernel
theorem dX9_nextOf_5 : decode cX9_nextOf 5 = .ok (.iload 4, 2) := by decide +kernel
theorem dX9_nextOf_7 : decode cX9_nextOf 7 = .ok (.aload_n 0, 1) := by decide +kernel
theorem dX9_nextOf_8 : decode cX9_nextOf 8 = .ok (.iload_n 1, 1) := by decide +kernel
theorem dX9_nextOf_9 : decode cX9_nextOf 9 = .ok (.invokevirtual 246, 3) := by decide +kernel
theorem dX9_nextOf_12 : decode cX9_nextOf 12 = .ok (.if_icmp .ge 20, 3) := by decide +kernel
theorem dX9_nextOf_15 : decode cX9_nextOf 15 = .ok (.aload_n 0, 1) := by decide +kernel
theorem dX9_nextOf_16 : decode cX9_nextOf 16 = .ok (.iload_n 1, 1) := by decide +kernel
theorem dX9_nextOf_17 : decode cX9_nextOf 17 = .ok (.iload 4, 2) := by decide +kernel
theorem dX9_nextOf_19 : decode cX9_nextOf 19 = .ok (.invokevirtual 252, 3) := by decide +kernel
theorem dX9_nextOf_22 : decode cX9_nextOf 22 = .ok (.iload_n 3, 1) := by decide +kernel
theorem dX9_nextOf_23 : decode cX9_nextOf 23 = .ok (.if_icmp .eq 9, 3) := by decide +kernel
theorem dX9_nextOf_26 : decode cX9_nextOf 26 = .ok (.iinc 4 1, 3) := by decide +kernel
theorem dX9_nextOf_29 : decode cX9_nextOf 29 = .ok (.goto (-24), 3) := by decide +kernel
theorem dX9_nextOf_32 : decode cX9_nextOf 32 = .ok (.iload 4, 2) := by decide +kernel
theorem dX9_nextOf_34 : decode cX9_nextOf 34 = .ok (.ireturn, 1) := by decide +kernel
def X9_nextOf_b5 (a1 : Int32) (a3 : Int32) (v2 : Int32) (m3 : gM) (k5 : Int32 → gM → Option (Int32 × gM)) : Option (Int32 × gM) :=
  gCall (X9_lengthOf a1 m3) (fun (r5 : Int32) (m4 : gM) => if r5 ≤ v2 then (some (v2, m4)) else (gCall (X9_lineOf a1 v2 m4) (fun (r7 : Int32) (m6 : gM) => if r7 = a3 then (some (v2, m6)) else (gLet (v2 + 1) (fun (x8 : Int32) => k5 x8 m6)))))
def X9_nextOf (a1 : Int32) (a2 : Int32) (a3 : Int32) (m : gM) : Option (Int32 × gM) :=
  gLet (a2 + 1) (fun (x1 : Int32) => gL1 FU (X9_nextOf_b5 a1 a3) x1 m)
set_option maxRecDepth 100000 in
set_option maxHeartbeats 4000000 in
theorem c_X9_nextOf (a1 : Int32) (a2 : Int32) (a3 : Int32) (m : gM) : gCon eI yX9_nextOf cX9_nextOf 5 (some .int) 1 [.inr (9, 0), .inl a1, .inl a2, .inl a3] m (X9_nextOf a1 a2 a3 m) := by
  refine gCon.of (lv := [some (.inr (9, 0)), some (.inl a1), some (.inl a2), some (.inl a3), none]) (by decide +kernel) (Nat.le_of_ble_eq_true rfl) rfl (fun X C => ?_)
  unfold X9_nextOf
  refine r_iload_n C dX9_nextOf_0 rfl rfl ?_
  refine r_iconst (v := 1) C dX9_nextOf_1 (by decide) ?_
  refine r_iadd C dX9_nextOf_2 ?_
  refine r_let (fun x1 => ?_)
  refine r_istore (lv' := [some (.inr (9, 0)), some (.inl a1), some (.inl a2), some (.inl a3), some (.inl x1)]) C dX9_nextOf_3 (by decide) rfl ?_
  refine r_weak (lv' := [some (.inr (9, 0)), some (.inl a1), none, some (.inl a3), some (.inl x1)]) ⟨rfl, rfl, rfl, rfl, trivial⟩ ?_
  refine r_l1 (pj := 5) (fun v2 => [some (.inr (9, 0)), some (.inl a1), none, some (.inl a3), some (.inl v2)]) (fun v2 m3 k5 hk5 => ?_) _ _ _
  unfold X9_nextOf_b5
  refine r_iload C dX9_nextOf_5 rfl ?_
  refine r_aload_n C dX9_nextOf_7 rfl rfl ?_
  refine r_iload_n C dX9_nextOf_8 rfl rfl ?_
  refine r_invI (t := 9) (kb := 0) (As := [.inl a1]) (st := [.inl v2]) C il_X9_246 co_X9_lengthOf (by decide) rfl (c_X9_lengthOf a1 m3) (by decide) (by decide) rfl rfl (Nat.le_of_ble_eq_true rfl) dX9_nextOf_9 (fun r5 m4 => ?_)
  refine r_icmp_ge (tgt := 32) C dX9_nextOf_12 (by decide) ?_ ?_
  · refine r_iload C dX9_nextOf_32 rfl ?_
    exact r_ireturn C dX9_nextOf_34
  refine r_aload_n C dX9_nextOf_15 rfl rfl ?_
  refine r_iload_n C dX9_nextOf_16 rfl rfl ?_
  refine r_iload C dX9_nextOf_17 rfl ?_
  refine r_invI (t := 9) (kb := 0) (As := [.inl a1, .inl v2]) (st := []) C il_X9_252 co_X9_lineOf (by decide) rfl (c_X9_lineOf a1 v2 m4) (by decide) (by decide) rfl rfl (Nat.le_of_ble_eq_true rfl) dX9_nextOf_19 (fun r7 m6 => ?_)
  refine r_iload_n C dX9_nextOf_22 rfl rfl ?_
  refine r_icmp_eq (tgt := 32) C dX9_nextOf_23 (by decide) ?_ ?_
  · refine r_iload C dX9_nextOf_32 rfl ?_
    exact r_ireturn C dX9_nextOf_34
  refine r_iinc (v := 1) C dX9_nextOf_26 (by decide) rfl (by decide) (fun x8 => ?_)
  show gw X eI _ [some (.inr (9, 0)), some (.inl a1), none, some (.inl a3), some (.inl x8)] _ _ _
  refine r_goto (tgt := 5) C dX9_nextOf_29 (by decide) ?_
  exact r_weak (lv' := [some (.inr (9, 0)), some (.inl a1), none, some (.inl a3), some (.inl x8)]) ⟨rfl, rfl, rfl, rfl, trivial⟩ (hk5 _ _)
theorem dX9_latestOf_0 : decode cX9_latestOf 0 = .ok (.iload_n 2, 1) := by decide +kernel
theorem dX9_latestOf_1 : decode cX9_latestOf 1 = .ok (.iconst 1, 1) := by decide +kernel
theorem dX9_latestOf_2 : decode cX9_latestOf 2 = .ok (.isub, 1) := by decide +kernel
theorem dX9_latestOf_3 : decode cX9_latestOf 3 = .ok (.istore 4, 2) := by decide +kernel
theorem dX9_latestOf_5 : decode cX9_latestOf 5 = .ok (.iload 4, 2) := by decide +kernel
theorem dX9_latestOf_7 : decode cX9_latestOf 7 = .ok (.ifCond .lt 20, 3) := by decide +kernel
theorem dX9_latestOf_10 : decode cX9_latestOf 10 = .ok (.aload_n 0, 1) := by decide +kernel
theorem dX9_latestOf_11 : decode cX9_latestOf 11 = .ok (.iload_n 1, 1) := by decide +kernel
theorem dX9_latestOf_12 : decode cX9_latestOf 12 = .ok (.iload 4, 2) := by decide +kernel
theorem dX9_latestOf_14 : decode cX9_latestOf 14 = .ok (.invokevirtual 252, 3) := by decide +kernel
theorem dX9_latestOf_17 : decode cX9_latestOf 17 = .ok (.iload_n 3, 1) := by decide +kernel
theorem dX9_latestOf_18 : decode cX9_latestOf 18 = .ok (.if_icmp .eq 9, 3) := by decide +kernel
theorem dX9_latestOf_21 : decode cX9_latestOf 21 = .ok (.iinc 4 (-1), 3) := by decide +kernel
theorem dX9_latestOf_24 : decode cX9_latestOf 24 = .ok (.goto (-19), 3) := by decide +kernel
theorem dX9_latestOf_27 : decode cX9_latestOf 27 = .ok (.iload 4, 2) := by decide +kernel
theorem dX9_latestOf_29 : decode cX9_latestOf 29 = .ok (.ireturn, 1) := by decide +kernel
def X9_latestOf_b5 (a1 : Int32) (a3 : Int32) (v2 : Int32) (m3 : gM) (k5 : Int32 → gM → Option (Int32 × gM)) : Option (Int32 × gM) :=
  if v2 < 0 then (some (v2, m3)) else (gCall (X9_lineOf a1 v2 m3) (fun (r5 : Int32) (m4 : gM) => if r5 = a3 then (some (v2, m4)) else (gLet (v2 + (-1)) (fun (x6 : Int32) => k5 x6 m4))))
def X9_latestOf (a1 : Int32) (a2 : Int32) (a3 : Int32) (m : gM) : Option (Int32 × gM) :=
  gLet (a2 - 1) (fun (x1 : Int32) => gL1 FU (X9_latestOf_b5 a1 a3) x1 m)
set_option maxRecDepth 100000 in
set_option maxHeartbeats 4000000 in
theorem c_X9_latestOf (a1 : Int32) (a2 : Int32) (a3 : Int32) (m : gM) : gCon eI yX9_latestOf cX9_latestOf 5 (some .int) 1 [.inr (9, 0), .inl a1, .inl a2, .inl a3] m (X9_latestOf a1 a2 a3 m) := by
  refine gCon.of (lv := [some (.inr (9, 0)), some (.inl a1), some (.inl a2), some (.inl a3), none]) (by decide +kernel) (Nat.le_of_ble_eq_true rfl) rfl (fun X C => ?_)
  unfold X9_latestOf
  refine r_iload_n C dX9_latestOf_0 rfl rfl ?_
  refine r_iconst (v := 1) C dX9_latestOf_1 (by decide) ?_
  refine r_isub C dX9_latestOf_2 ?_
  refine r_let (fun x1 => ?_)
  refine r_istore (lv' := [some (.inr (9, 0)), some (.inl a1), some (.inl a2), some (.inl a3), some (.inl x1)]) C dX9_latestOf_3 (by decide) rfl ?_
  refine r_weak (lv' := [some (.inr (9, 0)), some (.inl a1), none, some (.inl a3), some (.inl x1)]) ⟨rfl, rfl, rfl, rfl, trivial⟩ ?_
  refine r_l1 (pj := 5) (fun v2 => [some (.inr (9, 0)), some (.inl a1), none, some (.inl a3), some (.inl v2)]) (fun v2 m3 k5 hk5 => ?_) _ _ _
  unfold X9_latestOf_b5
  refine r_iload C dX9_latestOf_5 rfl ?_
  refine r_if_lt (tgt := 27) C dX9_latestOf_7 (by decide) ?_ ?_
  · refine r_iload C dX9_latestOf_27 rfl ?_
    exact r_ireturn C dX9_latestOf_29
  refine r_aload_n C dX9_latestOf_10 rfl rfl ?_
  refine r_iload_n C dX9_latestOf_11 rfl rfl ?_
  refine r_iload C dX9_latestOf_12 rfl ?_
  refine r_invI (t := 9) (kb := 0) (As := [.inl a1, .inl v2]) (st := []) C il_X9_252 co_X9_lineOf (by decide) rfl (c_X9_lineOf a1 v2 m3) (by decide) (by decide) rfl rfl (Nat.le_of_ble_eq_true rfl) dX9_latestOf_14 (fun r5 m4 => ?_)
  refine r_iload_n C dX9_latestOf_17 rfl rfl ?_
  refine r_icmp_eq (tgt := 27) C dX9_latestOf_18 (by decide) ?_ ?_
  · refine r_iload C dX9_latestOf_27 rfl ?_
    exact r_ireturn C dX9_latestOf_29
  refine r_iinc (v := (-1)) C dX9_latestOf_21 (by decide) rfl (by decide) (fun x6 => ?_)
  show gw X eI _ [some (.inr (9, 0)), some (.inl a1), none, some (.inl a3), some (.inl x6)] _ _ _
  refine r_goto (tgt := 5) C dX9_latestOf_24 (by decide) ?_
  exact r_weak (lv' := [some (.inr (9, 0)), some (.inl a1), none, some (.inl a3), some (.inl x6)]) ⟨rfl, rfl, rfl, rfl, trivial⟩ (hk5 _ _)
theorem dX9_isStored_0 : decode cX9_isStored 0 = .ok (.iconst 0, 1) := by decide +kernel
theorem dX9_isStored_1 : decode cX9_isStored 1 = .ok (.istore_n 2, 1) := by decide +kernel
theorem dX9_isStored_2 : decode cX9_isStored 2 = .ok (.iload_n 2, 1) := by decide +kernel
theorem dX9_isStored_3 : decode cX9_isStored 3 = .ok (.aload_n 0, 1) := by decide +kernel
theorem dX9_isStored_4 : decode cX9_isStored 4 = .ok (.getfield 337, 3) := by decide +kernel
theorem dX9_isStored_7 : decode cX9_isStored 7 = .ok (.if_icmp .ge 21, 3) := by decide +kernel
theorem dX9_isStored_10 : decode cX9_isStored 10 = .ok (.aload_n 0, 1) := by decide +kernel
theorem dX9_isStored_11 : decode cX9_isStored 11 = .ok (.getfield 66, 3) := by decide +kernel
theorem dX9_isStored_14 : decode cX9_isStored 14 = .ok (.iload_n 2, 1) := by decide +kernel
theorem dX9_isStored_15 : decode cX9_isStored 15 = .ok (.iaload, 1) := by decide +kernel
theorem dX9_isStored_16 : decode cX9_isStored 16 = .ok (.iload_n 1, 1) := by decide +kernel
theorem dX9_isStored_17 : decode cX9_isStored 17 = .ok (.if_icmp .ne 5, 3) := by decide +kernel
theorem dX9_isStored_20 : decode cX9_isStored 20 = .ok (.iconst 1, 1) := by decide +kernel
theorem dX9_isStored_21 : decode cX9_isStored 21 = .ok (.ireturn, 1) := by decide +kernel
theorem dX9_isStored_22 : decode cX9_isStored 22 = .ok (.iinc 2 1, 3) := by decide +kernel
theorem dX9_isStored_25 : decode cX9_isStored 25 = .ok (.goto (-23), 3) := by decide +kernel
theorem dX9_isStored_28 : decode cX9_isStored 28 = .ok (.iconst 0, 1) := by decide +kernel
theorem dX9_isStored_29 : decode cX9_isStored 29 = .ok (.ireturn, 1) := by decide +kernel
def X9_isStored_b2 (a1 : Int32) (v1 : Int32) (m2 : gM) (k2 : Int32 → gM → Option (Bool × gM)) : Option (Bool × gM) :=
  if (m2 9 0 30) ≤ v1 then (some (false, m2)) else (gAt m2 63 0 v1 (fun (x3 : Int32) => if x3 = a1 then (some (true, m2)) else (gLet (v1 + 1) (fun (x4 : Int32) => k2 x4 m2))))
def X9_isStored (a1 : Int32) (m : gM) : Option (Bool × gM) :=
  gL1 FU (X9_isStored_b2 a1) 0 m
set_option maxRecDepth 100000 in
set_option maxHeartbeats 4000000 in
theorem c_X9_isStored (a1 : Int32) (m : gM) : gCon eB yX9_isStored cX9_isStored 3 (some .boolean) 0 [.inr (9, 0), .inl a1] m (X9_isStored a1 m) := by
  refine gCon.of (lv := [some (.inr (9, 0)), some (.inl a1), none]) (by decide +kernel) (Nat.le_of_ble_eq_true rfl) rfl (fun X C => ?_)
  unfold X9_isStored
  refine r_iconst (v := 0) C dX9_isStored_0 (by decide) ?_
  refine r_istore_n (lv' := [some (.inr (9, 0)), some (.inl a1), some (.inl 0)]) C dX9_isStored_1 rfl (by decide) rfl ?_
  refine r_weak (lv' := [some (.inr (9, 0)), some (.inl a1), some (.inl 0)]) ⟨rfl, rfl, rfl, trivial⟩ ?_
  refine r_l1 (pj := 2) (fun v1 => [some (.inr (9, 0)), some (.inl a1), some (.inl v1)]) (fun v1 m2 k2 hk2 => ?_) _ _ _
  unfold X9_isStored_b2
  refine r_iload_n C dX9_isStored_2 rfl rfl ?_
  refine r_aload_n C dX9_isStored_3 rfl rfl ?_
  refine r_get (v := .inl (m2 9 0 30)) C fl_X9_337 dX9_isStored_4 rfl ?_
  refine r_icmp_ge (tgt := 28) C dX9_isStored_7 (by decide) ?_ ?_
  · refine r_iconst (v := 0) C dX9_isStored_28 (by decide) ?_
    exact r_zret0 C dX9_isStored_29
  refine r_aload_n C dX9_isStored_10 rfl rfl ?_
  refine r_get (v := .inr (63, 0)) C fl_X9_66 dX9_isStored_11 rfl ?_
  refine r_iload_n C dX9_isStored_14 rfl rfl ?_
  refine r_iald C rfl dX9_isStored_15 (fun x3 => ?_)
  refine r_iload_n C dX9_isStored_16 rfl rfl ?_
  refine r_icmp_ne (tgt := 22) C dX9_isStored_17 (by decide) ?_ ?_
  · refine r_iinc (v := 1) C dX9_isStored_22 (by decide) rfl (by decide) (fun x4 => ?_)
    show gw X eB _ [some (.inr (9, 0)), some (.inl a1), some (.inl x4)] _ _ _
    refine r_goto (tgt := 2) C dX9_isStored_25 (by decide) ?_
    exact r_weak (lv' := [some (.inr (9, 0)), some (.inl a1), some (.inl x4)]) ⟨rfl, rfl, rfl, trivial⟩ (hk2 _ _)
  refine r_iconst (v := 1) C dX9_isStored_20 (by decide) ?_
  exact r_zret1 C dX9_isStored_21
theorem dX9_missesWith_0 : decode cX9_missesWith 0 = .ok (.iconst 0, 1) := by decide +kernel
theorem dX9_missesWith_1 : decode cX9_missesWith 1 = .ok (.istore 4, 2) := by decide +kernel
theorem dX9_missesWith_3 : decode cX9_missesWith 3 = .ok (.aload_n 0, 1) := by decide +kernel
theorem dX9_missesWith_4 : decode cX9_missesWith 4 = .ok (.iconst 0, 1) := by decide +kernel
theorem dX9_missesWith_5 : decode cX9_missesWith 5 = .ok (.putfield 337, 3) := by decide +kernel
theorem dX9_missesWith_8 : decode cX9_missesWith 8 = .ok (.iconst 0, 1) := by decide +kernel
theorem dX9_missesWith_9 : decode cX9_missesWith 9 = .ok (.istore 5, 2) := by decide +kernel
theorem dX9_missesWith_11 : decode cX9_missesWith 11 = .ok (.iload 5, 2) := by decide +kernel
theorem dX9_missesWith_13 : decode cX9_missesWith 13 = .ok (.aload_n 0, 1) := by decide +kernel
theorem dX9_missesWith_14 : decode cX9_missesWith 14 = .ok (.iload_n 1, 1) := by decide +kernel
theorem dX9_missesWith_15 : decode cX9_missesWith 15 = .ok (.invokevirtual 246, 3) := by decide +kernel
theorem dX9_missesWith_18 : decode cX9_missesWith 18 = .ok (.if_icmp .ge 198, 3) := by decide +kernel
theorem dX9_missesWith_21 : decode cX9_missesWith 21 = .ok (.aload_n 0, 1) := by decide +kernel
theorem dX9_missesWith_22 : decode cX9_missesWith 22 = .ok (.iload_n 1, 1) := by decide +kernel
theorem dX9_missesWith_23 : decode cX9_missesWith 23 = .ok (.iload 5, 2) := by decide +kernel
theorem dX9_missesWith_25 : decode cX9_missesWith 25 = .ok (.invokevirtual 252, 3) := by decide +kernel
theorem dX9_missesWith_28 : decode cX9_missesWith 28 = .ok (.istore 6, 2) := by decide +kernel
theorem dX9_missesWith_30 : decode cX9_missesWith 30 = .ok (.aload_n 0, 1) := by decide +kernel
theorem dX9_missesWith_31 : decode cX9_missesWith 31 = .ok (.iload 6, 2) := by decide +kernel
theorem dX9_missesWith_33 : decode cX9_missesWith 33 = .ok (.invokevirtual 340, 3) := by decide +kernel
theorem dX9_missesWith_36 : decode cX9_missesWith 36 = .ok (.ifCond .eq 6, 3) := by decide +kernel
theorem dX9_missesWith_39 : decode cX9_missesWith 39 = .ok (.goto 171, 3) := by decide +kernel
theorem dX9_missesWith_42 : decode cX9_missesWith 42 = .ok (.iinc 4 1, 3) := by decide +kernel
theorem dX9_missesWith_45 : decode cX9_missesWith 45 = .ok (.aload_n 0, 1) := by decide +kernel
theorem dX9_missesWith_46 : decode cX9_missesWith 46 = .ok (.getfield 337, 3) := by decide +kernel
theorem dX9_missesWith_49 : decode cX9_missesWith 49 = .ok (.iload_n 2, 1) := by decide +kernel
theorem dX9_missesWith_50 : decode cX9_missesWith 50 = .ok (.if_icmp .ge 10, 3) := by decide +kernel
theorem dX9_missesWith_53 : decode cX9_missesWith 53 = .ok (.aload_n 0, 1) := by decide +kernel
theorem dX9_missesWith_54 : decode cX9_missesWith 54 = .ok (.getfield 337, 3) := by decide +kernel
theorem dX9_missesWith_57 : decode cX9_missesWith 57 = .ok (.goto 4, 3) := by decide +kernel
theorem dX9_missesWith_60 : decode cX9_missesWith 60 = .ok (.iconst 0, 1) := by decide +kernel
theorem dX9_missesWith_61 : decode cX9_missesWith 61 = .ok (.istore 7, 2) := by decide +kernel
theorem dX9_missesWith_63 : decode cX9_missesWith 63 = .ok (.iconst 1, 1) := by decide +kernel
theorem dX9_missesWith_64 : decode cX9_missesWith 64 = .ok (.istore 8, 2) := by decide +kernel
theorem dX9_missesWith_66 : decode cX9_missesWith 66 = .ok (.iload 8, 2) := by decide +kernel
theorem dX9_missesWith_68 : decode cX9_missesWith 68 = .ok (.aload_n 0, 1) := by decide +kernel
theorem dX9_missesWith_69 : decode cX9_missesWith 69 = .ok (.getfield 337, 3) := by decide +kernel
theorem dX9_missesWith_72 : decode cX9_missesWith 72 = .ok (.if_icmp .ge 107, 3) := by decide +kernel
theorem dX9_missesWith_75 : decode cX9_missesWith 75 = .ok (.aload_n 0, 1) := by decide +kernel
theorem dX9_missesWith_76 : decode cX9_missesWith 76 = .ok (.getfield 337, 3) := by decide +kernel
theorem dX9_missesWith_79 : decode cX9_missesWith 79 = .ok (.iload_n 2, 1) := by decide +kernel
theorem dX9_missesWith_80 : decode cX9_missesWith 80 = .ok (.if_icmp .ne 99, 3) := by decide +kernel
theorem dX9_missesWith_83 : decode cX9_missesWith 83 = .ok (.iload_n 3, 1) := by decide +kernel
theorem dX9_missesWith_84 : decode cX9_missesWith 84 = .ok (.ifCond .eq 42, 3) := by decide +kernel
theorem dX9_missesWith_87 : decode cX9_missesWith 87 = .ok (.aload_n 0, 1) := by decide +kernel
theorem dX9_missesWith_88 : decode cX9_missesWith 88 = .ok (.iload_n 1, 1) := by decide +kernel
theorem dX9_missesWith_89 : decode cX9_missesWith 89 = .ok (.iload 5, 2) := by decide +kernel
theorem dX9_missesWith_91 : decode cX9_missesWith 91 = .ok (.aload_n 0, 1) := by decide +kernel
theorem dX9_missesWith_92 : decode cX9_missesWith 92 = .ok (.getfield 66, 3) := by decide +kernel
theorem dX9_missesWith_95 : decode cX9_missesWith 95 = .ok (.iload 8, 2) := by decide +kernel
theorem dX9_missesWith_97 : decode cX9_missesWith 97 = .ok (.iaload, 1) := by decide +kernel
theorem dX9_missesWith_98 : decode cX9_missesWith 98 = .ok (.invokevirtual 343, 3) := by decide +kernel
theorem dX9_missesWith_101 : decode cX9_missesWith 101 = .ok (.aload_n 0, 1) := by decide +kernel
theorem dX9_missesWith_102 : decode cX9_missesWith 102 = .ok (.iload_n 1, 1) := by decide +kernel
theorem dX9_missesWith_103 : decode cX9_missesWith 103 = .ok (.iload 5, 2) := by decide +kernel
theorem dX9_missesWith_105 : decode cX9_missesWith 105 = .ok (.aload_n 0, 1) := by decide +kernel
theorem dX9_missesWith_106 : decode cX9_missesWith 106 = .ok (.getfield 66, 3) := by decide +kernel
theorem dX9_missesWith_109 : decode cX9_missesWith 109 = .ok (.iload 7, 2) := by decide +kernel
theorem dX9_missesWith_111 : decode cX9_missesWith 111 = .ok (.iaload, 1) := by decide +kernel
theorem dX9_missesWith_112 : decode cX9_missesWith 112 = .ok (.invokevirtual 343, 3) := by decide +kernel
theorem dX9_missesWith_115 : decode cX9_missesWith 115 = .ok (.if_icmp .le 7, 3) := by decide +kernel
theorem dX9_missesWith_118 : decode cX9_missesWith 118 = .ok (.iconst 1, 1) := by decide +kernel
theorem dX9_missesWith_119 : decode cX9_missesWith 119 = .ok (.goto 43, 3) := by decide +kernel
theorem dX9_missesWith_122 : decode cX9_missesWith 122 = .ok (.iconst 0, 1) := by decide +kernel
theorem dX9_missesWith_123 : decode cX9_missesWith 123 = .ok (.goto 39, 3) := by decide +kernel
theorem dX9_missesWith_126 : decode cX9_missesWith 126 = .ok (.aload_n 0, 1) := by decide +kernel
theorem dX9_missesWith_127 : decode cX9_missesWith 127 = .ok (.iload_n 1, 1) := by decide +kernel
theorem dX9_missesWith_128 : decode cX9_missesWith 128 = .ok (.iload 5, 2) := by decide +kernel
theorem dX9_missesWith_130 : decode cX9_missesWith 130 = .ok (.aload_n 0, 1) := by decide +kernel
theorem dX9_missesWith_131 : decode cX9_missesWith 131 = .ok (.getfield 66, 3) := by decide +kernel
theorem dX9_missesWith_134 : decode cX9_missesWith 134 = .ok (.iload 8, 2) := by decide +kernel
theorem dX9_missesWith_136 : decode cX9_missesWith 136 = .ok (.iaload, 1) := by decide +kernel
theorem dX9_missesWith_137 : decode cX9_missesWith 137 = .ok (.invokevirtual 346, 3) := by decide +kernel
theorem dX9_missesWith_140 : decode cX9_missesWith 140 = .ok (.aload_n 0, 1) := by decide +kernel
theorem dX9_missesWith_141 : decode cX9_missesWith 141 = .ok (.iload_n 1, 1) := by decide +kernel
theorem dX9_missesWith_142 : decode cX9_missesWith 142 = .ok (.iload 5, 2) := by decide +kernel
theorem dX9_missesWith_144 : decode cX9_missesWith 144 = .ok (.aload_n 0, 1) := by decide +kernel
theorem dX9_missesWith_145 : decode cX9_missesWith 145 = .ok (.getfield 66, 3) := by decide +kernel
theorem dX9_missesWith_148 : decode cX9_missesWith 148 = .ok (.iload 7, 2) := by decide +kernel
theorem dX9_missesWith_150 : decode cX9_missesWith 150 = .ok (.iaload, 1) := by decide +kernel
theorem dX9_missesWith_151 : decode cX9_missesWith 151 = .ok (.invokevirtual 346, 3) := by decide +kernel
theorem dX9_missesWith_154 : decode cX9_missesWith 154 = .ok (.if_icmp .ge 7, 3) := by decide +kernel
theorem dX9_missesWith_157 : decode cX9_missesWith 157 = .ok (.iconst 1, 1) := by decide +kernel
theorem dX9_missesWith_158 : decode cX9_missesWith 158 = .ok (.goto 4, 3) := by decide +kernel
theorem dX9_missesWith_161 : decode cX9_missesWith 161 = .ok (.iconst 0, 1) := by decide +kernel
theorem dX9_missesWith_162 : decode cX9_missesWith 162 = .ok (.istore 9, 2) := by decide +kernel
theorem dX9_missesWith_164 : decode cX9_missesWith 164 = .ok (.iload 9, 2) := by decide +kernel
theorem dX9_missesWith_166 : decode cX9_missesWith 166 = .ok (.ifCond .eq 7, 3) := by decide +kernel
theorem dX9_missesWith_169 : decode cX9_missesWith 169 = .ok (.iload 8, 2) := by decide +kernel
theorem dX9_missesWith_171 : decode cX9_missesWith 171 = .ok (.istore 7, 2) := by decide +kernel
theorem dX9_missesWith_173 : decode cX9_missesWith 173 = .ok (.iinc 8 1, 3) := by decide +kernel
theorem dX9_missesWith_176 : decode cX9_missesWith 176 = .ok (.goto (-110), 3) := by decide +kernel
theorem dX9_missesWith_179 : decode cX9_missesWith 179 = .ok (.aload_n 0, 1) := by decide +kernel
theorem dX9_missesWith_180 : decode cX9_missesWith 180 = .ok (.dup, 1) := by decide +kernel
theorem dX9_missesWith_181 : decode cX9_missesWith 181 = .ok (.getfield 337, 3) := by decide +kernel
theorem dX9_missesWith_184 : decode cX9_missesWith 184 = .ok (.aload_n 0, 1) := by decide +kernel
theorem dX9_missesWith_185 : decode cX9_missesWith 185 = .ok (.getfield 337, 3) := by decide +kernel
theorem dX9_missesWith_188 : decode cX9_missesWith 188 = .ok (.iload_n 2, 1) := by decide +kernel
theorem dX9_missesWith_189 : decode cX9_missesWith 189 = .ok (.if_icmp .ge 7, 3) := by decide +kernel
theorem dX9_missesWith_192 : decode cX9_missesWith 192 = .ok (.iconst 1, 1) := by decide +kernel
theorem dX9_missesWith_193 : decode cX9_missesWith 193 = .ok (.goto 4, 3) := by decide +kernel
theorem dX9_missesWith_196 : decode cX9_missesWith 196 = .ok (.iconst 0, 1) := by decide +kernel
theorem dX9_missesWith_197 : decode cX9_missesWith 197 = .ok (.iadd, 1) := by decide +kernel
theorem dX9_missesWith_198 : decode cX9_missesWith 198 = .ok (.putfield 337, 3) := by decide +kernel
theorem dX9_missesWith_201 : decode cX9_missesWith 201 = .ok (.aload_n 0, 1) := by decide +kernel
theorem dX9_missesWith_202 : decode cX9_missesWith 202 = .ok (.getfield 66, 3) := by decide +kernel
theorem dX9_missesWith_205 : decode cX9_missesWith 205 = .ok (.iload 7, 2) := by decide +kernel
theorem dX9_missesWith_207 : decode cX9_missesWith 207 = .ok (.iload 6, 2) := by decide +kernel
theorem dX9_missesWith_209 : decode cX9_missesWith 209 = .ok (.iastore, 1) := by decide +kernel
theorem dX9_missesWith_210 : decode cX9_missesWith 210 = .ok (.iinc 5 1, 3) := by decide +kernel
theorem dX9_missesWith_213 : decode cX9_missesWith 213 = .ok (.goto (-202), 3) := by decide +kernel
theorem dX9_missesWith_216 : decode cX9_missesWith 216 = .ok (.iload 4, 2) := by decide +kernel
theorem dX9_missesWith_218 : decode cX9_missesWith 218 = .ok (.ireturn, 1) := by decide +kernel
def X9_missesWith_b66 (a1 : Int32) (a2 : Int32) (a3 : Int32) (j179 : Int32 → gM → Option (Int32 × gM)) (v3 : Int32) (v22 v23 : Int32) (m24 : gM) (k66 : Int32 → Int32 → gM → Option (Int32 × gM)) : Option (Int32 × gM) :=
  if (m24 9 0 30) ≤ v23 then (j179 v22 m24) else (if (m24 9 0 30) = a2 then (gJ1 (fun (w25 : Int32) (m26 : gM) => if w25 = 0 then (gLet (v23 + 1) (fun (x27 : Int32) => k66 v22 x27 m26)) else (gLet (v23 + 1) (fun (x28 : Int32) => k66 v23 x28 m26))) (fun (j162 : Int32 → gM → Option (Int32 × gM)) => if a3 = 0 then (gAt m24 63 0 v23 (fun (x29 : Int32) => gCall (X9_latestOf a1 v3 x29 m24) (fun (r31 : Int32) (m30 : gM) => gAt m30 63 0 v22 (fun (x32 : Int32) => gCall (X9_latestOf a1 v3 x32 m30) (fun (r34 : Int32) (m33 : gM) => if r34 ≤ r31 then (j162 0 m33) else (j162 1 m33)))))) else (gAt m24 63 0 v23 (fun (x35 : Int32) => gCall (X9_nextOf a1 v3 x35 m24) (fun (r37 : Int32) (m36 : gM) => gAt m36 63 0 v22 (fun (x38 : Int32) => gCall (X9_nextOf a1 v3 x38 m36) (fun (r40 : Int32) (m39 : gM) => if r37 ≤ r40 then (j162 0 m39) else (j162 1 m39)))))))) else (j179 v22 m24))
def X9_missesWith_b11 (a1 : Int32) (a2 : Int32) (a3 : Int32) (v2 v3 : Int32) (m4 : gM) (k11 : Int32 → Int32 → gM → Option (Int32 × gM)) : Option (Int32 × gM) :=
  gCall (X9_lengthOf a1 m4) (fun (r6 : Int32) (m5 : gM) => if r6 ≤ v3 then (some (v2, m5)) else (gCall (X9_lineOf a1 v3 m5) (fun (r8 : Int32) (m7 : gM) => gCall (X9_isStored r8 m7) (fun (r10 : Bool) (m9 : gM) => if r10 = true then (gLet (v3 + 1) (fun (x41 : Int32) => k11 v2 x41 m9)) else (gLet (v2 + 1) (fun (x11 : Int32) => gJ1 (fun (w12 : Int32) (m13 : gM) => gJ1 (fun (v14 : Int32) (m15 : gM) => gJ1 (fun (w16 : Int32) (m17 : gM) => gLet ((m15 9 0 30) + w16) (fun (x18 : Int32) => gSet m17 9 0 30 x18 (fun (m19 : gM) => gPut m19 63 0 v14 r8 (fun (m20 : gM) => gLet (v3 + 1) (fun (x21 : Int32) => k11 x11 x21 m20))))) (fun (j197 : Int32 → gM → Option (Int32 × gM)) => if a2 ≤ (m15 9 0 30) then (j197 0 m15) else (j197 1 m15))) (fun (j179 : Int32 → gM → Option (Int32 × gM)) => gL2 FU (X9_missesWith_b66 a1 a2 a3 j179 v3) w12 1 m13)) (fun (j61 : Int32 → gM → Option (Int32 × gM)) => if a2 ≤ (m9 9 0 30) then (j61 0 m9) else (j61 (m9 9 0 30) m9))))))))
def X9_missesWith (a1 : Int32) (a2 : Int32) (a3 : Int32) (m : gM) : Option (Int32 × gM) :=
  gSet m 9 0 30 0 (fun (m1 : gM) => gL2 FU (X9_missesWith_b11 a1 a2 a3) 0 0 m1)
set_option maxRecDepth 100000 in
set_option maxHeartbeats 4000000 in
theorem c_X9_missesWith (a1 : Int32) (a2 : Int32) (a3 : Int32) (m : gM) : gCon eI yX9_missesWith cX9_missesWith 10 (some .int) 2 [.inr (9, 0), .inl a1, .inl a2, .inl a3] m (X9_missesWith a1 a2 a3 m) := by
  refine gCon.of (lv := [some (.inr (9, 0)), some (.inl a1), some (.inl a2), some (.inl a3), none, none, none, none, none, none]) (by decide +kernel) (Nat.le_of_ble_eq_true rfl) rfl (fun X C => ?_)
  unfold X9_missesWith
  refine r_iconst (v := 0) C dX9_missesWith_0 (by decide) ?_
  refine r_istore (lv' := [some (.inr (9, 0)), some (.inl a1), some (.inl a2), some (.inl a3), some (.inl 0), none, none, none, none, none]) C dX9_missesWith_1 (by decide) rfl ?_
  refine r_aload_n C dX9_missesWith_3 rfl rfl ?_
  refine r_iconst (v := 0) C dX9_missesWith_4 (by decide) ?_
  refine r_put C fl_X9_337 rfl rfl rfl dX9_missesWith_5 (fun m1 => ?_)
  refine r_iconst (v := 0) C dX9_missesWith_8 (by decide) ?_
  refine r_istore (lv' := [some (.inr (9, 0)), some (.inl a1), some (.inl a2), some (.inl a3), some (.inl 0), some (.inl 0), none, none, none, none]) C dX9_missesWith_9 (by decide) rfl ?_
  refine r_weak (lv' := [some (.inr (9, 0)), some (.inl a1), some (.inl a2), some (.inl a3), some (.inl 0), some (.inl 0), none, none, none, none]) ⟨rfl, rfl, rfl, rfl, rfl, rfl, trivial⟩ ?_
  refine r_l2 (pj := 11) (fun v2 v3 => [some (.inr (9, 0)), some (.inl a1), some (.inl a2), some (.inl a3), some (.inl v2), some (.inl v3), none, none, none, none]) (fun v2 v3 m4 k11 hk11 => ?_) _ _ _ _
  unfold X9_missesWith_b11
  refine r_iload C dX9_missesWith_11 rfl ?_
  refine r_aload_n C dX9_missesWith_13 rfl rfl ?_
  refine r_iload_n C dX9_missesWith_14 rfl rfl ?_
  refine r_invI (t := 9) (kb := 0) (As := [.inl a1]) (st := [.inl v3]) C il_X9_246 co_X9_lengthOf (by decide) rfl (c_X9_lengthOf a1 m4) (by decide) (by decide) rfl rfl (Nat.le_of_ble_eq_true rfl) dX9_missesWith_15 (fun r6 m5 => ?_)
  refine r_icmp_ge (tgt := 216) C dX9_missesWith_18 (by decide) ?_ ?_
  · refine r_iload C dX9_missesWith_216 rfl ?_
    exact r_ireturn C dX9_missesWith_218
  refine r_aload_n C dX9_missesWith_21 rfl rfl ?_
  refine r_iload_n C dX9_missesWith_22 rfl rfl ?_
  refine r_iload C dX9_missesWith_23 rfl ?_
  refine r_invI (t := 9) (kb := 0) (As := [.inl a1, .inl v3]) (st := []) C il_X9_252 co_X9_lineOf (by decide) rfl (c_X9_lineOf a1 v3 m5) (by decide) (by decide) rfl rfl (Nat.le_of_ble_eq_true rfl) dX9_missesWith_25 (fun r8 m7 => ?_)
  refine r_istore (lv' := [some (.inr (9, 0)), some (.inl a1), some (.inl a2), some (.inl a3), some (.inl v2), some (.inl v3), some (.inl r8), none, none, none]) C dX9_missesWith_28 (by decide) rfl ?_
  refine r_aload_n C dX9_missesWith_30 rfl rfl ?_
  refine r_iload C dX9_missesWith_31 rfl ?_
  refine r_invB (t := 9) (kb := 0) (As := [.inl r8]) (st := []) C il_X9_340 co_X9_isStored (by decide) rfl (c_X9_isStored r8 m7) (by decide) (by decide) rfl rfl (Nat.le_of_ble_eq_true rfl) dX9_missesWith_33 (fun r10 m9 => ?_)
  refine r_ifeqB (tgt := 42) C dX9_missesWith_36 (by decide) ?_ ?_
  · refine r_iinc (v := 1) C dX9_missesWith_42 (by decide) rfl (by decide) (fun x11 => ?_)
    show gw X eI _ [some (.inr (9, 0)), some (.inl a1), some (.inl a2), some (.inl a3), some (.inl x11), some (.inl v3), some (.inl r8), none, none, none] _ _ _
    refine r_aload_n C dX9_missesWith_45 rfl rfl ?_
    refine r_get (v := .inl (m9 9 0 30)) C fl_X9_337 dX9_missesWith_46 rfl ?_
    refine r_iload_n C dX9_missesWith_49 rfl rfl ?_
    refine r_j1 61 (fun w12 => [some (.inr (9, 0)), some (.inl a1), some (.inl a2), some (.inl a3), some (.inl x11), some (.inl v3), some (.inl r8), none, none, none]) (fun w12 => [.inl w12]) (fun w12 m13 => ?_) (fun j61 hj61 => ?_)
    · refine r_istore (lv' := [some (.inr (9, 0)), some (.inl a1), some (.inl a2), some (.inl a3), some (.inl x11), some (.inl v3), some (.inl r8), some (.inl w12), none, none]) C dX9_missesWith_61 (by decide) rfl ?_
      refine r_iconst (v := 1) C dX9_missesWith_63 (by decide) ?_
      refine r_istore (lv' := [some (.inr (9, 0)), some (.inl a1), some (.inl a2), some (.inl a3), some (.inl x11), some (.inl v3), some (.inl r8), some (.inl w12), some (.inl 1), none]) C dX9_missesWith_64 (by decide) rfl ?_
      refine r_j1 179 (fun v14 => [some (.inr (9, 0)), some (.inl a1), some (.inl a2), some (.inl a3), some (.inl x11), some (.inl v3), some (.inl r8), some (.inl v14), none, none]) (fun v14 => []) (fun v14 m15 => ?_) (fun j179 hj179 => ?_)
      · refine r_aload_n C dX9_missesWith_179 rfl rfl ?_
        refine r_dup C dX9_missesWith_180 ?_
        refine r_get (v := .inl (m15 9 0 30)) C fl_X9_337 dX9_missesWith_181 rfl ?_
        refine r_aload_n C dX9_missesWith_184 rfl rfl ?_
        refine r_get (v := .inl (m15 9 0 30)) C fl_X9_337 dX9_missesWith_185 rfl ?_
        refine r_iload_n C dX9_missesWith_188 rfl rfl ?_
        refine r_j1 197 (fun w16 => [some (.inr (9, 0)), some (.inl a1), some (.inl a2), some (.inl a3), some (.inl x11), some (.inl v3), some (.inl r8), some (.inl v14), none, none]) (fun w16 => [.inl w16, .inl (m15 9 0 30), .inr (9, 0)]) (fun w16 m17 => ?_) (fun j197 hj197 => ?_)
        · refine r_iadd C dX9_missesWith_197 ?_
          refine r_let (fun x18 => ?_)
          refine r_put C fl_X9_337 rfl rfl rfl dX9_missesWith_198 (fun m19 => ?_)
          refine r_aload_n C dX9_missesWith_201 rfl rfl ?_
          refine r_get (v := .inr (63, 0)) C fl_X9_66 dX9_missesWith_202 rfl ?_
          refine r_iload C dX9_missesWith_205 rfl ?_
          refine r_iload C dX9_missesWith_207 rfl ?_
          refine r_iast C rfl dX9_missesWith_209 (fun m20 => ?_)
          refine r_iinc (v := 1) C dX9_missesWith_210 (by decide) rfl (by decide) (fun x21 => ?_)
          show gw X eI _ [some (.inr (9, 0)), some (.inl a1), some (.inl a2), some (.inl a3), some (.inl x11), some (.inl x21), some (.inl r8), some (.inl v14), none, none] _ _ _
          refine r_goto (tgt := 11) C dX9_missesWith_213 (by decide) ?_
          exact r_weak (lv' := [some (.inr (9, 0)), some (.inl a1), some (.inl a2), some (.inl a3), some (.inl x11), some (.inl x21), none, none, none, none]) ⟨rfl, rfl, rfl, rfl, rfl, rfl, trivial⟩ (hk11 _ _ _)
        refine r_icmp_ge (tgt := 196) C dX9_missesWith_189 (by decide) ?_ ?_
        · refine r_iconst (v := 0) C dX9_missesWith_196 (by decide) ?_
          exact r_weak (lv' := [some (.inr (9, 0)), some (.inl a1), some (.inl a2), some (.inl a3), some (.inl x11), some (.inl v3), some (.inl r8), some (.inl v14), none, none]) ⟨rfl, rfl, rfl, rfl, rfl, rfl, rfl, rfl, trivial⟩ (hj197 _ _)
        refine r_iconst (v := 1) C dX9_missesWith_192 (by decide) ?_
        refine r_goto (tgt := 197) C dX9_missesWith_193 (by decide) ?_
        exact r_weak (lv' := [some (.inr (9, 0)), some (.inl a1), some (.inl a2), some (.inl a3), some (.inl x11), some (.inl v3), some (.inl r8), some (.inl v14), none, none]) ⟨rfl, rfl, rfl, rfl, rfl, rfl, rfl, rfl, trivial⟩ (hj197 _ _)
      refine r_weak (lv' := [some (.inr (9, 0)), some (.inl a1), some (.inl a2), some (.inl a3), some (.inl x11), some (.inl v3), some (.inl r8), some (.inl w12), some (.inl 1), none]) ⟨rfl, rfl, rfl, rfl, rfl, rfl, rfl, rfl, rfl, trivial⟩ ?_
      refine r_l2 (pj := 66) (fun v22 v23 => [some (.inr (9, 0)), some (.inl a1), some (.inl a2), some (.inl a3), some (.inl x11), some (.inl v3), some (.inl r8), some (.inl v22), some (.inl v23), none]) (fun v22 v23 m24 k66 hk66 => ?_) _ _ _ _
      unfold X9_missesWith_b66
      refine r_iload C dX9_missesWith_66 rfl ?_
      refine r_aload_n C dX9_missesWith_68 rfl rfl ?_
      refine r_get (v := .inl (m24 9 0 30)) C fl_X9_337 dX9_missesWith_69 rfl ?_
      refine r_icmp_ge (tgt := 179) C dX9_missesWith_72 (by decide) ?_ ?_
      · exact r_weak (lv' := [some (.inr (9, 0)), some (.inl a1), some (.inl a2), some (.inl a3), some (.inl x11), some (.inl v3), some (.inl r8), some (.inl v22), none, none]) ⟨rfl, rfl, rfl, rfl, rfl, rfl, rfl, rfl, trivial⟩ (hj179 _ _)
      refine r_aload_n C dX9_missesWith_75 rfl rfl ?_
      refine r_get (v := .inl (m24 9 0 30)) C fl_X9_337 dX9_missesWith_76 rfl ?_
      refine r_iload_n C dX9_missesWith_79 rfl rfl ?_
      refine r_icmp_ne (tgt := 179) C dX9_missesWith_80 (by decide) ?_ ?_
      · exact r_weak (lv' := [some (.inr (9, 0)), some (.inl a1), some (.inl a2), some (.inl a3), some (.inl x11), some (.inl v3), some (.inl r8), some (.inl v22), none, none]) ⟨rfl, rfl, rfl, rfl, rfl, rfl, rfl, rfl, trivial⟩ (hj179 _ _)
      refine r_iload_n C dX9_missesWith_83 rfl rfl ?_
      refine r_j1 162 (fun w25 => [some (.inr (9, 0)), some (.inl a1), some (.inl a2), some (.inl a3), some (.inl x11), some (.inl v3), some (.inl r8), some (.inl v22), some (.inl v23), none]) (fun w25 => [.inl w25]) (fun w25 m26 => ?_) (fun j162 hj162 => ?_)
      · refine r_istore (lv' := [some (.inr (9, 0)), some (.inl a1), some (.inl a2), some (.inl a3), some (.inl x11), some (.inl v3), some (.inl r8), some (.inl v22), some (.inl v23), some (.inl w25)]) C dX9_missesWith_162 (by decide) rfl ?_
        refine r_iload C dX9_missesWith_164 rfl ?_
        refine r_if_eq (tgt := 173) C dX9_missesWith_166 (by decide) ?_ ?_
        · refine r_iinc (v := 1) C dX9_missesWith_173 (by decide) rfl (by decide) (fun x27 => ?_)
          show gw X eI _ [some (.inr (9, 0)), some (.inl a1), some (.inl a2), some (.inl a3), some (.inl x11), some (.inl v3), some (.inl r8), some (.inl v22), some (.inl x27), some (.inl w25)] _ _ _
          refine r_goto (tgt := 66) C dX9_missesWith_176 (by decide) ?_
          exact r_weak (lv' := [some (.inr (9, 0)), some (.inl a1), some (.inl a2), some (.inl a3), some (.inl x11), some (.inl v3), some (.inl r8), some (.inl v22), some (.inl x27), none]) ⟨rfl, rfl, rfl, rfl, rfl, rfl, rfl, rfl, rfl, trivial⟩ (hk66 _ _ _)
        refine r_iload C dX9_missesWith_169 rfl ?_
        refine r_istore (lv' := [some (.inr (9, 0)), some (.inl a1), some (.inl a2), some (.inl a3), some (.inl x11), some (.inl v3), some (.inl r8), some (.inl v23), some (.inl v23), some (.inl w25)]) C dX9_missesWith_171 (by decide) rfl ?_
        refine r_iinc (v := 1) C dX9_missesWith_173 (by decide) rfl (by decide) (fun x28 => ?_)
        show gw X eI _ [some (.inr (9, 0)), some (.inl a1), some (.inl a2), some (.inl a3), some (.inl x11), some (.inl v3), some (.inl r8), some (.inl v23), some (.inl x28), some (.inl w25)] _ _ _
        refine r_goto (tgt := 66) C dX9_missesWith_176 (by decide) ?_
        exact r_weak (lv' := [some (.inr (9, 0)), some (.inl a1), some (.inl a2), some (.inl a3), some (.inl x11), some (.inl v3), some (.inl r8), some (.inl v23), some (.inl x28), none]) ⟨rfl, rfl, rfl, rfl, rfl, rfl, rfl, rfl, rfl, trivial⟩ (hk66 _ _ _)
      refine r_if_eq (tgt := 126) C dX9_missesWith_84 (by decide) ?_ ?_
      · refine r_aload_n C dX9_missesWith_126 rfl rfl ?_
        refine r_iload_n C dX9_missesWith_127 rfl rfl ?_
        refine r_iload C dX9_missesWith_128 rfl ?_
        refine r_aload_n C dX9_missesWith_130 rfl rfl ?_
        refine r_get (v := .inr (63, 0)) C fl_X9_66 dX9_missesWith_131 rfl ?_
        refine r_iload C dX9_missesWith_134 rfl ?_
        refine r_iald C rfl dX9_missesWith_136 (fun x29 => ?_)
        refine r_invI (t := 9) (kb := 0) (As := [.inl a1, .inl v3, .inl x29]) (st := []) C il_X9_346 co_X9_latestOf (by decide) rfl (c_X9_latestOf a1 v3 x29 m24) (by decide) (by decide) rfl rfl (Nat.le_of_ble_eq_true rfl) dX9_missesWith_137 (fun r31 m30 => ?_)
        refine r_aload_n C dX9_missesWith_140 rfl rfl ?_
        refine r_iload_n C dX9_missesWith_141 rfl rfl ?_
        refine r_iload C dX9_missesWith_142 rfl ?_
        refine r_aload_n C dX9_missesWith_144 rfl rfl ?_
        refine r_get (v := .inr (63, 0)) C fl_X9_66 dX9_missesWith_145 rfl ?_
        refine r_iload C dX9_missesWith_148 rfl ?_
        refine r_iald C rfl dX9_missesWith_150 (fun x32 => ?_)
        refine r_invI (t := 9) (kb := 0) (As := [.inl a1, .inl v3, .inl x32]) (st := [.inl r31]) C il_X9_346 co_X9_latestOf (by decide) rfl (c_X9_latestOf a1 v3 x32 m30) (by decide) (by decide) rfl rfl (Nat.le_of_ble_eq_true rfl) dX9_missesWith_151 (fun r34 m33 => ?_)
        refine r_icmp_ge (tgt := 161) C dX9_missesWith_154 (by decide) ?_ ?_
        · refine r_iconst (v := 0) C dX9_missesWith_161 (by decide) ?_
          exact r_weak (lv' := [some (.inr (9, 0)), some (.inl a1), some (.inl a2), some (.inl a3), some (.inl x11), some (.inl v3), some (.inl r8), some (.inl v22), some (.inl v23), none]) ⟨rfl, rfl, rfl, rfl, rfl, rfl, rfl, rfl, rfl, trivial⟩ (hj162 _ _)
        refine r_iconst (v := 1) C dX9_missesWith_157 (by decide) ?_
        refine r_goto (tgt := 162) C dX9_missesWith_158 (by decide) ?_
        exact r_weak (lv' := [some (.inr (9, 0)), some (.inl a1), some (.inl a2), some (.inl a3), some (.inl x11), some (.inl v3), some (.inl r8), some (.inl v22), some (.inl v23), none]) ⟨rfl, rfl, rfl, rfl, rfl, rfl, rfl, rfl, rfl, trivial⟩ (hj162 _ _)
      refine r_aload_n C dX9_missesWith_87 rfl rfl ?_
      refine r_iload_n C dX9_missesWith_88 rfl rfl ?_
      refine r_iload C dX9_missesWith_89 rfl ?_
      refine r_aload_n C dX9_missesWith_91 rfl rfl ?_
      refine r_get (v := .inr (63, 0)) C fl_X9_66 dX9_missesWith_92 rfl ?_
      refine r_iload C dX9_missesWith_95 rfl ?_
      refine r_iald C rfl dX9_missesWith_97 (fun x35 => ?_)
      refine r_invI (t := 9) (kb := 0) (As := [.inl a1, .inl v3, .inl x35]) (st := []) C il_X9_343 co_X9_nextOf (by decide) rfl (c_X9_nextOf a1 v3 x35 m24) (by decide) (by decide) rfl rfl (Nat.le_of_ble_eq_true rfl) dX9_missesWith_98 (fun r37 m36 => ?_)
      refine r_aload_n C dX9_missesWith_101 rfl rfl ?_
      refine r_iload_n C dX9_missesWith_102 rfl rfl ?_
      refine r_iload C dX9_missesWith_103 rfl ?_
      refine r_aload_n C dX9_missesWith_105 rfl rfl ?_
      refine r_get (v := .inr (63, 0)) C fl_X9_66 dX9_missesWith_106 rfl ?_
      refine r_iload C dX9_missesWith_109 rfl ?_
      refine r_iald C rfl dX9_missesWith_111 (fun x38 => ?_)
      refine r_invI (t := 9) (kb := 0) (As := [.inl a1, .inl v3, .inl x38]) (st := [.inl r37]) C il_X9_343 co_X9_nextOf (by decide) rfl (c_X9_nextOf a1 v3 x38 m36) (by decide) (by decide) rfl rfl (Nat.le_of_ble_eq_true rfl) dX9_missesWith_112 (fun r40 m39 => ?_)
      refine r_icmp_le (tgt := 122) C dX9_missesWith_115 (by decide) ?_ ?_
      · refine r_iconst (v := 0) C dX9_missesWith_122 (by decide) ?_
        refine r_goto (tgt := 162) C dX9_missesWith_123 (by decide) ?_
        exact r_weak (lv' := [some (.inr (9, 0)), some (.inl a1), some (.inl a2), some (.inl a3), some (.inl x11), some (.inl v3), some (.inl r8), some (.inl v22), some (.inl v23), none]) ⟨rfl, rfl, rfl, rfl, rfl, rfl, rfl, rfl, rfl, trivial⟩ (hj162 _ _)
      refine r_iconst (v := 1) C dX9_missesWith_118 (by decide) ?_
      refine r_goto (tgt := 162) C dX9_missesWith_119 (by decide) ?_
      exact r_weak (lv' := [some (.inr (9, 0)), some (.inl a1), some (.inl a2), some (.inl a3), some (.inl x11), some (.inl v3), some (.inl r8), some (.inl v22), some (.inl v23), none]) ⟨rfl, rfl, rfl, rfl, rfl, rfl, rfl, rfl, rfl, trivial⟩ (hj162 _ _)
    refine r_icmp_ge (tgt := 60) C dX9_missesWith_50 (by decide) ?_ ?_
    · refine r_iconst (v := 0) C dX9_missesWith_60 (by decide) ?_
      exact r_weak (lv' := [some (.inr (9, 0)), some (.inl a1), some (.inl a2), some (.inl a3), some (.inl x11), some (.inl v3), some (.inl r8), none, none, none]) ⟨rfl, rfl, rfl, rfl, rfl, rfl, rfl, trivial⟩ (hj61 _ _)
    refine r_aload_n C dX9_missesWith_53 rfl rfl ?_
    refine r_get (v := .inl (m9 9 0 30)) C fl_X9_337 dX9_missesWith_54 rfl ?_
    refine r_goto (tgt := 61) C dX9_missesWith_57 (by decide) ?_
    exact r_weak (lv' := [some (.inr (9, 0)), some (.inl a1), some (.inl a2), some (.inl a3), some (.inl x11), some (.inl v3), some (.inl r8), none, none, none]) ⟨rfl, rfl, rfl, rfl, rfl, rfl, rfl, trivial⟩ (hj61 _ _)
  refine r_goto (tgt := 210) C dX9_missesWith_39 (by decide) ?_
  refine r_iinc (v := 1) C dX9_missesWith_210 (by decide) rfl (by decide) (fun x41 => ?_)
  show gw X eI _ [some (.inr (9, 0)), some (.inl a1), some (.inl a2), some (.inl a3), some (.inl v2), some (.inl x41), some (.inl r8), none, none, none] _ _ _
  refine r_goto (tgt := 11) C dX9_missesWith_213 (by decide) ?_
  exact r_weak (lv' := [some (.inr (9, 0)), some (.inl a1), some (.inl a2), some (.inl a3), some (.inl v2), some (.inl x41), none, none, none, none]) ⟨rfl, rfl, rfl, rfl, rfl, rfl, trivial⟩ (hk11 _ _ _)
theorem dX9_ideal_0 : decode cX9_ideal 0 = .ok (.aload_n 0, 1) := by decide +kernel
theorem dX9_ideal_1 : decode cX9_ideal 1 = .ok (.iload_n 1, 1) := by decide +kernel
theorem dX9_ideal_2 : decode cX9_ideal 2 = .ok (.invokevirtual 255, 3) := by decide +kernel
theorem dX9_ideal_5 : decode cX9_ideal 5 = .ok (.ifCond .eq 16, 3) := by decide +kernel
theorem dX9_ideal_8 : decode cX9_ideal 8 = .ok (.aload_n 0, 1) := by decide +kernel
theorem dX9_ideal_9 : decode cX9_ideal 9 = .ok (.iload_n 1, 1) := by decide +kernel
theorem dX9_ideal_10 : decode cX9_ideal 10 = .ok (.aload_n 0, 1) := by decide +kernel
theorem dX9_ideal_11 : decode cX9_ideal 11 = .ok (.invokevirtual 237, 3) := by decide +kernel
theorem dX9_ideal_14 : decode cX9_ideal 14 = .ok (.iconst 1, 1) := by decide +kernel
theorem dX9_ideal_15 : decode cX9_ideal 15 = .ok (.invokevirtual 349, 3) := by decide +kernel
theorem dX9_ideal_18 : decode cX9_ideal 18 = .ok (.goto 4, 3) := by decide +kernel
theorem dX9_ideal_21 : decode cX9_ideal 21 = .ok (.iconst (-1), 1) := by decide +kernel
theorem dX9_ideal_22 : decode cX9_ideal 22 = .ok (.ireturn, 1) := by decide +kernel
def X9_ideal (a1 : Int32) (m : gM) : Option (Int32 × gM) :=
  gCall (X9_isTrace a1 m) (fun (r2 : Bool) (m1 : gM) => if r2 = true then (gCall (X9_slotsAll m1) (fun (r4 : Int32) (m3 : gM) => gCall (X9_missesWith a1 r4 1 m3) (fun (r6 : Int32) (m5 : gM) => some (r6, m5)))) else (some ((-1), m1)))
set_option maxRecDepth 100000 in
set_option maxHeartbeats 4000000 in
theorem c_X9_ideal (a1 : Int32) (m : gM) : gCon eI yX9_ideal cX9_ideal 2 (some .int) 3 [.inr (9, 0), .inl a1] m (X9_ideal a1 m) := by
  refine gCon.of (lv := [some (.inr (9, 0)), some (.inl a1)]) (by decide +kernel) (Nat.le_of_ble_eq_true rfl) rfl (fun X C => ?_)
  unfold X9_ideal
  refine r_aload_n C dX9_ideal_0 rfl rfl ?_
  refine r_iload_n C dX9_ideal_1 rfl rfl ?_
  refine r_invB (t := 9) (kb := 0) (As := [.inl a1]) (st := []) C il_X9_255 co_X9_isTrace (by decide) rfl (c_X9_isTrace a1 m) (by decide) (by decide) rfl rfl (Nat.le_of_ble_eq_true rfl) dX9_ideal_2 (fun r2 m1 => ?_)
  refine r_ifeqB (tgt := 21) C dX9_ideal_5 (by decide) ?_ ?_
  · refine r_iconst (v := (-1)) C dX9_ideal_21 (by decide) ?_
    exact r_ireturn C dX9_ideal_22
  refine r_aload_n C dX9_ideal_8 rfl rfl ?_
  refine r_iload_n C dX9_ideal_9 rfl rfl ?_
  refine r_aload_n C dX9_ideal_10 rfl rfl ?_
  refine r_invI (t := 9) (kb := 0) (As := []) (st := [.inl a1, .inr (9, 0)]) C il_X9_237 co_X9_slotsAll (by decide) rfl (c_X9_slotsAll m1) (by decide) (by decide) rfl rfl (Nat.le_of_ble_eq_true rfl) dX9_ideal_11 (fun r4 m3 => ?_)
  refine r_iconst (v := 1) C dX9_ideal_14 (by decide) ?_
  refine r_invI (t := 9) (kb := 0) (As := [.inl a1, .inl r4, .inl 1]) (st := []) C il_X9_349 co_X9_missesWith (by decide) rfl (c_X9_missesWith a1 r4 1 m3) (by decide) (by decide) rfl rfl (Nat.le_of_ble_eq_true rfl) dX9_ideal_15 (fun r6 m5 => ?_)
  refine r_goto (tgt := 22) C dX9_ideal_18 (by decide) ?_
  exact r_ireturn C dX9_ideal_22
theorem dX9_distance_0 : decode cX9_distance 0 = .ok (.aload_n 0, 1) := by decide +kernel
theorem dX9_distance_1 : decode cX9_distance 1 = .ok (.iload_n 1, 1) := by decide +kernel
theorem dX9_distance_2 : decode cX9_distance 2 = .ok (.invokevirtual 255, 3) := by decide +kernel
theorem dX9_distance_5 : decode cX9_distance 5 = .ok (.ifCond .eq 28, 3) := by decide +kernel
theorem dX9_distance_8 : decode cX9_distance 8 = .ok (.iload_n 2, 1) := by decide +kernel
theorem dX9_distance_9 : decode cX9_distance 9 = .ok (.iconst 0, 1) := by decide +kernel
theorem dX9_distance_10 : decode cX9_distance 10 = .ok (.aload_n 0, 1) := by decide +kernel
theorem dX9_distance_11 : decode cX9_distance 11 = .ok (.iload_n 1, 1) := by decide +kernel
theorem dX9_distance_12 : decode cX9_distance 12 = .ok (.invokevirtual 246, 3) := by decide +kernel
theorem dX9_distance_15 : decode cX9_distance 15 = .ok (.iconst 1, 1) := by decide +kernel
theorem dX9_distance_16 : decode cX9_distance 16 = .ok (.isub, 1) := by decide +kernel
theorem dX9_distance_17 : decode cX9_distance 17 = .ok (.invokestatic 77, 3) := by decide +kernel
theorem dX9_distance_20 : decode cX9_distance 20 = .ok (.ifCond .eq 13, 3) := by decide +kernel
theorem dX9_distance_23 : decode cX9_distance 23 = .ok (.aload_n 0, 1) := by decide +kernel
theorem dX9_distance_24 : decode cX9_distance 24 = .ok (.iload_n 1, 1) := by decide +kernel
theorem dX9_distance_25 : decode cX9_distance 25 = .ok (.iload_n 2, 1) := by decide +kernel
theorem dX9_distance_26 : decode cX9_distance 26 = .ok (.invokevirtual 322, 3) := by decide +kernel
theorem dX9_distance_29 : decode cX9_distance 29 = .ok (.iconst (-1), 1) := by decide +kernel
theorem dX9_distance_30 : decode cX9_distance 30 = .ok (.if_icmp .ne 5, 3) := by decide +kernel
theorem dX9_distance_33 : decode cX9_distance 33 = .ok (.iconst (-1), 1) := by decide +kernel
theorem dX9_distance_34 : decode cX9_distance 34 = .ok (.ireturn, 1) := by decide +kernel
theorem dX9_distance_35 : decode cX9_distance 35 = .ok (.aload_n 0, 1) := by decide +kernel
theorem dX9_distance_36 : decode cX9_distance 36 = .ok (.iload_n 1, 1) := by decide +kernel
theorem dX9_distance_37 : decode cX9_distance 37 = .ok (.iload_n 2, 1) := by decide +kernel
theorem dX9_distance_38 : decode cX9_distance 38 = .ok (.invokevirtual 322, 3) := by decide +kernel
theorem dX9_distance_41 : decode cX9_distance 41 = .ok (.istore_n 3, 1) := by decide +kernel
theorem dX9_distance_42 : decode cX9_distance 42 = .ok (.iconst 0, 1) := by decide +kernel
theorem dX9_distance_43 : decode cX9_distance 43 = .ok (.istore 4, 2) := by decide +kernel
theorem dX9_distance_45 : decode cX9_distance 45 = .ok (.iload_n 3, 1) := by decide +kernel
theorem dX9_distance_46 : decode cX9_distance 46 = .ok (.iconst 1, 1) := by decide +kernel
theorem dX9_distance_47 : decode cX9_distance 47 = .ok (.iadd, 1) := by decide +kernel
theorem dX9_distance_48 : decode cX9_distance 48 = .ok (.istore 5, 2) := by decide +kernel
theorem dX9_distance_50 : decode cX9_distance 50 = .ok (.iload 5, 2) := by decide +kernel
theorem dX9_distance_52 : decode cX9_distance 52 = .ok (.iload_n 2, 1) := by decide +kernel
theorem dX9_distance_53 : decode cX9_distance 53 = .ok (.if_icmp .ge 30, 3) := by decide +kernel
theorem dX9_distance_56 : decode cX9_distance 56 = .ok (.iload 4, 2) := by decide +kernel
theorem dX9_distance_58 : decode cX9_distance 58 = .ok (.aload_n 0, 1) := by decide +kernel
theorem dX9_distance_59 : decode cX9_distance 59 = .ok (.iload_n 1, 1) := by decide +kernel
theorem dX9_distance_60 : decode cX9_distance 60 = .ok (.iload 5, 2) := by decide +kernel
theorem dX9_distance_62 : decode cX9_distance 62 = .ok (.invokevirtual 322, 3) := by decide +kernel
theorem dX9_distance_65 : decode cX9_distance 65 = .ok (.iload_n 3, 1) := by decide +kernel
theorem dX9_distance_66 : decode cX9_distance 66 = .ok (.if_icmp .gt 7, 3) := by decide +kernel
theorem dX9_distance_69 : decode cX9_distance 69 = .ok (.iconst 1, 1) := by decide +kernel
theorem dX9_distance_70 : decode cX9_distance 70 = .ok (.goto 4, 3) := by decide +kernel
theorem dX9_distance_73 : decode cX9_distance 73 = .ok (.iconst 0, 1) := by decide +kernel
theorem dX9_distance_74 : decode cX9_distance 74 = .ok (.iadd, 1) := by decide +kernel
theorem dX9_distance_75 : decode cX9_distance 75 = .ok (.istore 4, 2) := by decide +kernel
theorem dX9_distance_77 : decode cX9_distance 77 = .ok (.iinc 5 1, 3) := by decide +kernel
theorem dX9_distance_80 : decode cX9_distance 80 = .ok (.goto (-30), 3) := by decide +kernel
theorem dX9_distance_83 : decode cX9_distance 83 = .ok (.iload 4, 2) := by decide +kernel
theorem dX9_distance_85 : decode cX9_distance 85 = .ok (.ireturn, 1) := by decide +kernel
def X9_distance_b50 (a1 : Int32) (a2 : Int32) (r10 : Int32) (v12 v13 : Int32) (m14 : gM) (k50 : Int32 → Int32 → gM → Option (Int32 × gM)) : Option (Int32 × gM) :=
  if a2 ≤ v13 then (some (v12, m14)) else (gCall (X9_latest a1 v13 m14) (fun (r16 : Int32) (m15 : gM) => if r10 < r16 then (gLet (v12 + 0) (fun (x17 : Int32) => gLet (v13 + 1) (fun (x18 : Int32) => k50 x17 x18 m15))) else (gLet (v12 + 1) (fun (x19 : Int32) => gLet (v13 + 1) (fun (x20 : Int32) => k50 x19 x20 m15)))))
def X9_distance (a1 : Int32) (a2 : Int32) (m : gM) : Option (Int32 × gM) :=
  gCall (X9_isTrace a1 m) (fun (r2 : Bool) (m1 : gM) => if r2 = true then (gCall (X9_lengthOf a1 m1) (fun (r4 : Int32) (m3 : gM) => gCall (X9_isIn a2 0 (r4 - 1) m3) (fun (r6 : Bool) (m5 : gM) => if r6 = true then (gCall (X9_latest a1 a2 m5) (fun (r8 : Int32) (m7 : gM) => if r8 = (-1) then (some ((-1), m7)) else (gCall (X9_latest a1 a2 m7) (fun (r10 : Int32) (m9 : gM) => gLet (r10 + 1) (fun (x11 : Int32) => gL2 FU (X9_distance_b50 a1 a2 r10) 0 x11 m9))))) else (some ((-1), m5))))) else (some ((-1), m1)))
set_option maxRecDepth 100000 in
set_option maxHeartbeats 4000000 in
theorem c_X9_distance (a1 : Int32) (a2 : Int32) (m : gM) : gCon eI yX9_distance cX9_distance 6 (some .int) 2 [.inr (9, 0), .inl a1, .inl a2] m (X9_distance a1 a2 m) := by
  refine gCon.of (lv := [some (.inr (9, 0)), some (.inl a1), some (.inl a2), none, none, none]) (by decide +kernel) (Nat.le_of_ble_eq_true rfl) rfl (fun X C => ?_)
  unfold X9_distance
  refine r_aload_n C dX9_distance_0 rfl rfl ?_
  refine r_iload_n C dX9_distance_1 rfl rfl ?_
  refine r_invB (t := 9) (kb := 0) (As := [.inl a1]) (st := []) C il_X9_255 co_X9_isTrace (by decide) rfl (c_X9_isTrace a1 m) (by decide) (by decide) rfl rfl (Nat.le_of_ble_eq_true rfl) dX9_distance_2 (fun r2 m1 => ?_)
  refine r_ifeqB (tgt := 33) C dX9_distance_5 (by decide) ?_ ?_
  · refine r_iconst (v := (-1)) C dX9_distance_33 (by decide) ?_
    exact r_ireturn C dX9_distance_34
  refine r_iload_n C dX9_distance_8 rfl rfl ?_
  refine r_iconst (v := 0) C dX9_distance_9 (by decide) ?_
  refine r_aload_n C dX9_distance_10 rfl rfl ?_
  refine r_iload_n C dX9_distance_11 rfl rfl ?_
  refine r_invI (t := 9) (kb := 0) (As := [.inl a1]) (st := [.inl 0, .inl a2]) C il_X9_246 co_X9_lengthOf (by decide) rfl (c_X9_lengthOf a1 m1) (by decide) (by decide) rfl rfl (Nat.le_of_ble_eq_true rfl) dX9_distance_12 (fun r4 m3 => ?_)
  refine r_iconst (v := 1) C dX9_distance_15 (by decide) ?_
  refine r_isub C dX9_distance_16 ?_
  refine r_insB (As := [.inl a2, .inl 0, .inl (r4 - 1)]) (st := []) C il_X9_77 co_X9_isIn (c_X9_isIn a2 0 (r4 - 1) m3) (by decide) (by decide) rfl rfl (Nat.le_of_ble_eq_true rfl) dX9_distance_17 (fun r6 m5 => ?_)
  refine r_ifeqB (tgt := 33) C dX9_distance_20 (by decide) ?_ ?_
  · refine r_iconst (v := (-1)) C dX9_distance_33 (by decide) ?_
    exact r_ireturn C dX9_distance_34
  refine r_aload_n C dX9_distance_23 rfl rfl ?_
  refine r_iload_n C dX9_distance_24 rfl rfl ?_
  refine r_iload_n C dX9_distance_25 rfl rfl ?_
  refine r_invI (t := 9) (kb := 0) (As := [.inl a1, .inl a2]) (st := []) C il_X9_322 co_X9_latest (by decide) rfl (c_X9_latest a1 a2 m5) (by decide) (by decide) rfl rfl (Nat.le_of_ble_eq_true rfl) dX9_distance_26 (fun r8 m7 => ?_)
  refine r_iconst (v := (-1)) C dX9_distance_29 (by decide) ?_
  refine r_icmp_ne (tgt := 35) C dX9_distance_30 (by decide) ?_ ?_
  · refine r_aload_n C dX9_distance_35 rfl rfl ?_
    refine r_iload_n C dX9_distance_36 rfl rfl ?_
    refine r_iload_n C dX9_distance_37 rfl rfl ?_
    refine r_invI (t := 9) (kb := 0) (As := [.inl a1, .inl a2]) (st := []) C il_X9_322 co_X9_latest (by decide) rfl (c_X9_latest a1 a2 m7) (by decide) (by decide) rfl rfl (Nat.le_of_ble_eq_true rfl) dX9_distance_38 (fun r10 m9 => ?_)
    refine r_istore_n (lv' := [some (.inr (9, 0)), some (.inl a1), some (.inl a2), some (.inl r10), none, none]) C dX9_distance_41 rfl (by decide) rfl ?_
    refine r_iconst (v := 0) C dX9_distance_42 (by decide) ?_
    refine r_istore (lv' := [some (.inr (9, 0)), some (.inl a1), some (.inl a2), some (.inl r10), some (.inl 0), none]) C dX9_distance_43 (by decide) rfl ?_
    refine r_iload_n C dX9_distance_45 rfl rfl ?_
    refine r_iconst (v := 1) C dX9_distance_46 (by decide) ?_
    refine r_iadd C dX9_distance_47 ?_
    refine r_let (fun x11 => ?_)
    refine r_istore (lv' := [some (.inr (9, 0)), some (.inl a1), some (.inl a2), some (.inl r10), some (.inl 0), some (.inl x11)]) C dX9_distance_48 (by decide) rfl ?_
    refine r_weak (lv' := [some (.inr (9, 0)), some (.inl a1), some (.inl a2), some (.inl r10), some (.inl 0), some (.inl x11)]) ⟨rfl, rfl, rfl, rfl, rfl, rfl, trivial⟩ ?_
    refine r_l2 (pj := 50) (fun v12 v13 => [some (.inr (9, 0)), some (.inl a1), some (.inl a2), some (.inl r10), some (.inl v12), some (.inl v13)]) (fun v12 v13 m14 k50 hk50 => ?_) _ _ _ _
    unfold X9_distance_b50
    refine r_iload C dX9_distance_50 rfl ?_
    refine r_iload_n C dX9_distance_52 rfl rfl ?_
    refine r_icmp_ge (tgt := 83) C dX9_distance_53 (by decide) ?_ ?_
    · refine r_iload C dX9_distance_83 rfl ?_
      exact r_ireturn C dX9_distance_85
    refine r_iload C dX9_distance_56 rfl ?_
    refine r_aload_n C dX9_distance_58 rfl rfl ?_
    refine r_iload_n C dX9_distance_59 rfl rfl ?_
    refine r_iload C dX9_distance_60 rfl ?_
    refine r_invI (t := 9) (kb := 0) (As := [.inl a1, .inl v13]) (st := [.inl v12]) C il_X9_322 co_X9_latest (by decide) rfl (c_X9_latest a1 v13 m14) (by decide) (by decide) rfl rfl (Nat.le_of_ble_eq_true rfl) dX9_distance_62 (fun r16 m15 => ?_)
    refine r_iload_n C dX9_distance_65 rfl rfl ?_
    refine r_icmp_gt (tgt := 73) C dX9_distance_66 (by decide) ?_ ?_
    · refine r_iconst (v := 0) C dX9_distance_73 (by decide) ?_
      refine r_iadd C dX9_distance_74 ?_
      refine r_let (fun x17 => ?_)
      refine r_istore (lv' := [some (.inr (9, 0)), some (.inl a1), some (.inl a2), some (.inl r10), some (.inl x17), some (.inl v13)]) C dX9_distance_75 (by decide) rfl ?_
      refine r_iinc (v := 1) C dX9_distance_77 (by decide) rfl (by decide) (fun x18 => ?_)
      show gw X eI _ [some (.inr (9, 0)), some (.inl a1), some (.inl a2), some (.inl r10), some (.inl x17), some (.inl x18)] _ _ _
      refine r_goto (tgt := 50) C dX9_distance_80 (by decide) ?_
      exact r_weak (lv' := [some (.inr (9, 0)), some (.inl a1), some (.inl a2), some (.inl r10), some (.inl x17), some (.inl x18)]) ⟨rfl, rfl, rfl, rfl, rfl, rfl, trivial⟩ (hk50 _ _ _)
    refine r_iconst (v := 1) C dX9_distance_69 (by decide) ?_
    refine r_goto (tgt := 74) C dX9_distance_70 (by decide) ?_
    refine r_iadd C dX9_distance_74 ?_
    refine r_let (fun x19 => ?_)
    refine r_istore (lv' := [some (.inr (9, 0)), some (.inl a1), some (.inl a2), some (.inl r10), some (.inl x19), some (.inl v13)]) C dX9_distance_75 (by decide) rfl ?_
    refine r_iinc (v := 1) C dX9_distance_77 (by decide) rfl (by decide) (fun x20 => ?_)
    show gw X eI _ [some (.inr (9, 0)), some (.inl a1), some (.inl a2), some (.inl r10), some (.inl x19), some (.inl x20)] _ _ _
    refine r_goto (tgt := 50) C dX9_distance_80 (by decide) ?_
    exact r_weak (lv' := [some (.inr (9, 0)), some (.inl a1), some (.inl a2), some (.inl r10), some (.inl x19), some (.inl x20)]) ⟨rfl, rfl, rfl, rfl, rfl, rfl, trivial⟩ (hk50 _ _ _)
  refine r_iconst (v := (-1)) C dX9_distance_33 (by decide) ?_
  exact r_ireturn C dX9_distance_34
theorem dX9_recent_0 : decode cX9_recent 0 = .ok (.aload_n 0, 1) := by decide +kernel
theorem dX9_recent_1 : decode cX9_recent 1 = .ok (.iload_n 1, 1) := by decide +kernel
theorem dX9_recent_2 : decode cX9_recent 2 = .ok (.invokevirtual 255, 3) := by decide +kernel
theorem dX9_recent_5 : decode cX9_recent 5 = .ok (.ifCond .eq 23, 3) := by decide +kernel
theorem dX9_recent_8 : decode cX9_recent 8 = .ok (.iload_n 2, 1) := by decide +kernel
theorem dX9_recent_9 : decode cX9_recent 9 = .ok (.iconst 1, 1) := by decide +kernel
theorem dX9_recent_10 : decode cX9_recent 10 = .ok (.bipush 64, 2) := by decide +kernel
theorem dX9_recent_12 : decode cX9_recent 12 = .ok (.invokestatic 77, 3) := by decide +kernel
theorem dX9_recent_15 : decode cX9_recent 15 = .ok (.ifCond .eq 13, 3) := by decide +kernel
theorem dX9_recent_18 : decode cX9_recent 18 = .ok (.aload_n 0, 1) := by decide +kernel
theorem dX9_recent_19 : decode cX9_recent 19 = .ok (.iload_n 1, 1) := by decide +kernel
theorem dX9_recent_20 : decode cX9_recent 20 = .ok (.iload_n 2, 1) := by decide +kernel
theorem dX9_recent_21 : decode cX9_recent 21 = .ok (.iconst 0, 1) := by decide +kernel
theorem dX9_recent_22 : decode cX9_recent 22 = .ok (.invokevirtual 349, 3) := by decide +kernel
theorem dX9_recent_25 : decode cX9_recent 25 = .ok (.goto 4, 3) := by decide +kernel
theorem dX9_recent_28 : decode cX9_recent 28 = .ok (.iconst (-1), 1) := by decide +kernel
theorem dX9_recent_29 : decode cX9_recent 29 = .ok (.ireturn, 1) := by decide +kernel
def X9_recent (a1 : Int32) (a2 : Int32) (m : gM) : Option (Int32 × gM) :=
  gCall (X9_isTrace a1 m) (fun (r2 : Bool) (m1 : gM) => if r2 = true then (gCall (X9_isIn a2 1 64 m1) (fun (r4 : Bool) (m3 : gM) => if r4 = true then (gCall (X9_missesWith a1 a2 0 m3) (fun (r6 : Int32) (m5 : gM) => some (r6, m5))) else (some ((-1), m3)))) else (some ((-1), m1)))
set_option maxRecDepth 100000 in
set_option maxHeartbeats 4000000 in
theorem c_X9_recent (a1 : Int32) (a2 : Int32) (m : gM) : gCon eI yX9_recent cX9_recent 3 (some .int) 3 [.inr (9, 0), .inl a1, .inl a2] m (X9_recent a1 a2 m) := by
  refine gCon.of (lv := [some (.inr (9, 0)), some (.inl a1), some (.inl a2)]) (by decide +kernel) (Nat.le_of_ble_eq_true rfl) rfl (fun X C => ?_)
  unfold X9_recent
  refine r_aload_n C dX9_recent_0 rfl rfl ?_
  refine r_iload_n C dX9_recent_1 rfl rfl ?_
  refine r_invB (t := 9) (kb := 0) (As := [.inl a1]) (st := []) C il_X9_255 co_X9_isTrace (by decide) rfl (c_X9_isTrace a1 m) (by decide) (by decide) rfl rfl (Nat.le_of_ble_eq_true rfl) dX9_recent_2 (fun r2 m1 => ?_)
  refine r_ifeqB (tgt := 28) C dX9_recent_5 (by decide) ?_ ?_
  · refine r_iconst (v := (-1)) C dX9_recent_28 (by decide) ?_
    exact r_ireturn C dX9_recent_29
  refine r_iload_n C dX9_recent_8 rfl rfl ?_
  refine r_iconst (v := 1) C dX9_recent_9 (by decide) ?_
  refine r_bipush (v := 64) C dX9_recent_10 (by decide) ?_
  refine r_insB (As := [.inl a2, .inl 1, .inl 64]) (st := []) C il_X9_77 co_X9_isIn (c_X9_isIn a2 1 64 m1) (by decide) (by decide) rfl rfl (Nat.le_of_ble_eq_true rfl) dX9_recent_12 (fun r4 m3 => ?_)
  refine r_ifeqB (tgt := 28) C dX9_recent_15 (by decide) ?_ ?_
  · refine r_iconst (v := (-1)) C dX9_recent_28 (by decide) ?_
    exact r_ireturn C dX9_recent_29
  refine r_aload_n C dX9_recent_18 rfl rfl ?_
  refine r_iload_n C dX9_recent_19 rfl rfl ?_
  refine r_iload_n C dX9_recent_20 rfl rfl ?_
  refine r_iconst (v := 0) C dX9_recent_21 (by decide) ?_
  refine r_invI (t := 9) (kb := 0) (As := [.inl a1, .inl a2, .inl 0]) (st := []) C il_X9_349 co_X9_missesWith (by decide) rfl (c_X9_missesWith a1 a2 0 m3) (by decide) (by decide) rfl rfl (Nat.le_of_ble_eq_true rfl) dX9_recent_22 (fun r6 m5 => ?_)
  refine r_goto (tgt := 29) C dX9_recent_25 (by decide) ?_
  exact r_ireturn C dX9_recent_29
theorem dX9_conflicts_0 : decode cX9_conflicts 0 = .ok (.aload_n 0, 1) := by decide +kernel
theorem dX9_conflicts_1 : decode cX9_conflicts 1 = .ok (.iload_n 1, 1) := by decide +kernel
theorem dX9_conflicts_2 : decode cX9_conflicts 2 = .ok (.invokevirtual 255, 3) := by decide +kernel
theorem dX9_conflicts_5 : decode cX9_conflicts 5 = .ok (.ifCond .eq 30, 3) := by decide +kernel
theorem dX9_conflicts_8 : decode cX9_conflicts 8 = .ok (.aload_n 0, 1) := by decide +kernel
theorem dX9_conflicts_9 : decode cX9_conflicts 9 = .ok (.iload_n 1, 1) := by decide +kernel
theorem dX9_conflicts_10 : decode cX9_conflicts 10 = .ok (.aload_n 0, 1) := by decide +kernel
theorem dX9_conflicts_11 : decode cX9_conflicts 11 = .ok (.getfield 7, 3) := by decide +kernel
theorem dX9_conflicts_14 : decode cX9_conflicts 14 = .ok (.bipush 38, 2) := by decide +kernel
theorem dX9_conflicts_16 : decode cX9_conflicts 16 = .ok (.iaload, 1) := by decide +kernel
theorem dX9_conflicts_17 : decode cX9_conflicts 17 = .ok (.iconst (-1), 1) := by decide +kernel
theorem dX9_conflicts_18 : decode cX9_conflicts 18 = .ok (.invokevirtual 328, 3) := by decide +kernel
theorem dX9_conflicts_21 : decode cX9_conflicts 21 = .ok (.aload_n 0, 1) := by decide +kernel
theorem dX9_conflicts_22 : decode cX9_conflicts 22 = .ok (.iload_n 1, 1) := by decide +kernel
theorem dX9_conflicts_23 : decode cX9_conflicts 23 = .ok (.aload_n 0, 1) := by decide +kernel
theorem dX9_conflicts_24 : decode cX9_conflicts 24 = .ok (.invokevirtual 237, 3) := by decide +kernel
theorem dX9_conflicts_27 : decode cX9_conflicts 27 = .ok (.iconst 0, 1) := by decide +kernel
theorem dX9_conflicts_28 : decode cX9_conflicts 28 = .ok (.invokevirtual 349, 3) := by decide +kernel
theorem dX9_conflicts_31 : decode cX9_conflicts 31 = .ok (.isub, 1) := by decide +kernel
theorem dX9_conflicts_32 : decode cX9_conflicts 32 = .ok (.goto 6, 3) := by decide +kernel
theorem dX9_conflicts_35 : decode cX9_conflicts 35 = .ok (.sipush (-10000), 3) := by decide +kernel
theorem dX9_conflicts_38 : decode cX9_conflicts 38 = .ok (.ireturn, 1) := by decide +kernel
def X9_conflicts (a1 : Int32) (m : gM) : Option (Int32 × gM) :=
  gCall (X9_isTrace a1 m) (fun (r2 : Bool) (m1 : gM) => if r2 = true then (gAt m1 47 0 38 (fun (x3 : Int32) => gCall (X9_missesBy a1 x3 (-1) m1) (fun (r5 : Int32) (m4 : gM) => gCall (X9_slotsAll m4) (fun (r7 : Int32) (m6 : gM) => gCall (X9_missesWith a1 r7 0 m6) (fun (r9 : Int32) (m8 : gM) => some (r5 - r9, m8)))))) else (some ((-10000), m1)))
set_option maxRecDepth 100000 in
set_option maxHeartbeats 4000000 in
theorem c_X9_conflicts (a1 : Int32) (m : gM) : gCon eI yX9_conflicts cX9_conflicts 2 (some .int) 9 [.inr (9, 0), .inl a1] m (X9_conflicts a1 m) := by
  refine gCon.of (lv := [some (.inr (9, 0)), some (.inl a1)]) (by decide +kernel) (Nat.le_of_ble_eq_true rfl) rfl (fun X C => ?_)
  unfold X9_conflicts
  refine r_aload_n C dX9_conflicts_0 rfl rfl ?_
  refine r_iload_n C dX9_conflicts_1 rfl rfl ?_
  refine r_invB (t := 9) (kb := 0) (As := [.inl a1]) (st := []) C il_X9_255 co_X9_isTrace (by decide) rfl (c_X9_isTrace a1 m) (by decide) (by decide) rfl rfl (Nat.le_of_ble_eq_true rfl) dX9_conflicts_2 (fun r2 m1 => ?_)
  refine r_ifeqB (tgt := 35) C dX9_conflicts_5 (by decide) ?_ ?_
  · refine r_sipush (v := (-10000)) C dX9_conflicts_35 (by decide) ?_
    exact r_ireturn C dX9_conflicts_38
  refine r_aload_n C dX9_conflicts_8 rfl rfl ?_
  refine r_iload_n C dX9_conflicts_9 rfl rfl ?_
  refine r_aload_n C dX9_conflicts_10 rfl rfl ?_
  refine r_get (v := .inr (47, 0)) C fl_X9_7 dX9_conflicts_11 rfl ?_
  refine r_bipush (v := 38) C dX9_conflicts_14 (by decide) ?_
  refine r_iald C rfl dX9_conflicts_16 (fun x3 => ?_)
  refine r_iconst (v := (-1)) C dX9_conflicts_17 (by decide) ?_
  refine r_invI (t := 9) (kb := 0) (As := [.inl a1, .inl x3, .inl (-1)]) (st := []) C il_X9_328 co_X9_missesBy (by decide) rfl (c_X9_missesBy a1 x3 (-1) m1) (by decide) (by decide) rfl rfl (Nat.le_of_ble_eq_true rfl) dX9_conflicts_18 (fun r5 m4 => ?_)
  refine r_aload_n C dX9_conflicts_21 rfl rfl ?_
  refine r_iload_n C dX9_conflicts_22 rfl rfl ?_
  refine r_aload_n C dX9_conflicts_23 rfl rfl ?_
  refine r_invI (t := 9) (kb := 0) (As := []) (st := [.inl a1, .inr (9, 0), .inl r5]) C il_X9_237 co_X9_slotsAll (by decide) rfl (c_X9_slotsAll m4) (by decide) (by decide) rfl rfl (Nat.le_of_ble_eq_true rfl) dX9_conflicts_24 (fun r7 m6 => ?_)
  refine r_iconst (v := 0) C dX9_conflicts_27 (by decide) ?_
  refine r_invI (t := 9) (kb := 0) (As := [.inl a1, .inl r7, .inl 0]) (st := [.inl r5]) C il_X9_349 co_X9_missesWith (by decide) rfl (c_X9_missesWith a1 r7 0 m6) (by decide) (by decide) rfl rfl (Nat.le_of_ble_eq_true rfl) dX9_conflicts_28 (fun r9 m8 => ?_)
  refine r_isub C dX9_conflicts_31 ?_
  refine r_goto (tgt := 38) C dX9_conflicts_32 (by decide) ?_
  exact r_ireturn C dX9_conflicts_38
theorem dX9_image_0 : decode cX9_image 0 = .ok (.aload_n 0, 1) := by decide +kernel
theorem dX9_image_1 : decode cX9_image 1 = .ok (.getfield 7, 3) := by decide +kernel
theorem dX9_image_4 : decode cX9_image 4 = .ok (.aload_n 0, 1) := by decide +kernel
theorem dX9_image_5 : decode cX9_image 5 = .ok (.getfield 13, 3) := by decide +kernel
theorem dX9_image_8 : decode cX9_image 8 = .ok (.invokestatic 73, 3) := by decide +kernel
theorem dX9_image_11 : decode cX9_image 11 = .ok (.aload_n 0, 1) := by decide +kernel
theorem dX9_image_12 : decode cX9_image 12 = .ok (.invokevirtual 267, 3) := by decide +kernel
theorem dX9_image_15 : decode cX9_image 15 = .ok (.ireturn, 1) := by decide +kernel
def X9_image (m : gM) : Option (Int32 × gM) :=
  gCall (X9_copy 47 0 48 0 m) (fun (r2 : Unit) (m1 : gM) => gCall (X9_inSlots m1) (fun (r4 : Int32) (m3 : gM) => some (r4, m3)))
set_option maxRecDepth 100000 in
set_option maxHeartbeats 4000000 in
theorem c_X9_image (m : gM) : gCon eI yX9_image cX9_image 1 (some .int) 3 [.inr (9, 0)] m (X9_image m) := by
  refine gCon.of (lv := [some (.inr (9, 0))]) (by decide +kernel) (Nat.le_of_ble_eq_true rfl) rfl (fun X C => ?_)
  unfold X9_image
  refine r_aload_n C dX9_image_0 rfl rfl ?_
  refine r_get (v := .inr (47, 0)) C fl_X9_7 dX9_image_1 rfl ?_
  refine r_aload_n C dX9_image_4 rfl rfl ?_
  refine r_get (v := .inr (48, 0)) C fl_X9_13 dX9_image_5 rfl ?_
  refine r_insU (As := [.inr (47, 0), .inr (48, 0)]) (st := []) C il_X9_73 co_X9_copy (c_X9_copy 47 0 48 0 rfl rfl m) (by decide) (by decide) rfl rfl (Nat.le_of_ble_eq_true rfl) dX9_image_8 (fun r2 m1 => ?_)
  refine r_aload_n C dX9_image_11 rfl rfl ?_
  refine r_invI (t := 9) (kb := 0) (As := []) (st := []) C il_X9_267 co_X9_inSlots (by decide) rfl (c_X9_inSlots m1) (by decide) (by decide) rfl rfl (Nat.le_of_ble_eq_true rfl) dX9_image_12 (fun r4 m3 => ?_)
  exact r_ireturn C dX9_image_15
theorem dX9_back_0 : decode cX9_back 0 = .ok (.aload_n 0, 1) := by decide +kernel
theorem dX9_back_1 : decode cX9_back 1 = .ok (.getfield 13, 3) := by decide +kernel
theorem dX9_back_4 : decode cX9_back 4 = .ok (.aload_n 0, 1) := by decide +kernel
theorem dX9_back_5 : decode cX9_back 5 = .ok (.getfield 7, 3) := by decide +kernel
theorem dX9_back_8 : decode cX9_back 8 = .ok (.invokestatic 73, 3) := by decide +kernel
theorem dX9_back_11 : decode cX9_back 11 = .ok (.aload_n 0, 1) := by decide +kernel
theorem dX9_back_12 : decode cX9_back 12 = .ok (.invokevirtual 267, 3) := by decide +kernel
theorem dX9_back_15 : decode cX9_back 15 = .ok (.ireturn, 1) := by decide +kernel
def X9_back (m : gM) : Option (Int32 × gM) :=
  gCall (X9_copy 48 0 47 0 m) (fun (r2 : Unit) (m1 : gM) => gCall (X9_inSlots m1) (fun (r4 : Int32) (m3 : gM) => some (r4, m3)))
set_option maxRecDepth 100000 in
set_option maxHeartbeats 4000000 in
theorem c_X9_back (m : gM) : gCon eI yX9_back cX9_back 1 (some .int) 3 [.inr (9, 0)] m (X9_back m) := by
  refine gCon.of (lv := [some (.inr (9, 0))]) (by decide +kernel) (Nat.le_of_ble_eq_true rfl) rfl (fun X C => ?_)
  unfold X9_back
  refine r_aload_n C dX9_back_0 rfl rfl ?_
  refine r_get (v := .inr (48, 0)) C fl_X9_13 dX9_back_1 rfl ?_
  refine r_aload_n C dX9_back_4 rfl rfl ?_
  refine r_get (v := .inr (47, 0)) C fl_X9_7 dX9_back_5 rfl ?_
  refine r_insU (As := [.inr (48, 0), .inr (47, 0)]) (st := []) C il_X9_73 co_X9_copy (c_X9_copy 48 0 47 0 rfl rfl m) (by decide) (by decide) rfl rfl (Nat.le_of_ble_eq_true rfl) dX9_back_8 (fun r2 m1 => ?_)
  refine r_aload_n C dX9_back_11 rfl rfl ?_
  refine r_invI (t := 9) (kb := 0) (As := []) (st := []) C il_X9_267 co_X9_inSlots (by decide) rfl (c_X9_inSlots m1) (by decide) (by decide) rfl rfl (Nat.le_of_ble_eq_true rfl) dX9_back_12 (fun r4 m3 => ?_)
  exact r_ireturn C dX9_back_15
theorem dX9_about_0 : decode cX9_about 0 = .ok (.iload_n 1, 1) := by decide +kernel
theorem dX9_about_1 : decode cX9_about 1 = .ok (.ifCond .ne 12, 3) := by decide +kernel
theorem dX9_about_4 : decode cX9_about 4 = .ok (.aload_n 0, 1) := by decide +kernel
theorem dX9_about_5 : decode cX9_about 5 = .ok (.getfield 7, 3) := by decide +kernel
theorem dX9_about_8 : decode cX9_about 8 = .ok (.iconst 0, 1) := by decide +kernel
theorem dX9_about_9 : decode cX9_about 9 = .ok (.iaload, 1) := by decide +kernel
theorem dX9_about_10 : decode cX9_about 10 = .ok (.goto 31, 3) := by decide +kernel
theorem dX9_about_13 : decode cX9_about 13 = .ok (.iload_n 1, 1) := by decide +kernel
theorem dX9_about_14 : decode cX9_about 14 = .ok (.iconst 1, 1) := by decide +kernel
theorem dX9_about_15 : decode cX9_about 15 = .ok (.if_icmp .ne 12, 3) := by decide +kernel
theorem dX9_about_18 : decode cX9_about 18 = .ok (.aload_n 0, 1) := by decide +kernel
theorem dX9_about_19 : decode cX9_about 19 = .ok (.getfield 7, 3) := by decide +kernel
theorem dX9_about_22 : decode cX9_about 22 = .ok (.iconst 1, 1) := by decide +kernel
theorem dX9_about_23 : decode cX9_about 23 = .ok (.iaload, 1) := by decide +kernel
theorem dX9_about_24 : decode cX9_about 24 = .ok (.goto 17, 3) := by decide +kernel
theorem dX9_about_27 : decode cX9_about 27 = .ok (.iload_n 1, 1) := by decide +kernel
theorem dX9_about_28 : decode cX9_about 28 = .ok (.iconst 2, 1) := by decide +kernel
theorem dX9_about_29 : decode cX9_about 29 = .ok (.if_icmp .ne 10, 3) := by decide +kernel
theorem dX9_about_32 : decode cX9_about 32 = .ok (.aload_n 0, 1) := by decide +kernel
theorem dX9_about_33 : decode cX9_about 33 = .ok (.getfield 105, 3) := by decide +kernel
theorem dX9_about_36 : decode cX9_about 36 = .ok (.goto 5, 3) := by decide +kernel
theorem dX9_about_39 : decode cX9_about 39 = .ok (.bipush (-2), 2) := by decide +kernel
theorem dX9_about_41 : decode cX9_about 41 = .ok (.ireturn, 1) := by decide +kernel
def X9_about (a1 : Int32) (m : gM) : Option (Int32 × gM) :=
  if a1 = 0 then (gAt m 47 0 0 (fun (x2 : Int32) => some (x2, m))) else (if a1 = 1 then (gAt m 47 0 1 (fun (x1 : Int32) => some (x1, m))) else (if a1 = 2 then (some ((m 9 0 4), m)) else (some ((-2), m))))
set_option maxRecDepth 100000 in
set_option maxHeartbeats 4000000 in
theorem c_X9_about (a1 : Int32) (m : gM) : gCon eI yX9_about cX9_about 2 (some .int) 0 [.inr (9, 0), .inl a1] m (X9_about a1 m) := by
  refine gCon.of (lv := [some (.inr (9, 0)), some (.inl a1)]) (by decide +kernel) (Nat.le_of_ble_eq_true rfl) rfl (fun X C => ?_)
  unfold X9_about
  refine r_iload_n C dX9_about_0 rfl rfl ?_
  refine r_if_ne (tgt := 13) C dX9_about_1 (by decide) ?_ ?_
  · refine r_iload_n C dX9_about_13 rfl rfl ?_
    refine r_iconst (v := 1) C dX9_about_14 (by decide) ?_
    refine r_icmp_ne (tgt := 27) C dX9_about_15 (by decide) ?_ ?_
    · refine r_iload_n C dX9_about_27 rfl rfl ?_
      refine r_iconst (v := 2) C dX9_about_28 (by decide) ?_
      refine r_icmp_ne (tgt := 39) C dX9_about_29 (by decide) ?_ ?_
      · refine r_bipush (v := (-2)) C dX9_about_39 (by decide) ?_
        exact r_ireturn C dX9_about_41
      refine r_aload_n C dX9_about_32 rfl rfl ?_
      refine r_get (v := .inl (m 9 0 4)) C fl_X9_105 dX9_about_33 rfl ?_
      refine r_goto (tgt := 41) C dX9_about_36 (by decide) ?_
      exact r_ireturn C dX9_about_41
    refine r_aload_n C dX9_about_18 rfl rfl ?_
    refine r_get (v := .inr (47, 0)) C fl_X9_7 dX9_about_19 rfl ?_
    refine r_iconst (v := 1) C dX9_about_22 (by decide) ?_
    refine r_iald C rfl dX9_about_23 (fun x1 => ?_)
    refine r_goto (tgt := 41) C dX9_about_24 (by decide) ?_
    exact r_ireturn C dX9_about_41
  refine r_aload_n C dX9_about_4 rfl rfl ?_
  refine r_get (v := .inr (47, 0)) C fl_X9_7 dX9_about_5 rfl ?_
  refine r_iconst (v := 0) C dX9_about_8 (by decide) ?_
  refine r_iald C rfl dX9_about_9 (fun x2 => ?_)
  refine r_goto (tgt := 41) C dX9_about_10 (by decide) ?_
  exact r_ireturn C dX9_about_41
