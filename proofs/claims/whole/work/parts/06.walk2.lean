theorem dX9_askNow_0 : decode cX9_askNow 0 = .ok (.aload_n 0, 1) := by decide +kernel
theorem dX9_askNow_1 : decode cX9_askNow 1 = .ok (.iload_n 1, 1) := by decide +kernel
theorem dX9_askNow_2 : decode cX9_askNow 2 = .ok (.invokevirtual 174, 3) := by decide +kernel
theorem dX9_askNow_5 : decode cX9_askNow 5 = .ok (.istore_n 2, 1) := by decide +kernel
theorem dX9_askNow_6 : decode cX9_askNow 6 = .ok (.iload_n 2, 1) := by decide +kernel
theorem dX9_askNow_7 : decode cX9_askNow 7 = .ok (.iconst (-1), 1) := by decide +kernel
theorem dX9_askNow_8 : decode cX9_askNow 8 = .ok (.if_icmp .eq 28, 3) := by decide +kernel
theorem dX9_askNow_11 : decode cX9_askNow 11 = .ok (.aload_n 0, 1) := by decide +kernel
theorem dX9_askNow_12 : decode cX9_askNow 12 = .ok (.getfield 7, 3) := by decide +kernel
theorem dX9_askNow_15 : decode cX9_askNow 15 = .ok (.bipush 39, 2) := by decide +kernel
theorem dX9_askNow_17 : decode cX9_askNow 17 = .ok (.dup2, 1) := by decide +kernel
theorem dX9_askNow_18 : decode cX9_askNow 18 = .ok (.iaload, 1) := by decide +kernel
theorem dX9_askNow_19 : decode cX9_askNow 19 = .ok (.iconst 1, 1) := by decide +kernel
theorem dX9_askNow_20 : decode cX9_askNow 20 = .ok (.iadd, 1) := by decide +kernel
theorem dX9_askNow_21 : decode cX9_askNow 21 = .ok (.iastore, 1) := by decide +kernel
theorem dX9_askNow_22 : decode cX9_askNow 22 = .ok (.aload_n 0, 1) := by decide +kernel
theorem dX9_askNow_23 : decode cX9_askNow 23 = .ok (.getfield 7, 3) := by decide +kernel
theorem dX9_askNow_26 : decode cX9_askNow 26 = .ok (.iload_n 2, 1) := by decide +kernel
theorem dX9_askNow_27 : decode cX9_askNow 27 = .ok (.invokestatic 96, 3) := by decide +kernel
theorem dX9_askNow_30 : decode cX9_askNow 30 = .ok (.iconst 3, 1) := by decide +kernel
theorem dX9_askNow_31 : decode cX9_askNow 31 = .ok (.iadd, 1) := by decide +kernel
theorem dX9_askNow_32 : decode cX9_askNow 32 = .ok (.iconst 0, 1) := by decide +kernel
theorem dX9_askNow_33 : decode cX9_askNow 33 = .ok (.iastore, 1) := by decide +kernel
theorem dX9_askNow_34 : decode cX9_askNow 34 = .ok (.iconst 1, 1) := by decide +kernel
theorem dX9_askNow_35 : decode cX9_askNow 35 = .ok (.ireturn, 1) := by decide +kernel
theorem dX9_askNow_36 : decode cX9_askNow 36 = .ok (.aload_n 0, 1) := by decide +kernel
theorem dX9_askNow_37 : decode cX9_askNow 37 = .ok (.getfield 7, 3) := by decide +kernel
theorem dX9_askNow_40 : decode cX9_askNow 40 = .ok (.bipush 40, 2) := by decide +kernel
theorem dX9_askNow_42 : decode cX9_askNow 42 = .ok (.dup2, 1) := by decide +kernel
theorem dX9_askNow_43 : decode cX9_askNow 43 = .ok (.iaload, 1) := by decide +kernel
theorem dX9_askNow_44 : decode cX9_askNow 44 = .ok (.iconst 1, 1) := by decide +kernel
theorem dX9_askNow_45 : decode cX9_askNow 45 = .ok (.iadd, 1) := by decide +kernel
theorem dX9_askNow_46 : decode cX9_askNow 46 = .ok (.iastore, 1) := by decide +kernel
theorem dX9_askNow_47 : decode cX9_askNow 47 = .ok (.aload_n 0, 1) := by decide +kernel
theorem dX9_askNow_48 : decode cX9_askNow 48 = .ok (.iload_n 1, 1) := by decide +kernel
theorem dX9_askNow_49 : decode cX9_askNow 49 = .ok (.aload_n 0, 1) := by decide +kernel
theorem dX9_askNow_50 : decode cX9_askNow 50 = .ok (.getfield 7, 3) := by decide +kernel
theorem dX9_askNow_53 : decode cX9_askNow 53 = .ok (.bipush 38, 2) := by decide +kernel
theorem dX9_askNow_55 : decode cX9_askNow 55 = .ok (.iaload, 1) := by decide +kernel
theorem dX9_askNow_56 : decode cX9_askNow 56 = .ok (.invokevirtual 193, 3) := by decide +kernel
theorem dX9_askNow_59 : decode cX9_askNow 59 = .ok (.aload_n 0, 1) := by decide +kernel
theorem dX9_askNow_60 : decode cX9_askNow 60 = .ok (.getfield 171, 3) := by decide +kernel
theorem dX9_askNow_63 : decode cX9_askNow 63 = .ok (.ifCond .le 10, 3) := by decide +kernel
theorem dX9_askNow_66 : decode cX9_askNow 66 = .ok (.aload_n 0, 1) := by decide +kernel
theorem dX9_askNow_67 : decode cX9_askNow 67 = .ok (.iload_n 1, 1) := by decide +kernel
theorem dX9_askNow_68 : decode cX9_askNow 68 = .ok (.invokevirtual 196, 3) := by decide +kernel
theorem dX9_askNow_71 : decode cX9_askNow 71 = .ok (.iconst 0, 1) := by decide +kernel
theorem dX9_askNow_72 : decode cX9_askNow 72 = .ok (.ireturn, 1) := by decide +kernel
theorem dX9_askNow_73 : decode cX9_askNow 73 = .ok (.aload_n 0, 1) := by decide +kernel
theorem dX9_askNow_74 : decode cX9_askNow 74 = .ok (.getfield 7, 3) := by decide +kernel
theorem dX9_askNow_77 : decode cX9_askNow 77 = .ok (.bipush 45, 2) := by decide +kernel
theorem dX9_askNow_79 : decode cX9_askNow 79 = .ok (.dup2, 1) := by decide +kernel
theorem dX9_askNow_80 : decode cX9_askNow 80 = .ok (.iaload, 1) := by decide +kernel
theorem dX9_askNow_81 : decode cX9_askNow 81 = .ok (.iconst 1, 1) := by decide +kernel
theorem dX9_askNow_82 : decode cX9_askNow 82 = .ok (.iadd, 1) := by decide +kernel
theorem dX9_askNow_83 : decode cX9_askNow 83 = .ok (.iastore, 1) := by decide +kernel
theorem dX9_askNow_84 : decode cX9_askNow 84 = .ok (.aload_n 0, 1) := by decide +kernel
theorem dX9_askNow_85 : decode cX9_askNow 85 = .ok (.iload_n 1, 1) := by decide +kernel
theorem dX9_askNow_86 : decode cX9_askNow 86 = .ok (.iconst (-1), 1) := by decide +kernel
theorem dX9_askNow_87 : decode cX9_askNow 87 = .ok (.iconst 0, 1) := by decide +kernel
theorem dX9_askNow_88 : decode cX9_askNow 88 = .ok (.iconst 1, 1) := by decide +kernel
theorem dX9_askNow_89 : decode cX9_askNow 89 = .ok (.invokevirtual 189, 3) := by decide +kernel
theorem dX9_askNow_92 : decode cX9_askNow 92 = .ok (.iconst 0, 1) := by decide +kernel
theorem dX9_askNow_93 : decode cX9_askNow 93 = .ok (.ireturn, 1) := by decide +kernel
def X9_askNow (a1 : Int32) (m : gM) : Option (Bool × gM) :=
  gCall (X9_placeWith a1 m) (fun (r2 : Int32) (m1 : gM) => if r2 = (-1) then (gAt m1 47 0 40 (fun (x3 : Int32) => gPut m1 47 0 40 (x3 + 1) (fun (m4 : gM) => gAt m4 47 0 38 (fun (x5 : Int32) => gCall (X9_layFound a1 x5 m4) (fun (r7 : Unit) (m6 : gM) => if (m6 9 0 18) ≤ 0 then (gAt m6 47 0 45 (fun (x8 : Int32) => gPut m6 47 0 45 (x8 + 1) (fun (m9 : gM) => gCall (X9_writeDown a1 (-1) 0 1 m9) (fun (r11 : Unit) (m10 : gM) => some (false, m10))))) else (gCall (X9_comeIn a1 m6) (fun (r13 : Unit) (m12 : gM) => some (false, m12)))))))) else (gAt m1 47 0 39 (fun (x14 : Int32) => gPut m1 47 0 39 (x14 + 1) (fun (m15 : gM) => gCall (X9_at r2 m15) (fun (r17 : Int32) (m16 : gM) => gPut m16 47 0 (r17 + 3) 0 (fun (m18 : gM) => some (true, m18)))))))
set_option maxRecDepth 100000 in
set_option maxHeartbeats 4000000 in
theorem c_X9_askNow (a1 : Int32) (m : gM) : gCon eB yX9_askNow cX9_askNow 3 (some .boolean) 5 [.inr (9, 0), .inl a1] m (X9_askNow a1 m) := by
  refine gCon.of (lv := [some (.inr (9, 0)), some (.inl a1), none]) (by decide +kernel) (Nat.le_of_ble_eq_true rfl) rfl (fun X C => ?_)
  unfold X9_askNow
  refine r_aload_n C dX9_askNow_0 rfl rfl ?_
  refine r_iload_n C dX9_askNow_1 rfl rfl ?_
  refine r_invI (t := 9) (kb := 0) (As := [.inl a1]) (st := []) C il_X9_174 co_X9_placeWith (by decide) rfl (c_X9_placeWith a1 m) (by decide) (by decide) rfl rfl (Nat.le_of_ble_eq_true rfl) dX9_askNow_2 (fun r2 m1 => ?_)
  refine r_istore_n (lv' := [some (.inr (9, 0)), some (.inl a1), some (.inl r2)]) C dX9_askNow_5 rfl (by decide) rfl ?_
  refine r_iload_n C dX9_askNow_6 rfl rfl ?_
  refine r_iconst (v := (-1)) C dX9_askNow_7 (by decide) ?_
  refine r_icmp_eq (tgt := 36) C dX9_askNow_8 (by decide) ?_ ?_
  · refine r_aload_n C dX9_askNow_36 rfl rfl ?_
    refine r_get (v := .inr (47, 0)) C fl_X9_7 dX9_askNow_37 rfl ?_
    refine r_bipush (v := 40) C dX9_askNow_40 (by decide) ?_
    refine r_dup2 C dX9_askNow_42 ?_
    refine r_iald C rfl dX9_askNow_43 (fun x3 => ?_)
    refine r_iconst (v := 1) C dX9_askNow_44 (by decide) ?_
    refine r_iadd C dX9_askNow_45 ?_
    refine r_iast C rfl dX9_askNow_46 (fun m4 => ?_)
    refine r_aload_n C dX9_askNow_47 rfl rfl ?_
    refine r_iload_n C dX9_askNow_48 rfl rfl ?_
    refine r_aload_n C dX9_askNow_49 rfl rfl ?_
    refine r_get (v := .inr (47, 0)) C fl_X9_7 dX9_askNow_50 rfl ?_
    refine r_bipush (v := 38) C dX9_askNow_53 (by decide) ?_
    refine r_iald C rfl dX9_askNow_55 (fun x5 => ?_)
    refine r_invU (t := 9) (kb := 0) (As := [.inl a1, .inl x5]) (st := []) C il_X9_193 co_X9_layFound (by decide) rfl (c_X9_layFound a1 x5 m4) (by decide) (by decide) rfl rfl (Nat.le_of_ble_eq_true rfl) dX9_askNow_56 (fun r7 m6 => ?_)
    refine r_aload_n C dX9_askNow_59 rfl rfl ?_
    refine r_get (v := .inl (m6 9 0 18)) C fl_X9_171 dX9_askNow_60 rfl ?_
    refine r_if_le (tgt := 73) C dX9_askNow_63 (by decide) ?_ ?_
    · refine r_aload_n C dX9_askNow_73 rfl rfl ?_
      refine r_get (v := .inr (47, 0)) C fl_X9_7 dX9_askNow_74 rfl ?_
      refine r_bipush (v := 45) C dX9_askNow_77 (by decide) ?_
      refine r_dup2 C dX9_askNow_79 ?_
      refine r_iald C rfl dX9_askNow_80 (fun x8 => ?_)
      refine r_iconst (v := 1) C dX9_askNow_81 (by decide) ?_
      refine r_iadd C dX9_askNow_82 ?_
      refine r_iast C rfl dX9_askNow_83 (fun m9 => ?_)
      refine r_aload_n C dX9_askNow_84 rfl rfl ?_
      refine r_iload_n C dX9_askNow_85 rfl rfl ?_
      refine r_iconst (v := (-1)) C dX9_askNow_86 (by decide) ?_
      refine r_iconst (v := 0) C dX9_askNow_87 (by decide) ?_
      refine r_iconst (v := 1) C dX9_askNow_88 (by decide) ?_
      refine r_invU (t := 9) (kb := 0) (As := [.inl a1, .inl (-1), .inl 0, .inl 1]) (st := []) C il_X9_189 co_X9_writeDown (by decide) rfl (c_X9_writeDown a1 (-1) 0 1 m9) (by decide) (by decide) rfl rfl (Nat.le_of_ble_eq_true rfl) dX9_askNow_89 (fun r11 m10 => ?_)
      refine r_iconst (v := 0) C dX9_askNow_92 (by decide) ?_
      exact r_zret0 C dX9_askNow_93
    refine r_aload_n C dX9_askNow_66 rfl rfl ?_
    refine r_iload_n C dX9_askNow_67 rfl rfl ?_
    refine r_invU (t := 9) (kb := 0) (As := [.inl a1]) (st := []) C il_X9_196 co_X9_comeIn (by decide) rfl (c_X9_comeIn a1 m6) (by decide) (by decide) rfl rfl (Nat.le_of_ble_eq_true rfl) dX9_askNow_68 (fun r13 m12 => ?_)
    refine r_iconst (v := 0) C dX9_askNow_71 (by decide) ?_
    exact r_zret0 C dX9_askNow_72
  refine r_aload_n C dX9_askNow_11 rfl rfl ?_
  refine r_get (v := .inr (47, 0)) C fl_X9_7 dX9_askNow_12 rfl ?_
  refine r_bipush (v := 39) C dX9_askNow_15 (by decide) ?_
  refine r_dup2 C dX9_askNow_17 ?_
  refine r_iald C rfl dX9_askNow_18 (fun x14 => ?_)
  refine r_iconst (v := 1) C dX9_askNow_19 (by decide) ?_
  refine r_iadd C dX9_askNow_20 ?_
  refine r_iast C rfl dX9_askNow_21 (fun m15 => ?_)
  refine r_aload_n C dX9_askNow_22 rfl rfl ?_
  refine r_get (v := .inr (47, 0)) C fl_X9_7 dX9_askNow_23 rfl ?_
  refine r_iload_n C dX9_askNow_26 rfl rfl ?_
  refine r_insI (As := [.inl r2]) (st := [.inr (47, 0)]) C il_X9_96 co_X9_at (c_X9_at r2 m15) (by decide) (by decide) rfl rfl (Nat.le_of_ble_eq_true rfl) dX9_askNow_27 (fun r17 m16 => ?_)
  refine r_iconst (v := 3) C dX9_askNow_30 (by decide) ?_
  refine r_iadd C dX9_askNow_31 ?_
  refine r_iconst (v := 0) C dX9_askNow_32 (by decide) ?_
  refine r_iast C rfl dX9_askNow_33 (fun m18 => ?_)
  refine r_iconst (v := 1) C dX9_askNow_34 (by decide) ?_
  exact r_zret1 C dX9_askNow_35
theorem dX9_writeNow_0 : decode cX9_writeNow 0 = .ok (.aload_n 0, 1) := by decide +kernel
theorem dX9_writeNow_1 : decode cX9_writeNow 1 = .ok (.iload_n 1, 1) := by decide +kernel
theorem dX9_writeNow_2 : decode cX9_writeNow 2 = .ok (.invokevirtual 199, 3) := by decide +kernel
theorem dX9_writeNow_5 : decode cX9_writeNow 5 = .ok (.istore_n 3, 1) := by decide +kernel
theorem dX9_writeNow_6 : decode cX9_writeNow 6 = .ok (.aload_n 0, 1) := by decide +kernel
theorem dX9_writeNow_7 : decode cX9_writeNow 7 = .ok (.iload_n 1, 1) := by decide +kernel
theorem dX9_writeNow_8 : decode cX9_writeNow 8 = .ok (.invokevirtual 174, 3) := by decide +kernel
theorem dX9_writeNow_11 : decode cX9_writeNow 11 = .ok (.istore 4, 2) := by decide +kernel
theorem dX9_writeNow_13 : decode cX9_writeNow 13 = .ok (.iload 4, 2) := by decide +kernel
theorem dX9_writeNow_15 : decode cX9_writeNow 15 = .ok (.iconst (-1), 1) := by decide +kernel
theorem dX9_writeNow_16 : decode cX9_writeNow 16 = .ok (.if_icmp .ne 16, 3) := by decide +kernel
theorem dX9_writeNow_19 : decode cX9_writeNow 19 = .ok (.aload_n 0, 1) := by decide +kernel
theorem dX9_writeNow_20 : decode cX9_writeNow 20 = .ok (.getfield 7, 3) := by decide +kernel
theorem dX9_writeNow_23 : decode cX9_writeNow 23 = .ok (.sipush 383, 3) := by decide +kernel
theorem dX9_writeNow_26 : decode cX9_writeNow 26 = .ok (.iload_n 1, 1) := by decide +kernel
theorem dX9_writeNow_27 : decode cX9_writeNow 27 = .ok (.iadd, 1) := by decide +kernel
theorem dX9_writeNow_28 : decode cX9_writeNow 28 = .ok (.iload_n 2, 1) := by decide +kernel
theorem dX9_writeNow_29 : decode cX9_writeNow 29 = .ok (.iastore, 1) := by decide +kernel
theorem dX9_writeNow_30 : decode cX9_writeNow 30 = .ok (.iconst 0, 1) := by decide +kernel
theorem dX9_writeNow_31 : decode cX9_writeNow 31 = .ok (.ireturn, 1) := by decide +kernel
theorem dX9_writeNow_32 : decode cX9_writeNow 32 = .ok (.aload_n 0, 1) := by decide +kernel
theorem dX9_writeNow_33 : decode cX9_writeNow 33 = .ok (.getfield 7, 3) := by decide +kernel
theorem dX9_writeNow_36 : decode cX9_writeNow 36 = .ok (.iload 4, 2) := by decide +kernel
theorem dX9_writeNow_38 : decode cX9_writeNow 38 = .ok (.invokestatic 96, 3) := by decide +kernel
theorem dX9_writeNow_41 : decode cX9_writeNow 41 = .ok (.iconst 1, 1) := by decide +kernel
theorem dX9_writeNow_42 : decode cX9_writeNow 42 = .ok (.iadd, 1) := by decide +kernel
theorem dX9_writeNow_43 : decode cX9_writeNow 43 = .ok (.iload_n 2, 1) := by decide +kernel
theorem dX9_writeNow_44 : decode cX9_writeNow 44 = .ok (.iastore, 1) := by decide +kernel
theorem dX9_writeNow_45 : decode cX9_writeNow 45 = .ok (.aload_n 0, 1) := by decide +kernel
theorem dX9_writeNow_46 : decode cX9_writeNow 46 = .ok (.getfield 7, 3) := by decide +kernel
theorem dX9_writeNow_49 : decode cX9_writeNow 49 = .ok (.iload 4, 2) := by decide +kernel
theorem dX9_writeNow_51 : decode cX9_writeNow 51 = .ok (.invokestatic 96, 3) := by decide +kernel
theorem dX9_writeNow_54 : decode cX9_writeNow 54 = .ok (.iconst 2, 1) := by decide +kernel
theorem dX9_writeNow_55 : decode cX9_writeNow 55 = .ok (.iadd, 1) := by decide +kernel
theorem dX9_writeNow_56 : decode cX9_writeNow 56 = .ok (.iconst 1, 1) := by decide +kernel
theorem dX9_writeNow_57 : decode cX9_writeNow 57 = .ok (.iastore, 1) := by decide +kernel
theorem dX9_writeNow_58 : decode cX9_writeNow 58 = .ok (.iload_n 3, 1) := by decide +kernel
theorem dX9_writeNow_59 : decode cX9_writeNow 59 = .ok (.ireturn, 1) := by decide +kernel
def X9_writeNow (a1 : Int32) (a2 : Int32) (m : gM) : Option (Bool × gM) :=
  gCall (X9_askNow a1 m) (fun (r2 : Bool) (m1 : gM) => gCall (X9_placeWith a1 m1) (fun (r4 : Int32) (m3 : gM) => if r4 = (-1) then (gPut m3 47 0 (383 + a1) a2 (fun (m11 : gM) => some (false, m11))) else (gCall (X9_at r4 m3) (fun (r6 : Int32) (m5 : gM) => gPut m5 47 0 (r6 + 1) a2 (fun (m7 : gM) => gCall (X9_at r4 m7) (fun (r9 : Int32) (m8 : gM) => gPut m8 47 0 (r9 + 2) 1 (fun (m10 : gM) => some (r2, m10))))))))
set_option maxRecDepth 100000 in
set_option maxHeartbeats 4000000 in
theorem c_X9_writeNow (a1 : Int32) (a2 : Int32) (m : gM) : gCon eB yX9_writeNow cX9_writeNow 5 (some .boolean) 6 [.inr (9, 0), .inl a1, .inl a2] m (X9_writeNow a1 a2 m) := by
  refine gCon.of (lv := [some (.inr (9, 0)), some (.inl a1), some (.inl a2), none, none]) (by decide +kernel) (Nat.le_of_ble_eq_true rfl) rfl (fun X C => ?_)
  unfold X9_writeNow
  refine r_aload_n C dX9_writeNow_0 rfl rfl ?_
  refine r_iload_n C dX9_writeNow_1 rfl rfl ?_
  refine r_invB (t := 9) (kb := 0) (As := [.inl a1]) (st := []) C il_X9_199 co_X9_askNow (by decide) rfl (c_X9_askNow a1 m) (by decide) (by decide) rfl rfl (Nat.le_of_ble_eq_true rfl) dX9_writeNow_2 (fun r2 m1 => ?_)
  refine r_istore_n (lv' := [some (.inr (9, 0)), some (.inl a1), some (.inl a2), some (.inl (bI r2)), none]) C dX9_writeNow_5 rfl (by decide) rfl ?_
  refine r_aload_n C dX9_writeNow_6 rfl rfl ?_
  refine r_iload_n C dX9_writeNow_7 rfl rfl ?_
  refine r_invI (t := 9) (kb := 0) (As := [.inl a1]) (st := []) C il_X9_174 co_X9_placeWith (by decide) rfl (c_X9_placeWith a1 m1) (by decide) (by decide) rfl rfl (Nat.le_of_ble_eq_true rfl) dX9_writeNow_8 (fun r4 m3 => ?_)
  refine r_istore (lv' := [some (.inr (9, 0)), some (.inl a1), some (.inl a2), some (.inl (bI r2)), some (.inl r4)]) C dX9_writeNow_11 (by decide) rfl ?_
  refine r_iload C dX9_writeNow_13 rfl ?_
  refine r_iconst (v := (-1)) C dX9_writeNow_15 (by decide) ?_
  refine r_icmp_ne (tgt := 32) C dX9_writeNow_16 (by decide) ?_ ?_
  · refine r_aload_n C dX9_writeNow_32 rfl rfl ?_
    refine r_get (v := .inr (47, 0)) C fl_X9_7 dX9_writeNow_33 rfl ?_
    refine r_iload C dX9_writeNow_36 rfl ?_
    refine r_insI (As := [.inl r4]) (st := [.inr (47, 0)]) C il_X9_96 co_X9_at (c_X9_at r4 m3) (by decide) (by decide) rfl rfl (Nat.le_of_ble_eq_true rfl) dX9_writeNow_38 (fun r6 m5 => ?_)
    refine r_iconst (v := 1) C dX9_writeNow_41 (by decide) ?_
    refine r_iadd C dX9_writeNow_42 ?_
    refine r_iload_n C dX9_writeNow_43 rfl rfl ?_
    refine r_iast C rfl dX9_writeNow_44 (fun m7 => ?_)
    refine r_aload_n C dX9_writeNow_45 rfl rfl ?_
    refine r_get (v := .inr (47, 0)) C fl_X9_7 dX9_writeNow_46 rfl ?_
    refine r_iload C dX9_writeNow_49 rfl ?_
    refine r_insI (As := [.inl r4]) (st := [.inr (47, 0)]) C il_X9_96 co_X9_at (c_X9_at r4 m7) (by decide) (by decide) rfl rfl (Nat.le_of_ble_eq_true rfl) dX9_writeNow_51 (fun r9 m8 => ?_)
    refine r_iconst (v := 2) C dX9_writeNow_54 (by decide) ?_
    refine r_iadd C dX9_writeNow_55 ?_
    refine r_iconst (v := 1) C dX9_writeNow_56 (by decide) ?_
    refine r_iast C rfl dX9_writeNow_57 (fun m10 => ?_)
    refine r_iload_n C dX9_writeNow_58 rfl rfl ?_
    exact r_zretB C dX9_writeNow_59
  refine r_aload_n C dX9_writeNow_19 rfl rfl ?_
  refine r_get (v := .inr (47, 0)) C fl_X9_7 dX9_writeNow_20 rfl ?_
  refine r_sipush (v := 383) C dX9_writeNow_23 (by decide) ?_
  refine r_iload_n C dX9_writeNow_26 rfl rfl ?_
  refine r_iadd C dX9_writeNow_27 ?_
  refine r_iload_n C dX9_writeNow_28 rfl rfl ?_
  refine r_iast C rfl dX9_writeNow_29 (fun m11 => ?_)
  refine r_iconst (v := 0) C dX9_writeNow_30 (by decide) ?_
  exact r_zret0 C dX9_writeNow_31
theorem dX9_emptyNow_0 : decode cX9_emptyNow 0 = .ok (.iconst 0, 1) := by decide +kernel
theorem dX9_emptyNow_1 : decode cX9_emptyNow 1 = .ok (.istore_n 1, 1) := by decide +kernel
theorem dX9_emptyNow_2 : decode cX9_emptyNow 2 = .ok (.iconst 0, 1) := by decide +kernel
theorem dX9_emptyNow_3 : decode cX9_emptyNow 3 = .ok (.istore_n 2, 1) := by decide +kernel
theorem dX9_emptyNow_4 : decode cX9_emptyNow 4 = .ok (.iload_n 2, 1) := by decide +kernel
theorem dX9_emptyNow_5 : decode cX9_emptyNow 5 = .ok (.bipush 64, 2) := by decide +kernel
theorem dX9_emptyNow_7 : decode cX9_emptyNow 7 = .ok (.if_icmp .ge 62, 3) := by decide +kernel
theorem dX9_emptyNow_10 : decode cX9_emptyNow 10 = .ok (.aload_n 0, 1) := by decide +kernel
theorem dX9_emptyNow_11 : decode cX9_emptyNow 11 = .ok (.iload_n 2, 1) := by decide +kernel
theorem dX9_emptyNow_12 : decode cX9_emptyNow 12 = .ok (.invokevirtual 102, 3) := by decide +kernel
theorem dX9_emptyNow_15 : decode cX9_emptyNow 15 = .ok (.iconst (-1), 1) := by decide +kernel
theorem dX9_emptyNow_16 : decode cX9_emptyNow 16 = .ok (.if_icmp .ne 6, 3) := by decide +kernel
theorem dX9_emptyNow_19 : decode cX9_emptyNow 19 = .ok (.goto 44, 3) := by decide +kernel
theorem dX9_emptyNow_22 : decode cX9_emptyNow 22 = .ok (.iload_n 1, 1) := by decide +kernel
theorem dX9_emptyNow_23 : decode cX9_emptyNow 23 = .ok (.aload_n 0, 1) := by decide +kernel
theorem dX9_emptyNow_24 : decode cX9_emptyNow 24 = .ok (.iload_n 2, 1) := by decide +kernel
theorem dX9_emptyNow_25 : decode cX9_emptyNow 25 = .ok (.invokevirtual 183, 3) := by decide +kernel
theorem dX9_emptyNow_28 : decode cX9_emptyNow 28 = .ok (.ifCond .eq 7, 3) := by decide +kernel
theorem dX9_emptyNow_31 : decode cX9_emptyNow 31 = .ok (.iconst 1, 1) := by decide +kernel
theorem dX9_emptyNow_32 : decode cX9_emptyNow 32 = .ok (.goto 4, 3) := by decide +kernel
theorem dX9_emptyNow_35 : decode cX9_emptyNow 35 = .ok (.iconst 0, 1) := by decide +kernel
theorem dX9_emptyNow_36 : decode cX9_emptyNow 36 = .ok (.iadd, 1) := by decide +kernel
theorem dX9_emptyNow_37 : decode cX9_emptyNow 37 = .ok (.istore_n 1, 1) := by decide +kernel
theorem dX9_emptyNow_38 : decode cX9_emptyNow 38 = .ok (.iconst 0, 1) := by decide +kernel
theorem dX9_emptyNow_39 : decode cX9_emptyNow 39 = .ok (.istore_n 3, 1) := by decide +kernel
theorem dX9_emptyNow_40 : decode cX9_emptyNow 40 = .ok (.iload_n 3, 1) := by decide +kernel
theorem dX9_emptyNow_41 : decode cX9_emptyNow 41 = .ok (.iconst 5, 1) := by decide +kernel
theorem dX9_emptyNow_42 : decode cX9_emptyNow 42 = .ok (.if_icmp .ge 21, 3) := by decide +kernel
theorem dX9_emptyNow_45 : decode cX9_emptyNow 45 = .ok (.aload_n 0, 1) := by decide +kernel
theorem dX9_emptyNow_46 : decode cX9_emptyNow 46 = .ok (.getfield 7, 3) := by decide +kernel
theorem dX9_emptyNow_49 : decode cX9_emptyNow 49 = .ok (.iload_n 2, 1) := by decide +kernel
theorem dX9_emptyNow_50 : decode cX9_emptyNow 50 = .ok (.invokestatic 96, 3) := by decide +kernel
theorem dX9_emptyNow_53 : decode cX9_emptyNow 53 = .ok (.iload_n 3, 1) := by decide +kernel
theorem dX9_emptyNow_54 : decode cX9_emptyNow 54 = .ok (.iadd, 1) := by decide +kernel
theorem dX9_emptyNow_55 : decode cX9_emptyNow 55 = .ok (.iconst 0, 1) := by decide +kernel
theorem dX9_emptyNow_56 : decode cX9_emptyNow 56 = .ok (.iastore, 1) := by decide +kernel
theorem dX9_emptyNow_57 : decode cX9_emptyNow 57 = .ok (.iinc 3 1, 3) := by decide +kernel
theorem dX9_emptyNow_60 : decode cX9_emptyNow 60 = .ok (.goto (-20), 3) := by decide +kernel
theorem dX9_emptyNow_63 : decode cX9_emptyNow 63 = .ok (.iinc 2 1, 3) := by decide +kernel
theorem dX9_emptyNow_66 : decode cX9_emptyNow 66 = .ok (.goto (-62), 3) := by decide +kernel
theorem dX9_emptyNow_69 : decode cX9_emptyNow 69 = .ok (.iload_n 1, 1) := by decide +kernel
theorem dX9_emptyNow_70 : decode cX9_emptyNow 70 = .ok (.ireturn, 1) := by decide +kernel
def X9_emptyNow_b40 (k4 : Int32 → Int32 → gM → Option (Int32 × gM)) (v2 : Int32) (x10 : Int32) (v11 : Int32) (m12 : gM) (k40 : Int32 → gM → Option (Int32 × gM)) : Option (Int32 × gM) :=
  if 5 ≤ v11 then (gLet (v2 + 1) (fun (x13 : Int32) => k4 x10 x13 m12)) else (gCall (X9_at v2 m12) (fun (r15 : Int32) (m14 : gM) => gPut m14 47 0 (r15 + v11) 0 (fun (m16 : gM) => gLet (v11 + 1) (fun (x17 : Int32) => k40 x17 m16))))
def X9_emptyNow_b4 (v1 v2 : Int32) (m3 : gM) (k4 : Int32 → Int32 → gM → Option (Int32 × gM)) : Option (Int32 × gM) :=
  if 64 ≤ v2 then (some (v1, m3)) else (gCall (X9_lineAt v2 m3) (fun (r5 : Int32) (m4 : gM) => if r5 = (-1) then (gLet (v2 + 1) (fun (x18 : Int32) => k4 v1 x18 m4)) else (gCall (X9_goesBack v2 m4) (fun (r7 : Bool) (m6 : gM) => gJ1 (fun (w8 : Int32) (m9 : gM) => gLet (v1 + w8) (fun (x10 : Int32) => gL1 FU (X9_emptyNow_b40 k4 v2 x10) 0 m9)) (fun (j36 : Int32 → gM → Option (Int32 × gM)) => if r7 = true then (j36 1 m6) else (j36 0 m6))))))
def X9_emptyNow (m : gM) : Option (Int32 × gM) :=
  gL2 FU X9_emptyNow_b4 0 0 m
set_option maxRecDepth 100000 in
set_option maxHeartbeats 4000000 in
theorem c_X9_emptyNow (m : gM) : gCon eI yX9_emptyNow cX9_emptyNow 4 (some .int) 3 [.inr (9, 0)] m (X9_emptyNow m) := by
  refine gCon.of (lv := [some (.inr (9, 0)), none, none, none]) (by decide +kernel) (Nat.le_of_ble_eq_true rfl) rfl (fun X C => ?_)
  unfold X9_emptyNow
  refine r_iconst (v := 0) C dX9_emptyNow_0 (by decide) ?_
  refine r_istore_n (lv' := [some (.inr (9, 0)), some (.inl 0), none, none]) C dX9_emptyNow_1 rfl (by decide) rfl ?_
  refine r_iconst (v := 0) C dX9_emptyNow_2 (by decide) ?_
  refine r_istore_n (lv' := [some (.inr (9, 0)), some (.inl 0), some (.inl 0), none]) C dX9_emptyNow_3 rfl (by decide) rfl ?_
  refine r_weak (lv' := [some (.inr (9, 0)), some (.inl 0), some (.inl 0), none]) ⟨rfl, rfl, rfl, trivial⟩ ?_
  refine r_l2 (pj := 4) (fun v1 v2 => [some (.inr (9, 0)), some (.inl v1), some (.inl v2), none]) (fun v1 v2 m3 k4 hk4 => ?_) _ _ _ _
  unfold X9_emptyNow_b4
  refine r_iload_n C dX9_emptyNow_4 rfl rfl ?_
  refine r_bipush (v := 64) C dX9_emptyNow_5 (by decide) ?_
  refine r_icmp_ge (tgt := 69) C dX9_emptyNow_7 (by decide) ?_ ?_
  · refine r_iload_n C dX9_emptyNow_69 rfl rfl ?_
    exact r_ireturn C dX9_emptyNow_70
  refine r_aload_n C dX9_emptyNow_10 rfl rfl ?_
  refine r_iload_n C dX9_emptyNow_11 rfl rfl ?_
  refine r_invI (t := 9) (kb := 0) (As := [.inl v2]) (st := []) C il_X9_102 co_X9_lineAt (by decide) rfl (c_X9_lineAt v2 m3) (by decide) (by decide) rfl rfl (Nat.le_of_ble_eq_true rfl) dX9_emptyNow_12 (fun r5 m4 => ?_)
  refine r_iconst (v := (-1)) C dX9_emptyNow_15 (by decide) ?_
  refine r_icmp_ne (tgt := 22) C dX9_emptyNow_16 (by decide) ?_ ?_
  · refine r_iload_n C dX9_emptyNow_22 rfl rfl ?_
    refine r_aload_n C dX9_emptyNow_23 rfl rfl ?_
    refine r_iload_n C dX9_emptyNow_24 rfl rfl ?_
    refine r_invB (t := 9) (kb := 0) (As := [.inl v2]) (st := [.inl v1]) C il_X9_183 co_X9_goesBack (by decide) rfl (c_X9_goesBack v2 m4) (by decide) (by decide) rfl rfl (Nat.le_of_ble_eq_true rfl) dX9_emptyNow_25 (fun r7 m6 => ?_)
    refine r_j1 36 (fun w8 => [some (.inr (9, 0)), none, some (.inl v2), none]) (fun w8 => [.inl w8, .inl v1]) (fun w8 m9 => ?_) (fun j36 hj36 => ?_)
    · refine r_iadd C dX9_emptyNow_36 ?_
      refine r_let (fun x10 => ?_)
      refine r_istore_n (lv' := [some (.inr (9, 0)), some (.inl x10), some (.inl v2), none]) C dX9_emptyNow_37 rfl (by decide) rfl ?_
      refine r_iconst (v := 0) C dX9_emptyNow_38 (by decide) ?_
      refine r_istore_n (lv' := [some (.inr (9, 0)), some (.inl x10), some (.inl v2), some (.inl 0)]) C dX9_emptyNow_39 rfl (by decide) rfl ?_
      refine r_weak (lv' := [some (.inr (9, 0)), some (.inl x10), some (.inl v2), some (.inl 0)]) ⟨rfl, rfl, rfl, rfl, trivial⟩ ?_
      refine r_l1 (pj := 40) (fun v11 => [some (.inr (9, 0)), some (.inl x10), some (.inl v2), some (.inl v11)]) (fun v11 m12 k40 hk40 => ?_) _ _ _
      unfold X9_emptyNow_b40
      refine r_iload_n C dX9_emptyNow_40 rfl rfl ?_
      refine r_iconst (v := 5) C dX9_emptyNow_41 (by decide) ?_
      refine r_icmp_ge (tgt := 63) C dX9_emptyNow_42 (by decide) ?_ ?_
      · refine r_iinc (v := 1) C dX9_emptyNow_63 (by decide) rfl (by decide) (fun x13 => ?_)
        show gw X eI _ [some (.inr (9, 0)), some (.inl x10), some (.inl x13), some (.inl v11)] _ _ _
        refine r_goto (tgt := 4) C dX9_emptyNow_66 (by decide) ?_
        exact r_weak (lv' := [some (.inr (9, 0)), some (.inl x10), some (.inl x13), none]) ⟨rfl, rfl, rfl, trivial⟩ (hk4 _ _ _)
      refine r_aload_n C dX9_emptyNow_45 rfl rfl ?_
      refine r_get (v := .inr (47, 0)) C fl_X9_7 dX9_emptyNow_46 rfl ?_
      refine r_iload_n C dX9_emptyNow_49 rfl rfl ?_
      refine r_insI (As := [.inl v2]) (st := [.inr (47, 0)]) C il_X9_96 co_X9_at (c_X9_at v2 m12) (by decide) (by decide) rfl rfl (Nat.le_of_ble_eq_true rfl) dX9_emptyNow_50 (fun r15 m14 => ?_)
      refine r_iload_n C dX9_emptyNow_53 rfl rfl ?_
      refine r_iadd C dX9_emptyNow_54 ?_
      refine r_iconst (v := 0) C dX9_emptyNow_55 (by decide) ?_
      refine r_iast C rfl dX9_emptyNow_56 (fun m16 => ?_)
      refine r_iinc (v := 1) C dX9_emptyNow_57 (by decide) rfl (by decide) (fun x17 => ?_)
      show gw X eI _ [some (.inr (9, 0)), some (.inl x10), some (.inl v2), some (.inl x17)] _ _ _
      refine r_goto (tgt := 40) C dX9_emptyNow_60 (by decide) ?_
      exact r_weak (lv' := [some (.inr (9, 0)), some (.inl x10), some (.inl v2), some (.inl x17)]) ⟨rfl, rfl, rfl, rfl, trivial⟩ (hk40 _ _)
    refine r_ifeqB (tgt := 35) C dX9_emptyNow_28 (by decide) ?_ ?_
    · refine r_iconst (v := 0) C dX9_emptyNow_35 (by decide) ?_
      exact r_weak (lv' := [some (.inr (9, 0)), none, some (.inl v2), none]) ⟨rfl, rfl, trivial⟩ (hj36 _ _)
    refine r_iconst (v := 1) C dX9_emptyNow_31 (by decide) ?_
    refine r_goto (tgt := 36) C dX9_emptyNow_32 (by decide) ?_
    exact r_weak (lv' := [some (.inr (9, 0)), none, some (.inl v2), none]) ⟨rfl, rfl, trivial⟩ (hj36 _ _)
  refine r_goto (tgt := 63) C dX9_emptyNow_19 (by decide) ?_
  refine r_iinc (v := 1) C dX9_emptyNow_63 (by decide) rfl (by decide) (fun x18 => ?_)
  show gw X eI _ [some (.inr (9, 0)), some (.inl v1), some (.inl x18), none] _ _ _
  refine r_goto (tgt := 4) C dX9_emptyNow_66 (by decide) ?_
  exact r_weak (lv' := [some (.inr (9, 0)), some (.inl v1), some (.inl x18), none]) ⟨rfl, rfl, rfl, trivial⟩ (hk4 _ _ _)
theorem dX9_drawn_0 : decode cX9_drawn 0 = .ok (.aload_n 0, 1) := by decide +kernel
theorem dX9_drawn_1 : decode cX9_drawn 1 = .ok (.getfield 7, 3) := by decide +kernel
theorem dX9_drawn_4 : decode cX9_drawn 4 = .ok (.bipush 44, 2) := by decide +kernel
theorem dX9_drawn_6 : decode cX9_drawn 6 = .ok (.aload_n 0, 1) := by decide +kernel
theorem dX9_drawn_7 : decode cX9_drawn 7 = .ok (.getfield 7, 3) := by decide +kernel
theorem dX9_drawn_10 : decode cX9_drawn 10 = .ok (.bipush 44, 2) := by decide +kernel
theorem dX9_drawn_12 : decode cX9_drawn 12 = .ok (.iaload, 1) := by decide +kernel
theorem dX9_drawn_13 : decode cX9_drawn 13 = .ok (.sipush 853, 3) := by decide +kernel
theorem dX9_drawn_16 : decode cX9_drawn 16 = .ok (.imul, 1) := by decide +kernel
theorem dX9_drawn_17 : decode cX9_drawn 17 = .ok (.sipush 461, 3) := by decide +kernel
theorem dX9_drawn_20 : decode cX9_drawn 20 = .ok (.iadd, 1) := by decide +kernel
theorem dX9_drawn_21 : decode cX9_drawn 21 = .ok (.sipush 30047, 3) := by decide +kernel
theorem dX9_drawn_24 : decode cX9_drawn 24 = .ok (.irem, 1) := by decide +kernel
theorem dX9_drawn_25 : decode cX9_drawn 25 = .ok (.iastore, 1) := by decide +kernel
theorem dX9_drawn_26 : decode cX9_drawn 26 = .ok (.aload_n 0, 1) := by decide +kernel
theorem dX9_drawn_27 : decode cX9_drawn 27 = .ok (.getfield 7, 3) := by decide +kernel
theorem dX9_drawn_30 : decode cX9_drawn 30 = .ok (.bipush 44, 2) := by decide +kernel
theorem dX9_drawn_32 : decode cX9_drawn 32 = .ok (.iaload, 1) := by decide +kernel
theorem dX9_drawn_33 : decode cX9_drawn 33 = .ok (.ireturn, 1) := by decide +kernel
def X9_drawn (m : gM) : Option (Int32 × gM) :=
  gAt m 47 0 44 (fun (x1 : Int32) => gPut m 47 0 44 (gRem ((x1 * 853) + 461) 30047) (fun (m2 : gM) => gAt m2 47 0 44 (fun (x3 : Int32) => some (x3, m2))))
set_option maxRecDepth 100000 in
set_option maxHeartbeats 4000000 in
theorem c_X9_drawn (m : gM) : gCon eI yX9_drawn cX9_drawn 1 (some .int) 0 [.inr (9, 0)] m (X9_drawn m) := by
  refine gCon.of (lv := [some (.inr (9, 0))]) (by decide +kernel) (Nat.le_of_ble_eq_true rfl) rfl (fun X C => ?_)
  unfold X9_drawn
  refine r_aload_n C dX9_drawn_0 rfl rfl ?_
  refine r_get (v := .inr (47, 0)) C fl_X9_7 dX9_drawn_1 rfl ?_
  refine r_bipush (v := 44) C dX9_drawn_4 (by decide) ?_
  refine r_aload_n C dX9_drawn_6 rfl rfl ?_
  refine r_get (v := .inr (47, 0)) C fl_X9_7 dX9_drawn_7 rfl ?_
  refine r_bipush (v := 44) C dX9_drawn_10 (by decide) ?_
  refine r_iald C rfl dX9_drawn_12 (fun x1 => ?_)
  refine r_sipush (v := 853) C dX9_drawn_13 (by decide) ?_
  refine r_imul C dX9_drawn_16 ?_
  refine r_sipush (v := 461) C dX9_drawn_17 (by decide) ?_
  refine r_iadd C dX9_drawn_20 ?_
  refine r_sipush (v := 30047) C dX9_drawn_21 (by decide) ?_
  refine r_irem C dX9_drawn_24 (by decide) ?_
  refine r_iast C rfl dX9_drawn_25 (fun m2 => ?_)
  refine r_aload_n C dX9_drawn_26 rfl rfl ?_
  refine r_get (v := .inr (47, 0)) C fl_X9_7 dX9_drawn_27 rfl ?_
  refine r_bipush (v := 44) C dX9_drawn_30 (by decide) ?_
  refine r_iald C rfl dX9_drawn_32 (fun x3 => ?_)
  exact r_ireturn C dX9_drawn_33
theorem dX9_maskBy_0 : decode cX9_maskBy 0 = .ok (.iload_n 1, 1) := by decide +kernel
theorem dX9_maskBy_1 : decode cX9_maskBy 1 = .ok (.iconst 2, 1) := by decide +kernel
theorem dX9_maskBy_2 : decode cX9_maskBy 2 = .ok (.if_icmp .ne 12, 3) := by decide +kernel
theorem dX9_maskBy_5 : decode cX9_maskBy 5 = .ok (.aload_n 0, 1) := by decide +kernel
theorem dX9_maskBy_6 : decode cX9_maskBy 6 = .ok (.invokevirtual 202, 3) := by decide +kernel
theorem dX9_maskBy_9 : decode cX9_maskBy 9 = .ok (.sipush 1024, 3) := by decide +kernel
theorem dX9_maskBy_12 : decode cX9_maskBy 12 = .ok (.irem, 1) := by decide +kernel
theorem dX9_maskBy_13 : decode cX9_maskBy 13 = .ok (.ireturn, 1) := by decide +kernel
theorem dX9_maskBy_14 : decode cX9_maskBy 14 = .ok (.iload_n 1, 1) := by decide +kernel
theorem dX9_maskBy_15 : decode cX9_maskBy 15 = .ok (.ifCond .ne 9, 3) := by decide +kernel
theorem dX9_maskBy_18 : decode cX9_maskBy 18 = .ok (.iconst 1, 1) := by decide +kernel
theorem dX9_maskBy_19 : decode cX9_maskBy 19 = .ok (.iload_n 3, 1) := by decide +kernel
theorem dX9_maskBy_20 : decode cX9_maskBy 20 = .ok (.ishl, 1) := by decide +kernel
theorem dX9_maskBy_21 : decode cX9_maskBy 21 = .ok (.goto 28, 3) := by decide +kernel
theorem dX9_maskBy_24 : decode cX9_maskBy 24 = .ok (.iconst 1, 1) := by decide +kernel
theorem dX9_maskBy_25 : decode cX9_maskBy 25 = .ok (.iload_n 3, 1) := by decide +kernel
theorem dX9_maskBy_26 : decode cX9_maskBy 26 = .ok (.ishl, 1) := by decide +kernel
theorem dX9_maskBy_27 : decode cX9_maskBy 27 = .ok (.iconst 1, 1) := by decide +kernel
theorem dX9_maskBy_28 : decode cX9_maskBy 28 = .ok (.aload_n 0, 1) := by decide +kernel
theorem dX9_maskBy_29 : decode cX9_maskBy 29 = .ok (.getfield 7, 3) := by decide +kernel
theorem dX9_maskBy_32 : decode cX9_maskBy 32 = .ok (.bipush 37, 2) := by decide +kernel
theorem dX9_maskBy_34 : decode cX9_maskBy 34 = .ok (.iaload, 1) := by decide +kernel
theorem dX9_maskBy_35 : decode cX9_maskBy 35 = .ok (.iload_n 3, 1) := by decide +kernel
theorem dX9_maskBy_36 : decode cX9_maskBy 36 = .ok (.iload_n 2, 1) := by decide +kernel
theorem dX9_maskBy_37 : decode cX9_maskBy 37 = .ok (.iadd, 1) := by decide +kernel
theorem dX9_maskBy_38 : decode cX9_maskBy 38 = .ok (.aload_n 0, 1) := by decide +kernel
theorem dX9_maskBy_39 : decode cX9_maskBy 39 = .ok (.getfield 7, 3) := by decide +kernel
theorem dX9_maskBy_42 : decode cX9_maskBy 42 = .ok (.bipush 37, 2) := by decide +kernel
theorem dX9_maskBy_44 : decode cX9_maskBy 44 = .ok (.iaload, 1) := by decide +kernel
theorem dX9_maskBy_45 : decode cX9_maskBy 45 = .ok (.irem, 1) := by decide +kernel
theorem dX9_maskBy_46 : decode cX9_maskBy 46 = .ok (.iadd, 1) := by decide +kernel
theorem dX9_maskBy_47 : decode cX9_maskBy 47 = .ok (.ishl, 1) := by decide +kernel
theorem dX9_maskBy_48 : decode cX9_maskBy 48 = .ok (.ior, 1) := by decide +kernel
theorem dX9_maskBy_49 : decode cX9_maskBy 49 = .ok (.ireturn, 1) := by decide +kernel
def X9_maskBy (a1 : Int32) (a2 : Int32) (a3 : Int32) (m : gM) : Option (Int32 × gM) :=
  if a1 = 2 then (gCall (X9_drawn m) (fun (r4 : Int32) (m3 : gM) => some (gRem r4 1024, m3))) else (if a1 = 0 then (some (1 <<< (a3 &&& 31), m)) else (gAt m 47 0 37 (fun (x1 : Int32) => gAt m 47 0 37 (fun (x2 : Int32) => if x2 = 0 then none else (some ((1 <<< (a3 &&& 31)) ||| (1 <<< ((x1 + (gRem (a3 + a2) x2)) &&& 31)), m))))))
set_option maxRecDepth 100000 in
set_option maxHeartbeats 4000000 in
theorem c_X9_maskBy (a1 : Int32) (a2 : Int32) (a3 : Int32) (m : gM) : gCon eI yX9_maskBy cX9_maskBy 4 (some .int) 1 [.inr (9, 0), .inl a1, .inl a2, .inl a3] m (X9_maskBy a1 a2 a3 m) := by
  refine gCon.of (lv := [some (.inr (9, 0)), some (.inl a1), some (.inl a2), some (.inl a3)]) (by decide +kernel) (Nat.le_of_ble_eq_true rfl) rfl (fun X C => ?_)
  unfold X9_maskBy
  refine r_iload_n C dX9_maskBy_0 rfl rfl ?_
  refine r_iconst (v := 2) C dX9_maskBy_1 (by decide) ?_
  refine r_icmp_ne (tgt := 14) C dX9_maskBy_2 (by decide) ?_ ?_
  · refine r_iload_n C dX9_maskBy_14 rfl rfl ?_
    refine r_if_ne (tgt := 24) C dX9_maskBy_15 (by decide) ?_ ?_
    · refine r_iconst (v := 1) C dX9_maskBy_24 (by decide) ?_
      refine r_iload_n C dX9_maskBy_25 rfl rfl ?_
      refine r_ishl C dX9_maskBy_26 ?_
      refine r_iconst (v := 1) C dX9_maskBy_27 (by decide) ?_
      refine r_aload_n C dX9_maskBy_28 rfl rfl ?_
      refine r_get (v := .inr (47, 0)) C fl_X9_7 dX9_maskBy_29 rfl ?_
      refine r_bipush (v := 37) C dX9_maskBy_32 (by decide) ?_
      refine r_iald C rfl dX9_maskBy_34 (fun x1 => ?_)
      refine r_iload_n C dX9_maskBy_35 rfl rfl ?_
      refine r_iload_n C dX9_maskBy_36 rfl rfl ?_
      refine r_iadd C dX9_maskBy_37 ?_
      refine r_aload_n C dX9_maskBy_38 rfl rfl ?_
      refine r_get (v := .inr (47, 0)) C fl_X9_7 dX9_maskBy_39 rfl ?_
      refine r_bipush (v := 37) C dX9_maskBy_42 (by decide) ?_
      refine r_iald C rfl dX9_maskBy_44 (fun x2 => ?_)
      refine r_iremN C dX9_maskBy_45 ?_
      refine r_iadd C dX9_maskBy_46 ?_
      refine r_ishl C dX9_maskBy_47 ?_
      refine r_ior C dX9_maskBy_48 ?_
      exact r_ireturn C dX9_maskBy_49
    refine r_iconst (v := 1) C dX9_maskBy_18 (by decide) ?_
    refine r_iload_n C dX9_maskBy_19 rfl rfl ?_
    refine r_ishl C dX9_maskBy_20 ?_
    refine r_goto (tgt := 49) C dX9_maskBy_21 (by decide) ?_
    exact r_ireturn C dX9_maskBy_49
  refine r_aload_n C dX9_maskBy_5 rfl rfl ?_
  refine r_invI (t := 9) (kb := 0) (As := []) (st := []) C il_X9_202 co_X9_drawn (by decide) rfl (c_X9_drawn m) (by decide) (by decide) rfl rfl (Nat.le_of_ble_eq_true rfl) dX9_maskBy_6 (fun r4 m3 => ?_)
  refine r_sipush (v := 1024) C dX9_maskBy_9 (by decide) ?_
  refine r_irem C dX9_maskBy_12 (by decide) ?_
  exact r_ireturn C dX9_maskBy_13
theorem dX9_layFamily_0 : decode cX9_layFamily 0 = .ok (.iconst 0, 1) := by decide +kernel
theorem dX9_layFamily_1 : decode cX9_layFamily 1 = .ok (.istore_n 2, 1) := by decide +kernel
theorem dX9_layFamily_2 : decode cX9_layFamily 2 = .ok (.iload_n 2, 1) := by decide +kernel
theorem dX9_layFamily_3 : decode cX9_layFamily 3 = .ok (.aload_n 0, 1) := by decide +kernel
theorem dX9_layFamily_4 : decode cX9_layFamily 4 = .ok (.getfield 7, 3) := by decide +kernel
theorem dX9_layFamily_7 : decode cX9_layFamily 7 = .ok (.bipush 36, 2) := by decide +kernel
theorem dX9_layFamily_9 : decode cX9_layFamily 9 = .ok (.iaload, 1) := by decide +kernel
theorem dX9_layFamily_10 : decode cX9_layFamily 10 = .ok (.if_icmp .ge 45, 3) := by decide +kernel
theorem dX9_layFamily_13 : decode cX9_layFamily 13 = .ok (.iconst 0, 1) := by decide +kernel
theorem dX9_layFamily_14 : decode cX9_layFamily 14 = .ok (.istore_n 3, 1) := by decide +kernel
theorem dX9_layFamily_15 : decode cX9_layFamily 15 = .ok (.iload_n 3, 1) := by decide +kernel
theorem dX9_layFamily_16 : decode cX9_layFamily 16 = .ok (.aload_n 0, 1) := by decide +kernel
theorem dX9_layFamily_17 : decode cX9_layFamily 17 = .ok (.getfield 7, 3) := by decide +kernel
theorem dX9_layFamily_20 : decode cX9_layFamily 20 = .ok (.bipush 37, 2) := by decide +kernel
theorem dX9_layFamily_22 : decode cX9_layFamily 22 = .ok (.iaload, 1) := by decide +kernel
theorem dX9_layFamily_23 : decode cX9_layFamily 23 = .ok (.if_icmp .ge 26, 3) := by decide +kernel
theorem dX9_layFamily_26 : decode cX9_layFamily 26 = .ok (.aload_n 0, 1) := by decide +kernel
theorem dX9_layFamily_27 : decode cX9_layFamily 27 = .ok (.getfield 7, 3) := by decide +kernel
theorem dX9_layFamily_30 : decode cX9_layFamily 30 = .ok (.iload_n 2, 1) := by decide +kernel
theorem dX9_layFamily_31 : decode cX9_layFamily 31 = .ok (.iload_n 3, 1) := by decide +kernel
theorem dX9_layFamily_32 : decode cX9_layFamily 32 = .ok (.invokestatic 85, 3) := by decide +kernel
theorem dX9_layFamily_35 : decode cX9_layFamily 35 = .ok (.aload_n 0, 1) := by decide +kernel
theorem dX9_layFamily_36 : decode cX9_layFamily 36 = .ok (.iload_n 1, 1) := by decide +kernel
theorem dX9_layFamily_37 : decode cX9_layFamily 37 = .ok (.iload_n 2, 1) := by decide +kernel
theorem dX9_layFamily_38 : decode cX9_layFamily 38 = .ok (.iload_n 3, 1) := by decide +kernel
theorem dX9_layFamily_39 : decode cX9_layFamily 39 = .ok (.invokevirtual 205, 3) := by decide +kernel
theorem dX9_layFamily_42 : decode cX9_layFamily 42 = .ok (.iastore, 1) := by decide +kernel
theorem dX9_layFamily_43 : decode cX9_layFamily 43 = .ok (.iinc 3 1, 3) := by decide +kernel
theorem dX9_layFamily_46 : decode cX9_layFamily 46 = .ok (.goto (-31), 3) := by decide +kernel
theorem dX9_layFamily_49 : decode cX9_layFamily 49 = .ok (.iinc 2 1, 3) := by decide +kernel
theorem dX9_layFamily_52 : decode cX9_layFamily 52 = .ok (.goto (-50), 3) := by decide +kernel
theorem dX9_layFamily_55 : decode cX9_layFamily 55 = .ok (.return_, 1) := by decide +kernel
def X9_layFamily_b15 (a1 : Int32) (k2 : Int32 → gM → Option (Unit × gM)) (v1 : Int32) (v4 : Int32) (m5 : gM) (k15 : Int32 → gM → Option (Unit × gM)) : Option (Unit × gM) :=
  gAt m5 47 0 37 (fun (x6 : Int32) => if x6 ≤ v4 then (gLet (v1 + 1) (fun (x7 : Int32) => k2 x7 m5)) else (gCall (X9_maskAt v1 v4 m5) (fun (r9 : Int32) (m8 : gM) => gCall (X9_maskBy a1 v1 v4 m8) (fun (r11 : Int32) (m10 : gM) => gPut m10 47 0 r9 r11 (fun (m12 : gM) => gLet (v4 + 1) (fun (x13 : Int32) => k15 x13 m12))))))
def X9_layFamily_b2 (a1 : Int32) (v1 : Int32) (m2 : gM) (k2 : Int32 → gM → Option (Unit × gM)) : Option (Unit × gM) :=
  gAt m2 47 0 36 (fun (x3 : Int32) => if x3 ≤ v1 then (some ((), m2)) else (gL1 FU (X9_layFamily_b15 a1 k2 v1) 0 m2))
def X9_layFamily (a1 : Int32) (m : gM) : Option (Unit × gM) :=
  gL1 FU (X9_layFamily_b2 a1) 0 m
set_option maxRecDepth 100000 in
set_option maxHeartbeats 4000000 in
theorem c_X9_layFamily (a1 : Int32) (m : gM) : gCon eU yX9_layFamily cX9_layFamily 4 none 2 [.inr (9, 0), .inl a1] m (X9_layFamily a1 m) := by
  refine gCon.of (lv := [some (.inr (9, 0)), some (.inl a1), none, none]) (by decide +kernel) (Nat.le_of_ble_eq_true rfl) rfl (fun X C => ?_)
  unfold X9_layFamily
  refine r_iconst (v := 0) C dX9_layFamily_0 (by decide) ?_
  refine r_istore_n (lv' := [some (.inr (9, 0)), some (.inl a1), some (.inl 0), none]) C dX9_layFamily_1 rfl (by decide) rfl ?_
  refine r_weak (lv' := [some (.inr (9, 0)), some (.inl a1), some (.inl 0), none]) ⟨rfl, rfl, rfl, trivial⟩ ?_
  refine r_l1 (pj := 2) (fun v1 => [some (.inr (9, 0)), some (.inl a1), some (.inl v1), none]) (fun v1 m2 k2 hk2 => ?_) _ _ _
  unfold X9_layFamily_b2
  refine r_iload_n C dX9_layFamily_2 rfl rfl ?_
  refine r_aload_n C dX9_layFamily_3 rfl rfl ?_
  refine r_get (v := .inr (47, 0)) C fl_X9_7 dX9_layFamily_4 rfl ?_
  refine r_bipush (v := 36) C dX9_layFamily_7 (by decide) ?_
  refine r_iald C rfl dX9_layFamily_9 (fun x3 => ?_)
  refine r_icmp_ge (tgt := 55) C dX9_layFamily_10 (by decide) ?_ ?_
  · exact r_return C dX9_layFamily_55
  refine r_iconst (v := 0) C dX9_layFamily_13 (by decide) ?_
  refine r_istore_n (lv' := [some (.inr (9, 0)), some (.inl a1), some (.inl v1), some (.inl 0)]) C dX9_layFamily_14 rfl (by decide) rfl ?_
  refine r_weak (lv' := [some (.inr (9, 0)), some (.inl a1), some (.inl v1), some (.inl 0)]) ⟨rfl, rfl, rfl, rfl, trivial⟩ ?_
  refine r_l1 (pj := 15) (fun v4 => [some (.inr (9, 0)), some (.inl a1), some (.inl v1), some (.inl v4)]) (fun v4 m5 k15 hk15 => ?_) _ _ _
  unfold X9_layFamily_b15
  refine r_iload_n C dX9_layFamily_15 rfl rfl ?_
  refine r_aload_n C dX9_layFamily_16 rfl rfl ?_
  refine r_get (v := .inr (47, 0)) C fl_X9_7 dX9_layFamily_17 rfl ?_
  refine r_bipush (v := 37) C dX9_layFamily_20 (by decide) ?_
  refine r_iald C rfl dX9_layFamily_22 (fun x6 => ?_)
  refine r_icmp_ge (tgt := 49) C dX9_layFamily_23 (by decide) ?_ ?_
  · refine r_iinc (v := 1) C dX9_layFamily_49 (by decide) rfl (by decide) (fun x7 => ?_)
    show gw X eU _ [some (.inr (9, 0)), some (.inl a1), some (.inl x7), some (.inl v4)] _ _ _
    refine r_goto (tgt := 2) C dX9_layFamily_52 (by decide) ?_
    exact r_weak (lv' := [some (.inr (9, 0)), some (.inl a1), some (.inl x7), none]) ⟨rfl, rfl, rfl, trivial⟩ (hk2 _ _)
  refine r_aload_n C dX9_layFamily_26 rfl rfl ?_
  refine r_get (v := .inr (47, 0)) C fl_X9_7 dX9_layFamily_27 rfl ?_
  refine r_iload_n C dX9_layFamily_30 rfl rfl ?_
  refine r_iload_n C dX9_layFamily_31 rfl rfl ?_
  refine r_insI (As := [.inl v1, .inl v4]) (st := [.inr (47, 0)]) C il_X9_85 co_X9_maskAt (c_X9_maskAt v1 v4 m5) (by decide) (by decide) rfl rfl (Nat.le_of_ble_eq_true rfl) dX9_layFamily_32 (fun r9 m8 => ?_)
  refine r_aload_n C dX9_layFamily_35 rfl rfl ?_
  refine r_iload_n C dX9_layFamily_36 rfl rfl ?_
  refine r_iload_n C dX9_layFamily_37 rfl rfl ?_
  refine r_iload_n C dX9_layFamily_38 rfl rfl ?_
  refine r_invI (t := 9) (kb := 0) (As := [.inl a1, .inl v1, .inl v4]) (st := [.inl r9, .inr (47, 0)]) C il_X9_205 co_X9_maskBy (by decide) rfl (c_X9_maskBy a1 v1 v4 m8) (by decide) (by decide) rfl rfl (Nat.le_of_ble_eq_true rfl) dX9_layFamily_39 (fun r11 m10 => ?_)
  refine r_iast C rfl dX9_layFamily_42 (fun m12 => ?_)
  refine r_iinc (v := 1) C dX9_layFamily_43 (by decide) rfl (by decide) (fun x13 => ?_)
  show gw X eU _ [some (.inr (9, 0)), some (.inl a1), some (.inl v1), some (.inl x13)] _ _ _
  refine r_goto (tgt := 15) C dX9_layFamily_46 (by decide) ?_
  exact r_weak (lv' := [some (.inr (9, 0)), some (.inl a1), some (.inl v1), some (.inl x13)]) ⟨rfl, rfl, rfl, rfl, trivial⟩ (hk15 _ _)
theorem dX9_rankOf_0 : decode cX9_rankOf 0 = .ok (.iconst 0, 1) := by decide +kernel
theorem dX9_rankOf_1 : decode cX9_rankOf 1 = .ok (.istore_n 2, 1) := by decide +kernel
theorem dX9_rankOf_2 : decode cX9_rankOf 2 = .ok (.iconst 0, 1) := by decide +kernel
theorem dX9_rankOf_3 : decode cX9_rankOf 3 = .ok (.istore_n 3, 1) := by decide +kernel
theorem dX9_rankOf_4 : decode cX9_rankOf 4 = .ok (.iload_n 3, 1) := by decide +kernel
theorem dX9_rankOf_5 : decode cX9_rankOf 5 = .ok (.bipush 10, 2) := by decide +kernel
theorem dX9_rankOf_7 : decode cX9_rankOf 7 = .ok (.if_icmp .ge 16, 3) := by decide +kernel
theorem dX9_rankOf_10 : decode cX9_rankOf 10 = .ok (.aload_n 0, 1) := by decide +kernel
theorem dX9_rankOf_11 : decode cX9_rankOf 11 = .ok (.getfield 42, 3) := by decide +kernel
theorem dX9_rankOf_14 : decode cX9_rankOf 14 = .ok (.iload_n 3, 1) := by decide +kernel
theorem dX9_rankOf_15 : decode cX9_rankOf 15 = .ok (.iconst 0, 1) := by decide +kernel
theorem dX9_rankOf_16 : decode cX9_rankOf 16 = .ok (.iastore, 1) := by decide +kernel
theorem dX9_rankOf_17 : decode cX9_rankOf 17 = .ok (.iinc 3 1, 3) := by decide +kernel
theorem dX9_rankOf_20 : decode cX9_rankOf 20 = .ok (.goto (-16), 3) := by decide +kernel
theorem dX9_rankOf_23 : decode cX9_rankOf 23 = .ok (.iconst 0, 1) := by decide +kernel
theorem dX9_rankOf_24 : decode cX9_rankOf 24 = .ok (.istore_n 3, 1) := by decide +kernel
theorem dX9_rankOf_25 : decode cX9_rankOf 25 = .ok (.iload_n 3, 1) := by decide +kernel
theorem dX9_rankOf_26 : decode cX9_rankOf 26 = .ok (.aload_n 0, 1) := by decide +kernel
theorem dX9_rankOf_27 : decode cX9_rankOf 27 = .ok (.getfield 7, 3) := by decide +kernel
theorem dX9_rankOf_30 : decode cX9_rankOf 30 = .ok (.bipush 36, 2) := by decide +kernel
theorem dX9_rankOf_32 : decode cX9_rankOf 32 = .ok (.iaload, 1) := by decide +kernel
theorem dX9_rankOf_33 : decode cX9_rankOf 33 = .ok (.if_icmp .ge 125, 3) := by decide +kernel
theorem dX9_rankOf_36 : decode cX9_rankOf 36 = .ok (.iconst 0, 1) := by decide +kernel
theorem dX9_rankOf_37 : decode cX9_rankOf 37 = .ok (.istore 4, 2) := by decide +kernel
theorem dX9_rankOf_39 : decode cX9_rankOf 39 = .ok (.iload 4, 2) := by decide +kernel
theorem dX9_rankOf_41 : decode cX9_rankOf 41 = .ok (.aload_n 0, 1) := by decide +kernel
theorem dX9_rankOf_42 : decode cX9_rankOf 42 = .ok (.getfield 7, 3) := by decide +kernel
theorem dX9_rankOf_45 : decode cX9_rankOf 45 = .ok (.bipush 37, 2) := by decide +kernel
theorem dX9_rankOf_47 : decode cX9_rankOf 47 = .ok (.iaload, 1) := by decide +kernel
theorem dX9_rankOf_48 : decode cX9_rankOf 48 = .ok (.if_icmp .ge 104, 3) := by decide +kernel
theorem dX9_rankOf_51 : decode cX9_rankOf 51 = .ok (.iload_n 1, 1) := by decide +kernel
theorem dX9_rankOf_52 : decode cX9_rankOf 52 = .ok (.iload_n 3, 1) := by decide +kernel
theorem dX9_rankOf_53 : decode cX9_rankOf 53 = .ok (.ishr, 1) := by decide +kernel
theorem dX9_rankOf_54 : decode cX9_rankOf 54 = .ok (.iconst 1, 1) := by decide +kernel
theorem dX9_rankOf_55 : decode cX9_rankOf 55 = .ok (.iand, 1) := by decide +kernel
theorem dX9_rankOf_56 : decode cX9_rankOf 56 = .ok (.iconst 1, 1) := by decide +kernel
theorem dX9_rankOf_57 : decode cX9_rankOf 57 = .ok (.if_icmp .ne 95, 3) := by decide +kernel
theorem dX9_rankOf_60 : decode cX9_rankOf 60 = .ok (.aload_n 0, 1) := by decide +kernel
theorem dX9_rankOf_61 : decode cX9_rankOf 61 = .ok (.getfield 7, 3) := by decide +kernel
theorem dX9_rankOf_64 : decode cX9_rankOf 64 = .ok (.iload_n 3, 1) := by decide +kernel
theorem dX9_rankOf_65 : decode cX9_rankOf 65 = .ok (.iload 4, 2) := by decide +kernel
theorem dX9_rankOf_67 : decode cX9_rankOf 67 = .ok (.invokestatic 85, 3) := by decide +kernel
theorem dX9_rankOf_70 : decode cX9_rankOf 70 = .ok (.iaload, 1) := by decide +kernel
theorem dX9_rankOf_71 : decode cX9_rankOf 71 = .ok (.istore 5, 2) := by decide +kernel
theorem dX9_rankOf_73 : decode cX9_rankOf 73 = .ok (.bipush 9, 2) := by decide +kernel
theorem dX9_rankOf_75 : decode cX9_rankOf 75 = .ok (.istore 6, 2) := by decide +kernel
theorem dX9_rankOf_77 : decode cX9_rankOf 77 = .ok (.iload 6, 2) := by decide +kernel
theorem dX9_rankOf_79 : decode cX9_rankOf 79 = .ok (.ifCond .lt 67, 3) := by decide +kernel
theorem dX9_rankOf_82 : decode cX9_rankOf 82 = .ok (.iload 5, 2) := by decide +kernel
theorem dX9_rankOf_84 : decode cX9_rankOf 84 = .ok (.ifCond .eq 62, 3) := by decide +kernel
theorem dX9_rankOf_87 : decode cX9_rankOf 87 = .ok (.iload 5, 2) := by decide +kernel
theorem dX9_rankOf_89 : decode cX9_rankOf 89 = .ok (.iload 6, 2) := by decide +kernel
theorem dX9_rankOf_91 : decode cX9_rankOf 91 = .ok (.ishr, 1) := by decide +kernel
theorem dX9_rankOf_92 : decode cX9_rankOf 92 = .ok (.iconst 1, 1) := by decide +kernel
theorem dX9_rankOf_93 : decode cX9_rankOf 93 = .ok (.iand, 1) := by decide +kernel
theorem dX9_rankOf_94 : decode cX9_rankOf 94 = .ok (.ifCond .ne 6, 3) := by decide +kernel
theorem dX9_rankOf_97 : decode cX9_rankOf 97 = .ok (.goto 43, 3) := by decide +kernel
theorem dX9_rankOf_100 : decode cX9_rankOf 100 = .ok (.aload_n 0, 1) := by decide +kernel
theorem dX9_rankOf_101 : decode cX9_rankOf 101 = .ok (.getfield 42, 3) := by decide +kernel
theorem dX9_rankOf_104 : decode cX9_rankOf 104 = .ok (.iload 6, 2) := by decide +kernel
theorem dX9_rankOf_106 : decode cX9_rankOf 106 = .ok (.iaload, 1) := by decide +kernel
theorem dX9_rankOf_107 : decode cX9_rankOf 107 = .ok (.ifCond .ne 21, 3) := by decide +kernel
theorem dX9_rankOf_110 : decode cX9_rankOf 110 = .ok (.aload_n 0, 1) := by decide +kernel
theorem dX9_rankOf_111 : decode cX9_rankOf 111 = .ok (.getfield 42, 3) := by decide +kernel
theorem dX9_rankOf_114 : decode cX9_rankOf 114 = .ok (.iload 6, 2) := by decide +kernel
theorem dX9_rankOf_116 : decode cX9_rankOf 116 = .ok (.iload 5, 2) := by decide +kernel
theorem dX9_rankOf_118 : decode cX9_rankOf 118 = .ok (.iastore, 1) := by decide +kernel
theorem dX9_rankOf_119 : decode cX9_rankOf 119 = .ok (.iinc 2 1, 3) := by decide +kernel
theorem dX9_rankOf_122 : decode cX9_rankOf 122 = .ok (.iconst 0, 1) := by decide +kernel
theorem dX9_rankOf_123 : decode cX9_rankOf 123 = .ok (.istore 5, 2) := by decide +kernel
theorem dX9_rankOf_125 : decode cX9_rankOf 125 = .ok (.goto 15, 3) := by decide +kernel
theorem dX9_rankOf_128 : decode cX9_rankOf 128 = .ok (.iload 5, 2) := by decide +kernel
theorem dX9_rankOf_130 : decode cX9_rankOf 130 = .ok (.aload_n 0, 1) := by decide +kernel
theorem dX9_rankOf_131 : decode cX9_rankOf 131 = .ok (.getfield 42, 3) := by decide +kernel
theorem dX9_rankOf_134 : decode cX9_rankOf 134 = .ok (.iload 6, 2) := by decide +kernel
theorem dX9_rankOf_136 : decode cX9_rankOf 136 = .ok (.iaload, 1) := by decide +kernel
theorem dX9_rankOf_137 : decode cX9_rankOf 137 = .ok (.ixor, 1) := by decide +kernel
theorem dX9_rankOf_138 : decode cX9_rankOf 138 = .ok (.istore 5, 2) := by decide +kernel
theorem dX9_rankOf_140 : decode cX9_rankOf 140 = .ok (.iinc 6 (-1), 3) := by decide +kernel
theorem dX9_rankOf_143 : decode cX9_rankOf 143 = .ok (.goto (-66), 3) := by decide +kernel
theorem dX9_rankOf_146 : decode cX9_rankOf 146 = .ok (.iinc 4 1, 3) := by decide +kernel
theorem dX9_rankOf_149 : decode cX9_rankOf 149 = .ok (.goto (-110), 3) := by decide +kernel
theorem dX9_rankOf_152 : decode cX9_rankOf 152 = .ok (.iinc 3 1, 3) := by decide +kernel
theorem dX9_rankOf_155 : decode cX9_rankOf 155 = .ok (.goto (-130), 3) := by decide +kernel
theorem dX9_rankOf_158 : decode cX9_rankOf 158 = .ok (.iload_n 2, 1) := by decide +kernel
theorem dX9_rankOf_159 : decode cX9_rankOf 159 = .ok (.ireturn, 1) := by decide +kernel
def X9_rankOf_b77 (k39 : Int32 → Int32 → gM → Option (Int32 × gM)) (v7 : Int32) (v15 v16 v17 : Int32) (m18 : gM) (k77 : Int32 → Int32 → Int32 → gM → Option (Int32 × gM)) : Option (Int32 × gM) :=
  if v17 < 0 then (gLet (v7 + 1) (fun (x19 : Int32) => k39 v15 x19 m18)) else (if v16 = 0 then (gLet (v7 + 1) (fun (x20 : Int32) => k39 v15 x20 m18)) else (if ((v16 >>> (v17 &&& 31)) &&& 1) = 0 then (gLet (v17 + (-1)) (fun (x28 : Int32) => k77 v15 v16 x28 m18)) else (gAt m18 55 0 v17 (fun (x21 : Int32) => if x21 = 0 then (gPut m18 55 0 v17 v16 (fun (m25 : gM) => gLet (v15 + 1) (fun (x26 : Int32) => gLet (v17 + (-1)) (fun (x27 : Int32) => k77 x26 0 x27 m25)))) else (gAt m18 55 0 v17 (fun (x22 : Int32) => gLet (v16 ^^^ x22) (fun (x23 : Int32) => gLet (v17 + (-1)) (fun (x24 : Int32) => k77 v15 x23 x24 m18))))))))
def X9_rankOf_b39 (a1 : Int32) (k25 : Int32 → Int32 → gM → Option (Int32 × gM)) (v3 : Int32) (v6 v7 : Int32) (m8 : gM) (k39 : Int32 → Int32 → gM → Option (Int32 × gM)) : Option (Int32 × gM) :=
  gAt m8 47 0 37 (fun (x9 : Int32) => if x9 ≤ v7 then (gLet (v3 + 1) (fun (x10 : Int32) => k25 v6 x10 m8)) else (if ((a1 >>> (v3 &&& 31)) &&& 1) = 1 then (gCall (X9_maskAt v3 v7 m8) (fun (r13 : Int32) (m12 : gM) => gAt m12 47 0 r13 (fun (x14 : Int32) => gL3 FU (X9_rankOf_b77 k39 v7) v6 x14 9 m12))) else (gLet (v3 + 1) (fun (x11 : Int32) => k25 v6 x11 m8))))
def X9_rankOf_b25 (a1 : Int32) (v2 v3 : Int32) (m4 : gM) (k25 : Int32 → Int32 → gM → Option (Int32 × gM)) : Option (Int32 × gM) :=
  gAt m4 47 0 36 (fun (x5 : Int32) => if x5 ≤ v3 then (some (v2, m4)) else (gL2 FU (X9_rankOf_b39 a1 k25 v3) v2 0 m4))
def X9_rankOf_b4 (j23 : gM → Option (Int32 × gM)) (v29 : Int32) (m30 : gM) (k4 : Int32 → gM → Option (Int32 × gM)) : Option (Int32 × gM) :=
  if 10 ≤ v29 then (j23 m30) else (gPut m30 55 0 v29 0 (fun (m31 : gM) => gLet (v29 + 1) (fun (x32 : Int32) => k4 x32 m31)))
def X9_rankOf (a1 : Int32) (m : gM) : Option (Int32 × gM) :=
  gJ0 (fun (m1 : gM) => gL2 FU (X9_rankOf_b25 a1) 0 0 m1) (fun (j23 : gM → Option (Int32 × gM)) => gL1 FU (X9_rankOf_b4 j23) 0 m)
set_option maxRecDepth 100000 in
set_option maxHeartbeats 4000000 in
theorem c_X9_rankOf (a1 : Int32) (m : gM) : gCon eI yX9_rankOf cX9_rankOf 7 (some .int) 1 [.inr (9, 0), .inl a1] m (X9_rankOf a1 m) := by
  refine gCon.of (lv := [some (.inr (9, 0)), some (.inl a1), none, none, none, none, none]) (by decide +kernel) (Nat.le_of_ble_eq_true rfl) rfl (fun X C => ?_)
  unfold X9_rankOf
  refine r_iconst (v := 0) C dX9_rankOf_0 (by decide) ?_
  refine r_istore_n (lv' := [some (.inr (9, 0)), some (.inl a1), some (.inl 0), none, none, none, none]) C dX9_rankOf_1 rfl (by decide) rfl ?_
  refine r_iconst (v := 0) C dX9_rankOf_2 (by decide) ?_
  refine r_istore_n (lv' := [some (.inr (9, 0)), some (.inl a1), some (.inl 0), some (.inl 0), none, none, none]) C dX9_rankOf_3 rfl (by decide) rfl ?_
  refine r_j0 23 [some (.inr (9, 0)), some (.inl a1), some (.inl 0), none, none, none, none] [] (fun m1 => ?_) (fun j23 hj23 => ?_)
  · refine r_iconst (v := 0) C dX9_rankOf_23 (by decide) ?_
    refine r_istore_n (lv' := [some (.inr (9, 0)), some (.inl a1), some (.inl 0), some (.inl 0), none, none, none]) C dX9_rankOf_24 rfl (by decide) rfl ?_
    refine r_weak (lv' := [some (.inr (9, 0)), some (.inl a1), some (.inl 0), some (.inl 0), none, none, none]) ⟨rfl, rfl, rfl, rfl, trivial⟩ ?_
    refine r_l2 (pj := 25) (fun v2 v3 => [some (.inr (9, 0)), some (.inl a1), some (.inl v2), some (.inl v3), none, none, none]) (fun v2 v3 m4 k25 hk25 => ?_) _ _ _ _
    unfold X9_rankOf_b25
    refine r_iload_n C dX9_rankOf_25 rfl rfl ?_
    refine r_aload_n C dX9_rankOf_26 rfl rfl ?_
    refine r_get (v := .inr (47, 0)) C fl_X9_7 dX9_rankOf_27 rfl ?_
    refine r_bipush (v := 36) C dX9_rankOf_30 (by decide) ?_
    refine r_iald C rfl dX9_rankOf_32 (fun x5 => ?_)
    refine r_icmp_ge (tgt := 158) C dX9_rankOf_33 (by decide) ?_ ?_
    · refine r_iload_n C dX9_rankOf_158 rfl rfl ?_
      exact r_ireturn C dX9_rankOf_159
    refine r_iconst (v := 0) C dX9_rankOf_36 (by decide) ?_
    refine r_istore (lv' := [some (.inr (9, 0)), some (.inl a1), some (.inl v2), some (.inl v3), some (.inl 0), none, none]) C dX9_rankOf_37 (by decide) rfl ?_
    refine r_weak (lv' := [some (.inr (9, 0)), some (.inl a1), some (.inl v2), some (.inl v3), some (.inl 0), none, none]) ⟨rfl, rfl, rfl, rfl, rfl, trivial⟩ ?_
    refine r_l2 (pj := 39) (fun v6 v7 => [some (.inr (9, 0)), some (.inl a1), some (.inl v6), some (.inl v3), some (.inl v7), none, none]) (fun v6 v7 m8 k39 hk39 => ?_) _ _ _ _
    unfold X9_rankOf_b39
    refine r_iload C dX9_rankOf_39 rfl ?_
    refine r_aload_n C dX9_rankOf_41 rfl rfl ?_
    refine r_get (v := .inr (47, 0)) C fl_X9_7 dX9_rankOf_42 rfl ?_
    refine r_bipush (v := 37) C dX9_rankOf_45 (by decide) ?_
    refine r_iald C rfl dX9_rankOf_47 (fun x9 => ?_)
    refine r_icmp_ge (tgt := 152) C dX9_rankOf_48 (by decide) ?_ ?_
    · refine r_iinc (v := 1) C dX9_rankOf_152 (by decide) rfl (by decide) (fun x10 => ?_)
      show gw X eI _ [some (.inr (9, 0)), some (.inl a1), some (.inl v6), some (.inl x10), some (.inl v7), none, none] _ _ _
      refine r_goto (tgt := 25) C dX9_rankOf_155 (by decide) ?_
      exact r_weak (lv' := [some (.inr (9, 0)), some (.inl a1), some (.inl v6), some (.inl x10), none, none, none]) ⟨rfl, rfl, rfl, rfl, trivial⟩ (hk25 _ _ _)
    refine r_iload_n C dX9_rankOf_51 rfl rfl ?_
    refine r_iload_n C dX9_rankOf_52 rfl rfl ?_
    refine r_ishr C dX9_rankOf_53 ?_
    refine r_iconst (v := 1) C dX9_rankOf_54 (by decide) ?_
    refine r_iand C dX9_rankOf_55 ?_
    refine r_iconst (v := 1) C dX9_rankOf_56 (by decide) ?_
    refine r_icmp_ne (tgt := 152) C dX9_rankOf_57 (by decide) ?_ ?_
    · refine r_iinc (v := 1) C dX9_rankOf_152 (by decide) rfl (by decide) (fun x11 => ?_)
      show gw X eI _ [some (.inr (9, 0)), some (.inl a1), some (.inl v6), some (.inl x11), some (.inl v7), none, none] _ _ _
      refine r_goto (tgt := 25) C dX9_rankOf_155 (by decide) ?_
      exact r_weak (lv' := [some (.inr (9, 0)), some (.inl a1), some (.inl v6), some (.inl x11), none, none, none]) ⟨rfl, rfl, rfl, rfl, trivial⟩ (hk25 _ _ _)
    refine r_aload_n C dX9_rankOf_60 rfl rfl ?_
    refine r_get (v := .inr (47, 0)) C fl_X9_7 dX9_rankOf_61 rfl ?_
    refine r_iload_n C dX9_rankOf_64 rfl rfl ?_
    refine r_iload C dX9_rankOf_65 rfl ?_
    refine r_insI (As := [.inl v3, .inl v7]) (st := [.inr (47, 0)]) C il_X9_85 co_X9_maskAt (c_X9_maskAt v3 v7 m8) (by decide) (by decide) rfl rfl (Nat.le_of_ble_eq_true rfl) dX9_rankOf_67 (fun r13 m12 => ?_)
    refine r_iald C rfl dX9_rankOf_70 (fun x14 => ?_)
    refine r_istore (lv' := [some (.inr (9, 0)), some (.inl a1), some (.inl v6), some (.inl v3), some (.inl v7), some (.inl x14), none]) C dX9_rankOf_71 (by decide) rfl ?_
    refine r_bipush (v := 9) C dX9_rankOf_73 (by decide) ?_
    refine r_istore (lv' := [some (.inr (9, 0)), some (.inl a1), some (.inl v6), some (.inl v3), some (.inl v7), some (.inl x14), some (.inl 9)]) C dX9_rankOf_75 (by decide) rfl ?_
    refine r_weak (lv' := [some (.inr (9, 0)), some (.inl a1), some (.inl v6), some (.inl v3), some (.inl v7), some (.inl x14), some (.inl 9)]) ⟨rfl, rfl, rfl, rfl, rfl, rfl, rfl, trivial⟩ ?_
    refine r_l3 (pj := 77) (fun v15 v16 v17 => [some (.inr (9, 0)), some (.inl a1), some (.inl v15), some (.inl v3), some (.inl v7), some (.inl v16), some (.inl v17)]) (fun v15 v16 v17 m18 k77 hk77 => ?_) _ _ _ _ _
    unfold X9_rankOf_b77
    refine r_iload C dX9_rankOf_77 rfl ?_
    refine r_if_lt (tgt := 146) C dX9_rankOf_79 (by decide) ?_ ?_
    · refine r_iinc (v := 1) C dX9_rankOf_146 (by decide) rfl (by decide) (fun x19 => ?_)
      show gw X eI _ [some (.inr (9, 0)), some (.inl a1), some (.inl v15), some (.inl v3), some (.inl x19), some (.inl v16), some (.inl v17)] _ _ _
      refine r_goto (tgt := 39) C dX9_rankOf_149 (by decide) ?_
      exact r_weak (lv' := [some (.inr (9, 0)), some (.inl a1), some (.inl v15), some (.inl v3), some (.inl x19), none, none]) ⟨rfl, rfl, rfl, rfl, rfl, trivial⟩ (hk39 _ _ _)
    refine r_iload C dX9_rankOf_82 rfl ?_
    refine r_if_eq (tgt := 146) C dX9_rankOf_84 (by decide) ?_ ?_
    · refine r_iinc (v := 1) C dX9_rankOf_146 (by decide) rfl (by decide) (fun x20 => ?_)
      show gw X eI _ [some (.inr (9, 0)), some (.inl a1), some (.inl v15), some (.inl v3), some (.inl x20), some (.inl v16), some (.inl v17)] _ _ _
      refine r_goto (tgt := 39) C dX9_rankOf_149 (by decide) ?_
      exact r_weak (lv' := [some (.inr (9, 0)), some (.inl a1), some (.inl v15), some (.inl v3), some (.inl x20), none, none]) ⟨rfl, rfl, rfl, rfl, rfl, trivial⟩ (hk39 _ _ _)
    refine r_iload C dX9_rankOf_87 rfl ?_
    refine r_iload C dX9_rankOf_89 rfl ?_
    refine r_ishr C dX9_rankOf_91 ?_
    refine r_iconst (v := 1) C dX9_rankOf_92 (by decide) ?_
    refine r_iand C dX9_rankOf_93 ?_
    refine r_if_ne (tgt := 100) C dX9_rankOf_94 (by decide) ?_ ?_
    · refine r_aload_n C dX9_rankOf_100 rfl rfl ?_
      refine r_get (v := .inr (55, 0)) C fl_X9_42 dX9_rankOf_101 rfl ?_
      refine r_iload C dX9_rankOf_104 rfl ?_
      refine r_iald C rfl dX9_rankOf_106 (fun x21 => ?_)
      refine r_if_ne (tgt := 128) C dX9_rankOf_107 (by decide) ?_ ?_
      · refine r_iload C dX9_rankOf_128 rfl ?_
        refine r_aload_n C dX9_rankOf_130 rfl rfl ?_
        refine r_get (v := .inr (55, 0)) C fl_X9_42 dX9_rankOf_131 rfl ?_
        refine r_iload C dX9_rankOf_134 rfl ?_
        refine r_iald C rfl dX9_rankOf_136 (fun x22 => ?_)
        refine r_ixor C dX9_rankOf_137 ?_
        refine r_let (fun x23 => ?_)
        refine r_istore (lv' := [some (.inr (9, 0)), some (.inl a1), some (.inl v15), some (.inl v3), some (.inl v7), some (.inl x23), some (.inl v17)]) C dX9_rankOf_138 (by decide) rfl ?_
        refine r_iinc (v := (-1)) C dX9_rankOf_140 (by decide) rfl (by decide) (fun x24 => ?_)
        show gw X eI _ [some (.inr (9, 0)), some (.inl a1), some (.inl v15), some (.inl v3), some (.inl v7), some (.inl x23), some (.inl x24)] _ _ _
        refine r_goto (tgt := 77) C dX9_rankOf_143 (by decide) ?_
        exact r_weak (lv' := [some (.inr (9, 0)), some (.inl a1), some (.inl v15), some (.inl v3), some (.inl v7), some (.inl x23), some (.inl x24)]) ⟨rfl, rfl, rfl, rfl, rfl, rfl, rfl, trivial⟩ (hk77 _ _ _ _)
      refine r_aload_n C dX9_rankOf_110 rfl rfl ?_
      refine r_get (v := .inr (55, 0)) C fl_X9_42 dX9_rankOf_111 rfl ?_
      refine r_iload C dX9_rankOf_114 rfl ?_
      refine r_iload C dX9_rankOf_116 rfl ?_
      refine r_iast C rfl dX9_rankOf_118 (fun m25 => ?_)
      refine r_iinc (v := 1) C dX9_rankOf_119 (by decide) rfl (by decide) (fun x26 => ?_)
      show gw X eI _ [some (.inr (9, 0)), some (.inl a1), some (.inl x26), some (.inl v3), some (.inl v7), some (.inl v16), some (.inl v17)] _ _ _
      refine r_iconst (v := 0) C dX9_rankOf_122 (by decide) ?_
      refine r_istore (lv' := [some (.inr (9, 0)), some (.inl a1), some (.inl x26), some (.inl v3), some (.inl v7), some (.inl 0), some (.inl v17)]) C dX9_rankOf_123 (by decide) rfl ?_
      refine r_goto (tgt := 140) C dX9_rankOf_125 (by decide) ?_
      refine r_iinc (v := (-1)) C dX9_rankOf_140 (by decide) rfl (by decide) (fun x27 => ?_)
      show gw X eI _ [some (.inr (9, 0)), some (.inl a1), some (.inl x26), some (.inl v3), some (.inl v7), some (.inl 0), some (.inl x27)] _ _ _
      refine r_goto (tgt := 77) C dX9_rankOf_143 (by decide) ?_
      exact r_weak (lv' := [some (.inr (9, 0)), some (.inl a1), some (.inl x26), some (.inl v3), some (.inl v7), some (.inl 0), some (.inl x27)]) ⟨rfl, rfl, rfl, rfl, rfl, rfl, rfl, trivial⟩ (hk77 _ _ _ _)
    refine r_goto (tgt := 140) C dX9_rankOf_97 (by decide) ?_
    refine r_iinc (v := (-1)) C dX9_rankOf_140 (by decide) rfl (by decide) (fun x28 => ?_)
    show gw X eI _ [some (.inr (9, 0)), some (.inl a1), some (.inl v15), some (.inl v3), some (.inl v7), some (.inl v16), some (.inl x28)] _ _ _
    refine r_goto (tgt := 77) C dX9_rankOf_143 (by decide) ?_
    exact r_weak (lv' := [some (.inr (9, 0)), some (.inl a1), some (.inl v15), some (.inl v3), some (.inl v7), some (.inl v16), some (.inl x28)]) ⟨rfl, rfl, rfl, rfl, rfl, rfl, rfl, trivial⟩ (hk77 _ _ _ _)
  refine r_weak (lv' := [some (.inr (9, 0)), some (.inl a1), some (.inl 0), some (.inl 0), none, none, none]) ⟨rfl, rfl, rfl, rfl, trivial⟩ ?_
  refine r_l1 (pj := 4) (fun v29 => [some (.inr (9, 0)), some (.inl a1), some (.inl 0), some (.inl v29), none, none, none]) (fun v29 m30 k4 hk4 => ?_) _ _ _
  unfold X9_rankOf_b4
  refine r_iload_n C dX9_rankOf_4 rfl rfl ?_
  refine r_bipush (v := 10) C dX9_rankOf_5 (by decide) ?_
  refine r_icmp_ge (tgt := 23) C dX9_rankOf_7 (by decide) ?_ ?_
  · exact r_weak (lv' := [some (.inr (9, 0)), some (.inl a1), some (.inl 0), none, none, none, none]) ⟨rfl, rfl, rfl, trivial⟩ (hj23 _)
  refine r_aload_n C dX9_rankOf_10 rfl rfl ?_
  refine r_get (v := .inr (55, 0)) C fl_X9_42 dX9_rankOf_11 rfl ?_
  refine r_iload_n C dX9_rankOf_14 rfl rfl ?_
  refine r_iconst (v := 0) C dX9_rankOf_15 (by decide) ?_
  refine r_iast C rfl dX9_rankOf_16 (fun m31 => ?_)
  refine r_iinc (v := 1) C dX9_rankOf_17 (by decide) rfl (by decide) (fun x32 => ?_)
  show gw X eI _ [some (.inr (9, 0)), some (.inl a1), some (.inl 0), some (.inl x32), none, none, none] _ _ _
  refine r_goto (tgt := 4) C dX9_rankOf_20 (by decide) ?_
  exact r_weak (lv' := [some (.inr (9, 0)), some (.inl a1), some (.inl 0), some (.inl x32), none, none, none]) ⟨rfl, rfl, rfl, rfl, trivial⟩ (hk4 _ _)
theorem dX9_putAside_0 : decode cX9_putAside 0 = .ok (.iconst 0, 1) := by decide +kernel
theorem dX9_putAside_1 : decode cX9_putAside 1 = .ok (.istore_n 1, 1) := by decide +kernel
theorem dX9_putAside_2 : decode cX9_putAside 2 = .ok (.iload_n 1, 1) := by decide +kernel
theorem dX9_putAside_3 : decode cX9_putAside 3 = .ok (.sipush 1467, 3) := by decide +kernel
theorem dX9_putAside_6 : decode cX9_putAside 6 = .ok (.if_icmp .ge 24, 3) := by decide +kernel
theorem dX9_putAside_9 : decode cX9_putAside 9 = .ok (.aload_n 0, 1) := by decide +kernel
theorem dX9_putAside_10 : decode cX9_putAside 10 = .ok (.getfield 45, 3) := by decide +kernel
theorem dX9_putAside_13 : decode cX9_putAside 13 = .ok (.iload_n 1, 1) := by decide +kernel
theorem dX9_putAside_14 : decode cX9_putAside 14 = .ok (.aload_n 0, 1) := by decide +kernel
theorem dX9_putAside_15 : decode cX9_putAside 15 = .ok (.getfield 7, 3) := by decide +kernel
theorem dX9_putAside_18 : decode cX9_putAside 18 = .ok (.bipush 36, 2) := by decide +kernel
theorem dX9_putAside_20 : decode cX9_putAside 20 = .ok (.iload_n 1, 1) := by decide +kernel
theorem dX9_putAside_21 : decode cX9_putAside 21 = .ok (.iadd, 1) := by decide +kernel
theorem dX9_putAside_22 : decode cX9_putAside 22 = .ok (.iaload, 1) := by decide +kernel
theorem dX9_putAside_23 : decode cX9_putAside 23 = .ok (.iastore, 1) := by decide +kernel
theorem dX9_putAside_24 : decode cX9_putAside 24 = .ok (.iinc 1 1, 3) := by decide +kernel
theorem dX9_putAside_27 : decode cX9_putAside 27 = .ok (.goto (-25), 3) := by decide +kernel
theorem dX9_putAside_30 : decode cX9_putAside 30 = .ok (.return_, 1) := by decide +kernel
def X9_putAside_b2 (v1 : Int32) (m2 : gM) (k2 : Int32 → gM → Option (Unit × gM)) : Option (Unit × gM) :=
  if 1467 ≤ v1 then (some ((), m2)) else (gAt m2 47 0 (36 + v1) (fun (x3 : Int32) => gPut m2 56 0 v1 x3 (fun (m4 : gM) => gLet (v1 + 1) (fun (x5 : Int32) => k2 x5 m4))))
def X9_putAside (m : gM) : Option (Unit × gM) :=
  gL1 FU X9_putAside_b2 0 m
set_option maxRecDepth 100000 in
set_option maxHeartbeats 4000000 in
theorem c_X9_putAside (m : gM) : gCon eU yX9_putAside cX9_putAside 2 none 0 [.inr (9, 0)] m (X9_putAside m) := by
  refine gCon.of (lv := [some (.inr (9, 0)), none]) (by decide +kernel) (Nat.le_of_ble_eq_true rfl) rfl (fun X C => ?_)
  unfold X9_putAside
  refine r_iconst (v := 0) C dX9_putAside_0 (by decide) ?_
  refine r_istore_n (lv' := [some (.inr (9, 0)), some (.inl 0)]) C dX9_putAside_1 rfl (by decide) rfl ?_
  refine r_weak (lv' := [some (.inr (9, 0)), some (.inl 0)]) ⟨rfl, rfl, trivial⟩ ?_
  refine r_l1 (pj := 2) (fun v1 => [some (.inr (9, 0)), some (.inl v1)]) (fun v1 m2 k2 hk2 => ?_) _ _ _
  unfold X9_putAside_b2
  refine r_iload_n C dX9_putAside_2 rfl rfl ?_
  refine r_sipush (v := 1467) C dX9_putAside_3 (by decide) ?_
  refine r_icmp_ge (tgt := 30) C dX9_putAside_6 (by decide) ?_ ?_
  · exact r_return C dX9_putAside_30
  refine r_aload_n C dX9_putAside_9 rfl rfl ?_
  refine r_get (v := .inr (56, 0)) C fl_X9_45 dX9_putAside_10 rfl ?_
  refine r_iload_n C dX9_putAside_13 rfl rfl ?_
  refine r_aload_n C dX9_putAside_14 rfl rfl ?_
  refine r_get (v := .inr (47, 0)) C fl_X9_7 dX9_putAside_15 rfl ?_
  refine r_bipush (v := 36) C dX9_putAside_18 (by decide) ?_
  refine r_iload_n C dX9_putAside_20 rfl rfl ?_
  refine r_iadd C dX9_putAside_21 ?_
  refine r_iald C rfl dX9_putAside_22 (fun x3 => ?_)
  refine r_iast C rfl dX9_putAside_23 (fun m4 => ?_)
  refine r_iinc (v := 1) C dX9_putAside_24 (by decide) rfl (by decide) (fun x5 => ?_)
  show gw X eU _ [some (.inr (9, 0)), some (.inl x5)] _ _ _
  refine r_goto (tgt := 2) C dX9_putAside_27 (by decide) ?_
  exact r_weak (lv' := [some (.inr (9, 0)), some (.inl x5)]) ⟨rfl, rfl, trivial⟩ (hk2 _ _)
theorem dX9_bringBack_0 : decode cX9_bringBack 0 = .ok (.iconst 0, 1) := by decide +kernel
theorem dX9_bringBack_1 : decode cX9_bringBack 1 = .ok (.istore_n 1, 1) := by decide +kernel
theorem dX9_bringBack_2 : decode cX9_bringBack 2 = .ok (.iload_n 1, 1) := by decide +kernel
theorem dX9_bringBack_3 : decode cX9_bringBack 3 = .ok (.sipush 1467, 3) := by decide +kernel
theorem dX9_bringBack_6 : decode cX9_bringBack 6 = .ok (.if_icmp .ge 24, 3) := by decide +kernel
theorem dX9_bringBack_9 : decode cX9_bringBack 9 = .ok (.aload_n 0, 1) := by decide +kernel
theorem dX9_bringBack_10 : decode cX9_bringBack 10 = .ok (.getfield 7, 3) := by decide +kernel
theorem dX9_bringBack_13 : decode cX9_bringBack 13 = .ok (.bipush 36, 2) := by decide +kernel
theorem dX9_bringBack_15 : decode cX9_bringBack 15 = .ok (.iload_n 1, 1) := by decide +kernel
theorem dX9_bringBack_16 : decode cX9_bringBack 16 = .ok (.iadd, 1) := by decide +kernel
theorem dX9_bringBack_17 : decode cX9_bringBack 17 = .ok (.aload_n 0, 1) := by decide +kernel
theorem dX9_bringBack_18 : decode cX9_bringBack 18 = .ok (.getfield 45, 3) := by decide +kernel
theorem dX9_bringBack_21 : decode cX9_bringBack 21 = .ok (.iload_n 1, 1) := by decide +kernel
theorem dX9_bringBack_22 : decode cX9_bringBack 22 = .ok (.iaload, 1) := by decide +kernel
theorem dX9_bringBack_23 : decode cX9_bringBack 23 = .ok (.iastore, 1) := by decide +kernel
theorem dX9_bringBack_24 : decode cX9_bringBack 24 = .ok (.iinc 1 1, 3) := by decide +kernel
theorem dX9_bringBack_27 : decode cX9_bringBack 27 = .ok (.goto (-25), 3) := by decide +kernel
theorem dX9_bringBack_30 : decode cX9_bringBack 30 = .ok (.return_, 1) := by decide +kernel
def X9_bringBack_b2 (v1 : Int32) (m2 : gM) (k2 : Int32 → gM → Option (Unit × gM)) : Option (Unit × gM) :=
  if 1467 ≤ v1 then (some ((), m2)) else (gAt m2 56 0 v1 (fun (x3 : Int32) => gPut m2 47 0 (36 + v1) x3 (fun (m4 : gM) => gLet (v1 + 1) (fun (x5 : Int32) => k2 x5 m4))))
def X9_bringBack (m : gM) : Option (Unit × gM) :=
  gL1 FU X9_bringBack_b2 0 m
set_option maxRecDepth 100000 in
set_option maxHeartbeats 4000000 in
theorem c_X9_bringBack (m : gM) : gCon eU yX9_bringBack cX9_bringBack 2 none 0 [.inr (9, 0)] m (X9_bringBack m) := by
  refine gCon.of (lv := [some (.inr (9, 0)), none]) (by decide +kernel) (Nat.le_of_ble_eq_true rfl) rfl (fun X C => ?_)
  unfold X9_bringBack
  refine r_iconst (v := 0) C dX9_bringBack_0 (by decide) ?_
  refine r_istore_n (lv' := [some (.inr (9, 0)), some (.inl 0)]) C dX9_bringBack_1 rfl (by decide) rfl ?_
  refine r_weak (lv' := [some (.inr (9, 0)), some (.inl 0)]) ⟨rfl, rfl, trivial⟩ ?_
  refine r_l1 (pj := 2) (fun v1 => [some (.inr (9, 0)), some (.inl v1)]) (fun v1 m2 k2 hk2 => ?_) _ _ _
  unfold X9_bringBack_b2
  refine r_iload_n C dX9_bringBack_2 rfl rfl ?_
  refine r_sipush (v := 1467) C dX9_bringBack_3 (by decide) ?_
  refine r_icmp_ge (tgt := 30) C dX9_bringBack_6 (by decide) ?_ ?_
  · exact r_return C dX9_bringBack_30
  refine r_aload_n C dX9_bringBack_9 rfl rfl ?_
  refine r_get (v := .inr (47, 0)) C fl_X9_7 dX9_bringBack_10 rfl ?_
  refine r_bipush (v := 36) C dX9_bringBack_13 (by decide) ?_
  refine r_iload_n C dX9_bringBack_15 rfl rfl ?_
  refine r_iadd C dX9_bringBack_16 ?_
  refine r_aload_n C dX9_bringBack_17 rfl rfl ?_
  refine r_get (v := .inr (56, 0)) C fl_X9_45 dX9_bringBack_18 rfl ?_
  refine r_iload_n C dX9_bringBack_21 rfl rfl ?_
  refine r_iald C rfl dX9_bringBack_22 (fun x3 => ?_)
  refine r_iast C rfl dX9_bringBack_23 (fun m4 => ?_)
  refine r_iinc (v := 1) C dX9_bringBack_24 (by decide) rfl (by decide) (fun x5 => ?_)
  show gw X eU _ [some (.inr (9, 0)), some (.inl x5)] _ _ _
  refine r_goto (tgt := 2) C dX9_bringBack_27 (by decide) ?_
  exact r_weak (lv' := [some (.inr (9, 0)), some (.inl x5)]) ⟨rfl, rfl, trivial⟩ (hk2 _ _)
theorem dX9_stepAt_0 : decode cX9_stepAt 0 = .ok (.sipush 1503, 3) := by decide +kernel
theorem dX9_stepAt_3 : decode cX9_stepAt 3 = .ok (.sipush 1467, 3) := by decide +kernel
theorem dX9_stepAt_6 : decode cX9_stepAt 6 = .ok (.iload_n 0, 1) := by decide +kernel
theorem dX9_stepAt_7 : decode cX9_stepAt 7 = .ok (.iload_n 1, 1) := by decide +kernel
theorem dX9_stepAt_8 : decode cX9_stepAt 8 = .ok (.iadd, 1) := by decide +kernel
theorem dX9_stepAt_9 : decode cX9_stepAt 9 = .ok (.bipush 20, 2) := by decide +kernel
theorem dX9_stepAt_11 : decode cX9_stepAt 11 = .ok (.irem, 1) := by decide +kernel
theorem dX9_stepAt_12 : decode cX9_stepAt 12 = .ok (.imul, 1) := by decide +kernel
theorem dX9_stepAt_13 : decode cX9_stepAt 13 = .ok (.iadd, 1) := by decide +kernel
theorem dX9_stepAt_14 : decode cX9_stepAt 14 = .ok (.ireturn, 1) := by decide +kernel
def X9_stepAt (a1 : Int32) (a2 : Int32) (m : gM) : Option (Int32 × gM) :=
  some (1503 + (1467 * (gRem (a1 + a2) 20)), m)
set_option maxRecDepth 100000 in
set_option maxHeartbeats 4000000 in
theorem c_X9_stepAt (a1 : Int32) (a2 : Int32) (m : gM) : gCon eI yX9_stepAt cX9_stepAt 2 (some .int) 0 [.inl a1, .inl a2] m (X9_stepAt a1 a2 m) := by
  refine gCon.of (lv := [some (.inl a1), some (.inl a2)]) (by decide +kernel) (Nat.le_of_ble_eq_true rfl) rfl (fun X C => ?_)
  unfold X9_stepAt
  refine r_sipush (v := 1503) C dX9_stepAt_0 (by decide) ?_
  refine r_sipush (v := 1467) C dX9_stepAt_3 (by decide) ?_
  refine r_iload_n C dX9_stepAt_6 rfl rfl ?_
  refine r_iload_n C dX9_stepAt_7 rfl rfl ?_
  refine r_iadd C dX9_stepAt_8 ?_
  refine r_bipush (v := 20) C dX9_stepAt_9 (by decide) ?_
  refine r_irem C dX9_stepAt_11 (by decide) ?_
  refine r_imul C dX9_stepAt_12 ?_
  refine r_iadd C dX9_stepAt_13 ?_
  exact r_ireturn C dX9_stepAt_14
theorem dX9_keep_0 : decode cX9_keep 0 = .ok (.aload_n 0, 1) := by decide +kernel
theorem dX9_keep_1 : decode cX9_keep 1 = .ok (.getfield 7, 3) := by decide +kernel
theorem dX9_keep_4 : decode cX9_keep 4 = .ok (.iconst 1, 1) := by decide +kernel
theorem dX9_keep_5 : decode cX9_keep 5 = .ok (.iaload, 1) := by decide +kernel
theorem dX9_keep_6 : decode cX9_keep 6 = .ok (.bipush 20, 2) := by decide +kernel
theorem dX9_keep_8 : decode cX9_keep 8 = .ok (.if_icmp .ne 30, 3) := by decide +kernel
theorem dX9_keep_11 : decode cX9_keep 11 = .ok (.aload_n 0, 1) := by decide +kernel
theorem dX9_keep_12 : decode cX9_keep 12 = .ok (.getfield 7, 3) := by decide +kernel
theorem dX9_keep_15 : decode cX9_keep 15 = .ok (.iconst 2, 1) := by decide +kernel
theorem dX9_keep_16 : decode cX9_keep 16 = .ok (.aload_n 0, 1) := by decide +kernel
theorem dX9_keep_17 : decode cX9_keep 17 = .ok (.getfield 7, 3) := by decide +kernel
theorem dX9_keep_20 : decode cX9_keep 20 = .ok (.iconst 2, 1) := by decide +kernel
theorem dX9_keep_21 : decode cX9_keep 21 = .ok (.iaload, 1) := by decide +kernel
theorem dX9_keep_22 : decode cX9_keep 22 = .ok (.iconst 1, 1) := by decide +kernel
theorem dX9_keep_23 : decode cX9_keep 23 = .ok (.iadd, 1) := by decide +kernel
theorem dX9_keep_24 : decode cX9_keep 24 = .ok (.bipush 20, 2) := by decide +kernel
theorem dX9_keep_26 : decode cX9_keep 26 = .ok (.irem, 1) := by decide +kernel
theorem dX9_keep_27 : decode cX9_keep 27 = .ok (.iastore, 1) := by decide +kernel
theorem dX9_keep_28 : decode cX9_keep 28 = .ok (.aload_n 0, 1) := by decide +kernel
theorem dX9_keep_29 : decode cX9_keep 29 = .ok (.getfield 7, 3) := by decide +kernel
theorem dX9_keep_32 : decode cX9_keep 32 = .ok (.iconst 1, 1) := by decide +kernel
theorem dX9_keep_33 : decode cX9_keep 33 = .ok (.dup2, 1) := by decide +kernel
theorem dX9_keep_34 : decode cX9_keep 34 = .ok (.iaload, 1) := by decide +kernel
theorem dX9_keep_35 : decode cX9_keep 35 = .ok (.iconst 1, 1) := by decide +kernel
theorem dX9_keep_36 : decode cX9_keep 36 = .ok (.isub, 1) := by decide +kernel
theorem dX9_keep_37 : decode cX9_keep 37 = .ok (.iastore, 1) := by decide +kernel
theorem dX9_keep_38 : decode cX9_keep 38 = .ok (.aload_n 0, 1) := by decide +kernel
theorem dX9_keep_39 : decode cX9_keep 39 = .ok (.getfield 7, 3) := by decide +kernel
theorem dX9_keep_42 : decode cX9_keep 42 = .ok (.iconst 2, 1) := by decide +kernel
theorem dX9_keep_43 : decode cX9_keep 43 = .ok (.iaload, 1) := by decide +kernel
theorem dX9_keep_44 : decode cX9_keep 44 = .ok (.aload_n 0, 1) := by decide +kernel
theorem dX9_keep_45 : decode cX9_keep 45 = .ok (.getfield 7, 3) := by decide +kernel
theorem dX9_keep_48 : decode cX9_keep 48 = .ok (.iconst 1, 1) := by decide +kernel
theorem dX9_keep_49 : decode cX9_keep 49 = .ok (.iaload, 1) := by decide +kernel
theorem dX9_keep_50 : decode cX9_keep 50 = .ok (.invokestatic 209, 3) := by decide +kernel
theorem dX9_keep_53 : decode cX9_keep 53 = .ok (.istore_n 1, 1) := by decide +kernel
theorem dX9_keep_54 : decode cX9_keep 54 = .ok (.iconst 0, 1) := by decide +kernel
theorem dX9_keep_55 : decode cX9_keep 55 = .ok (.istore_n 2, 1) := by decide +kernel
theorem dX9_keep_56 : decode cX9_keep 56 = .ok (.iload_n 2, 1) := by decide +kernel
theorem dX9_keep_57 : decode cX9_keep 57 = .ok (.sipush 1467, 3) := by decide +kernel
theorem dX9_keep_60 : decode cX9_keep 60 = .ok (.if_icmp .ge 26, 3) := by decide +kernel
theorem dX9_keep_63 : decode cX9_keep 63 = .ok (.aload_n 0, 1) := by decide +kernel
theorem dX9_keep_64 : decode cX9_keep 64 = .ok (.getfield 7, 3) := by decide +kernel
theorem dX9_keep_67 : decode cX9_keep 67 = .ok (.iload_n 1, 1) := by decide +kernel
theorem dX9_keep_68 : decode cX9_keep 68 = .ok (.iload_n 2, 1) := by decide +kernel
theorem dX9_keep_69 : decode cX9_keep 69 = .ok (.iadd, 1) := by decide +kernel
theorem dX9_keep_70 : decode cX9_keep 70 = .ok (.aload_n 0, 1) := by decide +kernel
theorem dX9_keep_71 : decode cX9_keep 71 = .ok (.getfield 7, 3) := by decide +kernel
theorem dX9_keep_74 : decode cX9_keep 74 = .ok (.bipush 36, 2) := by decide +kernel
theorem dX9_keep_76 : decode cX9_keep 76 = .ok (.iload_n 2, 1) := by decide +kernel
theorem dX9_keep_77 : decode cX9_keep 77 = .ok (.iadd, 1) := by decide +kernel
theorem dX9_keep_78 : decode cX9_keep 78 = .ok (.iaload, 1) := by decide +kernel
theorem dX9_keep_79 : decode cX9_keep 79 = .ok (.iastore, 1) := by decide +kernel
theorem dX9_keep_80 : decode cX9_keep 80 = .ok (.iinc 2 1, 3) := by decide +kernel
theorem dX9_keep_83 : decode cX9_keep 83 = .ok (.goto (-27), 3) := by decide +kernel
theorem dX9_keep_86 : decode cX9_keep 86 = .ok (.aload_n 0, 1) := by decide +kernel
theorem dX9_keep_87 : decode cX9_keep 87 = .ok (.getfield 7, 3) := by decide +kernel
theorem dX9_keep_90 : decode cX9_keep 90 = .ok (.iconst 1, 1) := by decide +kernel
theorem dX9_keep_91 : decode cX9_keep 91 = .ok (.dup2, 1) := by decide +kernel
theorem dX9_keep_92 : decode cX9_keep 92 = .ok (.iaload, 1) := by decide +kernel
theorem dX9_keep_93 : decode cX9_keep 93 = .ok (.iconst 1, 1) := by decide +kernel
theorem dX9_keep_94 : decode cX9_keep 94 = .ok (.iadd, 1) := by decide +kernel
theorem dX9_keep_95 : decode cX9_keep 95 = .ok (.iastore, 1) := by decide +kernel
theorem dX9_keep_96 : decode cX9_keep 96 = .ok (.return_, 1) := by decide +kernel
def X9_keep_b56 (j86 : gM → Option (Unit × gM)) (r6 : Int32) (v10 : Int32) (m11 : gM) (k56 : Int32 → gM → Option (Unit × gM)) : Option (Unit × gM) :=
  if 1467 ≤ v10 then (j86 m11) else (gAt m11 47 0 (36 + v10) (fun (x12 : Int32) => gPut m11 47 0 (r6 + v10) x12 (fun (m13 : gM) => gLet (v10 + 1) (fun (x14 : Int32) => k56 x14 m13))))
def X9_keep (m : gM) : Option (Unit × gM) :=
  gAt m 47 0 1 (fun (x1 : Int32) => gJ0 (fun (m2 : gM) => gAt m2 47 0 2 (fun (x3 : Int32) => gAt m2 47 0 1 (fun (x4 : Int32) => gCall (X9_stepAt x3 x4 m2) (fun (r6 : Int32) (m5 : gM) => gJ0 (fun (m7 : gM) => gAt m7 47 0 1 (fun (x8 : Int32) => gPut m7 47 0 1 (x8 + 1) (fun (m9 : gM) => some ((), m9)))) (fun (j86 : gM → Option (Unit × gM)) => gL1 FU (X9_keep_b56 j86 r6) 0 m5))))) (fun (j38 : gM → Option (Unit × gM)) => if x1 = 20 then (gAt m 47 0 2 (fun (x15 : Int32) => gPut m 47 0 2 (gRem (x15 + 1) 20) (fun (m16 : gM) => gAt m16 47 0 1 (fun (x17 : Int32) => gPut m16 47 0 1 (x17 - 1) (fun (m18 : gM) => j38 m18))))) else (j38 m)))
set_option maxRecDepth 100000 in
set_option maxHeartbeats 4000000 in
theorem c_X9_keep (m : gM) : gCon eU yX9_keep cX9_keep 3 none 1 [.inr (9, 0)] m (X9_keep m) := by
  refine gCon.of (lv := [some (.inr (9, 0)), none, none]) (by decide +kernel) (Nat.le_of_ble_eq_true rfl) rfl (fun X C => ?_)
  unfold X9_keep
  refine r_aload_n C dX9_keep_0 rfl rfl ?_
  refine r_get (v := .inr (47, 0)) C fl_X9_7 dX9_keep_1 rfl ?_
  refine r_iconst (v := 1) C dX9_keep_4 (by decide) ?_
  refine r_iald C rfl dX9_keep_5 (fun x1 => ?_)
  refine r_bipush (v := 20) C dX9_keep_6 (by decide) ?_
  refine r_j0 38 [some (.inr (9, 0)), none, none] [] (fun m2 => ?_) (fun j38 hj38 => ?_)
  · refine r_aload_n C dX9_keep_38 rfl rfl ?_
    refine r_get (v := .inr (47, 0)) C fl_X9_7 dX9_keep_39 rfl ?_
    refine r_iconst (v := 2) C dX9_keep_42 (by decide) ?_
    refine r_iald C rfl dX9_keep_43 (fun x3 => ?_)
    refine r_aload_n C dX9_keep_44 rfl rfl ?_
    refine r_get (v := .inr (47, 0)) C fl_X9_7 dX9_keep_45 rfl ?_
    refine r_iconst (v := 1) C dX9_keep_48 (by decide) ?_
    refine r_iald C rfl dX9_keep_49 (fun x4 => ?_)
    refine r_insI (As := [.inl x3, .inl x4]) (st := []) C il_X9_209 co_X9_stepAt (c_X9_stepAt x3 x4 m2) (by decide) (by decide) rfl rfl (Nat.le_of_ble_eq_true rfl) dX9_keep_50 (fun r6 m5 => ?_)
    refine r_istore_n (lv' := [some (.inr (9, 0)), some (.inl r6), none]) C dX9_keep_53 rfl (by decide) rfl ?_
    refine r_iconst (v := 0) C dX9_keep_54 (by decide) ?_
    refine r_istore_n (lv' := [some (.inr (9, 0)), some (.inl r6), some (.inl 0)]) C dX9_keep_55 rfl (by decide) rfl ?_
    refine r_j0 86 [some (.inr (9, 0)), none, none] [] (fun m7 => ?_) (fun j86 hj86 => ?_)
    · refine r_aload_n C dX9_keep_86 rfl rfl ?_
      refine r_get (v := .inr (47, 0)) C fl_X9_7 dX9_keep_87 rfl ?_
      refine r_iconst (v := 1) C dX9_keep_90 (by decide) ?_
      refine r_dup2 C dX9_keep_91 ?_
      refine r_iald C rfl dX9_keep_92 (fun x8 => ?_)
      refine r_iconst (v := 1) C dX9_keep_93 (by decide) ?_
      refine r_iadd C dX9_keep_94 ?_
      refine r_iast C rfl dX9_keep_95 (fun m9 => ?_)
      exact r_return C dX9_keep_96
    refine r_weak (lv' := [some (.inr (9, 0)), some (.inl r6), some (.inl 0)]) ⟨rfl, rfl, rfl, trivial⟩ ?_
    refine r_l1 (pj := 56) (fun v10 => [some (.inr (9, 0)), some (.inl r6), some (.inl v10)]) (fun v10 m11 k56 hk56 => ?_) _ _ _
    unfold X9_keep_b56
    refine r_iload_n C dX9_keep_56 rfl rfl ?_
    refine r_sipush (v := 1467) C dX9_keep_57 (by decide) ?_
    refine r_icmp_ge (tgt := 86) C dX9_keep_60 (by decide) ?_ ?_
    · exact r_weak (lv' := [some (.inr (9, 0)), none, none]) ⟨rfl, trivial⟩ (hj86 _)
    refine r_aload_n C dX9_keep_63 rfl rfl ?_
    refine r_get (v := .inr (47, 0)) C fl_X9_7 dX9_keep_64 rfl ?_
    refine r_iload_n C dX9_keep_67 rfl rfl ?_
    refine r_iload_n C dX9_keep_68 rfl rfl ?_
    refine r_iadd C dX9_keep_69 ?_
    refine r_aload_n C dX9_keep_70 rfl rfl ?_
    refine r_get (v := .inr (47, 0)) C fl_X9_7 dX9_keep_71 rfl ?_
    refine r_bipush (v := 36) C dX9_keep_74 (by decide) ?_
    refine r_iload_n C dX9_keep_76 rfl rfl ?_
    refine r_iadd C dX9_keep_77 ?_
    refine r_iald C rfl dX9_keep_78 (fun x12 => ?_)
    refine r_iast C rfl dX9_keep_79 (fun m13 => ?_)
    refine r_iinc (v := 1) C dX9_keep_80 (by decide) rfl (by decide) (fun x14 => ?_)
    show gw X eU _ [some (.inr (9, 0)), some (.inl r6), some (.inl x14)] _ _ _
    refine r_goto (tgt := 56) C dX9_keep_83 (by decide) ?_
    exact r_weak (lv' := [some (.inr (9, 0)), some (.inl r6), some (.inl x14)]) ⟨rfl, rfl, rfl, trivial⟩ (hk56 _ _)
  refine r_icmp_ne (tgt := 38) C dX9_keep_8 (by decide) ?_ ?_
  · exact r_weak (lv' := [some (.inr (9, 0)), none, none]) ⟨rfl, trivial⟩ (hj38 _)
  refine r_aload_n C dX9_keep_11 rfl rfl ?_
  refine r_get (v := .inr (47, 0)) C fl_X9_7 dX9_keep_12 rfl ?_
  refine r_iconst (v := 2) C dX9_keep_15 (by decide) ?_
  refine r_aload_n C dX9_keep_16 rfl rfl ?_
  refine r_get (v := .inr (47, 0)) C fl_X9_7 dX9_keep_17 rfl ?_
  refine r_iconst (v := 2) C dX9_keep_20 (by decide) ?_
  refine r_iald C rfl dX9_keep_21 (fun x15 => ?_)
  refine r_iconst (v := 1) C dX9_keep_22 (by decide) ?_
  refine r_iadd C dX9_keep_23 ?_
  refine r_bipush (v := 20) C dX9_keep_24 (by decide) ?_
  refine r_irem C dX9_keep_26 (by decide) ?_
  refine r_iast C rfl dX9_keep_27 (fun m16 => ?_)
  refine r_aload_n C dX9_keep_28 rfl rfl ?_
  refine r_get (v := .inr (47, 0)) C fl_X9_7 dX9_keep_29 rfl ?_
  refine r_iconst (v := 1) C dX9_keep_32 (by decide) ?_
  refine r_dup2 C dX9_keep_33 ?_
  refine r_iald C rfl dX9_keep_34 (fun x17 => ?_)
  refine r_iconst (v := 1) C dX9_keep_35 (by decide) ?_
  refine r_isub C dX9_keep_36 ?_
  refine r_iast C rfl dX9_keep_37 (fun m18 => ?_)
  exact r_weak (lv' := [some (.inr (9, 0)), none, none]) ⟨rfl, trivial⟩ (hj38 _)
theorem dX9_undo_0 : decode cX9_undo 0 = .ok (.aload_n 0, 1) := by decide +kernel
theorem dX9_undo_1 : decode cX9_undo 1 = .ok (.getfield 7, 3) := by decide +kernel
theorem dX9_undo_4 : decode cX9_undo 4 = .ok (.iconst 1, 1) := by decide +kernel
theorem dX9_undo_5 : decode cX9_undo 5 = .ok (.iaload, 1) := by decide +kernel
theorem dX9_undo_6 : decode cX9_undo 6 = .ok (.ifCond .ne 5, 3) := by decide +kernel
theorem dX9_undo_9 : decode cX9_undo 9 = .ok (.iconst (-1), 1) := by decide +kernel
theorem dX9_undo_10 : decode cX9_undo 10 = .ok (.ireturn, 1) := by decide +kernel
theorem dX9_undo_11 : decode cX9_undo 11 = .ok (.aload_n 0, 1) := by decide +kernel
theorem dX9_undo_12 : decode cX9_undo 12 = .ok (.getfield 7, 3) := by decide +kernel
theorem dX9_undo_15 : decode cX9_undo 15 = .ok (.iconst 1, 1) := by decide +kernel
theorem dX9_undo_16 : decode cX9_undo 16 = .ok (.dup2, 1) := by decide +kernel
theorem dX9_undo_17 : decode cX9_undo 17 = .ok (.iaload, 1) := by decide +kernel
theorem dX9_undo_18 : decode cX9_undo 18 = .ok (.iconst 1, 1) := by decide +kernel
theorem dX9_undo_19 : decode cX9_undo 19 = .ok (.isub, 1) := by decide +kernel
theorem dX9_undo_20 : decode cX9_undo 20 = .ok (.iastore, 1) := by decide +kernel
theorem dX9_undo_21 : decode cX9_undo 21 = .ok (.aload_n 0, 1) := by decide +kernel
theorem dX9_undo_22 : decode cX9_undo 22 = .ok (.getfield 7, 3) := by decide +kernel
theorem dX9_undo_25 : decode cX9_undo 25 = .ok (.iconst 2, 1) := by decide +kernel
theorem dX9_undo_26 : decode cX9_undo 26 = .ok (.iaload, 1) := by decide +kernel
theorem dX9_undo_27 : decode cX9_undo 27 = .ok (.aload_n 0, 1) := by decide +kernel
theorem dX9_undo_28 : decode cX9_undo 28 = .ok (.getfield 7, 3) := by decide +kernel
theorem dX9_undo_31 : decode cX9_undo 31 = .ok (.iconst 1, 1) := by decide +kernel
theorem dX9_undo_32 : decode cX9_undo 32 = .ok (.iaload, 1) := by decide +kernel
theorem dX9_undo_33 : decode cX9_undo 33 = .ok (.invokestatic 209, 3) := by decide +kernel
theorem dX9_undo_36 : decode cX9_undo 36 = .ok (.istore_n 1, 1) := by decide +kernel
theorem dX9_undo_37 : decode cX9_undo 37 = .ok (.iconst 0, 1) := by decide +kernel
theorem dX9_undo_38 : decode cX9_undo 38 = .ok (.istore_n 2, 1) := by decide +kernel
theorem dX9_undo_39 : decode cX9_undo 39 = .ok (.iload_n 2, 1) := by decide +kernel
theorem dX9_undo_40 : decode cX9_undo 40 = .ok (.sipush 1467, 3) := by decide +kernel
theorem dX9_undo_43 : decode cX9_undo 43 = .ok (.if_icmp .ge 26, 3) := by decide +kernel
theorem dX9_undo_46 : decode cX9_undo 46 = .ok (.aload_n 0, 1) := by decide +kernel
theorem dX9_undo_47 : decode cX9_undo 47 = .ok (.getfield 7, 3) := by decide +kernel
theorem dX9_undo_50 : decode cX9_undo 50 = .ok (.bipush 36, 2) := by decide +kernel
theorem dX9_undo_52 : decode cX9_undo 52 = .ok (.iload_n 2, 1) := by decide +kernel
theorem dX9_undo_53 : decode cX9_undo 53 = .ok (.iadd, 1) := by decide +kernel
theorem dX9_undo_54 : decode cX9_undo 54 = .ok (.aload_n 0, 1) := by decide +kernel
theorem dX9_undo_55 : decode cX9_undo 55 = .ok (.getfield 7, 3) := by decide +kernel
theorem dX9_undo_58 : decode cX9_undo 58 = .ok (.iload_n 1, 1) := by decide +kernel
theorem dX9_undo_59 : decode cX9_undo 59 = .ok (.iload_n 2, 1) := by decide +kernel
theorem dX9_undo_60 : decode cX9_undo 60 = .ok (.iadd, 1) := by decide +kernel
theorem dX9_undo_61 : decode cX9_undo 61 = .ok (.iaload, 1) := by decide +kernel
theorem dX9_undo_62 : decode cX9_undo 62 = .ok (.iastore, 1) := by decide +kernel
theorem dX9_undo_63 : decode cX9_undo 63 = .ok (.iinc 2 1, 3) := by decide +kernel
theorem dX9_undo_66 : decode cX9_undo 66 = .ok (.goto (-27), 3) := by decide +kernel
theorem dX9_undo_69 : decode cX9_undo 69 = .ok (.aload_n 0, 1) := by decide +kernel
theorem dX9_undo_70 : decode cX9_undo 70 = .ok (.getfield 7, 3) := by decide +kernel
theorem dX9_undo_73 : decode cX9_undo 73 = .ok (.iconst 1, 1) := by decide +kernel
theorem dX9_undo_74 : decode cX9_undo 74 = .ok (.iaload, 1) := by decide +kernel
theorem dX9_undo_75 : decode cX9_undo 75 = .ok (.ireturn, 1) := by decide +kernel
def X9_undo_b39 (j69 : gM → Option (Int32 × gM)) (r7 : Int32) (v10 : Int32) (m11 : gM) (k39 : Int32 → gM → Option (Int32 × gM)) : Option (Int32 × gM) :=
  if 1467 ≤ v10 then (j69 m11) else (gAt m11 47 0 (r7 + v10) (fun (x12 : Int32) => gPut m11 47 0 (36 + v10) x12 (fun (m13 : gM) => gLet (v10 + 1) (fun (x14 : Int32) => k39 x14 m13))))
def X9_undo (m : gM) : Option (Int32 × gM) :=
  gAt m 47 0 1 (fun (x1 : Int32) => if x1 = 0 then (some ((-1), m)) else (gAt m 47 0 1 (fun (x2 : Int32) => gPut m 47 0 1 (x2 - 1) (fun (m3 : gM) => gAt m3 47 0 2 (fun (x4 : Int32) => gAt m3 47 0 1 (fun (x5 : Int32) => gCall (X9_stepAt x4 x5 m3) (fun (r7 : Int32) (m6 : gM) => gJ0 (fun (m8 : gM) => gAt m8 47 0 1 (fun (x9 : Int32) => some (x9, m8))) (fun (j69 : gM → Option (Int32 × gM)) => gL1 FU (X9_undo_b39 j69 r7) 0 m6))))))))
set_option maxRecDepth 100000 in
set_option maxHeartbeats 4000000 in
theorem c_X9_undo (m : gM) : gCon eI yX9_undo cX9_undo 3 (some .int) 1 [.inr (9, 0)] m (X9_undo m) := by
  refine gCon.of (lv := [some (.inr (9, 0)), none, none]) (by decide +kernel) (Nat.le_of_ble_eq_true rfl) rfl (fun X C => ?_)
  unfold X9_undo
  refine r_aload_n C dX9_undo_0 rfl rfl ?_
  refine r_get (v := .inr (47, 0)) C fl_X9_7 dX9_undo_1 rfl ?_
  refine r_iconst (v := 1) C dX9_undo_4 (by decide) ?_
  refine r_iald C rfl dX9_undo_5 (fun x1 => ?_)
  refine r_if_ne (tgt := 11) C dX9_undo_6 (by decide) ?_ ?_
  · refine r_aload_n C dX9_undo_11 rfl rfl ?_
    refine r_get (v := .inr (47, 0)) C fl_X9_7 dX9_undo_12 rfl ?_
    refine r_iconst (v := 1) C dX9_undo_15 (by decide) ?_
    refine r_dup2 C dX9_undo_16 ?_
    refine r_iald C rfl dX9_undo_17 (fun x2 => ?_)
    refine r_iconst (v := 1) C dX9_undo_18 (by decide) ?_
    refine r_isub C dX9_undo_19 ?_
    refine r_iast C rfl dX9_undo_20 (fun m3 => ?_)
    refine r_aload_n C dX9_undo_21 rfl rfl ?_
    refine r_get (v := .inr (47, 0)) C fl_X9_7 dX9_undo_22 rfl ?_
    refine r_iconst (v := 2) C dX9_undo_25 (by decide) ?_
    refine r_iald C rfl dX9_undo_26 (fun x4 => ?_)
    refine r_aload_n C dX9_undo_27 rfl rfl ?_
    refine r_get (v := .inr (47, 0)) C fl_X9_7 dX9_undo_28 rfl ?_
    refine r_iconst (v := 1) C dX9_undo_31 (by decide) ?_
    refine r_iald C rfl dX9_undo_32 (fun x5 => ?_)
    refine r_insI (As := [.inl x4, .inl x5]) (st := []) C il_X9_209 co_X9_stepAt (c_X9_stepAt x4 x5 m3) (by decide) (by decide) rfl rfl (Nat.le_of_ble_eq_true rfl) dX9_undo_33 (fun r7 m6 => ?_)
    refine r_istore_n (lv' := [some (.inr (9, 0)), some (.inl r7), none]) C dX9_undo_36 rfl (by decide) rfl ?_
    refine r_iconst (v := 0) C dX9_undo_37 (by decide) ?_
    refine r_istore_n (lv' := [some (.inr (9, 0)), some (.inl r7), some (.inl 0)]) C dX9_undo_38 rfl (by decide) rfl ?_
    refine r_j0 69 [some (.inr (9, 0)), none, none] [] (fun m8 => ?_) (fun j69 hj69 => ?_)
    · refine r_aload_n C dX9_undo_69 rfl rfl ?_
      refine r_get (v := .inr (47, 0)) C fl_X9_7 dX9_undo_70 rfl ?_
      refine r_iconst (v := 1) C dX9_undo_73 (by decide) ?_
      refine r_iald C rfl dX9_undo_74 (fun x9 => ?_)
      exact r_ireturn C dX9_undo_75
    refine r_weak (lv' := [some (.inr (9, 0)), some (.inl r7), some (.inl 0)]) ⟨rfl, rfl, rfl, trivial⟩ ?_
    refine r_l1 (pj := 39) (fun v10 => [some (.inr (9, 0)), some (.inl r7), some (.inl v10)]) (fun v10 m11 k39 hk39 => ?_) _ _ _
    unfold X9_undo_b39
    refine r_iload_n C dX9_undo_39 rfl rfl ?_
    refine r_sipush (v := 1467) C dX9_undo_40 (by decide) ?_
    refine r_icmp_ge (tgt := 69) C dX9_undo_43 (by decide) ?_ ?_
    · exact r_weak (lv' := [some (.inr (9, 0)), none, none]) ⟨rfl, trivial⟩ (hj69 _)
    refine r_aload_n C dX9_undo_46 rfl rfl ?_
    refine r_get (v := .inr (47, 0)) C fl_X9_7 dX9_undo_47 rfl ?_
    refine r_bipush (v := 36) C dX9_undo_50 (by decide) ?_
    refine r_iload_n C dX9_undo_52 rfl rfl ?_
    refine r_iadd C dX9_undo_53 ?_
    refine r_aload_n C dX9_undo_54 rfl rfl ?_
    refine r_get (v := .inr (47, 0)) C fl_X9_7 dX9_undo_55 rfl ?_
    refine r_iload_n C dX9_undo_58 rfl rfl ?_
    refine r_iload_n C dX9_undo_59 rfl rfl ?_
    refine r_iadd C dX9_undo_60 ?_
    refine r_iald C rfl dX9_undo_61 (fun x12 => ?_)
    refine r_iast C rfl dX9_undo_62 (fun m13 => ?_)
    refine r_iinc (v := 1) C dX9_undo_63 (by decide) rfl (by decide) (fun x14 => ?_)
    show gw X eI _ [some (.inr (9, 0)), some (.inl r7), some (.inl x14)] _ _ _
    refine r_goto (tgt := 39) C dX9_undo_66 (by decide) ?_
    exact r_weak (lv' := [some (.inr (9, 0)), some (.inl r7), some (.inl x14)]) ⟨rfl, rfl, rfl, trivial⟩ (hk39 _ _)
  refine r_iconst (v := (-1)) C dX9_undo_9 (by decide) ?_
  exact r_ireturn C dX9_undo_10
theorem dX9_valueOf_0 : decode cX9_valueOf 0 = .ok (.aload_n 0, 1) := by decide +kernel
theorem dX9_valueOf_1 : decode cX9_valueOf 1 = .ok (.iload_n 1, 1) := by decide +kernel
theorem dX9_valueOf_2 : decode cX9_valueOf 2 = .ok (.invokevirtual 174, 3) := by decide +kernel
theorem dX9_valueOf_5 : decode cX9_valueOf 5 = .ok (.iconst (-1), 1) := by decide +kernel
theorem dX9_valueOf_6 : decode cX9_valueOf 6 = .ok (.if_icmp .ne 16, 3) := by decide +kernel
theorem dX9_valueOf_9 : decode cX9_valueOf 9 = .ok (.aload_n 0, 1) := by decide +kernel
theorem dX9_valueOf_10 : decode cX9_valueOf 10 = .ok (.getfield 7, 3) := by decide +kernel
theorem dX9_valueOf_13 : decode cX9_valueOf 13 = .ok (.sipush 383, 3) := by decide +kernel
theorem dX9_valueOf_16 : decode cX9_valueOf 16 = .ok (.iload_n 1, 1) := by decide +kernel
theorem dX9_valueOf_17 : decode cX9_valueOf 17 = .ok (.iadd, 1) := by decide +kernel
theorem dX9_valueOf_18 : decode cX9_valueOf 18 = .ok (.iaload, 1) := by decide +kernel
theorem dX9_valueOf_19 : decode cX9_valueOf 19 = .ok (.goto 18, 3) := by decide +kernel
theorem dX9_valueOf_22 : decode cX9_valueOf 22 = .ok (.aload_n 0, 1) := by decide +kernel
theorem dX9_valueOf_23 : decode cX9_valueOf 23 = .ok (.getfield 7, 3) := by decide +kernel
theorem dX9_valueOf_26 : decode cX9_valueOf 26 = .ok (.aload_n 0, 1) := by decide +kernel
theorem dX9_valueOf_27 : decode cX9_valueOf 27 = .ok (.iload_n 1, 1) := by decide +kernel
theorem dX9_valueOf_28 : decode cX9_valueOf 28 = .ok (.invokevirtual 174, 3) := by decide +kernel
theorem dX9_valueOf_31 : decode cX9_valueOf 31 = .ok (.invokestatic 96, 3) := by decide +kernel
theorem dX9_valueOf_34 : decode cX9_valueOf 34 = .ok (.iconst 1, 1) := by decide +kernel
theorem dX9_valueOf_35 : decode cX9_valueOf 35 = .ok (.iadd, 1) := by decide +kernel
theorem dX9_valueOf_36 : decode cX9_valueOf 36 = .ok (.iaload, 1) := by decide +kernel
theorem dX9_valueOf_37 : decode cX9_valueOf 37 = .ok (.ireturn, 1) := by decide +kernel
def X9_valueOf (a1 : Int32) (m : gM) : Option (Int32 × gM) :=
  gCall (X9_placeWith a1 m) (fun (r2 : Int32) (m1 : gM) => if r2 = (-1) then (gAt m1 47 0 (383 + a1) (fun (x8 : Int32) => some (x8, m1))) else (gCall (X9_placeWith a1 m1) (fun (r4 : Int32) (m3 : gM) => gCall (X9_at r4 m3) (fun (r6 : Int32) (m5 : gM) => gAt m5 47 0 (r6 + 1) (fun (x7 : Int32) => some (x7, m5))))))
set_option maxRecDepth 100000 in
set_option maxHeartbeats 4000000 in
theorem c_X9_valueOf (a1 : Int32) (m : gM) : gCon eI yX9_valueOf cX9_valueOf 2 (some .int) 4 [.inr (9, 0), .inl a1] m (X9_valueOf a1 m) := by
  refine gCon.of (lv := [some (.inr (9, 0)), some (.inl a1)]) (by decide +kernel) (Nat.le_of_ble_eq_true rfl) rfl (fun X C => ?_)
  unfold X9_valueOf
  refine r_aload_n C dX9_valueOf_0 rfl rfl ?_
  refine r_iload_n C dX9_valueOf_1 rfl rfl ?_
  refine r_invI (t := 9) (kb := 0) (As := [.inl a1]) (st := []) C il_X9_174 co_X9_placeWith (by decide) rfl (c_X9_placeWith a1 m) (by decide) (by decide) rfl rfl (Nat.le_of_ble_eq_true rfl) dX9_valueOf_2 (fun r2 m1 => ?_)
  refine r_iconst (v := (-1)) C dX9_valueOf_5 (by decide) ?_
  refine r_icmp_ne (tgt := 22) C dX9_valueOf_6 (by decide) ?_ ?_
  · refine r_aload_n C dX9_valueOf_22 rfl rfl ?_
    refine r_get (v := .inr (47, 0)) C fl_X9_7 dX9_valueOf_23 rfl ?_
    refine r_aload_n C dX9_valueOf_26 rfl rfl ?_
    refine r_iload_n C dX9_valueOf_27 rfl rfl ?_
    refine r_invI (t := 9) (kb := 0) (As := [.inl a1]) (st := [.inr (47, 0)]) C il_X9_174 co_X9_placeWith (by decide) rfl (c_X9_placeWith a1 m1) (by decide) (by decide) rfl rfl (Nat.le_of_ble_eq_true rfl) dX9_valueOf_28 (fun r4 m3 => ?_)
    refine r_insI (As := [.inl r4]) (st := [.inr (47, 0)]) C il_X9_96 co_X9_at (c_X9_at r4 m3) (by decide) (by decide) rfl rfl (Nat.le_of_ble_eq_true rfl) dX9_valueOf_31 (fun r6 m5 => ?_)
    refine r_iconst (v := 1) C dX9_valueOf_34 (by decide) ?_
    refine r_iadd C dX9_valueOf_35 ?_
    refine r_iald C rfl dX9_valueOf_36 (fun x7 => ?_)
    exact r_ireturn C dX9_valueOf_37
  refine r_aload_n C dX9_valueOf_9 rfl rfl ?_
  refine r_get (v := .inr (47, 0)) C fl_X9_7 dX9_valueOf_10 rfl ?_
  refine r_sipush (v := 383) C dX9_valueOf_13 (by decide) ?_
  refine r_iload_n C dX9_valueOf_16 rfl rfl ?_
  refine r_iadd C dX9_valueOf_17 ?_
  refine r_iald C rfl dX9_valueOf_18 (fun x8 => ?_)
  refine r_goto (tgt := 37) C dX9_valueOf_19 (by decide) ?_
  exact r_ireturn C dX9_valueOf_37
theorem dX9_ask_0 : decode cX9_ask 0 = .ok (.iload_n 1, 1) := by decide +kernel
theorem dX9_ask_1 : decode cX9_ask 1 = .ok (.invokestatic 212, 3) := by decide +kernel
theorem dX9_ask_4 : decode cX9_ask 4 = .ok (.ifCond .ne 7, 3) := by decide +kernel
theorem dX9_ask_7 : decode cX9_ask 7 = .ok (.sipush (-10000), 3) := by decide +kernel
theorem dX9_ask_10 : decode cX9_ask 10 = .ok (.ireturn, 1) := by decide +kernel
theorem dX9_ask_11 : decode cX9_ask 11 = .ok (.aload_n 0, 1) := by decide +kernel
theorem dX9_ask_12 : decode cX9_ask 12 = .ok (.invokevirtual 215, 3) := by decide +kernel
theorem dX9_ask_15 : decode cX9_ask 15 = .ok (.aload_n 0, 1) := by decide +kernel
theorem dX9_ask_16 : decode cX9_ask 16 = .ok (.iload_n 1, 1) := by decide +kernel
theorem dX9_ask_17 : decode cX9_ask 17 = .ok (.invokevirtual 199, 3) := by decide +kernel
theorem dX9_ask_20 : decode cX9_ask 20 = .ok (.pop, 1) := by decide +kernel
theorem dX9_ask_21 : decode cX9_ask 21 = .ok (.aload_n 0, 1) := by decide +kernel
theorem dX9_ask_22 : decode cX9_ask 22 = .ok (.iload_n 1, 1) := by decide +kernel
theorem dX9_ask_23 : decode cX9_ask 23 = .ok (.invokevirtual 218, 3) := by decide +kernel
theorem dX9_ask_26 : decode cX9_ask 26 = .ok (.ireturn, 1) := by decide +kernel
def X9_ask (a1 : Int32) (m : gM) : Option (Int32 × gM) :=
  gCall (X9_isLine a1 m) (fun (r2 : Bool) (m1 : gM) => if r2 = true then (gCall (X9_keep m1) (fun (r4 : Unit) (m3 : gM) => gCall (X9_askNow a1 m3) (fun (r6 : Bool) (m5 : gM) => gCall (X9_valueOf a1 m5) (fun (r8 : Int32) (m7 : gM) => some (r8, m7))))) else (some ((-10000), m1)))
set_option maxRecDepth 100000 in
set_option maxHeartbeats 4000000 in
theorem c_X9_ask (a1 : Int32) (m : gM) : gCon eI yX9_ask cX9_ask 2 (some .int) 6 [.inr (9, 0), .inl a1] m (X9_ask a1 m) := by
  refine gCon.of (lv := [some (.inr (9, 0)), some (.inl a1)]) (by decide +kernel) (Nat.le_of_ble_eq_true rfl) rfl (fun X C => ?_)
  unfold X9_ask
  refine r_iload_n C dX9_ask_0 rfl rfl ?_
  refine r_insB (As := [.inl a1]) (st := []) C il_X9_212 co_X9_isLine (c_X9_isLine a1 m) (by decide) (by decide) rfl rfl (Nat.le_of_ble_eq_true rfl) dX9_ask_1 (fun r2 m1 => ?_)
  refine r_ifneB (tgt := 11) C dX9_ask_4 (by decide) ?_ ?_
  · refine r_aload_n C dX9_ask_11 rfl rfl ?_
    refine r_invU (t := 9) (kb := 0) (As := []) (st := []) C il_X9_215 co_X9_keep (by decide) rfl (c_X9_keep m1) (by decide) (by decide) rfl rfl (Nat.le_of_ble_eq_true rfl) dX9_ask_12 (fun r4 m3 => ?_)
    refine r_aload_n C dX9_ask_15 rfl rfl ?_
    refine r_iload_n C dX9_ask_16 rfl rfl ?_
    refine r_invB (t := 9) (kb := 0) (As := [.inl a1]) (st := []) C il_X9_199 co_X9_askNow (by decide) rfl (c_X9_askNow a1 m3) (by decide) (by decide) rfl rfl (Nat.le_of_ble_eq_true rfl) dX9_ask_17 (fun r6 m5 => ?_)
    refine r_pop C dX9_ask_20 ?_
    refine r_aload_n C dX9_ask_21 rfl rfl ?_
    refine r_iload_n C dX9_ask_22 rfl rfl ?_
    refine r_invI (t := 9) (kb := 0) (As := [.inl a1]) (st := []) C il_X9_218 co_X9_valueOf (by decide) rfl (c_X9_valueOf a1 m5) (by decide) (by decide) rfl rfl (Nat.le_of_ble_eq_true rfl) dX9_ask_23 (fun r8 m7 => ?_)
    exact r_ireturn C dX9_ask_26
  refine r_sipush (v := (-10000)) C dX9_ask_7 (by decide) ?_
  exact r_ireturn C dX9_ask_10
theorem dX9_write_0 : decode cX9_write 0 = .ok (.iload_n 1, 1) := by decide +kernel
theorem dX9_write_1 : decode cX9_write 1 = .ok (.invokestatic 212, 3) := by decide +kernel
theorem dX9_write_4 : decode cX9_write 4 = .ok (.ifCond .eq 16, 3) := by decide +kernel
theorem dX9_write_7 : decode cX9_write 7 = .ok (.iload_n 2, 1) := by decide +kernel
theorem dX9_write_8 : decode cX9_write 8 = .ok (.sipush (-9999), 3) := by decide +kernel
theorem dX9_write_11 : decode cX9_write 11 = .ok (.sipush 9999, 3) := by decide +kernel
theorem dX9_write_14 : decode cX9_write 14 = .ok (.invokestatic 77, 3) := by decide +kernel
theorem dX9_write_17 : decode cX9_write 17 = .ok (.ifCond .ne 5, 3) := by decide +kernel
theorem dX9_write_20 : decode cX9_write 20 = .ok (.iconst 0, 1) := by decide +kernel
theorem dX9_write_21 : decode cX9_write 21 = .ok (.ireturn, 1) := by decide +kernel
theorem dX9_write_22 : decode cX9_write 22 = .ok (.aload_n 0, 1) := by decide +kernel
theorem dX9_write_23 : decode cX9_write 23 = .ok (.invokevirtual 215, 3) := by decide +kernel
theorem dX9_write_26 : decode cX9_write 26 = .ok (.aload_n 0, 1) := by decide +kernel
theorem dX9_write_27 : decode cX9_write 27 = .ok (.iload_n 1, 1) := by decide +kernel
theorem dX9_write_28 : decode cX9_write 28 = .ok (.iload_n 2, 1) := by decide +kernel
theorem dX9_write_29 : decode cX9_write 29 = .ok (.invokevirtual 221, 3) := by decide +kernel
theorem dX9_write_32 : decode cX9_write 32 = .ok (.ireturn, 1) := by decide +kernel
def X9_write (a1 : Int32) (a2 : Int32) (m : gM) : Option (Bool × gM) :=
  gCall (X9_isLine a1 m) (fun (r2 : Bool) (m1 : gM) => if r2 = true then (gCall (X9_isIn a2 (-9999) 9999 m1) (fun (r4 : Bool) (m3 : gM) => if r4 = true then (gCall (X9_keep m3) (fun (r6 : Unit) (m5 : gM) => gCall (X9_writeNow a1 a2 m5) (fun (r8 : Bool) (m7 : gM) => some (r8, m7)))) else (some (false, m3)))) else (some (false, m1)))
set_option maxRecDepth 100000 in
set_option maxHeartbeats 4000000 in
theorem c_X9_write (a1 : Int32) (a2 : Int32) (m : gM) : gCon eB yX9_write cX9_write 3 (some .boolean) 7 [.inr (9, 0), .inl a1, .inl a2] m (X9_write a1 a2 m) := by
  refine gCon.of (lv := [some (.inr (9, 0)), some (.inl a1), some (.inl a2)]) (by decide +kernel) (Nat.le_of_ble_eq_true rfl) rfl (fun X C => ?_)
  unfold X9_write
  refine r_iload_n C dX9_write_0 rfl rfl ?_
  refine r_insB (As := [.inl a1]) (st := []) C il_X9_212 co_X9_isLine (c_X9_isLine a1 m) (by decide) (by decide) rfl rfl (Nat.le_of_ble_eq_true rfl) dX9_write_1 (fun r2 m1 => ?_)
  refine r_ifeqB (tgt := 20) C dX9_write_4 (by decide) ?_ ?_
  · refine r_iconst (v := 0) C dX9_write_20 (by decide) ?_
    exact r_zret0 C dX9_write_21
  refine r_iload_n C dX9_write_7 rfl rfl ?_
  refine r_sipush (v := (-9999)) C dX9_write_8 (by decide) ?_
  refine r_sipush (v := 9999) C dX9_write_11 (by decide) ?_
  refine r_insB (As := [.inl a2, .inl (-9999), .inl 9999]) (st := []) C il_X9_77 co_X9_isIn (c_X9_isIn a2 (-9999) 9999 m1) (by decide) (by decide) rfl rfl (Nat.le_of_ble_eq_true rfl) dX9_write_14 (fun r4 m3 => ?_)
  refine r_ifneB (tgt := 22) C dX9_write_17 (by decide) ?_ ?_
  · refine r_aload_n C dX9_write_22 rfl rfl ?_
    refine r_invU (t := 9) (kb := 0) (As := []) (st := []) C il_X9_215 co_X9_keep (by decide) rfl (c_X9_keep m3) (by decide) (by decide) rfl rfl (Nat.le_of_ble_eq_true rfl) dX9_write_23 (fun r6 m5 => ?_)
    refine r_aload_n C dX9_write_26 rfl rfl ?_
    refine r_iload_n C dX9_write_27 rfl rfl ?_
    refine r_iload_n C dX9_write_28 rfl rfl ?_
    refine r_invB (t := 9) (kb := 0) (As := [.inl a1, .inl a2]) (st := []) C il_X9_221 co_X9_writeNow (by decide) rfl (c_X9_writeNow a1 a2 m5) (by decide) (by decide) rfl rfl (Nat.le_of_ble_eq_true rfl) dX9_write_29 (fun r8 m7 => ?_)
    exact r_zretB C dX9_write_32
  refine r_iconst (v := 0) C dX9_write_20 (by decide) ?_
  exact r_zret0 C dX9_write_21
theorem dX9_pin_0 : decode cX9_pin 0 = .ok (.iload_n 1, 1) := by decide +kernel
theorem dX9_pin_1 : decode cX9_pin 1 = .ok (.invokestatic 212, 3) := by decide +kernel
theorem dX9_pin_4 : decode cX9_pin 4 = .ok (.ifCond .eq 40, 3) := by decide +kernel
theorem dX9_pin_7 : decode cX9_pin 7 = .ok (.aload_n 0, 1) := by decide +kernel
theorem dX9_pin_8 : decode cX9_pin 8 = .ok (.iload_n 1, 1) := by decide +kernel
theorem dX9_pin_9 : decode cX9_pin 9 = .ok (.invokevirtual 174, 3) := by decide +kernel
theorem dX9_pin_12 : decode cX9_pin 12 = .ok (.iconst (-1), 1) := by decide +kernel
theorem dX9_pin_13 : decode cX9_pin 13 = .ok (.if_icmp .eq 31, 3) := by decide +kernel
theorem dX9_pin_16 : decode cX9_pin 16 = .ok (.aload_n 0, 1) := by decide +kernel
theorem dX9_pin_17 : decode cX9_pin 17 = .ok (.getfield 7, 3) := by decide +kernel
theorem dX9_pin_20 : decode cX9_pin 20 = .ok (.aload_n 0, 1) := by decide +kernel
theorem dX9_pin_21 : decode cX9_pin 21 = .ok (.iload_n 1, 1) := by decide +kernel
theorem dX9_pin_22 : decode cX9_pin 22 = .ok (.invokevirtual 174, 3) := by decide +kernel
theorem dX9_pin_25 : decode cX9_pin 25 = .ok (.invokestatic 96, 3) := by decide +kernel
theorem dX9_pin_28 : decode cX9_pin 28 = .ok (.iconst 4, 1) := by decide +kernel
theorem dX9_pin_29 : decode cX9_pin 29 = .ok (.iadd, 1) := by decide +kernel
theorem dX9_pin_30 : decode cX9_pin 30 = .ok (.iaload, 1) := by decide +kernel
theorem dX9_pin_31 : decode cX9_pin 31 = .ok (.iconst 1, 1) := by decide +kernel
theorem dX9_pin_32 : decode cX9_pin 32 = .ok (.if_icmp .ne 7, 3) := by decide +kernel
theorem dX9_pin_35 : decode cX9_pin 35 = .ok (.iconst 1, 1) := by decide +kernel
theorem dX9_pin_36 : decode cX9_pin 36 = .ok (.goto 4, 3) := by decide +kernel
theorem dX9_pin_39 : decode cX9_pin 39 = .ok (.iconst 0, 1) := by decide +kernel
theorem dX9_pin_40 : decode cX9_pin 40 = .ok (.iload_n 2, 1) := by decide +kernel
theorem dX9_pin_41 : decode cX9_pin 41 = .ok (.if_icmp .ne 5, 3) := by decide +kernel
theorem dX9_pin_44 : decode cX9_pin 44 = .ok (.iconst 0, 1) := by decide +kernel
theorem dX9_pin_45 : decode cX9_pin 45 = .ok (.ireturn, 1) := by decide +kernel
theorem dX9_pin_46 : decode cX9_pin 46 = .ok (.aload_n 0, 1) := by decide +kernel
theorem dX9_pin_47 : decode cX9_pin 47 = .ok (.invokevirtual 215, 3) := by decide +kernel
theorem dX9_pin_50 : decode cX9_pin 50 = .ok (.aload_n 0, 1) := by decide +kernel
theorem dX9_pin_51 : decode cX9_pin 51 = .ok (.getfield 7, 3) := by decide +kernel
theorem dX9_pin_54 : decode cX9_pin 54 = .ok (.aload_n 0, 1) := by decide +kernel
theorem dX9_pin_55 : decode cX9_pin 55 = .ok (.iload_n 1, 1) := by decide +kernel
theorem dX9_pin_56 : decode cX9_pin 56 = .ok (.invokevirtual 174, 3) := by decide +kernel
theorem dX9_pin_59 : decode cX9_pin 59 = .ok (.invokestatic 96, 3) := by decide +kernel
theorem dX9_pin_62 : decode cX9_pin 62 = .ok (.iconst 4, 1) := by decide +kernel
theorem dX9_pin_63 : decode cX9_pin 63 = .ok (.iadd, 1) := by decide +kernel
theorem dX9_pin_64 : decode cX9_pin 64 = .ok (.iload_n 2, 1) := by decide +kernel
theorem dX9_pin_65 : decode cX9_pin 65 = .ok (.ifCond .eq 7, 3) := by decide +kernel
theorem dX9_pin_68 : decode cX9_pin 68 = .ok (.iconst 1, 1) := by decide +kernel
theorem dX9_pin_69 : decode cX9_pin 69 = .ok (.goto 4, 3) := by decide +kernel
theorem dX9_pin_72 : decode cX9_pin 72 = .ok (.iconst 0, 1) := by decide +kernel
theorem dX9_pin_73 : decode cX9_pin 73 = .ok (.iastore, 1) := by decide +kernel
theorem dX9_pin_74 : decode cX9_pin 74 = .ok (.iconst 1, 1) := by decide +kernel
theorem dX9_pin_75 : decode cX9_pin 75 = .ok (.ireturn, 1) := by decide +kernel
def X9_pin (a1 : Int32) (a2 : Int32) (m : gM) : Option (Bool × gM) :=
  gCall (X9_isLine a1 m) (fun (r2 : Bool) (m1 : gM) => if r2 = true then (gCall (X9_placeWith a1 m1) (fun (r4 : Int32) (m3 : gM) => if r4 = (-1) then (some (false, m3)) else (gCall (X9_placeWith a1 m3) (fun (r6 : Int32) (m5 : gM) => gCall (X9_at r6 m5) (fun (r8 : Int32) (m7 : gM) => gAt m7 47 0 (r8 + 4) (fun (x9 : Int32) => gJ1 (fun (w10 : Int32) (m11 : gM) => if w10 = a2 then (some (false, m11)) else (gCall (X9_keep m11) (fun (r13 : Unit) (m12 : gM) => gCall (X9_placeWith a1 m12) (fun (r15 : Int32) (m14 : gM) => gCall (X9_at r15 m14) (fun (r17 : Int32) (m16 : gM) => gJ1 (fun (w18 : Int32) (m19 : gM) => gPut m19 47 0 (r17 + 4) w18 (fun (m20 : gM) => some (true, m20))) (fun (j73 : Int32 → gM → Option (Bool × gM)) => if a2 = 0 then (j73 0 m16) else (j73 1 m16))))))) (fun (j40 : Int32 → gM → Option (Bool × gM)) => if x9 = 1 then (j40 1 m7) else (j40 0 m7)))))))) else (some (false, m1)))
set_option maxRecDepth 100000 in
set_option maxHeartbeats 4000000 in
theorem c_X9_pin (a1 : Int32) (a2 : Int32) (m : gM) : gCon eB yX9_pin cX9_pin 3 (some .boolean) 4 [.inr (9, 0), .inl a1, .inl a2] m (X9_pin a1 a2 m) := by
  refine gCon.of (lv := [some (.inr (9, 0)), some (.inl a1), some (.inl a2)]) (by decide +kernel) (Nat.le_of_ble_eq_true rfl) rfl (fun X C => ?_)
  unfold X9_pin
  refine r_iload_n C dX9_pin_0 rfl rfl ?_
  refine r_insB (As := [.inl a1]) (st := []) C il_X9_212 co_X9_isLine (c_X9_isLine a1 m) (by decide) (by decide) rfl rfl (Nat.le_of_ble_eq_true rfl) dX9_pin_1 (fun r2 m1 => ?_)
  refine r_ifeqB (tgt := 44) C dX9_pin_4 (by decide) ?_ ?_
  · refine r_iconst (v := 0) C dX9_pin_44 (by decide) ?_
    exact r_zret0 C dX9_pin_45
  refine r_aload_n C dX9_pin_7 rfl rfl ?_
  refine r_iload_n C dX9_pin_8 rfl rfl ?_
  refine r_invI (t := 9) (kb := 0) (As := [.inl a1]) (st := []) C il_X9_174 co_X9_placeWith (by decide) rfl (c_X9_placeWith a1 m1) (by decide) (by decide) rfl rfl (Nat.le_of_ble_eq_true rfl) dX9_pin_9 (fun r4 m3 => ?_)
  refine r_iconst (v := (-1)) C dX9_pin_12 (by decide) ?_
  refine r_icmp_eq (tgt := 44) C dX9_pin_13 (by decide) ?_ ?_
  · refine r_iconst (v := 0) C dX9_pin_44 (by decide) ?_
    exact r_zret0 C dX9_pin_45
  refine r_aload_n C dX9_pin_16 rfl rfl ?_
  refine r_get (v := .inr (47, 0)) C fl_X9_7 dX9_pin_17 rfl ?_
  refine r_aload_n C dX9_pin_20 rfl rfl ?_
  refine r_iload_n C dX9_pin_21 rfl rfl ?_
  refine r_invI (t := 9) (kb := 0) (As := [.inl a1]) (st := [.inr (47, 0)]) C il_X9_174 co_X9_placeWith (by decide) rfl (c_X9_placeWith a1 m3) (by decide) (by decide) rfl rfl (Nat.le_of_ble_eq_true rfl) dX9_pin_22 (fun r6 m5 => ?_)
  refine r_insI (As := [.inl r6]) (st := [.inr (47, 0)]) C il_X9_96 co_X9_at (c_X9_at r6 m5) (by decide) (by decide) rfl rfl (Nat.le_of_ble_eq_true rfl) dX9_pin_25 (fun r8 m7 => ?_)
  refine r_iconst (v := 4) C dX9_pin_28 (by decide) ?_
  refine r_iadd C dX9_pin_29 ?_
  refine r_iald C rfl dX9_pin_30 (fun x9 => ?_)
  refine r_iconst (v := 1) C dX9_pin_31 (by decide) ?_
  refine r_j1 40 (fun w10 => [some (.inr (9, 0)), some (.inl a1), some (.inl a2)]) (fun w10 => [.inl w10]) (fun w10 m11 => ?_) (fun j40 hj40 => ?_)
  · refine r_iload_n C dX9_pin_40 rfl rfl ?_
    refine r_icmp_ne (tgt := 46) C dX9_pin_41 (by decide) ?_ ?_
    · refine r_aload_n C dX9_pin_46 rfl rfl ?_
      refine r_invU (t := 9) (kb := 0) (As := []) (st := []) C il_X9_215 co_X9_keep (by decide) rfl (c_X9_keep m11) (by decide) (by decide) rfl rfl (Nat.le_of_ble_eq_true rfl) dX9_pin_47 (fun r13 m12 => ?_)
      refine r_aload_n C dX9_pin_50 rfl rfl ?_
      refine r_get (v := .inr (47, 0)) C fl_X9_7 dX9_pin_51 rfl ?_
      refine r_aload_n C dX9_pin_54 rfl rfl ?_
      refine r_iload_n C dX9_pin_55 rfl rfl ?_
      refine r_invI (t := 9) (kb := 0) (As := [.inl a1]) (st := [.inr (47, 0)]) C il_X9_174 co_X9_placeWith (by decide) rfl (c_X9_placeWith a1 m12) (by decide) (by decide) rfl rfl (Nat.le_of_ble_eq_true rfl) dX9_pin_56 (fun r15 m14 => ?_)
      refine r_insI (As := [.inl r15]) (st := [.inr (47, 0)]) C il_X9_96 co_X9_at (c_X9_at r15 m14) (by decide) (by decide) rfl rfl (Nat.le_of_ble_eq_true rfl) dX9_pin_59 (fun r17 m16 => ?_)
      refine r_iconst (v := 4) C dX9_pin_62 (by decide) ?_
      refine r_iadd C dX9_pin_63 ?_
      refine r_iload_n C dX9_pin_64 rfl rfl ?_
      refine r_j1 73 (fun w18 => [none, none, none]) (fun w18 => [.inl w18, .inl (r17 + 4), .inr (47, 0)]) (fun w18 m19 => ?_) (fun j73 hj73 => ?_)
      · refine r_iast C rfl dX9_pin_73 (fun m20 => ?_)
        refine r_iconst (v := 1) C dX9_pin_74 (by decide) ?_
        exact r_zret1 C dX9_pin_75
      refine r_if_eq (tgt := 72) C dX9_pin_65 (by decide) ?_ ?_
      · refine r_iconst (v := 0) C dX9_pin_72 (by decide) ?_
        exact r_weak (lv' := [none, none, none]) trivial (hj73 _ _)
      refine r_iconst (v := 1) C dX9_pin_68 (by decide) ?_
      refine r_goto (tgt := 73) C dX9_pin_69 (by decide) ?_
      exact r_weak (lv' := [none, none, none]) trivial (hj73 _ _)
    refine r_iconst (v := 0) C dX9_pin_44 (by decide) ?_
    exact r_zret0 C dX9_pin_45
  refine r_icmp_ne (tgt := 39) C dX9_pin_32 (by decide) ?_ ?_
  · refine r_iconst (v := 0) C dX9_pin_39 (by decide) ?_
    exact r_weak (lv' := [some (.inr (9, 0)), some (.inl a1), some (.inl a2)]) ⟨rfl, rfl, rfl, trivial⟩ (hj40 _ _)
  refine r_iconst (v := 1) C dX9_pin_35 (by decide) ?_
  refine r_goto (tgt := 40) C dX9_pin_36 (by decide) ?_
  exact r_weak (lv' := [some (.inr (9, 0)), some (.inl a1), some (.inl a2)]) ⟨rfl, rfl, rfl, trivial⟩ (hj40 _ _)
theorem dX9_isDirty_0 : decode cX9_isDirty 0 = .ok (.iload_n 1, 1) := by decide +kernel
theorem dX9_isDirty_1 : decode cX9_isDirty 1 = .ok (.invokestatic 212, 3) := by decide +kernel
theorem dX9_isDirty_4 : decode cX9_isDirty 4 = .ok (.ifCond .eq 35, 3) := by decide +kernel
theorem dX9_isDirty_7 : decode cX9_isDirty 7 = .ok (.aload_n 0, 1) := by decide +kernel
theorem dX9_isDirty_8 : decode cX9_isDirty 8 = .ok (.iload_n 1, 1) := by decide +kernel
theorem dX9_isDirty_9 : decode cX9_isDirty 9 = .ok (.invokevirtual 174, 3) := by decide +kernel
theorem dX9_isDirty_12 : decode cX9_isDirty 12 = .ok (.iconst (-1), 1) := by decide +kernel
theorem dX9_isDirty_13 : decode cX9_isDirty 13 = .ok (.if_icmp .eq 26, 3) := by decide +kernel
theorem dX9_isDirty_16 : decode cX9_isDirty 16 = .ok (.aload_n 0, 1) := by decide +kernel
theorem dX9_isDirty_17 : decode cX9_isDirty 17 = .ok (.getfield 7, 3) := by decide +kernel
theorem dX9_isDirty_20 : decode cX9_isDirty 20 = .ok (.aload_n 0, 1) := by decide +kernel
theorem dX9_isDirty_21 : decode cX9_isDirty 21 = .ok (.iload_n 1, 1) := by decide +kernel
theorem dX9_isDirty_22 : decode cX9_isDirty 22 = .ok (.invokevirtual 174, 3) := by decide +kernel
theorem dX9_isDirty_25 : decode cX9_isDirty 25 = .ok (.invokestatic 96, 3) := by decide +kernel
theorem dX9_isDirty_28 : decode cX9_isDirty 28 = .ok (.iconst 2, 1) := by decide +kernel
theorem dX9_isDirty_29 : decode cX9_isDirty 29 = .ok (.iadd, 1) := by decide +kernel
theorem dX9_isDirty_30 : decode cX9_isDirty 30 = .ok (.iaload, 1) := by decide +kernel
theorem dX9_isDirty_31 : decode cX9_isDirty 31 = .ok (.iconst 1, 1) := by decide +kernel
theorem dX9_isDirty_32 : decode cX9_isDirty 32 = .ok (.if_icmp .ne 7, 3) := by decide +kernel
theorem dX9_isDirty_35 : decode cX9_isDirty 35 = .ok (.iconst 1, 1) := by decide +kernel
theorem dX9_isDirty_36 : decode cX9_isDirty 36 = .ok (.goto 4, 3) := by decide +kernel
theorem dX9_isDirty_39 : decode cX9_isDirty 39 = .ok (.iconst 0, 1) := by decide +kernel
theorem dX9_isDirty_40 : decode cX9_isDirty 40 = .ok (.ireturn, 1) := by decide +kernel
def X9_isDirty (a1 : Int32) (m : gM) : Option (Bool × gM) :=
  gCall (X9_isLine a1 m) (fun (r2 : Bool) (m1 : gM) => if r2 = true then (gCall (X9_placeWith a1 m1) (fun (r4 : Int32) (m3 : gM) => if r4 = (-1) then (some (false, m3)) else (gCall (X9_placeWith a1 m3) (fun (r6 : Int32) (m5 : gM) => gCall (X9_at r6 m5) (fun (r8 : Int32) (m7 : gM) => gAt m7 47 0 (r8 + 2) (fun (x9 : Int32) => if x9 = 1 then (some (true, m7)) else (some (false, m7)))))))) else (some (false, m1)))
set_option maxRecDepth 100000 in
set_option maxHeartbeats 4000000 in
theorem c_X9_isDirty (a1 : Int32) (m : gM) : gCon eB yX9_isDirty cX9_isDirty 2 (some .boolean) 4 [.inr (9, 0), .inl a1] m (X9_isDirty a1 m) := by
  refine gCon.of (lv := [some (.inr (9, 0)), some (.inl a1)]) (by decide +kernel) (Nat.le_of_ble_eq_true rfl) rfl (fun X C => ?_)
  unfold X9_isDirty
  refine r_iload_n C dX9_isDirty_0 rfl rfl ?_
  refine r_insB (As := [.inl a1]) (st := []) C il_X9_212 co_X9_isLine (c_X9_isLine a1 m) (by decide) (by decide) rfl rfl (Nat.le_of_ble_eq_true rfl) dX9_isDirty_1 (fun r2 m1 => ?_)
  refine r_ifeqB (tgt := 39) C dX9_isDirty_4 (by decide) ?_ ?_
  · refine r_iconst (v := 0) C dX9_isDirty_39 (by decide) ?_
    exact r_zret0 C dX9_isDirty_40
  refine r_aload_n C dX9_isDirty_7 rfl rfl ?_
  refine r_iload_n C dX9_isDirty_8 rfl rfl ?_
  refine r_invI (t := 9) (kb := 0) (As := [.inl a1]) (st := []) C il_X9_174 co_X9_placeWith (by decide) rfl (c_X9_placeWith a1 m1) (by decide) (by decide) rfl rfl (Nat.le_of_ble_eq_true rfl) dX9_isDirty_9 (fun r4 m3 => ?_)
  refine r_iconst (v := (-1)) C dX9_isDirty_12 (by decide) ?_
  refine r_icmp_eq (tgt := 39) C dX9_isDirty_13 (by decide) ?_ ?_
  · refine r_iconst (v := 0) C dX9_isDirty_39 (by decide) ?_
    exact r_zret0 C dX9_isDirty_40
  refine r_aload_n C dX9_isDirty_16 rfl rfl ?_
  refine r_get (v := .inr (47, 0)) C fl_X9_7 dX9_isDirty_17 rfl ?_
  refine r_aload_n C dX9_isDirty_20 rfl rfl ?_
  refine r_iload_n C dX9_isDirty_21 rfl rfl ?_
  refine r_invI (t := 9) (kb := 0) (As := [.inl a1]) (st := [.inr (47, 0)]) C il_X9_174 co_X9_placeWith (by decide) rfl (c_X9_placeWith a1 m3) (by decide) (by decide) rfl rfl (Nat.le_of_ble_eq_true rfl) dX9_isDirty_22 (fun r6 m5 => ?_)
  refine r_insI (As := [.inl r6]) (st := [.inr (47, 0)]) C il_X9_96 co_X9_at (c_X9_at r6 m5) (by decide) (by decide) rfl rfl (Nat.le_of_ble_eq_true rfl) dX9_isDirty_25 (fun r8 m7 => ?_)
  refine r_iconst (v := 2) C dX9_isDirty_28 (by decide) ?_
  refine r_iadd C dX9_isDirty_29 ?_
  refine r_iald C rfl dX9_isDirty_30 (fun x9 => ?_)
  refine r_iconst (v := 1) C dX9_isDirty_31 (by decide) ?_
  refine r_icmp_ne (tgt := 39) C dX9_isDirty_32 (by decide) ?_ ?_
  · refine r_iconst (v := 0) C dX9_isDirty_39 (by decide) ?_
    exact r_zret0 C dX9_isDirty_40
  refine r_iconst (v := 1) C dX9_isDirty_35 (by decide) ?_
  refine r_goto (tgt := 40) C dX9_isDirty_36 (by decide) ?_
  exact r_zret1 C dX9_isDirty_40
theorem dX9_clean_0 : decode cX9_clean 0 = .ok (.aload_n 0, 1) := by decide +kernel
theorem dX9_clean_1 : decode cX9_clean 1 = .ok (.iload_n 1, 1) := by decide +kernel
theorem dX9_clean_2 : decode cX9_clean 2 = .ok (.invokevirtual 225, 3) := by decide +kernel
theorem dX9_clean_5 : decode cX9_clean 5 = .ok (.ifCond .ne 7, 3) := by decide +kernel
theorem dX9_clean_8 : decode cX9_clean 8 = .ok (.sipush (-10000), 3) := by decide +kernel
theorem dX9_clean_11 : decode cX9_clean 11 = .ok (.ireturn, 1) := by decide +kernel
theorem dX9_clean_12 : decode cX9_clean 12 = .ok (.aload_n 0, 1) := by decide +kernel
theorem dX9_clean_13 : decode cX9_clean 13 = .ok (.invokevirtual 215, 3) := by decide +kernel
theorem dX9_clean_16 : decode cX9_clean 16 = .ok (.aload_n 0, 1) := by decide +kernel
theorem dX9_clean_17 : decode cX9_clean 17 = .ok (.iload_n 1, 1) := by decide +kernel
theorem dX9_clean_18 : decode cX9_clean 18 = .ok (.invokevirtual 174, 3) := by decide +kernel
theorem dX9_clean_21 : decode cX9_clean 21 = .ok (.istore_n 2, 1) := by decide +kernel
theorem dX9_clean_22 : decode cX9_clean 22 = .ok (.aload_n 0, 1) := by decide +kernel
theorem dX9_clean_23 : decode cX9_clean 23 = .ok (.iload_n 2, 1) := by decide +kernel
theorem dX9_clean_24 : decode cX9_clean 24 = .ok (.invokevirtual 183, 3) := by decide +kernel
theorem dX9_clean_27 : decode cX9_clean 27 = .ok (.ifCond .eq 15, 3) := by decide +kernel
theorem dX9_clean_30 : decode cX9_clean 30 = .ok (.aload_n 0, 1) := by decide +kernel
theorem dX9_clean_31 : decode cX9_clean 31 = .ok (.getfield 7, 3) := by decide +kernel
theorem dX9_clean_34 : decode cX9_clean 34 = .ok (.iload_n 2, 1) := by decide +kernel
theorem dX9_clean_35 : decode cX9_clean 35 = .ok (.invokestatic 96, 3) := by decide +kernel
theorem dX9_clean_38 : decode cX9_clean 38 = .ok (.iconst 2, 1) := by decide +kernel
theorem dX9_clean_39 : decode cX9_clean 39 = .ok (.iadd, 1) := by decide +kernel
theorem dX9_clean_40 : decode cX9_clean 40 = .ok (.iconst 0, 1) := by decide +kernel
theorem dX9_clean_41 : decode cX9_clean 41 = .ok (.iastore, 1) := by decide +kernel
theorem dX9_clean_42 : decode cX9_clean 42 = .ok (.aload_n 0, 1) := by decide +kernel
theorem dX9_clean_43 : decode cX9_clean 43 = .ok (.getfield 7, 3) := by decide +kernel
theorem dX9_clean_46 : decode cX9_clean 46 = .ok (.iload_n 2, 1) := by decide +kernel
theorem dX9_clean_47 : decode cX9_clean 47 = .ok (.invokestatic 96, 3) := by decide +kernel
theorem dX9_clean_50 : decode cX9_clean 50 = .ok (.iconst 1, 1) := by decide +kernel
theorem dX9_clean_51 : decode cX9_clean 51 = .ok (.iadd, 1) := by decide +kernel
theorem dX9_clean_52 : decode cX9_clean 52 = .ok (.iaload, 1) := by decide +kernel
theorem dX9_clean_53 : decode cX9_clean 53 = .ok (.ireturn, 1) := by decide +kernel
def X9_clean (a1 : Int32) (m : gM) : Option (Int32 × gM) :=
  gCall (X9_isDirty a1 m) (fun (r2 : Bool) (m1 : gM) => if r2 = true then (gCall (X9_keep m1) (fun (r4 : Unit) (m3 : gM) => gCall (X9_placeWith a1 m3) (fun (r6 : Int32) (m5 : gM) => gCall (X9_goesBack r6 m5) (fun (r8 : Bool) (m7 : gM) => gJ0 (fun (m9 : gM) => gCall (X9_at r6 m9) (fun (r11 : Int32) (m10 : gM) => gAt m10 47 0 (r11 + 1) (fun (x12 : Int32) => some (x12, m10)))) (fun (j42 : gM → Option (Int32 × gM)) => if r8 = true then (gCall (X9_at r6 m7) (fun (r14 : Int32) (m13 : gM) => gPut m13 47 0 (r14 + 2) 0 (fun (m15 : gM) => j42 m15))) else (j42 m7)))))) else (some ((-10000), m1)))
set_option maxRecDepth 100000 in
set_option maxHeartbeats 4000000 in
theorem c_X9_clean (a1 : Int32) (m : gM) : gCon eI yX9_clean cX9_clean 3 (some .int) 5 [.inr (9, 0), .inl a1] m (X9_clean a1 m) := by
  refine gCon.of (lv := [some (.inr (9, 0)), some (.inl a1), none]) (by decide +kernel) (Nat.le_of_ble_eq_true rfl) rfl (fun X C => ?_)
  unfold X9_clean
  refine r_aload_n C dX9_clean_0 rfl rfl ?_
  refine r_iload_n C dX9_clean_1 rfl rfl ?_
  refine r_invB (t := 9) (kb := 0) (As := [.inl a1]) (st := []) C il_X9_225 co_X9_isDirty (by decide) rfl (c_X9_isDirty a1 m) (by decide) (by decide) rfl rfl (Nat.le_of_ble_eq_true rfl) dX9_clean_2 (fun r2 m1 => ?_)
  refine r_ifneB (tgt := 12) C dX9_clean_5 (by decide) ?_ ?_
  · refine r_aload_n C dX9_clean_12 rfl rfl ?_
    refine r_invU (t := 9) (kb := 0) (As := []) (st := []) C il_X9_215 co_X9_keep (by decide) rfl (c_X9_keep m1) (by decide) (by decide) rfl rfl (Nat.le_of_ble_eq_true rfl) dX9_clean_13 (fun r4 m3 => ?_)
    refine r_aload_n C dX9_clean_16 rfl rfl ?_
    refine r_iload_n C dX9_clean_17 rfl rfl ?_
    refine r_invI (t := 9) (kb := 0) (As := [.inl a1]) (st := []) C il_X9_174 co_X9_placeWith (by decide) rfl (c_X9_placeWith a1 m3) (by decide) (by decide) rfl rfl (Nat.le_of_ble_eq_true rfl) dX9_clean_18 (fun r6 m5 => ?_)
    refine r_istore_n (lv' := [some (.inr (9, 0)), some (.inl a1), some (.inl r6)]) C dX9_clean_21 rfl (by decide) rfl ?_
    refine r_aload_n C dX9_clean_22 rfl rfl ?_
    refine r_iload_n C dX9_clean_23 rfl rfl ?_
    refine r_invB (t := 9) (kb := 0) (As := [.inl r6]) (st := []) C il_X9_183 co_X9_goesBack (by decide) rfl (c_X9_goesBack r6 m5) (by decide) (by decide) rfl rfl (Nat.le_of_ble_eq_true rfl) dX9_clean_24 (fun r8 m7 => ?_)
    refine r_j0 42 [some (.inr (9, 0)), none, some (.inl r6)] [] (fun m9 => ?_) (fun j42 hj42 => ?_)
    · refine r_aload_n C dX9_clean_42 rfl rfl ?_
      refine r_get (v := .inr (47, 0)) C fl_X9_7 dX9_clean_43 rfl ?_
      refine r_iload_n C dX9_clean_46 rfl rfl ?_
      refine r_insI (As := [.inl r6]) (st := [.inr (47, 0)]) C il_X9_96 co_X9_at (c_X9_at r6 m9) (by decide) (by decide) rfl rfl (Nat.le_of_ble_eq_true rfl) dX9_clean_47 (fun r11 m10 => ?_)
      refine r_iconst (v := 1) C dX9_clean_50 (by decide) ?_
      refine r_iadd C dX9_clean_51 ?_
      refine r_iald C rfl dX9_clean_52 (fun x12 => ?_)
      exact r_ireturn C dX9_clean_53
    refine r_ifeqB (tgt := 42) C dX9_clean_27 (by decide) ?_ ?_
    · exact r_weak (lv' := [some (.inr (9, 0)), none, some (.inl r6)]) ⟨rfl, rfl, trivial⟩ (hj42 _)
    refine r_aload_n C dX9_clean_30 rfl rfl ?_
    refine r_get (v := .inr (47, 0)) C fl_X9_7 dX9_clean_31 rfl ?_
    refine r_iload_n C dX9_clean_34 rfl rfl ?_
    refine r_insI (As := [.inl r6]) (st := [.inr (47, 0)]) C il_X9_96 co_X9_at (c_X9_at r6 m7) (by decide) (by decide) rfl rfl (Nat.le_of_ble_eq_true rfl) dX9_clean_35 (fun r14 m13 => ?_)
    refine r_iconst (v := 2) C dX9_clean_38 (by decide) ?_
    refine r_iadd C dX9_clean_39 ?_
    refine r_iconst (v := 0) C dX9_clean_40 (by decide) ?_
    refine r_iast C rfl dX9_clean_41 (fun m15 => ?_)
    exact r_weak (lv' := [some (.inr (9, 0)), none, some (.inl r6)]) ⟨rfl, rfl, trivial⟩ (hj42 _)
  refine r_sipush (v := (-10000)) C dX9_clean_8 (by decide) ?_
  exact r_ireturn C dX9_clean_11
theorem dX9_leave_0 : decode cX9_leave 0 = .ok (.iload_n 1, 1) := by decide +kernel
theorem dX9_leave_1 : decode cX9_leave 1 = .ok (.invokestatic 212, 3) := by decide +kernel
theorem dX9_leave_4 : decode cX9_leave 4 = .ok (.ifCond .eq 12, 3) := by decide +kernel
theorem dX9_leave_7 : decode cX9_leave 7 = .ok (.aload_n 0, 1) := by decide +kernel
theorem dX9_leave_8 : decode cX9_leave 8 = .ok (.iload_n 1, 1) := by decide +kernel
theorem dX9_leave_9 : decode cX9_leave 9 = .ok (.invokevirtual 174, 3) := by decide +kernel
theorem dX9_leave_12 : decode cX9_leave 12 = .ok (.iconst (-1), 1) := by decide +kernel
theorem dX9_leave_13 : decode cX9_leave 13 = .ok (.if_icmp .ne 7, 3) := by decide +kernel
theorem dX9_leave_16 : decode cX9_leave 16 = .ok (.sipush (-10000), 3) := by decide +kernel
theorem dX9_leave_19 : decode cX9_leave 19 = .ok (.ireturn, 1) := by decide +kernel
theorem dX9_leave_20 : decode cX9_leave 20 = .ok (.aload_n 0, 1) := by decide +kernel
theorem dX9_leave_21 : decode cX9_leave 21 = .ok (.invokevirtual 215, 3) := by decide +kernel
theorem dX9_leave_24 : decode cX9_leave 24 = .ok (.aload_n 0, 1) := by decide +kernel
theorem dX9_leave_25 : decode cX9_leave 25 = .ok (.iload_n 1, 1) := by decide +kernel
theorem dX9_leave_26 : decode cX9_leave 26 = .ok (.invokevirtual 174, 3) := by decide +kernel
theorem dX9_leave_29 : decode cX9_leave 29 = .ok (.istore_n 2, 1) := by decide +kernel
theorem dX9_leave_30 : decode cX9_leave 30 = .ok (.aload_n 0, 1) := by decide +kernel
theorem dX9_leave_31 : decode cX9_leave 31 = .ok (.getfield 7, 3) := by decide +kernel
theorem dX9_leave_34 : decode cX9_leave 34 = .ok (.iload_n 2, 1) := by decide +kernel
theorem dX9_leave_35 : decode cX9_leave 35 = .ok (.invokestatic 96, 3) := by decide +kernel
theorem dX9_leave_38 : decode cX9_leave 38 = .ok (.iconst 1, 1) := by decide +kernel
theorem dX9_leave_39 : decode cX9_leave 39 = .ok (.iadd, 1) := by decide +kernel
theorem dX9_leave_40 : decode cX9_leave 40 = .ok (.iaload, 1) := by decide +kernel
theorem dX9_leave_41 : decode cX9_leave 41 = .ok (.istore_n 3, 1) := by decide +kernel
theorem dX9_leave_42 : decode cX9_leave 42 = .ok (.aload_n 0, 1) := by decide +kernel
theorem dX9_leave_43 : decode cX9_leave 43 = .ok (.iload_n 2, 1) := by decide +kernel
theorem dX9_leave_44 : decode cX9_leave 44 = .ok (.invokevirtual 183, 3) := by decide +kernel
theorem dX9_leave_47 : decode cX9_leave 47 = .ok (.pop, 1) := by decide +kernel
theorem dX9_leave_48 : decode cX9_leave 48 = .ok (.iconst 0, 1) := by decide +kernel
theorem dX9_leave_49 : decode cX9_leave 49 = .ok (.istore 4, 2) := by decide +kernel
theorem dX9_leave_51 : decode cX9_leave 51 = .ok (.iload 4, 2) := by decide +kernel
theorem dX9_leave_53 : decode cX9_leave 53 = .ok (.iconst 5, 1) := by decide +kernel
theorem dX9_leave_54 : decode cX9_leave 54 = .ok (.if_icmp .ge 22, 3) := by decide +kernel
theorem dX9_leave_57 : decode cX9_leave 57 = .ok (.aload_n 0, 1) := by decide +kernel
theorem dX9_leave_58 : decode cX9_leave 58 = .ok (.getfield 7, 3) := by decide +kernel
theorem dX9_leave_61 : decode cX9_leave 61 = .ok (.iload_n 2, 1) := by decide +kernel
theorem dX9_leave_62 : decode cX9_leave 62 = .ok (.invokestatic 96, 3) := by decide +kernel
theorem dX9_leave_65 : decode cX9_leave 65 = .ok (.iload 4, 2) := by decide +kernel
theorem dX9_leave_67 : decode cX9_leave 67 = .ok (.iadd, 1) := by decide +kernel
theorem dX9_leave_68 : decode cX9_leave 68 = .ok (.iconst 0, 1) := by decide +kernel
theorem dX9_leave_69 : decode cX9_leave 69 = .ok (.iastore, 1) := by decide +kernel
theorem dX9_leave_70 : decode cX9_leave 70 = .ok (.iinc 4 1, 3) := by decide +kernel
theorem dX9_leave_73 : decode cX9_leave 73 = .ok (.goto (-22), 3) := by decide +kernel
theorem dX9_leave_76 : decode cX9_leave 76 = .ok (.iload_n 3, 1) := by decide +kernel
theorem dX9_leave_77 : decode cX9_leave 77 = .ok (.ireturn, 1) := by decide +kernel
def X9_leave_b51 (r8 : Int32) (x11 : Int32) (v14 : Int32) (m15 : gM) (k51 : Int32 → gM → Option (Int32 × gM)) : Option (Int32 × gM) :=
  if 5 ≤ v14 then (some (x11, m15)) else (gCall (X9_at r8 m15) (fun (r17 : Int32) (m16 : gM) => gPut m16 47 0 (r17 + v14) 0 (fun (m18 : gM) => gLet (v14 + 1) (fun (x19 : Int32) => k51 x19 m18))))
def X9_leave (a1 : Int32) (m : gM) : Option (Int32 × gM) :=
  gCall (X9_isLine a1 m) (fun (r2 : Bool) (m1 : gM) => if r2 = true then (gCall (X9_placeWith a1 m1) (fun (r4 : Int32) (m3 : gM) => if r4 = (-1) then (some ((-10000), m3)) else (gCall (X9_keep m3) (fun (r6 : Unit) (m5 : gM) => gCall (X9_placeWith a1 m5) (fun (r8 : Int32) (m7 : gM) => gCall (X9_at r8 m7) (fun (r10 : Int32) (m9 : gM) => gAt m9 47 0 (r10 + 1) (fun (x11 : Int32) => gCall (X9_goesBack r8 m9) (fun (r13 : Bool) (m12 : gM) => gL1 FU (X9_leave_b51 r8 x11) 0 m12)))))))) else (some ((-10000), m1)))
set_option maxRecDepth 100000 in
set_option maxHeartbeats 4000000 in
theorem c_X9_leave (a1 : Int32) (m : gM) : gCon eI yX9_leave cX9_leave 5 (some .int) 4 [.inr (9, 0), .inl a1] m (X9_leave a1 m) := by
  refine gCon.of (lv := [some (.inr (9, 0)), some (.inl a1), none, none, none]) (by decide +kernel) (Nat.le_of_ble_eq_true rfl) rfl (fun X C => ?_)
  unfold X9_leave
  refine r_iload_n C dX9_leave_0 rfl rfl ?_
  refine r_insB (As := [.inl a1]) (st := []) C il_X9_212 co_X9_isLine (c_X9_isLine a1 m) (by decide) (by decide) rfl rfl (Nat.le_of_ble_eq_true rfl) dX9_leave_1 (fun r2 m1 => ?_)
  refine r_ifeqB (tgt := 16) C dX9_leave_4 (by decide) ?_ ?_
  · refine r_sipush (v := (-10000)) C dX9_leave_16 (by decide) ?_
    exact r_ireturn C dX9_leave_19
  refine r_aload_n C dX9_leave_7 rfl rfl ?_
  refine r_iload_n C dX9_leave_8 rfl rfl ?_
  refine r_invI (t := 9) (kb := 0) (As := [.inl a1]) (st := []) C il_X9_174 co_X9_placeWith (by decide) rfl (c_X9_placeWith a1 m1) (by decide) (by decide) rfl rfl (Nat.le_of_ble_eq_true rfl) dX9_leave_9 (fun r4 m3 => ?_)
  refine r_iconst (v := (-1)) C dX9_leave_12 (by decide) ?_
  refine r_icmp_ne (tgt := 20) C dX9_leave_13 (by decide) ?_ ?_
  · refine r_aload_n C dX9_leave_20 rfl rfl ?_
    refine r_invU (t := 9) (kb := 0) (As := []) (st := []) C il_X9_215 co_X9_keep (by decide) rfl (c_X9_keep m3) (by decide) (by decide) rfl rfl (Nat.le_of_ble_eq_true rfl) dX9_leave_21 (fun r6 m5 => ?_)
    refine r_aload_n C dX9_leave_24 rfl rfl ?_
    refine r_iload_n C dX9_leave_25 rfl rfl ?_
    refine r_invI (t := 9) (kb := 0) (As := [.inl a1]) (st := []) C il_X9_174 co_X9_placeWith (by decide) rfl (c_X9_placeWith a1 m5) (by decide) (by decide) rfl rfl (Nat.le_of_ble_eq_true rfl) dX9_leave_26 (fun r8 m7 => ?_)
    refine r_istore_n (lv' := [some (.inr (9, 0)), some (.inl a1), some (.inl r8), none, none]) C dX9_leave_29 rfl (by decide) rfl ?_
    refine r_aload_n C dX9_leave_30 rfl rfl ?_
    refine r_get (v := .inr (47, 0)) C fl_X9_7 dX9_leave_31 rfl ?_
    refine r_iload_n C dX9_leave_34 rfl rfl ?_
    refine r_insI (As := [.inl r8]) (st := [.inr (47, 0)]) C il_X9_96 co_X9_at (c_X9_at r8 m7) (by decide) (by decide) rfl rfl (Nat.le_of_ble_eq_true rfl) dX9_leave_35 (fun r10 m9 => ?_)
    refine r_iconst (v := 1) C dX9_leave_38 (by decide) ?_
    refine r_iadd C dX9_leave_39 ?_
    refine r_iald C rfl dX9_leave_40 (fun x11 => ?_)
    refine r_istore_n (lv' := [some (.inr (9, 0)), some (.inl a1), some (.inl r8), some (.inl x11), none]) C dX9_leave_41 rfl (by decide) rfl ?_
    refine r_aload_n C dX9_leave_42 rfl rfl ?_
    refine r_iload_n C dX9_leave_43 rfl rfl ?_
    refine r_invB (t := 9) (kb := 0) (As := [.inl r8]) (st := []) C il_X9_183 co_X9_goesBack (by decide) rfl (c_X9_goesBack r8 m9) (by decide) (by decide) rfl rfl (Nat.le_of_ble_eq_true rfl) dX9_leave_44 (fun r13 m12 => ?_)
    refine r_pop C dX9_leave_47 ?_
    refine r_iconst (v := 0) C dX9_leave_48 (by decide) ?_
    refine r_istore (lv' := [some (.inr (9, 0)), some (.inl a1), some (.inl r8), some (.inl x11), some (.inl 0)]) C dX9_leave_49 (by decide) rfl ?_
    refine r_weak (lv' := [some (.inr (9, 0)), none, some (.inl r8), some (.inl x11), some (.inl 0)]) ⟨rfl, rfl, rfl, rfl, trivial⟩ ?_
    refine r_l1 (pj := 51) (fun v14 => [some (.inr (9, 0)), none, some (.inl r8), some (.inl x11), some (.inl v14)]) (fun v14 m15 k51 hk51 => ?_) _ _ _
    unfold X9_leave_b51
    refine r_iload C dX9_leave_51 rfl ?_
    refine r_iconst (v := 5) C dX9_leave_53 (by decide) ?_
    refine r_icmp_ge (tgt := 76) C dX9_leave_54 (by decide) ?_ ?_
    · refine r_iload_n C dX9_leave_76 rfl rfl ?_
      exact r_ireturn C dX9_leave_77
    refine r_aload_n C dX9_leave_57 rfl rfl ?_
    refine r_get (v := .inr (47, 0)) C fl_X9_7 dX9_leave_58 rfl ?_
    refine r_iload_n C dX9_leave_61 rfl rfl ?_
    refine r_insI (As := [.inl r8]) (st := [.inr (47, 0)]) C il_X9_96 co_X9_at (c_X9_at r8 m15) (by decide) (by decide) rfl rfl (Nat.le_of_ble_eq_true rfl) dX9_leave_62 (fun r17 m16 => ?_)
    refine r_iload C dX9_leave_65 rfl ?_
    refine r_iadd C dX9_leave_67 ?_
    refine r_iconst (v := 0) C dX9_leave_68 (by decide) ?_
    refine r_iast C rfl dX9_leave_69 (fun m18 => ?_)
    refine r_iinc (v := 1) C dX9_leave_70 (by decide) rfl (by decide) (fun x19 => ?_)
    show gw X eI _ [some (.inr (9, 0)), none, some (.inl r8), some (.inl x11), some (.inl x19)] _ _ _
    refine r_goto (tgt := 51) C dX9_leave_73 (by decide) ?_
    exact r_weak (lv' := [some (.inr (9, 0)), none, some (.inl r8), some (.inl x11), some (.inl x19)]) ⟨rfl, rfl, rfl, rfl, trivial⟩ (hk51 _ _)
  refine r_sipush (v := (-10000)) C dX9_leave_16 (by decide) ?_
  exact r_ireturn C dX9_leave_19
theorem dX9_cool_0 : decode cX9_cool 0 = .ok (.aload_n 0, 1) := by decide +kernel
theorem dX9_cool_1 : decode cX9_cool 1 = .ok (.invokevirtual 215, 3) := by decide +kernel
theorem dX9_cool_4 : decode cX9_cool 4 = .ok (.iconst 0, 1) := by decide +kernel
theorem dX9_cool_5 : decode cX9_cool 5 = .ok (.istore_n 1, 1) := by decide +kernel
theorem dX9_cool_6 : decode cX9_cool 6 = .ok (.iconst 0, 1) := by decide +kernel
theorem dX9_cool_7 : decode cX9_cool 7 = .ok (.istore_n 2, 1) := by decide +kernel
theorem dX9_cool_8 : decode cX9_cool 8 = .ok (.iload_n 2, 1) := by decide +kernel
theorem dX9_cool_9 : decode cX9_cool 9 = .ok (.bipush 64, 2) := by decide +kernel
theorem dX9_cool_11 : decode cX9_cool 11 = .ok (.if_icmp .ge 54, 3) := by decide +kernel
theorem dX9_cool_14 : decode cX9_cool 14 = .ok (.aload_n 0, 1) := by decide +kernel
theorem dX9_cool_15 : decode cX9_cool 15 = .ok (.iload_n 2, 1) := by decide +kernel
theorem dX9_cool_16 : decode cX9_cool 16 = .ok (.invokevirtual 102, 3) := by decide +kernel
theorem dX9_cool_19 : decode cX9_cool 19 = .ok (.iconst (-1), 1) := by decide +kernel
theorem dX9_cool_20 : decode cX9_cool 20 = .ok (.if_icmp .eq 39, 3) := by decide +kernel
theorem dX9_cool_23 : decode cX9_cool 23 = .ok (.aload_n 0, 1) := by decide +kernel
theorem dX9_cool_24 : decode cX9_cool 24 = .ok (.getfield 7, 3) := by decide +kernel
theorem dX9_cool_27 : decode cX9_cool 27 = .ok (.iload_n 2, 1) := by decide +kernel
theorem dX9_cool_28 : decode cX9_cool 28 = .ok (.invokestatic 96, 3) := by decide +kernel
theorem dX9_cool_31 : decode cX9_cool 31 = .ok (.iconst 3, 1) := by decide +kernel
theorem dX9_cool_32 : decode cX9_cool 32 = .ok (.iadd, 1) := by decide +kernel
theorem dX9_cool_33 : decode cX9_cool 33 = .ok (.iaload, 1) := by decide +kernel
theorem dX9_cool_34 : decode cX9_cool 34 = .ok (.iconst 3, 1) := by decide +kernel
theorem dX9_cool_35 : decode cX9_cool 35 = .ok (.if_icmp .ne 6, 3) := by decide +kernel
theorem dX9_cool_38 : decode cX9_cool 38 = .ok (.goto 21, 3) := by decide +kernel
theorem dX9_cool_41 : decode cX9_cool 41 = .ok (.aload_n 0, 1) := by decide +kernel
theorem dX9_cool_42 : decode cX9_cool 42 = .ok (.getfield 7, 3) := by decide +kernel
theorem dX9_cool_45 : decode cX9_cool 45 = .ok (.iload_n 2, 1) := by decide +kernel
theorem dX9_cool_46 : decode cX9_cool 46 = .ok (.invokestatic 96, 3) := by decide +kernel
theorem dX9_cool_49 : decode cX9_cool 49 = .ok (.iconst 3, 1) := by decide +kernel
theorem dX9_cool_50 : decode cX9_cool 50 = .ok (.iadd, 1) := by decide +kernel
theorem dX9_cool_51 : decode cX9_cool 51 = .ok (.dup2, 1) := by decide +kernel
theorem dX9_cool_52 : decode cX9_cool 52 = .ok (.iaload, 1) := by decide +kernel
theorem dX9_cool_53 : decode cX9_cool 53 = .ok (.iconst 1, 1) := by decide +kernel
theorem dX9_cool_54 : decode cX9_cool 54 = .ok (.iadd, 1) := by decide +kernel
theorem dX9_cool_55 : decode cX9_cool 55 = .ok (.iastore, 1) := by decide +kernel
theorem dX9_cool_56 : decode cX9_cool 56 = .ok (.iinc 1 1, 3) := by decide +kernel
theorem dX9_cool_59 : decode cX9_cool 59 = .ok (.iinc 2 1, 3) := by decide +kernel
theorem dX9_cool_62 : decode cX9_cool 62 = .ok (.goto (-54), 3) := by decide +kernel
theorem dX9_cool_65 : decode cX9_cool 65 = .ok (.iload_n 1, 1) := by decide +kernel
theorem dX9_cool_66 : decode cX9_cool 66 = .ok (.ireturn, 1) := by decide +kernel
def X9_cool_b8 (v3 v4 : Int32) (m5 : gM) (k8 : Int32 → Int32 → gM → Option (Int32 × gM)) : Option (Int32 × gM) :=
  if 64 ≤ v4 then (some (v3, m5)) else (gCall (X9_lineAt v4 m5) (fun (r7 : Int32) (m6 : gM) => if r7 = (-1) then (gLet (v4 + 1) (fun (x8 : Int32) => k8 v3 x8 m6)) else (gCall (X9_at v4 m6) (fun (r10 : Int32) (m9 : gM) => gAt m9 47 0 (r10 + 3) (fun (x11 : Int32) => if x11 = 3 then (gLet (v4 + 1) (fun (x19 : Int32) => k8 v3 x19 m9)) else (gCall (X9_at v4 m9) (fun (r13 : Int32) (m12 : gM) => gLet (r13 + 3) (fun (x14 : Int32) => gAt m12 47 0 x14 (fun (x15 : Int32) => gPut m12 47 0 x14 (x15 + 1) (fun (m16 : gM) => gLet (v3 + 1) (fun (x17 : Int32) => gLet (v4 + 1) (fun (x18 : Int32) => k8 x17 x18 m16))))))))))))
def X9_cool (m : gM) : Option (Int32 × gM) :=
  gCall (X9_keep m) (fun (r2 : Unit) (m1 : gM) => gL2 FU X9_cool_b8 0 0 m1)
set_option maxRecDepth 100000 in
set_option maxHeartbeats 4000000 in
theorem c_X9_cool (m : gM) : gCon eI yX9_cool cX9_cool 3 (some .int) 2 [.inr (9, 0)] m (X9_cool m) := by
  refine gCon.of (lv := [some (.inr (9, 0)), none, none]) (by decide +kernel) (Nat.le_of_ble_eq_true rfl) rfl (fun X C => ?_)
  unfold X9_cool
  refine r_aload_n C dX9_cool_0 rfl rfl ?_
  refine r_invU (t := 9) (kb := 0) (As := []) (st := []) C il_X9_215 co_X9_keep (by decide) rfl (c_X9_keep m) (by decide) (by decide) rfl rfl (Nat.le_of_ble_eq_true rfl) dX9_cool_1 (fun r2 m1 => ?_)
  refine r_iconst (v := 0) C dX9_cool_4 (by decide) ?_
  refine r_istore_n (lv' := [some (.inr (9, 0)), some (.inl 0), none]) C dX9_cool_5 rfl (by decide) rfl ?_
  refine r_iconst (v := 0) C dX9_cool_6 (by decide) ?_
  refine r_istore_n (lv' := [some (.inr (9, 0)), some (.inl 0), some (.inl 0)]) C dX9_cool_7 rfl (by decide) rfl ?_
  refine r_weak (lv' := [some (.inr (9, 0)), some (.inl 0), some (.inl 0)]) ⟨rfl, rfl, rfl, trivial⟩ ?_
  refine r_l2 (pj := 8) (fun v3 v4 => [some (.inr (9, 0)), some (.inl v3), some (.inl v4)]) (fun v3 v4 m5 k8 hk8 => ?_) _ _ _ _
  unfold X9_cool_b8
  refine r_iload_n C dX9_cool_8 rfl rfl ?_
  refine r_bipush (v := 64) C dX9_cool_9 (by decide) ?_
  refine r_icmp_ge (tgt := 65) C dX9_cool_11 (by decide) ?_ ?_
  · refine r_iload_n C dX9_cool_65 rfl rfl ?_
    exact r_ireturn C dX9_cool_66
  refine r_aload_n C dX9_cool_14 rfl rfl ?_
  refine r_iload_n C dX9_cool_15 rfl rfl ?_
  refine r_invI (t := 9) (kb := 0) (As := [.inl v4]) (st := []) C il_X9_102 co_X9_lineAt (by decide) rfl (c_X9_lineAt v4 m5) (by decide) (by decide) rfl rfl (Nat.le_of_ble_eq_true rfl) dX9_cool_16 (fun r7 m6 => ?_)
  refine r_iconst (v := (-1)) C dX9_cool_19 (by decide) ?_
  refine r_icmp_eq (tgt := 59) C dX9_cool_20 (by decide) ?_ ?_
  · refine r_iinc (v := 1) C dX9_cool_59 (by decide) rfl (by decide) (fun x8 => ?_)
    show gw X eI _ [some (.inr (9, 0)), some (.inl v3), some (.inl x8)] _ _ _
    refine r_goto (tgt := 8) C dX9_cool_62 (by decide) ?_
    exact r_weak (lv' := [some (.inr (9, 0)), some (.inl v3), some (.inl x8)]) ⟨rfl, rfl, rfl, trivial⟩ (hk8 _ _ _)
  refine r_aload_n C dX9_cool_23 rfl rfl ?_
  refine r_get (v := .inr (47, 0)) C fl_X9_7 dX9_cool_24 rfl ?_
  refine r_iload_n C dX9_cool_27 rfl rfl ?_
  refine r_insI (As := [.inl v4]) (st := [.inr (47, 0)]) C il_X9_96 co_X9_at (c_X9_at v4 m6) (by decide) (by decide) rfl rfl (Nat.le_of_ble_eq_true rfl) dX9_cool_28 (fun r10 m9 => ?_)
  refine r_iconst (v := 3) C dX9_cool_31 (by decide) ?_
  refine r_iadd C dX9_cool_32 ?_
  refine r_iald C rfl dX9_cool_33 (fun x11 => ?_)
  refine r_iconst (v := 3) C dX9_cool_34 (by decide) ?_
  refine r_icmp_ne (tgt := 41) C dX9_cool_35 (by decide) ?_ ?_
  · refine r_aload_n C dX9_cool_41 rfl rfl ?_
    refine r_get (v := .inr (47, 0)) C fl_X9_7 dX9_cool_42 rfl ?_
    refine r_iload_n C dX9_cool_45 rfl rfl ?_
    refine r_insI (As := [.inl v4]) (st := [.inr (47, 0)]) C il_X9_96 co_X9_at (c_X9_at v4 m9) (by decide) (by decide) rfl rfl (Nat.le_of_ble_eq_true rfl) dX9_cool_46 (fun r13 m12 => ?_)
    refine r_iconst (v := 3) C dX9_cool_49 (by decide) ?_
    refine r_iadd C dX9_cool_50 ?_
    refine r_let (fun x14 => ?_)
    refine r_dup2 C dX9_cool_51 ?_
    refine r_iald C rfl dX9_cool_52 (fun x15 => ?_)
    refine r_iconst (v := 1) C dX9_cool_53 (by decide) ?_
    refine r_iadd C dX9_cool_54 ?_
    refine r_iast C rfl dX9_cool_55 (fun m16 => ?_)
    refine r_iinc (v := 1) C dX9_cool_56 (by decide) rfl (by decide) (fun x17 => ?_)
    show gw X eI _ [some (.inr (9, 0)), some (.inl x17), some (.inl v4)] _ _ _
    refine r_iinc (v := 1) C dX9_cool_59 (by decide) rfl (by decide) (fun x18 => ?_)
    show gw X eI _ [some (.inr (9, 0)), some (.inl x17), some (.inl x18)] _ _ _
    refine r_goto (tgt := 8) C dX9_cool_62 (by decide) ?_
    exact r_weak (lv' := [some (.inr (9, 0)), some (.inl x17), some (.inl x18)]) ⟨rfl, rfl, rfl, trivial⟩ (hk8 _ _ _)
  refine r_goto (tgt := 59) C dX9_cool_38 (by decide) ?_
  refine r_iinc (v := 1) C dX9_cool_59 (by decide) rfl (by decide) (fun x19 => ?_)
  show gw X eI _ [some (.inr (9, 0)), some (.inl v3), some (.inl x19)] _ _ _
  refine r_goto (tgt := 8) C dX9_cool_62 (by decide) ?_
  exact r_weak (lv' := [some (.inr (9, 0)), some (.inl v3), some (.inl x19)]) ⟨rfl, rfl, rfl, trivial⟩ (hk8 _ _ _)
theorem dX9_change_0 : decode cX9_change 0 = .ok (.aload_n 0, 1) := by decide +kernel
theorem dX9_change_1 : decode cX9_change 1 = .ok (.getfield 7, 3) := by decide +kernel
theorem dX9_change_4 : decode cX9_change 4 = .ok (.iload_n 1, 1) := by decide +kernel
theorem dX9_change_5 : decode cX9_change 5 = .ok (.iaload, 1) := by decide +kernel
theorem dX9_change_6 : decode cX9_change 6 = .ok (.istore_n 3, 1) := by decide +kernel
theorem dX9_change_7 : decode cX9_change 7 = .ok (.aload_n 0, 1) := by decide +kernel
theorem dX9_change_8 : decode cX9_change 8 = .ok (.getfield 7, 3) := by decide +kernel
theorem dX9_change_11 : decode cX9_change 11 = .ok (.iload_n 1, 1) := by decide +kernel
theorem dX9_change_12 : decode cX9_change 12 = .ok (.aload_n 0, 1) := by decide +kernel
theorem dX9_change_13 : decode cX9_change 13 = .ok (.getfield 7, 3) := by decide +kernel
theorem dX9_change_16 : decode cX9_change 16 = .ok (.iload_n 2, 1) := by decide +kernel
theorem dX9_change_17 : decode cX9_change 17 = .ok (.iaload, 1) := by decide +kernel
theorem dX9_change_18 : decode cX9_change 18 = .ok (.iastore, 1) := by decide +kernel
theorem dX9_change_19 : decode cX9_change 19 = .ok (.aload_n 0, 1) := by decide +kernel
theorem dX9_change_20 : decode cX9_change 20 = .ok (.getfield 7, 3) := by decide +kernel
theorem dX9_change_23 : decode cX9_change 23 = .ok (.iload_n 2, 1) := by decide +kernel
theorem dX9_change_24 : decode cX9_change 24 = .ok (.iload_n 3, 1) := by decide +kernel
theorem dX9_change_25 : decode cX9_change 25 = .ok (.iastore, 1) := by decide +kernel
theorem dX9_change_26 : decode cX9_change 26 = .ok (.return_, 1) := by decide +kernel
def X9_change (a1 : Int32) (a2 : Int32) (m : gM) : Option (Unit × gM) :=
  gAt m 47 0 a1 (fun (x1 : Int32) => gAt m 47 0 a2 (fun (x2 : Int32) => gPut m 47 0 a1 x2 (fun (m3 : gM) => gPut m3 47 0 a2 x1 (fun (m4 : gM) => some ((), m4)))))
set_option maxRecDepth 100000 in
set_option maxHeartbeats 4000000 in
theorem c_X9_change (a1 : Int32) (a2 : Int32) (m : gM) : gCon eU yX9_change cX9_change 4 none 0 [.inr (9, 0), .inl a1, .inl a2] m (X9_change a1 a2 m) := by
  refine gCon.of (lv := [some (.inr (9, 0)), some (.inl a1), some (.inl a2), none]) (by decide +kernel) (Nat.le_of_ble_eq_true rfl) rfl (fun X C => ?_)
  unfold X9_change
  refine r_aload_n C dX9_change_0 rfl rfl ?_
  refine r_get (v := .inr (47, 0)) C fl_X9_7 dX9_change_1 rfl ?_
  refine r_iload_n C dX9_change_4 rfl rfl ?_
  refine r_iald C rfl dX9_change_5 (fun x1 => ?_)
  refine r_istore_n (lv' := [some (.inr (9, 0)), some (.inl a1), some (.inl a2), some (.inl x1)]) C dX9_change_6 rfl (by decide) rfl ?_
  refine r_aload_n C dX9_change_7 rfl rfl ?_
  refine r_get (v := .inr (47, 0)) C fl_X9_7 dX9_change_8 rfl ?_
  refine r_iload_n C dX9_change_11 rfl rfl ?_
  refine r_aload_n C dX9_change_12 rfl rfl ?_
  refine r_get (v := .inr (47, 0)) C fl_X9_7 dX9_change_13 rfl ?_
  refine r_iload_n C dX9_change_16 rfl rfl ?_
  refine r_iald C rfl dX9_change_17 (fun x2 => ?_)
  refine r_iast C rfl dX9_change_18 (fun m3 => ?_)
  refine r_aload_n C dX9_change_19 rfl rfl ?_
  refine r_get (v := .inr (47, 0)) C fl_X9_7 dX9_change_20 rfl ?_
  refine r_iload_n C dX9_change_23 rfl rfl ?_
  refine r_iload_n C dX9_change_24 rfl rfl ?_
  refine r_iast C rfl dX9_change_25 (fun m4 => ?_)
  exact r_return C dX9_change_26
theorem dX9_trade_0 : decode cX9_trade 0 = .ok (.aload_n 0, 1) := by decide +kernel
theorem dX9_trade_1 : decode cX9_trade 1 = .ok (.iload_n 1, 1) := by decide +kernel
theorem dX9_trade_2 : decode cX9_trade 2 = .ok (.invokevirtual 228, 3) := by decide +kernel
theorem dX9_trade_5 : decode cX9_trade 5 = .ok (.ifCond .eq 16, 3) := by decide +kernel
theorem dX9_trade_8 : decode cX9_trade 8 = .ok (.aload_n 0, 1) := by decide +kernel
theorem dX9_trade_9 : decode cX9_trade 9 = .ok (.iload_n 2, 1) := by decide +kernel
theorem dX9_trade_10 : decode cX9_trade 10 = .ok (.invokevirtual 228, 3) := by decide +kernel
theorem dX9_trade_13 : decode cX9_trade 13 = .ok (.ifCond .eq 8, 3) := by decide +kernel
theorem dX9_trade_16 : decode cX9_trade 16 = .ok (.iload_n 1, 1) := by decide +kernel
theorem dX9_trade_17 : decode cX9_trade 17 = .ok (.iload_n 2, 1) := by decide +kernel
theorem dX9_trade_18 : decode cX9_trade 18 = .ok (.if_icmp .ne 5, 3) := by decide +kernel
theorem dX9_trade_21 : decode cX9_trade 21 = .ok (.iconst 0, 1) := by decide +kernel
theorem dX9_trade_22 : decode cX9_trade 22 = .ok (.ireturn, 1) := by decide +kernel
theorem dX9_trade_23 : decode cX9_trade 23 = .ok (.aload_n 0, 1) := by decide +kernel
theorem dX9_trade_24 : decode cX9_trade 24 = .ok (.invokevirtual 215, 3) := by decide +kernel
theorem dX9_trade_27 : decode cX9_trade 27 = .ok (.iconst 0, 1) := by decide +kernel
theorem dX9_trade_28 : decode cX9_trade 28 = .ok (.istore_n 3, 1) := by decide +kernel
theorem dX9_trade_29 : decode cX9_trade 29 = .ok (.iload_n 3, 1) := by decide +kernel
theorem dX9_trade_30 : decode cX9_trade 30 = .ok (.iconst 4, 1) := by decide +kernel
theorem dX9_trade_31 : decode cX9_trade 31 = .ok (.if_icmp .ge 23, 3) := by decide +kernel
theorem dX9_trade_34 : decode cX9_trade 34 = .ok (.aload_n 0, 1) := by decide +kernel
theorem dX9_trade_35 : decode cX9_trade 35 = .ok (.iload_n 1, 1) := by decide +kernel
theorem dX9_trade_36 : decode cX9_trade 36 = .ok (.iload_n 3, 1) := by decide +kernel
theorem dX9_trade_37 : decode cX9_trade 37 = .ok (.invokestatic 85, 3) := by decide +kernel
theorem dX9_trade_40 : decode cX9_trade 40 = .ok (.iload_n 2, 1) := by decide +kernel
theorem dX9_trade_41 : decode cX9_trade 41 = .ok (.iload_n 3, 1) := by decide +kernel
theorem dX9_trade_42 : decode cX9_trade 42 = .ok (.invokestatic 85, 3) := by decide +kernel
theorem dX9_trade_45 : decode cX9_trade 45 = .ok (.invokevirtual 231, 3) := by decide +kernel
theorem dX9_trade_48 : decode cX9_trade 48 = .ok (.iinc 3 1, 3) := by decide +kernel
theorem dX9_trade_51 : decode cX9_trade 51 = .ok (.goto (-22), 3) := by decide +kernel
theorem dX9_trade_54 : decode cX9_trade 54 = .ok (.iconst 0, 1) := by decide +kernel
theorem dX9_trade_55 : decode cX9_trade 55 = .ok (.istore_n 3, 1) := by decide +kernel
theorem dX9_trade_56 : decode cX9_trade 56 = .ok (.iload_n 3, 1) := by decide +kernel
theorem dX9_trade_57 : decode cX9_trade 57 = .ok (.bipush 80, 2) := by decide +kernel
theorem dX9_trade_59 : decode cX9_trade 59 = .ok (.if_icmp .ge 31, 3) := by decide +kernel
theorem dX9_trade_62 : decode cX9_trade 62 = .ok (.aload_n 0, 1) := by decide +kernel
theorem dX9_trade_63 : decode cX9_trade 63 = .ok (.bipush 16, 2) := by decide +kernel
theorem dX9_trade_65 : decode cX9_trade 65 = .ok (.iload_n 1, 1) := by decide +kernel
theorem dX9_trade_66 : decode cX9_trade 66 = .ok (.imul, 1) := by decide +kernel
theorem dX9_trade_67 : decode cX9_trade 67 = .ok (.invokestatic 96, 3) := by decide +kernel
theorem dX9_trade_70 : decode cX9_trade 70 = .ok (.iload_n 3, 1) := by decide +kernel
theorem dX9_trade_71 : decode cX9_trade 71 = .ok (.iadd, 1) := by decide +kernel
theorem dX9_trade_72 : decode cX9_trade 72 = .ok (.bipush 16, 2) := by decide +kernel
theorem dX9_trade_74 : decode cX9_trade 74 = .ok (.iload_n 2, 1) := by decide +kernel
theorem dX9_trade_75 : decode cX9_trade 75 = .ok (.imul, 1) := by decide +kernel
theorem dX9_trade_76 : decode cX9_trade 76 = .ok (.invokestatic 96, 3) := by decide +kernel
theorem dX9_trade_79 : decode cX9_trade 79 = .ok (.iload_n 3, 1) := by decide +kernel
theorem dX9_trade_80 : decode cX9_trade 80 = .ok (.iadd, 1) := by decide +kernel
theorem dX9_trade_81 : decode cX9_trade 81 = .ok (.invokevirtual 231, 3) := by decide +kernel
theorem dX9_trade_84 : decode cX9_trade 84 = .ok (.iinc 3 1, 3) := by decide +kernel
theorem dX9_trade_87 : decode cX9_trade 87 = .ok (.goto (-31), 3) := by decide +kernel
theorem dX9_trade_90 : decode cX9_trade 90 = .ok (.iconst 1, 1) := by decide +kernel
theorem dX9_trade_91 : decode cX9_trade 91 = .ok (.ireturn, 1) := by decide +kernel
def X9_trade_b56 (a1 : Int32) (a2 : Int32) (v8 : Int32) (m9 : gM) (k56 : Int32 → gM → Option (Bool × gM)) : Option (Bool × gM) :=
  if 80 ≤ v8 then (some (true, m9)) else (gCall (X9_at (16 * a1) m9) (fun (r11 : Int32) (m10 : gM) => gCall (X9_at (16 * a2) m10) (fun (r13 : Int32) (m12 : gM) => gCall (X9_change (r11 + v8) (r13 + v8) m12) (fun (r15 : Unit) (m14 : gM) => gLet (v8 + 1) (fun (x16 : Int32) => k56 x16 m14)))))
def X9_trade_b29 (a1 : Int32) (a2 : Int32) (j54 : gM → Option (Bool × gM)) (v17 : Int32) (m18 : gM) (k29 : Int32 → gM → Option (Bool × gM)) : Option (Bool × gM) :=
  if 4 ≤ v17 then (j54 m18) else (gCall (X9_maskAt a1 v17 m18) (fun (r20 : Int32) (m19 : gM) => gCall (X9_maskAt a2 v17 m19) (fun (r22 : Int32) (m21 : gM) => gCall (X9_change r20 r22 m21) (fun (r24 : Unit) (m23 : gM) => gLet (v17 + 1) (fun (x25 : Int32) => k29 x25 m23)))))
def X9_trade (a1 : Int32) (a2 : Int32) (m : gM) : Option (Bool × gM) :=
  gCall (X9_isWay a1 m) (fun (r2 : Bool) (m1 : gM) => if r2 = true then (gCall (X9_isWay a2 m1) (fun (r4 : Bool) (m3 : gM) => if r4 = true then (if a1 = a2 then (some (false, m3)) else (gCall (X9_keep m3) (fun (r6 : Unit) (m5 : gM) => gJ0 (fun (m7 : gM) => gL1 FU (X9_trade_b56 a1 a2) 0 m7) (fun (j54 : gM → Option (Bool × gM)) => gL1 FU (X9_trade_b29 a1 a2 j54) 0 m5)))) else (some (false, m3)))) else (some (false, m1)))
set_option maxRecDepth 100000 in
set_option maxHeartbeats 4000000 in
theorem c_X9_trade (a1 : Int32) (a2 : Int32) (m : gM) : gCon eB yX9_trade cX9_trade 4 (some .boolean) 2 [.inr (9, 0), .inl a1, .inl a2] m (X9_trade a1 a2 m) := by
  refine gCon.of (lv := [some (.inr (9, 0)), some (.inl a1), some (.inl a2), none]) (by decide +kernel) (Nat.le_of_ble_eq_true rfl) rfl (fun X C => ?_)
  unfold X9_trade
  refine r_aload_n C dX9_trade_0 rfl rfl ?_
  refine r_iload_n C dX9_trade_1 rfl rfl ?_
  refine r_invB (t := 9) (kb := 0) (As := [.inl a1]) (st := []) C il_X9_228 co_X9_isWay (by decide) rfl (c_X9_isWay a1 m) (by decide) (by decide) rfl rfl (Nat.le_of_ble_eq_true rfl) dX9_trade_2 (fun r2 m1 => ?_)
  refine r_ifeqB (tgt := 21) C dX9_trade_5 (by decide) ?_ ?_
  · refine r_iconst (v := 0) C dX9_trade_21 (by decide) ?_
    exact r_zret0 C dX9_trade_22
  refine r_aload_n C dX9_trade_8 rfl rfl ?_
  refine r_iload_n C dX9_trade_9 rfl rfl ?_
  refine r_invB (t := 9) (kb := 0) (As := [.inl a2]) (st := []) C il_X9_228 co_X9_isWay (by decide) rfl (c_X9_isWay a2 m1) (by decide) (by decide) rfl rfl (Nat.le_of_ble_eq_true rfl) dX9_trade_10 (fun r4 m3 => ?_)
  refine r_ifeqB (tgt := 21) C dX9_trade_13 (by decide) ?_ ?_
  · refine r_iconst (v := 0) C dX9_trade_21 (by decide) ?_
    exact r_zret0 C dX9_trade_22
  refine r_iload_n C dX9_trade_16 rfl rfl ?_
  refine r_iload_n C dX9_trade_17 rfl rfl ?_
  refine r_icmp_ne (tgt := 23) C dX9_trade_18 (by decide) ?_ ?_
  · refine r_aload_n C dX9_trade_23 rfl rfl ?_
    refine r_invU (t := 9) (kb := 0) (As := []) (st := []) C il_X9_215 co_X9_keep (by decide) rfl (c_X9_keep m3) (by decide) (by decide) rfl rfl (Nat.le_of_ble_eq_true rfl) dX9_trade_24 (fun r6 m5 => ?_)
    refine r_iconst (v := 0) C dX9_trade_27 (by decide) ?_
    refine r_istore_n (lv' := [some (.inr (9, 0)), some (.inl a1), some (.inl a2), some (.inl 0)]) C dX9_trade_28 rfl (by decide) rfl ?_
    refine r_j0 54 [some (.inr (9, 0)), some (.inl a1), some (.inl a2), none] [] (fun m7 => ?_) (fun j54 hj54 => ?_)
    · refine r_iconst (v := 0) C dX9_trade_54 (by decide) ?_
      refine r_istore_n (lv' := [some (.inr (9, 0)), some (.inl a1), some (.inl a2), some (.inl 0)]) C dX9_trade_55 rfl (by decide) rfl ?_
      refine r_weak (lv' := [some (.inr (9, 0)), some (.inl a1), some (.inl a2), some (.inl 0)]) ⟨rfl, rfl, rfl, rfl, trivial⟩ ?_
      refine r_l1 (pj := 56) (fun v8 => [some (.inr (9, 0)), some (.inl a1), some (.inl a2), some (.inl v8)]) (fun v8 m9 k56 hk56 => ?_) _ _ _
      unfold X9_trade_b56
      refine r_iload_n C dX9_trade_56 rfl rfl ?_
      refine r_bipush (v := 80) C dX9_trade_57 (by decide) ?_
      refine r_icmp_ge (tgt := 90) C dX9_trade_59 (by decide) ?_ ?_
      · refine r_iconst (v := 1) C dX9_trade_90 (by decide) ?_
        exact r_zret1 C dX9_trade_91
      refine r_aload_n C dX9_trade_62 rfl rfl ?_
      refine r_bipush (v := 16) C dX9_trade_63 (by decide) ?_
      refine r_iload_n C dX9_trade_65 rfl rfl ?_
      refine r_imul C dX9_trade_66 ?_
      refine r_insI (As := [.inl (16 * a1)]) (st := [.inr (9, 0)]) C il_X9_96 co_X9_at (c_X9_at (16 * a1) m9) (by decide) (by decide) rfl rfl (Nat.le_of_ble_eq_true rfl) dX9_trade_67 (fun r11 m10 => ?_)
      refine r_iload_n C dX9_trade_70 rfl rfl ?_
      refine r_iadd C dX9_trade_71 ?_
      refine r_bipush (v := 16) C dX9_trade_72 (by decide) ?_
      refine r_iload_n C dX9_trade_74 rfl rfl ?_
      refine r_imul C dX9_trade_75 ?_
      refine r_insI (As := [.inl (16 * a2)]) (st := [.inl (r11 + v8), .inr (9, 0)]) C il_X9_96 co_X9_at (c_X9_at (16 * a2) m10) (by decide) (by decide) rfl rfl (Nat.le_of_ble_eq_true rfl) dX9_trade_76 (fun r13 m12 => ?_)
      refine r_iload_n C dX9_trade_79 rfl rfl ?_
      refine r_iadd C dX9_trade_80 ?_
      refine r_invU (t := 9) (kb := 0) (As := [.inl (r11 + v8), .inl (r13 + v8)]) (st := []) C il_X9_231 co_X9_change (by decide) rfl (c_X9_change (r11 + v8) (r13 + v8) m12) (by decide) (by decide) rfl rfl (Nat.le_of_ble_eq_true rfl) dX9_trade_81 (fun r15 m14 => ?_)
      refine r_iinc (v := 1) C dX9_trade_84 (by decide) rfl (by decide) (fun x16 => ?_)
      show gw X eB _ [some (.inr (9, 0)), some (.inl a1), some (.inl a2), some (.inl x16)] _ _ _
      refine r_goto (tgt := 56) C dX9_trade_87 (by decide) ?_
      exact r_weak (lv' := [some (.inr (9, 0)), some (.inl a1), some (.inl a2), some (.inl x16)]) ⟨rfl, rfl, rfl, rfl, trivial⟩ (hk56 _ _)
    refine r_weak (lv' := [some (.inr (9, 0)), some (.inl a1), some (.inl a2), some (.inl 0)]) ⟨rfl, rfl, rfl, rfl, trivial⟩ ?_
    refine r_l1 (pj := 29) (fun v17 => [some (.inr (9, 0)), some (.inl a1), some (.inl a2), some (.inl v17)]) (fun v17 m18 k29 hk29 => ?_) _ _ _
    unfold X9_trade_b29
    refine r_iload_n C dX9_trade_29 rfl rfl ?_
    refine r_iconst (v := 4) C dX9_trade_30 (by decide) ?_
    refine r_icmp_ge (tgt := 54) C dX9_trade_31 (by decide) ?_ ?_
    · exact r_weak (lv' := [some (.inr (9, 0)), some (.inl a1), some (.inl a2), none]) ⟨rfl, rfl, rfl, trivial⟩ (hj54 _)
    refine r_aload_n C dX9_trade_34 rfl rfl ?_
    refine r_iload_n C dX9_trade_35 rfl rfl ?_
    refine r_iload_n C dX9_trade_36 rfl rfl ?_
    refine r_insI (As := [.inl a1, .inl v17]) (st := [.inr (9, 0)]) C il_X9_85 co_X9_maskAt (c_X9_maskAt a1 v17 m18) (by decide) (by decide) rfl rfl (Nat.le_of_ble_eq_true rfl) dX9_trade_37 (fun r20 m19 => ?_)
    refine r_iload_n C dX9_trade_40 rfl rfl ?_
    refine r_iload_n C dX9_trade_41 rfl rfl ?_
    refine r_insI (As := [.inl a2, .inl v17]) (st := [.inl r20, .inr (9, 0)]) C il_X9_85 co_X9_maskAt (c_X9_maskAt a2 v17 m19) (by decide) (by decide) rfl rfl (Nat.le_of_ble_eq_true rfl) dX9_trade_42 (fun r22 m21 => ?_)
    refine r_invU (t := 9) (kb := 0) (As := [.inl r20, .inl r22]) (st := []) C il_X9_231 co_X9_change (by decide) rfl (c_X9_change r20 r22 m21) (by decide) (by decide) rfl rfl (Nat.le_of_ble_eq_true rfl) dX9_trade_45 (fun r24 m23 => ?_)
    refine r_iinc (v := 1) C dX9_trade_48 (by decide) rfl (by decide) (fun x25 => ?_)
    show gw X eB _ [some (.inr (9, 0)), some (.inl a1), some (.inl a2), some (.inl x25)] _ _ _
    refine r_goto (tgt := 29) C dX9_trade_51 (by decide) ?_
    exact r_weak (lv' := [some (.inr (9, 0)), some (.inl a1), some (.inl a2), some (.inl x25)]) ⟨rfl, rfl, rfl, rfl, trivial⟩ (hk29 _ _)
  refine r_iconst (v := 0) C dX9_trade_21 (by decide) ?_
  exact r_zret0 C dX9_trade_22
theorem dX9_empty_0 : decode cX9_empty 0 = .ok (.aload_n 0, 1) := by decide +kernel
theorem dX9_empty_1 : decode cX9_empty 1 = .ok (.invokevirtual 215, 3) := by decide +kernel
theorem dX9_empty_4 : decode cX9_empty 4 = .ok (.aload_n 0, 1) := by decide +kernel
theorem dX9_empty_5 : decode cX9_empty 5 = .ok (.invokevirtual 234, 3) := by decide +kernel
theorem dX9_empty_8 : decode cX9_empty 8 = .ok (.ireturn, 1) := by decide +kernel
def X9_empty (m : gM) : Option (Int32 × gM) :=
  gCall (X9_keep m) (fun (r2 : Unit) (m1 : gM) => gCall (X9_emptyNow m1) (fun (r4 : Int32) (m3 : gM) => some (r4, m3)))
set_option maxRecDepth 100000 in
set_option maxHeartbeats 4000000 in
theorem c_X9_empty (m : gM) : gCon eI yX9_empty cX9_empty 1 (some .int) 4 [.inr (9, 0)] m (X9_empty m) := by
  refine gCon.of (lv := [some (.inr (9, 0))]) (by decide +kernel) (Nat.le_of_ble_eq_true rfl) rfl (fun X C => ?_)
  unfold X9_empty
  refine r_aload_n C dX9_empty_0 rfl rfl ?_
  refine r_invU (t := 9) (kb := 0) (As := []) (st := []) C il_X9_215 co_X9_keep (by decide) rfl (c_X9_keep m) (by decide) (by decide) rfl rfl (Nat.le_of_ble_eq_true rfl) dX9_empty_1 (fun r2 m1 => ?_)
  refine r_aload_n C dX9_empty_4 rfl rfl ?_
  refine r_invI (t := 9) (kb := 0) (As := []) (st := []) C il_X9_234 co_X9_emptyNow (by decide) rfl (c_X9_emptyNow m1) (by decide) (by decide) rfl rfl (Nat.le_of_ble_eq_true rfl) dX9_empty_5 (fun r4 m3 => ?_)
  exact r_ireturn C dX9_empty_8
theorem dX9_shape_0 : decode cX9_shape 0 = .ok (.iload_n 1, 1) := by decide +kernel
theorem dX9_shape_1 : decode cX9_shape 1 = .ok (.iconst 1, 1) := by decide +kernel
theorem dX9_shape_2 : decode cX9_shape 2 = .ok (.iconst 4, 1) := by decide +kernel
theorem dX9_shape_3 : decode cX9_shape 3 = .ok (.invokestatic 77, 3) := by decide +kernel
theorem dX9_shape_6 : decode cX9_shape 6 = .ok (.ifCond .eq 12, 3) := by decide +kernel
theorem dX9_shape_9 : decode cX9_shape 9 = .ok (.iload_n 2, 1) := by decide +kernel
theorem dX9_shape_10 : decode cX9_shape 10 = .ok (.iconst 1, 1) := by decide +kernel
theorem dX9_shape_11 : decode cX9_shape 11 = .ok (.iconst 4, 1) := by decide +kernel
theorem dX9_shape_12 : decode cX9_shape 12 = .ok (.invokestatic 77, 3) := by decide +kernel
theorem dX9_shape_15 : decode cX9_shape 15 = .ok (.ifCond .ne 5, 3) := by decide +kernel
theorem dX9_shape_18 : decode cX9_shape 18 = .ok (.iconst (-1), 1) := by decide +kernel
theorem dX9_shape_19 : decode cX9_shape 19 = .ok (.ireturn, 1) := by decide +kernel
theorem dX9_shape_20 : decode cX9_shape 20 = .ok (.aload_n 0, 1) := by decide +kernel
theorem dX9_shape_21 : decode cX9_shape 21 = .ok (.invokevirtual 215, 3) := by decide +kernel
theorem dX9_shape_24 : decode cX9_shape 24 = .ok (.aload_n 0, 1) := by decide +kernel
theorem dX9_shape_25 : decode cX9_shape 25 = .ok (.invokevirtual 234, 3) := by decide +kernel
theorem dX9_shape_28 : decode cX9_shape 28 = .ok (.istore_n 3, 1) := by decide +kernel
theorem dX9_shape_29 : decode cX9_shape 29 = .ok (.aload_n 0, 1) := by decide +kernel
theorem dX9_shape_30 : decode cX9_shape 30 = .ok (.getfield 7, 3) := by decide +kernel
theorem dX9_shape_33 : decode cX9_shape 33 = .ok (.bipush 36, 2) := by decide +kernel
theorem dX9_shape_35 : decode cX9_shape 35 = .ok (.iload_n 1, 1) := by decide +kernel
theorem dX9_shape_36 : decode cX9_shape 36 = .ok (.iastore, 1) := by decide +kernel
theorem dX9_shape_37 : decode cX9_shape 37 = .ok (.aload_n 0, 1) := by decide +kernel
theorem dX9_shape_38 : decode cX9_shape 38 = .ok (.getfield 7, 3) := by decide +kernel
theorem dX9_shape_41 : decode cX9_shape 41 = .ok (.bipush 37, 2) := by decide +kernel
theorem dX9_shape_43 : decode cX9_shape 43 = .ok (.iload_n 2, 1) := by decide +kernel
theorem dX9_shape_44 : decode cX9_shape 44 = .ok (.iastore, 1) := by decide +kernel
theorem dX9_shape_45 : decode cX9_shape 45 = .ok (.iconst 0, 1) := by decide +kernel
theorem dX9_shape_46 : decode cX9_shape 46 = .ok (.istore 4, 2) := by decide +kernel
theorem dX9_shape_48 : decode cX9_shape 48 = .ok (.iload 4, 2) := by decide +kernel
theorem dX9_shape_50 : decode cX9_shape 50 = .ok (.bipush 16, 2) := by decide +kernel
theorem dX9_shape_52 : decode cX9_shape 52 = .ok (.if_icmp .ge 20, 3) := by decide +kernel
theorem dX9_shape_55 : decode cX9_shape 55 = .ok (.aload_n 0, 1) := by decide +kernel
theorem dX9_shape_56 : decode cX9_shape 56 = .ok (.getfield 7, 3) := by decide +kernel
theorem dX9_shape_59 : decode cX9_shape 59 = .ok (.bipush 47, 2) := by decide +kernel
theorem dX9_shape_61 : decode cX9_shape 61 = .ok (.iload 4, 2) := by decide +kernel
theorem dX9_shape_63 : decode cX9_shape 63 = .ok (.iadd, 1) := by decide +kernel
theorem dX9_shape_64 : decode cX9_shape 64 = .ok (.iconst 0, 1) := by decide +kernel
theorem dX9_shape_65 : decode cX9_shape 65 = .ok (.iastore, 1) := by decide +kernel
theorem dX9_shape_66 : decode cX9_shape 66 = .ok (.iinc 4 1, 3) := by decide +kernel
theorem dX9_shape_69 : decode cX9_shape 69 = .ok (.goto (-21), 3) := by decide +kernel
theorem dX9_shape_72 : decode cX9_shape 72 = .ok (.aload_n 0, 1) := by decide +kernel
theorem dX9_shape_73 : decode cX9_shape 73 = .ok (.iconst 0, 1) := by decide +kernel
theorem dX9_shape_74 : decode cX9_shape 74 = .ok (.invokevirtual 69, 3) := by decide +kernel
theorem dX9_shape_77 : decode cX9_shape 77 = .ok (.aload_n 0, 1) := by decide +kernel
theorem dX9_shape_78 : decode cX9_shape 78 = .ok (.invokevirtual 237, 3) := by decide +kernel
theorem dX9_shape_81 : decode cX9_shape 81 = .ok (.ireturn, 1) := by decide +kernel
def X9_shape_b48 (j72 : gM → Option (Int32 × gM)) (v16 : Int32) (m17 : gM) (k48 : Int32 → gM → Option (Int32 × gM)) : Option (Int32 × gM) :=
  if 16 ≤ v16 then (j72 m17) else (gPut m17 47 0 (47 + v16) 0 (fun (m18 : gM) => gLet (v16 + 1) (fun (x19 : Int32) => k48 x19 m18)))
def X9_shape (a1 : Int32) (a2 : Int32) (m : gM) : Option (Int32 × gM) :=
  gCall (X9_isIn a1 1 4 m) (fun (r2 : Bool) (m1 : gM) => if r2 = true then (gCall (X9_isIn a2 1 4 m1) (fun (r4 : Bool) (m3 : gM) => if r4 = true then (gCall (X9_keep m3) (fun (r6 : Unit) (m5 : gM) => gCall (X9_emptyNow m5) (fun (r8 : Int32) (m7 : gM) => gPut m7 47 0 36 a1 (fun (m9 : gM) => gPut m9 47 0 37 a2 (fun (m10 : gM) => gJ0 (fun (m11 : gM) => gCall (X9_layFamily 0 m11) (fun (r13 : Unit) (m12 : gM) => gCall (X9_slotsAll m12) (fun (r15 : Int32) (m14 : gM) => some (r15, m14)))) (fun (j72 : gM → Option (Int32 × gM)) => gL1 FU (X9_shape_b48 j72) 0 m10)))))) else (some ((-1), m3)))) else (some ((-1), m1)))
set_option maxRecDepth 100000 in
set_option maxHeartbeats 4000000 in
theorem c_X9_shape (a1 : Int32) (a2 : Int32) (m : gM) : gCon eI yX9_shape cX9_shape 5 (some .int) 4 [.inr (9, 0), .inl a1, .inl a2] m (X9_shape a1 a2 m) := by
  refine gCon.of (lv := [some (.inr (9, 0)), some (.inl a1), some (.inl a2), none, none]) (by decide +kernel) (Nat.le_of_ble_eq_true rfl) rfl (fun X C => ?_)
  unfold X9_shape
  refine r_iload_n C dX9_shape_0 rfl rfl ?_
  refine r_iconst (v := 1) C dX9_shape_1 (by decide) ?_
  refine r_iconst (v := 4) C dX9_shape_2 (by decide) ?_
  refine r_insB (As := [.inl a1, .inl 1, .inl 4]) (st := []) C il_X9_77 co_X9_isIn (c_X9_isIn a1 1 4 m) (by decide) (by decide) rfl rfl (Nat.le_of_ble_eq_true rfl) dX9_shape_3 (fun r2 m1 => ?_)
  refine r_ifeqB (tgt := 18) C dX9_shape_6 (by decide) ?_ ?_
  · refine r_iconst (v := (-1)) C dX9_shape_18 (by decide) ?_
    exact r_ireturn C dX9_shape_19
  refine r_iload_n C dX9_shape_9 rfl rfl ?_
  refine r_iconst (v := 1) C dX9_shape_10 (by decide) ?_
  refine r_iconst (v := 4) C dX9_shape_11 (by decide) ?_
  refine r_insB (As := [.inl a2, .inl 1, .inl 4]) (st := []) C il_X9_77 co_X9_isIn (c_X9_isIn a2 1 4 m1) (by decide) (by decide) rfl rfl (Nat.le_of_ble_eq_true rfl) dX9_shape_12 (fun r4 m3 => ?_)
  refine r_ifneB (tgt := 20) C dX9_shape_15 (by decide) ?_ ?_
  · refine r_aload_n C dX9_shape_20 rfl rfl ?_
    refine r_invU (t := 9) (kb := 0) (As := []) (st := []) C il_X9_215 co_X9_keep (by decide) rfl (c_X9_keep m3) (by decide) (by decide) rfl rfl (Nat.le_of_ble_eq_true rfl) dX9_shape_21 (fun r6 m5 => ?_)
    refine r_aload_n C dX9_shape_24 rfl rfl ?_
    refine r_invI (t := 9) (kb := 0) (As := []) (st := []) C il_X9_234 co_X9_emptyNow (by decide) rfl (c_X9_emptyNow m5) (by decide) (by decide) rfl rfl (Nat.le_of_ble_eq_true rfl) dX9_shape_25 (fun r8 m7 => ?_)
    refine r_istore_n (lv' := [some (.inr (9, 0)), some (.inl a1), some (.inl a2), some (.inl r8), none]) C dX9_shape_28 rfl (by decide) rfl ?_
    refine r_aload_n C dX9_shape_29 rfl rfl ?_
    refine r_get (v := .inr (47, 0)) C fl_X9_7 dX9_shape_30 rfl ?_
    refine r_bipush (v := 36) C dX9_shape_33 (by decide) ?_
    refine r_iload_n C dX9_shape_35 rfl rfl ?_
    refine r_iast C rfl dX9_shape_36 (fun m9 => ?_)
    refine r_aload_n C dX9_shape_37 rfl rfl ?_
    refine r_get (v := .inr (47, 0)) C fl_X9_7 dX9_shape_38 rfl ?_
    refine r_bipush (v := 37) C dX9_shape_41 (by decide) ?_
    refine r_iload_n C dX9_shape_43 rfl rfl ?_
    refine r_iast C rfl dX9_shape_44 (fun m10 => ?_)
    refine r_iconst (v := 0) C dX9_shape_45 (by decide) ?_
    refine r_istore (lv' := [some (.inr (9, 0)), some (.inl a1), some (.inl a2), some (.inl r8), some (.inl 0)]) C dX9_shape_46 (by decide) rfl ?_
    refine r_j0 72 [some (.inr (9, 0)), none, none, none, none] [] (fun m11 => ?_) (fun j72 hj72 => ?_)
    · refine r_aload_n C dX9_shape_72 rfl rfl ?_
      refine r_iconst (v := 0) C dX9_shape_73 (by decide) ?_
      refine r_invU (t := 9) (kb := 0) (As := [.inl 0]) (st := []) C il_X9_69 co_X9_layFamily (by decide) rfl (c_X9_layFamily 0 m11) (by decide) (by decide) rfl rfl (Nat.le_of_ble_eq_true rfl) dX9_shape_74 (fun r13 m12 => ?_)
      refine r_aload_n C dX9_shape_77 rfl rfl ?_
      refine r_invI (t := 9) (kb := 0) (As := []) (st := []) C il_X9_237 co_X9_slotsAll (by decide) rfl (c_X9_slotsAll m12) (by decide) (by decide) rfl rfl (Nat.le_of_ble_eq_true rfl) dX9_shape_78 (fun r15 m14 => ?_)
      exact r_ireturn C dX9_shape_81
    refine r_weak (lv' := [some (.inr (9, 0)), none, none, none, some (.inl 0)]) ⟨rfl, rfl, trivial⟩ ?_
    refine r_l1 (pj := 48) (fun v16 => [some (.inr (9, 0)), none, none, none, some (.inl v16)]) (fun v16 m17 k48 hk48 => ?_) _ _ _
    unfold X9_shape_b48
    refine r_iload C dX9_shape_48 rfl ?_
    refine r_bipush (v := 16) C dX9_shape_50 (by decide) ?_
    refine r_icmp_ge (tgt := 72) C dX9_shape_52 (by decide) ?_ ?_
    · exact r_weak (lv' := [some (.inr (9, 0)), none, none, none, none]) ⟨rfl, trivial⟩ (hj72 _)
    refine r_aload_n C dX9_shape_55 rfl rfl ?_
    refine r_get (v := .inr (47, 0)) C fl_X9_7 dX9_shape_56 rfl ?_
    refine r_bipush (v := 47) C dX9_shape_59 (by decide) ?_
    refine r_iload C dX9_shape_61 rfl ?_
    refine r_iadd C dX9_shape_63 ?_
    refine r_iconst (v := 0) C dX9_shape_64 (by decide) ?_
    refine r_iast C rfl dX9_shape_65 (fun m18 => ?_)
    refine r_iinc (v := 1) C dX9_shape_66 (by decide) rfl (by decide) (fun x19 => ?_)
    show gw X eI _ [some (.inr (9, 0)), none, none, none, some (.inl x19)] _ _ _
    refine r_goto (tgt := 48) C dX9_shape_69 (by decide) ?_
    exact r_weak (lv' := [some (.inr (9, 0)), none, none, none, some (.inl x19)]) ⟨rfl, rfl, trivial⟩ (hk48 _ _)
  refine r_iconst (v := (-1)) C dX9_shape_18 (by decide) ?_
  exact r_ireturn C dX9_shape_19
theorem dX9_family_0 : decode cX9_family 0 = .ok (.iload_n 1, 1) := by decide +kernel
theorem dX9_family_1 : decode cX9_family 1 = .ok (.iconst 0, 1) := by decide +kernel
theorem dX9_family_2 : decode cX9_family 2 = .ok (.iconst 2, 1) := by decide +kernel
theorem dX9_family_3 : decode cX9_family 3 = .ok (.invokestatic 77, 3) := by decide +kernel
theorem dX9_family_6 : decode cX9_family 6 = .ok (.ifCond .ne 5, 3) := by decide +kernel
theorem dX9_family_9 : decode cX9_family 9 = .ok (.iconst (-1), 1) := by decide +kernel
theorem dX9_family_10 : decode cX9_family 10 = .ok (.ireturn, 1) := by decide +kernel
theorem dX9_family_11 : decode cX9_family 11 = .ok (.aload_n 0, 1) := by decide +kernel
theorem dX9_family_12 : decode cX9_family 12 = .ok (.invokevirtual 215, 3) := by decide +kernel
theorem dX9_family_15 : decode cX9_family 15 = .ok (.aload_n 0, 1) := by decide +kernel
theorem dX9_family_16 : decode cX9_family 16 = .ok (.invokevirtual 234, 3) := by decide +kernel
theorem dX9_family_19 : decode cX9_family 19 = .ok (.istore_n 2, 1) := by decide +kernel
theorem dX9_family_20 : decode cX9_family 20 = .ok (.aload_n 0, 1) := by decide +kernel
theorem dX9_family_21 : decode cX9_family 21 = .ok (.iload_n 1, 1) := by decide +kernel
theorem dX9_family_22 : decode cX9_family 22 = .ok (.invokevirtual 69, 3) := by decide +kernel
theorem dX9_family_25 : decode cX9_family 25 = .ok (.aload_n 0, 1) := by decide +kernel
theorem dX9_family_26 : decode cX9_family 26 = .ok (.iconst 1, 1) := by decide +kernel
theorem dX9_family_27 : decode cX9_family 27 = .ok (.aload_n 0, 1) := by decide +kernel
theorem dX9_family_28 : decode cX9_family 28 = .ok (.getfield 7, 3) := by decide +kernel
theorem dX9_family_31 : decode cX9_family 31 = .ok (.bipush 36, 2) := by decide +kernel
theorem dX9_family_33 : decode cX9_family 33 = .ok (.iaload, 1) := by decide +kernel
theorem dX9_family_34 : decode cX9_family 34 = .ok (.ishl, 1) := by decide +kernel
theorem dX9_family_35 : decode cX9_family 35 = .ok (.iconst 1, 1) := by decide +kernel
theorem dX9_family_36 : decode cX9_family 36 = .ok (.isub, 1) := by decide +kernel
theorem dX9_family_37 : decode cX9_family 37 = .ok (.invokevirtual 240, 3) := by decide +kernel
theorem dX9_family_40 : decode cX9_family 40 = .ok (.ireturn, 1) := by decide +kernel
def X9_family (a1 : Int32) (m : gM) : Option (Int32 × gM) :=
  gCall (X9_isIn a1 0 2 m) (fun (r2 : Bool) (m1 : gM) => if r2 = true then (gCall (X9_keep m1) (fun (r4 : Unit) (m3 : gM) => gCall (X9_emptyNow m3) (fun (r6 : Int32) (m5 : gM) => gCall (X9_layFamily a1 m5) (fun (r8 : Unit) (m7 : gM) => gAt m7 47 0 36 (fun (x9 : Int32) => gCall (X9_rankOf ((1 <<< (x9 &&& 31)) - 1) m7) (fun (r11 : Int32) (m10 : gM) => some (r11, m10))))))) else (some ((-1), m1)))
set_option maxRecDepth 100000 in
set_option maxHeartbeats 4000000 in
theorem c_X9_family (a1 : Int32) (m : gM) : gCon eI yX9_family cX9_family 3 (some .int) 4 [.inr (9, 0), .inl a1] m (X9_family a1 m) := by
  refine gCon.of (lv := [some (.inr (9, 0)), some (.inl a1), none]) (by decide +kernel) (Nat.le_of_ble_eq_true rfl) rfl (fun X C => ?_)
  unfold X9_family
  refine r_iload_n C dX9_family_0 rfl rfl ?_
  refine r_iconst (v := 0) C dX9_family_1 (by decide) ?_
  refine r_iconst (v := 2) C dX9_family_2 (by decide) ?_
  refine r_insB (As := [.inl a1, .inl 0, .inl 2]) (st := []) C il_X9_77 co_X9_isIn (c_X9_isIn a1 0 2 m) (by decide) (by decide) rfl rfl (Nat.le_of_ble_eq_true rfl) dX9_family_3 (fun r2 m1 => ?_)
  refine r_ifneB (tgt := 11) C dX9_family_6 (by decide) ?_ ?_
  · refine r_aload_n C dX9_family_11 rfl rfl ?_
    refine r_invU (t := 9) (kb := 0) (As := []) (st := []) C il_X9_215 co_X9_keep (by decide) rfl (c_X9_keep m1) (by decide) (by decide) rfl rfl (Nat.le_of_ble_eq_true rfl) dX9_family_12 (fun r4 m3 => ?_)
    refine r_aload_n C dX9_family_15 rfl rfl ?_
    refine r_invI (t := 9) (kb := 0) (As := []) (st := []) C il_X9_234 co_X9_emptyNow (by decide) rfl (c_X9_emptyNow m3) (by decide) (by decide) rfl rfl (Nat.le_of_ble_eq_true rfl) dX9_family_16 (fun r6 m5 => ?_)
    refine r_istore_n (lv' := [some (.inr (9, 0)), some (.inl a1), some (.inl r6)]) C dX9_family_19 rfl (by decide) rfl ?_
    refine r_aload_n C dX9_family_20 rfl rfl ?_
    refine r_iload_n C dX9_family_21 rfl rfl ?_
    refine r_invU (t := 9) (kb := 0) (As := [.inl a1]) (st := []) C il_X9_69 co_X9_layFamily (by decide) rfl (c_X9_layFamily a1 m5) (by decide) (by decide) rfl rfl (Nat.le_of_ble_eq_true rfl) dX9_family_22 (fun r8 m7 => ?_)
    refine r_aload_n C dX9_family_25 rfl rfl ?_
    refine r_iconst (v := 1) C dX9_family_26 (by decide) ?_
    refine r_aload_n C dX9_family_27 rfl rfl ?_
    refine r_get (v := .inr (47, 0)) C fl_X9_7 dX9_family_28 rfl ?_
    refine r_bipush (v := 36) C dX9_family_31 (by decide) ?_
    refine r_iald C rfl dX9_family_33 (fun x9 => ?_)
    refine r_ishl C dX9_family_34 ?_
    refine r_iconst (v := 1) C dX9_family_35 (by decide) ?_
    refine r_isub C dX9_family_36 ?_
    refine r_invI (t := 9) (kb := 0) (As := [.inl ((1 <<< (x9 &&& 31)) - 1)]) (st := []) C il_X9_240 co_X9_rankOf (by decide) rfl (c_X9_rankOf ((1 <<< (x9 &&& 31)) - 1) m7) (by decide) (by decide) rfl rfl (Nat.le_of_ble_eq_true rfl) dX9_family_37 (fun r11 m10 => ?_)
    exact r_ireturn C dX9_family_40
  refine r_iconst (v := (-1)) C dX9_family_9 (by decide) ?_
  exact r_ireturn C dX9_family_10
theorem dX9_isBit_0 : decode cX9_isBit 0 = .ok (.aload_n 0, 1) := by decide +kernel
theorem dX9_isBit_1 : decode cX9_isBit 1 = .ok (.iload_n 1, 1) := by decide +kernel
theorem dX9_isBit_2 : decode cX9_isBit 2 = .ok (.invokevirtual 228, 3) := by decide +kernel
theorem dX9_isBit_5 : decode cX9_isBit 5 = .ok (.ifCond .eq 24, 3) := by decide +kernel
theorem dX9_isBit_8 : decode cX9_isBit 8 = .ok (.iload_n 2, 1) := by decide +kernel
theorem dX9_isBit_9 : decode cX9_isBit 9 = .ok (.iconst 0, 1) := by decide +kernel
theorem dX9_isBit_10 : decode cX9_isBit 10 = .ok (.aload_n 0, 1) := by decide +kernel
theorem dX9_isBit_11 : decode cX9_isBit 11 = .ok (.getfield 7, 3) := by decide +kernel
theorem dX9_isBit_14 : decode cX9_isBit 14 = .ok (.bipush 37, 2) := by decide +kernel
theorem dX9_isBit_16 : decode cX9_isBit 16 = .ok (.iaload, 1) := by decide +kernel
theorem dX9_isBit_17 : decode cX9_isBit 17 = .ok (.iconst 1, 1) := by decide +kernel
theorem dX9_isBit_18 : decode cX9_isBit 18 = .ok (.isub, 1) := by decide +kernel
theorem dX9_isBit_19 : decode cX9_isBit 19 = .ok (.invokestatic 77, 3) := by decide +kernel
theorem dX9_isBit_22 : decode cX9_isBit 22 = .ok (.ifCond .eq 7, 3) := by decide +kernel
theorem dX9_isBit_25 : decode cX9_isBit 25 = .ok (.iconst 1, 1) := by decide +kernel
theorem dX9_isBit_26 : decode cX9_isBit 26 = .ok (.goto 4, 3) := by decide +kernel
theorem dX9_isBit_29 : decode cX9_isBit 29 = .ok (.iconst 0, 1) := by decide +kernel
theorem dX9_isBit_30 : decode cX9_isBit 30 = .ok (.ireturn, 1) := by decide +kernel
def X9_isBit (a1 : Int32) (a2 : Int32) (m : gM) : Option (Bool × gM) :=
  gCall (X9_isWay a1 m) (fun (r2 : Bool) (m1 : gM) => if r2 = true then (gAt m1 47 0 37 (fun (x3 : Int32) => gCall (X9_isIn a2 0 (x3 - 1) m1) (fun (r5 : Bool) (m4 : gM) => if r5 = true then (some (true, m4)) else (some (false, m4))))) else (some (false, m1)))
set_option maxRecDepth 100000 in
set_option maxHeartbeats 4000000 in
theorem c_X9_isBit (a1 : Int32) (a2 : Int32) (m : gM) : gCon eB yX9_isBit cX9_isBit 3 (some .boolean) 2 [.inr (9, 0), .inl a1, .inl a2] m (X9_isBit a1 a2 m) := by
  refine gCon.of (lv := [some (.inr (9, 0)), some (.inl a1), some (.inl a2)]) (by decide +kernel) (Nat.le_of_ble_eq_true rfl) rfl (fun X C => ?_)
  unfold X9_isBit
  refine r_aload_n C dX9_isBit_0 rfl rfl ?_
  refine r_iload_n C dX9_isBit_1 rfl rfl ?_
  refine r_invB (t := 9) (kb := 0) (As := [.inl a1]) (st := []) C il_X9_228 co_X9_isWay (by decide) rfl (c_X9_isWay a1 m) (by decide) (by decide) rfl rfl (Nat.le_of_ble_eq_true rfl) dX9_isBit_2 (fun r2 m1 => ?_)
  refine r_ifeqB (tgt := 29) C dX9_isBit_5 (by decide) ?_ ?_
  · refine r_iconst (v := 0) C dX9_isBit_29 (by decide) ?_
    exact r_zret0 C dX9_isBit_30
  refine r_iload_n C dX9_isBit_8 rfl rfl ?_
  refine r_iconst (v := 0) C dX9_isBit_9 (by decide) ?_
  refine r_aload_n C dX9_isBit_10 rfl rfl ?_
  refine r_get (v := .inr (47, 0)) C fl_X9_7 dX9_isBit_11 rfl ?_
  refine r_bipush (v := 37) C dX9_isBit_14 (by decide) ?_
  refine r_iald C rfl dX9_isBit_16 (fun x3 => ?_)
  refine r_iconst (v := 1) C dX9_isBit_17 (by decide) ?_
  refine r_isub C dX9_isBit_18 ?_
  refine r_insB (As := [.inl a2, .inl 0, .inl (x3 - 1)]) (st := []) C il_X9_77 co_X9_isIn (c_X9_isIn a2 0 (x3 - 1) m1) (by decide) (by decide) rfl rfl (Nat.le_of_ble_eq_true rfl) dX9_isBit_19 (fun r5 m4 => ?_)
  refine r_ifeqB (tgt := 29) C dX9_isBit_22 (by decide) ?_ ?_
  · refine r_iconst (v := 0) C dX9_isBit_29 (by decide) ?_
    exact r_zret0 C dX9_isBit_30
  refine r_iconst (v := 1) C dX9_isBit_25 (by decide) ?_
  refine r_goto (tgt := 30) C dX9_isBit_26 (by decide) ?_
  exact r_zret1 C dX9_isBit_30
theorem dX9_mask_0 : decode cX9_mask 0 = .ok (.aload_n 0, 1) := by decide +kernel
theorem dX9_mask_1 : decode cX9_mask 1 = .ok (.iload_n 1, 1) := by decide +kernel
theorem dX9_mask_2 : decode cX9_mask 2 = .ok (.iload_n 2, 1) := by decide +kernel
theorem dX9_mask_3 : decode cX9_mask 3 = .ok (.invokevirtual 243, 3) := by decide +kernel
theorem dX9_mask_6 : decode cX9_mask 6 = .ok (.ifCond .eq 14, 3) := by decide +kernel
theorem dX9_mask_9 : decode cX9_mask 9 = .ok (.iload_n 3, 1) := by decide +kernel
theorem dX9_mask_10 : decode cX9_mask 10 = .ok (.iconst 0, 1) := by decide +kernel
theorem dX9_mask_11 : decode cX9_mask 11 = .ok (.sipush 1023, 3) := by decide +kernel
theorem dX9_mask_14 : decode cX9_mask 14 = .ok (.invokestatic 77, 3) := by decide +kernel
theorem dX9_mask_17 : decode cX9_mask 17 = .ok (.ifCond .ne 5, 3) := by decide +kernel
theorem dX9_mask_20 : decode cX9_mask 20 = .ok (.iconst (-1), 1) := by decide +kernel
theorem dX9_mask_21 : decode cX9_mask 21 = .ok (.ireturn, 1) := by decide +kernel
theorem dX9_mask_22 : decode cX9_mask 22 = .ok (.aload_n 0, 1) := by decide +kernel
theorem dX9_mask_23 : decode cX9_mask 23 = .ok (.invokevirtual 215, 3) := by decide +kernel
theorem dX9_mask_26 : decode cX9_mask 26 = .ok (.aload_n 0, 1) := by decide +kernel
theorem dX9_mask_27 : decode cX9_mask 27 = .ok (.invokevirtual 234, 3) := by decide +kernel
theorem dX9_mask_30 : decode cX9_mask 30 = .ok (.istore 4, 2) := by decide +kernel
theorem dX9_mask_32 : decode cX9_mask 32 = .ok (.aload_n 0, 1) := by decide +kernel
theorem dX9_mask_33 : decode cX9_mask 33 = .ok (.getfield 7, 3) := by decide +kernel
theorem dX9_mask_36 : decode cX9_mask 36 = .ok (.iload_n 1, 1) := by decide +kernel
theorem dX9_mask_37 : decode cX9_mask 37 = .ok (.iload_n 2, 1) := by decide +kernel
theorem dX9_mask_38 : decode cX9_mask 38 = .ok (.invokestatic 85, 3) := by decide +kernel
theorem dX9_mask_41 : decode cX9_mask 41 = .ok (.iload_n 3, 1) := by decide +kernel
theorem dX9_mask_42 : decode cX9_mask 42 = .ok (.iastore, 1) := by decide +kernel
theorem dX9_mask_43 : decode cX9_mask 43 = .ok (.aload_n 0, 1) := by decide +kernel
theorem dX9_mask_44 : decode cX9_mask 44 = .ok (.iconst 1, 1) := by decide +kernel
theorem dX9_mask_45 : decode cX9_mask 45 = .ok (.iload_n 1, 1) := by decide +kernel
theorem dX9_mask_46 : decode cX9_mask 46 = .ok (.ishl, 1) := by decide +kernel
theorem dX9_mask_47 : decode cX9_mask 47 = .ok (.invokevirtual 240, 3) := by decide +kernel
theorem dX9_mask_50 : decode cX9_mask 50 = .ok (.ireturn, 1) := by decide +kernel
def X9_mask (a1 : Int32) (a2 : Int32) (a3 : Int32) (m : gM) : Option (Int32 × gM) :=
  gCall (X9_isBit a1 a2 m) (fun (r2 : Bool) (m1 : gM) => if r2 = true then (gCall (X9_isIn a3 0 1023 m1) (fun (r4 : Bool) (m3 : gM) => if r4 = true then (gCall (X9_keep m3) (fun (r6 : Unit) (m5 : gM) => gCall (X9_emptyNow m5) (fun (r8 : Int32) (m7 : gM) => gCall (X9_maskAt a1 a2 m7) (fun (r10 : Int32) (m9 : gM) => gPut m9 47 0 r10 a3 (fun (m11 : gM) => gCall (X9_rankOf (1 <<< (a1 &&& 31)) m11) (fun (r13 : Int32) (m12 : gM) => some (r13, m12))))))) else (some ((-1), m3)))) else (some ((-1), m1)))
set_option maxRecDepth 100000 in
set_option maxHeartbeats 4000000 in
theorem c_X9_mask (a1 : Int32) (a2 : Int32) (a3 : Int32) (m : gM) : gCon eI yX9_mask cX9_mask 5 (some .int) 4 [.inr (9, 0), .inl a1, .inl a2, .inl a3] m (X9_mask a1 a2 a3 m) := by
  refine gCon.of (lv := [some (.inr (9, 0)), some (.inl a1), some (.inl a2), some (.inl a3), none]) (by decide +kernel) (Nat.le_of_ble_eq_true rfl) rfl (fun X C => ?_)
  unfold X9_mask
  refine r_aload_n C dX9_mask_0 rfl rfl ?_
  refine r_iload_n C dX9_mask_1 rfl rfl ?_
  refine r_iload_n C dX9_mask_2 rfl rfl ?_
  refine r_invB (t := 9) (kb := 0) (As := [.inl a1, .inl a2]) (st := []) C il_X9_243 co_X9_isBit (by decide) rfl (c_X9_isBit a1 a2 m) (by decide) (by decide) rfl rfl (Nat.le_of_ble_eq_true rfl) dX9_mask_3 (fun r2 m1 => ?_)
  refine r_ifeqB (tgt := 20) C dX9_mask_6 (by decide) ?_ ?_
  · refine r_iconst (v := (-1)) C dX9_mask_20 (by decide) ?_
    exact r_ireturn C dX9_mask_21
  refine r_iload_n C dX9_mask_9 rfl rfl ?_
  refine r_iconst (v := 0) C dX9_mask_10 (by decide) ?_
  refine r_sipush (v := 1023) C dX9_mask_11 (by decide) ?_
  refine r_insB (As := [.inl a3, .inl 0, .inl 1023]) (st := []) C il_X9_77 co_X9_isIn (c_X9_isIn a3 0 1023 m1) (by decide) (by decide) rfl rfl (Nat.le_of_ble_eq_true rfl) dX9_mask_14 (fun r4 m3 => ?_)
  refine r_ifneB (tgt := 22) C dX9_mask_17 (by decide) ?_ ?_
  · refine r_aload_n C dX9_mask_22 rfl rfl ?_
    refine r_invU (t := 9) (kb := 0) (As := []) (st := []) C il_X9_215 co_X9_keep (by decide) rfl (c_X9_keep m3) (by decide) (by decide) rfl rfl (Nat.le_of_ble_eq_true rfl) dX9_mask_23 (fun r6 m5 => ?_)
    refine r_aload_n C dX9_mask_26 rfl rfl ?_
    refine r_invI (t := 9) (kb := 0) (As := []) (st := []) C il_X9_234 co_X9_emptyNow (by decide) rfl (c_X9_emptyNow m5) (by decide) (by decide) rfl rfl (Nat.le_of_ble_eq_true rfl) dX9_mask_27 (fun r8 m7 => ?_)
    refine r_istore (lv' := [some (.inr (9, 0)), some (.inl a1), some (.inl a2), some (.inl a3), some (.inl r8)]) C dX9_mask_30 (by decide) rfl ?_
    refine r_aload_n C dX9_mask_32 rfl rfl ?_
    refine r_get (v := .inr (47, 0)) C fl_X9_7 dX9_mask_33 rfl ?_
    refine r_iload_n C dX9_mask_36 rfl rfl ?_
    refine r_iload_n C dX9_mask_37 rfl rfl ?_
    refine r_insI (As := [.inl a1, .inl a2]) (st := [.inr (47, 0)]) C il_X9_85 co_X9_maskAt (c_X9_maskAt a1 a2 m7) (by decide) (by decide) rfl rfl (Nat.le_of_ble_eq_true rfl) dX9_mask_38 (fun r10 m9 => ?_)
    refine r_iload_n C dX9_mask_41 rfl rfl ?_
    refine r_iast C rfl dX9_mask_42 (fun m11 => ?_)
    refine r_aload_n C dX9_mask_43 rfl rfl ?_
    refine r_iconst (v := 1) C dX9_mask_44 (by decide) ?_
    refine r_iload_n C dX9_mask_45 rfl rfl ?_
    refine r_ishl C dX9_mask_46 ?_
    refine r_invI (t := 9) (kb := 0) (As := [.inl (1 <<< (a1 &&& 31))]) (st := []) C il_X9_240 co_X9_rankOf (by decide) rfl (c_X9_rankOf (1 <<< (a1 &&& 31)) m11) (by decide) (by decide) rfl rfl (Nat.le_of_ble_eq_true rfl) dX9_mask_47 (fun r13 m12 => ?_)
    exact r_ireturn C dX9_mask_50
  refine r_iconst (v := (-1)) C dX9_mask_20 (by decide) ?_
  exact r_ireturn C dX9_mask_21
theorem dX9_depth_0 : decode cX9_depth 0 = .ok (.iload_n 1, 1) := by decide +kernel
theorem dX9_depth_1 : decode cX9_depth 1 = .ok (.iconst 0, 1) := by decide +kernel
theorem dX9_depth_2 : decode cX9_depth 2 = .ok (.iconst 3, 1) := by decide +kernel
theorem dX9_depth_3 : decode cX9_depth 3 = .ok (.invokestatic 77, 3) := by decide +kernel
theorem dX9_depth_6 : decode cX9_depth 6 = .ok (.ifCond .ne 5, 3) := by decide +kernel
theorem dX9_depth_9 : decode cX9_depth 9 = .ok (.iconst 0, 1) := by decide +kernel
theorem dX9_depth_10 : decode cX9_depth 10 = .ok (.ireturn, 1) := by decide +kernel
theorem dX9_depth_11 : decode cX9_depth 11 = .ok (.aload_n 0, 1) := by decide +kernel
theorem dX9_depth_12 : decode cX9_depth 12 = .ok (.invokevirtual 215, 3) := by decide +kernel
theorem dX9_depth_15 : decode cX9_depth 15 = .ok (.aload_n 0, 1) := by decide +kernel
theorem dX9_depth_16 : decode cX9_depth 16 = .ok (.getfield 7, 3) := by decide +kernel
theorem dX9_depth_19 : decode cX9_depth 19 = .ok (.bipush 38, 2) := by decide +kernel
theorem dX9_depth_21 : decode cX9_depth 21 = .ok (.iload_n 1, 1) := by decide +kernel
theorem dX9_depth_22 : decode cX9_depth 22 = .ok (.iastore, 1) := by decide +kernel
theorem dX9_depth_23 : decode cX9_depth 23 = .ok (.iconst 1, 1) := by decide +kernel
theorem dX9_depth_24 : decode cX9_depth 24 = .ok (.ireturn, 1) := by decide +kernel
def X9_depth (a1 : Int32) (m : gM) : Option (Bool × gM) :=
  gCall (X9_isIn a1 0 3 m) (fun (r2 : Bool) (m1 : gM) => if r2 = true then (gCall (X9_keep m1) (fun (r4 : Unit) (m3 : gM) => gPut m3 47 0 38 a1 (fun (m5 : gM) => some (true, m5)))) else (some (false, m1)))
set_option maxRecDepth 100000 in
set_option maxHeartbeats 4000000 in
theorem c_X9_depth (a1 : Int32) (m : gM) : gCon eB yX9_depth cX9_depth 2 (some .boolean) 2 [.inr (9, 0), .inl a1] m (X9_depth a1 m) := by
  refine gCon.of (lv := [some (.inr (9, 0)), some (.inl a1)]) (by decide +kernel) (Nat.le_of_ble_eq_true rfl) rfl (fun X C => ?_)
  unfold X9_depth
  refine r_iload_n C dX9_depth_0 rfl rfl ?_
  refine r_iconst (v := 0) C dX9_depth_1 (by decide) ?_
  refine r_iconst (v := 3) C dX9_depth_2 (by decide) ?_
  refine r_insB (As := [.inl a1, .inl 0, .inl 3]) (st := []) C il_X9_77 co_X9_isIn (c_X9_isIn a1 0 3 m) (by decide) (by decide) rfl rfl (Nat.le_of_ble_eq_true rfl) dX9_depth_3 (fun r2 m1 => ?_)
  refine r_ifneB (tgt := 11) C dX9_depth_6 (by decide) ?_ ?_
  · refine r_aload_n C dX9_depth_11 rfl rfl ?_
    refine r_invU (t := 9) (kb := 0) (As := []) (st := []) C il_X9_215 co_X9_keep (by decide) rfl (c_X9_keep m1) (by decide) (by decide) rfl rfl (Nat.le_of_ble_eq_true rfl) dX9_depth_12 (fun r4 m3 => ?_)
    refine r_aload_n C dX9_depth_15 rfl rfl ?_
    refine r_get (v := .inr (47, 0)) C fl_X9_7 dX9_depth_16 rfl ?_
    refine r_bipush (v := 38) C dX9_depth_19 (by decide) ?_
    refine r_iload_n C dX9_depth_21 rfl rfl ?_
    refine r_iast C rfl dX9_depth_22 (fun m5 => ?_)
    refine r_iconst (v := 1) C dX9_depth_23 (by decide) ?_
    exact r_zret1 C dX9_depth_24
  refine r_iconst (v := 0) C dX9_depth_9 (by decide) ?_
  exact r_zret0 C dX9_depth_10
theorem dX9_isTrace_0 : decode cX9_isTrace 0 = .ok (.iload_n 1, 1) := by decide +kernel
theorem dX9_isTrace_1 : decode cX9_isTrace 1 = .ok (.iconst 0, 1) := by decide +kernel
theorem dX9_isTrace_2 : decode cX9_isTrace 2 = .ok (.aload_n 0, 1) := by decide +kernel
theorem dX9_isTrace_3 : decode cX9_isTrace 3 = .ok (.getfield 7, 3) := by decide +kernel
theorem dX9_isTrace_6 : decode cX9_isTrace 6 = .ok (.iconst 0, 1) := by decide +kernel
theorem dX9_isTrace_7 : decode cX9_isTrace 7 = .ok (.iaload, 1) := by decide +kernel
theorem dX9_isTrace_8 : decode cX9_isTrace 8 = .ok (.iconst 1, 1) := by decide +kernel
theorem dX9_isTrace_9 : decode cX9_isTrace 9 = .ok (.isub, 1) := by decide +kernel
theorem dX9_isTrace_10 : decode cX9_isTrace 10 = .ok (.invokestatic 77, 3) := by decide +kernel
theorem dX9_isTrace_13 : decode cX9_isTrace 13 = .ok (.ireturn, 1) := by decide +kernel
def X9_isTrace (a1 : Int32) (m : gM) : Option (Bool × gM) :=
  gAt m 47 0 0 (fun (x1 : Int32) => gCall (X9_isIn a1 0 (x1 - 1) m) (fun (r3 : Bool) (m2 : gM) => some (r3, m2)))
set_option maxRecDepth 100000 in
set_option maxHeartbeats 4000000 in
theorem c_X9_isTrace (a1 : Int32) (m : gM) : gCon eB yX9_isTrace cX9_isTrace 2 (some .boolean) 1 [.inr (9, 0), .inl a1] m (X9_isTrace a1 m) := by
  refine gCon.of (lv := [some (.inr (9, 0)), some (.inl a1)]) (by decide +kernel) (Nat.le_of_ble_eq_true rfl) rfl (fun X C => ?_)
  unfold X9_isTrace
  refine r_iload_n C dX9_isTrace_0 rfl rfl ?_
  refine r_iconst (v := 0) C dX9_isTrace_1 (by decide) ?_
  refine r_aload_n C dX9_isTrace_2 rfl rfl ?_
  refine r_get (v := .inr (47, 0)) C fl_X9_7 dX9_isTrace_3 rfl ?_
  refine r_iconst (v := 0) C dX9_isTrace_6 (by decide) ?_
  refine r_iald C rfl dX9_isTrace_7 (fun x1 => ?_)
  refine r_iconst (v := 1) C dX9_isTrace_8 (by decide) ?_
  refine r_isub C dX9_isTrace_9 ?_
  refine r_insB (As := [.inl a1, .inl 0, .inl (x1 - 1)]) (st := []) C il_X9_77 co_X9_isIn (c_X9_isIn a1 0 (x1 - 1) m) (by decide) (by decide) rfl rfl (Nat.le_of_ble_eq_true rfl) dX9_isTrace_10 (fun r3 m2 => ?_)
  exact r_zretB C dX9_isTrace_13
theorem dX9_lengthOf_0 : decode cX9_lengthOf 0 = .ok (.aload_n 0, 1) := by decide +kernel
theorem dX9_lengthOf_1 : decode cX9_lengthOf 1 = .ok (.getfield 16, 3) := by decide +kernel
theorem dX9_lengthOf_4 : decode cX9_lengthOf 4 = .ok (.sipush 1201, 3) := by decide +kernel
theorem dX9_lengthOf_7 : decode cX9_lengthOf 7 = .ok (.iload_n 1, 1) := by decide +kernel
theorem dX9_lengthOf_8 : decode cX9_lengthOf 8 = .ok (.imul, 1) := by decide +kernel
theorem dX9_lengthOf_9 : decode cX9_lengthOf 9 = .ok (.iaload, 1) := by decide +kernel
theorem dX9_lengthOf_10 : decode cX9_lengthOf 10 = .ok (.ireturn, 1) := by decide +kernel
def X9_lengthOf (a1 : Int32) (m : gM) : Option (Int32 × gM) :=
  gAt m 49 0 (1201 * a1) (fun (x1 : Int32) => some (x1, m))
set_option maxRecDepth 100000 in
set_option maxHeartbeats 4000000 in
theorem c_X9_lengthOf (a1 : Int32) (m : gM) : gCon eI yX9_lengthOf cX9_lengthOf 2 (some .int) 0 [.inr (9, 0), .inl a1] m (X9_lengthOf a1 m) := by
  refine gCon.of (lv := [some (.inr (9, 0)), some (.inl a1)]) (by decide +kernel) (Nat.le_of_ble_eq_true rfl) rfl (fun X C => ?_)
  unfold X9_lengthOf
  refine r_aload_n C dX9_lengthOf_0 rfl rfl ?_
  refine r_get (v := .inr (49, 0)) C fl_X9_16 dX9_lengthOf_1 rfl ?_
  refine r_sipush (v := 1201) C dX9_lengthOf_4 (by decide) ?_
  refine r_iload_n C dX9_lengthOf_7 rfl rfl ?_
  refine r_imul C dX9_lengthOf_8 ?_
  refine r_iald C rfl dX9_lengthOf_9 (fun x1 => ?_)
  exact r_ireturn C dX9_lengthOf_10
theorem dX9_lineOf_0 : decode cX9_lineOf 0 = .ok (.aload_n 0, 1) := by decide +kernel
theorem dX9_lineOf_1 : decode cX9_lineOf 1 = .ok (.getfield 16, 3) := by decide +kernel
theorem dX9_lineOf_4 : decode cX9_lineOf 4 = .ok (.sipush 1201, 3) := by decide +kernel
theorem dX9_lineOf_7 : decode cX9_lineOf 7 = .ok (.iload_n 1, 1) := by decide +kernel
theorem dX9_lineOf_8 : decode cX9_lineOf 8 = .ok (.imul, 1) := by decide +kernel
theorem dX9_lineOf_9 : decode cX9_lineOf 9 = .ok (.iconst 1, 1) := by decide +kernel
theorem dX9_lineOf_10 : decode cX9_lineOf 10 = .ok (.iadd, 1) := by decide +kernel
theorem dX9_lineOf_11 : decode cX9_lineOf 11 = .ok (.iconst 2, 1) := by decide +kernel
theorem dX9_lineOf_12 : decode cX9_lineOf 12 = .ok (.iload_n 2, 1) := by decide +kernel
theorem dX9_lineOf_13 : decode cX9_lineOf 13 = .ok (.imul, 1) := by decide +kernel
theorem dX9_lineOf_14 : decode cX9_lineOf 14 = .ok (.iadd, 1) := by decide +kernel
theorem dX9_lineOf_15 : decode cX9_lineOf 15 = .ok (.iaload, 1) := by decide +kernel
theorem dX9_lineOf_16 : decode cX9_lineOf 16 = .ok (.ireturn, 1) := by decide +kernel
def X9_lineOf (a1 : Int32) (a2 : Int32) (m : gM) : Option (Int32 × gM) :=
  gAt m 49 0 (((1201 * a1) + 1) + (2 * a2)) (fun (x1 : Int32) => some (x1, m))
set_option maxRecDepth 100000 in
set_option maxHeartbeats 4000000 in
theorem c_X9_lineOf (a1 : Int32) (a2 : Int32) (m : gM) : gCon eI yX9_lineOf cX9_lineOf 3 (some .int) 0 [.inr (9, 0), .inl a1, .inl a2] m (X9_lineOf a1 a2 m) := by
  refine gCon.of (lv := [some (.inr (9, 0)), some (.inl a1), some (.inl a2)]) (by decide +kernel) (Nat.le_of_ble_eq_true rfl) rfl (fun X C => ?_)
  unfold X9_lineOf
  refine r_aload_n C dX9_lineOf_0 rfl rfl ?_
  refine r_get (v := .inr (49, 0)) C fl_X9_16 dX9_lineOf_1 rfl ?_
  refine r_sipush (v := 1201) C dX9_lineOf_4 (by decide) ?_
  refine r_iload_n C dX9_lineOf_7 rfl rfl ?_
  refine r_imul C dX9_lineOf_8 ?_
  refine r_iconst (v := 1) C dX9_lineOf_9 (by decide) ?_
  refine r_iadd C dX9_lineOf_10 ?_
  refine r_iconst (v := 2) C dX9_lineOf_11 (by decide) ?_
  refine r_iload_n C dX9_lineOf_12 rfl rfl ?_
  refine r_imul C dX9_lineOf_13 ?_
  refine r_iadd C dX9_lineOf_14 ?_
  refine r_iald C rfl dX9_lineOf_15 (fun x1 => ?_)
  exact r_ireturn C dX9_lineOf_16
theorem dX9_valueIn_0 : decode cX9_valueIn 0 = .ok (.aload_n 0, 1) := by decide +kernel
theorem dX9_valueIn_1 : decode cX9_valueIn 1 = .ok (.getfield 16, 3) := by decide +kernel
theorem dX9_valueIn_4 : decode cX9_valueIn 4 = .ok (.sipush 1201, 3) := by decide +kernel
theorem dX9_valueIn_7 : decode cX9_valueIn 7 = .ok (.iload_n 1, 1) := by decide +kernel
theorem dX9_valueIn_8 : decode cX9_valueIn 8 = .ok (.imul, 1) := by decide +kernel
theorem dX9_valueIn_9 : decode cX9_valueIn 9 = .ok (.iconst 2, 1) := by decide +kernel
theorem dX9_valueIn_10 : decode cX9_valueIn 10 = .ok (.iadd, 1) := by decide +kernel
theorem dX9_valueIn_11 : decode cX9_valueIn 11 = .ok (.iconst 2, 1) := by decide +kernel
theorem dX9_valueIn_12 : decode cX9_valueIn 12 = .ok (.iload_n 2, 1) := by decide +kernel
theorem dX9_valueIn_13 : decode cX9_valueIn 13 = .ok (.imul, 1) := by decide +kernel
theorem dX9_valueIn_14 : decode cX9_valueIn 14 = .ok (.iadd, 1) := by decide +kernel
theorem dX9_valueIn_15 : decode cX9_valueIn 15 = .ok (.iaload, 1) := by decide +kernel
theorem dX9_valueIn_16 : decode cX9_valueIn 16 = .ok (.ireturn, 1) := by decide +kernel
def X9_valueIn (a1 : Int32) (a2 : Int32) (m : gM) : Option (Int32 × gM) :=
  gAt m 49 0 (((1201 * a1) + 2) + (2 * a2)) (fun (x1 : Int32) => some (x1, m))
set_option maxRecDepth 100000 in
set_option maxHeartbeats 4000000 in
theorem c_X9_valueIn (a1 : Int32) (a2 : Int32) (m : gM) : gCon eI yX9_valueIn cX9_valueIn 3 (some .int) 0 [.inr (9, 0), .inl a1, .inl a2] m (X9_valueIn a1 a2 m) := by
  refine gCon.of (lv := [some (.inr (9, 0)), some (.inl a1), some (.inl a2)]) (by decide +kernel) (Nat.le_of_ble_eq_true rfl) rfl (fun X C => ?_)
  unfold X9_valueIn
  refine r_aload_n C dX9_valueIn_0 rfl rfl ?_
  refine r_get (v := .inr (49, 0)) C fl_X9_16 dX9_valueIn_1 rfl ?_
  refine r_sipush (v := 1201) C dX9_valueIn_4 (by decide) ?_
  refine r_iload_n C dX9_valueIn_7 rfl rfl ?_
  refine r_imul C dX9_valueIn_8 ?_
  refine r_iconst (v := 2) C dX9_valueIn_9 (by decide) ?_
  refine r_iadd C dX9_valueIn_10 ?_
  refine r_iconst (v := 2) C dX9_valueIn_11 (by decide) ?_
  refine r_iload_n C dX9_valueIn_12 rfl rfl ?_
  refine r_imul C dX9_valueIn_13 ?_
  refine r_iadd C dX9_valueIn_14 ?_
  refine r_iald C rfl dX9_valueIn_15 (fun x1 => ?_)
  exact r_ireturn C dX9_valueIn_16
theorem dX9_runNow_0 : decode cX9_runNow 0 = .ok (.aload_n 0, 1) := by decide +kernel
theorem dX9_runNow_1 : decode cX9_runNow 1 = .ok (.getfield 7, 3) := by decide +kernel
theorem dX9_runNow_4 : decode cX9_runNow 4 = .ok (.bipush 40, 2) := by decide +kernel
theorem dX9_runNow_6 : decode cX9_runNow 6 = .ok (.iaload, 1) := by decide +kernel
theorem dX9_runNow_7 : decode cX9_runNow 7 = .ok (.istore_n 2, 1) := by decide +kernel
theorem dX9_runNow_8 : decode cX9_runNow 8 = .ok (.iconst 0, 1) := by decide +kernel
theorem dX9_runNow_9 : decode cX9_runNow 9 = .ok (.istore_n 3, 1) := by decide +kernel
theorem dX9_runNow_10 : decode cX9_runNow 10 = .ok (.iload_n 3, 1) := by decide +kernel
theorem dX9_runNow_11 : decode cX9_runNow 11 = .ok (.aload_n 0, 1) := by decide +kernel
theorem dX9_runNow_12 : decode cX9_runNow 12 = .ok (.iload_n 1, 1) := by decide +kernel
theorem dX9_runNow_13 : decode cX9_runNow 13 = .ok (.invokevirtual 246, 3) := by decide +kernel
theorem dX9_runNow_16 : decode cX9_runNow 16 = .ok (.if_icmp .ge 50, 3) := by decide +kernel
theorem dX9_runNow_19 : decode cX9_runNow 19 = .ok (.aload_n 0, 1) := by decide +kernel
theorem dX9_runNow_20 : decode cX9_runNow 20 = .ok (.iload_n 1, 1) := by decide +kernel
theorem dX9_runNow_21 : decode cX9_runNow 21 = .ok (.iload_n 3, 1) := by decide +kernel
theorem dX9_runNow_22 : decode cX9_runNow 22 = .ok (.invokevirtual 249, 3) := by decide +kernel
theorem dX9_runNow_25 : decode cX9_runNow 25 = .ok (.iconst (-1), 1) := by decide +kernel
theorem dX9_runNow_26 : decode cX9_runNow 26 = .ok (.if_icmp .ne 17, 3) := by decide +kernel
theorem dX9_runNow_29 : decode cX9_runNow 29 = .ok (.aload_n 0, 1) := by decide +kernel
theorem dX9_runNow_30 : decode cX9_runNow 30 = .ok (.aload_n 0, 1) := by decide +kernel
theorem dX9_runNow_31 : decode cX9_runNow 31 = .ok (.iload_n 1, 1) := by decide +kernel
theorem dX9_runNow_32 : decode cX9_runNow 32 = .ok (.iload_n 3, 1) := by decide +kernel
theorem dX9_runNow_33 : decode cX9_runNow 33 = .ok (.invokevirtual 252, 3) := by decide +kernel
theorem dX9_runNow_36 : decode cX9_runNow 36 = .ok (.invokevirtual 199, 3) := by decide +kernel
theorem dX9_runNow_39 : decode cX9_runNow 39 = .ok (.pop, 1) := by decide +kernel
theorem dX9_runNow_40 : decode cX9_runNow 40 = .ok (.goto 20, 3) := by decide +kernel
theorem dX9_runNow_43 : decode cX9_runNow 43 = .ok (.aload_n 0, 1) := by decide +kernel
theorem dX9_runNow_44 : decode cX9_runNow 44 = .ok (.aload_n 0, 1) := by decide +kernel
theorem dX9_runNow_45 : decode cX9_runNow 45 = .ok (.iload_n 1, 1) := by decide +kernel
theorem dX9_runNow_46 : decode cX9_runNow 46 = .ok (.iload_n 3, 1) := by decide +kernel
theorem dX9_runNow_47 : decode cX9_runNow 47 = .ok (.invokevirtual 252, 3) := by decide +kernel
theorem dX9_runNow_50 : decode cX9_runNow 50 = .ok (.aload_n 0, 1) := by decide +kernel
theorem dX9_runNow_51 : decode cX9_runNow 51 = .ok (.iload_n 1, 1) := by decide +kernel
theorem dX9_runNow_52 : decode cX9_runNow 52 = .ok (.iload_n 3, 1) := by decide +kernel
theorem dX9_runNow_53 : decode cX9_runNow 53 = .ok (.invokevirtual 249, 3) := by decide +kernel
theorem dX9_runNow_56 : decode cX9_runNow 56 = .ok (.invokevirtual 221, 3) := by decide +kernel
theorem dX9_runNow_59 : decode cX9_runNow 59 = .ok (.pop, 1) := by decide +kernel
theorem dX9_runNow_60 : decode cX9_runNow 60 = .ok (.iinc 3 1, 3) := by decide +kernel
theorem dX9_runNow_63 : decode cX9_runNow 63 = .ok (.goto (-53), 3) := by decide +kernel
theorem dX9_runNow_66 : decode cX9_runNow 66 = .ok (.aload_n 0, 1) := by decide +kernel
theorem dX9_runNow_67 : decode cX9_runNow 67 = .ok (.getfield 7, 3) := by decide +kernel
theorem dX9_runNow_70 : decode cX9_runNow 70 = .ok (.bipush 40, 2) := by decide +kernel
theorem dX9_runNow_72 : decode cX9_runNow 72 = .ok (.iaload, 1) := by decide +kernel
theorem dX9_runNow_73 : decode cX9_runNow 73 = .ok (.iload_n 2, 1) := by decide +kernel
theorem dX9_runNow_74 : decode cX9_runNow 74 = .ok (.isub, 1) := by decide +kernel
theorem dX9_runNow_75 : decode cX9_runNow 75 = .ok (.ireturn, 1) := by decide +kernel
def X9_runNow_b10 (a1 : Int32) (j66 : gM → Option (Int32 × gM)) (v4 : Int32) (m5 : gM) (k10 : Int32 → gM → Option (Int32 × gM)) : Option (Int32 × gM) :=
  gCall (X9_lengthOf a1 m5) (fun (r7 : Int32) (m6 : gM) => if r7 ≤ v4 then (j66 m6) else (gCall (X9_valueIn a1 v4 m6) (fun (r9 : Int32) (m8 : gM) => if r9 = (-1) then (gCall (X9_lineOf a1 v4 m8) (fun (r18 : Int32) (m17 : gM) => gCall (X9_askNow r18 m17) (fun (r20 : Bool) (m19 : gM) => gLet (v4 + 1) (fun (x21 : Int32) => k10 x21 m19)))) else (gCall (X9_lineOf a1 v4 m8) (fun (r11 : Int32) (m10 : gM) => gCall (X9_valueIn a1 v4 m10) (fun (r13 : Int32) (m12 : gM) => gCall (X9_writeNow r11 r13 m12) (fun (r15 : Bool) (m14 : gM) => gLet (v4 + 1) (fun (x16 : Int32) => k10 x16 m14))))))))
def X9_runNow (a1 : Int32) (m : gM) : Option (Int32 × gM) :=
  gAt m 47 0 40 (fun (x1 : Int32) => gJ0 (fun (m2 : gM) => gAt m2 47 0 40 (fun (x3 : Int32) => some (x3 - x1, m2))) (fun (j66 : gM → Option (Int32 × gM)) => gL1 FU (X9_runNow_b10 a1 j66) 0 m))
set_option maxRecDepth 100000 in
set_option maxHeartbeats 4000000 in
theorem c_X9_runNow (a1 : Int32) (m : gM) : gCon eI yX9_runNow cX9_runNow 4 (some .int) 7 [.inr (9, 0), .inl a1] m (X9_runNow a1 m) := by
  refine gCon.of (lv := [some (.inr (9, 0)), some (.inl a1), none, none]) (by decide +kernel) (Nat.le_of_ble_eq_true rfl) rfl (fun X C => ?_)
  unfold X9_runNow
  refine r_aload_n C dX9_runNow_0 rfl rfl ?_
  refine r_get (v := .inr (47, 0)) C fl_X9_7 dX9_runNow_1 rfl ?_
  refine r_bipush (v := 40) C dX9_runNow_4 (by decide) ?_
  refine r_iald C rfl dX9_runNow_6 (fun x1 => ?_)
  refine r_istore_n (lv' := [some (.inr (9, 0)), some (.inl a1), some (.inl x1), none]) C dX9_runNow_7 rfl (by decide) rfl ?_
  refine r_iconst (v := 0) C dX9_runNow_8 (by decide) ?_
  refine r_istore_n (lv' := [some (.inr (9, 0)), some (.inl a1), some (.inl x1), some (.inl 0)]) C dX9_runNow_9 rfl (by decide) rfl ?_
  refine r_j0 66 [some (.inr (9, 0)), none, some (.inl x1), none] [] (fun m2 => ?_) (fun j66 hj66 => ?_)
  · refine r_aload_n C dX9_runNow_66 rfl rfl ?_
    refine r_get (v := .inr (47, 0)) C fl_X9_7 dX9_runNow_67 rfl ?_
    refine r_bipush (v := 40) C dX9_runNow_70 (by decide) ?_
    refine r_iald C rfl dX9_runNow_72 (fun x3 => ?_)
    refine r_iload_n C dX9_runNow_73 rfl rfl ?_
    refine r_isub C dX9_runNow_74 ?_
    exact r_ireturn C dX9_runNow_75
  refine r_weak (lv' := [some (.inr (9, 0)), some (.inl a1), some (.inl x1), some (.inl 0)]) ⟨rfl, rfl, rfl, rfl, trivial⟩ ?_
  refine r_l1 (pj := 10) (fun v4 => [some (.inr (9, 0)), some (.inl a1), some (.inl x1), some (.inl v4)]) (fun v4 m5 k10 hk10 => ?_) _ _ _
  unfold X9_runNow_b10
  refine r_iload_n C dX9_runNow_10 rfl rfl ?_
  refine r_aload_n C dX9_runNow_11 rfl rfl ?_
  refine r_iload_n C dX9_runNow_12 rfl rfl ?_
  refine r_invI (t := 9) (kb := 0) (As := [.inl a1]) (st := [.inl v4]) C il_X9_246 co_X9_lengthOf (by decide) rfl (c_X9_lengthOf a1 m5) (by decide) (by decide) rfl rfl (Nat.le_of_ble_eq_true rfl) dX9_runNow_13 (fun r7 m6 => ?_)
  refine r_icmp_ge (tgt := 66) C dX9_runNow_16 (by decide) ?_ ?_
  · exact r_weak (lv' := [some (.inr (9, 0)), none, some (.inl x1), none]) ⟨rfl, rfl, trivial⟩ (hj66 _)
  refine r_aload_n C dX9_runNow_19 rfl rfl ?_
  refine r_iload_n C dX9_runNow_20 rfl rfl ?_
  refine r_iload_n C dX9_runNow_21 rfl rfl ?_
  refine r_invI (t := 9) (kb := 0) (As := [.inl a1, .inl v4]) (st := []) C il_X9_249 co_X9_valueIn (by decide) rfl (c_X9_valueIn a1 v4 m6) (by decide) (by decide) rfl rfl (Nat.le_of_ble_eq_true rfl) dX9_runNow_22 (fun r9 m8 => ?_)
  refine r_iconst (v := (-1)) C dX9_runNow_25 (by decide) ?_
  refine r_icmp_ne (tgt := 43) C dX9_runNow_26 (by decide) ?_ ?_
  · refine r_aload_n C dX9_runNow_43 rfl rfl ?_
    refine r_aload_n C dX9_runNow_44 rfl rfl ?_
    refine r_iload_n C dX9_runNow_45 rfl rfl ?_
    refine r_iload_n C dX9_runNow_46 rfl rfl ?_
    refine r_invI (t := 9) (kb := 0) (As := [.inl a1, .inl v4]) (st := [.inr (9, 0)]) C il_X9_252 co_X9_lineOf (by decide) rfl (c_X9_lineOf a1 v4 m8) (by decide) (by decide) rfl rfl (Nat.le_of_ble_eq_true rfl) dX9_runNow_47 (fun r11 m10 => ?_)
    refine r_aload_n C dX9_runNow_50 rfl rfl ?_
    refine r_iload_n C dX9_runNow_51 rfl rfl ?_
    refine r_iload_n C dX9_runNow_52 rfl rfl ?_
    refine r_invI (t := 9) (kb := 0) (As := [.inl a1, .inl v4]) (st := [.inl r11, .inr (9, 0)]) C il_X9_249 co_X9_valueIn (by decide) rfl (c_X9_valueIn a1 v4 m10) (by decide) (by decide) rfl rfl (Nat.le_of_ble_eq_true rfl) dX9_runNow_53 (fun r13 m12 => ?_)
    refine r_invB (t := 9) (kb := 0) (As := [.inl r11, .inl r13]) (st := []) C il_X9_221 co_X9_writeNow (by decide) rfl (c_X9_writeNow r11 r13 m12) (by decide) (by decide) rfl rfl (Nat.le_of_ble_eq_true rfl) dX9_runNow_56 (fun r15 m14 => ?_)
    refine r_pop C dX9_runNow_59 ?_
    refine r_iinc (v := 1) C dX9_runNow_60 (by decide) rfl (by decide) (fun x16 => ?_)
    show gw X eI _ [some (.inr (9, 0)), some (.inl a1), some (.inl x1), some (.inl x16)] _ _ _
    refine r_goto (tgt := 10) C dX9_runNow_63 (by decide) ?_
    exact r_weak (lv' := [some (.inr (9, 0)), some (.inl a1), some (.inl x1), some (.inl x16)]) ⟨rfl, rfl, rfl, rfl, trivial⟩ (hk10 _ _)
  refine r_aload_n C dX9_runNow_29 rfl rfl ?_
  refine r_aload_n C dX9_runNow_30 rfl rfl ?_
  refine r_iload_n C dX9_runNow_31 rfl rfl ?_
  refine r_iload_n C dX9_runNow_32 rfl rfl ?_
  refine r_invI (t := 9) (kb := 0) (As := [.inl a1, .inl v4]) (st := [.inr (9, 0)]) C il_X9_252 co_X9_lineOf (by decide) rfl (c_X9_lineOf a1 v4 m8) (by decide) (by decide) rfl rfl (Nat.le_of_ble_eq_true rfl) dX9_runNow_33 (fun r18 m17 => ?_)
  refine r_invB (t := 9) (kb := 0) (As := [.inl r18]) (st := []) C il_X9_199 co_X9_askNow (by decide) rfl (c_X9_askNow r18 m17) (by decide) (by decide) rfl rfl (Nat.le_of_ble_eq_true rfl) dX9_runNow_36 (fun r20 m19 => ?_)
  refine r_pop C dX9_runNow_39 ?_
  refine r_goto (tgt := 60) C dX9_runNow_40 (by decide) ?_
  refine r_iinc (v := 1) C dX9_runNow_60 (by decide) rfl (by decide) (fun x21 => ?_)
  show gw X eI _ [some (.inr (9, 0)), some (.inl a1), some (.inl x1), some (.inl x21)] _ _ _
  refine r_goto (tgt := 10) C dX9_runNow_63 (by decide) ?_
  exact r_weak (lv' := [some (.inr (9, 0)), some (.inl a1), some (.inl x1), some (.inl x21)]) ⟨rfl, rfl, rfl, rfl, trivial⟩ (hk10 _ _)
theorem dX9_run_0 : decode cX9_run 0 = .ok (.aload_n 0, 1) := by decide +kernel
theorem dX9_run_1 : decode cX9_run 1 = .ok (.iload_n 1, 1) := by decide +kernel
theorem dX9_run_2 : decode cX9_run 2 = .ok (.invokevirtual 255, 3) := by decide +kernel
theorem dX9_run_5 : decode cX9_run 5 = .ok (.ifCond .ne 5, 3) := by decide +kernel
theorem dX9_run_8 : decode cX9_run 8 = .ok (.iconst (-1), 1) := by decide +kernel
theorem dX9_run_9 : decode cX9_run 9 = .ok (.ireturn, 1) := by decide +kernel
theorem dX9_run_10 : decode cX9_run 10 = .ok (.aload_n 0, 1) := by decide +kernel
theorem dX9_run_11 : decode cX9_run 11 = .ok (.invokevirtual 215, 3) := by decide +kernel
theorem dX9_run_14 : decode cX9_run 14 = .ok (.aload_n 0, 1) := by decide +kernel
theorem dX9_run_15 : decode cX9_run 15 = .ok (.iload_n 1, 1) := by decide +kernel
theorem dX9_run_16 : decode cX9_run 16 = .ok (.invokevirtual 258, 3) := by decide +kernel
theorem dX9_run_19 : decode cX9_run 19 = .ok (.ireturn, 1) := by decide +kernel
def X9_run (a1 : Int32) (m : gM) : Option (Int32 × gM) :=
  gCall (X9_isTrace a1 m) (fun (r2 : Bool) (m1 : gM) => if r2 = true then (gCall (X9_keep m1) (fun (r4 : Unit) (m3 : gM) => gCall (X9_runNow a1 m3) (fun (r6 : Int32) (m5 : gM) => some (r6, m5)))) else (some ((-1), m1)))
set_option maxRecDepth 100000 in
set_option maxHeartbeats 4000000 in
theorem c_X9_run (a1 : Int32) (m : gM) : gCon eI yX9_run cX9_run 2 (some .int) 8 [.inr (9, 0), .inl a1] m (X9_run a1 m) := by
  refine gCon.of (lv := [some (.inr (9, 0)), some (.inl a1)]) (by decide +kernel) (Nat.le_of_ble_eq_true rfl) rfl (fun X C => ?_)
  unfold X9_run
  refine r_aload_n C dX9_run_0 rfl rfl ?_
  refine r_iload_n C dX9_run_1 rfl rfl ?_
  refine r_invB (t := 9) (kb := 0) (As := [.inl a1]) (st := []) C il_X9_255 co_X9_isTrace (by decide) rfl (c_X9_isTrace a1 m) (by decide) (by decide) rfl rfl (Nat.le_of_ble_eq_true rfl) dX9_run_2 (fun r2 m1 => ?_)
  refine r_ifneB (tgt := 10) C dX9_run_5 (by decide) ?_ ?_
  · refine r_aload_n C dX9_run_10 rfl rfl ?_
    refine r_invU (t := 9) (kb := 0) (As := []) (st := []) C il_X9_215 co_X9_keep (by decide) rfl (c_X9_keep m1) (by decide) (by decide) rfl rfl (Nat.le_of_ble_eq_true rfl) dX9_run_11 (fun r4 m3 => ?_)
    refine r_aload_n C dX9_run_14 rfl rfl ?_
    refine r_iload_n C dX9_run_15 rfl rfl ?_
    refine r_invI (t := 9) (kb := 0) (As := [.inl a1]) (st := []) C il_X9_258 co_X9_runNow (by decide) rfl (c_X9_runNow a1 m3) (by decide) (by decide) rfl rfl (Nat.le_of_ble_eq_true rfl) dX9_run_16 (fun r6 m5 => ?_)
    exact r_ireturn C dX9_run_19
  refine r_iconst (v := (-1)) C dX9_run_8 (by decide) ?_
  exact r_ireturn C dX9_run_9
theorem dX9_tell_0 : decode cX9_tell 0 = .ok (.iload_n 1, 1) := by decide +kernel
theorem dX9_tell_1 : decode cX9_tell 1 = .ok (.iconst 0, 1) := by decide +kernel
theorem dX9_tell_2 : decode cX9_tell 2 = .ok (.sipush 30046, 3) := by decide +kernel
theorem dX9_tell_5 : decode cX9_tell 5 = .ok (.invokestatic 77, 3) := by decide +kernel
theorem dX9_tell_8 : decode cX9_tell 8 = .ok (.ifCond .ne 5, 3) := by decide +kernel
theorem dX9_tell_11 : decode cX9_tell 11 = .ok (.iconst 0, 1) := by decide +kernel
theorem dX9_tell_12 : decode cX9_tell 12 = .ok (.ireturn, 1) := by decide +kernel
theorem dX9_tell_13 : decode cX9_tell 13 = .ok (.aload_n 0, 1) := by decide +kernel
theorem dX9_tell_14 : decode cX9_tell 14 = .ok (.getfield 7, 3) := by decide +kernel
theorem dX9_tell_17 : decode cX9_tell 17 = .ok (.bipush 44, 2) := by decide +kernel
theorem dX9_tell_19 : decode cX9_tell 19 = .ok (.iload_n 1, 1) := by decide +kernel
theorem dX9_tell_20 : decode cX9_tell 20 = .ok (.iastore, 1) := by decide +kernel
theorem dX9_tell_21 : decode cX9_tell 21 = .ok (.iconst 1, 1) := by decide +kernel
theorem dX9_tell_22 : decode cX9_tell 22 = .ok (.ireturn, 1) := by decide +kernel
def X9_tell (a1 : Int32) (m : gM) : Option (Bool × gM) :=
  gCall (X9_isIn a1 0 30046 m) (fun (r2 : Bool) (m1 : gM) => if r2 = true then (gPut m1 47 0 44 a1 (fun (m3 : gM) => some (true, m3))) else (some (false, m1)))
set_option maxRecDepth 100000 in
set_option maxHeartbeats 4000000 in
theorem c_X9_tell (a1 : Int32) (m : gM) : gCon eB yX9_tell cX9_tell 2 (some .boolean) 1 [.inr (9, 0), .inl a1] m (X9_tell a1 m) := by
  refine gCon.of (lv := [some (.inr (9, 0)), some (.inl a1)]) (by decide +kernel) (Nat.le_of_ble_eq_true rfl) rfl (fun X C => ?_)
  unfold X9_tell
  refine r_iload_n C dX9_tell_0 rfl rfl ?_
  refine r_iconst (v := 0) C dX9_tell_1 (by decide) ?_
  refine r_sipush (v := 30046) C dX9_tell_2 (by decide) ?_
  refine r_insB (As := [.inl a1, .inl 0, .inl 30046]) (st := []) C il_X9_77 co_X9_isIn (c_X9_isIn a1 0 30046 m) (by decide) (by decide) rfl rfl (Nat.le_of_ble_eq_true rfl) dX9_tell_5 (fun r2 m1 => ?_)
  refine r_ifneB (tgt := 13) C dX9_tell_8 (by decide) ?_ ?_
  · refine r_aload_n C dX9_tell_13 rfl rfl ?_
    refine r_get (v := .inr (47, 0)) C fl_X9_7 dX9_tell_14 rfl ?_
    refine r_bipush (v := 44) C dX9_tell_17 (by decide) ?_
    refine r_iload_n C dX9_tell_19 rfl rfl ?_
    refine r_iast C rfl dX9_tell_20 (fun m3 => ?_)
    refine r_iconst (v := 1) C dX9_tell_21 (by decide) ?_
    exact r_zret1 C dX9_tell_22
  refine r_iconst (v := 0) C dX9_tell_11 (by decide) ?_
  exact r_zret0 C dX9_tell_12
theorem dX9_gatheredAt_0 : decode cX9_gatheredAt 0 = .ok (.iconst 0, 1) := by decide +kernel
theorem dX9_gatheredAt_1 : decode cX9_gatheredAt 1 = .ok (.istore_n 2, 1) := by decide +kernel
theorem dX9_gatheredAt_2 : decode cX9_gatheredAt 2 = .ok (.iload_n 2, 1) := by decide +kernel
theorem dX9_gatheredAt_3 : decode cX9_gatheredAt 3 = .ok (.aload_n 0, 1) := by decide +kernel
theorem dX9_gatheredAt_4 : decode cX9_gatheredAt 4 = .ok (.getfield 7, 3) := by decide +kernel
theorem dX9_gatheredAt_7 : decode cX9_gatheredAt 7 = .ok (.iconst 3, 1) := by decide +kernel
theorem dX9_gatheredAt_8 : decode cX9_gatheredAt 8 = .ok (.iaload, 1) := by decide +kernel
theorem dX9_gatheredAt_9 : decode cX9_gatheredAt 9 = .ok (.if_icmp .ge 23, 3) := by decide +kernel
theorem dX9_gatheredAt_12 : decode cX9_gatheredAt 12 = .ok (.aload_n 0, 1) := by decide +kernel
theorem dX9_gatheredAt_13 : decode cX9_gatheredAt 13 = .ok (.getfield 7, 3) := by decide +kernel
theorem dX9_gatheredAt_16 : decode cX9_gatheredAt 16 = .ok (.iconst 4, 1) := by decide +kernel
theorem dX9_gatheredAt_17 : decode cX9_gatheredAt 17 = .ok (.iload_n 2, 1) := by decide +kernel
theorem dX9_gatheredAt_18 : decode cX9_gatheredAt 18 = .ok (.iadd, 1) := by decide +kernel
theorem dX9_gatheredAt_19 : decode cX9_gatheredAt 19 = .ok (.iaload, 1) := by decide +kernel
theorem dX9_gatheredAt_20 : decode cX9_gatheredAt 20 = .ok (.iload_n 1, 1) := by decide +kernel
theorem dX9_gatheredAt_21 : decode cX9_gatheredAt 21 = .ok (.if_icmp .ne 5, 3) := by decide +kernel
theorem dX9_gatheredAt_24 : decode cX9_gatheredAt 24 = .ok (.iload_n 2, 1) := by decide +kernel
theorem dX9_gatheredAt_25 : decode cX9_gatheredAt 25 = .ok (.ireturn, 1) := by decide +kernel
theorem dX9_gatheredAt_26 : decode cX9_gatheredAt 26 = .ok (.iinc 2 1, 3) := by decide +kernel
theorem dX9_gatheredAt_29 : decode cX9_gatheredAt 29 = .ok (.goto (-27), 3) := by decide +kernel
theorem dX9_gatheredAt_32 : decode cX9_gatheredAt 32 = .ok (.iconst (-1), 1) := by decide +kernel
theorem dX9_gatheredAt_33 : decode cX9_gatheredAt 33 = .ok (.ireturn, 1) := by decide +kernel
def X9_gatheredAt_b2 (a1 : Int32) (v1 : Int32) (m2 : gM) (k2 : Int32 → gM → Option (Int32 × gM)) : Option (Int32 × gM) :=
  gAt m2 47 0 3 (fun (x3 : Int32) => if x3 ≤ v1 then (some ((-1), m2)) else (gAt m2 47 0 (4 + v1) (fun (x4 : Int32) => if x4 = a1 then (some (v1, m2)) else (gLet (v1 + 1) (fun (x5 : Int32) => k2 x5 m2)))))
def X9_gatheredAt (a1 : Int32) (m : gM) : Option (Int32 × gM) :=
  gL1 FU (X9_gatheredAt_b2 a1) 0 m
set_option maxRecDepth 100000 in
set_option maxHeartbeats 4000000 in
theorem c_X9_gatheredAt (a1 : Int32) (m : gM) : gCon eI yX9_gatheredAt cX9_gatheredAt 3 (some .int) 0 [.inr (9, 0), .inl a1] m (X9_gatheredAt a1 m) := by
  refine gCon.of (lv := [some (.inr (9, 0)), some (.inl a1), none]) (by decide +kernel) (Nat.le_of_ble_eq_true rfl) rfl (fun X C => ?_)
  unfold X9_gatheredAt
  refine r_iconst (v := 0) C dX9_gatheredAt_0 (by decide) ?_
  refine r_istore_n (lv' := [some (.inr (9, 0)), some (.inl a1), some (.inl 0)]) C dX9_gatheredAt_1 rfl (by decide) rfl ?_
  refine r_weak (lv' := [some (.inr (9, 0)), some (.inl a1), some (.inl 0)]) ⟨rfl, rfl, rfl, trivial⟩ ?_
  refine r_l1 (pj := 2) (fun v1 => [some (.inr (9, 0)), some (.inl a1), some (.inl v1)]) (fun v1 m2 k2 hk2 => ?_) _ _ _
  unfold X9_gatheredAt_b2
  refine r_iload_n C dX9_gatheredAt_2 rfl rfl ?_
  refine r_aload_n C dX9_gatheredAt_3 rfl rfl ?_
  refine r_get (v := .inr (47, 0)) C fl_X9_7 dX9_gatheredAt_4 rfl ?_
  refine r_iconst (v := 3) C dX9_gatheredAt_7 (by decide) ?_
  refine r_iald C rfl dX9_gatheredAt_8 (fun x3 => ?_)
  refine r_icmp_ge (tgt := 32) C dX9_gatheredAt_9 (by decide) ?_ ?_
  · refine r_iconst (v := (-1)) C dX9_gatheredAt_32 (by decide) ?_
    exact r_ireturn C dX9_gatheredAt_33
  refine r_aload_n C dX9_gatheredAt_12 rfl rfl ?_
  refine r_get (v := .inr (47, 0)) C fl_X9_7 dX9_gatheredAt_13 rfl ?_
  refine r_iconst (v := 4) C dX9_gatheredAt_16 (by decide) ?_
  refine r_iload_n C dX9_gatheredAt_17 rfl rfl ?_
  refine r_iadd C dX9_gatheredAt_18 ?_
  refine r_iald C rfl dX9_gatheredAt_19 (fun x4 => ?_)
  refine r_iload_n C dX9_gatheredAt_20 rfl rfl ?_
  refine r_icmp_ne (tgt := 26) C dX9_gatheredAt_21 (by decide) ?_ ?_
  · refine r_iinc (v := 1) C dX9_gatheredAt_26 (by decide) rfl (by decide) (fun x5 => ?_)
    show gw X eI _ [some (.inr (9, 0)), some (.inl a1), some (.inl x5)] _ _ _
    refine r_goto (tgt := 2) C dX9_gatheredAt_29 (by decide) ?_
    exact r_weak (lv' := [some (.inr (9, 0)), some (.inl a1), some (.inl x5)]) ⟨rfl, rfl, rfl, trivial⟩ (hk2 _ _)
  refine r_iload_n C dX9_gatheredAt_24 rfl rfl ?_
  exact r_ireturn C dX9_gatheredAt_25
theorem dX9_gather_0 : decode cX9_gather 0 = .ok (.iload_n 1, 1) := by decide +kernel
theorem dX9_gather_1 : decode cX9_gather 1 = .ok (.invokestatic 212, 3) := by decide +kernel
theorem dX9_gather_4 : decode cX9_gather 4 = .ok (.ifCond .eq 23, 3) := by decide +kernel
theorem dX9_gather_7 : decode cX9_gather 7 = .ok (.aload_n 0, 1) := by decide +kernel
theorem dX9_gather_8 : decode cX9_gather 8 = .ok (.iload_n 1, 1) := by decide +kernel
theorem dX9_gather_9 : decode cX9_gather 9 = .ok (.invokevirtual 261, 3) := by decide +kernel
theorem dX9_gather_12 : decode cX9_gather 12 = .ok (.iconst (-1), 1) := by decide +kernel
theorem dX9_gather_13 : decode cX9_gather 13 = .ok (.if_icmp .ne 14, 3) := by decide +kernel
theorem dX9_gather_16 : decode cX9_gather 16 = .ok (.aload_n 0, 1) := by decide +kernel
theorem dX9_gather_17 : decode cX9_gather 17 = .ok (.getfield 7, 3) := by decide +kernel
theorem dX9_gather_20 : decode cX9_gather 20 = .ok (.iconst 3, 1) := by decide +kernel
theorem dX9_gather_21 : decode cX9_gather 21 = .ok (.iaload, 1) := by decide +kernel
theorem dX9_gather_22 : decode cX9_gather 22 = .ok (.bipush 32, 2) := by decide +kernel
theorem dX9_gather_24 : decode cX9_gather 24 = .ok (.if_icmp .ne 5, 3) := by decide +kernel
theorem dX9_gather_27 : decode cX9_gather 27 = .ok (.iconst (-1), 1) := by decide +kernel
theorem dX9_gather_28 : decode cX9_gather 28 = .ok (.ireturn, 1) := by decide +kernel
theorem dX9_gather_29 : decode cX9_gather 29 = .ok (.aload_n 0, 1) := by decide +kernel
theorem dX9_gather_30 : decode cX9_gather 30 = .ok (.getfield 7, 3) := by decide +kernel
theorem dX9_gather_33 : decode cX9_gather 33 = .ok (.iconst 4, 1) := by decide +kernel
theorem dX9_gather_34 : decode cX9_gather 34 = .ok (.aload_n 0, 1) := by decide +kernel
theorem dX9_gather_35 : decode cX9_gather 35 = .ok (.getfield 7, 3) := by decide +kernel
theorem dX9_gather_38 : decode cX9_gather 38 = .ok (.iconst 3, 1) := by decide +kernel
theorem dX9_gather_39 : decode cX9_gather 39 = .ok (.iaload, 1) := by decide +kernel
theorem dX9_gather_40 : decode cX9_gather 40 = .ok (.iadd, 1) := by decide +kernel
theorem dX9_gather_41 : decode cX9_gather 41 = .ok (.iload_n 1, 1) := by decide +kernel
theorem dX9_gather_42 : decode cX9_gather 42 = .ok (.iastore, 1) := by decide +kernel
theorem dX9_gather_43 : decode cX9_gather 43 = .ok (.aload_n 0, 1) := by decide +kernel
theorem dX9_gather_44 : decode cX9_gather 44 = .ok (.getfield 7, 3) := by decide +kernel
theorem dX9_gather_47 : decode cX9_gather 47 = .ok (.iconst 3, 1) := by decide +kernel
theorem dX9_gather_48 : decode cX9_gather 48 = .ok (.dup2, 1) := by decide +kernel
theorem dX9_gather_49 : decode cX9_gather 49 = .ok (.iaload, 1) := by decide +kernel
theorem dX9_gather_50 : decode cX9_gather 50 = .ok (.iconst 1, 1) := by decide +kernel
theorem dX9_gather_51 : decode cX9_gather 51 = .ok (.iadd, 1) := by decide +kernel
theorem dX9_gather_52 : decode cX9_gather 52 = .ok (.iastore, 1) := by decide +kernel
theorem dX9_gather_53 : decode cX9_gather 53 = .ok (.aload_n 0, 1) := by decide +kernel
theorem dX9_gather_54 : decode cX9_gather 54 = .ok (.getfield 7, 3) := by decide +kernel
theorem dX9_gather_57 : decode cX9_gather 57 = .ok (.iconst 3, 1) := by decide +kernel
theorem dX9_gather_58 : decode cX9_gather 58 = .ok (.iaload, 1) := by decide +kernel
theorem dX9_gather_59 : decode cX9_gather 59 = .ok (.ireturn, 1) := by decide +kernel
def X9_gather (a1 : Int32) (m : gM) : Option (Int32 × gM) :=
  gCall (X9_isLine a1 m) (fun (r2 : Bool) (m1 : gM) => if r2 = true then (gCall (X9_gatheredAt a1 m1) (fun (r4 : Int32) (m3 : gM) => if r4 = (-1) then (gAt m3 47 0 3 (fun (x5 : Int32) => if x5 = 32 then (some ((-1), m3)) else (gAt m3 47 0 3 (fun (x6 : Int32) => gPut m3 47 0 (4 + x6) a1 (fun (m7 : gM) => gAt m7 47 0 3 (fun (x8 : Int32) => gPut m7 47 0 3 (x8 + 1) (fun (m9 : gM) => gAt m9 47 0 3 (fun (x10 : Int32) => some (x10, m9))))))))) else (some ((-1), m3)))) else (some ((-1), m1)))
set_option maxRecDepth 100000 in
set_option maxHeartbeats 4000000 in
theorem c_X9_gather (a1 : Int32) (m : gM) : gCon eI yX9_gather cX9_gather 2 (some .int) 2 [.inr (9, 0), .inl a1] m (X9_gather a1 m) := by
  refine gCon.of (lv := [some (.inr (9, 0)), some (.inl a1)]) (by decide +kernel) (Nat.le_of_ble_eq_true rfl) rfl (fun X C => ?_)
  unfold X9_gather
  refine r_iload_n C dX9_gather_0 rfl rfl ?_
  refine r_insB (As := [.inl a1]) (st := []) C il_X9_212 co_X9_isLine (c_X9_isLine a1 m) (by decide) (by decide) rfl rfl (Nat.le_of_ble_eq_true rfl) dX9_gather_1 (fun r2 m1 => ?_)
  refine r_ifeqB (tgt := 27) C dX9_gather_4 (by decide) ?_ ?_
  · refine r_iconst (v := (-1)) C dX9_gather_27 (by decide) ?_
    exact r_ireturn C dX9_gather_28
  refine r_aload_n C dX9_gather_7 rfl rfl ?_
  refine r_iload_n C dX9_gather_8 rfl rfl ?_
  refine r_invI (t := 9) (kb := 0) (As := [.inl a1]) (st := []) C il_X9_261 co_X9_gatheredAt (by decide) rfl (c_X9_gatheredAt a1 m1) (by decide) (by decide) rfl rfl (Nat.le_of_ble_eq_true rfl) dX9_gather_9 (fun r4 m3 => ?_)
  refine r_iconst (v := (-1)) C dX9_gather_12 (by decide) ?_
  refine r_icmp_ne (tgt := 27) C dX9_gather_13 (by decide) ?_ ?_
  · refine r_iconst (v := (-1)) C dX9_gather_27 (by decide) ?_
    exact r_ireturn C dX9_gather_28
  refine r_aload_n C dX9_gather_16 rfl rfl ?_
  refine r_get (v := .inr (47, 0)) C fl_X9_7 dX9_gather_17 rfl ?_
  refine r_iconst (v := 3) C dX9_gather_20 (by decide) ?_
  refine r_iald C rfl dX9_gather_21 (fun x5 => ?_)
  refine r_bipush (v := 32) C dX9_gather_22 (by decide) ?_
  refine r_icmp_ne (tgt := 29) C dX9_gather_24 (by decide) ?_ ?_
  · refine r_aload_n C dX9_gather_29 rfl rfl ?_
    refine r_get (v := .inr (47, 0)) C fl_X9_7 dX9_gather_30 rfl ?_
    refine r_iconst (v := 4) C dX9_gather_33 (by decide) ?_
    refine r_aload_n C dX9_gather_34 rfl rfl ?_
    refine r_get (v := .inr (47, 0)) C fl_X9_7 dX9_gather_35 rfl ?_
    refine r_iconst (v := 3) C dX9_gather_38 (by decide) ?_
    refine r_iald C rfl dX9_gather_39 (fun x6 => ?_)
    refine r_iadd C dX9_gather_40 ?_
    refine r_iload_n C dX9_gather_41 rfl rfl ?_
    refine r_iast C rfl dX9_gather_42 (fun m7 => ?_)
    refine r_aload_n C dX9_gather_43 rfl rfl ?_
    refine r_get (v := .inr (47, 0)) C fl_X9_7 dX9_gather_44 rfl ?_
    refine r_iconst (v := 3) C dX9_gather_47 (by decide) ?_
    refine r_dup2 C dX9_gather_48 ?_
    refine r_iald C rfl dX9_gather_49 (fun x8 => ?_)
    refine r_iconst (v := 1) C dX9_gather_50 (by decide) ?_
    refine r_iadd C dX9_gather_51 ?_
    refine r_iast C rfl dX9_gather_52 (fun m9 => ?_)
    refine r_aload_n C dX9_gather_53 rfl rfl ?_
    refine r_get (v := .inr (47, 0)) C fl_X9_7 dX9_gather_54 rfl ?_
    refine r_iconst (v := 3) C dX9_gather_57 (by decide) ?_
    refine r_iald C rfl dX9_gather_58 (fun x10 => ?_)
    exact r_ireturn C dX9_gather_59
  refine r_iconst (v := (-1)) C dX9_gather_27 (by decide) ?_
  exact r_ireturn C dX9_gather_28
theorem dX9_scatter_0 : decode cX9_scatter 0 = .ok (.aload_n 0, 1) := by decide +kernel
theorem dX9_scatter_1 : decode cX9_scatter 1 = .ok (.iload_n 1, 1) := by decide +kernel
theorem dX9_scatter_2 : decode cX9_scatter 2 = .ok (.invokevirtual 261, 3) := by decide +kernel
theorem dX9_scatter_5 : decode cX9_scatter 5 = .ok (.istore_n 2, 1) := by decide +kernel
theorem dX9_scatter_6 : decode cX9_scatter 6 = .ok (.iload_n 2, 1) := by decide +kernel
theorem dX9_scatter_7 : decode cX9_scatter 7 = .ok (.iconst (-1), 1) := by decide +kernel
theorem dX9_scatter_8 : decode cX9_scatter 8 = .ok (.if_icmp .ne 5, 3) := by decide +kernel
theorem dX9_scatter_11 : decode cX9_scatter 11 = .ok (.iconst 0, 1) := by decide +kernel
theorem dX9_scatter_12 : decode cX9_scatter 12 = .ok (.ireturn, 1) := by decide +kernel
theorem dX9_scatter_13 : decode cX9_scatter 13 = .ok (.iload_n 2, 1) := by decide +kernel
theorem dX9_scatter_14 : decode cX9_scatter 14 = .ok (.istore_n 3, 1) := by decide +kernel
theorem dX9_scatter_15 : decode cX9_scatter 15 = .ok (.iload_n 3, 1) := by decide +kernel
theorem dX9_scatter_16 : decode cX9_scatter 16 = .ok (.aload_n 0, 1) := by decide +kernel
theorem dX9_scatter_17 : decode cX9_scatter 17 = .ok (.getfield 7, 3) := by decide +kernel
theorem dX9_scatter_20 : decode cX9_scatter 20 = .ok (.iconst 3, 1) := by decide +kernel
theorem dX9_scatter_21 : decode cX9_scatter 21 = .ok (.iaload, 1) := by decide +kernel
theorem dX9_scatter_22 : decode cX9_scatter 22 = .ok (.iconst 1, 1) := by decide +kernel
theorem dX9_scatter_23 : decode cX9_scatter 23 = .ok (.isub, 1) := by decide +kernel
theorem dX9_scatter_24 : decode cX9_scatter 24 = .ok (.if_icmp .ge 27, 3) := by decide +kernel
theorem dX9_scatter_27 : decode cX9_scatter 27 = .ok (.aload_n 0, 1) := by decide +kernel
theorem dX9_scatter_28 : decode cX9_scatter 28 = .ok (.getfield 7, 3) := by decide +kernel
theorem dX9_scatter_31 : decode cX9_scatter 31 = .ok (.iconst 4, 1) := by decide +kernel
theorem dX9_scatter_32 : decode cX9_scatter 32 = .ok (.iload_n 3, 1) := by decide +kernel
theorem dX9_scatter_33 : decode cX9_scatter 33 = .ok (.iadd, 1) := by decide +kernel
theorem dX9_scatter_34 : decode cX9_scatter 34 = .ok (.aload_n 0, 1) := by decide +kernel
theorem dX9_scatter_35 : decode cX9_scatter 35 = .ok (.getfield 7, 3) := by decide +kernel
theorem dX9_scatter_38 : decode cX9_scatter 38 = .ok (.iconst 4, 1) := by decide +kernel
theorem dX9_scatter_39 : decode cX9_scatter 39 = .ok (.iload_n 3, 1) := by decide +kernel
theorem dX9_scatter_40 : decode cX9_scatter 40 = .ok (.iadd, 1) := by decide +kernel
theorem dX9_scatter_41 : decode cX9_scatter 41 = .ok (.iconst 1, 1) := by decide +kernel
theorem dX9_scatter_42 : decode cX9_scatter 42 = .ok (.iadd, 1) := by decide +kernel
theorem dX9_scatter_43 : decode cX9_scatter 43 = .ok (.iaload, 1) := by decide +kernel
theorem dX9_scatter_44 : decode cX9_scatter 44 = .ok (.iastore, 1) := by decide +kernel
theorem dX9_scatter_45 : decode cX9_scatter 45 = .ok (.iinc 3 1, 3) := by decide +kernel
theorem dX9_scatter_48 : decode cX9_scatter 48 = .ok (.goto (-33), 3) := by decide +kernel
theorem dX9_scatter_51 : decode cX9_scatter 51 = .ok (.aload_n 0, 1) := by decide +kernel
theorem dX9_scatter_52 : decode cX9_scatter 52 = .ok (.getfield 7, 3) := by decide +kernel
theorem dX9_scatter_55 : decode cX9_scatter 55 = .ok (.iconst 3, 1) := by decide +kernel
theorem dX9_scatter_56 : decode cX9_scatter 56 = .ok (.dup2, 1) := by decide +kernel
theorem dX9_scatter_57 : decode cX9_scatter 57 = .ok (.iaload, 1) := by decide +kernel
theorem dX9_scatter_58 : decode cX9_scatter 58 = .ok (.iconst 1, 1) := by decide +kernel
theorem dX9_scatter_59 : decode cX9_scatter 59 = .ok (.isub, 1) := by decide +kernel
theorem dX9_scatter_60 : decode cX9_scatter 60 = .ok (.iastore, 1) := by decide +kernel
theorem dX9_scatter_61 : decode cX9_scatter 61 = .ok (.iconst 1, 1) := by decide +kernel
theorem dX9_scatter_62 : decode cX9_scatter 62 = .ok (.ireturn, 1) := by decide +kernel
def X9_scatter_b15 (j51 : gM → Option (Bool × gM)) (v6 : Int32) (m7 : gM) (k15 : Int32 → gM → Option (Bool × gM)) : Option (Bool × gM) :=
  gAt m7 47 0 3 (fun (x8 : Int32) => if (x8 - 1) ≤ v6 then (j51 m7) else (gAt m7 47 0 ((4 + v6) + 1) (fun (x9 : Int32) => gPut m7 47 0 (4 + v6) x9 (fun (m10 : gM) => gLet (v6 + 1) (fun (x11 : Int32) => k15 x11 m10)))))
def X9_scatter (a1 : Int32) (m : gM) : Option (Bool × gM) :=
  gCall (X9_gatheredAt a1 m) (fun (r2 : Int32) (m1 : gM) => if r2 = (-1) then (some (false, m1)) else (gJ0 (fun (m3 : gM) => gAt m3 47 0 3 (fun (x4 : Int32) => gPut m3 47 0 3 (x4 - 1) (fun (m5 : gM) => some (true, m5)))) (fun (j51 : gM → Option (Bool × gM)) => gL1 FU (X9_scatter_b15 j51) r2 m1)))
set_option maxRecDepth 100000 in
set_option maxHeartbeats 4000000 in
theorem c_X9_scatter (a1 : Int32) (m : gM) : gCon eB yX9_scatter cX9_scatter 4 (some .boolean) 1 [.inr (9, 0), .inl a1] m (X9_scatter a1 m) := by
  refine gCon.of (lv := [some (.inr (9, 0)), some (.inl a1), none, none]) (by decide +kernel) (Nat.le_of_ble_eq_true rfl) rfl (fun X C => ?_)
  unfold X9_scatter
  refine r_aload_n C dX9_scatter_0 rfl rfl ?_
  refine r_iload_n C dX9_scatter_1 rfl rfl ?_
  refine r_invI (t := 9) (kb := 0) (As := [.inl a1]) (st := []) C il_X9_261 co_X9_gatheredAt (by decide) rfl (c_X9_gatheredAt a1 m) (by decide) (by decide) rfl rfl (Nat.le_of_ble_eq_true rfl) dX9_scatter_2 (fun r2 m1 => ?_)
  refine r_istore_n (lv' := [some (.inr (9, 0)), some (.inl a1), some (.inl r2), none]) C dX9_scatter_5 rfl (by decide) rfl ?_
  refine r_iload_n C dX9_scatter_6 rfl rfl ?_
  refine r_iconst (v := (-1)) C dX9_scatter_7 (by decide) ?_
  refine r_icmp_ne (tgt := 13) C dX9_scatter_8 (by decide) ?_ ?_
  · refine r_iload_n C dX9_scatter_13 rfl rfl ?_
    refine r_istore_n (lv' := [some (.inr (9, 0)), some (.inl a1), some (.inl r2), some (.inl r2)]) C dX9_scatter_14 rfl (by decide) rfl ?_
    refine r_j0 51 [some (.inr (9, 0)), none, none, none] [] (fun m3 => ?_) (fun j51 hj51 => ?_)
    · refine r_aload_n C dX9_scatter_51 rfl rfl ?_
      refine r_get (v := .inr (47, 0)) C fl_X9_7 dX9_scatter_52 rfl ?_
      refine r_iconst (v := 3) C dX9_scatter_55 (by decide) ?_
      refine r_dup2 C dX9_scatter_56 ?_
      refine r_iald C rfl dX9_scatter_57 (fun x4 => ?_)
      refine r_iconst (v := 1) C dX9_scatter_58 (by decide) ?_
      refine r_isub C dX9_scatter_59 ?_
      refine r_iast C rfl dX9_scatter_60 (fun m5 => ?_)
      refine r_iconst (v := 1) C dX9_scatter_61 (by decide) ?_
      exact r_zret1 C dX9_scatter_62
    refine r_weak (lv' := [some (.inr (9, 0)), none, none, some (.inl r2)]) ⟨rfl, rfl, trivial⟩ ?_
    refine r_l1 (pj := 15) (fun v6 => [some (.inr (9, 0)), none, none, some (.inl v6)]) (fun v6 m7 k15 hk15 => ?_) _ _ _
    unfold X9_scatter_b15
    refine r_iload_n C dX9_scatter_15 rfl rfl ?_
    refine r_aload_n C dX9_scatter_16 rfl rfl ?_
    refine r_get (v := .inr (47, 0)) C fl_X9_7 dX9_scatter_17 rfl ?_
    refine r_iconst (v := 3) C dX9_scatter_20 (by decide) ?_
    refine r_iald C rfl dX9_scatter_21 (fun x8 => ?_)
    refine r_iconst (v := 1) C dX9_scatter_22 (by decide) ?_
    refine r_isub C dX9_scatter_23 ?_
    refine r_icmp_ge (tgt := 51) C dX9_scatter_24 (by decide) ?_ ?_
    · exact r_weak (lv' := [some (.inr (9, 0)), none, none, none]) ⟨rfl, trivial⟩ (hj51 _)
    refine r_aload_n C dX9_scatter_27 rfl rfl ?_
    refine r_get (v := .inr (47, 0)) C fl_X9_7 dX9_scatter_28 rfl ?_
    refine r_iconst (v := 4) C dX9_scatter_31 (by decide) ?_
    refine r_iload_n C dX9_scatter_32 rfl rfl ?_
    refine r_iadd C dX9_scatter_33 ?_
    refine r_aload_n C dX9_scatter_34 rfl rfl ?_
    refine r_get (v := .inr (47, 0)) C fl_X9_7 dX9_scatter_35 rfl ?_
    refine r_iconst (v := 4) C dX9_scatter_38 (by decide) ?_
    refine r_iload_n C dX9_scatter_39 rfl rfl ?_
    refine r_iadd C dX9_scatter_40 ?_
    refine r_iconst (v := 1) C dX9_scatter_41 (by decide) ?_
    refine r_iadd C dX9_scatter_42 ?_
    refine r_iald C rfl dX9_scatter_43 (fun x9 => ?_)
    refine r_iast C rfl dX9_scatter_44 (fun m10 => ?_)
    refine r_iinc (v := 1) C dX9_scatter_45 (by decide) rfl (by decide) (fun x11 => ?_)
    show gw X eB _ [some (.inr (9, 0)), none, none, some (.inl x11)] _ _ _
    refine r_goto (tgt := 15) C dX9_scatter_48 (by decide) ?_
    exact r_weak (lv' := [some (.inr (9, 0)), none, none, some (.inl x11)]) ⟨rfl, rfl, trivial⟩ (hk15 _ _)
  refine r_iconst (v := 0) C dX9_scatter_11 (by decide) ?_
  exact r_zret0 C dX9_scatter_12
theorem dX9_collect_0 : decode cX9_collect 0 = .ok (.aload_n 0, 1) := by decide +kernel
theorem dX9_collect_1 : decode cX9_collect 1 = .ok (.iload_n 1, 1) := by decide +kernel
theorem dX9_collect_2 : decode cX9_collect 2 = .ok (.invokevirtual 255, 3) := by decide +kernel
theorem dX9_collect_5 : decode cX9_collect 5 = .ok (.ifCond .ne 5, 3) := by decide +kernel
theorem dX9_collect_8 : decode cX9_collect 8 = .ok (.iconst (-1), 1) := by decide +kernel
theorem dX9_collect_9 : decode cX9_collect 9 = .ok (.ireturn, 1) := by decide +kernel
theorem dX9_collect_10 : decode cX9_collect 10 = .ok (.aload_n 0, 1) := by decide +kernel
theorem dX9_collect_11 : decode cX9_collect 11 = .ok (.getfield 7, 3) := by decide +kernel
theorem dX9_collect_14 : decode cX9_collect 14 = .ok (.iconst 3, 1) := by decide +kernel
theorem dX9_collect_15 : decode cX9_collect 15 = .ok (.iconst 0, 1) := by decide +kernel
theorem dX9_collect_16 : decode cX9_collect 16 = .ok (.iastore, 1) := by decide +kernel
theorem dX9_collect_17 : decode cX9_collect 17 = .ok (.iconst 0, 1) := by decide +kernel
theorem dX9_collect_18 : decode cX9_collect 18 = .ok (.istore_n 2, 1) := by decide +kernel
theorem dX9_collect_19 : decode cX9_collect 19 = .ok (.iload_n 2, 1) := by decide +kernel
theorem dX9_collect_20 : decode cX9_collect 20 = .ok (.aload_n 0, 1) := by decide +kernel
theorem dX9_collect_21 : decode cX9_collect 21 = .ok (.iload_n 1, 1) := by decide +kernel
theorem dX9_collect_22 : decode cX9_collect 22 = .ok (.invokevirtual 246, 3) := by decide +kernel
theorem dX9_collect_25 : decode cX9_collect 25 = .ok (.if_icmp .ge 20, 3) := by decide +kernel
theorem dX9_collect_28 : decode cX9_collect 28 = .ok (.aload_n 0, 1) := by decide +kernel
theorem dX9_collect_29 : decode cX9_collect 29 = .ok (.aload_n 0, 1) := by decide +kernel
theorem dX9_collect_30 : decode cX9_collect 30 = .ok (.iload_n 1, 1) := by decide +kernel
theorem dX9_collect_31 : decode cX9_collect 31 = .ok (.iload_n 2, 1) := by decide +kernel
theorem dX9_collect_32 : decode cX9_collect 32 = .ok (.invokevirtual 252, 3) := by decide +kernel
theorem dX9_collect_35 : decode cX9_collect 35 = .ok (.invokevirtual 264, 3) := by decide +kernel
theorem dX9_collect_38 : decode cX9_collect 38 = .ok (.pop, 1) := by decide +kernel
theorem dX9_collect_39 : decode cX9_collect 39 = .ok (.iinc 2 1, 3) := by decide +kernel
theorem dX9_collect_42 : decode cX9_collect 42 = .ok (.goto (-23), 3) := by decide +kernel
theorem dX9_collect_45 : decode cX9_collect 45 = .ok (.aload_n 0, 1) := by decide +kernel
theorem dX9_collect_46 : decode cX9_collect 46 = .ok (.getfield 7, 3) := by decide +kernel
theorem dX9_collect_49 : decode cX9_collect 49 = .ok (.iconst 3, 1) := by decide +kernel
theorem dX9_collect_50 : decode cX9_collect 50 = .ok (.iaload, 1) := by decide +kernel
theorem dX9_collect_51 : decode cX9_collect 51 = .ok (.ireturn, 1) := by decide +kernel
def X9_collect_b19 (a1 : Int32) (j45 : gM → Option (Int32 × gM)) (v6 : Int32) (m7 : gM) (k19 : Int32 → gM → Option (Int32 × gM)) : Option (Int32 × gM) :=
  gCall (X9_lengthOf a1 m7) (fun (r9 : Int32) (m8 : gM) => if r9 ≤ v6 then (j45 m8) else (gCall (X9_lineOf a1 v6 m8) (fun (r11 : Int32) (m10 : gM) => gCall (X9_gather r11 m10) (fun (r13 : Int32) (m12 : gM) => gLet (v6 + 1) (fun (x14 : Int32) => k19 x14 m12)))))
def X9_collect (a1 : Int32) (m : gM) : Option (Int32 × gM) :=
  gCall (X9_isTrace a1 m) (fun (r2 : Bool) (m1 : gM) => if r2 = true then (gPut m1 47 0 3 0 (fun (m3 : gM) => gJ0 (fun (m4 : gM) => gAt m4 47 0 3 (fun (x5 : Int32) => some (x5, m4))) (fun (j45 : gM → Option (Int32 × gM)) => gL1 FU (X9_collect_b19 a1 j45) 0 m3))) else (some ((-1), m1)))
set_option maxRecDepth 100000 in
set_option maxHeartbeats 4000000 in
theorem c_X9_collect (a1 : Int32) (m : gM) : gCon eI yX9_collect cX9_collect 3 (some .int) 3 [.inr (9, 0), .inl a1] m (X9_collect a1 m) := by
  refine gCon.of (lv := [some (.inr (9, 0)), some (.inl a1), none]) (by decide +kernel) (Nat.le_of_ble_eq_true rfl) rfl (fun X C => ?_)
  unfold X9_collect
  refine r_aload_n C dX9_collect_0 rfl rfl ?_
  refine r_iload_n C dX9_collect_1 rfl rfl ?_
  refine r_invB (t := 9) (kb := 0) (As := [.inl a1]) (st := []) C il_X9_255 co_X9_isTrace (by decide) rfl (c_X9_isTrace a1 m) (by decide) (by decide) rfl rfl (Nat.le_of_ble_eq_true rfl) dX9_collect_2 (fun r2 m1 => ?_)
  refine r_ifneB (tgt := 10) C dX9_collect_5 (by decide) ?_ ?_
  · refine r_aload_n C dX9_collect_10 rfl rfl ?_
    refine r_get (v := .inr (47, 0)) C fl_X9_7 dX9_collect_11 rfl ?_
    refine r_iconst (v := 3) C dX9_collect_14 (by decide) ?_
    refine r_iconst (v := 0) C dX9_collect_15 (by decide) ?_
    refine r_iast C rfl dX9_collect_16 (fun m3 => ?_)
    refine r_iconst (v := 0) C dX9_collect_17 (by decide) ?_
    refine r_istore_n (lv' := [some (.inr (9, 0)), some (.inl a1), some (.inl 0)]) C dX9_collect_18 rfl (by decide) rfl ?_
    refine r_j0 45 [some (.inr (9, 0)), none, none] [] (fun m4 => ?_) (fun j45 hj45 => ?_)
    · refine r_aload_n C dX9_collect_45 rfl rfl ?_
      refine r_get (v := .inr (47, 0)) C fl_X9_7 dX9_collect_46 rfl ?_
      refine r_iconst (v := 3) C dX9_collect_49 (by decide) ?_
      refine r_iald C rfl dX9_collect_50 (fun x5 => ?_)
      exact r_ireturn C dX9_collect_51
    refine r_weak (lv' := [some (.inr (9, 0)), some (.inl a1), some (.inl 0)]) ⟨rfl, rfl, rfl, trivial⟩ ?_
    refine r_l1 (pj := 19) (fun v6 => [some (.inr (9, 0)), some (.inl a1), some (.inl v6)]) (fun v6 m7 k19 hk19 => ?_) _ _ _
    unfold X9_collect_b19
    refine r_iload_n C dX9_collect_19 rfl rfl ?_
    refine r_aload_n C dX9_collect_20 rfl rfl ?_
    refine r_iload_n C dX9_collect_21 rfl rfl ?_
    refine r_invI (t := 9) (kb := 0) (As := [.inl a1]) (st := [.inl v6]) C il_X9_246 co_X9_lengthOf (by decide) rfl (c_X9_lengthOf a1 m7) (by decide) (by decide) rfl rfl (Nat.le_of_ble_eq_true rfl) dX9_collect_22 (fun r9 m8 => ?_)
    refine r_icmp_ge (tgt := 45) C dX9_collect_25 (by decide) ?_ ?_
    · exact r_weak (lv' := [some (.inr (9, 0)), none, none]) ⟨rfl, trivial⟩ (hj45 _)
    refine r_aload_n C dX9_collect_28 rfl rfl ?_
    refine r_aload_n C dX9_collect_29 rfl rfl ?_
    refine r_iload_n C dX9_collect_30 rfl rfl ?_
    refine r_iload_n C dX9_collect_31 rfl rfl ?_
    refine r_invI (t := 9) (kb := 0) (As := [.inl a1, .inl v6]) (st := [.inr (9, 0)]) C il_X9_252 co_X9_lineOf (by decide) rfl (c_X9_lineOf a1 v6 m8) (by decide) (by decide) rfl rfl (Nat.le_of_ble_eq_true rfl) dX9_collect_32 (fun r11 m10 => ?_)
    refine r_invI (t := 9) (kb := 0) (As := [.inl r11]) (st := []) C il_X9_264 co_X9_gather (by decide) rfl (c_X9_gather r11 m10) (by decide) (by decide) rfl rfl (Nat.le_of_ble_eq_true rfl) dX9_collect_35 (fun r13 m12 => ?_)
    refine r_pop C dX9_collect_38 ?_
    refine r_iinc (v := 1) C dX9_collect_39 (by decide) rfl (by decide) (fun x14 => ?_)
    show gw X eI _ [some (.inr (9, 0)), some (.inl a1), some (.inl x14)] _ _ _
    refine r_goto (tgt := 19) C dX9_collect_42 (by decide) ?_
    exact r_weak (lv' := [some (.inr (9, 0)), some (.inl a1), some (.inl x14)]) ⟨rfl, rfl, rfl, trivial⟩ (hk19 _ _)
  refine r_iconst (v := (-1)) C dX9_collect_8 (by decide) ?_
  exact r_ireturn C dX9_collect_9
theorem dX9_gathered_0 : decode cX9_gathered 0 = .ok (.iload_n 1, 1) := by decide +kernel
theorem dX9_gathered_1 : decode cX9_gathered 1 = .ok (.iconst (-1), 1) := by decide +kernel
theorem dX9_gathered_2 : decode cX9_gathered 2 = .ok (.if_icmp .ne 12, 3) := by decide +kernel
theorem dX9_gathered_5 : decode cX9_gathered 5 = .ok (.aload_n 0, 1) := by decide +kernel
theorem dX9_gathered_6 : decode cX9_gathered 6 = .ok (.getfield 7, 3) := by decide +kernel
theorem dX9_gathered_9 : decode cX9_gathered 9 = .ok (.iconst 3, 1) := by decide +kernel
theorem dX9_gathered_10 : decode cX9_gathered 10 = .ok (.iaload, 1) := by decide +kernel
theorem dX9_gathered_11 : decode cX9_gathered 11 = .ok (.goto 31, 3) := by decide +kernel
theorem dX9_gathered_14 : decode cX9_gathered 14 = .ok (.iload_n 1, 1) := by decide +kernel
theorem dX9_gathered_15 : decode cX9_gathered 15 = .ok (.iconst 0, 1) := by decide +kernel
theorem dX9_gathered_16 : decode cX9_gathered 16 = .ok (.aload_n 0, 1) := by decide +kernel
theorem dX9_gathered_17 : decode cX9_gathered 17 = .ok (.getfield 7, 3) := by decide +kernel
theorem dX9_gathered_20 : decode cX9_gathered 20 = .ok (.iconst 3, 1) := by decide +kernel
theorem dX9_gathered_21 : decode cX9_gathered 21 = .ok (.iaload, 1) := by decide +kernel
theorem dX9_gathered_22 : decode cX9_gathered 22 = .ok (.iconst 1, 1) := by decide +kernel
theorem dX9_gathered_23 : decode cX9_gathered 23 = .ok (.isub, 1) := by decide +kernel
theorem dX9_gathered_24 : decode cX9_gathered 24 = .ok (.invokestatic 77, 3) := by decide +kernel
theorem dX9_gathered_27 : decode cX9_gathered 27 = .ok (.ifCond .eq 14, 3) := by decide +kernel
theorem dX9_gathered_30 : decode cX9_gathered 30 = .ok (.aload_n 0, 1) := by decide +kernel
theorem dX9_gathered_31 : decode cX9_gathered 31 = .ok (.getfield 7, 3) := by decide +kernel
theorem dX9_gathered_34 : decode cX9_gathered 34 = .ok (.iconst 4, 1) := by decide +kernel
theorem dX9_gathered_35 : decode cX9_gathered 35 = .ok (.iload_n 1, 1) := by decide +kernel
theorem dX9_gathered_36 : decode cX9_gathered 36 = .ok (.iadd, 1) := by decide +kernel
theorem dX9_gathered_37 : decode cX9_gathered 37 = .ok (.iaload, 1) := by decide +kernel
theorem dX9_gathered_38 : decode cX9_gathered 38 = .ok (.goto 4, 3) := by decide +kernel
theorem dX9_gathered_41 : decode cX9_gathered 41 = .ok (.iconst (-1), 1) := by decide +kernel
theorem dX9_gathered_42 : decode cX9_gathered 42 = .ok (.ireturn, 1) := by decide +kernel
def X9_gathered (a1 : Int32) (m : gM) : Option (Int32 × gM) :=
  if a1 = (-1) then (gAt m 47 0 3 (fun (x5 : Int32) => some (x5, m))) else (gAt m 47 0 3 (fun (x1 : Int32) => gCall (X9_isIn a1 0 (x1 - 1) m) (fun (r3 : Bool) (m2 : gM) => if r3 = true then (gAt m2 47 0 (4 + a1) (fun (x4 : Int32) => some (x4, m2))) else (some ((-1), m2)))))
set_option maxRecDepth 100000 in
set_option maxHeartbeats 4000000 in
theorem c_X9_gathered (a1 : Int32) (m : gM) : gCon eI yX9_gathered cX9_gathered 2 (some .int) 1 [.inr (9, 0), .inl a1] m (X9_gathered a1 m) := by
  refine gCon.of (lv := [some (.inr (9, 0)), some (.inl a1)]) (by decide +kernel) (Nat.le_of_ble_eq_true rfl) rfl (fun X C => ?_)
  unfold X9_gathered
  refine r_iload_n C dX9_gathered_0 rfl rfl ?_
  refine r_iconst (v := (-1)) C dX9_gathered_1 (by decide) ?_
  refine r_icmp_ne (tgt := 14) C dX9_gathered_2 (by decide) ?_ ?_
  · refine r_iload_n C dX9_gathered_14 rfl rfl ?_
    refine r_iconst (v := 0) C dX9_gathered_15 (by decide) ?_
    refine r_aload_n C dX9_gathered_16 rfl rfl ?_
    refine r_get (v := .inr (47, 0)) C fl_X9_7 dX9_gathered_17 rfl ?_
    refine r_iconst (v := 3) C dX9_gathered_20 (by decide) ?_
    refine r_iald C rfl dX9_gathered_21 (fun x1 => ?_)
    refine r_iconst (v := 1) C dX9_gathered_22 (by decide) ?_
    refine r_isub C dX9_gathered_23 ?_
    refine r_insB (As := [.inl a1, .inl 0, .inl (x1 - 1)]) (st := []) C il_X9_77 co_X9_isIn (c_X9_isIn a1 0 (x1 - 1) m) (by decide) (by decide) rfl rfl (Nat.le_of_ble_eq_true rfl) dX9_gathered_24 (fun r3 m2 => ?_)
    refine r_ifeqB (tgt := 41) C dX9_gathered_27 (by decide) ?_ ?_
    · refine r_iconst (v := (-1)) C dX9_gathered_41 (by decide) ?_
      exact r_ireturn C dX9_gathered_42
    refine r_aload_n C dX9_gathered_30 rfl rfl ?_
    refine r_get (v := .inr (47, 0)) C fl_X9_7 dX9_gathered_31 rfl ?_
    refine r_iconst (v := 4) C dX9_gathered_34 (by decide) ?_
    refine r_iload_n C dX9_gathered_35 rfl rfl ?_
    refine r_iadd C dX9_gathered_36 ?_
    refine r_iald C rfl dX9_gathered_37 (fun x4 => ?_)
    refine r_goto (tgt := 42) C dX9_gathered_38 (by decide) ?_
    exact r_ireturn C dX9_gathered_42
  refine r_aload_n C dX9_gathered_5 rfl rfl ?_
  refine r_get (v := .inr (47, 0)) C fl_X9_7 dX9_gathered_6 rfl ?_
  refine r_iconst (v := 3) C dX9_gathered_9 (by decide) ?_
  refine r_iald C rfl dX9_gathered_10 (fun x5 => ?_)
  refine r_goto (tgt := 42) C dX9_gathered_11 (by decide) ?_
  exact r_ireturn C dX9_gathered_42
theorem dX9_inSlots_0 : decode cX9_inSlots 0 = .ok (.iconst 0, 1) := by decide +kernel
theorem dX9_inSlots_1 : decode cX9_inSlots 1 = .ok (.istore_n 1, 1) := by decide +kernel
theorem dX9_inSlots_2 : decode cX9_inSlots 2 = .ok (.iconst 0, 1) := by decide +kernel
theorem dX9_inSlots_3 : decode cX9_inSlots 3 = .ok (.istore_n 2, 1) := by decide +kernel
theorem dX9_inSlots_4 : decode cX9_inSlots 4 = .ok (.iload_n 2, 1) := by decide +kernel
theorem dX9_inSlots_5 : decode cX9_inSlots 5 = .ok (.bipush 64, 2) := by decide +kernel
theorem dX9_inSlots_7 : decode cX9_inSlots 7 = .ok (.if_icmp .ge 26, 3) := by decide +kernel
theorem dX9_inSlots_10 : decode cX9_inSlots 10 = .ok (.iload_n 1, 1) := by decide +kernel
theorem dX9_inSlots_11 : decode cX9_inSlots 11 = .ok (.aload_n 0, 1) := by decide +kernel
theorem dX9_inSlots_12 : decode cX9_inSlots 12 = .ok (.iload_n 2, 1) := by decide +kernel
theorem dX9_inSlots_13 : decode cX9_inSlots 13 = .ok (.invokevirtual 102, 3) := by decide +kernel
theorem dX9_inSlots_16 : decode cX9_inSlots 16 = .ok (.iconst (-1), 1) := by decide +kernel
theorem dX9_inSlots_17 : decode cX9_inSlots 17 = .ok (.if_icmp .ne 7, 3) := by decide +kernel
theorem dX9_inSlots_20 : decode cX9_inSlots 20 = .ok (.iconst 0, 1) := by decide +kernel
theorem dX9_inSlots_21 : decode cX9_inSlots 21 = .ok (.goto 4, 3) := by decide +kernel
theorem dX9_inSlots_24 : decode cX9_inSlots 24 = .ok (.iconst 1, 1) := by decide +kernel
theorem dX9_inSlots_25 : decode cX9_inSlots 25 = .ok (.iadd, 1) := by decide +kernel
theorem dX9_inSlots_26 : decode cX9_inSlots 26 = .ok (.istore_n 1, 1) := by decide +kernel
theorem dX9_inSlots_27 : decode cX9_inSlots 27 = .ok (.iinc 2 1, 3) := by decide +kernel
theorem dX9_inSlots_30 : decode cX9_inSlots 30 = .ok (.goto (-26), 3) := by decide +kernel
theorem dX9_inSlots_33 : decode cX9_inSlots 33 = .ok (.iload_n 1, 1) := by decide +kernel
theorem dX9_inSlots_34 : decode cX9_inSlots 34 = .ok (.ireturn, 1) := by decide +kernel
def X9_inSlots_b4 (v1 v2 : Int32) (m3 : gM) (k4 : Int32 → Int32 → gM → Option (Int32 × gM)) : Option (Int32 × gM) :=
  if 64 ≤ v2 then (some (v1, m3)) else (gCall (X9_lineAt v2 m3) (fun (r5 : Int32) (m4 : gM) => if r5 = (-1) then (gLet (v1 + 0) (fun (x8 : Int32) => gLet (v2 + 1) (fun (x9 : Int32) => k4 x8 x9 m4))) else (gLet (v1 + 1) (fun (x6 : Int32) => gLet (v2 + 1) (fun (x7 : Int32) => k4 x6 x7 m4)))))
def X9_inSlots (m : gM) : Option (Int32 × gM) :=
  gL2 FU X9_inSlots_b4 0 0 m
set_option maxRecDepth 100000 in
set_option maxHeartbeats 4000000 in
theorem c_X9_inSlots (m : gM) : gCon eI yX9_inSlots cX9_inSlots 3 (some .int) 2 [.inr (9, 0)] m (X9_inSlots m) := by
  refine gCon.of (lv := [some (.inr (9, 0)), none, none]) (by decide +kernel) (Nat.le_of_ble_eq_true rfl) rfl (fun X C => ?_)
  unfold X9_inSlots
  refine r_iconst (v := 0) C dX9_inSlots_0 (by decide) ?_
  refine r_istore_n (lv' := [some (.inr (9, 0)), some (.inl 0), none]) C dX9_inSlots_1 rfl (by decide) rfl ?_
  refine r_iconst (v := 0) C dX9_inSlots_2 (by decide) ?_
  refine r_istore_n (lv' := [some (.inr (9, 0)), some (.inl 0), some (.inl 0)]) C dX9_inSlots_3 rfl (by decide) rfl ?_
  refine r_weak (lv' := [some (.inr (9, 0)), some (.inl 0), some (.inl 0)]) ⟨rfl, rfl, rfl, trivial⟩ ?_
  refine r_l2 (pj := 4) (fun v1 v2 => [some (.inr (9, 0)), some (.inl v1), some (.inl v2)]) (fun v1 v2 m3 k4 hk4 => ?_) _ _ _ _
  unfold X9_inSlots_b4
  refine r_iload_n C dX9_inSlots_4 rfl rfl ?_
  refine r_bipush (v := 64) C dX9_inSlots_5 (by decide) ?_
  refine r_icmp_ge (tgt := 33) C dX9_inSlots_7 (by decide) ?_ ?_
  · refine r_iload_n C dX9_inSlots_33 rfl rfl ?_
    exact r_ireturn C dX9_inSlots_34
  refine r_iload_n C dX9_inSlots_10 rfl rfl ?_
  refine r_aload_n C dX9_inSlots_11 rfl rfl ?_
  refine r_iload_n C dX9_inSlots_12 rfl rfl ?_
  refine r_invI (t := 9) (kb := 0) (As := [.inl v2]) (st := [.inl v1]) C il_X9_102 co_X9_lineAt (by decide) rfl (c_X9_lineAt v2 m3) (by decide) (by decide) rfl rfl (Nat.le_of_ble_eq_true rfl) dX9_inSlots_13 (fun r5 m4 => ?_)
  refine r_iconst (v := (-1)) C dX9_inSlots_16 (by decide) ?_
  refine r_icmp_ne (tgt := 24) C dX9_inSlots_17 (by decide) ?_ ?_
  · refine r_iconst (v := 1) C dX9_inSlots_24 (by decide) ?_
    refine r_iadd C dX9_inSlots_25 ?_
    refine r_let (fun x6 => ?_)
    refine r_istore_n (lv' := [some (.inr (9, 0)), some (.inl x6), some (.inl v2)]) C dX9_inSlots_26 rfl (by decide) rfl ?_
    refine r_iinc (v := 1) C dX9_inSlots_27 (by decide) rfl (by decide) (fun x7 => ?_)
    show gw X eI _ [some (.inr (9, 0)), some (.inl x6), some (.inl x7)] _ _ _
    refine r_goto (tgt := 4) C dX9_inSlots_30 (by decide) ?_
    exact r_weak (lv' := [some (.inr (9, 0)), some (.inl x6), some (.inl x7)]) ⟨rfl, rfl, rfl, trivial⟩ (hk4 _ _ _)
  refine r_iconst (v := 0) C dX9_inSlots_20 (by decide) ?_
  refine r_goto (tgt := 25) C dX9_inSlots_21 (by decide) ?_
  refine r_iadd C dX9_inSlots_25 ?_
  refine r_let (fun x8 => ?_)
  refine r_istore_n (lv' := [some (.inr (9, 0)), some (.inl x8), some (.inl v2)]) C dX9_inSlots_26 rfl (by decide) rfl ?_
  refine r_iinc (v := 1) C dX9_inSlots_27 (by decide) rfl (by decide) (fun x9 => ?_)
  show gw X eI _ [some (.inr (9, 0)), some (.inl x8), some (.inl x9)] _ _ _
  refine r_goto (tgt := 4) C dX9_inSlots_30 (by decide) ?_
  exact r_weak (lv' := [some (.inr (9, 0)), some (.inl x8), some (.inl x9)]) ⟨rfl, rfl, rfl, trivial⟩ (hk4 _ _ _)
theorem dX9_pinned_0 : decode cX9_pinned 0 = .ok (.iconst 0, 1) := by decide +kernel
theorem dX9_pinned_1 : decode cX9_pinned 1 = .ok (.istore_n 1, 1) := by decide +kernel
theorem dX9_pinned_2 : decode cX9_pinned 2 = .ok (.iconst 0, 1) := by decide +kernel
theorem dX9_pinned_3 : decode cX9_pinned 3 = .ok (.istore_n 2, 1) := by decide +kernel
theorem dX9_pinned_4 : decode cX9_pinned 4 = .ok (.iload_n 2, 1) := by decide +kernel
theorem dX9_pinned_5 : decode cX9_pinned 5 = .ok (.bipush 64, 2) := by decide +kernel
theorem dX9_pinned_7 : decode cX9_pinned 7 = .ok (.if_icmp .ge 23, 3) := by decide +kernel
theorem dX9_pinned_10 : decode cX9_pinned 10 = .ok (.iload_n 1, 1) := by decide +kernel
theorem dX9_pinned_11 : decode cX9_pinned 11 = .ok (.aload_n 0, 1) := by decide +kernel
theorem dX9_pinned_12 : decode cX9_pinned 12 = .ok (.getfield 7, 3) := by decide +kernel
theorem dX9_pinned_15 : decode cX9_pinned 15 = .ok (.iload_n 2, 1) := by decide +kernel
theorem dX9_pinned_16 : decode cX9_pinned 16 = .ok (.invokestatic 96, 3) := by decide +kernel
theorem dX9_pinned_19 : decode cX9_pinned 19 = .ok (.iconst 4, 1) := by decide +kernel
theorem dX9_pinned_20 : decode cX9_pinned 20 = .ok (.iadd, 1) := by decide +kernel
theorem dX9_pinned_21 : decode cX9_pinned 21 = .ok (.iaload, 1) := by decide +kernel
theorem dX9_pinned_22 : decode cX9_pinned 22 = .ok (.iadd, 1) := by decide +kernel
theorem dX9_pinned_23 : decode cX9_pinned 23 = .ok (.istore_n 1, 1) := by decide +kernel
theorem dX9_pinned_24 : decode cX9_pinned 24 = .ok (.iinc 2 1, 3) := by decide +kernel
theorem dX9_pinned_27 : decode cX9_pinned 27 = .ok (.goto (-23), 3) := by decide +kernel
theorem dX9_pinned_30 : decode cX9_pinned 30 = .ok (.iload_n 1, 1) := by decide +kernel
theorem dX9_pinned_31 : decode cX9_pinned 31 = .ok (.ireturn, 1) := by decide +kernel
def X9_pinned_b4 (v1 v2 : Int32) (m3 : gM) (k4 : Int32 → Int32 → gM → Option (Int32 × gM)) : Option (Int32 × gM) :=
  if 64 ≤ v2 then (some (v1, m3)) else (gCall (X9_at v2 m3) (fun (r5 : Int32) (m4 : gM) => gAt m4 47 0 (r5 + 4) (fun (x6 : Int32) => gLet (v1 + x6) (fun (x7 : Int32) => gLet (v2 + 1) (fun (x8 : Int32) => k4 x7 x8 m4)))))
def X9_pinned (m : gM) : Option (Int32 × gM) :=
  gL2 FU X9_pinned_b4 0 0 m
set_option maxRecDepth 100000 in
set_option maxHeartbeats 4000000 in
theorem c_X9_pinned (m : gM) : gCon eI yX9_pinned cX9_pinned 3 (some .int) 1 [.inr (9, 0)] m (X9_pinned m) := by
  refine gCon.of (lv := [some (.inr (9, 0)), none, none]) (by decide +kernel) (Nat.le_of_ble_eq_true rfl) rfl (fun X C => ?_)
  unfold X9_pinned
  refine r_iconst (v := 0) C dX9_pinned_0 (by decide) ?_
  refine r_istore_n (lv' := [some (.inr (9, 0)), some (.inl 0), none]) C dX9_pinned_1 rfl (by decide) rfl ?_
  refine r_iconst (v := 0) C dX9_pinned_2 (by decide) ?_
  refine r_istore_n (lv' := [some (.inr (9, 0)), some (.inl 0), some (.inl 0)]) C dX9_pinned_3 rfl (by decide) rfl ?_
  refine r_weak (lv' := [some (.inr (9, 0)), some (.inl 0), some (.inl 0)]) ⟨rfl, rfl, rfl, trivial⟩ ?_
  refine r_l2 (pj := 4) (fun v1 v2 => [some (.inr (9, 0)), some (.inl v1), some (.inl v2)]) (fun v1 v2 m3 k4 hk4 => ?_) _ _ _ _
  unfold X9_pinned_b4
  refine r_iload_n C dX9_pinned_4 rfl rfl ?_
  refine r_bipush (v := 64) C dX9_pinned_5 (by decide) ?_
  refine r_icmp_ge (tgt := 30) C dX9_pinned_7 (by decide) ?_ ?_
  · refine r_iload_n C dX9_pinned_30 rfl rfl ?_
    exact r_ireturn C dX9_pinned_31
  refine r_iload_n C dX9_pinned_10 rfl rfl ?_
  refine r_aload_n C dX9_pinned_11 rfl rfl ?_
  refine r_get (v := .inr (47, 0)) C fl_X9_7 dX9_pinned_12 rfl ?_
  refine r_iload_n C dX9_pinned_15 rfl rfl ?_
  refine r_insI (As := [.inl v2]) (st := [.inr (47, 0), .inl v1]) C il_X9_96 co_X9_at (c_X9_at v2 m3) (by decide) (by decide) rfl rfl (Nat.le_of_ble_eq_true rfl) dX9_pinned_16 (fun r5 m4 => ?_)
  refine r_iconst (v := 4) C dX9_pinned_19 (by decide) ?_
  refine r_iadd C dX9_pinned_20 ?_
  refine r_iald C rfl dX9_pinned_21 (fun x6 => ?_)
  refine r_iadd C dX9_pinned_22 ?_
  refine r_let (fun x7 => ?_)
  refine r_istore_n (lv' := [some (.inr (9, 0)), some (.inl x7), some (.inl v2)]) C dX9_pinned_23 rfl (by decide) rfl ?_
  refine r_iinc (v := 1) C dX9_pinned_24 (by decide) rfl (by decide) (fun x8 => ?_)
  show gw X eI _ [some (.inr (9, 0)), some (.inl x7), some (.inl x8)] _ _ _
  refine r_goto (tgt := 4) C dX9_pinned_27 (by decide) ?_
  exact r_weak (lv' := [some (.inr (9, 0)), some (.inl x7), some (.inl x8)]) ⟨rfl, rfl, rfl, trivial⟩ (hk4 _ _ _)
theorem dX9_is_0 : decode cX9_is 0 = .ok (.iload_n 1, 1) := by decide +kernel
theorem dX9_is_1 : decode cX9_is 1 = .ok (.iconst 0, 1) := by decide +kernel
theorem dX9_is_2 : decode cX9_is 2 = .ok (.bipush 8, 2) := by decide +kernel
theorem dX9_is_4 : decode cX9_is 4 = .ok (.invokestatic 77, 3) := by decide +kernel
theorem dX9_is_7 : decode cX9_is 7 = .ok (.ifCond .eq 13, 3) := by decide +kernel
theorem dX9_is_10 : decode cX9_is 10 = .ok (.aload_n 0, 1) := by decide +kernel
theorem dX9_is_11 : decode cX9_is 11 = .ok (.getfield 7, 3) := by decide +kernel
theorem dX9_is_14 : decode cX9_is 14 = .ok (.bipush 36, 2) := by decide +kernel
theorem dX9_is_16 : decode cX9_is 16 = .ok (.iload_n 1, 1) := by decide +kernel
theorem dX9_is_17 : decode cX9_is 17 = .ok (.iadd, 1) := by decide +kernel
theorem dX9_is_18 : decode cX9_is 18 = .ok (.iaload, 1) := by decide +kernel
theorem dX9_is_19 : decode cX9_is 19 = .ok (.ireturn, 1) := by decide +kernel
theorem dX9_is_20 : decode cX9_is 20 = .ok (.iload_n 1, 1) := by decide +kernel
theorem dX9_is_21 : decode cX9_is 21 = .ok (.tableswitch 50 9 11 #[27, 37, 45], 27) := by decide +kernel
theorem dX9_is_48 : decode cX9_is 48 = .ok (.aload_n 0, 1) := by decide +kernel
theorem dX9_is_49 : decode cX9_is 49 = .ok (.invokevirtual 237, 3) := by decide +kernel
theorem dX9_is_52 : decode cX9_is 52 = .ok (.aload_n 0, 1) := by decide +kernel
theorem dX9_is_53 : decode cX9_is 53 = .ok (.invokevirtual 267, 3) := by decide +kernel
theorem dX9_is_56 : decode cX9_is 56 = .ok (.isub, 1) := by decide +kernel
theorem dX9_is_57 : decode cX9_is 57 = .ok (.ireturn, 1) := by decide +kernel
theorem dX9_is_58 : decode cX9_is 58 = .ok (.aload_n 0, 1) := by decide +kernel
theorem dX9_is_59 : decode cX9_is 59 = .ok (.getfield 7, 3) := by decide +kernel
theorem dX9_is_62 : decode cX9_is 62 = .ok (.bipush 45, 2) := by decide +kernel
theorem dX9_is_64 : decode cX9_is 64 = .ok (.iaload, 1) := by decide +kernel
theorem dX9_is_65 : decode cX9_is 65 = .ok (.ireturn, 1) := by decide +kernel
theorem dX9_is_66 : decode cX9_is 66 = .ok (.aload_n 0, 1) := by decide +kernel
theorem dX9_is_67 : decode cX9_is 67 = .ok (.invokevirtual 270, 3) := by decide +kernel
theorem dX9_is_70 : decode cX9_is 70 = .ok (.ireturn, 1) := by decide +kernel
theorem dX9_is_71 : decode cX9_is 71 = .ok (.iconst (-1), 1) := by decide +kernel
theorem dX9_is_72 : decode cX9_is 72 = .ok (.ireturn, 1) := by decide +kernel
def X9_is (a1 : Int32) (m : gM) : Option (Int32 × gM) :=
  gCall (X9_isIn a1 0 8 m) (fun (r2 : Bool) (m1 : gM) => if r2 = true then (gAt m1 47 0 (36 + a1) (fun (x10 : Int32) => some (x10, m1))) else (if a1 = 9 then (gCall (X9_slotsAll m1) (fun (r4 : Int32) (m3 : gM) => gCall (X9_inSlots m3) (fun (r6 : Int32) (m5 : gM) => some (r4 - r6, m5)))) else (if a1 = 10 then (gAt m1 47 0 45 (fun (x7 : Int32) => some (x7, m1))) else (if a1 = 11 then (gCall (X9_pinned m1) (fun (r9 : Int32) (m8 : gM) => some (r9, m8))) else (some ((-1), m1))))))
set_option maxRecDepth 100000 in
set_option maxHeartbeats 4000000 in
theorem c_X9_is (a1 : Int32) (m : gM) : gCon eI yX9_is cX9_is 2 (some .int) 3 [.inr (9, 0), .inl a1] m (X9_is a1 m) := by
  refine gCon.of (lv := [some (.inr (9, 0)), some (.inl a1)]) (by decide +kernel) (Nat.le_of_ble_eq_true rfl) rfl (fun X C => ?_)
  unfold X9_is
  refine r_iload_n C dX9_is_0 rfl rfl ?_
  refine r_iconst (v := 0) C dX9_is_1 (by decide) ?_
  refine r_bipush (v := 8) C dX9_is_2 (by decide) ?_
  refine r_insB (As := [.inl a1, .inl 0, .inl 8]) (st := []) C il_X9_77 co_X9_isIn (c_X9_isIn a1 0 8 m) (by decide) (by decide) rfl rfl (Nat.le_of_ble_eq_true rfl) dX9_is_4 (fun r2 m1 => ?_)
  refine r_ifeqB (tgt := 20) C dX9_is_7 (by decide) ?_ ?_
  · refine r_iload_n C dX9_is_20 rfl rfl ?_
    refine r_peel (v := 9) ?_ (fun h9 => ?_)
    · refine r_tsw (x := 9) (off := 27) (tgt := 48) C dX9_is_21 (by decide) (by decide) (by decide) (by decide) ?_
      refine r_aload_n C dX9_is_48 rfl rfl ?_
      refine r_invI (t := 9) (kb := 0) (As := []) (st := []) C il_X9_237 co_X9_slotsAll (by decide) rfl (c_X9_slotsAll m1) (by decide) (by decide) rfl rfl (Nat.le_of_ble_eq_true rfl) dX9_is_49 (fun r4 m3 => ?_)
      refine r_aload_n C dX9_is_52 rfl rfl ?_
      refine r_invI (t := 9) (kb := 0) (As := []) (st := [.inl r4]) C il_X9_267 co_X9_inSlots (by decide) rfl (c_X9_inSlots m3) (by decide) (by decide) rfl rfl (Nat.le_of_ble_eq_true rfl) dX9_is_53 (fun r6 m5 => ?_)
      refine r_isub C dX9_is_56 ?_
      exact r_ireturn C dX9_is_57
    refine r_peel (v := 10) ?_ (fun h10 => ?_)
    · refine r_tsw (x := 10) (off := 37) (tgt := 58) C dX9_is_21 (by decide) (by decide) (by decide) (by decide) ?_
      refine r_aload_n C dX9_is_58 rfl rfl ?_
      refine r_get (v := .inr (47, 0)) C fl_X9_7 dX9_is_59 rfl ?_
      refine r_bipush (v := 45) C dX9_is_62 (by decide) ?_
      refine r_iald C rfl dX9_is_64 (fun x7 => ?_)
      exact r_ireturn C dX9_is_65
    refine r_peel (v := 11) ?_ (fun h11 => ?_)
    · refine r_tsw (x := 11) (off := 45) (tgt := 66) C dX9_is_21 (by decide) (by decide) (by decide) (by decide) ?_
      refine r_aload_n C dX9_is_66 rfl rfl ?_
      refine r_invI (t := 9) (kb := 0) (As := []) (st := []) C il_X9_270 co_X9_pinned (by decide) rfl (c_X9_pinned m1) (by decide) (by decide) rfl rfl (Nat.le_of_ble_eq_true rfl) dX9_is_67 (fun r9 m8 => ?_)
      exact r_ireturn C dX9_is_70
    refine r_tswO (tgt := 71) C dX9_is_21 (by have e9 := lv_neT h9 (a := 9) (by decide); have e10 := lv_neT h10 (a := 10) (by decide); have e11 := lv_neT h11 (a := 11) (by decide); omega) (by decide) ?_
    refine r_iconst (v := (-1)) C dX9_is_71 (by decide) ?_
    exact r_ireturn C dX9_is_72
  refine r_aload_n C dX9_is_10 rfl rfl ?_
  refine r_get (v := .inr (47, 0)) C fl_X9_7 dX9_is_11 rfl ?_
  refine r_bipush (v := 36) C dX9_is_14 (by decide) ?_
  refine r_iload_n C dX9_is_16 rfl rfl ?_
  refine r_iadd C dX9_is_17 ?_
  refine r_iald C rfl dX9_is_18 (fun x10 => ?_)
  exact r_ireturn C dX9_is_19
theorem dX9_masked_0 : decode cX9_masked 0 = .ok (.aload_n 0, 1) := by decide +kernel
theorem dX9_masked_1 : decode cX9_masked 1 = .ok (.iload_n 1, 1) := by decide +kernel
theorem dX9_masked_2 : decode cX9_masked 2 = .ok (.iload_n 2, 1) := by decide +kernel
theorem dX9_masked_3 : decode cX9_masked 3 = .ok (.invokevirtual 243, 3) := by decide +kernel
theorem dX9_masked_6 : decode cX9_masked 6 = .ok (.ifCond .eq 16, 3) := by decide +kernel
theorem dX9_masked_9 : decode cX9_masked 9 = .ok (.aload_n 0, 1) := by decide +kernel
theorem dX9_masked_10 : decode cX9_masked 10 = .ok (.getfield 7, 3) := by decide +kernel
theorem dX9_masked_13 : decode cX9_masked 13 = .ok (.iload_n 1, 1) := by decide +kernel
theorem dX9_masked_14 : decode cX9_masked 14 = .ok (.iload_n 2, 1) := by decide +kernel
theorem dX9_masked_15 : decode cX9_masked 15 = .ok (.invokestatic 85, 3) := by decide +kernel
theorem dX9_masked_18 : decode cX9_masked 18 = .ok (.iaload, 1) := by decide +kernel
theorem dX9_masked_19 : decode cX9_masked 19 = .ok (.goto 4, 3) := by decide +kernel
theorem dX9_masked_22 : decode cX9_masked 22 = .ok (.iconst (-1), 1) := by decide +kernel
theorem dX9_masked_23 : decode cX9_masked 23 = .ok (.ireturn, 1) := by decide +kernel
def X9_masked (a1 : Int32) (a2 : Int32) (m : gM) : Option (Int32 × gM) :=
  gCall (X9_isBit a1 a2 m) (fun (r2 : Bool) (m1 : gM) => if r2 = true then (gCall (X9_maskAt a1 a2 m1) (fun (r4 : Int32) (m3 : gM) => gAt m3 47 0 r4 (fun (x5 : Int32) => some (x5, m3)))) else (some ((-1), m1)))
set_option maxRecDepth 100000 in
set_option maxHeartbeats 4000000 in
theorem c_X9_masked (a1 : Int32) (a2 : Int32) (m : gM) : gCon eI yX9_masked cX9_masked 3 (some .int) 3 [.inr (9, 0), .inl a1, .inl a2] m (X9_masked a1 a2 m) := by
  refine gCon.of (lv := [some (.inr (9, 0)), some (.inl a1), some (.inl a2)]) (by decide +kernel) (Nat.le_of_ble_eq_true rfl) rfl (fun X C => ?_)
  unfold X9_masked
  refine r_aload_n C dX9_masked_0 rfl rfl ?_
  refine r_iload_n C dX9_masked_1 rfl rfl ?_
  refine r_iload_n C dX9_masked_2 rfl rfl ?_
  refine r_invB (t := 9) (kb := 0) (As := [.inl a1, .inl a2]) (st := []) C il_X9_243 co_X9_isBit (by decide) rfl (c_X9_isBit a1 a2 m) (by decide) (by decide) rfl rfl (Nat.le_of_ble_eq_true rfl) dX9_masked_3 (fun r2 m1 => ?_)
  refine r_ifeqB (tgt := 22) C dX9_masked_6 (by decide) ?_ ?_
  · refine r_iconst (v := (-1)) C dX9_masked_22 (by decide) ?_
    exact r_ireturn C dX9_masked_23
  refine r_aload_n C dX9_masked_9 rfl rfl ?_
  refine r_get (v := .inr (47, 0)) C fl_X9_7 dX9_masked_10 rfl ?_
  refine r_iload_n C dX9_masked_13 rfl rfl ?_
  refine r_iload_n C dX9_masked_14 rfl rfl ?_
  refine r_insI (As := [.inl a1, .inl a2]) (st := [.inr (47, 0)]) C il_X9_85 co_X9_maskAt (c_X9_maskAt a1 a2 m1) (by decide) (by decide) rfl rfl (Nat.le_of_ble_eq_true rfl) dX9_masked_15 (fun r4 m3 => ?_)
  refine r_iald C rfl dX9_masked_18 (fun x5 => ?_)
  refine r_goto (tgt := 23) C dX9_masked_19 (by decide) ?_
  exact r_ireturn C dX9_masked_23
