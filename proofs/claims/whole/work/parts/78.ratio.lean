/-! LAYER 1: ratio, walked by hand: the component. -/
theorem dX8_ratio_0 : decode cX8_ratio 0 = .ok (.aload_n 0, 1) := by decide +kernel
theorem dX8_ratio_1 : decode cX8_ratio 1 = .ok (.getfield 10, 3) := by decide +kernel
theorem dX8_ratio_4 : decode cX8_ratio 4 = .ok (.getfield 82, 3) := by decide +kernel
theorem dX8_ratio_7 : decode cX8_ratio 7 = .ok (.getfield 235, 3) := by decide +kernel
theorem dX8_ratio_10 : decode cX8_ratio 10 = .ok (.iconst 0, 1) := by decide +kernel
theorem dX8_ratio_11 : decode cX8_ratio 11 = .ok (.iaload, 1) := by decide +kernel
theorem dX8_ratio_12 : decode cX8_ratio 12 = .ok (.istore_n 1, 1) := by decide +kernel
theorem dX8_ratio_13 : decode cX8_ratio 13 = .ok (.iload_n 1, 1) := by decide +kernel
theorem dX8_ratio_14 : decode cX8_ratio 14 = .ok (.aload_n 0, 1) := by decide +kernel
theorem dX8_ratio_15 : decode cX8_ratio 15 = .ok (.getfield 10, 3) := by decide +kernel
theorem dX8_ratio_18 : decode cX8_ratio 18 = .ok (.getfield 82, 3) := by decide +kernel
theorem dX8_ratio_21 : decode cX8_ratio 21 = .ok (.getfield 235, 3) := by decide +kernel
theorem dX8_ratio_24 : decode cX8_ratio 24 = .ok (.iconst 1, 1) := by decide +kernel
theorem dX8_ratio_25 : decode cX8_ratio 25 = .ok (.iaload, 1) := by decide +kernel
theorem dX8_ratio_26 : decode cX8_ratio 26 = .ok (.iadd, 1) := by decide +kernel
theorem dX8_ratio_27 : decode cX8_ratio 27 = .ok (.istore_n 2, 1) := by decide +kernel
theorem dX8_ratio_28 : decode cX8_ratio 28 = .ok (.iload_n 1, 1) := by decide +kernel
theorem dX8_ratio_29 : decode cX8_ratio 29 = .ok (.ifCond .le 7, 3) := by decide +kernel
theorem dX8_ratio_32 : decode cX8_ratio 32 = .ok (.iload_n 2, 1) := by decide +kernel
theorem dX8_ratio_33 : decode cX8_ratio 33 = .ok (.ifCond .gt 5, 3) := by decide +kernel
theorem dX8_ratio_36 : decode cX8_ratio 36 = .ok (.lconst 0, 1) := by decide +kernel
theorem dX8_ratio_37 : decode cX8_ratio 37 = .ok (.lreturn, 1) := by decide +kernel
theorem dX8_ratio_38 : decode cX8_ratio 38 = .ok (.iload_n 1, 1) := by decide +kernel
theorem dX8_ratio_39 : decode cX8_ratio 39 = .ok (.i2d, 1) := by decide +kernel
theorem dX8_ratio_40 : decode cX8_ratio 40 = .ok (.iload_n 2, 1) := by decide +kernel
theorem dX8_ratio_41 : decode cX8_ratio 41 = .ok (.i2d, 1) := by decide +kernel
theorem dX8_ratio_42 : decode cX8_ratio 42 = .ok (.ddiv, 1) := by decide +kernel
theorem dX8_ratio_43 : decode cX8_ratio 43 = .ok (.dstore_n 3, 1) := by decide +kernel
theorem dX8_ratio_44 : decode cX8_ratio 44 = .ok (.sipush 1023, 3) := by decide +kernel
theorem dX8_ratio_47 : decode cX8_ratio 47 = .ok (.istore 5, 2) := by decide +kernel
theorem dX8_ratio_49 : decode cX8_ratio 49 = .ok (.iconst 0, 1) := by decide +kernel
theorem dX8_ratio_50 : decode cX8_ratio 50 = .ok (.istore 6, 2) := by decide +kernel
theorem dX8_ratio_52 : decode cX8_ratio 52 = .ok (.iload 6, 2) := by decide +kernel
theorem dX8_ratio_54 : decode cX8_ratio 54 = .ok (.bipush 64, 2) := by decide +kernel
theorem dX8_ratio_56 : decode cX8_ratio 56 = .ok (.if_icmp .ge 24, 3) := by decide +kernel
theorem dX8_ratio_59 : decode cX8_ratio 59 = .ok (.dload_n 3, 1) := by decide +kernel
theorem dX8_ratio_60 : decode cX8_ratio 60 = .ok (.dconst 1, 1) := by decide +kernel
theorem dX8_ratio_61 : decode cX8_ratio 61 = .ok (.dcmp .g, 1) := by decide +kernel
theorem dX8_ratio_62 : decode cX8_ratio 62 = .ok (.ifCond .ge 18, 3) := by decide +kernel
theorem dX8_ratio_65 : decode cX8_ratio 65 = .ok (.dload_n 3, 1) := by decide +kernel
theorem dX8_ratio_66 : decode cX8_ratio 66 = .ok (.ldc2_w 399, 3) := by decide +kernel
theorem dX8_ratio_69 : decode cX8_ratio 69 = .ok (.dmul, 1) := by decide +kernel
theorem dX8_ratio_70 : decode cX8_ratio 70 = .ok (.dstore_n 3, 1) := by decide +kernel
theorem dX8_ratio_71 : decode cX8_ratio 71 = .ok (.iinc 5 (-1), 3) := by decide +kernel
theorem dX8_ratio_74 : decode cX8_ratio 74 = .ok (.iinc 6 1, 3) := by decide +kernel
theorem dX8_ratio_77 : decode cX8_ratio 77 = .ok (.goto (-25), 3) := by decide +kernel
theorem dX8_ratio_80 : decode cX8_ratio 80 = .ok (.dload_n 3, 1) := by decide +kernel
theorem dX8_ratio_81 : decode cX8_ratio 81 = .ok (.dconst 1, 1) := by decide +kernel
theorem dX8_ratio_82 : decode cX8_ratio 82 = .ok (.dsub, 1) := by decide +kernel
theorem dX8_ratio_83 : decode cX8_ratio 83 = .ok (.ldc2_w 401, 3) := by decide +kernel
theorem dX8_ratio_86 : decode cX8_ratio 86 = .ok (.dmul, 1) := by decide +kernel
theorem dX8_ratio_87 : decode cX8_ratio 87 = .ok (.d2l, 1) := by decide +kernel
theorem dX8_ratio_88 : decode cX8_ratio 88 = .ok (.lstore 6, 2) := by decide +kernel
theorem dX8_ratio_90 : decode cX8_ratio 90 = .ok (.iload 5, 2) := by decide +kernel
theorem dX8_ratio_92 : decode cX8_ratio 92 = .ok (.i2l, 1) := by decide +kernel
theorem dX8_ratio_93 : decode cX8_ratio 93 = .ok (.bipush 52, 2) := by decide +kernel
theorem dX8_ratio_95 : decode cX8_ratio 95 = .ok (.lshl, 1) := by decide +kernel
theorem dX8_ratio_96 : decode cX8_ratio 96 = .ok (.lload 6, 2) := by decide +kernel
theorem dX8_ratio_98 : decode cX8_ratio 98 = .ok (.lor, 1) := by decide +kernel
theorem dX8_ratio_99 : decode cX8_ratio 99 = .ok (.lreturn, 1) := by decide +kernel
theorem dX9_ratio_0 : decode cX9_ratio 0 = .ok (.aload_n 0, 1) := by decide +kernel
theorem dX9_ratio_1 : decode cX9_ratio 1 = .ok (.getfield 7, 3) := by decide +kernel
theorem dX9_ratio_4 : decode cX9_ratio 4 = .ok (.bipush 39, 2) := by decide +kernel
theorem dX9_ratio_6 : decode cX9_ratio 6 = .ok (.iaload, 1) := by decide +kernel
theorem dX9_ratio_7 : decode cX9_ratio 7 = .ok (.aload_n 0, 1) := by decide +kernel
theorem dX9_ratio_8 : decode cX9_ratio 8 = .ok (.getfield 7, 3) := by decide +kernel
theorem dX9_ratio_11 : decode cX9_ratio 11 = .ok (.bipush 40, 2) := by decide +kernel
theorem dX9_ratio_13 : decode cX9_ratio 13 = .ok (.iaload, 1) := by decide +kernel
theorem dX9_ratio_14 : decode cX9_ratio 14 = .ok (.iadd, 1) := by decide +kernel
theorem dX9_ratio_15 : decode cX9_ratio 15 = .ok (.ifCond .ne 7, 3) := by decide +kernel
theorem dX9_ratio_18 : decode cX9_ratio 18 = .ok (.lconst 0, 1) := by decide +kernel
theorem dX9_ratio_19 : decode cX9_ratio 19 = .ok (.goto 31, 3) := by decide +kernel
theorem dX9_ratio_22 : decode cX9_ratio 22 = .ok (.aload_n 0, 1) := by decide +kernel
theorem dX9_ratio_23 : decode cX9_ratio 23 = .ok (.getfield 7, 3) := by decide +kernel
theorem dX9_ratio_26 : decode cX9_ratio 26 = .ok (.bipush 39, 2) := by decide +kernel
theorem dX9_ratio_28 : decode cX9_ratio 28 = .ok (.iaload, 1) := by decide +kernel
theorem dX9_ratio_29 : decode cX9_ratio 29 = .ok (.i2d, 1) := by decide +kernel
theorem dX9_ratio_30 : decode cX9_ratio 30 = .ok (.aload_n 0, 1) := by decide +kernel
theorem dX9_ratio_31 : decode cX9_ratio 31 = .ok (.getfield 7, 3) := by decide +kernel
theorem dX9_ratio_34 : decode cX9_ratio 34 = .ok (.bipush 39, 2) := by decide +kernel
theorem dX9_ratio_36 : decode cX9_ratio 36 = .ok (.iaload, 1) := by decide +kernel
theorem dX9_ratio_37 : decode cX9_ratio 37 = .ok (.aload_n 0, 1) := by decide +kernel
theorem dX9_ratio_38 : decode cX9_ratio 38 = .ok (.getfield 7, 3) := by decide +kernel
theorem dX9_ratio_41 : decode cX9_ratio 41 = .ok (.bipush 40, 2) := by decide +kernel
theorem dX9_ratio_43 : decode cX9_ratio 43 = .ok (.iaload, 1) := by decide +kernel
theorem dX9_ratio_44 : decode cX9_ratio 44 = .ok (.iadd, 1) := by decide +kernel
theorem dX9_ratio_45 : decode cX9_ratio 45 = .ok (.i2d, 1) := by decide +kernel
theorem dX9_ratio_46 : decode cX9_ratio 46 = .ok (.ddiv, 1) := by decide +kernel
theorem dX9_ratio_47 : decode cX9_ratio 47 = .ok (.invokestatic 353, 3) := by decide +kernel
theorem dX9_ratio_50 : decode cX9_ratio 50 = .ok (.lreturn, 1) := by decide +kernel
theorem dJxe99ae_isNaN_b9ae7_0 : decode cJxe99ae_isNaN_b9ae7 0 = .ok (.dload_n 0, 1) := by decide +kernel
theorem dJxe99ae_isNaN_b9ae7_1 : decode cJxe99ae_isNaN_b9ae7 1 = .ok (.dload_n 0, 1) := by decide +kernel
theorem dJxe99ae_isNaN_b9ae7_2 : decode cJxe99ae_isNaN_b9ae7 2 = .ok (.dcmp .l, 1) := by decide +kernel
theorem dJxe99ae_isNaN_b9ae7_3 : decode cJxe99ae_isNaN_b9ae7 3 = .ok (.ifCond .eq 7, 3) := by decide +kernel
theorem dJxe99ae_isNaN_b9ae7_6 : decode cJxe99ae_isNaN_b9ae7 6 = .ok (.iconst 1, 1) := by decide +kernel
theorem dJxe99ae_isNaN_b9ae7_7 : decode cJxe99ae_isNaN_b9ae7 7 = .ok (.goto 4, 3) := by decide +kernel
theorem dJxe99ae_isNaN_b9ae7_10 : decode cJxe99ae_isNaN_b9ae7 10 = .ok (.iconst 0, 1) := by decide +kernel
theorem dJxe99ae_isNaN_b9ae7_11 : decode cJxe99ae_isNaN_b9ae7 11 = .ok (.ireturn, 1) := by decide +kernel
theorem dJxe99ae_doubleToLongBits_ccdee_0 : decode cJxe99ae_doubleToLongBits_ccdee 0 = .ok (.dload_n 0, 1) := by decide +kernel
theorem dJxe99ae_doubleToLongBits_ccdee_1 : decode cJxe99ae_doubleToLongBits_ccdee 1 = .ok (.invokestatic 122, 3) := by decide +kernel
theorem dJxe99ae_doubleToLongBits_ccdee_4 : decode cJxe99ae_doubleToLongBits_ccdee 4 = .ok (.ifCond .ne 8, 3) := by decide +kernel
theorem dJxe99ae_doubleToLongBits_ccdee_7 : decode cJxe99ae_doubleToLongBits_ccdee 7 = .ok (.dload_n 0, 1) := by decide +kernel
theorem dJxe99ae_doubleToLongBits_ccdee_8 : decode cJxe99ae_doubleToLongBits_ccdee 8 = .ok (.invokestatic 134, 3) := by decide +kernel
theorem dJxe99ae_doubleToLongBits_ccdee_11 : decode cJxe99ae_doubleToLongBits_ccdee 11 = .ok (.lreturn, 1) := by decide +kernel
theorem dJxe99ae_doubleToLongBits_ccdee_12 : decode cJxe99ae_doubleToLongBits_ccdee 12 = .ok (.ldc2_w 137, 3) := by decide +kernel
theorem dJxe99ae_doubleToLongBits_ccdee_15 : decode cJxe99ae_doubleToLongBits_ccdee 15 = .ok (.lreturn, 1) := by decide +kernel
theorem cd_399 : Cond.constantDouble RX8 399 dTwo ∈ gU := gU_mem (by decide +kernel) rfl
theorem cd_401 : Cond.constantDouble RX8 401 dBig ∈ gU := gU_mem (by decide +kernel) rfl
def eL : Int64 → Option Value := fun x => some (.long x)
def rW (X : gX) (σ : gM) (v : Int64) (H : Heap) (locs : List Loc) (pc : Nat) (ls : Array Slot) (st : List Value) : Prop := match X with
  | (p, l, e, h, s, m, args, below, meth, c, E, _) => va_P E.1 vwCl (gW E σ) H → va_S (gA E) s.heap H locs → W p l e (grm h) s m args below meth c H locs 0 0 (MQ below (gQc E (eL v) σ) args s 0 0 (gA E)) (F0 m pc ls st)
theorem ratio_end {X : gX} (C : gC X RX8 cX8_ratio 0 8 (some .long)) {σ : gM} {H : Heap} {locs : List Loc} {ls : Array Slot} {x d : UInt64} {c s : Nat} {i : Int32} (hN : ND x c (-52)) (hD : ND d c (-52 - (s : Int))) (hs : s ≤ 60) (hl : lv_has ls 8 [(6, .int i), (5, .int (nI (1023 - s))), (3, .double x)]) : rW X σ d.toInt64 H locs 80 ls [] := by
  obtain ⟨p, l, e, h', st, m, args, below, meth, co, E, nL'⟩ := X
  obtain ⟨rfl, rfl, hx, hb, hml, hown, hts, hNW, hK, hE, hlk, hrt⟩ := C
  intro hP hS
  refine lv_dload_n hx hb dX8_ratio_80 rfl (lv_at hl 2 rfl) ?_
  refine lv_dconst1 hx hb dX8_ratio_81 ?_
  refine lv_dsub hx hb dX8_ratio_82 (frac hN).1 ?_
  refine lv_ldc2d hx hb hown (hts _ cd_401) dX8_ratio_83 ?_
  refine lv_dmul hx hb dX8_ratio_86 (frac hN).2.1 ?_
  refine lv_d2l hx hb dX8_ratio_87 ?_
  rw [(frac hN).2.2]
  refine lv_lstore hx hb dX8_ratio_88 hl (by decide) rfl (fun ls2 hl2 => ?_)
  refine lv_iload hx hb dX8_ratio_90 (lv_at hl2 1 rfl) ?_
  refine lv_i2l hx hb dX8_ratio_92 rfl ?_
  refine lv_bipush (v := 52) hx hb dX8_ratio_93 (by decide) ?_
  refine lv_lshl hx hb dX8_ratio_95 rfl ?_
  refine lv_lload hx hb dX8_ratio_96 (lv_at hl2 0 rfl) ?_
  refine lv_lor hx hb dX8_ratio_98 ?_
  rw [bits_join hD (by omega) hs]
  exact W.lret hx hb hrt (fun t ht hW => ⟨rfl, by rw [ht]; exact hP, va_K.moved hW.alike hK, hS.F ht⟩) hS.2.2 dX8_ratio_99 hlk
theorem ratio_loop {X : gX} (C : gC X RX8 cX8_ratio 0 8 (some .long)) {σ : gM} {H : Heap} {locs : List Loc} {d : UInt64} {c S : Nat} (hD : ND d c (-52 - (S : Int))) (hS60 : S ≤ 60) : ∀ (s i : Nat) (x : UInt64) (ls : Array Slot), i + s = S → ND x c (-52 - (s : Int)) → lv_has ls 8 [(6, .int (nI i)), (5, .int (nI (1023 - i))), (3, .double x)] → rW X σ d.toInt64 H locs 52 ls [] := by
  intro s
  induction s with
  | zero =>
    intro i x ls hi hN hl
    have hend := ratio_end C (σ := σ) (H := H) (locs := locs) (s := S) (i := nI i) (ls := ls) (show ND x c (-52) from hN) hD hS60 (by rw [← hi]; exact hl)
    obtain ⟨p, l, e, h', st, m, args, below, meth, co, E, nL'⟩ := X
    obtain ⟨rfl, rfl, hx, hb, hml, hown, hts, hNW, hK, hE, hlk, hrt⟩ := C
    intro hP hS
    refine lv_iload hx hb dX8_ratio_52 (lv_at hl 0 rfl) ?_
    refine lv_bipush (v := 64) hx hb dX8_ratio_54 (by decide) ?_
    refine lv_icmp_ge (tgt := 80) hx hb dX8_ratio_56 (by decide) (fun h => hend hP hS) (fun _ => ?_)
    refine lv_dload_n hx hb dX8_ratio_59 rfl (lv_at hl 2 rfl) ?_
    refine lv_dconst1 hx hb dX8_ratio_60 ?_
    refine lv_dcmp hx hb dX8_ratio_61 ?_
    refine lv_if_ge (tgt := 80) hx hb dX8_ratio_62 (by decide) (fun _ => hend hP hS) (fun h => absurd ?_ h)
    rcases dcmp_ge (show ND x c (-52) from hN) with z | z
    · rw [z]; decide
    · rw [z]; decide
  | succ s ih =>
    intro i x ls hi hN hl
    have hM := dmul_ND hN dec_two (by have := hN.2.2.1; omega)
    have hgo := fun ls' => ih (i + 1) (FP.dmul x dTwo) ls' (by omega) (by rw [show -52 - ((s : Nat) : Int) = -52 - ((s + 1 : Nat) : Int) + -51 + 52 by omega]; exact hM)
    obtain ⟨p, l, e, h', st, m, args, below, meth, co, E, nL'⟩ := X
    obtain ⟨rfl, rfl, hx, hb, hml, hown, hts, hNW, hK, hE, hlk, hrt⟩ := C
    intro hP hS
    refine lv_iload hx hb dX8_ratio_52 (lv_at hl 0 rfl) ?_
    refine lv_bipush (v := 64) hx hb dX8_ratio_54 (by decide) ?_
    refine lv_icmp_ge (tgt := 80) hx hb dX8_ratio_56 (by decide) (fun h => absurd h ?_) (fun _ => ?_)
    · rw [show (64 : Int32) = nI 64 from rfl, nI_leq (by omega) (by omega)]; omega
    refine lv_dload_n hx hb dX8_ratio_59 rfl (lv_at hl 2 rfl) ?_
    refine lv_dconst1 hx hb dX8_ratio_60 ?_
    refine lv_dcmp hx hb dX8_ratio_61 ?_
    rw [dcmp_lt hN (by omega)]
    refine lv_if_ge (tgt := 80) hx hb dX8_ratio_62 (by decide) (fun h => absurd h (by decide)) (fun _ => ?_)
    refine lv_dload_n hx hb dX8_ratio_65 rfl (lv_at hl 2 rfl) ?_
    refine lv_ldc2d hx hb hown (hts _ cd_399) dX8_ratio_66 ?_
    refine lv_dmul hx hb dX8_ratio_69 hM.ok ?_
    refine lv_dstore_n hx hb dX8_ratio_70 rfl hl (by decide) (lv' := [(3, .double (FP.dmul x dTwo)), (6, .int (nI i)), (5, .int (nI (1023 - i)))]) rfl (fun ls2 hl2 => ?_)
    refine lv_iinc (k := 2) (v := nI (1023 - (i + 1))) hx hb dX8_ratio_71 hl2 rfl ?_ (by decide) (lv' := [(5, .int (nI (1023 - (i + 1)))), (3, .double (FP.dmul x dTwo)), (6, .int (nI i))]) rfl (fun ls3 hl3 => ?_)
    · rw [show Int32.ofInt (-1) = -1 from rfl, ← Int32.sub_eq_add_neg, li1, pk_sub (by omega)]
      congr 1
    refine lv_iinc (k := 2) (v := nI (i + 1)) hx hb dX8_ratio_74 hl3 rfl ?_ (by decide) (lv' := [(6, .int (nI (i + 1))), (5, .int (nI (1023 - (i + 1)))), (3, .double (FP.dmul x dTwo))]) rfl (fun ls4 hl4 => ?_)
    · exact nI_1 i
    exact lv_goto (tgt := 52) hx hb dX8_ratio_77 (by decide) (hgo ls4 hl4 hP hS)
theorem ratio_tail {X : gX} (C : gC X RX8 cX8_ratio 0 8 (some .long)) {σ : gM} {h a : Nat} {lv : List (Option gV)} (h0 : 0 < h) (ha : h ≤ a) (h1 : a < 2147483648) (hv1 : lv[1]? = some (some (.inl (nI h)))) (hv2 : lv[2]? = some (some (.inl (nI a)))) : gw X eL 38 lv [] σ (some ((rq h a).toInt64, σ)) := by
  obtain ⟨c, S, g1, g2⟩ := rq_ND h0 ha h1
  have hgo := fun H locs ls => ratio_loop C (σ := σ) (H := H) (locs := locs) g2 g1 S 0 (rq h a) ls (by omega) g2
  obtain ⟨p, l, e, h', st, m, args, below, meth, co, E, nL'⟩ := X
  obtain ⟨rfl, rfl, hx, hb, hml, hown, hts, hNW, hK, hE, hlk, hrt⟩ := C
  intro hst hlv r ho H locs ls hP hS hl
  cases ho
  have l1 := hl.2.2 _ _ hv1
  have l2 := hl.2.2 _ _ hv2
  refine lv_iload_n hx hb dX8_ratio_38 rfl l1 ?_
  refine lv_i2d hx hb dX8_ratio_39 ?_
  refine lv_iload_n hx hb dX8_ratio_40 rfl l2 ?_
  refine lv_i2d hx hb dX8_ratio_41 ?_
  refine lv_ddiv hx hb dX8_ratio_42 g2.ok ?_
  refine lv_dstore_n hx hb dX8_ratio_43 rfl (lv := []) ⟨hl.1, hl.2.1, fun q hq => by cases hq⟩ (by decide) (lv' := [(3, .double (rq h a))]) rfl (fun ls2 hl2 => ?_)
  refine lv_sipush (v := 1023) hx hb dX8_ratio_44 (by decide) ?_
  refine lv_istore hx hb dX8_ratio_47 hl2 (by decide) (lv' := [(5, .int 1023), (3, .double (rq h a))]) rfl (fun ls3 hl3 => ?_)
  refine lv_iconst (v := 0) hx hb dX8_ratio_49 (by decide) ?_
  refine lv_istore hx hb dX8_ratio_50 hl3 (by decide) (lv' := [(6, .int 0), (5, .int 1023), (3, .double (rq h a))]) rfl (fun ls4 hl4 => ?_)
  exact hgo H locs ls4 hl4 hP hS
theorem ratio_0 {X : gX} (C : gC X RX8 cX8_ratio 0 8 (some .long)) {σ : gM} {lv : List (Option gV)} : gw X eL 36 lv [] σ (some (0, σ)) := by
  obtain ⟨p, l, e, h', st, m, args, below, meth, co, E, nL'⟩ := X
  obtain ⟨rfl, rfl, hx, hb, hml, hown, hts, hNW, hK, hE, hlk, hrt⟩ := C
  intro hst hlv r ho H locs ls hP hS hl
  cases ho
  refine lv_lconst (v := 0) hx hb dX8_ratio_36 (by decide) ?_
  exact W.lret hx hb hrt (fun t ht hW => ⟨rfl, by rw [ht]; exact hP, va_K.moved hW.alike hK, hS.F ht⟩) hS.2.2 dX8_ratio_37 hlk
def RTF (h ms : Int32) (m : gM) : Option (Int64 × gM) :=
  if h.toNatClampNeg ≤ 1000000000 ∧ ms.toNatClampNeg ≤ 1000000000 ∧ nI h.toNatClampNeg = h ∧ nI ms.toNatClampNeg = ms then (if h.toNatClampNeg = 0 then some (0, m) else some ((rq h.toNatClampNeg (h.toNatClampNeg + ms.toNatClampNeg)).toInt64, m)) else none
def X8_ratio (m : gM) : Option (Int64 × gM) := gAt m 26 0 0 (fun h => gAt m 26 0 1 (fun ms => RTF h ms m))
theorem c_X8_ratio (m : gM) : gCon eL yX8_ratio cX8_ratio 8 (some .long) 0 [.inr (8, 0)] m (X8_ratio m) := by
  refine gCon.of (lv := [some (.inr (8, 0)), none, none, none, none, none, none, none]) (by decide +kernel) (Nat.le_of_ble_eq_true rfl) rfl (fun X C => ?_)
  unfold X8_ratio
  refine r_aload_n C dX8_ratio_0 rfl rfl ?_
  refine r_get (v := .inr (6, 0)) C fl_X8_10 dX8_ratio_1 rfl ?_
  refine r_get (v := .inr (3, 0)) C fl_X8_82 dX8_ratio_4 rfl ?_
  refine r_get (v := .inr (26, 0)) C fl_X8_235 dX8_ratio_7 rfl ?_
  refine r_iconst (v := 0) C dX8_ratio_10 (by decide) ?_
  refine r_iald C rfl dX8_ratio_11 (fun h => ?_)
  refine r_istore_n (lv' := [some (.inr (8, 0)), some (.inl h), none, none, none, none, none, none]) C dX8_ratio_12 rfl (by decide) rfl ?_
  refine r_iload_n C dX8_ratio_13 rfl rfl ?_
  refine r_aload_n C dX8_ratio_14 rfl rfl ?_
  refine r_get (v := .inr (6, 0)) C fl_X8_10 dX8_ratio_15 rfl ?_
  refine r_get (v := .inr (3, 0)) C fl_X8_82 dX8_ratio_18 rfl ?_
  refine r_get (v := .inr (26, 0)) C fl_X8_235 dX8_ratio_21 rfl ?_
  refine r_iconst (v := 1) C dX8_ratio_24 (by decide) ?_
  refine r_iald C rfl dX8_ratio_25 (fun ms => ?_)
  refine r_iadd C dX8_ratio_26 ?_
  refine r_istore_n (lv' := [some (.inr (8, 0)), some (.inl h), some (.inl (h + ms)), none, none, none, none, none]) C dX8_ratio_27 rfl (by decide) rfl ?_
  refine r_iload_n C dX8_ratio_28 rfl rfl ?_
  unfold RTF
  by_cases c : h.toNatClampNeg ≤ 1000000000 ∧ ms.toNatClampNeg ≤ 1000000000 ∧ nI h.toNatClampNeg = h ∧ nI ms.toNatClampNeg = ms
  · rw [if_pos c]
    obtain ⟨c1, c2, c3, c4⟩ := c
    generalize h.toNatClampNeg = hn at c1 c3
    generalize ms.toNatClampNeg = mn at c2 c4
    subst c3 c4
    rw [nI_add]
    by_cases z : hn = 0
    · rw [if_pos z]
      have e : some ((0 : Int64), m) = if nI hn ≤ 0 then some ((0 : Int64), m) else none := by rw [if_pos (by rw [z]; decide)]
      rw [e]
      exact r_if_le (tgt := 36) C dX8_ratio_29 (by decide) (ratio_0 C) gw_none
    · rw [if_neg z]
      have e : some ((rq hn (hn + mn)).toInt64, m) = if nI hn ≤ 0 then none else if 0 < nI (hn + mn) then some ((rq hn (hn + mn)).toInt64, m) else none := by
        rw [if_neg (by rw [li0, nI_leq (by omega) (by omega)]; omega), if_pos (by rw [li0, nI_ltt (by omega) (by omega)]; omega)]
      rw [e]
      refine r_if_le (tgt := 36) C dX8_ratio_29 (by decide) gw_none ?_
      refine r_iload_n C dX8_ratio_32 rfl rfl ?_
      exact r_if_gt (tgt := 38) C dX8_ratio_33 (by decide) (ratio_tail C (by omega) (by omega) (by omega) rfl rfl) gw_none
  · rw [if_neg c]
    exact gw_none
