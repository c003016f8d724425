/-! LAYER 3: making: the component, up to its first call (written by gen/gen_make3.py). -/
theorem cr_fnew {X : cX} {cc : ByteArray} {r : Nat × Nat × Nat} {nL ci : Nat} (C : cC X (gRn ci) cc r nL) {S' : cG → Array Value → State → Outcome → State → Prop} {S : List CD} {i pc p0 p1 p2 p3 p4 q n idx fidx j ct nL' nf nc ns cells slots o : Nat} {fs : List CV} {arrs : List CD} {lv : List (Nat × Value)} {y : MethodName} {cc' : ByteArray} {f : Nat → List CV} {B : Nat → List CD} (hi : i < S.length) (hk : lv[q]? = some (0, .ref ((xG X).2.2 + i))) (ho : S.length + arrs.length = o) (K : gNK (gRn ci) n idx ct y cc' nL') (hcon : ∀ (S : List CD) (i : Nat), S[i]? = some (.inr (ct, cdef ct)) → gConC y cc' nL' (nf, nc, ns) i S (MkS S i ct (f S.length) (B S.length))) (hnl : nL' ≤ 17) (hfr : nf + 1 ≤ r.1) (hc : cells + 1 + nc ≤ r.2.1) (hs : slots + gnf ct + ns ≤ r.2.2) (da : decode cc pc = .ok (.aload_n 0, 1)) (e0 : pc + 1 = p0) (d0 : decode cc p0 = .ok (.new n, 3)) (e1 : p0 + 3 = p1) (d1 : decode cc p1 = .ok (.dup, 1)) (e2 : p1 + 1 = p2) (d2 : decode cc p2 = .ok (.invokespecial idx, 3)) (e3 : p2 + 3 = p3) (d3 : decode cc p3 = .ok (.putfield fidx, 3)) (e4 : p3 + 3 = p4) (hf : gFW (gRn ci) fidx ci j) (hl : Cond.fieldLink (gRn ci) fidx (gRn ci) (gTn ci j).2.1 (gTn ci j).2.2.1 ∈ gU) (hj : j < fs.length) (hn : ∀ a, narrow (gty ci j) (.ref a) = .ref a) (hft : ∀ a, fits (gty ci j) (.ref a) = true) (k : cW X S' p4 lv [] (MkS S i ci (fs.set j (.inl (some o))) (arrs ++ (.inr (ct, f (o + 1)) :: B (o + 1)))) (cells + 1 + nc) (slots + gnf ct + ns)) : cW X S' pc lv [] (MkS S i ci fs arrs) cells slots := by
  subst e0 e4 ho
  refine cr_aload C hk da ?_
  refine cr_mk C K hcon hnl hfr (by show 1 ≤ 3; omega) (fun v hv => by rw [List.mem_singleton.mp hv]; exact cat_ref _) hc hs d0 e1 d1 e2 d2 e3 ?_
  rw [MkS_len, MkS_appL]
  refine cr_put C (v := .inl (some (S.length + arrs.length))) (i := i) hf hl rfl (MkS_get hi) hj (fun N0 => hn _) (fun N0 => hft _) d3 ?_
  rw [MkS_put hi]
  exact k
theorem cr_fint {X : cX} {cc : ByteArray} {r : Nat × Nat × Nat} {nL ci : Nat} (C : cC X (gRn ci) cc r nL) {S' : cG → Array Value → State → Outcome → State → Prop} {S : List CD} {i pc p0 p1 p2 q fidx j cells slots : Nat} {n : Int} {v : Int32} {fs : List CV} {arrs : List CD} {lv : List (Nat × Value)} (hi : i < S.length) (hk : lv[q]? = some (0, .ref ((xG X).2.2 + i))) (da : decode cc pc = .ok (.aload_n 0, 1)) (e0 : pc + 1 = p0) (d0 : decode cc p0 = .ok (.iconst n, 1)) (hv : Int32.ofInt n = v) (e1 : p0 + 1 = p1) (d3 : decode cc p1 = .ok (.putfield fidx, 3)) (e4 : p1 + 3 = p2) (hf : gFW (gRn ci) fidx ci j) (hl : Cond.fieldLink (gRn ci) fidx (gRn ci) (gTn ci j).2.1 (gTn ci j).2.2.1 ∈ gU) (hj : j < fs.length) (hn : narrow (gty ci j) (.int v) = .int v) (hft : fits (gty ci j) (.int v) = true) (k : cW X S' p2 lv [] (MkS S i ci (fs.set j (.inr v)) arrs) cells slots) : cW X S' pc lv [] (MkS S i ci fs arrs) cells slots := by
  subst e0 e1 e4
  refine cr_aload C hk da ?_
  refine cr_iconst C d0 hv ?_
  refine cr_put C (v := .inr v) (i := i) hf hl rfl (MkS_get hi) hj (fun N0 => hn) (fun N0 => hft) d3 ?_
  rw [MkS_put hi]
  exact k
theorem hc0 (S : List CD) (i : Nat) (h : S[i]? = some (.inr (0, cdef 0))) : gConC yX0_init cX0_init 1 (1, 1, 4) i S (MkS S i 0 (f_X0 S.length) ((fun _ => a_X0) S.length)) := c_X0_init S i h
theorem hc1 (S : List CD) (i : Nat) (h : S[i]? = some (.inr (1, cdef 1))) : gConC yX1_init cX1_init 1 (1, 3, 192) i S (MkS S i 1 (f_X1 S.length) ((fun _ => a_X1) S.length)) := c_X1_init S i h
theorem hc2 (S : List CD) (i : Nat) (h : S[i]? = some (.inr (2, cdef 2))) : gConC yX2_init cX2_init 1 (1, 5, 320) i S (MkS S i 2 (f_X2 S.length) ((fun _ => a_X2) S.length)) := c_X2_init S i h
theorem hc4 (S : List CD) (i : Nat) (h : S[i]? = some (.inr (4, cdef 4))) : gConC yX4_init cX4_init 1 (1, 4, 1752) i S (MkS S i 4 (f_X4 S.length) ((fun _ => a_X4) S.length)) := c_X4_init S i h
theorem hc7 (S : List CD) (i : Nat) (h : S[i]? = some (.inr (7, cdef 7))) : gConC yX7_init cX7_init 1 (1, 2, 32) i S (MkS S i 7 (f_X7 S.length) ((fun _ => a_X7) S.length)) := c_X7_init S i h
def b_X8_1 : List CD := [] ++ (.inr (6, f_X6 2) :: a_X6 2)
def b_X8_2 : List CD := b_X8_1 ++ (.inr (6, f_X6 228) :: a_X6 228)
def b_X8_3 : List CD := b_X8_2 ++ (.inr (3, f_X3 454) :: (fun _ => a_X3) 454)
def b_X8_4 : List CD := b_X8_3 ++ (.inr (1, f_X1 464) :: (fun _ => a_X1) 464)
def b_X8_5 : List CD := b_X8_4 ++ (.inr (7, f_X7 468) :: (fun _ => a_X7) 468)
def b_X8_6 : List CD := b_X8_5 ++ (.inr (2, f_X2 471) :: (fun _ => a_X2) 471)
def b_X8_7 : List CD := b_X8_6 ++ (.inr (4, f_X4 477) :: (fun _ => a_X4) 477)
def b_X8_8 : List CD := b_X8_7 ++ (.inr (0, f_X0 482) :: (fun _ => a_X0) 482)
def b_X8_9 : List CD := b_X8_8 ++ (.inr (5, f_X5 484) :: (fun _ => a_X5) 484)
def b_X8_10 : List CD := b_X8_9 ++ [.inl (0, 32, none)]
def b_X8_11 : List CD := b_X8_10 ++ [.inl (0, 300, none)]
def f_X8 : List CV := [.inl (some 1), .inl (some 227), .inl (some 453), .inl (some 463), .inl (some 467), .inl (some 470), .inl (some 476), .inl (some 481), .inl (some 483), .inl (some 486), .inl (some 487), .inr 0, .inr (-1), .inr (-1)]
def CX8 : List CD := .inr (8, f_X8) :: b_X8_11
theorem x8_made {X : cX} (C : cC X RX8 cX8_init (4, 487, 77082) 1) {S' : cG → Array Value → State → Outcome → State → Prop} (k : cW X S' 130 [(0, .ref ((xG X).2.2 + 0))] [] CX8 487 77082) : cW X S' 0 [(0, .ref ((xG X).2.2 + 0))] [] [.inr (8, cdef 8)] 0 0 := by
  refine cr_aload C (q := 0) rfl dX8_init_0 ?_
  refine cr_obj C oi_X8_1 oi_inst oi_code (by decide) dX8_init_1 ?_
  suffices h : cW X S' 4 [(0, .ref ((xG X).2.2 + 0))] [] (MkS [.inr (8, cdef 8)] 0 8 (cdef 8) []) 0 0 from h
  refine cr_fnew C (ci := 8) (ct := 6) (f := f_X6) (B := a_X6) (o := 1) (pc := 4) (p0 := 5) (p1 := 8) (p2 := 9) (p3 := 12) (p4 := 15) (q := 0) (j := 0) (arrs := []) Nat.one_pos rfl (by decide +kernel) nk_X8_7 c_X6_init (by omega) (by decide) (Nat.le_of_ble_eq_true rfl) (Nat.le_of_ble_eq_true rfl) dX8_init_4 rfl dX8_init_5 rfl dX8_init_8 rfl dX8_init_9 rfl dX8_init_12 rfl fl_X8_10 fk_X8_10 (by first | (simp only [List.length_set]; decide) | decide) (fun _ => rfl) (fun _ => rfl) ?_
  rw [show [] ++ (.inr (6, f_X6 2) :: a_X6 2) = b_X8_1 from rfl]
  refine cr_fnew C (ci := 8) (ct := 6) (f := f_X6) (B := a_X6) (o := 227) (pc := 15) (p0 := 16) (p1 := 19) (p2 := 20) (p3 := 23) (p4 := 26) (q := 0) (j := 1) (arrs := b_X8_1) Nat.one_pos rfl (by decide +kernel) nk_X8_7 c_X6_init (by omega) (by decide) (Nat.le_of_ble_eq_true rfl) (Nat.le_of_ble_eq_true rfl) dX8_init_15 rfl dX8_init_16 rfl dX8_init_19 rfl dX8_init_20 rfl dX8_init_23 rfl fl_X8_16 fk_X8_16 (by first | (simp only [List.length_set]; decide) | decide) (fun _ => rfl) (fun _ => rfl) ?_
  rw [show b_X8_1 ++ (.inr (6, f_X6 228) :: a_X6 228) = b_X8_2 from rfl]
  refine cr_fnew C (ci := 8) (ct := 3) (f := f_X3) (B := (fun _ => a_X3)) (o := 453) (pc := 26) (p0 := 27) (p1 := 30) (p2 := 31) (p3 := 34) (p4 := 37) (q := 0) (j := 2) (arrs := b_X8_2) Nat.one_pos rfl (by decide +kernel) nk_X8_19 hc3 (by omega) (by decide) (Nat.le_of_ble_eq_true rfl) (Nat.le_of_ble_eq_true rfl) dX8_init_26 rfl dX8_init_27 rfl dX8_init_30 rfl dX8_init_31 rfl dX8_init_34 rfl fl_X8_22 fk_X8_22 (by first | (simp only [List.length_set]; decide) | decide) (fun _ => rfl) (fun _ => rfl) ?_
  rw [show b_X8_2 ++ (.inr (3, f_X3 454) :: (fun _ => a_X3) 454) = b_X8_3 from rfl]
  refine cr_fnew C (ci := 8) (ct := 1) (f := f_X1) (B := (fun _ => a_X1)) (o := 463) (pc := 37) (p0 := 38) (p1 := 41) (p2 := 42) (p3 := 45) (p4 := 48) (q := 0) (j := 3) (arrs := b_X8_3) Nat.one_pos rfl (by decide +kernel) nk_X8_26 hc1 (by omega) (by decide) (Nat.le_of_ble_eq_true rfl) (Nat.le_of_ble_eq_true rfl) dX8_init_37 rfl dX8_init_38 rfl dX8_init_41 rfl dX8_init_42 rfl dX8_init_45 rfl fl_X8_29 fk_X8_29 (by first | (simp only [List.length_set]; decide) | decide) (fun _ => rfl) (fun _ => rfl) ?_
  rw [show b_X8_3 ++ (.inr (1, f_X1 464) :: (fun _ => a_X1) 464) = b_X8_4 from rfl]
  refine cr_fnew C (ci := 8) (ct := 7) (f := f_X7) (B := (fun _ => a_X7)) (o := 467) (pc := 48) (p0 := 49) (p1 := 52) (p2 := 53) (p3 := 56) (p4 := 59) (q := 0) (j := 4) (arrs := b_X8_4) Nat.one_pos rfl (by decide +kernel) nk_X8_33 hc7 (by omega) (by decide) (Nat.le_of_ble_eq_true rfl) (Nat.le_of_ble_eq_true rfl) dX8_init_48 rfl dX8_init_49 rfl dX8_init_52 rfl dX8_init_53 rfl dX8_init_56 rfl fl_X8_36 fk_X8_36 (by first | (simp only [List.length_set]; decide) | decide) (fun _ => rfl) (fun _ => rfl) ?_
  rw [show b_X8_4 ++ (.inr (7, f_X7 468) :: (fun _ => a_X7) 468) = b_X8_5 from rfl]
  refine cr_fnew C (ci := 8) (ct := 2) (f := f_X2) (B := (fun _ => a_X2)) (o := 470) (pc := 59) (p0 := 60) (p1 := 63) (p2 := 64) (p3 := 67) (p4 := 70) (q := 0) (j := 5) (arrs := b_X8_5) Nat.one_pos rfl (by decide +kernel) nk_X8_40 hc2 (by omega) (by decide) (Nat.le_of_ble_eq_true rfl) (Nat.le_of_ble_eq_true rfl) dX8_init_59 rfl dX8_init_60 rfl dX8_init_63 rfl dX8_init_64 rfl dX8_init_67 rfl fl_X8_43 fk_X8_43 (by first | (simp only [List.length_set]; decide) | decide) (fun _ => rfl) (fun _ => rfl) ?_
  rw [show b_X8_5 ++ (.inr (2, f_X2 471) :: (fun _ => a_X2) 471) = b_X8_6 from rfl]
  refine cr_fnew C (ci := 8) (ct := 4) (f := f_X4) (B := (fun _ => a_X4)) (o := 476) (pc := 70) (p0 := 71) (p1 := 74) (p2 := 75) (p3 := 78) (p4 := 81) (q := 0) (j := 6) (arrs := b_X8_6) Nat.one_pos rfl (by decide +kernel) nk_X8_47 hc4 (by omega) (by decide) (Nat.le_of_ble_eq_true rfl) (Nat.le_of_ble_eq_true rfl) dX8_init_70 rfl dX8_init_71 rfl dX8_init_74 rfl dX8_init_75 rfl dX8_init_78 rfl fl_X8_50 fk_X8_50 (by first | (simp only [List.length_set]; decide) | decide) (fun _ => rfl) (fun _ => rfl) ?_
  rw [show b_X8_6 ++ (.inr (4, f_X4 477) :: (fun _ => a_X4) 477) = b_X8_7 from rfl]
  refine cr_fnew C (ci := 8) (ct := 0) (f := f_X0) (B := (fun _ => a_X0)) (o := 481) (pc := 81) (p0 := 82) (p1 := 85) (p2 := 86) (p3 := 89) (p4 := 92) (q := 0) (j := 7) (arrs := b_X8_7) Nat.one_pos rfl (by decide +kernel) nk_X8_54 hc0 (by omega) (by decide) (Nat.le_of_ble_eq_true rfl) (Nat.le_of_ble_eq_true rfl) dX8_init_81 rfl dX8_init_82 rfl dX8_init_85 rfl dX8_init_86 rfl dX8_init_89 rfl fl_X8_57 fk_X8_57 (by first | (simp only [List.length_set]; decide) | decide) (fun _ => rfl) (fun _ => rfl) ?_
  rw [show b_X8_7 ++ (.inr (0, f_X0 482) :: (fun _ => a_X0) 482) = b_X8_8 from rfl]
  refine cr_fnew C (ci := 8) (ct := 5) (f := f_X5) (B := (fun _ => a_X5)) (o := 483) (pc := 92) (p0 := 93) (p1 := 96) (p2 := 97) (p3 := 100) (p4 := 103) (q := 0) (j := 8) (arrs := b_X8_8) Nat.one_pos rfl (by decide +kernel) nk_X8_61 hc5 (by omega) (by decide) (Nat.le_of_ble_eq_true rfl) (Nat.le_of_ble_eq_true rfl) dX8_init_92 rfl dX8_init_93 rfl dX8_init_96 rfl dX8_init_97 rfl dX8_init_100 rfl fl_X8_64 fk_X8_64 (by first | (simp only [List.length_set]; decide) | decide) (fun _ => rfl) (fun _ => rfl) ?_
  rw [show b_X8_8 ++ (.inr (5, f_X5 484) :: (fun _ => a_X5) 484) = b_X8_9 from rfl]
  refine cr_fld C (ci := 8) (pc := 103) (p1 := 104) (p2 := 106) (p3 := 108) (p4 := 111) (q := 0) (j := 9) (c := 0) (N := 32) Nat.one_pos rfl dX8_init_103 rfl (fun _ _ _ _ => cr_bipush C dX8_init_104 (by decide)) dX8_init_106 rfl dX8_init_108 rfl fl_X8_68 fk_X8_68 (by simp only [List.length_set]; decide) (fun _ => rfl) (fun _ => rfl) (Or.inl ⟨rfl, rfl, ac_int⟩) (Nat.le_of_ble_eq_true rfl) (Nat.le_of_ble_eq_true rfl) (Nat.le_of_ble_eq_true rfl) ?_
  rw [show ([(.inr (8, cdef 8) : CD)].length + b_X8_9.length) = 486 from by decide +kernel, show b_X8_9 ++ [.inl (0, 32, none)] = b_X8_10 from rfl]
  refine cr_fld C (ci := 8) (pc := 111) (p1 := 112) (p2 := 115) (p3 := 117) (p4 := 120) (q := 0) (j := 10) (c := 0) (N := 300) Nat.one_pos rfl dX8_init_111 rfl (fun _ _ _ _ => cr_sipush C dX8_init_112 (by decide)) dX8_init_115 rfl dX8_init_117 rfl fl_X8_72 fk_X8_72 (by simp only [List.length_set]; decide) (fun _ => rfl) (fun _ => rfl) (Or.inl ⟨rfl, rfl, ac_int⟩) (Nat.le_of_ble_eq_true rfl) (Nat.le_of_ble_eq_true rfl) (Nat.le_of_ble_eq_true rfl) ?_
  rw [show ([(.inr (8, cdef 8) : CD)].length + b_X8_10.length) = 487 from by decide +kernel, show b_X8_10 ++ [.inl (0, 300, none)] = b_X8_11 from rfl]
  refine cr_fint C (ci := 8) (v := -1) (pc := 120) (p0 := 121) (p1 := 122) (p2 := 125) (q := 0) (j := 12) Nat.one_pos rfl dX8_init_120 rfl dX8_init_121 (by decide) rfl dX8_init_122 rfl fl_X8_75 fk_X8_75 (by simp only [List.length_set]; decide) rfl rfl ?_
  refine cr_fint C (ci := 8) (v := -1) (pc := 125) (p0 := 126) (p1 := 127) (p2 := 130) (q := 0) (j := 13) Nat.one_pos rfl dX8_init_125 rfl dX8_init_126 (by decide) rfl dX8_init_127 rfl fl_X8_79 fk_X8_79 (by simp only [List.length_set]; decide) rfl rfl ?_
  exact k
