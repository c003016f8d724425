/-! LAYER 1: the reference's ratio; LAYER 2: ratio. -/
theorem w_get {X : gX} {own : String} {cc : ByteArray} {h nL : Nat} {ret : Option FieldType} (C : gC X own cc h nL ret) {σ : gM} {ov : Option Value} {pc : Nat} {H : Heap} {locs : List Loc} {ls : Array Slot} {rest : List Value} {idx t k j : Nat} (hq : gin (xE X) (t, k)) (hf : gFW own idx t j) (hd : decode cc pc = .ok (.getfield idx, 3)) (kk : rV X σ ov H locs (pc + 3) ls (gv (xE X) (gfv σ t k j) :: rest)) : rV X σ ov H locs pc ls (.ref ((xE X).2.2.1 t k) :: rest) := by
  obtain ⟨p, l, e, h', s, m, args, below, meth, c, E, nL'⟩ := X
  obtain ⟨rfl, rfl, hx, hb, hml, hown, hts, hN, hK, hE, hlk, hrt⟩ := C
  intro hP hS
  obtain ⟨ht, hj, hT, hlink⟩ := hf
  obtain ⟨q0, h0⟩ := gpl_at hq
  have hw := gW_get (σ := σ) h0
  rw [gcell_obj ht] at hw
  have hgo := kk hP hS
  rcases hlink with hl1 | ⟨host, hl1⟩
  · exact va_get (D := E.1) (ci := t) (v := gv E (gfv σ t k j)) (C := gRn t) (T := gTn t) (N := gnf t) hx hb hts (gUin ht) hown hK hP q0 hw (gcl ht) j hj (hts _ hl1) (fun x hx => by rw [← hT]; exact hx) (gfs_at hj) hd hgo
  · exact va_getN (D := E.1) (ci := t) (v := gv E (gfv σ t k j)) (C := gRn t) (T := gTn t) (N := gnf t) hx hb hts (gUin ht) hown hK hP q0 hw (gcl ht) j hj (va_Nw.use rfl (hN _ hl1)) (fun x hx => by rw [← hT]; exact hx) (gfs_at hj) hd hgo
theorem w_iald {X : gX} {own : String} {cc : ByteArray} {h nL : Nat} {ret : Option FieldType} (C : gC X own cc h nL ret) {σ : gM} {ov : Option Value} {pc : Nat} {H : Heap} {locs : List Loc} {ls : Array Slot} {rest : List Value} {t k : Nat} {i : Int32} (hq : gin (xE X) (t, k)) (ht : gia t = true) (hin : ¬ (i < 0 ∨ glen t ≤ i.toNatClampNeg)) (hd : decode cc pc = .ok (.iaload, 1)) (kk : rV X σ ov H locs (pc + 1) ls (.int (σ t k i.toNatClampNeg) :: rest)) : rV X σ ov H locs pc ls (.int i :: .ref ((xE X).2.2.1 t k) :: rest) := by
  obtain ⟨t1, t2, t3⟩ := gia_spec ht
  obtain ⟨p, l, e, h', s, m, args, below, meth, c, E, nL'⟩ := X
  obtain ⟨rfl, rfl, hx, hb, hml, hown, hts, hN, hK, hE, hlk, hrt⟩ := C
  intro hP hS
  obtain ⟨q0, h0⟩ := gpl_at hq
  have hw := gW_get (σ := σ) h0
  rw [gcell_int t1 t2, t3] at hw
  exact va_iald hx hb hK hP q0 0 hw rfl hin hd (kk hP hS)
/-- a[39] or a[40], on any stack -/
theorem w_a {X : gX} (C : gC X RX9 cX9_ratio 2 1 (some .long)) {σ : gM} {ov : Option Value} {pc : Nat} {H : Heap} {locs : List Loc} {ls : Array Slot} {rest : List Value} {n : Int} {i : Int32} (hq : gin (xE X) (9, 0)) (hl : ls[0]? = some (.val (.ref ((xE X).2.2.1 9 0)))) (d0 : decode cX9_ratio pc = .ok (.aload_n 0, 1)) (d1 : decode cX9_ratio (pc + 1) = .ok (.getfield 7, 3)) (d4 : decode cX9_ratio (pc + 4) = .ok (.bipush n, 2)) (d6 : decode cX9_ratio (pc + 6) = .ok (.iaload, 1)) (hi : (Int8.ofInt n).toInt32 = i) (hin : ¬ (i < 0 ∨ glen 47 ≤ i.toNatClampNeg)) (kk : rV X σ ov H locs (pc + 7) ls (.int (σ 47 0 i.toNatClampNeg) :: rest)) : rV X σ ov H locs pc ls rest := by
  have hE : gEok (xE X) := by
    obtain ⟨p, l, e, h', s, m, args, below, meth, c, E, nL'⟩ := X
    exact C.2.2.2.2.2.2.2.2.2.1
  have h47 : gin (xE X) (47, 0) := hE.2.1 9 0 0 (47, 0) (by omega) hq rfl
  have k2 := w_iald C (pc := pc + 6) (i := i) h47 (by decide) hin d6 kk
  have k1 := w_get C (pc := pc + 1) (rest := rest) hq fl_X9_7 d1 (by
    show rV X σ ov H locs (pc + 4) ls (.ref ((xE X).2.2.1 47 0) :: rest)
    obtain ⟨p, l, e, h', s, m, args, below, meth, c, E, nL'⟩ := X
    obtain ⟨rfl, rfl, hx, hb, hml, hown, hts, hN, hK, hE, hlk, hrt⟩ := C
    intro hP hS
    exact lv_bipush hx hb d4 hi (k2 hP hS))
  obtain ⟨p, l, e, h', s, m, args, below, meth, c, E, nL'⟩ := X
  obtain ⟨rfl, rfl, hx, hb, hml, hown, hts, hN, hK, hE, hlk, hrt⟩ := C
  intro hP hS
  exact lv_aload_n hx hb d0 rfl hl (k1 hP hS)
theorem c39 : ((39 : Int32).toNatClampNeg = 39) ∧ ((40 : Int32).toNatClampNeg = 40) := by decide
def X9_ratio (m : gM) : Option (Int64 × gM) := RTF (m 47 0 39) (m 47 0 40) m
theorem i2d_0 : FP.i2d 0 = 0 := by
  show UInt64.ofNat (FP.Core.fromInt FP.Core.b64 (0 : Int32).toInt) = 0
  rw [show (0 : Int32).toInt = 0 from rfl]
  unfold FP.Core.fromInt FP.Core.ofInt FP.Core.round FP.Core.roundRatio
  dsimp only
  rw [if_pos (show Int.natAbs 0 = 0 from rfl)]
  unfold FP.Core.encode FP.Core.assemble
  dsimp only
  rw [f_tails, f_exps, if_pos (by omega)]
  rfl
theorem fD_0 : fD 0 = .fin false 0 (-1074) := by
  unfold fD FP.Core.decode FP.Core.fieldE FP.Core.fieldT FP.Core.fieldS
  rw [f_tails, f_exps, f_qmin]
  rfl
theorem rq_0 {a : Nat} (h0 : 0 < a) (h1 : a < 2147483648) : rq 0 a = 0 := by
  obtain ⟨j, j1, j2⟩ := i2d_ND h0 h1
  unfold rq
  rw [show nI 0 = 0 from rfl, i2d_0]
  show UInt64.ofNat (FP.Core.encode FP.Core.b64 (FP.Core.quotient FP.Core.b64 (fD 0) (fD (FP.i2d (nI a))))) = 0
  have hd : a * 2 ^ j ≠ 0 := by have := j1.1; omega
  rw [fD_0, j1.dec]
  unfold FP.Core.quotient
  dsimp only
  rw [if_neg hd]
  unfold FP.Core.roundRatio
  rw [if_pos rfl]
  unfold FP.Core.encode FP.Core.assemble
  dsimp only
  rw [f_tails, f_exps, if_pos (by omega)]
  rfl
theorem dcmp_00 : FP.dcmp 0 0 = some .eq := by
  show FP.Core.order (fD 0) (fD 0) = _
  rw [fD_0]
  unfold FP.Core.order
  dsimp only
  rw [cmp_i, if_neg (by omega), if_pos rfl]
theorem rq_ok {h a : Nat} (h0 : 0 < a) (ha : h ≤ a) (h1 : a < 2147483648) : vf_n64 (rq h a) ∧ FP.dcmp (rq h a) (rq h a) = some .eq := by
  rcases Nat.eq_zero_or_pos h with z | z
  · subst z
    rw [rq_0 h0 h1]
    exact ⟨by unfold vf_n64; decide, dcmp_00⟩
  · obtain ⟨c, s, g1, g2⟩ := rq_ND z ha h1
    exact ⟨g2.ok, dcmp_self g2⟩
theorem c_X9_ratio (m : gM) : gCon eL yX9_ratio cX9_ratio 1 (some .long) 2 [.inr (9, 0)] m (X9_ratio m) := by
  refine gCon.of (lv := [some (.inr (9, 0))]) (by decide +kernel) (Nat.le_of_ble_eq_true rfl) rfl (fun X C => ?_)
  unfold X9_ratio RTF
  by_cases c : (m 47 0 39).toNatClampNeg ≤ 1000000000 ∧ (m 47 0 40).toNatClampNeg ≤ 1000000000 ∧ nI (m 47 0 39).toNatClampNeg = m 47 0 39 ∧ nI (m 47 0 40).toNatClampNeg = m 47 0 40
  · rw [if_pos c]
    obtain ⟨c1, c2, c3, c4⟩ := c
    generalize (m 47 0 39).toNatClampNeg = hn at c1 c3 ⊢
    generalize (m 47 0 40).toNatClampNeg = mn at c2 c4 ⊢
    have main : ∀ (v : Int64), (if hn = 0 then some ((0 : Int64), m) else some ((rq hn (hn + mn)).toInt64, m)) = some (v, m) → gin (xE X) (9, 0) → ∀ H locs ls, ls.size = 1 → ls[0]? = some (.val (.ref ((xE X).2.2.1 9 0))) → rV X m (eL v) H locs 0 ls [] := by
      intro v hv hq H locs ls hsz hl
      refine w_a C (pc := 0) (i := 39) hq hl dX9_ratio_0 dX9_ratio_1 dX9_ratio_4 dX9_ratio_6 (by decide) (by decide) ?_
      refine w_a C (pc := 7) (i := 40) hq hl dX9_ratio_7 dX9_ratio_8 dX9_ratio_11 dX9_ratio_13 (by decide) (by decide) ?_
      rw [c39.1, c39.2, ← c3, ← c4]
      have hres : 0 < hn + mn → (rq hn (hn + mn)).toInt64 = v := by
        intro hp
        by_cases z : hn = 0
        · rw [if_pos z] at hv
          rw [z, rq_0 (by omega) (by omega)]
          cases hv; rfl
        · rw [if_neg z] at hv
          cases hv; rfl
      have hok := fun hp : 0 < hn + mn => rq_ok hp (show hn ≤ hn + mn by omega) (show hn + mn < 2147483648 by omega)
      have hcall := fun (hp : 0 < hn + mn) H locs => w_insD C (pc := 47) (H := H) (locs := locs) (ls := ls) (d := rq hn (hn + mn)) (σ := m) (ov := eL v) is_X9_353 co_Jxe99ae_doubleToLongBits_ccdee (c_d2L (hok hp).2 m) (Nat.le_refl _) (by omega) dX9_ratio_47 hsz
      have hb40 := fun (k : rV X m (eL v) H locs 44 ls [.int (m 47 0 40), .int (m 47 0 39), .double (FP.i2d (nI hn))]) => w_a C (pc := 37) (i := 40) hq hl dX9_ratio_37 dX9_ratio_38 dX9_ratio_41 dX9_ratio_43 (by decide) (by decide) (by rw [c39.2]; exact k)
      have hb39 := fun (k : rV X m (eL v) H locs 37 ls [.int (m 47 0 39), .double (FP.i2d (nI hn))]) => w_a C (pc := 30) (i := 39) hq hl dX9_ratio_30 dX9_ratio_31 dX9_ratio_34 dX9_ratio_36 (by decide) (by decide) (by rw [c39.1]; exact k)
      have ha39 := fun (k : rV X m (eL v) H locs 29 ls [.int (m 47 0 39)]) => w_a C (pc := 22) (rest := []) (i := 39) hq hl dX9_ratio_22 dX9_ratio_23 dX9_ratio_26 dX9_ratio_28 (by decide) (by decide) (by rw [c39.1]; exact k)
      obtain ⟨p, l, e, h', s, mm, args, below, meth, co, E, nL'⟩ := X
      obtain ⟨rfl, rfl, hx, hb, hml, hown, hts, hN, hK, hE, hlk, hrt⟩ := C
      intro hP hS
      refine lv_iadd hx hb dX9_ratio_14 ?_
      rw [nI_add]
      have hret : ∀ H1 locs1, va_P E.1 vwCl (gW E m) H1 → va_S (gA E) s.heap H1 locs1 → W p l e (grm 2) s mm args below meth co H1 locs1 0 0 (MQ below (gQc E (eL v) m) args s 0 0 (gA E)) (F0 mm 50 ls [.long v]) := fun H1 locs1 hP1 hS1 => W.lret hx hb hrt (fun t ht hW => ⟨rfl, by rw [ht]; exact hP1, va_K.moved hW.alike hK, hS1.F ht⟩) hS1.2.2 dX9_ratio_50 hlk
      refine lv_if_ne (tgt := 22) hx hb dX9_ratio_15 (by decide) (fun hne => ?_) (fun he => ?_)
      · have hp : 0 < hn + mn := by
          rcases Nat.eq_zero_or_pos (hn + mn) with z | z
          · rw [z] at hne; exact absurd rfl hne
          · exact z
        refine ha39 ?_ hP hS
        intro hP hS
        rw [← c3]
        refine lv_i2d hx hb dX9_ratio_29 ?_
        refine hb39 ?_ hP hS
        intro hP hS
        refine hb40 ?_ hP hS
        intro hP hS
        rw [← c3, ← c4]
        refine lv_iadd hx hb dX9_ratio_44 ?_
        rw [nI_add]
        refine lv_i2d hx hb dX9_ratio_45 ?_
        refine lv_ddiv hx hb dX9_ratio_46 (hok hp).1 ?_
        refine hcall hp H locs (fun H1 locs1 => ?_) hP hS
        rw [hres hp]
        exact hret H1 locs1
      · have hz : hn = 0 := by
          have he0 := (nI_z (show hn + mn < 2147483648 by omega)).mp he
          omega
        rw [if_pos hz] at hv
        cases hv
        refine lv_lconst (v := 0) hx hb dX9_ratio_18 (by decide) ?_
        exact lv_goto (tgt := 50) hx hb dX9_ratio_19 (by decide) (hret H locs hP hS)
    have hv : ∃ v, (if hn = 0 then some ((0 : Int64), m) else some ((rq hn (hn + mn)).toInt64, m)) = some (v, m) := by
      by_cases z : hn = 0
      · exact ⟨_, if_pos z⟩
      · exact ⟨_, if_neg z⟩
    obtain ⟨v, hv⟩ := hv
    rw [hv]
    have mv := main v hv
    obtain ⟨p, l, e, h', s, mm, args, below, meth, co, E, nL'⟩ := X
    have hnl := C.2.1
    intro hst hlv r ho H locs ls hP hS hl
    cases ho
    exact mv (hlv _ List.mem_cons_self) H locs ls (hl.1.trans hnl) (hl.2.2 0 _ rfl) hP hS
  · rw [if_neg c]
    exact gw_none
theorem RTF_ok {h ms N : Nat} {x : gM} (hh : h + ms ≤ N) (hN : N ≤ 1000000000) : ∃ r, ∀ y, RTF (nI h) (nI ms) y = some (r, y) := by
  unfold RTF
  rw [nI_cl (by omega), nI_cl (by omega)]
  by_cases z : h = 0
  · exact ⟨0, fun y => by rw [if_pos ⟨by omega, by omega, rfl, rfl⟩, if_pos z]⟩
  · exact ⟨_, fun y => by rw [if_pos ⟨by omega, by omega, rfl, rfl⟩, if_neg z]⟩
theorem q_ratio {x m : gM} {N : Nat} (h : INV x m N) : Ag (X8_ratio x) (X9_ratio m) N := by
  obtain ⟨⟨⟨RSx, BIm⟩, -⟩, -, -, -, -, -, hN⟩ := id h
  obtain ⟨-, -, -, ⟨hh, ms, b3, b4, hs⟩, -⟩ := BIm
  obtain ⟨-, ⟨r0, r1, -⟩, -⟩ := RSx
  obtain ⟨r, hr⟩ := RTF_ok (x := x) hs hN
  have e3 : m 47 0 39 = nI hh := b3
  have e4 : m 47 0 40 = nI ms := b4
  have f3 : x 26 0 0 = nI hh := r0.trans b3
  have f4 : x 26 0 1 = nI ms := r1.trans b4
  unfold X8_ratio X9_ratio
  rw [e3, e4, show gAt x 26 0 0 = gAt x 26 0 (nI 0) from rfl, gAt_nI (show 0 < glen 26 by decide) (by omega), f3]
  rw [show gAt x 26 0 1 = gAt x 26 0 (nI 1) from rfl, gAt_nI (show 1 < glen 26 by decide) (by omega), f4]
  exact Ag.same h r (hr x) (hr m)
