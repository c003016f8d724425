/-! LAYER 1: ratio, walked by hand: the reference. -/
abbrev yDraw : MethodName := ⟨"java/lang/Double", "doubleToRawLongBits", "(D)J"⟩
theorem is_X9_353 : gIS RX9 353 yJxe99ae_doubleToLongBits_ccdee 1 := ⟨⟨by decide +kernel, by decide +kernel, by decide +kernel⟩, gU_mem (by decide +kernel) rfl, gU_mem (by decide +kernel) rfl, Or.inl (gU_mem (by decide +kernel) rfl)⟩
theorem is_D_122 : gIS RJxe99ae 122 yJxe99ae_isNaN_b9ae7 1 := ⟨⟨by decide +kernel, by decide +kernel, by decide +kernel⟩, gU_mem (by decide +kernel) rfl, gU_mem (by decide +kernel) rfl, Or.inl (gU_mem (by decide +kernel) rfl)⟩
theorem wd_link : Cond.methodLink RJxe99ae 134 yDraw ∈ gU := gU_mem (by decide +kernel) rfl
theorem wd_nat : Cond.native yDraw ∈ gU := gU_mem (by decide +kernel) rfl
theorem wd_stat : Cond.static yDraw ∈ gU := gU_mem (by decide +kernel) rfl
theorem wd_init : Cond.initialized "java/lang/Double" ∈ gU := gU_mem (by decide +kernel) rfl
def xE (X : gX) : gE := X.2.2.2.2.2.2.2.2.2.2.1
def rV (X : gX) (σ : gM) (ov : Option Value) (H : Heap) (locs : List Loc) (pc : Nat) (ls : Array Slot) (st : List Value) : Prop := match X with
  | (p, l, e, h, s, m, args, below, meth, c, E, _) => va_P E.1 vwCl (gW E σ) H → va_S (gA E) s.heap H locs → W p l e (grm h) s m args below meth c H locs 0 0 (MQ below (gQc E ov σ) args s 0 0 (gA E)) (F0 m pc ls st)
def gConD (y : MethodName) (cc : ByteArray) (nL : Nat) (ret : Option FieldType) (h : Nat) (d : UInt64) (σ : gM) (ov : Option Value) : Prop :=
  ∀ (l : Launch) (E : gE), gEok E → Met l y (Cond.code y cc nL ret :: gU) (grm h) (fun v U => v = #[.double d] ∧ va_P E.1 vwCl (gW E σ) U.heap ∧ va_K E.1 vwCl (gtys E) U ∧ gNW U) (gQc E ov σ) 0 0 (gA E)
theorem gConD.of {y : MethodName} {cc : ByteArray} {nL : Nat} {ret : Option FieldType} {h : Nat} {d : UInt64} {σ : gM} {ov : Option Value} (hy : plainName y.cls = true) (hn : 2 ≤ nL) (k : ∀ X : gX, gC X y.cls cc h nL ret → ∀ H locs ls, lv_has ls nL [(0, .double d)] → rV X σ ov H locs 0 ls []) : gConD y cc nL ret h d σ ov := by
  intro l E hE
  refine Met.ofW (cc := cc) (maxL := nL) (ret := ret) hy rfl ?_
  intro p e s m args below meth c s₁ B hml hv
  obtain ⟨rfl, hP, hK, hN⟩ := hv
  have hts := atoms_spec (ws := Cond.code y cc nL ret :: gU) B.pre
  have hown : s.vm.findClass y.cls = some m.cls := findClass_of_methodNamed B.named
  have hC : gC (p, l, e, h, s, m, #[.double d], below, meth, c, E, nL) y.cls cc h nL ret := ⟨rfl, rfl, B.exec, B.bytes, hml, hown, fun w hw => hts w (List.mem_cons_of_mem _ hw), hN, hK, hE, B.notSynchronized, B.returns⟩
  have hl := lv_entry [Value.double d] (n := nL) hn
  rw [show (#[.double d] : Array Value) = [Value.double d].toArray from rfl, lg_entry_eq]
  generalize (lg_sl [Value.double d] ++ List.replicate (nL - (lg_sl [Value.double d]).length) Slot.unset).toArray = ls at hl ⊢
  exact k _ hC s.heap [] ls hl hP va_S.rf
theorem w_insD {X : gX} {own : String} {cc : ByteArray} {h nL : Nat} {ret : Option FieldType} (C : gC X own cc h nL ret) {σ : gM} {y : MethodName} {cc' : ByteArray} {nL' h' idx : Nat} {ret' : Option FieldType} {d : UInt64} {ov ov' : Option Value} {pc : Nat} {H : Heap} {locs : List Loc} {ls : Array Slot} (L : gIS own idx y 1) (hcode : Cond.code y cc' nL' ret' ∈ gU) (hcon : gConD y cc' nL' ret' h' d σ ov') (hh : h' + 1 ≤ h) (hnl : nL' ≤ 17) (hd : decode cc pc = .ok (.invokestatic idx, 3)) (hsz : ls.size = nL) (k : ∀ H1 locs1, rV X σ ov H1 locs1 (pc + 3) ls ov'.toList) : rV X σ ov H locs pc ls [.double d] := by
  obtain ⟨p, l, e, h'', s, m, args, below, meth, c, E, nL''⟩ := X
  obtain ⟨rfl, rfl, hx, hb, hml, hown, hts, hN, hK, hE, hlk, hrt⟩ := C
  intro hP hS
  obtain ⟨l1, l2, l4, l5⟩ := L
  have hM := hcon l E hE
  have hpre : ∀ U : State, U.heap = H → s.WarmedH U.vm → ([Value.double d]).toArray = #[.double d] ∧ va_P E.1 vwCl (gW E σ) U.heap ∧ va_K E.1 vwCl (gtys E) U ∧ gNW U := fun U hU hW => ⟨rfl, by rw [hU]; exact hP, va_K.moved hW.alike hK, gNW_warm hW hN⟩
  have hbl : FrameBlind (fun (v : Array Value) (U : State) => v = #[.double d] ∧ va_P E.1 vwCl (gW E σ) U.heap ∧ va_K E.1 vwCl (gtys E) U ∧ gNW U) := fun a U g mk z => ⟨z.1, z.2.1, va_K.moved (u := U) (U := U.calling g mk a) (Vm.Alike.refl U.vm) z.2.2.1, gNW_same (s := U) (U := U.calling g mk a) rfl z.2.2.2⟩
  have hstk : (F0 m pc ls [Value.double d]).stack = ([Value.double d]).reverse ++ [] := rfl
  have hcat : 2 * (F0 m pc ls [Value.double d]).monitorRoom + (([] : List Value).map fun v => v.category).sum ≤ 8 := lv_room (Nat.zero_le _)
  have hroom : (grm h').frames + 1 ≤ (grm h'').frames ∧ 8 + (nL' + 11) + (grm h').locals ≤ (grm h'').locals := by
    show h' + 1 ≤ h'' ∧ 8 + (nL' + 11) + 36 * h' ≤ 36 * h''
    omega
  have kk : ∀ (H1 : Heap) (locs1 : List Loc), va_P E.1 vwCl (gW E σ) H1 → va_S (gA E) s.heap H1 locs1 → W p l e (grm h'') s m args below meth c H1 locs1 0 0 (MQ below (gQc E ov σ) args s 0 0 (gA E)) (F0 m (pc + 3) ls (ov'.toList ++ [])) := fun H1 locs1 a b => by
    rw [List.append_nil]
    exact k H1 locs1 a b
  rcases l5 with l5 | ⟨host, l5⟩
  · exact va_callG (va_runS ⟨hx, hb, hml, hown, hts⟩ hM ⟨callB_of 1 hts (gU_goodT hcode) rfl rfl rfl (hts _ l4) (hts _ l5) l1 hroom, hts _ l2⟩ ⟨hbl, hpre⟩ rfl rfl hsz hstk hcat hd ⟨Nat.zero_le _, Nat.zero_le _⟩) hS kk
  · exact va_callG (va_runSN ⟨hx, hb, hml, hown, hts⟩ hM ⟨va_cnB 1 hts (gU_goodT hcode) rfl rfl rfl (hN _ l5) (hts _ l4) l1 hroom, hts _ l2, trivial⟩ ⟨hbl, hpre⟩ rfl rfl hsz hstk hcat hd ⟨Nat.zero_le _, Nat.zero_le _⟩) hS kk
theorem c_isNaN {d : UInt64} (hd : FP.dcmp d d = some .eq) (σ : gM) : gConD yJxe99ae_isNaN_b9ae7 cJxe99ae_isNaN_b9ae7 2 (some .boolean) 0 d σ (some (.int 0)) := by
  refine gConD.of (by decide +kernel) (Nat.le_refl _) (fun X C H locs ls hl => ?_)
  obtain ⟨p, l, e, h', st, m, args, below, meth, co, E, nL'⟩ := X
  obtain ⟨rfl, rfl, hx, hb, hml, hown, hts, hNW, hK, hE, hlk, hrt⟩ := C
  intro hP hS
  refine lv_dload_n hx hb dJxe99ae_isNaN_b9ae7_0 rfl (lv_at hl 0 rfl) ?_
  refine lv_dload_n hx hb dJxe99ae_isNaN_b9ae7_1 rfl (lv_at hl 0 rfl) ?_
  refine lv_dcmp hx hb dJxe99ae_isNaN_b9ae7_2 ?_
  rw [hd]
  refine lv_if_eq (tgt := 10) hx hb dJxe99ae_isNaN_b9ae7_3 (by decide) (fun _ => ?_) (fun h => absurd rfl h)
  refine lv_iconst (v := 0) hx hb dJxe99ae_isNaN_b9ae7_10 (by decide) ?_
  exact W.zret (v := 0) hx hb hrt rfl (fun t ht hW => ⟨rfl, by rw [ht]; exact hP, va_K.moved hW.alike hK, hS.F ht⟩) hS.2.2 dJxe99ae_isNaN_b9ae7_11 hlk
theorem c_d2L {d : UInt64} (hd : FP.dcmp d d = some .eq) (σ : gM) : gConD yJxe99ae_doubleToLongBits_ccdee cJxe99ae_doubleToLongBits_ccdee 2 (some .long) 1 d σ (some (.long d.toInt64)) := by
  refine gConD.of (by decide +kernel) (Nat.le_refl _) (fun X C H locs ls hl => ?_)
  have hcall := fun H locs => w_insD C (pc := 1) (H := H) (locs := locs) (ls := ls) (ov := some (.long d.toInt64)) is_D_122 co_Jxe99ae_isNaN_b9ae7 (c_isNaN hd σ) (Nat.le_refl _) (by omega) dJxe99ae_doubleToLongBits_ccdee_1 hl.1
  obtain ⟨p, l, e, h', st, m, args, below, meth, co, E, nL'⟩ := X
  obtain ⟨rfl, rfl, hx, hb, hml, hown, hts, hNW, hK, hE, hlk, hrt⟩ := C
  intro hP hS
  refine lv_dload_n hx hb dJxe99ae_doubleToLongBits_ccdee_0 rfl (lv_at hl 0 rfl) ?_
  refine hcall H locs (fun H1 locs1 => ?_) hP hS
  intro hP hS
  refine lv_if_ne (tgt := 12) hx hb dJxe99ae_doubleToLongBits_ccdee_4 (by decide) (fun h => absurd rfl h) (fun _ => ?_)
  refine lv_dload_n hx hb dJxe99ae_doubleToLongBits_ccdee_7 rfl (lv_at hl 0 rfl) ?_
  refine vn_d2l hx hb (by rw [hml, hl.1]) hown (hts _ wd_link) (hts _ wd_nat) (hts _ wd_stat) (hts _ wd_init) (Nat.le_refl _) (by show 0 + 15 ≤ 36 * 1; omega) dJxe99ae_doubleToLongBits_ccdee_8 ?_
  exact W.lret hx hb hrt (fun t ht hW => ⟨rfl, by rw [ht]; exact hP, va_K.moved hW.alike hK, hS.F ht⟩) hS.2.2 dJxe99ae_doubleToLongBits_ccdee_11 hlk
