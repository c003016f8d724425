/-! LAYER 3: a call of a walked method from anywhere (any room, any end). -/
theorem x_callV {p : Program} {l : Launch} {e : Env} {R : Room} {s : State} {m : MethodId} {args : Array Value} {below : List Frame} {meth : Method} {c : Code} {H : Heap} {locs : List Loc} {cells slots : Nat} {Q : State → Prop} {own : String} {cc : ByteArray} {nL : Nat} {pc : Nat} {ls : Array Slot} {rest : List Value} {E : gE} {σ σ1 : gM} {ρ' : Type} {enc' : ρ' → Option Value} {y : MethodName} {cc' : ByteArray} {nL' h' idx n : Nat} {ret' : Option FieldType} {t kb : Nat} {As : List gV} {r : ρ'}
    (hx : p.tables.exec = Jvm.exec) (hb : c.code = cc) (hml : c.maxLocals = nL) (hown : s.vm.findClass own = some m.cls) (hts : ∀ w ∈ gU, w.before args s = true) (hN : gNW s) (hK : va_K E.1 vwCl (gtys E) s) (hE : gEok E)
    (L : gIV own idx y n) (hcode : Cond.code y cc' nL' ret' ∈ gU) (ht : t < 10) (hcls : gRn t = y.cls) (hcon : gCon enc' y cc' nL' ret' h' (.inr (t, kb) :: As) σ (some (r, σ1))) (hfr : h' + 1 ≤ R.frames) (hlo : 8 + (nL' + 11) + 36 * h' ≤ R.locals) (hn : As.length = n) (hg : gin E (t, kb)) (hAs : ∀ v ∈ As, gok E v) (hP : va_P E.1 vwCl (gW E σ) H) (hsz : ls.size = nL) (hcat : (rest.map fun v => v.category).sum ≤ 8) (hc : cells ≤ R.cells ∧ slots ≤ R.slots) (hd : decode cc pc = .ok (.invokevirtual idx, 3))
    (k : ∀ (H1 : Heap) (L1 : List Loc), va_P E.1 vwCl (gW E σ1) H1 → H.size ≤ H1.size → (∀ q : Nat, q < H.size → ¬ gA E q → H1[q]? = H[q]?) → (∀ q ∈ L1, gA E q.base) → W p l e R s m args below meth c H1 (locs ++ L1) cells slots Q (F0 m (pc + 3) ls ((enc' r).toList ++ rest))) : W p l e R s m args below meth c H locs cells slots Q (F0 m pc ls ((As.map (gv E)).reverse ++ .ref (E.2.2.1 t kb) :: rest)) := by
  obtain ⟨l1, l2, l3, l4, l5⟩ := L
  obtain ⟨q0, h0⟩ := gpl_at hg
  have hw := gW_get (σ := σ) h0
  rw [gcell_obj ht] at hw
  have hM := hcon l E hE (List.forall_mem_cons.mpr ⟨hg, hAs⟩) (r, σ1) rfl
  have hrc := va_recv (cl := vwCl) hK hP (gcl ht) hw
  rw [show (gRn t, gTn t, gnf t).1 = y.cls from hcls] at hrc
  have hpre : ∀ U : State, U.heap = H → s.WarmedH U.vm → (Value.ref (E.2.2.1 t kb) :: As.map (gv E)).toArray = (((Sum.inr (t, kb) : gV) :: As).map (gv E)).toArray ∧ va_P E.1 vwCl (gW E σ) U.heap ∧ va_K E.1 vwCl (gtys E) U ∧ gNW U := fun U hU hW => ⟨rfl, by rw [hU]; exact hP, va_K.moved hW.alike hK, gNW_warm hW hN⟩
  have hbl : FrameBlind (fun (v : Array Value) (U : State) => v = (((Sum.inr (t, kb) : gV) :: As).map (gv E)).toArray ∧ va_P E.1 vwCl (gW E σ) U.heap ∧ va_K E.1 vwCl (gtys E) U ∧ gNW U) := fun a U g mk z => ⟨z.1, z.2.1, va_K.moved (u := U) (U := U.calling g mk a) (Vm.Alike.refl U.vm) z.2.2.1, gNW_same (s := U) (U := U.calling g mk a) rfl z.2.2.2⟩
  have hroom : (grm h').frames + 1 ≤ R.frames ∧ 8 + (nL' + 11) + (grm h').locals ≤ R.locals := ⟨hfr, hlo⟩
  have hrun : va_Run p l e R s m args below meth c H locs cells slots 0 0 (F0 m pc ls ((As.map (gv E)).reverse ++ .ref (E.2.2.1 t kb) :: rest)) rest (gQc E (enc' r) σ1 (Value.ref (E.2.2.1 t kb) :: As.map (gv E)).toArray) (gA E) := by
    rcases l5 with l5 | ⟨host, l5⟩
    · exact va_runV ⟨hx, hb, hml, hown, hts⟩ hM ⟨callB_of n hts (gU_goodT hcode) rfl rfl rfl (hts _ l4) (hts _ l5) l1 hroom, hts _ l2, hts _ l3⟩ ⟨hbl, hrc, hpre⟩ rfl (by simpa using hn) hsz rfl (lv_room hcat) hd ⟨hc.1, hc.2⟩
    · exact va_runVN ⟨hx, hb, hml, hown, hts⟩ hM ⟨va_cnB n hts (gU_goodT hcode) rfl rfl rfl (hN _ l5) (hts _ l4) l1 hroom, hts _ l2, hts _ l3⟩ ⟨hbl, hrc, hpre⟩ rfl (by simpa using hn) hsz rfl (lv_room hcat) hd ⟨hc.1, hc.2⟩
  intro T hT X
  obtain ⟨v, st₀, t1, T', L1, h0', X', hL, e1, e2, ⟨hv, hp, -, hz, hk⟩, st⟩ := hrun T hT X
  cases hv
  rw [h0'] at hz hk
  obtain ⟨t2, a1, b1⟩ := k T'.heap L1 (by rw [e1]; exact hp) (by rw [e1]; exact hz) (fun q h1 h2 => by rw [e1]; exact hk q h1 h2) hL T' rfl X'
  exact ⟨t2, st t2 a1, b1⟩
