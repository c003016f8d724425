/-! LAYER 3: writes and static calls from anywhere. -/
theorem x_iast {p : Program} {l : Launch} {e : Env} {R : Room} {s : State} {m : MethodId} {args : Array Value} {below : List Frame} {meth : Method} {c : Code} {H H0 : Heap} {locs : List Loc} {cells slots : Nat} {Q : State → Prop} {cc : ByteArray} {pc : Nat} {ls : Array Slot} {rest : List Value} {E : gE} {σ : gM} {t k : Nat} {i x : Int32} {A : Nat → Prop}
    (hx : p.tables.exec = Jvm.exec) (hb : c.code = cc) (hK : va_K E.1 vwCl (gtys E) s) (hE : gEok E) (ht : gia t = true) (hg : gin E (t, k)) (hA : ∀ q, gA E q → A q) (hP : va_P E.1 vwCl (gW E σ) H) (hS : va_S A H0 H locs) (hin : ¬ (i < 0 ∨ glen t ≤ i.toNatClampNeg)) (hd : decode cc pc = .ok (.iastore, 1))
    (kk : ∀ (H1 : Heap) (locs1 : List Loc), va_P E.1 vwCl (gW E (gup σ t k i.toNatClampNeg x)) H1 → va_S A H0 H1 locs1 → W p l e R s m args below meth c H1 locs1 cells slots Q (F0 m (pc + 1) ls rest)) : W p l e R s m args below meth c H locs cells slots Q (F0 m pc ls (.int x :: .int i :: .ref (E.2.2.1 t k) :: rest)) := by
  obtain ⟨t1, t2, t3⟩ := gia_spec ht
  obtain ⟨q0, h0⟩ := gpl_at hg
  have hw := gW_get (σ := σ) h0
  rw [gcell_int t1 t2] at hw
  have hset : (gW E σ).set q0 (E.2.2.1 t k, .inl (E.2.1 (gcls t), glen t, .inl (upd (σ t k) i.toNatClampNeg x))) = gW E (gup σ t k i.toNatClampNeg x) := gW_set hE h0 (fun t' k' h => gup_ne h) (gcell_iput t1 t2)
  have hD : va_D A (gW E σ) := ⟨(hE.1 σ).1, fun j q hk => hA _ ((hE.1 σ).2 j q hk)⟩
  exact va_iast hx hb hK hP hD hS q0 0 hw (by rw [t3]; rfl) hin hd (fun H1 locs1 a _ b => kk H1 locs1 (hset ▸ a) b)
theorem x_callS {p : Program} {l : Launch} {e : Env} {R : Room} {s : State} {m : MethodId} {args : Array Value} {below : List Frame} {meth : Method} {c : Code} {H : Heap} {locs : List Loc} {cells slots : Nat} {Q : State → Prop} {own : String} {cc : ByteArray} {nL : Nat} {pc : Nat} {ls : Array Slot} {rest : List Value} {E : gE} {σ σ1 : gM} {ρ' : Type} {enc' : ρ' → Option Value} {y : MethodName} {cc' : ByteArray} {nL' h' idx n : Nat} {ret' : Option FieldType} {As : List gV} {r : ρ'}
    (hx : p.tables.exec = Jvm.exec) (hb : c.code = cc) (hml : c.maxLocals = nL) (hown : s.vm.findClass own = some m.cls) (hts : ∀ w ∈ gU, w.before args s = true) (hN : gNW s) (hK : va_K E.1 vwCl (gtys E) s) (hE : gEok E)
    (L : gIS own idx y n) (hcode : Cond.code y cc' nL' ret' ∈ gU) (hcon : gCon enc' y cc' nL' ret' h' As σ (some (r, σ1))) (hfr : h' + 1 ≤ R.frames) (hlo : 8 + (nL' + 11) + 36 * h' ≤ R.locals) (hn : As.length = n) (hAs : ∀ v ∈ As, gok E v) (hP : va_P E.1 vwCl (gW E σ) H) (hsz : ls.size = nL) (hcat : (rest.map fun v => v.category).sum ≤ 8) (hc : cells ≤ R.cells ∧ slots ≤ R.slots) (hd : decode cc pc = .ok (.invokestatic idx, 3))
    (k : ∀ (H1 : Heap) (L1 : List Loc), va_P E.1 vwCl (gW E σ1) H1 → H.size ≤ H1.size → (∀ q : Nat, q < H.size → ¬ gA E q → H1[q]? = H[q]?) → (∀ q ∈ L1, gA E q.base) → W p l e R s m args below meth c H1 (locs ++ L1) cells slots Q (F0 m (pc + 3) ls ((enc' r).toList ++ rest))) : W p l e R s m args below meth c H locs cells slots Q (F0 m pc ls ((As.map (gv E)).reverse ++ rest)) := by
  obtain ⟨l1, l2, l4, l5⟩ := L
  have hM := hcon l E hE hAs (r, σ1) rfl
  have hpre : ∀ U : State, U.heap = H → s.WarmedH U.vm → (As.map (gv E)).toArray = (As.map (gv E)).toArray ∧ va_P E.1 vwCl (gW E σ) U.heap ∧ va_K E.1 vwCl (gtys E) U ∧ gNW U := fun U hU hW => ⟨rfl, by rw [hU]; exact hP, va_K.moved hW.alike hK, gNW_warm hW hN⟩
  have hbl : FrameBlind (fun (v : Array Value) (U : State) => v = (As.map (gv E)).toArray ∧ va_P E.1 vwCl (gW E σ) U.heap ∧ va_K E.1 vwCl (gtys E) U ∧ gNW U) := fun a U g mk z => ⟨z.1, z.2.1, va_K.moved (u := U) (U := U.calling g mk a) (Vm.Alike.refl U.vm) z.2.2.1, gNW_same (s := U) (U := U.calling g mk a) rfl z.2.2.2⟩
  have hroom : (grm h').frames + 1 ≤ R.frames ∧ 8 + (nL' + 11) + (grm h').locals ≤ R.locals := ⟨hfr, hlo⟩
  have hrun : va_Run p l e R s m args below meth c H locs cells slots 0 0 (F0 m pc ls ((As.map (gv E)).reverse ++ rest)) rest (gQc E (enc' r) σ1 (As.map (gv E)).toArray) (gA E) := by
    rcases l5 with l5 | ⟨host, l5⟩
    · exact va_runS ⟨hx, hb, hml, hown, hts⟩ hM ⟨callB_of n hts (gU_goodT hcode) rfl rfl rfl (hts _ l4) (hts _ l5) l1 hroom, hts _ l2⟩ ⟨hbl, hpre⟩ rfl (by simpa using hn) hsz rfl (lv_room hcat) hd ⟨hc.1, hc.2⟩
    · exact va_runSN ⟨hx, hb, hml, hown, hts⟩ hM ⟨va_cnB n hts (gU_goodT hcode) rfl rfl rfl (hN _ l5) (hts _ l4) l1 hroom, hts _ l2, trivial⟩ ⟨hbl, hpre⟩ rfl (by simpa using hn) hsz rfl (lv_room hcat) hd ⟨hc.1, hc.2⟩
  intro T hT X
  obtain ⟨v, st₀, t1, T', L1, h0', X', hL, e1, e2, ⟨hv, hp, -, hz, hk⟩, st⟩ := hrun T hT X
  cases hv
  rw [h0'] at hz hk
  obtain ⟨t2, a1, b1⟩ := k T'.heap L1 (by rw [e1]; exact hp) (by rw [e1]; exact hz) (fun q h1 h2 => by rw [e1]; exact hk q h1 h2) hL T' rfl X'
  exact ⟨t2, st t2 a1, b1⟩
