/-! LAYER 3: the law, from its entry. -/
theorem inst_ok : ∀ t, t < 10 → Cond.instantiable (gRn t) (gnf t) ∈ lw_tbl := by
  refine fun t ht => gcases (P := fun t => Cond.instantiable (gRn t) (gnf t) ∈ lw_tbl) ?_ ?_ ?_ ?_ ?_ ?_ ?_ ?_ ?_ ?_ ht <;> decide +kernel
theorem ovS_ok : Cond.arrayOver (.object "SkewedWays$Store") ∈ lw_tbl := by decide +kernel
theorem ovT_ok : Cond.arrayOver (.object "SkewedWays$Trace") ∈ lw_tbl := by decide +kernel
/-- the ten classes and the four kinds of arrays, as the tables have them -/
theorem known {s : State} {b : Nat} (hts : ∀ w ∈ lw_tbl, w.before #[Value.ref b] s = true) (hgU : ∀ w ∈ gU, w.before #[Value.ref b] s = true) : ∃ (D : va_G) (cls : Nat → ClassId), ∀ N0 : Nat, cK (D, cls, N0) s := by
  have h : ∀ t, ∃ q : ClassId × (Nat → Nat), t < 10 → u_Kn s (gRn t) (gTn t) (gnf t) q.1 q.2 := by
    intro t
    by_cases ht : t < 10
    · obtain ⟨cC, iS, h⟩ := u_known (C := gRn t) (T := gTn t) (N := gnf t) hgU (gUin ht) (hts _ (inst_ok t ht))
      exact ⟨(cC, iS), fun _ => h⟩
    · obtain ⟨cC, iS, h⟩ := u_known (C := gRn 0) (T := gTn 0) (N := gnf 0) hgU (gUin (by omega)) (hts _ (inst_ok 0 (by omega)))
      exact ⟨(cC, iS), fun h => absurd h ht⟩
  obtain ⟨f, hf⟩ := Classical.axiomOfChoice h
  have hI := hgU _ ac_int
  have hB := hgU _ ac_bool
  obtain ⟨cI, kI, pI, i1, i2, i3⟩ := Cond.arrayClass_spec hI
  obtain ⟨cB, kB, pB, b1, b2, b3⟩ := Cond.arrayClass_spec hB
  have hS := hts _ ovS_ok
  have hT := hts _ ovT_ok
  obtain ⟨pS, cS, kS, s1, s2, s3, s4, s5⟩ := Cond.arrayOver_spec hS
  obtain ⟨pT, cT, kT, t1, t2, t3, t4, t5⟩ := Cond.arrayOver_spec hT
  refine ⟨(fun t => (f t).1, fun t => (f t).2), fun j => if j = 0 then cI else if j = 1 then cB else if j = 2 then cS else cT, fun N0 => ⟨⟨fun k q hq => ?_, fun k q hq => ?_⟩, va_AO.of hS, va_AO.of hT⟩⟩
  · have hk : k < 10 := (List.getElem?_eq_some_iff.mp hq).1
    rw [gcl hk] at hq
    cases hq
    exact hf k hk
  · match k, hq with
    | 0, hq => cases hq; exact ⟨fun n z => ⟨(fun k h => by cases h), kI, i2, pI, i3⟩, i1⟩
    | 1, hq => cases hq; exact ⟨fun n z => ⟨(fun k h => by cases h), kB, b2, pB, b3⟩, b1⟩
    | 2, hq => cases hq; exact ⟨fun n z => ⟨(fun k h => by cases h), kS, s3, pS, s4⟩, kS, pS, s3, s4, s1, s5⟩
    | 3, hq => cases hq; exact ⟨fun n z => ⟨(fun k h => by cases h), kT, t3, pT, t4⟩, kT, pT, t3, t4, t1, t5⟩
    | k + 4, hq => exact absurd (List.getElem?_eq_some_iff.mp hq).1 (by show ¬ k + 4 < 4; omega)
/-- a new object of the law's, made whole -/
theorem l_make {p : Program} {l : Launch} {e : Env} {R : Room} {s : State} {m : MethodId} {args : Array Value} {below : List Frame} {meth : Method} {c : Code} {H : Heap} {locs : List Loc} {cells slots : Nat} {Q : State → Prop} {own : String} {cc : ByteArray} {nL pc : Nat} {ls : Array Slot} {D : va_G} {cls : Nat → ClassId} {n idx ci nL' : Nat} {y : MethodName} {cc' : ByteArray} {r' : Nat × Nat × Nat} {off : Nat → Nat → Nat} {cnt : Nat → Nat} {σb : gM}
    (hx : p.tables.exec = Jvm.exec) (hb : c.code = cc) (hml : c.maxLocals = nL) (hown : s.vm.findClass own = some m.cls) (hts : ∀ w ∈ gU, w.before args s = true) (hN : gNW s) (hcK : ∀ N0, cK (D, cls, N0) s) (K : gNK own n idx ci y cc' nL') (hcon : gConQ y cc' nL' r' 0 [.inr (ci, cdef ci)] (qI off cnt σb)) (hfr : r'.1 + 1 ≤ R.frames ∧ 8 + (nL' + 11) + 36 * r'.1 ≤ R.locals) (hcl : cells + 1 + r'.2.1 ≤ R.cells) (hsl : slots + gnf ci + r'.2.2 ≤ R.slots) (hsz : ls.size = nL) (d0 : decode cc pc = .ok (.new n, 3)) (d1 : decode cc (pc + 3) = .ok (.dup, 1)) (d2 : decode cc (pc + 3 + 1) = .ok (.invokespecial idx, 3))
    (k : ∀ (H1 : Heap) (L1 : List Loc), va_P D vwCl (gW (gEm (D, cls, H.size) off cnt) σb) H1 → H.size ≤ H1.size → (∀ q : Nat, q < H.size → H1[q]? = H[q]?) → (∀ q ∈ L1, H.size ≤ q.base) → W p l e R s m args below meth c H1 (locs ++ L1) (cells + 1 + r'.2.1) (slots + gnf ci + r'.2.2) Q (F0 m (pc + 3 + 1 + 3) ls [.ref H.size])) : W p l e R s m args below meth c H locs cells slots Q (F0 m pc ls []) := by
  obtain ⟨k1, k2, k3, k4, k5, k6, k7, k8, k9, k10⟩ := K
  have hK := hcK H.size
  have hKn := hK.1.1 ci _ (gcl k10)
  refine W.newcK hx hb hown (hts _ k1) (hts _ k2) (hts _ k3) rfl d0 (by omega) (by omega) hKn.2.1 rfl fun H1 kC hkC e1 z1 o1 => ?_
  have hH0 : cH (D, cls, H.size) [] H := ⟨rfl, fun i d h => by simp at h⟩
  have hH1 : cH (D, cls, H.size) [.inr (ci, cdef ci)] H1 := hH0.app z1 o1 ⟨_, gcl k10, (u_born (gty ci) hts (gUin k10) hKn hkC e1 (gty_ok k10)).to (cdef_ok H.size k10)⟩
  refine lv_dup hx hb d1 rfl ?_
  have hM := hcon l (D, cls, H.size)
  have hpre : ∀ U : State, U.heap = H1 → s.WarmedH U.vm → ([Value.ref H.size]).toArray = #[.ref (H.size + 0)] ∧ cH (D, cls, H.size) [.inr (ci, cdef ci)] U.heap ∧ cK (D, cls, H.size) U ∧ gNW U := fun U hU hW => ⟨rfl, by rw [hU]; exact hH1, cK.moved hW.alike hK, gNW_warm hW hN⟩
  have hbl : FrameBlind (fun (v : Array Value) (U : State) => v = #[.ref (H.size + 0)] ∧ cH (D, cls, H.size) [.inr (ci, cdef ci)] U.heap ∧ cK (D, cls, H.size) U ∧ gNW U) := fun a U g mk z => ⟨z.1, z.2.1, cK.moved (u := U) (U := U.calling g mk a) (Vm.Alike.refl U.vm) z.2.2.1, gNW_same (s := U) (U := U.calling g mk a) rfl z.2.2.2⟩
  have hroom : (crm r').frames + 1 ≤ R.frames ∧ 8 + (nL' + 11) + (crm r').locals ≤ R.locals := hfr
  have hrun : va_Run p l e R s m args below meth c H1 locs (cells + 1) (slots + gnf ci) r'.2.1 r'.2.2 (F0 m (pc + 3 + 1) ls [.ref H.size, .ref H.size]) [.ref H.size] (qI off cnt σb (D, cls, H.size) ([Value.ref H.size]).toArray) (cA (D, cls, H.size)) := by
    have hini : Cond.initialized y.cls ∈ gU := by rw [k9]; exact k3
    rcases k5 with l5 | ⟨host, l5⟩
    · exact va_runI (As := []) (rest := [.ref H.size]) ⟨hx, hb, hml, hown, hts⟩ hM ⟨callB_of 0 hts (gU_goodT k6) rfl rfl rfl (hts _ hini) (hts _ l5) k8 hroom, k7, hts _ k4⟩ ⟨hbl, hpre⟩ rfl rfl hsz rfl (lv_room (by show 1 + 0 ≤ 8; omega)) d2 ⟨hcl, hsl⟩
    · exact va_runIN (As := []) (rest := [.ref H.size]) ⟨hx, hb, hml, hown, hts⟩ hM ⟨va_cnB 0 hts (gU_goodT k6) rfl rfl rfl (hN _ l5) (hts _ hini) k8 hroom, k7, hts _ k4⟩ ⟨hbl, hpre⟩ rfl rfl hsz rfl (lv_room (by show 1 + 0 ≤ 8; omega)) d2 ⟨hcl, hsl⟩
  intro T hT X
  obtain ⟨v, st₀, t, T', L, h0, X', hL, e1', e2, ⟨hv, hp, -, hz, hk⟩, stp⟩ := hrun T hT X
  cases hv
  rw [h0] at hz hk
  obtain ⟨t2, a1, b1⟩ := k T'.heap L (by rw [e1']; exact hp) (by rw [e1']; omega) (fun q hq => by rw [e1', hk q (by omega) (by show ¬ H.size ≤ q; omega)]; exact o1 q hq) hL T' rfl X'
  exact ⟨t2, stp t2 a1, b1⟩
theorem gA_ge {G : cG} {off : Nat → Nat → Nat} {cnt : Nat → Nat} {q : Nat} (h : gA (gEm G off cnt) q) : G.2.2 ≤ q := gA_cA q h
theorem gA_lt {E : gE} {σ : gM} {H : Heap} (hP : va_P E.1 vwCl (gW E σ) H) {q : Nat} (h : gA E q) : q < H.size := by
  obtain ⟨a, ha, rfl⟩ := h
  obtain ⟨q0, h0⟩ := gpl_at ha
  exact (hP q0 _ (gW_get (σ := σ) h0)).lt
set_option maxHeartbeats 4000000 in
set_option maxRecDepth 100000 in
/-- THE LAW, from its entry -/
theorem whole_start {p : Program} {e : Env} {s : State} {m : MethodId} {below : List Frame} {meth : Method} {c : Code} (l : Launch) (hflags : l.flags = flags0) {b L : Nat} {xs : Nat → Int32} (hL : L ≤ 3072) (C0 : lw_At p s m meth c b L xs) : W p l e room_1 s m #[Value.ref b] below meth c s.heap [] 0 0 (lw_Z below #[Value.ref b] s) (entryFrame m ([Value.ref b] : List Value).toArray 4) := by
  obtain ⟨hx, hb, hr, hml, hown, hts, hX, hbl, hlocks, hgv⟩ := id C0
  have hown : s.vm.findClass RL = some m.cls := hown
  have hgU : ∀ w ∈ gU, w.before #[Value.ref b] s = true := fun w hw => hts w (List.mem_filter.mp hw).1
  have hN : gNW s := by
    intro w hw
    obtain ⟨h1, h2⟩ := List.mem_filter.mp hw
    have h3 := hts w (List.mem_append_right _ h1)
    cases w <;> first | exact va_Nw.of rfl h3 | cases h2
  obtain ⟨D, cls, hcK⟩ := known hts hgU
  obtain ⟨σa, σb, μa, μb, f1, f2, f3, f4, hI⟩ := first_INV (n := 1024) rfl
  have hl := lv_entry ([.ref b]) (n := 4) (Nat.le_of_ble_eq_true rfl)
  rw [lg_entry_eq]
  generalize (lg_sl ([.ref b]) ++ List.replicate (4 - (lg_sl ([.ref b])).length) Slot.unset).toArray = ls at hl ⊢
  have hl : lv_has ls 4 [(0, .ref b)] := hl
  refine l_make (own := RL) (cells := 0) (slots := 0) hx hb hml hown hgU hN hcK nk_L_7 (c_X8_init f1 f2) ⟨by show 4 + 1 ≤ 12; omega, by show 8 + (1 + 11) + 36 * 4 ≤ 472; omega⟩ (Nat.le_of_ble_eq_true rfl) (Nat.le_of_ble_eq_true rfl) hl.1 dL_0 dL_3 dL_4 (fun H1 L1 hP1 z1 o1 hL1 => ?_)
  refine lv_astore_n (lv' := [(1, .ref s.heap.size), (0, .ref b)]) hx hb dL_7 rfl hl (by decide) rfl (fun ls hl => ?_)
  refine W.widen (k := 488) (n := 77096) (Nat.le_of_ble_eq_true rfl) (Nat.le_of_ble_eq_true rfl) ?_
  refine l_make (own := RL) (cells := 488) (slots := 77096) hx hb hml hown hgU hN hcK nk_L_10 (c_X9_init f3 f4) ⟨by show 3 + 1 ≤ 12; omega, by show 8 + (2 + 11) + 36 * 3 ≤ 472; omega⟩ (Nat.le_of_ble_eq_true rfl) (Nat.le_of_ble_eq_true rfl) hl.1 dL_8 dL_11 dL_12 (fun H2 L2 hP2 z2 o2 hL2 => ?_)
  refine lv_astore_n (lv' := [(2, .ref H1.size), (1, .ref s.heap.size), (0, .ref b)]) hx hb dL_15 rfl hl (by decide) rfl (fun ls hl => ?_)
  refine lv_iconst (v := nI 0) hx hb dL_16 (by decide) ?_
  refine lv_istore_n (lv' := [(3, .int (nI 0)), (2, .ref H1.size), (1, .ref s.heap.size), (0, .ref b)]) hx hb dL_17 rfl hl (by decide) rfl (fun ls hl => ?_)
  refine W.widen (k := 600000) (n := 7302250) (Nat.le_of_ble_eq_true rfl) (Nat.le_of_ble_eq_true rfl) ?_
  have hE : gEok (gEm (D, cls, s.heap.size) offX gcX) := gEok_of offX_nd crefs_X
  have hF : gEok (gEm (D, cls, H1.size) offM gcM) := gEok_of offM_nd crefs_M
  have ap : ∀ q, gA (gEm (D, cls, s.heap.size) offX gcX) q → ¬ gA (gEm (D, cls, H1.size) offM gcM) q := fun q h1 h2 => by
    have a1 := gA_lt (E := gEm (D, cls, s.heap.size) offX gcX) hP1 h1
    have a2 : H1.size ≤ q := gA_ge h2
    omega
  have C : lC (p, l, e, s, m, below, meth, c, b, L, xs, gEm (D, cls, s.heap.size) offX gcX, gEm (D, cls, H1.size) offM gcM) := ⟨⟨hx, hb, hml, hown, hgU, hN⟩, ⟨hX, hbl, hL⟩, ⟨hlocks, hr⟩, ⟨(hcK s.heap.size).1, hE, ⟨by decide, (by decide : 0 < gcX 8)⟩⟩, ⟨(hcK H1.size).1, hF, ⟨by decide, (by decide : 0 < gcM 9)⟩⟩, fun q h => gA_ge h, fun q h => Nat.le_trans z1 (gA_ge h), ap⟩
  have hP1' : va_P D vwCl (gW (gEm (D, cls, s.heap.size) offX gcX) σb) H2 := l_keep (B := fun q => H1.size ≤ q) hE hP1 (fun q h => Nat.not_le.mpr (gA_lt (E := gEm (D, cls, s.heap.size) offX gcX) hP1 h)) (fun q hq _ => o2 q hq)
  have hS : va_S (fun q => s.heap.size ≤ q) s.heap H2 ([] ++ L1 ++ L2) := ⟨Nat.le_trans z1 z2, fun q h1 _ => (o2 q (Nat.lt_of_lt_of_le h1 z1)).trans (o1 q h1), fun q hq => by
    rcases List.mem_append.mp hq with h | h
    · exact hL1 q h
    · exact Nat.le_trans z1 (hL2 q h)⟩
  exact l_loop C (L + 1) 0 σb μb (Nat.zero_le _) (by show L - 0 < L + 1; omega) hI H2 _ ls hP1' hP2 hS hl
set_option maxHeartbeats 4000000 in
theorem lw_walk (l : Launch) (hflags : l.flags = flags0) (b : Addr) (xs : List Int32) : MetFree l x (headSpec (Jvm.Cond.code x code maxLocals ret :: tables_1) room_1) (lw_P b xs) (fun _ _ _ _ _ => True) lw_Q := by
  refine MetFree.of_bodyS (code := code) (maxLocals := maxLocals) (ret := ret) (by decide) ?_ ?_
  · intro args s m h hn
    obtain ⟨meth, c, h1, h2, h3, h4, h5, h6, -, -⟩ := Cond.code_spec hn (atoms_spec (ws := Jvm.Cond.code x code maxLocals ret :: tables_1) h _ List.mem_cons_self)
    exact ⟨meth, c, h1, h2, h3, h4, h5, h6⟩
  · intro p e s m args below meth c s₁ B hml0 hP _
    obtain ⟨rfl, hx, hbd, hgv⟩ := hP
    obtain ⟨scr, harrAt, hlist, hof, hsmall⟩ := hx
    obtain ⟨hcb, hkn, -, -⟩ := State.arrayAt?_spec harrAt
    have hown : s.vm.findClass R_law = some m.cls := findClass_of_methodNamed B.named
    have hts0 : ∀ c ∈ (Jvm.Cond.code x code maxLocals ret :: tables_1), c.before #[Value.ref b] s = true := atoms_spec (ws := Jvm.Cond.code x code maxLocals ret :: tables_1) B.pre
    have hts : ∀ w ∈ lw_tbl, w.before #[Value.ref b] s = true := k2_hts_sels lw_privs (fun w hw => hts0 w (List.mem_cons_of_mem _ hw)) lw_privs_ok
    have hml : c.maxLocals = 4 := B.maxLocals_eq (hts0 _ List.mem_cons_self)
    have X₀ : Stand p l e room_1 s m #[Value.ref b] below meth c s₁ [] 0 0 := Stand.of_body B
    have hh0 : s₁.heap = s.heap := by rw [B.state]; rfl
    have hsz : scr.slots.size = xs.length := by rw [← Array.length_toList, hlist, List.length_map]
    have hval : ∀ j : Nat, j < xs.length → scr.slots[j]? = some (.int (xs.getD j 0)) := fun j hj => by
      rw [← Array.getElem?_toList, hlist]
      simp [hj]
    have hbl : b < s.heap.size := (Array.getElem?_eq_some_iff.mp hcb).1
    have hX : va_X b xs.length (fun j => xs.getD j 0) s s.heap := ⟨scr, hcb, hof, hkn, hsz, hval⟩
    have K : W p l e room_1 s m #[Value.ref b] below meth c s₁.heap [] 0 0 (lw_Z below #[Value.ref b] s) (entryFrame m ([Value.ref b] : List Value).toArray 4) := by
      rw [hh0]
      exact whole_start l hflags hbd ⟨B.exec, B.bytes, B.returns, hml, hown, hts, hX, hbl, B.notSynchronized, hgv⟩
    obtain ⟨t, a1, o, b1, b2, b3⟩ := K s₁ rfl X₀
    exact ⟨t, o, a1, b1, b2, b3⟩
theorem lw_pre_spec {args : Array Value} {s : State} (h : (Jvm.Cond.and given_1 narrow_1).before args s = true) (hr : rest_1_c.before args s = true) : ∃ (b : Addr) (xs : List Int32), lw_P b xs args s := by
  have hs := flat_of_before _ h
  have hq := flat_of_before _ hr
  have hc : (Cond.count 1).before args s = true := hs _ (by decide +kernel)
  have harr : (Cond.arrayOf (.arg 0) .int).before args s = true := hs _ (by decide +kernel)
  have hle : (Cond.le (.length (.arg 0)) (.int 3072)).before args s = true := hs _ (by decide +kernel)
  have hlen : (Cond.isInt (.length (.arg 0))).before args s = true := hq _ (by decide +kernel)
  have hall : (Cond.all (.arg 0) (.isInt (.elem (.arg 0) (.index 0)))).before args s = true := hq _ (by decide +kernel)
  obtain ⟨b, xs, hb, hx⟩ := State.ints_of_pre rfl harr hlen hall
  have hsm : xs.length < 2 ^ 31 := hx.choose_spec.2.2.2
  have hev : (Term.length (.arg 0)).eval args s none [] s = some (.int xs.length.toInt32) := hx.length_eval hb
  have hv := Cond.le_ints hev (show (Term.int 3072).eval args s none [] s = some (.int 3072) from rfl)
  have hd : xs.length.toInt32 ≤ 3072 := by
    simpa [Cond.before, Cond.holds, hv] using hle
  have hN : xs.length ≤ 3072 := (Int32.ofNat_le_ofNat hsm (by decide)).mp (show Int32.ofNat xs.length ≤ Int32.ofNat 3072 from hd)
  exact ⟨b, xs, Cond.one_arg hc (show args[0]? = some (.ref b) from hb), hx, hN, h⟩
theorem lw_comes (l : Launch) (hflags : l.flags = flags0) : Comes l x (Jvm.Cond.code x code maxLocals ret :: tables_1) room_1 (fun tb e args s => Calls_1 tb e args s ∧ rest_1 tb e args s ∧ Pre_1 tb e args s)
    (fun _ _ args s o t => lw_Q args s o t) := by
  intro p e ha hc hk s m args below hf hfit hheap happ hpre
  obtain ⟨b, xs, hP⟩ := lw_pre_spec hpre.2.2 hpre.2.1
  obtain ⟨k, o, h1, h2, h3, hQ⟩ := lw_walk l hflags b xs p e ha hc hk s m args below hf ((Spec.applies_iff_loose hf).mp happ).1 hP trivial
  exact ⟨k, o, h1, h2, h3, hQ⟩
theorem lw_frame {s t : State} {o : Outcome} {args : Array Value} (h : State.butDraws s t lw_cs (fun t1 => Framed s o t1 [] 600000 7302250)) :
    State.butDraws s t [Jvm.Choice.named "NaN.bits"] (fun t1 => Framed s o t1 (fieldLocs frame_1_writes args s ++ arrayLocs frame_1_arrays args s ++ staticLocs frame_1_statics s) 600000 7302250) := h
theorem lw_limb (L : Cond) (hL : ∀ (args : Array Value) (s t : State), L.after args s (.returned (some (.int 1))) t = true) :
    ArmFor flags0 classFile x code maxLocals ret World_1 tables_1 room_1 Calls_1 rest_1 Pre_1
      (fun tb e a s o t => postC L tb e a s o t ∧ State.butDraws s t [Jvm.Choice.named "NaN.bits"] (fun t1 => Framed s o t1 (fieldLocs frame_1_writes a s ++ arrayLocs frame_1_arrays a s ++ staticLocs frame_1_statics s) 600000 7302250)) := by
  intro l hflags _ _ p e ha hc hk s m args below hf hfit hheap happ hpre
  obtain ⟨k, o, h1, h2, h3, rfl, hF⟩ := lw_comes l hflags p e ha hc hk s m args below hf hfit hheap happ hpre
  exact ⟨k, _, h1, h2, h3, hL args s _, lw_frame hF⟩
theorem i_vc : Claimed_1_1 ∧ Claimed_1_2 := ⟨lw_limb limb_1_1 (fun args s t => by simp [limb_1_1, Cond.after, Cond.holds, Cond.value]), lw_limb limb_1_2 (fun args s t => Cond.after_iff.mpr (by
  first | (rw [show limb_1_2 = Cond.eq .result (.int 1) from rfl, Cond.eq_ints (x := 1) (y := 1) rfl rfl]; simp; done) | (simp [limb_1_2, Cond.value, Term.eval]; done)))⟩
