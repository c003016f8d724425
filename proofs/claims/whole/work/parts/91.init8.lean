/-! LAYER 3: the component's constructor, to its end. -/
theorem x_get {p : Program} {l : Launch} {e : Env} {R : Room} {s : State} {m : MethodId} {args : Array Value} {below : List Frame} {meth : Method} {c : Code} {H : Heap} {locs : List Loc} {cells slots : Nat} {Q : State → Prop} {own : String} {cc : ByteArray} {pc : Nat} {ls : Array Slot} {rest : List Value} {E : gE} {σ : gM} {idx t k j : Nat}
    (hx : p.tables.exec = Jvm.exec) (hb : c.code = cc) (hown : s.vm.findClass own = some m.cls) (hts : ∀ w ∈ gU, w.before args s = true) (hN : gNW s) (hK : va_K E.1 vwCl (gtys E) s) (hf : gFW own idx t j) (hg : gin E (t, k)) (hP : va_P E.1 vwCl (gW E σ) H) (hd : decode cc pc = .ok (.getfield idx, 3)) (kk : W p l e R s m args below meth c H locs cells slots Q (F0 m (pc + 3) ls (gv E (gfv σ t k j) :: rest))) : W p l e R s m args below meth c H locs cells slots Q (F0 m pc ls (.ref (E.2.2.1 t k) :: rest)) := by
  obtain ⟨ht, hj, hT, hlink⟩ := hf
  obtain ⟨q0, h0⟩ := gpl_at hg
  have hw := gW_get (σ := σ) h0
  rw [gcell_obj ht] at hw
  rcases hlink with hl1 | ⟨host, hl1⟩
  · exact va_get (D := E.1) (ci := t) (v := gv E (gfv σ t k j)) (C := gRn t) (T := gTn t) (N := gnf t) hx hb hts (gUin ht) hown hK hP q0 hw (gcl ht) j hj (hts _ hl1) (fun x hx => by rw [← hT]; exact hx) (gfs_at hj) hd kk
  · exact va_getN (D := E.1) (ci := t) (v := gv E (gfv σ t k j)) (C := gRn t) (T := gTn t) (N := gnf t) hx hb hts (gUin ht) hown hK hP q0 hw (gcl ht) j hj (va_Nw.use rfl (hN _ hl1)) (fun x hx => by rw [← hT]; exact hx) (gfs_at hj) hd kk
theorem x_S {A B : Nat → Prop} {H0 H H1 : Heap} {locs L1 : List Loc} (h : va_S A H0 H locs) (hAB : ∀ q, B q → A q) (z : H.size ≤ H1.size) (o : ∀ q : Nat, q < H.size → ¬ B q → H1[q]? = H[q]?) (hL : ∀ q ∈ L1, B q.base) : va_S A H0 H1 (locs ++ L1) := by
  refine ⟨Nat.le_trans h.1 z, fun q h1 h2 => ?_, fun q hq => ?_⟩
  · rw [o q (Nat.lt_of_lt_of_le h1 h.1) (fun y => h2 (hAB q y))]
    exact h.2.1 q h1 h2
  · rcases List.mem_append.mp hq with y | y
    · exact h.2.2 q y
    · exact hAB _ (hL q y)
theorem gA_cA {G : cG} {off : Nat → Nat → Nat} {cnt : Nat → Nat} : ∀ q, gA (gEm G off cnt) q → cA G q := by
  rintro q ⟨a, -, rfl⟩
  exact Nat.le_add_right _ _
def gConQ (y : MethodName) (cc : ByteArray) (nL : Nat) (r : Nat × Nat × Nat) (i : Nat) (S : List CD) (Q' : cG → Array Value → State → Outcome → State → Prop) : Prop := ∀ (l : Launch) (G : cG), Met l y (Cond.code y cc nL none :: gU) (crm r) (fun v U => v = #[.ref (G.2.2 + i)] ∧ cH G S U.heap ∧ cK G U ∧ gNW U) (Q' G) r.2.1 r.2.2 (cA G)
theorem gConQ.of {y : MethodName} {cc : ByteArray} {nL : Nat} {r : Nat × Nat × Nat} {i : Nat} {S : List CD} {Q' : cG → Array Value → State → Outcome → State → Prop} (hy : plainName y.cls = true) (hyn : y.name = "<init>") (hn : 1 ≤ nL) (k : ∀ X : cX, cC X y.cls cc r nL → cW X Q' 0 [(0, .ref ((xG X).2.2 + i))] [] S 0 0) : gConQ y cc nL r i S Q' := by
  intro l G
  refine Met.ofW (cc := cc) (maxL := nL) (ret := none) hy rfl ?_
  intro p e s m args below meth c s₁ B hml hv
  obtain ⟨rfl, hP, hK, hN⟩ := hv
  have hts := atoms_spec (ws := Cond.code y cc nL none :: gU) B.pre
  have hown : s.vm.findClass y.cls = some m.cls := findClass_of_methodNamed B.named
  have hin : meth.name = "<init>" := ((name_of_methodNamed B.named B.method).1).trans hyn
  have hC : cC (p, l, e, r, s, m, #[.ref (G.2.2 + i)], below, meth, c, G, nL) y.cls cc r nL := ⟨rfl, rfl, B.exec, B.bytes, hml, hown, fun w hw => hts w (List.mem_cons_of_mem _ hw), hN, hK, B.notSynchronized, B.returns, hin, by rw [hP.1]; exact Nat.le_add_right _ _⟩
  have hl := lv_entry [Value.ref (G.2.2 + i)] (n := nL) hn
  rw [show (#[.ref (G.2.2 + i)] : Array Value) = [Value.ref (G.2.2 + i)].toArray from rfl, lg_entry_eq]
  generalize (lg_sl [Value.ref (G.2.2 + i)] ++ List.replicate (nL - (lg_sl [Value.ref (G.2.2 + i)]).length) Slot.unset).toArray = ls at hl ⊢
  exact k _ hC s.heap [] ls hP va_S.rf hl
def qI (off : Nat → Nat → Nat) (cnt : Nat → Nat) (σ : gM) (G : cG) : Array Value → State → Outcome → State → Prop := fun _ st oc t => oc = .returned none ∧ va_P G.1 vwCl (gW (gEm G off cnt) σ) t.heap ∧ cK G t ∧ va_F (cA G) st t
theorem σX_arr : ∀ t k i, ¬ t < 10 → σX t k i = 0 := by
  intro t k i h
  unfold σX
  rw [if_neg (by omega)]
theorem c_X8_init {σa σb : gM} (h1 : X3_begin 0 σX = some ((), σa)) (h2 : X3_begin 21 σa = some ((), σb)) : gConQ yX8_init cX8_init 1 (4, 487, 77082) 0 [.inr (8, cdef 8)] (qI offX gcX σb) := by
  refine gConQ.of (by decide +kernel) rfl (Nat.le_refl _) (fun X C => ?_)
  refine x8_made C ?_
  obtain ⟨p, l, e, r', s, m, args, below, meth, co, G, nL'⟩ := X
  obtain ⟨rfl, rfl, hx, hb, hml, hown, hts, hN, ⟨hK, hO⟩, hlk, hrt, hin, hN0⟩ := C
  intro H locs ls hH hS hlv
  have hE : gEok (gEm G offX gcX) := gEok_of offX_nd crefs_X
  have hP := world_of (off := offX) (cnt := gcX) σX_arr CX8_ok hH
  have hKE : va_K (gEm G offX gcX).1 vwCl (gtys (gEm G offX gcX)) s := hK
  have g80 : gin (gEm G offX gcX) (8, 0) := ⟨by decide, (by decide : 0 < gcX 8)⟩
  have g60 : gin (gEm G offX gcX) (6, 0) := ⟨by decide, (by decide : 0 < gcX 6)⟩
  have g61 : gin (gEm G offX gcX) (6, 1) := ⟨by decide, (by decide : 1 < gcX 6)⟩
  have g30 : gin (gEm G offX gcX) (3, 0) := ⟨by decide, (by decide : 0 < gcX 3)⟩
  have g31 : gin (gEm G offX gcX) (3, 21) := ⟨by decide, (by decide : 21 < gcX 3)⟩
  have c1 := c_X3_begin 0 σX
  rw [h1] at c1
  have c2 := c_X3_begin 21 σa
  rw [h2] at c2
  have hl0 : ls[0]? = some (.val (.ref ((gEm G offX gcX).2.2.1 8 0))) := lv_at hlv 0 rfl
  refine lv_aload_n hx hb dX8_init_130 rfl hl0 ?_
  refine x_get (σ := σX) (j := 0) hx hb hown hts hN hKE fl_X8_10 g80 hP dX8_init_131 ?_
  show W p l e _ s m args below meth co H locs _ _ _ (F0 m 134 ls [.ref ((gEm G offX gcX).2.2.1 6 0)])
  refine x_get (σ := σX) (j := 0) hx hb hown hts hN hKE fl_X8_82 g60 hP dX8_init_134 ?_
  show W p l e _ s m args below meth co H locs _ _ _ (F0 m 137 ls [.ref ((gEm G offX gcX).2.2.1 3 0)])
  refine x_callV (As := []) (rest := []) (σ := σX) (σ1 := σa) hx hb hml hown hts hN hKE hE il_X8_85 co_X3_begin (by decide) rfl c1 (by show 3 ≤ 4; omega) (by show 8 + (2 + 11) + 36 * 2 ≤ 36 * 4; omega) rfl g30 (fun v hv => by cases hv) hP hlv.1 (by decide) ⟨Nat.le_refl _, Nat.le_refl _⟩ dX8_init_137 (fun H1 L1 hP1 z1 o1 hL1 => ?_)
  have hS1 := x_S hS gA_cA z1 o1 hL1
  refine lv_aload_n hx hb dX8_init_140 rfl hl0 ?_
  refine x_get (σ := σa) (j := 1) hx hb hown hts hN hKE fl_X8_16 g80 hP1 dX8_init_141 ?_
  show W p l e _ s m args below meth co H1 (locs ++ L1) _ _ _ (F0 m 144 ls [.ref ((gEm G offX gcX).2.2.1 6 1)])
  refine x_get (σ := σa) (j := 0) hx hb hown hts hN hKE fl_X8_82 g61 hP1 dX8_init_144 ?_
  show W p l e _ s m args below meth co H1 (locs ++ L1) _ _ _ (F0 m 147 ls [.ref ((gEm G offX gcX).2.2.1 3 21)])
  refine x_callV (As := []) (rest := []) (σ := σa) (σ1 := σb) hx hb hml hown hts hN hKE hE il_X8_85 co_X3_begin (by decide) rfl c2 (by show 3 ≤ 4; omega) (by show 8 + (2 + 11) + 36 * 2 ≤ 36 * 4; omega) rfl g31 (fun v hv => by cases hv) hP1 hlv.1 (by decide) ⟨Nat.le_refl _, Nat.le_refl _⟩ dX8_init_147 (fun H2 L2 hP2 z2 o2 hL2 => ?_)
  have hS2 := x_S hS1 gA_cA z2 o2 hL2
  exact W.vret hx hb hrt (fun t ht hW => ⟨rfl, by rw [ht]; exact hP2, cK.moved hW.alike ⟨hK, hO⟩, hS2.F ht⟩) hS2.2.2 dX8_init_150 hlk
