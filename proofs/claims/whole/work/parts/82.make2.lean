/-! LAYER 3: making: rows for arrays, fields, calls. -/
def catype (c : Nat) : ArrayType := if c = 0 then .int else .boolean
theorem cr_newa {X : cX} {own : String} {cc : ByteArray} {r : Nat × Nat × Nat} {nL : Nat} (C : cC X own cc r nL) {S' : cG → Array Value → State → Outcome → State → Prop} {S : List CD} {pc : Nat} {lv : List (Nat × Value)} {st : List Value} {cells slots c N : Nat} {n : Int32} {at0 : ArrayType} (hc2 : (c = 0 ∧ at0 = .int ∧ Cond.arrayClass .int ∈ gU) ∨ (c = 1 ∧ at0 = .boolean ∧ Cond.arrayClass .boolean ∈ gU)) (hn : n = nI N) (hN : N ≤ 40000) (hc : cells + 1 ≤ r.2.1) (hs : slots + N ≤ r.2.2) (hd : decode cc pc = .ok (.newarray at0, 2)) (k : cW X S' (pc + 2) lv (.ref ((xG X).2.2 + S.length) :: st) (S ++ [.inl (c, N, none)]) (cells + 1) (slots + N)) : cW X S' pc lv (.int n :: st) S cells slots := by
  subst hn
  obtain ⟨p, l, e, r', s, m, args, below, meth, co, G, nL'⟩ := X
  obtain ⟨rfl, rfl, hx, hb, hml, hown, hts, hNW, ⟨hK, hO⟩, hlk, hrt, hin, hN0⟩ := C
  intro H locs ls hH hS hlv
  have h1 : ¬ nI N < 0 := nI_neg (by omega)
  have h2 : (nI N).toNatClampNeg = N := nI_cl (by omega)
  have fin : ∀ (H1 : Heap) (cA1 : ClassId), H1[H.size]? = some (arrV cA1 N (fun _ => .int 0)) → H1.size = H.size + 1 → (∀ q, q < H.size → H1[q]? = H[q]?) → cA1 = G.2.1 c → W p l e (crm r') s m args below meth co H1 locs (cells + 1) (slots + N) (MQ below (S' G) args s r'.2.1 r'.2.2 (cA G)) (F0 m (pc + 2) ls (.ref H.size :: st)) := by
    intro H1 cA1 e1 z1 o1 hcA
    subst hcA
    have := k H1 locs ls (hH.app (d := .inl (c, N, none)) z1 o1 e1) ⟨Nat.le_trans hS.1 (by omega), fun x h1 h2 => (o1 x (Nat.lt_of_lt_of_le h1 hS.1)).trans (hS.2.1 x h1 h2), hS.2.2⟩ hlv
    rw [hH.1]
    exact this
  rcases hc2 with ⟨rfl, rfl, hA⟩ | ⟨rfl, rfl, hA⟩
  · exact va_newaK (atype := .int) hx hb (hts _ hA) (g := F0 m pc ls (.int (nI N) :: st)) rfl hd rfl h1 h2 (by show N * 4 ≤ 536870912; omega) hc hs rfl (fun H1 cA1 e1 z1 o1 _ hnm => fin H1 cA1 e1 z1 o1 (Option.some.inj (hnm.symm.trans (hK.2 0 (G.2.1 0, .int) rfl).2)))
  · exact va_newaK (atype := .boolean) hx hb (hts _ hA) (g := F0 m pc ls (.int (nI N) :: st)) rfl hd rfl h1 h2 (by show N * 1 ≤ 536870912; omega) hc hs rfl (fun H1 cA1 e1 z1 o1 _ hnm => fin H1 cA1 e1 z1 o1 (Option.some.inj (hnm.symm.trans (hK.2 1 (G.2.1 1, .boolean) rfl).2)))
theorem crf_none (N0 n : Nat) : crf N0 (List.replicate n none) = fun _ => none := by
  funext i
  unfold crf
  rw [List.getElem?_replicate]
  by_cases c : i < n
  · rw [if_pos c]
  · rw [if_neg c]
theorem cr_anew {X : cX} {own : String} {cc : ByteArray} {r : Nat × Nat × Nat} {nL : Nat} (C : cC X own cc r nL) {S' : cG → Array Value → State → Outcome → State → Prop} {S : List CD} {pc : Nat} {lv : List (Nat × Value)} {st : List Value} {cells slots idx c N ci : Nat} {n : Int32} (hc2 : (c = 2 ∧ ci = 3) ∨ (c = 3 ∧ ci = 5)) (hcl : Cond.classLink own idx (gRn ci) ∈ gU) (hn : n = nI N) (hN : N ≤ 40000) (hc : cells + 1 ≤ r.2.1) (hs : slots + N ≤ r.2.2) (hd : decode cc pc = .ok (.anewarray idx, 3)) (k : cW X S' (pc + 3) lv (.ref ((xG X).2.2 + S.length) :: st) (S ++ [.inl (c, N, some (List.replicate N none))]) (cells + 1) (slots + N)) : cW X S' pc lv (.int n :: st) S cells slots := by
  subst hn
  obtain ⟨p, l, e, r', s, m, args, below, meth, co, G, nL'⟩ := X
  obtain ⟨rfl, rfl, hx, hb, hml, hown, hts, hNW, ⟨hK, hO⟩, hlk, hrt, hin, hN0⟩ := C
  intro H locs ls hH hS hlv
  have h1 : ¬ nI N < 0 := nI_neg (by omega)
  have h2 : (nI N).toNatClampNeg = N := nI_cl (by omega)
  have hnm : s.vm.findClass ("[" ++ (FieldType.object (gRn ci)).toString) = some (G.2.1 c) := by
    rcases hc2 with ⟨rfl, rfl⟩ | ⟨rfl, rfl⟩
    · obtain ⟨kA, comp, z1, z2, z3, z4⟩ := (hK.2 2 (G.2.1 2, .object "SkewedWays$Store") rfl).2
      exact z4
    · obtain ⟨kA, comp, z1, z2, z3, z4⟩ := (hK.2 3 (G.2.1 3, .object "SkewedWays$Trace") rfl).2
      exact z4
  have hov : (Cond.arrayOver (.object (gRn ci))).before args s = true := by
    rcases hc2 with ⟨rfl, rfl⟩ | ⟨rfl, rfl⟩
    · exact va_AO.use hO.1
    · exact va_AO.use hO.2
  refine W.anew hx hb hown (hts _ hcl) hov (g := F0 m pc ls (.int (nI N) :: st)) rfl hd rfl h1 (by rw [h2]; omega) hc (by rw [h2]; exact hs) fun cA1 kA comp f1 f2 f3 f4 => ?_
  rw [h2]
  have hcA : cA1 = G.2.1 c := Option.some.inj (f1.symm.trans hnm)
  subst hcA
  generalize hH1 : H.push ({ cls := G.2.1 c, slots := Array.replicate N .null, vm := .none } : Cell) = H1
  have z1 : H1.size = H.size + 1 := by rw [← hH1, Array.size_push]
  have e1 : H1[H.size]? = some (arrV (G.2.1 c) N (fun _ => .null)) := by rw [← hH1, Array.getElem?_push_size, ← arrV_new]
  have o1 : ∀ q : Nat, q < H.size → H1[q]? = H[q]? := fun q hq => by rw [← hH1, Array.getElem?_push, if_neg (Nat.ne_of_lt hq)]
  have := k H1 locs ls (hH.app (d := .inl (c, N, some (List.replicate N none))) z1 o1 (by
    show H1[H.size]? = some (vp_cell _ _)
    rw [crf_none, vp_cell_q]
    exact e1)) ⟨Nat.le_trans hS.1 (by omega), fun x h1 h2 => (o1 x (Nat.lt_of_lt_of_le h1 hS.1)).trans (hS.2.1 x h1 h2), hS.2.2⟩ hlv
  rw [hH.1]
  exact this
theorem cr_put {X : cX} {own : String} {cc : ByteArray} {r : Nat × Nat × Nat} {nL : Nat} (C : cC X own cc r nL) {S' : cG → Array Value → State → Outcome → State → Prop} {S : List CD} {pc : Nat} {lv : List (Nat × Value)} {st : List Value} {cells slots idx ci i j : Nat} {fs : List CV} {v : CV} (hf : gFW own idx ci j) (hl : Cond.fieldLink own idx (gRn ci) (gTn ci j).2.1 (gTn ci j).2.2.1 ∈ gU) (how : own = gRn ci) (hi : S[i]? = some (.inr (ci, fs))) (hfs : j < fs.length) (hn : ∀ N0, narrow (gty ci j) (cval N0 v) = cval N0 v) (hft : ∀ N0, fits (gty ci j) (cval N0 v) = true) (hd : decode cc pc = .ok (.putfield idx, 3)) (k : cW X S' (pc + 3) lv st (S.set i (.inr (ci, fs.set j v))) cells slots) : cW X S' pc lv (cval (xG X).2.2 v :: .ref ((xG X).2.2 + i) :: st) S cells slots := by
  obtain ⟨p, l, e, r', s, m, args, below, meth, co, G, nL'⟩ := X
  obtain ⟨rfl, rfl, hx, hb, hml, hown, hts, hNW, ⟨hK, hO⟩, hlk, hrt, hin, hN0⟩ := C
  intro H locs ls hH hS hlv
  obtain ⟨ht, hj, hT, -⟩ := hf
  have hap := va_apart (own := own) hts (gUin ht) (gty ci) (gty_ok ht) (gnm_ok ht) hK (gcl ht)
  obtain ⟨r0, h1, cell, q1, q2, q3, q4⟩ := hH.2 i _ hi
  have hr : r0 = (gRn ci, gTn ci, gnf ci) := Option.some.inj (h1.symm.trans (gcl ht))
  subst hr
  obtain ⟨hSl, hfc, kC, hkC, hkind⟩ := hK.1 ci _ (gcl ht)
  obtain ⟨cf, kf, fi, f, hif, hsl⟩ := hSl j hj
  have hlay := hts _ (gUin ht _ (u_in_lay hj))
  have hst := (u_facts hfc hkC (u_lays hts (gUin ht) hj) hif).1
  have hsame : s.fieldFound? (gRn ci) (gTn ci j).2.1 (gTn ci j).2.2.1 = some (cf, kf, fi, f) := by
    have := hif
    dsimp only at this
    rw [hT] at this
    exact this
  have go : ∀ H1 : Heap, H1[G.2.2 + i]? = some (cell.setSlot f.slot (cval G.2.2 v)) → H1.size = H.size → (∀ q, q ≠ G.2.2 + i → H1[q]? = H[q]?) → W p l e (crm r') s m args below meth co H1 (locs ++ [⟨G.2.2 + i, f.slot⟩]) cells slots (MQ below (S' G) args s r'.2.1 r'.2.2 (cA G)) (F0 m (pc + 3) ls st) := by
    intro H1 e1 z1 o1
    rw [hsl] at e1
    refine k H1 _ ls (hH.put (d := .inr (ci, fs.set j v)) hi z1 o1 ⟨_, gcl ht, t_OB.to (V := updV (vp_V (fs.map (cval G.2.2))) j (cval G.2.2 v)) ⟨_, e1, q2, q3, t_set q4 hap hj _⟩ (fun a _ => ?_)⟩) (hS.put z1 o1 (Nat.le_add_right _ _)) hlv
    rw [vp_updV_set (by rw [List.length_map]; exact hfs), ← List.map_set]
  unfold u_lay at hlay
  by_cases hfin : (gTn ci j).2.2.2 = true
  · rw [if_pos hfin] at hlay
    have hcf : m.cls = cf := by
      obtain ⟨_, _, c', _, _, _, -, -, hf', -, -, -, hown2, -⟩ := Cond.laysFinal_spec hlay
      have e1 : c' = cf := by have := hif.symm.trans hf'; simp at this; exact this.1.symm
      rw [hT, ← how] at hown2
      rw [← e1]; exact Option.some.inj (hown.symm.trans hown2)
    have h6 := u_fits hfc hkC hkind (Or.inr hlay) hif (gty_ok ht j hj) (hn G.2.2) (hft G.2.2)
    exact W.putFinK hx hb hown (hts _ hl) hsame hst hcf hin (by rw [q2]; exact h6) q1 q3 (by rw [hsl]; exact k2_hasslot (q4 j hj)) rfl rfl hd go
  · rw [if_neg hfin] at hlay
    have h6 := u_store hfc hkC hkind hlay hif (gty_ok ht j hj) (hn G.2.2) (hft G.2.2)
    exact W.putK hx hb (f := f) ⟨hown, hts _ hl, ⟨_, _, _, hsame⟩, hst⟩ (by rw [q2]; exact h6) q1 q3 (by rw [hsl]; exact k2_hasslot (q4 j hj)) rfl rfl hd go
theorem cr_aast {X : cX} {own : String} {cc : ByteArray} {r : Nat × Nat × Nat} {nL : Nat} (C : cC X own cc r nL) {S' : cG → Array Value → State → Outcome → State → Prop} {S : List CD} {pc : Nat} {lv : List (Nat × Value)} {st : List Value} {cells slots i o c ci j n : Nat} {l : List (Option Nat)} {fs : List CV} {jv : Int32} (hc2 : (c = 2 ∧ ci = 3) ∨ (c = 3 ∧ ci = 5)) (hjv : jv = nI j) (hj : j < n) (hln : l.length = n) (hn4 : n ≤ 40000) (hi : S[i]? = some (.inl (c, n, some l))) (ho : S[o]? = some (.inr (ci, fs))) (hd : decode cc pc = .ok (.aastore, 1)) (k : cW X S' (pc + 1) lv st (S.set i (.inl (c, n, some (l.set j (some o))))) cells slots) : cW X S' pc lv (.ref ((xG X).2.2 + o) :: .int jv :: .ref ((xG X).2.2 + i) :: st) S cells slots := by
  subst hjv
  obtain ⟨p, la, e, r', s, m, args, below, meth, co, G, nL'⟩ := X
  obtain ⟨rfl, rfl, hx, hb, hml, hown, hts, hNW, ⟨hK, hO⟩, hlk, hrt, hin, hN0⟩ := C
  intro H locs ls hH hS hlv
  have hci : ci < 10 := by omega
  obtain ⟨r0, hr0, cellV, g1, g2, g3, -⟩ := hH.2 o _ ho
  have hcls := (hK.1 ci _ (gcl hci)).2
  have h2 : (nI j).toNatClampNeg = j := nI_cl (by omega)
  have hty : ∃ (kA : Class) (comp : ClassId), s.vm.classes[G.2.1 c]? = some kA ∧ kA.kind = .array comp (.object (gRn ci)) ∧ s.vm.findClass (gRn ci) = some comp := by
    rcases hc2 with ⟨rfl, rfl⟩ | ⟨rfl, rfl⟩
    · obtain ⟨kA, comp, z1, z2, z3, z4⟩ := (hK.2 2 (G.2.1 2, .object "SkewedWays$Store") rfl).2
      exact ⟨kA, comp, z1, z2, z3⟩
    · obtain ⟨kA, comp, z1, z2, z3, z4⟩ := (hK.2 3 (G.2.1 3, .object "SkewedWays$Trace") rfl).2
      exact ⟨kA, comp, z1, z2, z3⟩
  obtain ⟨kA, comp, k1, k2, k3⟩ := hty
  have hcomp : comp = G.1.1 ci := Option.some.inj (k3.symm.trans hcls.1)
  subst hcomp
  obtain ⟨kC, hkC, -⟩ := id hcls.2
  have hcell : H[G.2.2 + i]? = some (arrV (G.2.1 c) n (fun q => va_rf (crf G.2.2 l q))) := hH.2 i _ hi
  refine W.aast hx hb hcell (fun q h => by cases h) (fun h => by cases h) k1 k2 rfl hkC ⟨nI_neg (by omega), by rw [h2]; show j < (arrV _ _ _).slots.size; rw [arrV_size]; exact hj⟩ g1 (fun q h => by rw [g3] at h; cases h) (by rw [g2]; exact hkC) (by rw [g2]; exact va_assign hcls) rfl rfl hd fun H1 e1 z o1 => ?_
  rw [h2] at e1 ⊢
  refine k H1 _ ls (hH.put (d := .inl (c, n, some (l.set j (some o)))) hi z o1 ?_) (hS.put z o1 (Nat.le_add_right _ _)) hlv
  show H1[G.2.2 + i]? = some (vp_cell _ _)
  rw [e1, vp_cell_q, arrV_store]
  congr 2
  funext q
  unfold crf
  by_cases hq : q = j
  · subst hq
    rw [List.getElem?_set_self (by omega)]
    simp [updV, va_rf]
  · rw [List.getElem?_set_ne (Ne.symm hq)]
    simp [updV, hq]
/-- a constructor's contract -/
def gConC (y : MethodName) (cc : ByteArray) (nL : Nat) (r : Nat × Nat × Nat) (i : Nat) (S S' : List CD) : Prop := ∀ (l : Launch) (G : cG), Met l y (Cond.code y cc nL none :: gU) (crm r) (fun v U => v = #[.ref (G.2.2 + i)] ∧ cH G S U.heap ∧ cK G U ∧ gNW U) (cQ G S') r.2.1 r.2.2 (cA G)
theorem gConC.of {y : MethodName} {cc : ByteArray} {nL : Nat} {r : Nat × Nat × Nat} {i : Nat} {S S' : List CD} (hy : plainName y.cls = true) (hyn : y.name = "<init>") (hn : 1 ≤ nL) (k : ∀ X : cX, cC X y.cls cc r nL → cW X (cR S') 0 [(0, .ref ((xG X).2.2 + i))] [] S 0 0) : gConC y cc nL r i S S' := by
  intro l G
  refine Met.ofW (cc := cc) (maxL := nL) (ret := none) hy rfl ?_
  intro p e s m args below meth c s₁ B hml hv
  obtain ⟨rfl, hP, hK, hN⟩ := hv
  have hts := atoms_spec (ws := Cond.code y cc nL none :: gU) B.pre
  have hown : s.vm.findClass y.cls = some m.cls := findClass_of_methodNamed B.named
  have hin : meth.name = "<init>" := ((name_of_methodNamed B.named B.method).1).trans hyn
  have hC : cC (p, l, e, r, s, m, #[.ref (G.2.2 + i)], below, meth, c, G, nL) y.cls cc r nL := ⟨rfl, rfl, B.exec, B.bytes, hml, hown, fun w hw => hts w (List.mem_cons_of_mem _ hw), hN, hK, B.notSynchronized, B.returns, hin, by rw [hP.1]; exact Nat.le_add_right _ _⟩
  have hl := lv_entry [Value.ref (G.2.2 + i)] (n := nL) hn
  rw [show (#[.ref (G.2.2 + i)] : Array Value) = [Value.ref (G.2.2 + i)].toArray from rfl, lg_entry_eq]
  generalize (lg_sl [Value.ref (G.2.2 + i)] ++ List.replicate (nL - (lg_sl [Value.ref (G.2.2 + i)]).length) Slot.unset).toArray = ls at hl ⊢
  exact k _ hC s.heap [] ls hP va_S.rf hl
theorem cr_call {X : cX} {own : String} {cc : ByteArray} {r : Nat × Nat × Nat} {nL : Nat} (C : cC X own cc r nL) {S' : cG → Array Value → State → Outcome → State → Prop} {S S1 : List CD} {pc : Nat} {lv : List (Nat × Value)} {st : List Value} {cells slots idx i nL' : Nat} {r' : Nat × Nat × Nat} {y : MethodName} {cc' : ByteArray} (hcon : gConC y cc' nL' r' i S S1) (hcode : Cond.code y cc' nL' none ∈ gU) (hyn : y.name = "<init>") (hyd : y.cls ≠ "java/lang/invoke/MethodHandle" ∧ y.cls ≠ "java/lang/invoke/VarHandle" ∧ (parseMethodDescriptor y.desc).map (fun d => d.parameters.length) = some 0) (hini : Cond.initialized y.cls ∈ gU) (hinst : Cond.instanceMethod y ∈ gU) (hlink : Cond.methodLink own idx y ∈ gU ∨ ∃ host, Cond.methodLinkNest own idx y host ∈ gNL) (hfr : r'.1 + 1 ≤ r.1) (hnl : nL' ≤ 17) (hst : st.length ≤ 4) (hcat : ∀ v ∈ st, v.category ≤ 2) (hc : cells + r'.2.1 ≤ r.2.1) (hs : slots + r'.2.2 ≤ r.2.2) (hd : decode cc pc = .ok (.invokespecial idx, 3)) (k : cW X S' (pc + 3) lv st S1 (cells + r'.2.1) (slots + r'.2.2)) : cW X S' pc lv (.ref ((xG X).2.2 + i) :: st) S cells slots := by
  obtain ⟨p, l, e, r0, s, m, args, below, meth, c, G, nL0⟩ := X
  obtain ⟨rfl, rfl, hx, hb, hml, hown, hts, hNW, hK, hlk, hrt, hin, hN0⟩ := C
  intro H locs ls hH hS hlv
  have hM := hcon l G
  have hpre : ∀ U : State, U.heap = H → s.WarmedH U.vm → ([Value.ref (G.2.2 + i)]).toArray = #[.ref (G.2.2 + i)] ∧ cH G S U.heap ∧ cK G U ∧ gNW U := fun U hU hW => ⟨rfl, by rw [hU]; exact hH, cK.moved hW.alike hK, gNW_warm hW hNW⟩
  have hbl : FrameBlind (fun (v : Array Value) (U : State) => v = #[.ref (G.2.2 + i)] ∧ cH G S U.heap ∧ cK G U ∧ gNW U) := fun a U g mk z => ⟨z.1, z.2.1, cK.moved (u := U) (U := U.calling g mk a) (Vm.Alike.refl U.vm) z.2.2.1, gNW_same (s := U) (U := U.calling g mk a) rfl z.2.2.2⟩
  have hsum : (st.map fun v => v.category).sum ≤ 8 := by
    have : ∀ l : List Value, (∀ v ∈ l, v.category ≤ 2) → (l.map fun v => v.category).sum ≤ 2 * l.length := by
      intro l
      induction l with
      | nil => intro _; exact Nat.le_refl _
      | cons a t ih =>
        intro h
        have h1 := h a List.mem_cons_self
        have h2 := ih (fun v hv => h v (List.mem_cons_of_mem _ hv))
        simp only [List.map_cons, List.sum_cons, List.length_cons]
        omega
    have := this st hcat
    omega
  have hroom : (crm r').frames + 1 ≤ (crm r0).frames ∧ 8 + (nL' + 11) + (crm r').locals ≤ (crm r0).locals := by
    show r'.1 + 1 ≤ r0.1 ∧ 8 + (nL' + 11) + 36 * r'.1 ≤ 36 * r0.1
    omega
  have hrun : va_Run p l e (crm r0) s m args below meth c H locs cells slots r'.2.1 r'.2.2 (F0 m pc ls (.ref (G.2.2 + i) :: st)) st (cQ G S1 ([Value.ref (G.2.2 + i)]).toArray) (cA G) := by
    rcases hlink with l5 | ⟨host, l5⟩
    · exact va_runI (As := []) (rest := st) ⟨hx, hb, hml, hown, hts⟩ hM ⟨callB_of 0 hts (gU_goodT hcode) rfl rfl rfl (hts _ hini) (hts _ l5) hyd hroom, hyn, hts _ hinst⟩ ⟨hbl, hpre⟩ rfl rfl hlv.1 rfl (lv_room hsum) hd ⟨hc, hs⟩
    · exact va_runIN (As := []) (rest := st) ⟨hx, hb, hml, hown, hts⟩ hM ⟨va_cnB 0 hts (gU_goodT hcode) rfl rfl rfl (hNW _ l5) (hts _ hini) hyd hroom, hyn, hts _ hinst⟩ ⟨hbl, hpre⟩ rfl rfl hlv.1 rfl (lv_room hsum) hd ⟨hc, hs⟩
  intro T hT X
  obtain ⟨v, st₀, t, T', L, h0, X', hL, e1, e2, ⟨hv, hp, -, hz, hk⟩, stp⟩ := hrun T hT X
  cases hv
  rw [h0] at hz hk
  obtain ⟨t2, a1, b1⟩ := k T'.heap (locs ++ L) ls (by rw [e1]; exact hp) ⟨Nat.le_trans hS.1 (by rw [e1]; exact hz), fun q h1 h2 => by rw [e1, hk q (Nat.lt_of_lt_of_le h1 hS.1) h2]; exact hS.2.1 q h1 h2, fun q hq => by
      rcases List.mem_append.mp hq with h | h
      · exact hS.2.2 q h
      · exact hL q h⟩ hlv T' rfl X'
  exact ⟨t2, stp t2 a1, b1⟩
