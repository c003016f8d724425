/-! LAYER 3: making: plain rows; an object and its own arrays. -/
theorem cr_aload {X : cX} {own : String} {cc : ByteArray} {r : Nat × Nat × Nat} {nL : Nat} (C : cC X own cc r nL) {S' : cG → Array Value → State → Outcome → State → Prop} {S : List CD} {pc : Nat} {lv : List (Nat × Value)} {st : List Value} {cells slots q a : Nat} (hk : lv[q]? = some (0, .ref a)) (hd : decode cc pc = .ok (.aload_n 0, 1)) (k : cW X S' (pc + 1) lv (.ref a :: st) S cells slots) : cW X S' pc lv st S cells slots := by
  obtain ⟨p, l, e, r', s, m, args, below, meth, co, G, nL'⟩ := X
  obtain ⟨rfl, rfl, hx, hb, hml, hown, hts, hNW, hK, hlk, hrt, hin, hN0⟩ := C
  intro H locs ls hH hS hlv
  exact lv_aload_n hx hb hd rfl (lv_at hlv q hk) (k H locs ls hH hS hlv)
theorem cr_bipush {X : cX} {own : String} {cc : ByteArray} {r : Nat × Nat × Nat} {nL : Nat} (C : cC X own cc r nL) {S' : cG → Array Value → State → Outcome → State → Prop} {S : List CD} {pc : Nat} {lv : List (Nat × Value)} {st : List Value} {cells slots : Nat} {n : Int} {v : Int32} (hd : decode cc pc = .ok (.bipush n, 2)) (hv : (Int8.ofInt n).toInt32 = v) (k : cW X S' (pc + 2) lv (.int v :: st) S cells slots) : cW X S' pc lv st S cells slots := by
  obtain ⟨p, l, e, r', s, m, args, below, meth, co, G, nL'⟩ := X
  obtain ⟨rfl, rfl, hx, hb, hml, hown, hts, hNW, hK, hlk, hrt, hin, hN0⟩ := C
  intro H locs ls hH hS hlv
  exact lv_bipush hx hb hd hv (k H locs ls hH hS hlv)
theorem cr_sipush {X : cX} {own : String} {cc : ByteArray} {r : Nat × Nat × Nat} {nL : Nat} (C : cC X own cc r nL) {S' : cG → Array Value → State → Outcome → State → Prop} {S : List CD} {pc : Nat} {lv : List (Nat × Value)} {st : List Value} {cells slots : Nat} {n : Int} {v : Int32} (hd : decode cc pc = .ok (.sipush n, 3)) (hv : (Int16.ofInt n).toInt32 = v) (k : cW X S' (pc + 3) lv (.int v :: st) S cells slots) : cW X S' pc lv st S cells slots := by
  obtain ⟨p, l, e, r', s, m, args, below, meth, co, G, nL'⟩ := X
  obtain ⟨rfl, rfl, hx, hb, hml, hown, hts, hNW, hK, hlk, hrt, hin, hN0⟩ := C
  intro H locs ls hH hS hlv
  exact lv_sipush hx hb hd hv (k H locs ls hH hS hlv)
theorem cr_iconst {X : cX} {own : String} {cc : ByteArray} {r : Nat × Nat × Nat} {nL : Nat} (C : cC X own cc r nL) {S' : cG → Array Value → State → Outcome → State → Prop} {S : List CD} {pc : Nat} {lv : List (Nat × Value)} {st : List Value} {cells slots : Nat} {n : Int} {v : Int32} (hd : decode cc pc = .ok (.iconst n, 1)) (hv : Int32.ofInt n = v) (k : cW X S' (pc + 1) lv (.int v :: st) S cells slots) : cW X S' pc lv st S cells slots := by
  obtain ⟨p, l, e, r', s, m, args, below, meth, co, G, nL'⟩ := X
  obtain ⟨rfl, rfl, hx, hb, hml, hown, hts, hNW, hK, hlk, hrt, hin, hN0⟩ := C
  intro H locs ls hH hS hlv
  exact lv_iconst hx hb hd hv (k H locs ls hH hS hlv)
theorem cr_dup {X : cX} {own : String} {cc : ByteArray} {r : Nat × Nat × Nat} {nL : Nat} (C : cC X own cc r nL) {S' : cG → Array Value → State → Outcome → State → Prop} {S : List CD} {pc : Nat} {lv : List (Nat × Value)} {st : List Value} {cells slots a : Nat} (hd : decode cc pc = .ok (.dup, 1)) (k : cW X S' (pc + 1) lv (.ref a :: .ref a :: st) S cells slots) : cW X S' pc lv (.ref a :: st) S cells slots := by
  obtain ⟨p, l, e, r', s, m, args, below, meth, co, G, nL'⟩ := X
  obtain ⟨rfl, rfl, hx, hb, hml, hown, hts, hNW, hK, hlk, hrt, hin, hN0⟩ := C
  intro H locs ls hH hS hlv
  exact lv_dup hx hb hd rfl (k H locs ls hH hS hlv)
theorem cr_goto {X : cX} {own : String} {cc : ByteArray} {r : Nat × Nat × Nat} {nL : Nat} (C : cC X own cc r nL) {S' : cG → Array Value → State → Outcome → State → Prop} {S : List CD} {pc tgt : Nat} {lv : List (Nat × Value)} {st : List Value} {cells slots : Nat} {off : Int} (hd : decode cc pc = .ok (.goto off, 3)) (ht : (pc : Int) + off = (tgt : Int)) (k : cW X S' tgt lv st S cells slots) : cW X S' pc lv st S cells slots := by
  obtain ⟨p, l, e, r', s, m, args, below, meth, co, G, nL'⟩ := X
  obtain ⟨rfl, rfl, hx, hb, hml, hown, hts, hNW, hK, hlk, hrt, hin, hN0⟩ := C
  intro H locs ls hH hS hlv
  exact lv_goto hx hb hd ht (k H locs ls hH hS hlv)
/-- i = 0, in local 1 -/
theorem cr_istore1 {X : cX} {own : String} {cc : ByteArray} {r : Nat × Nat × Nat} {nL : Nat} (C : cC X own cc r nL) {S' : cG → Array Value → State → Outcome → State → Prop} {S : List CD} {pc : Nat} {lv lv' : List (Nat × Value)} {st : List Value} {cells slots : Nat} {v : Int32} (h1 : 1 < nL) (hl : (1, Value.int v) :: lv.filter (fun q => !(q.1 == 1) && !(q.1 + 1 == 1 && q.2.category == 2)) = lv') (hd : decode cc pc = .ok (.istore_n 1, 1)) (k : cW X S' (pc + 1) lv' st S cells slots) : cW X S' pc lv (.int v :: st) S cells slots := by
  obtain ⟨p, l, e, r', s, m, args, below, meth, co, G, nL'⟩ := X
  obtain ⟨rfl, rfl, hx, hb, hml, hown, hts, hNW, hK, hlk, hrt, hin, hN0⟩ := C
  intro H locs ls hH hS hlv
  exact lv_istore_n hx hb hd rfl hlv h1 hl (fun ls' hl' => k H locs ls' hH hS hl')
theorem cr_iload1 {X : cX} {own : String} {cc : ByteArray} {r : Nat × Nat × Nat} {nL : Nat} (C : cC X own cc r nL) {S' : cG → Array Value → State → Outcome → State → Prop} {S : List CD} {pc q : Nat} {lv : List (Nat × Value)} {st : List Value} {cells slots : Nat} {v : Int32} (hk : lv[q]? = some (1, .int v)) (hd : decode cc pc = .ok (.iload_n 1, 1)) (k : cW X S' (pc + 1) lv (.int v :: st) S cells slots) : cW X S' pc lv st S cells slots := by
  obtain ⟨p, l, e, r', s, m, args, below, meth, co, G, nL'⟩ := X
  obtain ⟨rfl, rfl, hx, hb, hml, hown, hts, hNW, hK, hlk, hrt, hin, hN0⟩ := C
  intro H locs ls hH hS hlv
  exact lv_iload_n hx hb hd rfl (lv_at hlv q hk) (k H locs ls hH hS hlv)
theorem cr_icmpge {X : cX} {own : String} {cc : ByteArray} {r : Nat × Nat × Nat} {nL : Nat} (C : cC X own cc r nL) {S' : cG → Array Value → State → Outcome → State → Prop} {S : List CD} {pc tgt : Nat} {lv : List (Nat × Value)} {st : List Value} {cells slots : Nat} {x y : Int32} {off : Int} (hd : decode cc pc = .ok (.if_icmp .ge off, 3)) (ht : (pc : Int) + off = (tgt : Int)) (kt : y ≤ x → cW X S' tgt lv st S cells slots) (kf : ¬ y ≤ x → cW X S' (pc + 3) lv st S cells slots) : cW X S' pc lv (.int y :: .int x :: st) S cells slots := by
  obtain ⟨p, l, e, r', s, m, args, below, meth, co, G, nL'⟩ := X
  obtain ⟨rfl, rfl, hx, hb, hml, hown, hts, hNW, hK, hlk, hrt, hin, hN0⟩ := C
  intro H locs ls hH hS hlv
  exact lv_icmp_ge hx hb hd ht (fun q => kt q H locs ls hH hS hlv) (fun q => kf q H locs ls hH hS hlv)
theorem cr_iinc1 {X : cX} {own : String} {cc : ByteArray} {r : Nat × Nat × Nat} {nL : Nat} (C : cC X own cc r nL) {S' : cG → Array Value → State → Outcome → State → Prop} {S : List CD} {pc q : Nat} {lv lv' : List (Nat × Value)} {st : List Value} {cells slots : Nat} {x v : Int32} {n : Int} (h1 : 1 < nL) (hk : lv[q]? = some (1, .int x)) (hv : x + Int32.ofInt n = v) (hl : (1, Value.int v) :: lv.filter (fun q => !(q.1 == 1) && !(q.1 + 1 == 1 && q.2.category == 2)) = lv') (hd : decode cc pc = .ok (.iinc 1 n, 3)) (k : cW X S' (pc + 3) lv' st S cells slots) : cW X S' pc lv st S cells slots := by
  obtain ⟨p, l, e, r', s, m, args, below, meth, co, G, nL'⟩ := X
  obtain ⟨rfl, rfl, hx, hb, hml, hown, hts, hNW, hK, hlk, hrt, hin, hN0⟩ := C
  intro H locs ls hH hS hlv
  exact lv_iinc hx hb hd hlv hk hv h1 hl (fun ls' hl' => k H locs ls' hH hS hl')
theorem cr_obj {X : cX} {own : String} {cc : ByteArray} {r : Nat × Nat × Nat} {nL : Nat} (C : cC X own cc r nL) {S' : cG → Array Value → State → Outcome → State → Prop} {S : List CD} {pc idx a : Nat} {lv : List (Nat × Value)} {cells slots : Nat} (h1 : Cond.methodLink own idx Lib.objectInit ∈ gU) (h2 : Cond.instanceMethod Lib.objectInit ∈ gU) (h3 : Cond.code Lib.objectInit ⟨#[0xb1]⟩ 1 none ∈ gU) (hr : 1 ≤ r.1) (hd : decode cc pc = .ok (.invokespecial idx, 3)) (k : cW X S' (pc + 3) lv [] S cells slots) : cW X S' pc lv [.ref a] S cells slots := by
  obtain ⟨p, l, e, r', s, m, args, below, meth, co, G, nL'⟩ := X
  obtain ⟨rfl, rfl, hx, hb, hml, hown, hts, hNW, hK, hlk, hrt, hin, hN0⟩ := C
  intro H locs ls hH hS hlv
  refine W.objInit hx hb hown (hts _ h1) (hts _ h2) (hts _ h3) (g := F0 m pc ls [.ref a]) rfl (by rw [hml]; exact hlv.1) rfl hd hr (by show 0 + 0 + 12 ≤ 36 * r'.1; omega) ?_
  exact k H locs ls hH hS hlv
theorem cr_ret {X : cX} {own : String} {cc : ByteArray} {r : Nat × Nat × Nat} {nL : Nat} (C : cC X own cc r nL) {S' : List CD} {pc : Nat} {lv : List (Nat × Value)} {cells slots : Nat} (hc : cells ≤ r.2.1) (hs : slots ≤ r.2.2) (hd : decode cc pc = .ok (.return_, 1)) : cW X (cR S') pc lv [] S' cells slots := by
  obtain ⟨p, l, e, r', s, m, args, below, meth, co, G, nL'⟩ := X
  obtain ⟨rfl, rfl, hx, hb, hml, hown, hts, hNW, hK, hlk, hrt, hin, hN0⟩ := C
  intro H locs ls hH hS hlv
  refine W.widen hc hs ?_
  exact W.vret hx hb hrt (fun t ht hW => ⟨rfl, by rw [ht]; exact hH, cK.moved hW.alike hK, hS.F ht⟩) hS.2.2 hd hlk
/-- this, with its fields; and what was made for it -/
def MkS (S : List CD) (i ci : Nat) (fs : List CV) (arrs : List CD) : List CD := S.set i (.inr (ci, fs)) ++ arrs
theorem MkS_len {S : List CD} {i ci : Nat} {fs : List CV} {arrs : List CD} : (MkS S i ci fs arrs).length = S.length + arrs.length := by
  unfold MkS
  rw [List.length_append, List.length_set]
theorem MkS_get {S : List CD} {i ci : Nat} {fs : List CV} {arrs : List CD} (hi : i < S.length) : (MkS S i ci fs arrs)[i]? = some (.inr (ci, fs)) := by
  unfold MkS
  rw [List.getElem?_append_left (by rw [List.length_set]; exact hi), List.getElem?_set_self hi]
theorem MkS_put {S : List CD} {i ci : Nat} {fs fs' : List CV} {arrs : List CD} (hi : i < S.length) : (MkS S i ci fs arrs).set i (.inr (ci, fs')) = MkS S i ci fs' arrs := by
  unfold MkS
  rw [List.set_append_left _ _ (by rw [List.length_set]; exact hi), List.set_set]
theorem MkS_app {S : List CD} {i ci : Nat} {fs : List CV} {arrs : List CD} {d : CD} : MkS S i ci fs arrs ++ [d] = MkS S i ci fs (arrs ++ [d]) := List.append_assoc _ _ _
theorem MkS_nil {S : List CD} {i ci : Nat} {fs : List CV} (hi : S[i]? = some (.inr (ci, fs))) : MkS S i ci fs [] = S := by
  unfold MkS
  rw [List.append_nil]
  apply List.ext_getElem?
  intro j
  by_cases c : j = i
  · subst c
    rw [List.getElem?_set_self (List.getElem?_eq_some_iff.mp hi).1, hi]
  · rw [List.getElem?_set_ne (Ne.symm c)]
/-- this.f = new int[N] -/
theorem cr_fld {X : cX} {cc : ByteArray} {r : Nat × Nat × Nat} {nL ci : Nat} (C : cC X (gRn ci) cc r nL) {S' : cG → Array Value → State → Outcome → State → Prop} {S : List CD} {i pc p1 p2 p3 p4 q idx j c N cells slots : Nat} {fs : List CV} {arrs : List CD} {lv : List (Nat × Value)} {at0 : ArrayType} (hi : i < S.length) (hk : lv[q]? = some (0, .ref ((xG X).2.2 + i))) (d0 : decode cc pc = .ok (.aload_n 0, 1)) (e1 : pc + 1 = p1) (hp : ∀ S1 st c1 s1, cW X S' p2 lv (.int (nI N) :: st) S1 c1 s1 → cW X S' p1 lv st S1 c1 s1) (d2 : decode cc p2 = .ok (.newarray at0, 2)) (e2 : p2 + 2 = p3) (d3 : decode cc p3 = .ok (.putfield idx, 3)) (e3 : p3 + 3 = p4) (hf : gFW (gRn ci) idx ci j) (hl : Cond.fieldLink (gRn ci) idx (gRn ci) (gTn ci j).2.1 (gTn ci j).2.2.1 ∈ gU) (hj : j < fs.length) (hn : ∀ a, narrow (gty ci j) (.ref a) = .ref a) (hft : ∀ a, fits (gty ci j) (.ref a) = true) (hc2 : (c = 0 ∧ at0 = .int ∧ Cond.arrayClass .int ∈ gU) ∨ (c = 1 ∧ at0 = .boolean ∧ Cond.arrayClass .boolean ∈ gU)) (hN : N ≤ 40000) (hc : cells + 1 ≤ r.2.1) (hs : slots + N ≤ r.2.2) (k : cW X S' p4 lv [] (MkS S i ci (fs.set j (.inl (some (S.length + arrs.length)))) (arrs ++ [.inl (c, N, none)])) (cells + 1) (slots + N)) : cW X S' pc lv [] (MkS S i ci fs arrs) cells slots := by
  subst e1 e2 e3
  refine cr_aload C hk d0 (hp _ _ _ _ (cr_newa C hc2 rfl hN hc hs d2 ?_))
  rw [MkS_len, MkS_app]
  refine cr_put C (v := .inl (some (S.length + arrs.length))) (i := i) hf hl rfl (MkS_get hi) hj (fun N0 => hn _) (fun N0 => hft _) d3 ?_
  rw [MkS_put hi]
  exact k
