/-! LAYER 3: making: the heap as a list of plain descriptions, at addresses that follow each other. -/
abbrev CV : Type := Option Nat ⊕ Int32
abbrev CD : Type := (Nat × Nat × Option (List (Option Nat))) ⊕ (Nat × List CV)
def cval (N0 : Nat) : CV → Value
  | .inl none => .null
  | .inl (some o) => .ref (N0 + o)
  | .inr v => .int v
def crf (N0 : Nat) (l : List (Option Nat)) (i : Nat) : Option Nat := match l[i]? with
  | some (some o) => some (N0 + o)
  | _ => none
def cden (cls : Nat → ClassId) (N0 : Nat) : CD → va_E
  | .inl (c, len, none) => .inl (cls c, len, .inl (fun _ => 0))
  | .inl (c, len, some l) => .inl (cls c, len, .inr (.inr (.inr (.inr (crf N0 l)))))
  | .inr (ci, fs) => .inr (ci, fs.map (cval N0))
abbrev cG : Type := va_G × (Nat → ClassId) × Nat
def cH (G : cG) (S : List CD) (H : Heap) : Prop := H.size = G.2.2 + S.length ∧ ∀ i d, S[i]? = some d → va_at G.1 vwCl (G.2.2 + i, cden G.2.1 G.2.2 d) H
def cA (G : cG) : Nat → Prop := fun q => G.2.2 ≤ q
def cty (G : cG) : List (ClassId × FieldType) := gtys (G.1, G.2.1, fun _ _ => 0, fun _ => 0)
def cK (G : cG) (U : State) : Prop := va_K G.1 vwCl (cty G) U ∧ va_AO "SkewedWays$Store" U ∧ va_AO "SkewedWays$Trace" U
theorem cK.moved {G : cG} {u U : State} (hvm : u.vm.Alike U.vm) (h : cK G u) : cK G U := ⟨va_K.moved hvm h.1, h.2.1.moved hvm, h.2.2.moved hvm⟩
theorem cH.put {G : cG} {S : List CD} {H H1 : Heap} {i : Nat} {d0 d : CD} (h : cH G S H) (hi : S[i]? = some d0) (z : H1.size = H.size) (o : ∀ q, q ≠ G.2.2 + i → H1[q]? = H[q]?) (hd : va_at G.1 vwCl (G.2.2 + i, cden G.2.1 G.2.2 d) H1) : cH G (S.set i d) H1 := by
  have hl := (List.getElem?_eq_some_iff.mp hi).1
  refine ⟨by rw [z, h.1, List.length_set], fun j e hj => ?_⟩
  by_cases c : j = i
  · subst c
    rw [List.getElem?_set_self hl] at hj
    cases hj
    exact hd
  · rw [List.getElem?_set_ne (Ne.symm c)] at hj
    exact (h.2 j e hj).kept (o _ (by show G.2.2 + j ≠ G.2.2 + i; omega))
theorem cH.app {G : cG} {S : List CD} {H H1 : Heap} {d : CD} (h : cH G S H) (z : H1.size = H.size + 1) (o : ∀ q, q < H.size → H1[q]? = H[q]?) (hd : va_at G.1 vwCl (H.size, cden G.2.1 G.2.2 d) H1) : cH G (S ++ [d]) H1 := by
  refine ⟨by rw [z, h.1, List.length_append]; rfl, fun j e hj => ?_⟩
  by_cases c : j < S.length
  · rw [List.getElem?_append_left c] at hj
    exact (h.2 j e hj).kept (o _ (by rw [h.1]; show G.2.2 + j < G.2.2 + S.length; omega))
  · rw [List.getElem?_append_right (by omega)] at hj
    have hz : j - S.length < 1 := (List.getElem?_eq_some_iff.mp hj).1
    rw [show j - S.length = 0 by omega] at hj
    cases hj
    rw [show G.2.2 + j = H.size by rw [h.1]; omega]
    exact hd
abbrev cX : Type := Program × Launch × Env × (Nat × Nat × Nat) × State × MethodId × Array Value × List Frame × Method × Code × cG × Nat
def crm (r : Nat × Nat × Nat) : Room := { frames := r.1, cells := r.2.1, slots := r.2.2, locals := 36 * r.1 }
def cQ (G : cG) (S' : List CD) : Array Value → State → Outcome → State → Prop := fun _ st oc t => oc = .returned none ∧ cH G S' t.heap ∧ cK G t ∧ va_F (cA G) st t
def cC (X : cX) (own : String) (cc : ByteArray) (r : Nat × Nat × Nat) (nL : Nat) : Prop := match X with
  | (p, _, _, r', s, m, args, _, meth, c, G, nL') => r' = r ∧ nL' = nL ∧ p.tables.exec = Jvm.exec ∧ c.code = cc ∧ c.maxLocals = nL' ∧ s.vm.findClass own = some m.cls ∧ (∀ w ∈ gU, w.before args s = true) ∧ gNW s ∧ cK G s ∧ meth.locks = false ∧ meth.sig.returnType = none ∧ meth.name = "<init>" ∧ G.2.2 ≤ s.heap.size
abbrev cR (S' : List CD) : cG → Array Value → State → Outcome → State → Prop := fun G => cQ G S'
/-- the run from here ends as S' says -/
def cW (X : cX) (S' : cG → Array Value → State → Outcome → State → Prop) (pc : Nat) (lv : List (Nat × Value)) (st : List Value) (S : List CD) (cells slots : Nat) : Prop := match X with
  | (p, l, e, r, s, m, args, below, meth, c, G, nL) => ∀ (H : Heap) (locs : List Loc) (ls : Array Slot), cH G S H → va_S (cA G) s.heap H locs → lv_has ls nL lv → W p l e (crm r) s m args below meth c H locs cells slots (MQ below (S' G) args s r.2.1 r.2.2 (cA G)) (F0 m pc ls st)
def xG (X : cX) : cG := X.2.2.2.2.2.2.2.2.2.2.1
/-- the fields of a new object -/
def cdef (ci : Nat) : List CV := (List.range (gnf ci)).map (fun j => if (gref ci j 0).isSome then .inl none else .inr 0)
theorem cdef_ok (N0 : Nat) {ci : Nat} (h : ci < 10) : ∀ j, j < gnf ci → defaultValue (gty ci j) = vp_V ((cdef ci).map (cval N0)) j := by
  intro j hj
  have key : ∀ ci, ci < 10 → ∀ j, j < gnf ci → defaultValue (gty ci j) = vp_V ((cdef ci).map (cval 0)) j := by
    intro ci h
    refine gcases (P := fun ci => ∀ j, j < gnf ci → defaultValue (gty ci j) = vp_V ((cdef ci).map (cval 0)) j) ?_ ?_ ?_ ?_ ?_ ?_ ?_ ?_ ?_ ?_ h
    all_goals decide
  rw [key ci h j hj]
  unfold vp_V cdef
  rw [List.map_map, List.map_map]
  simp only [List.getD, List.getElem?_map]
  cases (List.range (gnf ci))[j]? with
  | none => rfl
  | some a =>
    simp only [Option.map_some, Function.comp]
    by_cases c : (gref ci a 0).isSome
    · rw [if_pos c]; rfl
    · rw [if_neg c]; rfl
theorem cr_new {X : cX} {own : String} {cc : ByteArray} {r : Nat × Nat × Nat} {nL : Nat} (C : cC X own cc r nL) {S' : cG → Array Value → State → Outcome → State → Prop} {S : List CD} {pc : Nat} {lv : List (Nat × Value)} {st : List Value} {cells slots idx ci : Nat} (hci : ci < 10) (hl : Cond.classLink own idx (gRn ci) ∈ gU) (hi : Cond.instantiable (gRn ci) (gnf ci) ∈ gU) (hz : Cond.initialized (gRn ci) ∈ gU) (hc : cells + 1 ≤ r.2.1) (hs : slots + gnf ci ≤ r.2.2) (hd : decode cc pc = .ok (.new idx, 3)) (k : cW X S' (pc + 3) lv (.ref ((xG X).2.2 + S.length) :: st) (S ++ [.inr (ci, cdef ci)]) (cells + 1) (slots + gnf ci)) : cW X S' pc lv st S cells slots := by
  obtain ⟨p, l, e, r', s, m, args, below, meth, c, G, nL'⟩ := X
  obtain ⟨rfl, rfl, hx, hb, hml, hown, hts, hN, ⟨hK, hO⟩, hlk, hrt, hin, hN0⟩ := C
  intro H locs ls hH hS hlv
  have hKn := hK.1 ci _ (gcl hci)
  refine W.newcK hx hb hown (hts _ hl) (hts _ hi) (hts _ hz) rfl hd hc hs hKn.2.1 rfl fun H1 kC hkC e1 z1 o1 => ?_
  have hge : G.2.2 ≤ H.size := by rw [hH.1]; exact Nat.le_add_right _ _
  have := k H1 locs ls (hH.app z1 o1 ⟨_, gcl hci, (u_born (gty ci) hts (gUin hci) hKn hkC e1 (gty_ok hci)).to (cdef_ok G.2.2 hci)⟩) ⟨Nat.le_trans hS.1 (by omega), fun x h1 h2 => (o1 x (Nat.lt_of_lt_of_le h1 hS.1)).trans (hS.2.1 x h1 h2), hS.2.2⟩ hlv
  rw [hH.1]
  exact this
