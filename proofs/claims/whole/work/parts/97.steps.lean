/-! LAYER 3: the law's steps: two worlds side by side. -/
abbrev lX : Type := Program × Launch × Env × State × MethodId × List Frame × Method × Code × Nat × Nat × (Nat → Int32) × gE × gE
def lL (X : lX) : Nat := X.2.2.2.2.2.2.2.2.2.1
def lxs (X : lX) : Nat → Int32 := X.2.2.2.2.2.2.2.2.2.2.1
def lE (X : lX) : gE := X.2.2.2.2.2.2.2.2.2.2.2.1
def lF (X : lX) : gE := X.2.2.2.2.2.2.2.2.2.2.2.2
def lC (X : lX) : Prop := match X with
  | (p, _, _, s, m, _, meth, c, b, L, xs, E, F) => (p.tables.exec = Jvm.exec ∧ c.code = code ∧ c.maxLocals = 4 ∧ s.vm.findClass RL = some m.cls ∧ (∀ w ∈ gU, w.before #[Value.ref b] s = true) ∧ gNW s) ∧ (va_X b L xs s s.heap ∧ b < s.heap.size ∧ L ≤ 3072) ∧ (meth.locks = false ∧ meth.sig.returnType = ret) ∧ (va_K E.1 vwCl (gtys E) s ∧ gEok E ∧ gin E (8, 0)) ∧ (va_K F.1 vwCl (gtys F) s ∧ gEok F ∧ gin F (9, 0)) ∧ (∀ q, gA E q → s.heap.size ≤ q) ∧ (∀ q, gA F q → s.heap.size ≤ q) ∧ ∀ q, gA E q → ¬ gA F q
/-- from here the law comes to its end -/
def lW (X : lX) (pc : Nat) (i : Int32) (st : List Value) (σ μ : gM) : Prop := match X with
  | (p, l, e, s, m, below, meth, c, b, _, _, E, F) => ∀ (H : Heap) (locs : List Loc) (ls : Array Slot), va_P E.1 vwCl (gW E σ) H → va_P F.1 vwCl (gW F μ) H → va_S (fun q => s.heap.size ≤ q) s.heap H locs → lv_has ls 4 [(3, .int i), (2, .ref (F.2.2.1 9 0)), (1, .ref (E.2.2.1 8 0)), (0, .ref b)] → W p l e room_1 s m #[Value.ref b] below meth c H locs 600000 7302250 (lw_Z below #[Value.ref b] s) (F0 m pc ls st)
theorem dL_0 : decode code 0 = .ok (.new 7, 3) := by decide +kernel
theorem dL_3 : decode code 3 = .ok (.dup, 1) := by decide +kernel
theorem dL_4 : decode code 4 = .ok (.invokespecial 9, 3) := by decide +kernel
theorem dL_7 : decode code 7 = .ok (.astore_n 1, 1) := by decide +kernel
theorem dL_8 : decode code 8 = .ok (.new 10, 3) := by decide +kernel
theorem dL_11 : decode code 11 = .ok (.dup, 1) := by decide +kernel
theorem dL_12 : decode code 12 = .ok (.invokespecial 12, 3) := by decide +kernel
theorem dL_15 : decode code 15 = .ok (.astore_n 2, 1) := by decide +kernel
theorem dL_16 : decode code 16 = .ok (.iconst 0, 1) := by decide +kernel
theorem dL_17 : decode code 17 = .ok (.istore_n 3, 1) := by decide +kernel
theorem dL_18 : decode code 18 = .ok (.iload_n 3, 1) := by decide +kernel
theorem dL_19 : decode code 19 = .ok (.aload_n 0, 1) := by decide +kernel
theorem dL_20 : decode code 20 = .ok (.arraylength, 1) := by decide +kernel
theorem dL_21 : decode code 21 = .ok (.bipush 6, 2) := by decide +kernel
theorem dL_23 : decode code 23 = .ok (.isub, 1) := by decide +kernel
theorem dL_24 : decode code 24 = .ok (.if_icmp .gt 2401, 3) := by decide +kernel
theorem dL_27 : decode code 27 = .ok (.aload_n 0, 1) := by decide +kernel
theorem dL_28 : decode code 28 = .ok (.iload_n 3, 1) := by decide +kernel
theorem dL_29 : decode code 29 = .ok (.iaload, 1) := by decide +kernel
theorem dL_30 : decode code 30 = .ok (.bipush 127, 2) := by decide +kernel
theorem dL_32 : decode code 32 = .ok (.iand, 1) := by decide +kernel
theorem dL_33 : decode code 33 = .ok (.tableswitch 2386 0 75 #[319, 382, 405, 418, 441, 464, 497, 546, 569, 592, 605, 638, 651, 684, 707, 750, 773, 796, 809, 832, 855, 878, 901, 924, 957, 990, 1033, 1056, 1079, 1102, 1125, 1158, 1171, 1204, 1227, 1260, 1293, 1346, 1369, 1382, 1425, 1458, 1501, 1524, 1567, 1600, 1623, 1646, 1669, 1718, 1741, 1754, 1767, 1780, 1803, 1836, 1869, 1892, 1925, 1948, 1981, 2004, 2027, 2060, 2109, 2132, 2165, 2188, 2211, 2234, 2267, 2300, 2323, 2337, 2350, 2363], 319) := by decide +kernel
theorem dL_2419 : decode code 2419 = .ok (.iinc 3 6, 3) := by decide +kernel
theorem dL_2422 : decode code 2422 = .ok (.goto (-2404), 3) := by decide +kernel
theorem dL_2425 : decode code 2425 = .ok (.iconst 1, 1) := by decide +kernel
theorem dL_2426 : decode code 2426 = .ok (.ireturn, 1) := by decide +kernel
theorem bAnd {a b : Bool} (h : (a && b) = true) : a = true ∧ b = true := Bool.and_eq_true_iff.mp h
def dOk (pc : Nat) (i : Instr) (n : Nat) : Bool := decide (decode code pc = .ok (i, n))
theorem dOk.of {pc : Nat} {i : Instr} {n : Nat} (h : dOk pc i n = true) : decode code pc = .ok (i, n) := of_decide_eq_true h
def argOk (pc k : Nat) : Bool := decide (k ≤ 5) && (dOk pc (.aload_n 0) 1 && (dOk (pc + 1) (.iload_n 3) 1 && (dOk (pc + 2) (.iconst (k : Int)) 1 && (dOk (pc + 3) .iadd 1 && dOk (pc + 4) .iaload 1))))
def boolOk (pc : Nat) : Bool := dOk pc (.ifCond .eq 7) 3 && (dOk (pc + 3) (.iconst 1) 1 && (dOk (pc + 4) (.goto 4) 3 && dOk (pc + 7) (.iconst 0) 1))
def argsOk : Nat → List (Nat × Bool) → Bool
  | _, [] => true
  | pc, (k, false) :: r => argOk pc k && argsOk (pc + 5) r
  | pc, (k, true) :: r => argOk pc k && (boolOk (pc + 5) && argsOk (pc + 13) r)
def aLen : List (Nat × Bool) → Nat
  | [] => 0
  | (_, false) :: r => aLen r + 5
  | (_, true) :: r => aLen r + 13
def aVal (xs : Nat → Int32) (i : Nat) (q : Nat × Bool) : Int32 := if q.2 = true then (if xs (i + q.1) = 0 then 0 else 1) else xs (i + q.1)
theorem aVal01 (xs : Nat → Int32) (i : Nat) {k : Nat} : aVal xs i (k, true) = 0 ∨ aVal xs i (k, true) = 1 := by
  unfold aVal
  rw [if_pos rfl]
  split
  · exact Or.inl rfl
  · exact Or.inr rfl
theorem oi5 : ∀ k : Nat, k ≤ 5 → Int32.ofInt (k : Int) = nI k := by decide
theorem l_arg {X : lX} (C : lC X) {pc k i : Nat} {st : List Value} {σ μ : gM} (hD : argOk pc k = true) (hi : i + 5 < lL X) (kk : lW X (pc + 5) (nI i) (.int (lxs X (i + k)) :: st) σ μ) : lW X pc (nI i) st σ μ := by
  obtain ⟨p, l, e, s, m, below, meth, c, b, L, xs, E, F⟩ := X
  obtain ⟨⟨hx, hb, hml, hown, hts, hN⟩, ⟨hX, hbl, hL⟩, -⟩ := C
  obtain ⟨d0, d⟩ := bAnd hD
  obtain ⟨d1, d⟩ := bAnd d
  obtain ⟨d2, d⟩ := bAnd d
  obtain ⟨d3, d⟩ := bAnd d
  obtain ⟨d4, d5⟩ := bAnd d
  have hk : k ≤ 5 := of_decide_eq_true d0
  have hi : i + 5 < L := hi
  intro H locs ls hE hF hS hl
  refine lv_aload_n hx hb (dOk.of d1) rfl (lv_at hl 3 rfl) ?_
  refine lv_iload_n hx hb (dOk.of d2) rfl (lv_at hl 0 rfl) ?_
  refine lv_iconst hx hb (dOk.of d3) (oi5 k hk) ?_
  refine lv_iadd hx hb (dOk.of d4) ?_
  rw [nI_add]
  refine va_sld hx hb hX hbl (Nat.not_le.mpr hbl) hS (nI_in (by omega) (by omega)) (dOk.of d5) ?_
  rw [nI_cl (by omega)]
  exact kk H locs ls hE hF hS hl
theorem l_bool {X : lX} (C : lC X) {pc : Nat} {i : Int32} {st : List Value} {σ μ : gM} {x : Int32} (hD : boolOk pc = true) (kk : lW X (pc + 8) i (.int (if x = 0 then 0 else 1) :: st) σ μ) : lW X pc i (.int x :: st) σ μ := by
  obtain ⟨p, l, e, s, m, below, meth, c, b, L, xs, E, F⟩ := X
  obtain ⟨⟨hx, hb, hml, hown, hts, hN⟩, -⟩ := C
  obtain ⟨d1, d⟩ := bAnd hD
  obtain ⟨d2, d⟩ := bAnd d
  obtain ⟨d3, d4⟩ := bAnd d
  intro H locs ls hE hF hS hl
  refine lv_if_eq (tgt := pc + 7) hx hb (dOk.of d1) (by omega) (fun h => ?_) (fun h => ?_)
  · refine lv_iconst (v := 0) hx hb (dOk.of d4) (by decide) ?_
    have := kk H locs ls hE hF hS hl
    rw [if_pos h] at this
    exact this
  · refine lv_iconst (v := 1) hx hb (dOk.of d2) (by decide) ?_
    refine lv_goto (tgt := pc + 8) hx hb (dOk.of d3) (by omega) ?_
    have := kk H locs ls hE hF hS hl
    rw [if_neg h] at this
    exact this
theorem l_args {X : lX} (C : lC X) {i : Nat} (hi : i + 5 < lL X) {σ μ : gM} : ∀ (a : List (Nat × Bool)) (pc : Nat) (st : List Value), argsOk pc a = true → lW X (pc + aLen a) (nI i) (((a.map (aVal (lxs X) i)).map Value.int).reverse ++ st) σ μ → lW X pc (nI i) st σ μ := by
  intro a
  induction a with
  | nil => intro pc st _ kk; exact kk
  | cons q r ih =>
    intro pc st hD kk
    obtain ⟨k, b⟩ := q
    have e : (((((k, b) :: r).map (aVal (lxs X) i)).map Value.int).reverse ++ st) = ((r.map (aVal (lxs X) i)).map Value.int).reverse ++ (.int (aVal (lxs X) i (k, b)) :: st) := by
      simp only [List.map_cons, List.reverse_cons, List.append_assoc, List.singleton_append]
    rw [e] at kk
    cases b with
    | false =>
      obtain ⟨h1, h2⟩ := bAnd (show (argOk pc k && argsOk (pc + 5) r) = true from hD)
      refine l_arg C h1 hi (ih (pc + 5) _ h2 ?_)
      rw [show pc + 5 + aLen r = pc + (aLen r + 5) by omega]
      exact kk
    | true =>
      obtain ⟨h1, h2⟩ := bAnd (show (argOk pc k && (boolOk (pc + 5) && argsOk (pc + 13) r)) = true from hD)
      obtain ⟨h2, h3⟩ := bAnd h2
      refine l_arg C h1 hi (l_bool C h2 (ih (pc + 13) _ h3 ?_))
      rw [show pc + 13 + aLen r = pc + (aLen r + 13) by omega]
      exact kk
/-- what lies elsewhere is kept -/
theorem l_keep {E : gE} {σ : gM} {H H1 : Heap} {B : Nat → Prop} (hE : gEok E) (hP : va_P E.1 vwCl (gW E σ) H) (hB : ∀ q, gA E q → ¬ B q) (o : ∀ q : Nat, q < H.size → ¬ B q → H1[q]? = H[q]?) : va_P E.1 vwCl (gW E σ) H1 := fun k q hk => (hP k q hk).kept (o q.1 (hP k q hk).lt (hB q.1 ((hE.1 σ).2 k q hk)))
theorem l_vals (E : gE) (As : List Int32) : (As.map (Sum.inl : Int32 → gV)).map (gv E) = As.map Value.int := by
  rw [List.map_map]
  rfl
theorem l_callX {X : lX} (C : lC X) {pc idx n : Nat} {i : Int32} {st : List Value} {σ σ1 μ : gM} {ρ : Type} {enc : ρ → Option Value} {y : MethodName} {cc : ByteArray} {nL h : Nat} {rt : Option FieldType} {As : List Int32} {r : ρ} (Lk : gIV RL idx y n) (hco : Cond.code y cc nL rt ∈ gU) (hcls : gRn 8 = y.cls) (con : gCon enc y cc nL rt h (.inr (8, 0) :: As.map Sum.inl) σ (some (r, σ1))) (hh : h ≤ 11 ∧ nL ≤ 40) (hn : As.length = n) (hst : (st.map fun v => v.category).sum ≤ 8) (hd : decode code pc = .ok (.invokevirtual idx, 3)) (kk : lW X (pc + 3) i ((enc r).toList ++ st) σ1 μ) : lW X pc i ((As.map Value.int).reverse ++ .ref ((lE X).2.2.1 8 0) :: st) σ μ := by
  obtain ⟨p, l, e, s, m, below, meth, c, b, L, xs, E, F⟩ := X
  obtain ⟨⟨hx, hb, hml, hown, hts, hN⟩, ⟨hX, hbl, hL⟩, -, ⟨hKE, hE, gE⟩, ⟨hKF, hF, gF⟩, aE, aF, ap⟩ := C
  intro H locs ls hPE hPF hS hl
  have := x_callV (As := As.map Sum.inl) (rest := st) (R := room_1) (cells := 600000) (slots := 7302250) (Q := lw_Z below #[Value.ref b] s) (p := p) (l := l) (e := e) (below := below) (meth := meth) (locs := locs) hx hb hml hown hts hN hKE hE Lk hco (by decide) hcls con (by show h + 1 ≤ 12; omega) (by show 8 + (nL + 11) + 36 * h ≤ 472; omega) (by rw [List.length_map]; exact hn) gE (fun v hv => by obtain ⟨a, -, rfl⟩ := List.mem_map.mp hv; trivial) hPE hl.1 hst ⟨Nat.le_refl _, Nat.le_refl _⟩ hd (fun H1 L1 hP1 z1 o1 hL1 => kk H1 (locs ++ L1) ls hP1 (l_keep hF hPF (fun q h1 h2 => ap q h2 h1) o1) (x_S hS aE z1 o1 hL1) hl)
  rw [l_vals] at this
  exact this
theorem l_callM {X : lX} (C : lC X) {pc idx n : Nat} {i : Int32} {st : List Value} {σ μ μ1 : gM} {ρ : Type} {enc : ρ → Option Value} {y : MethodName} {cc : ByteArray} {nL h : Nat} {rt : Option FieldType} {As : List Int32} {r : ρ} (Lk : gIV RL idx y n) (hco : Cond.code y cc nL rt ∈ gU) (hcls : gRn 9 = y.cls) (con : gCon enc y cc nL rt h (.inr (9, 0) :: As.map Sum.inl) μ (some (r, μ1))) (hh : h ≤ 11 ∧ nL ≤ 40) (hn : As.length = n) (hst : (st.map fun v => v.category).sum ≤ 8) (hd : decode code pc = .ok (.invokevirtual idx, 3)) (kk : lW X (pc + 3) i ((enc r).toList ++ st) σ μ1) : lW X pc i ((As.map Value.int).reverse ++ .ref ((lF X).2.2.1 9 0) :: st) σ μ := by
  obtain ⟨p, l, e, s, m, below, meth, c, b, L, xs, E, F⟩ := X
  obtain ⟨⟨hx, hb, hml, hown, hts, hN⟩, ⟨hX, hbl, hL⟩, -, ⟨hKE, hE, gE⟩, ⟨hKF, hF, gF⟩, aE, aF, ap⟩ := C
  intro H locs ls hPE hPF hS hl
  have := x_callV (As := As.map Sum.inl) (rest := st) (R := room_1) (cells := 600000) (slots := 7302250) (Q := lw_Z below #[Value.ref b] s) (p := p) (l := l) (e := e) (below := below) (meth := meth) (locs := locs) hx hb hml hown hts hN hKF hF Lk hco (by decide) hcls con (by show h + 1 ≤ 12; omega) (by show 8 + (nL + 11) + 36 * h ≤ 472; omega) (by rw [List.length_map]; exact hn) gF (fun v hv => by obtain ⟨a, -, rfl⟩ := List.mem_map.mp hv; trivial) hPF hl.1 hst ⟨Nat.le_refl _, Nat.le_refl _⟩ hd (fun H1 L1 hP1 z1 o1 hL1 => kk H1 (locs ++ L1) ls (l_keep hE hPE ap o1) hP1 (x_S hS aF z1 o1 hL1) hl)
  rw [l_vals] at this
  exact this
theorem l_ald1 {X : lX} (C : lC X) {pc : Nat} {i : Int32} {st : List Value} {σ μ : gM} (d : dOk pc (.aload_n 1) 1 = true) (kk : lW X (pc + 1) i (.ref ((lE X).2.2.1 8 0) :: st) σ μ) : lW X pc i st σ μ := by
  obtain ⟨p, l, e, s, m, below, meth, c, b, L, xs, E, F⟩ := X
  obtain ⟨⟨hx, hb, hml, hown, hts, hN⟩, -⟩ := C
  intro H locs ls hE hF hS hl
  exact lv_aload_n hx hb (dOk.of d) rfl (lv_at hl 2 rfl) (kk H locs ls hE hF hS hl)
theorem l_ald2 {X : lX} (C : lC X) {pc : Nat} {i : Int32} {st : List Value} {σ μ : gM} (d : dOk pc (.aload_n 2) 1 = true) (kk : lW X (pc + 1) i (.ref ((lF X).2.2.1 9 0) :: st) σ μ) : lW X pc i st σ μ := by
  obtain ⟨p, l, e, s, m, below, meth, c, b, L, xs, E, F⟩ := X
  obtain ⟨⟨hx, hb, hml, hown, hts, hN⟩, -⟩ := C
  intro H locs ls hE hF hS hl
  exact lv_aload_n hx hb (dOk.of d) rfl (lv_at hl 1 rfl) (kk H locs ls hE hF hS hl)
def callOk (pc : Nat) (a : List (Nat × Bool)) (ix im : Nat) : Bool := dOk pc (.aload_n 1) 1 && (argsOk (pc + 1) a && (dOk (pc + 1 + aLen a) (.invokevirtual ix) 3 && (dOk (pc + 1 + aLen a + 3) (.aload_n 2) 1 && (argsOk (pc + 1 + aLen a + 3 + 1) a && dOk (pc + 1 + aLen a + 3 + 1 + aLen a) (.invokevirtual im) 3))))
/-- both calls of an operation: what is on the stack then -/
theorem l_calls {X : lX} (C : lC X) {i : Nat} (hi : i + 5 < lL X) {σ μ : gM} {ρ : Type} {enc : ρ → Option Value} {pc ix im n : Nat} {a : List (Nat × Bool)} (hD : callOk pc a ix im = true) {y y' : MethodName} {cc cc' : ByteArray} {nL nL' h h' : Nat} {rt rt' : Option FieldType} (Lx : gIV RL ix y n) (hco : Cond.code y cc nL rt ∈ gU) (hcls : gRn 8 = y.cls) {fx fm : Option (ρ × gM)} (con : gCon enc y cc nL rt h (.inr (8, 0) :: (a.map (aVal (lxs X) i)).map Sum.inl) σ fx) (hh : h ≤ 11 ∧ nL ≤ 40) (Lm : gIV RL im y' n) (hco' : Cond.code y' cc' nL' rt' ∈ gU) (hcls' : gRn 9 = y'.cls) (con' : gCon enc y' cc' nL' rt' h' (.inr (9, 0) :: (a.map (aVal (lxs X) i)).map Sum.inl) μ fm) (hh' : h' ≤ 11 ∧ nL' ≤ 40) (hn : a.length = n) {N : Nat} (ag : Ag fx fm N) (he : ∀ r, (((enc r).toList).map fun v => v.category).sum ≤ 8) (K : ∀ (r : ρ) (σ' μ' : gM), INV σ' μ' N → lW X (pc + 1 + aLen a + 3 + 1 + aLen a + 3) (nI i) ((enc r).toList ++ ((enc r).toList ++ [])) σ' μ') : lW X pc (nI i) [] σ μ := by
  obtain ⟨d1, d⟩ := bAnd hD
  obtain ⟨d2, d⟩ := bAnd d
  obtain ⟨d3, d⟩ := bAnd d
  obtain ⟨d4, d⟩ := bAnd d
  obtain ⟨d5, d6⟩ := bAnd d
  obtain ⟨r, σ', μ', rfl, rfl, hI⟩ := ag
  have hn' : (a.map (aVal (lxs X) i)).length = n := by rw [List.length_map]; exact hn
  refine l_ald1 C d1 ?_
  refine l_args C hi a (pc + 1) _ d2 ?_
  refine l_callX C Lx hco hcls con hh hn' (Nat.zero_le _) (dOk.of d3) ?_
  refine l_ald2 C d4 ?_
  refine l_args C hi a (pc + 1 + aLen a + 3 + 1) _ d5 ?_
  exact l_callM C Lm hco' hcls' con' hh' hn' (by rw [List.append_nil]; exact he r) (dOk.of d6) (K r σ' μ' hI)
def opOk (pc : Nat) (a : List (Nat × Bool)) (ix im : Nat) : Bool := callOk pc a ix im && dOk (pc + 1 + aLen a + 3 + 1 + aLen a + 3) (.if_icmp .eq (2419 - ((pc + 1 + aLen a + 3 + 1 + aLen a + 3 : Nat) : Int))) 3
theorem l_op {X : lX} (C : lC X) {i : Nat} (hi : i + 5 < lL X) {σ μ : gM} {ρ : Type} {enc : ρ → Option Value} {hv : ρ → Int32} (henc : ∀ r, enc r = some (.int (hv r))) {pc ix im n : Nat} {args : List (Nat × Bool)} (hD : opOk pc args ix im = true) {y y' : MethodName} {cc cc' : ByteArray} {nL nL' h h' : Nat} {rt rt' : Option FieldType} (Lx : gIV RL ix y n) (hco : Cond.code y cc nL rt ∈ gU) (hcls : gRn 8 = y.cls) {fx fm : Option (ρ × gM)} (con : gCon enc y cc nL rt h (.inr (8, 0) :: (args.map (aVal (lxs X) i)).map Sum.inl) σ fx) (hh : h ≤ 11 ∧ nL ≤ 40) (Lm : gIV RL im y' n) (hco' : Cond.code y' cc' nL' rt' ∈ gU) (hcls' : gRn 9 = y'.cls) (con' : gCon enc y' cc' nL' rt' h' (.inr (9, 0) :: (args.map (aVal (lxs X) i)).map Sum.inl) μ fm) (hh' : h' ≤ 11 ∧ nL' ≤ 40) (hn : args.length = n) {N : Nat} (ag : Ag fx fm N) (K : ∀ (σ' μ' : gM), INV σ' μ' N → lW X 2419 (nI i) [] σ' μ') : lW X pc (nI i) [] σ μ := by
  obtain ⟨h1, h2⟩ := bAnd hD
  refine l_calls C hi h1 Lx hco hcls con hh Lm hco' hcls' con' hh' hn ag (fun r => by rw [henc]; show 1 + 0 ≤ 8; omega) (fun r σ' μ' hI => ?_)
  have k := K σ' μ' hI
  rw [henc]
  obtain ⟨p, l, e, s, m, below, meth, c, b, L, xs, E, F⟩ := X
  obtain ⟨⟨hx, hb, hml, hown, hts, hN⟩, -⟩ := C
  intro H locs ls hE hF hS hl
  exact lv_icmp_eq (tgt := 2419) hx hb (dOk.of h2) (by omega) (fun _ => k H locs ls hE hF hS hl) (fun q => absurd rfl q)
def opLOk (pc : Nat) (ix im : Nat) : Bool := callOk pc [] ix im && (dOk (pc + 1 + aLen [] + 3 + 1 + aLen [] + 3) .lcmp 1 && dOk (pc + 1 + aLen [] + 3 + 1 + aLen [] + 3 + 1) (.ifCond .eq (2419 - ((pc + 1 + aLen [] + 3 + 1 + aLen [] + 3 + 1 : Nat) : Int))) 3)
theorem l_opL {X : lX} (C : lC X) {i : Nat} (hi : i + 5 < lL X) {σ μ : gM} {pc ix im : Nat} (hD : opLOk pc ix im = true) {y y' : MethodName} {cc cc' : ByteArray} {nL nL' h h' : Nat} {rt rt' : Option FieldType} (Lx : gIV RL ix y 0) (hco : Cond.code y cc nL rt ∈ gU) (hcls : gRn 8 = y.cls) {fx fm : Option (Int64 × gM)} (con : gCon eL y cc nL rt h [.inr (8, 0)] σ fx) (hh : h ≤ 11 ∧ nL ≤ 40) (Lm : gIV RL im y' 0) (hco' : Cond.code y' cc' nL' rt' ∈ gU) (hcls' : gRn 9 = y'.cls) (con' : gCon eL y' cc' nL' rt' h' [.inr (9, 0)] μ fm) (hh' : h' ≤ 11 ∧ nL' ≤ 40) {N : Nat} (ag : Ag fx fm N) (K : ∀ (σ' μ' : gM), INV σ' μ' N → lW X 2419 (nI i) [] σ' μ') : lW X pc (nI i) [] σ μ := by
  obtain ⟨h1, h2⟩ := bAnd hD
  obtain ⟨h2, h3⟩ := bAnd h2
  refine l_calls (a := []) C hi h1 Lx hco hcls con hh Lm hco' hcls' con' hh' rfl ag (fun r => by show 2 + 0 ≤ 8; omega) (fun r σ' μ' hI => ?_)
  have k := K σ' μ' hI
  obtain ⟨p, l, e, s, m, below, meth, c, b, L, xs, E, F⟩ := X
  obtain ⟨⟨hx, hb, hml, hown, hts, hN⟩, -⟩ := C
  intro H locs ls hE hF hS hl
  refine W.lcmp hx hb (dOk.of h2) ?_
  refine lv_if_eq (tgt := 2419) hx hb (dOk.of h3) (by omega) (fun _ => k H locs ls hE hF hS hl) (fun q => absurd (show lg_cmp r r = 0 by simp [lg_cmp]) q)
