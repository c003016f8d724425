/-! The abstract layer: a memory of numbers by (kind, number of the object, place), a judgement gw over it, one rule an instruction. -/
def gIsNest : Cond → Bool
  | .fieldLinkNest .. => true
  | .methodLinkNest .. => true
  | _ => false
def gU : List Cond := lw_tbl.filter goodWord
def gNL : List Cond := tables_1.filter gIsNest
theorem gU_mem {w : Cond} (h : w ∈ lw_tbl) (g : goodWord w = true) : w ∈ gU := List.mem_filter.mpr ⟨h, g⟩
theorem gNL_mem {w : Cond} (h : w ∈ tables_1) (g : gIsNest w = true) : w ∈ gNL := List.mem_filter.mpr ⟨h, g⟩
theorem gU_good {c c0 : Cond} (hc : c ∈ gU) : GoodIn (c0 :: gU) (c :: gU) := by
  intro w hw
  have h1 : w ∈ gU := by
    rcases List.mem_cons.mp hw with h | h
    · rw [h]; exact hc
    · exact h
  exact ⟨List.mem_cons_of_mem _ h1, good_of_word (List.mem_filter.mp h1).2⟩
def gNW (U : State) : Prop := ∀ w ∈ gNL, va_Nw w U
theorem gNW_warm {s U : State} (hW : s.WarmedH U.vm) (h : gNW s) : gNW U := by
  intro w hw
  have h1 := h w hw
  have h2 := (List.mem_filter.mp hw).2
  cases w <;> first | exact va_Nw.warmF hW h1 | exact va_Nw.warmM hW h1 | cases h2
theorem gNW_same {s U : State} (hv : s.vm = U.vm) (h : gNW s) : gNW U := by
  intro w hw
  have h1 := h w hw
  have h2 := (List.mem_filter.mp hw).2
  cases w <;> first | exact va_Nw.same rfl hv h1 | cases h2
def grm (h : Nat) : Room := { frames := h, cells := 0, slots := 0, locals := 36 * h }
abbrev gM : Type := Nat → Nat → Nat → Int32
abbrev gV : Type := Int32 ⊕ (Nat × Nat)
abbrev gE : Type := va_G × (Nat → ClassId) × (Nat → Nat → Nat) × (Nat → Nat)
def gup (σ : gM) (t k i : Nat) (v : Int32) : gM := fun t' k' i' => if t' = t ∧ k' = k ∧ i' = i then v else σ t' k' i'
def gcp (σ : gM) (t0 k0 t1 k1 sp dp n : Nat) : gM := fun t k => if t = t1 ∧ k = k1 then va_cpy (σ t0 k0) (σ t1 k1) sp dp n else σ t k

def glen (t : Nat) : Nat := match t with
  | 16 => 4
  | 25 => 16
  | 26 => 6
  | 27 => 96
  | 28 => 1024
  | 34 => 1024
  | 35 => 600
  | 38 => 600
  | 39 => 600
  | 40 => 32
  | 41 => 20
  | 42 => 4
  | 43 => 16
  | 44 => 16
  | 45 => 32
  | 46 => 300
  | 47 => 30843
  | 48 => 30843
  | 49 => 4804
  | 50 => 300
  | 51 => 4
  | 55 => 10
  | 56 => 1467
  | 57 => 16
  | _ => 64
def gnf (t : Nat) : Nat := match t with
  | 0 => 10
  | 1 => 4
  | 2 => 6
  | 3 => 14
  | 4 => 5
  | 5 => 3
  | 6 => 8
  | 7 => 2
  | 8 => 14
  | 9 => 31
  | _ => 0
def gref (t j k : Nat) : Option (Nat × Nat) := match t, j with
  | 0, 0 => some (16, k)
  | 1, 0 => some (17, k)
  | 1, 1 => some (18, k)
  | 1, 2 => some (19, k)
  | 2, 0 => some (20, k)
  | 2, 1 => some (21, k)
  | 2, 2 => some (22, k)
  | 2, 3 => some (23, k)
  | 2, 4 => some (24, k)
  | 3, 5 => some (25, k)
  | 3, 6 => some (26, k)
  | 3, 7 => some (27, k)
  | 3, 8 => some (28, k)
  | 3, 9 => some (29, k)
  | 3, 10 => some (30, k)
  | 3, 11 => some (31, k)
  | 3, 12 => some (32, k)
  | 3, 13 => some (33, k)
  | 4, 0 => some (34, k)
  | 4, 1 => some (35, k)
  | 4, 2 => some (36, k)
  | 4, 3 => some (37, k)
  | 5, 0 => some (38, k)
  | 5, 1 => some (39, k)
  | 6, 0 => some (3, 21 * k)
  | 6, 1 => some (41, k)
  | 6, 2 => some (42, k)
  | 6, 3 => some (40, k)
  | 7, 0 => some (43, k)
  | 7, 1 => some (44, k)
  | 8, 0 => some (6, 0)
  | 8, 1 => some (6, 1)
  | 8, 2 => some (3, 42)
  | 8, 3 => some (1, 0)
  | 8, 4 => some (7, 0)
  | 8, 5 => some (2, 0)
  | 8, 6 => some (4, 0)
  | 8, 7 => some (0, 0)
  | 8, 8 => some (5, 8)
  | 8, 9 => some (45, 0)
  | 8, 10 => some (46, 0)
  | 9, 0 => some (47, k)
  | 9, 1 => some (48, k)
  | 9, 2 => some (49, k)
  | 9, 3 => some (50, k)
  | 9, 13 => some (51, k)
  | 9, 15 => some (52, k)
  | 9, 16 => some (53, k)
  | 9, 17 => some (54, k)
  | 9, 19 => some (55, k)
  | 9, 20 => some (56, k)
  | 9, 21 => some (57, k)
  | 9, 24 => some (58, k)
  | 9, 25 => some (59, k)
  | 9, 26 => some (60, k)
  | 9, 27 => some (61, k)
  | 9, 28 => some (62, k)
  | 9, 29 => some (63, k)
  | _, _ => none
def garef (t k i : Nat) : Nat × Nat := match t with
  | 41 => (3, 21 * k + 1 + i)
  | _ => (5, 4 * k + i)
def gcX (t : Nat) : Nat := match t with
  | 0 => 1
  | 1 => 1
  | 2 => 1
  | 3 => 43
  | 4 => 1
  | 5 => 9
  | 6 => 2
  | 7 => 1
  | 8 => 1
  | 16 => 1
  | 17 => 1
  | 18 => 1
  | 19 => 1
  | 20 => 1
  | 21 => 1
  | 22 => 1
  | 23 => 1
  | 24 => 1
  | 25 => 43
  | 26 => 43
  | 27 => 43
  | 28 => 43
  | 29 => 43
  | 30 => 43
  | 31 => 43
  | 32 => 43
  | 33 => 43
  | 34 => 1
  | 35 => 1
  | 36 => 1
  | 37 => 1
  | 38 => 9
  | 39 => 9
  | 40 => 2
  | 41 => 2
  | 42 => 2
  | 43 => 1
  | 44 => 1
  | 45 => 1
  | 46 => 1
  | _ => 0
def gcM (t : Nat) : Nat := match t with
  | 9 => 1
  | 47 => 1
  | 48 => 1
  | 49 => 1
  | 50 => 1
  | 51 => 1
  | 52 => 1
  | 53 => 1
  | 54 => 1
  | 55 => 1
  | 56 => 1
  | 57 => 1
  | 58 => 1
  | 59 => 1
  | 60 => 1
  | 61 => 1
  | 62 => 1
  | 63 => 1
  | _ => 0
def gcls (t : Nat) : Nat := if t = 54 then 1 else if t = 41 then 2 else if t = 42 then 3 else 0
def gia (t : Nat) : Bool := decide (10 ≤ t) && (t != 41) && (t != 42) && (t != 54)
def gin (E : gE) (q : Nat × Nat) : Prop := q.1 < 64 ∧ q.2 < E.2.2.2 q.1
def gok (E : gE) : gV → Prop
  | .inl _ => True
  | .inr q => gin E q
def gv (E : gE) : gV → Value
  | .inl x => .int x
  | .inr q => .ref (E.2.2.1 q.1 q.2)
def gfv (σ : gM) (t k j : Nat) : gV := match gref t j k with
  | some q => .inr q
  | none => .inl (σ t k j)
def gcell (E : gE) (σ : gM) (t k : Nat) : va_E :=
  if t < 10 then .inr (t, (List.range (gnf t)).map (fun j => gv E (gfv σ t k j)))
  else if t = 41 ∨ t = 42 then .inl (E.2.1 (gcls t), glen t, .inr (.inr (.inr (.inr (fun i => some (E.2.2.1 (garef t k i).1 (garef t k i).2))))))
  else .inl (E.2.1 (gcls t), glen t, .inl (σ t k))
def gtys (E : gE) : List (ClassId × FieldType) := [(E.2.1 0, .int), (E.2.1 1, .boolean), (E.2.1 2, .object "SkewedWays$Store"), (E.2.1 3, .object "SkewedWays$Trace")]
def gpl (cnt : Nat → Nat) : List (Nat × Nat) := (List.range 64).flatMap (fun t => (List.range (cnt t)).map (fun k => (t, k)))
def gW (E : gE) (σ : gM) : va_W := (gpl E.2.2.2).map (fun q => (E.2.2.1 q.1 q.2, gcell E σ q.1 q.2))
def gA (E : gE) : Nat → Prop := fun a => ∃ q, gin E q ∧ a = E.2.2.1 q.1 q.2
def gEok (E : gE) : Prop := (∀ σ, va_D (gA E) (gW E σ)) ∧ (∀ t k j q, t < 10 → gin E (t, k) → gref t j k = some q → gin E q) ∧ (∀ k i, gin E (41, k) → i < 20 → gin E (3, 21 * k + 1 + i)) ∧ (∀ k i, gin E (42, k) → i < 4 → gin E (5, 4 * k + i))
theorem gpl_mem {cnt : Nat → Nat} {q : Nat × Nat} : q ∈ gpl cnt ↔ q.1 < 64 ∧ q.2 < cnt q.1 := by
  obtain ⟨a, b⟩ := q
  simp only [gpl, List.mem_flatMap, List.mem_range, List.mem_map, Prod.mk.injEq]
  constructor
  · rintro ⟨t, h1, k, h2, rfl, rfl⟩
    exact ⟨h1, h2⟩
  · rintro ⟨h1, h2⟩
    exact ⟨a, h1, b, h2, rfl, rfl⟩
theorem gpl_at {E : gE} {q : Nat × Nat} (h : gin E q) : ∃ q0 : Nat, (gpl E.2.2.2)[q0]? = some q := List.getElem?_of_mem (gpl_mem.mpr h)
theorem gW_get {E : gE} {σ : gM} {q0 : Nat} {q : Nat × Nat} (h : (gpl E.2.2.2)[q0]? = some q) : (gW E σ)[q0]? = some (E.2.2.1 q.1 q.2, gcell E σ q.1 q.2) := by
  simp [gW, h]
theorem gcell_congr {E : gE} {σ σ' : gM} {t k : Nat} (h : σ t k = σ' t k) : gcell E σ t k = gcell E σ' t k := by
  unfold gcell gfv
  rw [h]
theorem gW_set {E : gE} (hE : gEok E) {σ σ' : gM} {q0 t k : Nat} (h : (gpl E.2.2.2)[q0]? = some (t, k)) (hs : ∀ t' k', ¬ (t' = t ∧ k' = k) → σ t' k' = σ' t' k') {e : va_E} (he : e = gcell E σ' t k) : (gW E σ).set q0 (E.2.2.1 t k, e) = gW E σ' := by
  subst he
  have hl : q0 < (gW E σ).length := (List.getElem?_eq_some_iff.mp (gW_get (σ := σ) h)).1
  apply List.ext_getElem?
  intro i
  by_cases hi : i = q0
  · subst hi
    rw [List.getElem?_set_self hl, gW_get h]
  · rw [List.getElem?_set_ne (Ne.symm hi)]
    cases hq : (gpl E.2.2.2)[i]? with
    | none => simp [gW, hq]
    | some q =>
      rw [gW_get hq, gW_get hq]
      have hne : ¬ (q.1 = t ∧ q.2 = k) := by
        rintro ⟨h1, h2⟩
        refine hi ((hE.1 σ).1 i q0 _ _ (gW_get hq) (gW_get h) ?_)
        show E.2.2.1 q.1 q.2 = E.2.2.1 t k
        rw [h1, h2]
      rw [gcell_congr (hs q.1 q.2 hne)]
def gRn (t : Nat) : String := match t with
  | 0 => RX0 | 1 => RX1 | 2 => RX2 | 3 => RX3 | 4 => RX4 | 5 => RX5 | 6 => RX6 | 7 => RX7 | 8 => RX8 | _ => RX9
def gTn (t : Nat) : u_T := match t with
  | 0 => TX0 | 1 => TX1 | 2 => TX2 | 3 => TX3 | 4 => TX4 | 5 => TX5 | 6 => TX6 | 7 => TX7 | 8 => TX8 | _ => TX9
def gty (t : Nat) : Nat → FieldType := match t with
  | 0 => tyX0 | 1 => tyX1 | 2 => tyX2 | 3 => tyX3 | 4 => tyX4 | 5 => tyX5 | 6 => tyX6 | 7 => tyX7 | 8 => tyX8 | _ => tyX9
theorem gcases {P : Nat → Prop} (h0 : P 0) (h1 : P 1) (h2 : P 2) (h3 : P 3) (h4 : P 4) (h5 : P 5) (h6 : P 6) (h7 : P 7) (h8 : P 8) (h9 : P 9) {t : Nat} (ht : t < 10) : P t := by
  rcases (show t = 0 ∨ t = 1 ∨ t = 2 ∨ t = 3 ∨ t = 4 ∨ t = 5 ∨ t = 6 ∨ t = 7 ∨ t = 8 ∨ t = 9 by omega) with rfl | rfl | rfl | rfl | rfl | rfl | rfl | rfl | rfl | rfl <;> assumption
theorem gcl {t : Nat} (ht : t < 10) : vwCl[t]? = some (gRn t, gTn t, gnf t) := gcases (P := fun t => vwCl[t]? = some (gRn t, gTn t, gnf t)) rfl rfl rfl rfl rfl rfl rfl rfl rfl rfl ht
theorem gty_ok {t : Nat} (ht : t < 10) : ∀ k, k < gnf t → parseFieldDescriptor (gTn t k).2.2.1 = some (gty t k) := gcases (P := fun t => ∀ k, k < gnf t → parseFieldDescriptor (gTn t k).2.2.1 = some (gty t k)) tyX0_ok tyX1_ok tyX2_ok tyX3_ok tyX4_ok tyX5_ok tyX6_ok tyX7_ok tyX8_ok tyX9_ok ht
theorem gnm_ok {t : Nat} (ht : t < 10) : ∀ a, a < gnf t → ∀ b, b < gnf t → a ≠ b → (gTn t a).2.1 ≠ (gTn t b).2.1 := gcases (P := fun t => ∀ a, a < gnf t → ∀ b, b < gnf t → a ≠ b → (gTn t a).2.1 ≠ (gTn t b).2.1) nmX0 nmX1 nmX2 nmX3 nmX4 nmX5 nmX6 nmX7 nmX8 nmX9 ht
theorem gu0 {ws : List Cond} (h : ∀ w ∈ ws, w ∈ lw_tbl ∧ goodWord w = true) : ∀ w ∈ ws, w ∈ gU := fun w hw => gU_mem (h w hw).1 (h w hw).2
theorem gu_0 : ∀ w ∈ u_ws RX0 TX0 10, w ∈ lw_tbl ∧ goodWord w = true := by decide +kernel
theorem gu_1 : ∀ w ∈ u_ws RX1 TX1 4, w ∈ lw_tbl ∧ goodWord w = true := by decide +kernel
theorem gu_2 : ∀ w ∈ u_ws RX2 TX2 6, w ∈ lw_tbl ∧ goodWord w = true := by decide +kernel
theorem gu_3 : ∀ w ∈ u_ws RX3 TX3 14, w ∈ lw_tbl ∧ goodWord w = true := by decide +kernel
theorem gu_4 : ∀ w ∈ u_ws RX4 TX4 5, w ∈ lw_tbl ∧ goodWord w = true := by decide +kernel
theorem gu_5 : ∀ w ∈ u_ws RX5 TX5 3, w ∈ lw_tbl ∧ goodWord w = true := by decide +kernel
theorem gu_6 : ∀ w ∈ u_ws RX6 TX6 8, w ∈ lw_tbl ∧ goodWord w = true := by decide +kernel
theorem gu_7 : ∀ w ∈ u_ws RX7 TX7 2, w ∈ lw_tbl ∧ goodWord w = true := by decide +kernel
theorem gu_8 : ∀ w ∈ u_ws RX8 TX8 14, w ∈ lw_tbl ∧ goodWord w = true := by decide +kernel
theorem gu_9 : ∀ w ∈ u_ws RX9 TX9 31, w ∈ lw_tbl ∧ goodWord w = true := by decide +kernel
theorem gUin {t : Nat} (ht : t < 10) : ∀ w ∈ u_ws (gRn t) (gTn t) (gnf t), w ∈ gU := gcases (P := fun t => ∀ w ∈ u_ws (gRn t) (gTn t) (gnf t), w ∈ gU) (gu0 gu_0) (gu0 gu_1) (gu0 gu_2) (gu0 gu_3) (gu0 gu_4) (gu0 gu_5) (gu0 gu_6) (gu0 gu_7) (gu0 gu_8) (gu0 gu_9) ht
/-- the locals, by places; none: not known -/
def glst (E : gE) : Nat → List (Option gV) → List (Nat × Value)
  | _, [] => []
  | i, none :: r => glst E (i + 1) r
  | i, some v :: r => (i, gv E v) :: glst E (i + 1) r
def glv (E : gE) (ls : Array Slot) (nL : Nat) (lv : List (Option gV)) : Prop := ls.size = nL ∧ lv_wf ls ∧ ∀ (k : Nat) (v : gV), lv[k]? = some (some v) → ls[k]? = some (.val (gv E v))
theorem glst_mem (E : gE) : ∀ (lv : List (Option gV)) (i : Nat) (q : Nat × Value), q ∈ glst E i lv ↔ ∃ (k : Nat) (v : gV), lv[k]? = some (some v) ∧ q = (i + k, gv E v) := by
  intro lv
  induction lv with
  | nil => intro i q; simp [glst]
  | cons a r ih =>
    intro i q
    have key : (∃ (k : Nat) (v : gV), r[k]? = some (some v) ∧ q = (i + 1 + k, gv E v)) ↔ ∃ (k : Nat) (v : gV), (a :: r)[k + 1]? = some (some v) ∧ q = (i + (k + 1), gv E v) := by
      constructor
      · rintro ⟨k, v, h1, h2⟩; exact ⟨k, v, by simpa using h1, by rw [h2]; congr 1; omega⟩
      · rintro ⟨k, v, h1, h2⟩; exact ⟨k, v, by simpa using h1, by rw [h2]; congr 1; omega⟩
    cases a with
    | none =>
      simp only [glst, ih (i + 1) q, key]
      constructor
      · rintro ⟨k, v, h⟩; exact ⟨k + 1, v, h⟩
      · rintro ⟨k, v, h1, h2⟩
        cases k with
        | zero => simp at h1
        | succ k => exact ⟨k, v, h1, h2⟩
    | some w =>
      simp only [glst, List.mem_cons, ih (i + 1) q, key]
      constructor
      · rintro (h | ⟨k, v, h⟩)
        · exact ⟨0, w, rfl, h⟩
        · exact ⟨k + 1, v, h⟩
      · rintro ⟨k, v, h1, h2⟩
        cases k with
        | zero => simp at h1; exact Or.inl (by rw [h1]; exact h2)
        | succ k => exact Or.inr ⟨k, v, h1, h2⟩
theorem glst_at {E : gE} {lv : List (Option gV)} {i : Nat} {v : gV} (h : lv[i]? = some (some v)) : ∃ j : Nat, (glst E 0 lv)[j]? = some (i, gv E v) := List.getElem?_of_mem ((glst_mem E lv 0 _).mpr ⟨i, v, h, by simp⟩)
theorem glv_has {E : gE} {ls : Array Slot} {nL : Nat} {lv : List (Option gV)} (h : glv E ls nL lv) : lv_has ls nL (glst E 0 lv) := by
  refine ⟨h.1, h.2.1, fun q hq => ?_⟩
  obtain ⟨k, v, h1, rfl⟩ := (glst_mem E lv 0 q).mp hq
  simpa using h.2.2 k v h1
theorem gv_cat (E : gE) (v : gV) : (gv E v).category = 1 := by cases v <;> rfl
theorem glv_set {E : gE} {ls ls' : Array Slot} {nL i : Nat} {lv : List (Option gV)} {v : gV} (h : glv E ls nL lv) (h' : lv_has ls' nL ((i, gv E v) :: (glst E 0 lv).filter (fun q => !(q.1 == i) && !(q.1 + 1 == i && q.2.category == 2)))) : glv E ls' nL (lv.set i (some v)) := by
  refine ⟨h'.1, h'.2.1, fun k w hw => ?_⟩
  by_cases hk : k = i
  · subst hk
    have hl : k < lv.length := by
      have := (List.getElem?_eq_some_iff.mp hw).1
      simpa using this
    rw [List.getElem?_set_self hl] at hw
    cases hw
    exact h'.2.2 (k, gv E v) List.mem_cons_self
  · rw [List.getElem?_set_ne (Ne.symm hk)] at hw
    refine h'.2.2 (k, gv E w) (List.mem_cons_of_mem _ (List.mem_filter.mpr ⟨(glst_mem E lv 0 _).mpr ⟨k, w, hw, by simp⟩, ?_⟩))
    simp [hk, gv_cat]
theorem glv_ok {E : gE} {lv : List (Option gV)} {i : Nat} {v : gV} (h : ∀ w, some w ∈ lv → gok E w) (hv : gok E v) : ∀ w, some w ∈ lv.set i (some v) → gok E w := by
  intro w hw
  rcases List.mem_or_eq_of_mem_set hw with h1 | h1
  · exact h w h1
  · cases h1; exact hv
abbrev gX : Type := Program × Launch × Env × Nat × State × MethodId × Array Value × List Frame × Method × Code × gE × Nat
/-- a method's end: its answer, its world; nothing else is changed -/
def gQc (E : gE) (ov : Option Value) (σ' : gM) : Array Value → State → Outcome → State → Prop := fun _ st oc t => oc = .returned ov ∧ va_P E.1 vwCl (gW E σ') t.heap ∧ va_K E.1 vwCl (gtys E) t ∧ va_F (gA E) st t
/-- from here the machine comes to the end that o foretells (if it foretells one) -/
def gw (X : gX) {ρ : Type} (enc : ρ → Option Value) (pc : Nat) (lv : List (Option gV)) (st : List gV) (σ : gM) (o : Option (ρ × gM)) : Prop := match X with
  | (p, l, e, h, s, m, args, below, meth, c, E, nL) => (∀ v ∈ st, gok E v) → (∀ v, some v ∈ lv → gok E v) → ∀ r, o = some r → ∀ (H : Heap) (locs : List Loc) (ls : Array Slot), va_P E.1 vwCl (gW E σ) H → va_S (gA E) s.heap H locs → glv E ls nL lv → W p l e (grm h) s m args below meth c H locs 0 0 (MQ below (gQc E (enc r.1) r.2) args s 0 0 (gA E)) (F0 m pc ls (st.map (gv E)))
def gC (X : gX) (own : String) (cc : ByteArray) (h nL : Nat) (ret : Option FieldType) : Prop := match X with
  | (p, _, _, h', s, m, args, _, meth, c, E, nL') => h' = h ∧ nL' = nL ∧ p.tables.exec = Jvm.exec ∧ c.code = cc ∧ c.maxLocals = nL' ∧ s.vm.findClass own = some m.cls ∧ (∀ w ∈ gU, w.before args s = true) ∧ gNW s ∧ va_K E.1 vwCl (gtys E) s ∧ gEok E ∧ meth.locks = false ∧ meth.sig.returnType = ret
theorem gw_none {X : gX} {ρ : Type} {enc : ρ → Option Value} {pc : Nat} {lv : List (Option gV)} {st : List gV} {σ : gM} : gw X enc pc lv st σ none := by
  obtain ⟨p, l, e, h', s, m, args, below, meth, c, E, nL'⟩ := X
  intro _ _ r ho
  cases ho
def gLet {α β : Type} (x : α) (k : α → β) : β := k x
def gRem (x y : Int32) : Int32 := x - x / y * y
def gUshr (x y : Int32) : Int32 := (x.toUInt32 >>> (y.toUInt32 &&& Int32.toUInt32 31)).toInt32
def gMax (x y : Int32) : Int32 := if x < y then y else x
def gMin (x y : Int32) : Int32 := if y < x then y else x
def bI (b : Bool) : Int32 := if b then 1 else 0
def eI : Int32 → Option Value := fun x => some (.int x)
def eB : Bool → Option Value := fun b => some (.int (bI b))
def eU : Unit → Option Value := fun _ => none

theorem r_iadd {X : gX} {own : String} {cc : ByteArray} {h nL : Nat} {ret : Option FieldType} (C : gC X own cc h nL ret) {ρ : Type} {enc : ρ → Option Value} {pc : Nat} {lv : List (Option gV)} {st : List gV} {σ : gM} {o : Option (ρ × gM)} {x y : Int32} (hd : decode cc pc = .ok (.iadd, 1)) (k : gw X enc (pc + 1) lv (.inl (x + y) :: st) σ o) : gw X enc pc lv (.inl y :: .inl x :: st) σ o := by
  obtain ⟨p, l, e, h', s, m, args, below, meth, c, E, nL'⟩ := X
  obtain ⟨rfl, rfl, hx, hb, hml, hown, hts, hN, hK, hE, hlk, hrt⟩ := C
  intro hst hlv r ho H locs ls hP hS hl
  exact lv_iadd hx hb hd (k (List.forall_mem_cons.mpr ⟨trivial, (List.forall_mem_cons.mp (List.forall_mem_cons.mp hst).2).2⟩) hlv r ho H locs ls hP hS hl)
theorem r_isub {X : gX} {own : String} {cc : ByteArray} {h nL : Nat} {ret : Option FieldType} (C : gC X own cc h nL ret) {ρ : Type} {enc : ρ → Option Value} {pc : Nat} {lv : List (Option gV)} {st : List gV} {σ : gM} {o : Option (ρ × gM)} {x y : Int32} (hd : decode cc pc = .ok (.isub, 1)) (k : gw X enc (pc + 1) lv (.inl (x - y) :: st) σ o) : gw X enc pc lv (.inl y :: .inl x :: st) σ o := by
  obtain ⟨p, l, e, h', s, m, args, below, meth, c, E, nL'⟩ := X
  obtain ⟨rfl, rfl, hx, hb, hml, hown, hts, hN, hK, hE, hlk, hrt⟩ := C
  intro hst hlv r ho H locs ls hP hS hl
  exact lv_isub hx hb hd (k (List.forall_mem_cons.mpr ⟨trivial, (List.forall_mem_cons.mp (List.forall_mem_cons.mp hst).2).2⟩) hlv r ho H locs ls hP hS hl)
theorem r_imul {X : gX} {own : String} {cc : ByteArray} {h nL : Nat} {ret : Option FieldType} (C : gC X own cc h nL ret) {ρ : Type} {enc : ρ → Option Value} {pc : Nat} {lv : List (Option gV)} {st : List gV} {σ : gM} {o : Option (ρ × gM)} {x y : Int32} (hd : decode cc pc = .ok (.imul, 1)) (k : gw X enc (pc + 1) lv (.inl (x * y) :: st) σ o) : gw X enc pc lv (.inl y :: .inl x :: st) σ o := by
  obtain ⟨p, l, e, h', s, m, args, below, meth, c, E, nL'⟩ := X
  obtain ⟨rfl, rfl, hx, hb, hml, hown, hts, hN, hK, hE, hlk, hrt⟩ := C
  intro hst hlv r ho H locs ls hP hS hl
  exact lv_imul hx hb hd (k (List.forall_mem_cons.mpr ⟨trivial, (List.forall_mem_cons.mp (List.forall_mem_cons.mp hst).2).2⟩) hlv r ho H locs ls hP hS hl)
theorem r_iand {X : gX} {own : String} {cc : ByteArray} {h nL : Nat} {ret : Option FieldType} (C : gC X own cc h nL ret) {ρ : Type} {enc : ρ → Option Value} {pc : Nat} {lv : List (Option gV)} {st : List gV} {σ : gM} {o : Option (ρ × gM)} {x y : Int32} (hd : decode cc pc = .ok (.iand, 1)) (k : gw X enc (pc + 1) lv (.inl (x &&& y) :: st) σ o) : gw X enc pc lv (.inl y :: .inl x :: st) σ o := by
  obtain ⟨p, l, e, h', s, m, args, below, meth, c, E, nL'⟩ := X
  obtain ⟨rfl, rfl, hx, hb, hml, hown, hts, hN, hK, hE, hlk, hrt⟩ := C
  intro hst hlv r ho H locs ls hP hS hl
  exact lv_iand hx hb hd (k (List.forall_mem_cons.mpr ⟨trivial, (List.forall_mem_cons.mp (List.forall_mem_cons.mp hst).2).2⟩) hlv r ho H locs ls hP hS hl)
theorem r_ior {X : gX} {own : String} {cc : ByteArray} {h nL : Nat} {ret : Option FieldType} (C : gC X own cc h nL ret) {ρ : Type} {enc : ρ → Option Value} {pc : Nat} {lv : List (Option gV)} {st : List gV} {σ : gM} {o : Option (ρ × gM)} {x y : Int32} (hd : decode cc pc = .ok (.ior, 1)) (k : gw X enc (pc + 1) lv (.inl (x ||| y) :: st) σ o) : gw X enc pc lv (.inl y :: .inl x :: st) σ o := by
  obtain ⟨p, l, e, h', s, m, args, below, meth, c, E, nL'⟩ := X
  obtain ⟨rfl, rfl, hx, hb, hml, hown, hts, hN, hK, hE, hlk, hrt⟩ := C
  intro hst hlv r ho H locs ls hP hS hl
  exact lv_ior hx hb hd (k (List.forall_mem_cons.mpr ⟨trivial, (List.forall_mem_cons.mp (List.forall_mem_cons.mp hst).2).2⟩) hlv r ho H locs ls hP hS hl)
theorem r_ixor {X : gX} {own : String} {cc : ByteArray} {h nL : Nat} {ret : Option FieldType} (C : gC X own cc h nL ret) {ρ : Type} {enc : ρ → Option Value} {pc : Nat} {lv : List (Option gV)} {st : List gV} {σ : gM} {o : Option (ρ × gM)} {x y : Int32} (hd : decode cc pc = .ok (.ixor, 1)) (k : gw X enc (pc + 1) lv (.inl (x ^^^ y) :: st) σ o) : gw X enc pc lv (.inl y :: .inl x :: st) σ o := by
  obtain ⟨p, l, e, h', s, m, args, below, meth, c, E, nL'⟩ := X
  obtain ⟨rfl, rfl, hx, hb, hml, hown, hts, hN, hK, hE, hlk, hrt⟩ := C
  intro hst hlv r ho H locs ls hP hS hl
  exact lv_ixor hx hb hd (k (List.forall_mem_cons.mpr ⟨trivial, (List.forall_mem_cons.mp (List.forall_mem_cons.mp hst).2).2⟩) hlv r ho H locs ls hP hS hl)
theorem r_ishl {X : gX} {own : String} {cc : ByteArray} {h nL : Nat} {ret : Option FieldType} (C : gC X own cc h nL ret) {ρ : Type} {enc : ρ → Option Value} {pc : Nat} {lv : List (Option gV)} {st : List gV} {σ : gM} {o : Option (ρ × gM)} {x y : Int32} (hd : decode cc pc = .ok (.ishl, 1)) (k : gw X enc (pc + 1) lv (.inl (x <<< (y &&& 31)) :: st) σ o) : gw X enc pc lv (.inl y :: .inl x :: st) σ o := by
  obtain ⟨p, l, e, h', s, m, args, below, meth, c, E, nL'⟩ := X
  obtain ⟨rfl, rfl, hx, hb, hml, hown, hts, hN, hK, hE, hlk, hrt⟩ := C
  intro hst hlv r ho H locs ls hP hS hl
  exact lv_ishl hx hb hd (k (List.forall_mem_cons.mpr ⟨trivial, (List.forall_mem_cons.mp (List.forall_mem_cons.mp hst).2).2⟩) hlv r ho H locs ls hP hS hl)
theorem r_ishr {X : gX} {own : String} {cc : ByteArray} {h nL : Nat} {ret : Option FieldType} (C : gC X own cc h nL ret) {ρ : Type} {enc : ρ → Option Value} {pc : Nat} {lv : List (Option gV)} {st : List gV} {σ : gM} {o : Option (ρ × gM)} {x y : Int32} (hd : decode cc pc = .ok (.ishr, 1)) (k : gw X enc (pc + 1) lv (.inl (x >>> (y &&& 31)) :: st) σ o) : gw X enc pc lv (.inl y :: .inl x :: st) σ o := by
  obtain ⟨p, l, e, h', s, m, args, below, meth, c, E, nL'⟩ := X
  obtain ⟨rfl, rfl, hx, hb, hml, hown, hts, hN, hK, hE, hlk, hrt⟩ := C
  intro hst hlv r ho H locs ls hP hS hl
  exact lv_ishr hx hb hd (k (List.forall_mem_cons.mpr ⟨trivial, (List.forall_mem_cons.mp (List.forall_mem_cons.mp hst).2).2⟩) hlv r ho H locs ls hP hS hl)
theorem r_idiv {X : gX} {own : String} {cc : ByteArray} {h nL : Nat} {ret : Option FieldType} (C : gC X own cc h nL ret) {ρ : Type} {enc : ρ → Option Value} {pc : Nat} {lv : List (Option gV)} {st : List gV} {σ : gM} {o : Option (ρ × gM)} {x y : Int32} (hd : decode cc pc = .ok (.idiv, 1)) (hne : ¬ y = 0) (k : gw X enc (pc + 1) lv (.inl (x / y) :: st) σ o) : gw X enc pc lv (.inl y :: .inl x :: st) σ o := by
  obtain ⟨p, l, e, h', s, m, args, below, meth, c, E, nL'⟩ := X
  obtain ⟨rfl, rfl, hx, hb, hml, hown, hts, hN, hK, hE, hlk, hrt⟩ := C
  intro hst hlv r ho H locs ls hP hS hl
  exact lv_idiv hx hb hd hne (k (List.forall_mem_cons.mpr ⟨trivial, (List.forall_mem_cons.mp (List.forall_mem_cons.mp hst).2).2⟩) hlv r ho H locs ls hP hS hl)
theorem r_irem {X : gX} {own : String} {cc : ByteArray} {h nL : Nat} {ret : Option FieldType} (C : gC X own cc h nL ret) {ρ : Type} {enc : ρ → Option Value} {pc : Nat} {lv : List (Option gV)} {st : List gV} {σ : gM} {o : Option (ρ × gM)} {x y : Int32} (hd : decode cc pc = .ok (.irem, 1)) (hne : ¬ y = 0) (k : gw X enc (pc + 1) lv (.inl (gRem x y) :: st) σ o) : gw X enc pc lv (.inl y :: .inl x :: st) σ o := by
  obtain ⟨p, l, e, h', s, m, args, below, meth, c, E, nL'⟩ := X
  obtain ⟨rfl, rfl, hx, hb, hml, hown, hts, hN, hK, hE, hlk, hrt⟩ := C
  intro hst hlv r ho H locs ls hP hS hl
  exact lv_irem hx hb hd hne (k (List.forall_mem_cons.mpr ⟨trivial, (List.forall_mem_cons.mp (List.forall_mem_cons.mp hst).2).2⟩) hlv r ho H locs ls hP hS hl)
theorem r_iremN {X : gX} {own : String} {cc : ByteArray} {h nL : Nat} {ret : Option FieldType} (C : gC X own cc h nL ret) {ρ : Type} {enc : ρ → Option Value} {pc : Nat} {lv : List (Option gV)} {st : List gV} {σ : gM} {o : Option (ρ × gM)} {x y : Int32} (hd : decode cc pc = .ok (.irem, 1)) (k : gw X enc (pc + 1) lv (.inl (gRem x y) :: st) σ o) : gw X enc pc lv (.inl y :: .inl x :: st) σ (if y = 0 then none else o) := by
  by_cases hy : y = 0
  · rw [if_pos hy]
    exact gw_none
  · rw [if_neg hy]
    exact r_irem C hd hy k
theorem r_iushr {X : gX} {own : String} {cc : ByteArray} {h nL : Nat} {ret : Option FieldType} (C : gC X own cc h nL ret) {ρ : Type} {enc : ρ → Option Value} {pc : Nat} {lv : List (Option gV)} {st : List gV} {σ : gM} {o : Option (ρ × gM)} {x y : Int32} (hd : decode cc pc = .ok (.iushr, 1)) (k : gw X enc (pc + 1) lv (.inl (gUshr x y) :: st) σ o) : gw X enc pc lv (.inl y :: .inl x :: st) σ o := by
  obtain ⟨p, l, e, h', s, m, args, below, meth, c, E, nL'⟩ := X
  obtain ⟨rfl, rfl, hx, hb, hml, hown, hts, hN, hK, hE, hlk, hrt⟩ := C
  intro hst hlv r ho H locs ls hP hS hl
  exact lv_iushr hx hb hd rfl (k (List.forall_mem_cons.mpr ⟨trivial, (List.forall_mem_cons.mp (List.forall_mem_cons.mp hst).2).2⟩) hlv r ho H locs ls hP hS hl)
theorem r_ineg {X : gX} {own : String} {cc : ByteArray} {h nL : Nat} {ret : Option FieldType} (C : gC X own cc h nL ret) {ρ : Type} {enc : ρ → Option Value} {pc : Nat} {lv : List (Option gV)} {st : List gV} {σ : gM} {o : Option (ρ × gM)} {x : Int32} (hd : decode cc pc = .ok (.ineg, 1)) (k : gw X enc (pc + 1) lv (.inl (-x) :: st) σ o) : gw X enc pc lv (.inl x :: st) σ o := by
  obtain ⟨p, l, e, h', s, m, args, below, meth, c, E, nL'⟩ := X
  obtain ⟨rfl, rfl, hx, hb, hml, hown, hts, hN, hK, hE, hlk, hrt⟩ := C
  intro hst hlv r ho H locs ls hP hS hl
  exact lv_ineg hx hb hd (k (List.forall_mem_cons.mpr ⟨trivial, (List.forall_mem_cons.mp hst).2⟩) hlv r ho H locs ls hP hS hl)
theorem r_iconst {X : gX} {own : String} {cc : ByteArray} {h nL : Nat} {ret : Option FieldType} (C : gC X own cc h nL ret) {ρ : Type} {enc : ρ → Option Value} {pc : Nat} {lv : List (Option gV)} {st : List gV} {σ : gM} {o : Option (ρ × gM)} {n : Int} {v : Int32} (hd : decode cc pc = .ok (.iconst n, 1)) (hv : Int32.ofInt n = v) (k : gw X enc (pc + 1) lv (.inl v :: st) σ o) : gw X enc pc lv st σ o := by
  obtain ⟨p, l, e, h', s, m, args, below, meth, c, E, nL'⟩ := X
  obtain ⟨rfl, rfl, hx, hb, hml, hown, hts, hN, hK, hE, hlk, hrt⟩ := C
  intro hst hlv r ho H locs ls hP hS hl
  exact lv_iconst hx hb hd hv (k (List.forall_mem_cons.mpr ⟨trivial, hst⟩) hlv r ho H locs ls hP hS hl)
theorem r_bipush {X : gX} {own : String} {cc : ByteArray} {h nL : Nat} {ret : Option FieldType} (C : gC X own cc h nL ret) {ρ : Type} {enc : ρ → Option Value} {pc : Nat} {lv : List (Option gV)} {st : List gV} {σ : gM} {o : Option (ρ × gM)} {n : Int} {v : Int32} (hd : decode cc pc = .ok (.bipush n, 2)) (hv : (Int8.ofInt n).toInt32 = v) (k : gw X enc (pc + 2) lv (.inl v :: st) σ o) : gw X enc pc lv st σ o := by
  obtain ⟨p, l, e, h', s, m, args, below, meth, c, E, nL'⟩ := X
  obtain ⟨rfl, rfl, hx, hb, hml, hown, hts, hN, hK, hE, hlk, hrt⟩ := C
  intro hst hlv r ho H locs ls hP hS hl
  exact lv_bipush hx hb hd hv (k (List.forall_mem_cons.mpr ⟨trivial, hst⟩) hlv r ho H locs ls hP hS hl)
theorem r_sipush {X : gX} {own : String} {cc : ByteArray} {h nL : Nat} {ret : Option FieldType} (C : gC X own cc h nL ret) {ρ : Type} {enc : ρ → Option Value} {pc : Nat} {lv : List (Option gV)} {st : List gV} {σ : gM} {o : Option (ρ × gM)} {n : Int} {v : Int32} (hd : decode cc pc = .ok (.sipush n, 3)) (hv : (Int16.ofInt n).toInt32 = v) (k : gw X enc (pc + 3) lv (.inl v :: st) σ o) : gw X enc pc lv st σ o := by
  obtain ⟨p, l, e, h', s, m, args, below, meth, c, E, nL'⟩ := X
  obtain ⟨rfl, rfl, hx, hb, hml, hown, hts, hN, hK, hE, hlk, hrt⟩ := C
  intro hst hlv r ho H locs ls hP hS hl
  exact lv_sipush hx hb hd hv (k (List.forall_mem_cons.mpr ⟨trivial, hst⟩) hlv r ho H locs ls hP hS hl)
theorem r_ldc {X : gX} {own : String} {cc : ByteArray} {h nL : Nat} {ret : Option FieldType} (C : gC X own cc h nL ret) {ρ : Type} {enc : ρ → Option Value} {pc : Nat} {lv : List (Option gV)} {st : List gV} {σ : gM} {o : Option (ρ × gM)} {index : Nat} {v : Int32} (hw : Cond.constant own index v ∈ gU) (hd : decode cc pc = .ok (.ldc index, 2)) (k : gw X enc (pc + 2) lv (.inl v :: st) σ o) : gw X enc pc lv st σ o := by
  obtain ⟨p, l, e, h', s, m, args, below, meth, c, E, nL'⟩ := X
  obtain ⟨rfl, rfl, hx, hb, hml, hown, hts, hN, hK, hE, hlk, hrt⟩ := C
  intro hst hlv r ho H locs ls hP hS hl
  exact lv_ldc hx hb hown (hts _ hw) hd (k (List.forall_mem_cons.mpr ⟨trivial, hst⟩) hlv r ho H locs ls hP hS hl)
theorem r_ldcw {X : gX} {own : String} {cc : ByteArray} {h nL : Nat} {ret : Option FieldType} (C : gC X own cc h nL ret) {ρ : Type} {enc : ρ → Option Value} {pc : Nat} {lv : List (Option gV)} {st : List gV} {σ : gM} {o : Option (ρ × gM)} {index : Nat} {v : Int32} (hw : Cond.constant own index v ∈ gU) (hd : decode cc pc = .ok (.ldc_w index, 3)) (k : gw X enc (pc + 3) lv (.inl v :: st) σ o) : gw X enc pc lv st σ o := by
  obtain ⟨p, l, e, h', s, m, args, below, meth, c, E, nL'⟩ := X
  obtain ⟨rfl, rfl, hx, hb, hml, hown, hts, hN, hK, hE, hlk, hrt⟩ := C
  intro hst hlv r ho H locs ls hP hS hl
  exact lv_ldcw hx hb hown (hts _ hw) hd (k (List.forall_mem_cons.mpr ⟨trivial, hst⟩) hlv r ho H locs ls hP hS hl)
theorem r_iload_n {X : gX} {own : String} {cc : ByteArray} {h nL : Nat} {ret : Option FieldType} (C : gC X own cc h nL ret) {ρ : Type} {enc : ρ → Option Value} {pc : Nat} {lv : List (Option gV)} {st : List gV} {σ : gM} {o : Option (ρ × gM)} {kf : Fin 4} {i : Nat} {x : Int32} (hd : decode cc pc = .ok (.iload_n kf, 1)) (hi : (kf : Nat) = i) (hv : lv[i]? = some (some (.inl x))) (k : gw X enc (pc + 1) lv (.inl x :: st) σ o) : gw X enc pc lv st σ o := by
  obtain ⟨p, l, e, h', s, m, args, below, meth, c, E, nL'⟩ := X
  obtain ⟨rfl, rfl, hx, hb, hml, hown, hts, hN, hK, hE, hlk, hrt⟩ := C
  intro hst hlv r ho H locs ls hP hS hl
  exact lv_iload_n hx hb hd hi (hl.2.2 _ _ hv) (k (List.forall_mem_cons.mpr ⟨trivial, hst⟩) hlv r ho H locs ls hP hS hl)
theorem r_iload {X : gX} {own : String} {cc : ByteArray} {h nL : Nat} {ret : Option FieldType} (C : gC X own cc h nL ret) {ρ : Type} {enc : ρ → Option Value} {pc : Nat} {lv : List (Option gV)} {st : List gV} {σ : gM} {o : Option (ρ × gM)}  {i : Nat} {x : Int32} (hd : decode cc pc = .ok (.iload i, 2)) (hv : lv[i]? = some (some (.inl x))) (k : gw X enc (pc + 2) lv (.inl x :: st) σ o) : gw X enc pc lv st σ o := by
  obtain ⟨p, l, e, h', s, m, args, below, meth, c, E, nL'⟩ := X
  obtain ⟨rfl, rfl, hx, hb, hml, hown, hts, hN, hK, hE, hlk, hrt⟩ := C
  intro hst hlv r ho H locs ls hP hS hl
  exact lv_iload hx hb hd (hl.2.2 _ _ hv) (k (List.forall_mem_cons.mpr ⟨trivial, hst⟩) hlv r ho H locs ls hP hS hl)
theorem r_aload_n {X : gX} {own : String} {cc : ByteArray} {h nL : Nat} {ret : Option FieldType} (C : gC X own cc h nL ret) {ρ : Type} {enc : ρ → Option Value} {pc : Nat} {lv : List (Option gV)} {st : List gV} {σ : gM} {o : Option (ρ × gM)} {kf : Fin 4} {i : Nat} {q : Nat × Nat} (hd : decode cc pc = .ok (.aload_n kf, 1)) (hi : (kf : Nat) = i) (hv : lv[i]? = some (some (.inr q))) (k : gw X enc (pc + 1) lv (.inr q :: st) σ o) : gw X enc pc lv st σ o := by
  obtain ⟨p, l, e, h', s, m, args, below, meth, c, E, nL'⟩ := X
  obtain ⟨rfl, rfl, hx, hb, hml, hown, hts, hN, hK, hE, hlk, hrt⟩ := C
  intro hst hlv r ho H locs ls hP hS hl
  exact lv_aload_n hx hb hd hi (hl.2.2 _ _ hv) (k (List.forall_mem_cons.mpr ⟨hlv _ (List.mem_of_getElem? hv), hst⟩) hlv r ho H locs ls hP hS hl)
theorem r_aload {X : gX} {own : String} {cc : ByteArray} {h nL : Nat} {ret : Option FieldType} (C : gC X own cc h nL ret) {ρ : Type} {enc : ρ → Option Value} {pc : Nat} {lv : List (Option gV)} {st : List gV} {σ : gM} {o : Option (ρ × gM)}  {i : Nat} {q : Nat × Nat} (hd : decode cc pc = .ok (.aload i, 2)) (hv : lv[i]? = some (some (.inr q))) (k : gw X enc (pc + 2) lv (.inr q :: st) σ o) : gw X enc pc lv st σ o := by
  obtain ⟨p, l, e, h', s, m, args, below, meth, c, E, nL'⟩ := X
  obtain ⟨rfl, rfl, hx, hb, hml, hown, hts, hN, hK, hE, hlk, hrt⟩ := C
  intro hst hlv r ho H locs ls hP hS hl
  exact lv_aload hx hb hd (hl.2.2 _ _ hv) (k (List.forall_mem_cons.mpr ⟨hlv _ (List.mem_of_getElem? hv), hst⟩) hlv r ho H locs ls hP hS hl)
theorem r_istore_n {X : gX} {own : String} {cc : ByteArray} {h nL : Nat} {ret : Option FieldType} (C : gC X own cc h nL ret) {ρ : Type} {enc : ρ → Option Value} {pc : Nat} {lv : List (Option gV)} {st : List gV} {σ : gM} {o : Option (ρ × gM)} {kf : Fin 4} {i : Nat} {x : Int32} {lv' : List (Option gV)} (hd : decode cc pc = .ok (.istore_n kf, 1)) (hi : (kf : Nat) = i) (hi2 : i < nL) (hv : lv.set i (some (.inl x)) = lv') (k : gw X enc (pc + 1) lv' st σ o) : gw X enc pc lv (.inl x :: st) σ o := by
  subst hv
  obtain ⟨p, l, e, h', s, m, args, below, meth, c, E, nL'⟩ := X
  obtain ⟨rfl, rfl, hx, hb, hml, hown, hts, hN, hK, hE, hlk, hrt⟩ := C
  intro hst hlv r ho H locs ls hP hS hl
  exact lv_istore_n hx hb hd hi (glv_has hl) hi2 rfl (fun ls' hl' => k (List.forall_mem_cons.mp hst).2 (glv_ok hlv trivial) r ho H locs ls' hP hS (glv_set hl hl'))
theorem r_istore {X : gX} {own : String} {cc : ByteArray} {h nL : Nat} {ret : Option FieldType} (C : gC X own cc h nL ret) {ρ : Type} {enc : ρ → Option Value} {pc : Nat} {lv : List (Option gV)} {st : List gV} {σ : gM} {o : Option (ρ × gM)}  {i : Nat} {x : Int32} {lv' : List (Option gV)} (hd : decode cc pc = .ok (.istore i, 2)) (hi2 : i < nL) (hv : lv.set i (some (.inl x)) = lv') (k : gw X enc (pc + 2) lv' st σ o) : gw X enc pc lv (.inl x :: st) σ o := by
  subst hv
  obtain ⟨p, l, e, h', s, m, args, below, meth, c, E, nL'⟩ := X
  obtain ⟨rfl, rfl, hx, hb, hml, hown, hts, hN, hK, hE, hlk, hrt⟩ := C
  intro hst hlv r ho H locs ls hP hS hl
  exact lv_istore hx hb hd (glv_has hl) hi2 rfl (fun ls' hl' => k (List.forall_mem_cons.mp hst).2 (glv_ok hlv trivial) r ho H locs ls' hP hS (glv_set hl hl'))
theorem r_astore_n {X : gX} {own : String} {cc : ByteArray} {h nL : Nat} {ret : Option FieldType} (C : gC X own cc h nL ret) {ρ : Type} {enc : ρ → Option Value} {pc : Nat} {lv : List (Option gV)} {st : List gV} {σ : gM} {o : Option (ρ × gM)} {kf : Fin 4} {i : Nat} {q : Nat × Nat} {lv' : List (Option gV)} (hd : decode cc pc = .ok (.astore_n kf, 1)) (hi : (kf : Nat) = i) (hi2 : i < nL) (hv : lv.set i (some (.inr q)) = lv') (k : gw X enc (pc + 1) lv' st σ o) : gw X enc pc lv (.inr q :: st) σ o := by
  subst hv
  obtain ⟨p, l, e, h', s, m, args, below, meth, c, E, nL'⟩ := X
  obtain ⟨rfl, rfl, hx, hb, hml, hown, hts, hN, hK, hE, hlk, hrt⟩ := C
  intro hst hlv r ho H locs ls hP hS hl
  exact lv_astore_n hx hb hd hi (glv_has hl) hi2 rfl (fun ls' hl' => k (List.forall_mem_cons.mp hst).2 (glv_ok hlv (List.forall_mem_cons.mp hst).1) r ho H locs ls' hP hS (glv_set (v := .inr q) hl hl'))
theorem r_iinc {X : gX} {own : String} {cc : ByteArray} {h nL : Nat} {ret : Option FieldType} (C : gC X own cc h nL ret) {ρ : Type} {enc : ρ → Option Value} {pc : Nat} {lv : List (Option gV)} {st : List gV} {σ : gM} {i : Nat} {n : Int} {x v : Int32} {kk : Int32 → Option (ρ × gM)} (hd : decode cc pc = .ok (.iinc i n, 3)) (hi2 : i < nL) (hx0 : lv[i]? = some (some (.inl x))) (hv : Int32.ofInt n = v) (k : ∀ y : Int32, gw X enc (pc + 3) (lv.set i (some (.inl y))) st σ (kk y)) : gw X enc pc lv st σ (gLet (x + v) kk) := by
  subst hv
  obtain ⟨p, l, e, h', s, m, args, below, meth, c, E, nL'⟩ := X
  obtain ⟨rfl, rfl, hx, hb, hml, hown, hts, hN, hK, hE, hlk, hrt⟩ := C
  intro hst hlv r ho H locs ls hP hS hl
  obtain ⟨j, hj⟩ := glst_at (E := E) hx0
  exact lv_iinc hx hb hd (glv_has hl) hj rfl hi2 rfl (fun ls' hl' => k _ hst (glv_ok hlv trivial) r ho H locs ls' hP hS (glv_set hl hl'))
theorem r_dup {X : gX} {own : String} {cc : ByteArray} {h nL : Nat} {ret : Option FieldType} (C : gC X own cc h nL ret) {ρ : Type} {enc : ρ → Option Value} {pc : Nat} {lv : List (Option gV)} {st : List gV} {σ : gM} {o : Option (ρ × gM)} {v : gV} (hd : decode cc pc = .ok (.dup, 1)) (k : gw X enc (pc + 1) lv (v :: v :: st) σ o) : gw X enc pc lv (v :: st) σ o := by
  obtain ⟨p, l, e, h', s, m, args, below, meth, c, E, nL'⟩ := X
  obtain ⟨rfl, rfl, hx, hb, hml, hown, hts, hN, hK, hE, hlk, hrt⟩ := C
  intro hst hlv r ho H locs ls hP hS hl
  exact lv_dup hx hb hd (gv_cat E v) (k (List.forall_mem_cons.mpr ⟨(List.forall_mem_cons.mp hst).1, hst⟩) hlv r ho H locs ls hP hS hl)
theorem r_pop {X : gX} {own : String} {cc : ByteArray} {h nL : Nat} {ret : Option FieldType} (C : gC X own cc h nL ret) {ρ : Type} {enc : ρ → Option Value} {pc : Nat} {lv : List (Option gV)} {st : List gV} {σ : gM} {o : Option (ρ × gM)} {v : gV} (hd : decode cc pc = .ok (.pop, 1)) (k : gw X enc (pc + 1) lv st σ o) : gw X enc pc lv (v :: st) σ o := by
  obtain ⟨p, l, e, h', s, m, args, below, meth, c, E, nL'⟩ := X
  obtain ⟨rfl, rfl, hx, hb, hml, hown, hts, hN, hK, hE, hlk, hrt⟩ := C
  intro hst hlv r ho H locs ls hP hS hl
  exact lv_pop hx hb hd (gv_cat E v) (k (List.forall_mem_cons.mp hst).2 hlv r ho H locs ls hP hS hl)
theorem r_dup2 {X : gX} {own : String} {cc : ByteArray} {h nL : Nat} {ret : Option FieldType} (C : gC X own cc h nL ret) {ρ : Type} {enc : ρ → Option Value} {pc : Nat} {lv : List (Option gV)} {st : List gV} {σ : gM} {o : Option (ρ × gM)} {v u : gV} (hd : decode cc pc = .ok (.dup2, 1)) (k : gw X enc (pc + 1) lv (v :: u :: v :: u :: st) σ o) : gw X enc pc lv (v :: u :: st) σ o := by
  obtain ⟨p, l, e, h', s, m, args, below, meth, c, E, nL'⟩ := X
  obtain ⟨rfl, rfl, hx, hb, hml, hown, hts, hN, hK, hE, hlk, hrt⟩ := C
  intro hst hlv r ho H locs ls hP hS hl
  have h1 := List.forall_mem_cons.mp hst
  have h2 := List.forall_mem_cons.mp h1.2
  exact lv_dup2_11 hx hb hd (gv_cat E v) (gv_cat E u) (k (List.forall_mem_cons.mpr ⟨h1.1, List.forall_mem_cons.mpr ⟨h2.1, hst⟩⟩) hlv r ho H locs ls hP hS hl)
theorem r_goto {X : gX} {own : String} {cc : ByteArray} {h nL : Nat} {ret : Option FieldType} (C : gC X own cc h nL ret) {ρ : Type} {enc : ρ → Option Value} {pc : Nat} {lv : List (Option gV)} {st : List gV} {σ : gM} {o : Option (ρ × gM)} {off : Int} {tgt : Nat} (hd : decode cc pc = .ok (.goto off, 3)) (ht : (pc : Int) + off = (tgt : Int)) (k : gw X enc tgt lv st σ o) : gw X enc pc lv st σ o := by
  obtain ⟨p, l, e, h', s, m, args, below, meth, c, E, nL'⟩ := X
  obtain ⟨rfl, rfl, hx, hb, hml, hown, hts, hN, hK, hE, hlk, hrt⟩ := C
  intro hst hlv r ho H locs ls hP hS hl
  exact lv_goto hx hb hd ht (k hst hlv r ho H locs ls hP hS hl)
theorem r_if_eq {X : gX} {own : String} {cc : ByteArray} {h nL : Nat} {ret : Option FieldType} (C : gC X own cc h nL ret) {ρ : Type} {enc : ρ → Option Value} {pc : Nat} {lv : List (Option gV)} {st : List gV} {σ : gM} {o1 o2 : Option (ρ × gM)} {x : Int32} {off : Int} {tgt : Nat} (hd : decode cc pc = .ok (.ifCond .eq off, 3)) (ht : (pc : Int) + off = (tgt : Int)) (kt : gw X enc tgt lv st σ o1) (kf : gw X enc (pc + 3) lv st σ o2) : gw X enc pc lv (.inl x :: st) σ (if x = 0 then o1 else o2) := by
  obtain ⟨p, l, e, h', s, m, args, below, meth, c, E, nL'⟩ := X
  obtain ⟨rfl, rfl, hx, hb, hml, hown, hts, hN, hK, hE, hlk, hrt⟩ := C
  intro hst hlv r ho H locs ls hP hS hl
  exact lv_if_eq hx hb hd ht (fun q => kt (List.forall_mem_cons.mp hst).2 hlv r ((if_pos q).symm.trans ho) H locs ls hP hS hl) (fun q => kf (List.forall_mem_cons.mp hst).2 hlv r ((if_neg q).symm.trans ho) H locs ls hP hS hl)
theorem r_if_lt {X : gX} {own : String} {cc : ByteArray} {h nL : Nat} {ret : Option FieldType} (C : gC X own cc h nL ret) {ρ : Type} {enc : ρ → Option Value} {pc : Nat} {lv : List (Option gV)} {st : List gV} {σ : gM} {o1 o2 : Option (ρ × gM)} {x : Int32} {off : Int} {tgt : Nat} (hd : decode cc pc = .ok (.ifCond .lt off, 3)) (ht : (pc : Int) + off = (tgt : Int)) (kt : gw X enc tgt lv st σ o1) (kf : gw X enc (pc + 3) lv st σ o2) : gw X enc pc lv (.inl x :: st) σ (if x < 0 then o1 else o2) := by
  obtain ⟨p, l, e, h', s, m, args, below, meth, c, E, nL'⟩ := X
  obtain ⟨rfl, rfl, hx, hb, hml, hown, hts, hN, hK, hE, hlk, hrt⟩ := C
  intro hst hlv r ho H locs ls hP hS hl
  exact lv_if_lt hx hb hd ht (fun q => kt (List.forall_mem_cons.mp hst).2 hlv r ((if_pos q).symm.trans ho) H locs ls hP hS hl) (fun q => kf (List.forall_mem_cons.mp hst).2 hlv r ((if_neg q).symm.trans ho) H locs ls hP hS hl)
theorem r_if_ge {X : gX} {own : String} {cc : ByteArray} {h nL : Nat} {ret : Option FieldType} (C : gC X own cc h nL ret) {ρ : Type} {enc : ρ → Option Value} {pc : Nat} {lv : List (Option gV)} {st : List gV} {σ : gM} {o1 o2 : Option (ρ × gM)} {x : Int32} {off : Int} {tgt : Nat} (hd : decode cc pc = .ok (.ifCond .ge off, 3)) (ht : (pc : Int) + off = (tgt : Int)) (kt : gw X enc tgt lv st σ o1) (kf : gw X enc (pc + 3) lv st σ o2) : gw X enc pc lv (.inl x :: st) σ (if 0 ≤ x then o1 else o2) := by
  obtain ⟨p, l, e, h', s, m, args, below, meth, c, E, nL'⟩ := X
  obtain ⟨rfl, rfl, hx, hb, hml, hown, hts, hN, hK, hE, hlk, hrt⟩ := C
  intro hst hlv r ho H locs ls hP hS hl
  exact lv_if_ge hx hb hd ht (fun q => kt (List.forall_mem_cons.mp hst).2 hlv r ((if_pos q).symm.trans ho) H locs ls hP hS hl) (fun q => kf (List.forall_mem_cons.mp hst).2 hlv r ((if_neg q).symm.trans ho) H locs ls hP hS hl)
theorem r_if_gt {X : gX} {own : String} {cc : ByteArray} {h nL : Nat} {ret : Option FieldType} (C : gC X own cc h nL ret) {ρ : Type} {enc : ρ → Option Value} {pc : Nat} {lv : List (Option gV)} {st : List gV} {σ : gM} {o1 o2 : Option (ρ × gM)} {x : Int32} {off : Int} {tgt : Nat} (hd : decode cc pc = .ok (.ifCond .gt off, 3)) (ht : (pc : Int) + off = (tgt : Int)) (kt : gw X enc tgt lv st σ o1) (kf : gw X enc (pc + 3) lv st σ o2) : gw X enc pc lv (.inl x :: st) σ (if 0 < x then o1 else o2) := by
  obtain ⟨p, l, e, h', s, m, args, below, meth, c, E, nL'⟩ := X
  obtain ⟨rfl, rfl, hx, hb, hml, hown, hts, hN, hK, hE, hlk, hrt⟩ := C
  intro hst hlv r ho H locs ls hP hS hl
  exact lv_if_gt hx hb hd ht (fun q => kt (List.forall_mem_cons.mp hst).2 hlv r ((if_pos q).symm.trans ho) H locs ls hP hS hl) (fun q => kf (List.forall_mem_cons.mp hst).2 hlv r ((if_neg q).symm.trans ho) H locs ls hP hS hl)
theorem r_if_le {X : gX} {own : String} {cc : ByteArray} {h nL : Nat} {ret : Option FieldType} (C : gC X own cc h nL ret) {ρ : Type} {enc : ρ → Option Value} {pc : Nat} {lv : List (Option gV)} {st : List gV} {σ : gM} {o1 o2 : Option (ρ × gM)} {x : Int32} {off : Int} {tgt : Nat} (hd : decode cc pc = .ok (.ifCond .le off, 3)) (ht : (pc : Int) + off = (tgt : Int)) (kt : gw X enc tgt lv st σ o1) (kf : gw X enc (pc + 3) lv st σ o2) : gw X enc pc lv (.inl x :: st) σ (if x ≤ 0 then o1 else o2) := by
  obtain ⟨p, l, e, h', s, m, args, below, meth, c, E, nL'⟩ := X
  obtain ⟨rfl, rfl, hx, hb, hml, hown, hts, hN, hK, hE, hlk, hrt⟩ := C
  intro hst hlv r ho H locs ls hP hS hl
  exact lv_if_le hx hb hd ht (fun q => kt (List.forall_mem_cons.mp hst).2 hlv r ((if_pos q).symm.trans ho) H locs ls hP hS hl) (fun q => kf (List.forall_mem_cons.mp hst).2 hlv r ((if_neg q).symm.trans ho) H locs ls hP hS hl)
theorem r_icmp_eq {X : gX} {own : String} {cc : ByteArray} {h nL : Nat} {ret : Option FieldType} (C : gC X own cc h nL ret) {ρ : Type} {enc : ρ → Option Value} {pc : Nat} {lv : List (Option gV)} {st : List gV} {σ : gM} {o1 o2 : Option (ρ × gM)} {x y : Int32} {off : Int} {tgt : Nat} (hd : decode cc pc = .ok (.if_icmp .eq off, 3)) (ht : (pc : Int) + off = (tgt : Int)) (kt : gw X enc tgt lv st σ o1) (kf : gw X enc (pc + 3) lv st σ o2) : gw X enc pc lv (.inl y :: .inl x :: st) σ (if x = y then o1 else o2) := by
  obtain ⟨p, l, e, h', s, m, args, below, meth, c, E, nL'⟩ := X
  obtain ⟨rfl, rfl, hx, hb, hml, hown, hts, hN, hK, hE, hlk, hrt⟩ := C
  intro hst hlv r ho H locs ls hP hS hl
  have h2 := (List.forall_mem_cons.mp (List.forall_mem_cons.mp hst).2).2
  exact lv_icmp_eq hx hb hd ht (fun q => kt h2 hlv r ((if_pos q).symm.trans ho) H locs ls hP hS hl) (fun q => kf h2 hlv r ((if_neg q).symm.trans ho) H locs ls hP hS hl)
theorem r_icmp_lt {X : gX} {own : String} {cc : ByteArray} {h nL : Nat} {ret : Option FieldType} (C : gC X own cc h nL ret) {ρ : Type} {enc : ρ → Option Value} {pc : Nat} {lv : List (Option gV)} {st : List gV} {σ : gM} {o1 o2 : Option (ρ × gM)} {x y : Int32} {off : Int} {tgt : Nat} (hd : decode cc pc = .ok (.if_icmp .lt off, 3)) (ht : (pc : Int) + off = (tgt : Int)) (kt : gw X enc tgt lv st σ o1) (kf : gw X enc (pc + 3) lv st σ o2) : gw X enc pc lv (.inl y :: .inl x :: st) σ (if x < y then o1 else o2) := by
  obtain ⟨p, l, e, h', s, m, args, below, meth, c, E, nL'⟩ := X
  obtain ⟨rfl, rfl, hx, hb, hml, hown, hts, hN, hK, hE, hlk, hrt⟩ := C
  intro hst hlv r ho H locs ls hP hS hl
  have h2 := (List.forall_mem_cons.mp (List.forall_mem_cons.mp hst).2).2
  exact lv_icmp_lt hx hb hd ht (fun q => kt h2 hlv r ((if_pos q).symm.trans ho) H locs ls hP hS hl) (fun q => kf h2 hlv r ((if_neg q).symm.trans ho) H locs ls hP hS hl)
theorem r_icmp_ge {X : gX} {own : String} {cc : ByteArray} {h nL : Nat} {ret : Option FieldType} (C : gC X own cc h nL ret) {ρ : Type} {enc : ρ → Option Value} {pc : Nat} {lv : List (Option gV)} {st : List gV} {σ : gM} {o1 o2 : Option (ρ × gM)} {x y : Int32} {off : Int} {tgt : Nat} (hd : decode cc pc = .ok (.if_icmp .ge off, 3)) (ht : (pc : Int) + off = (tgt : Int)) (kt : gw X enc tgt lv st σ o1) (kf : gw X enc (pc + 3) lv st σ o2) : gw X enc pc lv (.inl y :: .inl x :: st) σ (if y ≤ x then o1 else o2) := by
  obtain ⟨p, l, e, h', s, m, args, below, meth, c, E, nL'⟩ := X
  obtain ⟨rfl, rfl, hx, hb, hml, hown, hts, hN, hK, hE, hlk, hrt⟩ := C
  intro hst hlv r ho H locs ls hP hS hl
  have h2 := (List.forall_mem_cons.mp (List.forall_mem_cons.mp hst).2).2
  exact lv_icmp_ge hx hb hd ht (fun q => kt h2 hlv r ((if_pos q).symm.trans ho) H locs ls hP hS hl) (fun q => kf h2 hlv r ((if_neg q).symm.trans ho) H locs ls hP hS hl)
theorem r_icmp_gt {X : gX} {own : String} {cc : ByteArray} {h nL : Nat} {ret : Option FieldType} (C : gC X own cc h nL ret) {ρ : Type} {enc : ρ → Option Value} {pc : Nat} {lv : List (Option gV)} {st : List gV} {σ : gM} {o1 o2 : Option (ρ × gM)} {x y : Int32} {off : Int} {tgt : Nat} (hd : decode cc pc = .ok (.if_icmp .gt off, 3)) (ht : (pc : Int) + off = (tgt : Int)) (kt : gw X enc tgt lv st σ o1) (kf : gw X enc (pc + 3) lv st σ o2) : gw X enc pc lv (.inl y :: .inl x :: st) σ (if y < x then o1 else o2) := by
  obtain ⟨p, l, e, h', s, m, args, below, meth, c, E, nL'⟩ := X
  obtain ⟨rfl, rfl, hx, hb, hml, hown, hts, hN, hK, hE, hlk, hrt⟩ := C
  intro hst hlv r ho H locs ls hP hS hl
  have h2 := (List.forall_mem_cons.mp (List.forall_mem_cons.mp hst).2).2
  exact lv_icmp_gt hx hb hd ht (fun q => kt h2 hlv r ((if_pos q).symm.trans ho) H locs ls hP hS hl) (fun q => kf h2 hlv r ((if_neg q).symm.trans ho) H locs ls hP hS hl)
theorem r_icmp_le {X : gX} {own : String} {cc : ByteArray} {h nL : Nat} {ret : Option FieldType} (C : gC X own cc h nL ret) {ρ : Type} {enc : ρ → Option Value} {pc : Nat} {lv : List (Option gV)} {st : List gV} {σ : gM} {o1 o2 : Option (ρ × gM)} {x y : Int32} {off : Int} {tgt : Nat} (hd : decode cc pc = .ok (.if_icmp .le off, 3)) (ht : (pc : Int) + off = (tgt : Int)) (kt : gw X enc tgt lv st σ o1) (kf : gw X enc (pc + 3) lv st σ o2) : gw X enc pc lv (.inl y :: .inl x :: st) σ (if x ≤ y then o1 else o2) := by
  obtain ⟨p, l, e, h', s, m, args, below, meth, c, E, nL'⟩ := X
  obtain ⟨rfl, rfl, hx, hb, hml, hown, hts, hN, hK, hE, hlk, hrt⟩ := C
  intro hst hlv r ho H locs ls hP hS hl
  have h2 := (List.forall_mem_cons.mp (List.forall_mem_cons.mp hst).2).2
  exact lv_icmp_le hx hb hd ht (fun q => kt h2 hlv r ((if_pos q).symm.trans ho) H locs ls hP hS hl) (fun q => kf h2 hlv r ((if_neg q).symm.trans ho) H locs ls hP hS hl)
theorem r_if_ne {X : gX} {own : String} {cc : ByteArray} {h nL : Nat} {ret : Option FieldType} (C : gC X own cc h nL ret) {ρ : Type} {enc : ρ → Option Value} {pc : Nat} {lv : List (Option gV)} {st : List gV} {σ : gM} {o1 o2 : Option (ρ × gM)} {x : Int32} {off : Int} {tgt : Nat} (hd : decode cc pc = .ok (.ifCond .ne off, 3)) (ht : (pc : Int) + off = (tgt : Int)) (kt : gw X enc tgt lv st σ o1) (kf : gw X enc (pc + 3) lv st σ o2) : gw X enc pc lv (.inl x :: st) σ (if x = 0 then o2 else o1) := by
  obtain ⟨p, l, e, h', s, m, args, below, meth, c, E, nL'⟩ := X
  obtain ⟨rfl, rfl, hx, hb, hml, hown, hts, hN, hK, hE, hlk, hrt⟩ := C
  intro hst hlv r ho H locs ls hP hS hl
  exact lv_if_ne hx hb hd ht (fun q => kt (List.forall_mem_cons.mp hst).2 hlv r ((if_neg q).symm.trans ho) H locs ls hP hS hl) (fun q => kf (List.forall_mem_cons.mp hst).2 hlv r ((if_pos q).symm.trans ho) H locs ls hP hS hl)
theorem r_icmp_ne {X : gX} {own : String} {cc : ByteArray} {h nL : Nat} {ret : Option FieldType} (C : gC X own cc h nL ret) {ρ : Type} {enc : ρ → Option Value} {pc : Nat} {lv : List (Option gV)} {st : List gV} {σ : gM} {o1 o2 : Option (ρ × gM)} {x y : Int32} {off : Int} {tgt : Nat} (hd : decode cc pc = .ok (.if_icmp .ne off, 3)) (ht : (pc : Int) + off = (tgt : Int)) (kt : gw X enc tgt lv st σ o1) (kf : gw X enc (pc + 3) lv st σ o2) : gw X enc pc lv (.inl y :: .inl x :: st) σ (if x = y then o2 else o1) := by
  obtain ⟨p, l, e, h', s, m, args, below, meth, c, E, nL'⟩ := X
  obtain ⟨rfl, rfl, hx, hb, hml, hown, hts, hN, hK, hE, hlk, hrt⟩ := C
  intro hst hlv r ho H locs ls hP hS hl
  have h2 := (List.forall_mem_cons.mp (List.forall_mem_cons.mp hst).2).2
  exact lv_icmp_ne hx hb hd ht (fun q => kt h2 hlv r ((if_neg q).symm.trans ho) H locs ls hP hS hl) (fun q => kf h2 hlv r ((if_pos q).symm.trans ho) H locs ls hP hS hl)
theorem r_ifeqB {X : gX} {own : String} {cc : ByteArray} {h nL : Nat} {ret : Option FieldType} (C : gC X own cc h nL ret) {ρ : Type} {enc : ρ → Option Value} {pc : Nat} {lv : List (Option gV)} {st : List gV} {σ : gM} {o1 o2 : Option (ρ × gM)} {x : Bool} {off : Int} {tgt : Nat} (hd : decode cc pc = .ok (.ifCond .eq off, 3)) (ht : (pc : Int) + off = (tgt : Int)) (kt : gw X enc tgt lv st σ o1) (kf : gw X enc (pc + 3) lv st σ o2) : gw X enc pc lv (.inl (bI x) :: st) σ (if x = true then o2 else o1) := by
  cases x
  · exact (show gw X enc pc lv (.inl (bI false) :: st) σ (if bI false = 0 then o1 else o2) from r_if_eq C hd ht kt kf)
  · exact (show gw X enc pc lv (.inl (bI true) :: st) σ (if bI true = 0 then o1 else o2) from r_if_eq C hd ht kt kf)
theorem r_ifneB {X : gX} {own : String} {cc : ByteArray} {h nL : Nat} {ret : Option FieldType} (C : gC X own cc h nL ret) {ρ : Type} {enc : ρ → Option Value} {pc : Nat} {lv : List (Option gV)} {st : List gV} {σ : gM} {o1 o2 : Option (ρ × gM)} {x : Bool} {off : Int} {tgt : Nat} (hd : decode cc pc = .ok (.ifCond .ne off, 3)) (ht : (pc : Int) + off = (tgt : Int)) (kt : gw X enc tgt lv st σ o1) (kf : gw X enc (pc + 3) lv st σ o2) : gw X enc pc lv (.inl (bI x) :: st) σ (if x = true then o1 else o2) := by
  cases x
  · exact (show gw X enc pc lv (.inl (bI false) :: st) σ (if bI false = 0 then o2 else o1) from r_if_ne C hd ht kt kf)
  · exact (show gw X enc pc lv (.inl (bI true) :: st) σ (if bI true = 0 then o2 else o1) from r_if_ne C hd ht kt kf)
theorem r_let {X : gX} {ρ : Type} {enc : ρ → Option Value} {pc : Nat} {lv : List (Option gV)} {st : List gV} {σ : gM} {x : Int32} {kk : Int32 → Option (ρ × gM)} (k : ∀ y : Int32, gw X enc pc lv (.inl y :: st) σ (kk y)) : gw X enc pc lv (.inl x :: st) σ (gLet x kk) := k x
theorem r_peel {X : gX} {ρ : Type} {enc : ρ → Option Value} {pc : Nat} {lv : List (Option gV)} {st : List gV} {σ : gM} {x v : Int32} {o1 o2 : Option (ρ × gM)} (k1 : gw X enc pc lv (.inl v :: st) σ o1) (k2 : ¬ x = v → gw X enc pc lv (.inl x :: st) σ o2) : gw X enc pc lv (.inl x :: st) σ (if x = v then o1 else o2) := by
  by_cases q : x = v
  · rw [if_pos q, q]; exact k1
  · rw [if_neg q]; exact k2 q
/-- locals that are forgotten -/
def gsub : List (Option gV) → List (Option gV) → Prop
  | [], _ => True
  | none :: a, [] => gsub a []
  | none :: a, _ :: b => gsub a b
  | some v :: a, some w :: b => v = w ∧ gsub a b
  | some _ :: _, _ => False
theorem gsub_at : ∀ (a b : List (Option gV)), gsub a b → ∀ (k : Nat) (v : gV), a[k]? = some (some v) → b[k]? = some (some v)
  | [], _, _, k, v, h => by simp at h
  | none :: a, [], hs, k, v, h => by
    cases k with
    | zero => simp at h
    | succ k => exact absurd (gsub_at a [] hs k v (by simpa using h)) (by simp)
  | none :: a, _ :: b, hs, k, v, h => by
    cases k with
    | zero => simp at h
    | succ k => simpa using gsub_at a b hs k v (by simpa using h)
  | some u :: a, some w :: b, hs, k, v, h => by
    cases k with
    | zero => simp at h ⊢; rw [← hs.1]; exact h
    | succ k => simpa using gsub_at a b hs.2 k v (by simpa using h)
  | some _ :: _, [], hs, _, _, _ => absurd hs id
  | some _ :: _, none :: _, hs, _, _, _ => absurd hs id
theorem r_weak {X : gX} {ρ : Type} {enc : ρ → Option Value} {pc : Nat} {lv lv' : List (Option gV)} {st : List gV} {σ : gM} {o : Option (ρ × gM)} (hs : gsub lv' lv) (k : gw X enc pc lv' st σ o) : gw X enc pc lv st σ o := by
  obtain ⟨p, l, e, h', s, m, args, below, meth, c, E, nL'⟩ := X
  intro hst hlv r ho H locs ls hP hS hl
  refine k hst (fun v hv => ?_) r ho H locs ls hP hS ⟨hl.1, hl.2.1, fun i v hv => hl.2.2 i v (gsub_at _ _ hs i v hv)⟩
  obtain ⟨i, hi⟩ := List.getElem?_of_mem hv
  exact hlv v (List.mem_of_getElem? (gsub_at _ _ hs i v hi))
/-- a field's link: of the class's own, or a nest mate's -/
def gFW (own : String) (idx t j : Nat) : Prop := t < 10 ∧ j < gnf t ∧ (gTn t j).1 = gRn t ∧ (Cond.fieldLink own idx (gRn t) (gTn t j).2.1 (gTn t j).2.2.1 ∈ gU ∨ ∃ host, Cond.fieldLinkNest own idx (gRn t) (gTn t j).2.1 (gTn t j).2.2.1 host ∈ gNL)
theorem gcell_obj {E : gE} {σ : gM} {t k : Nat} (ht : t < 10) : gcell E σ t k = .inr (t, (List.range (gnf t)).map (fun j => gv E (gfv σ t k j))) := by
  unfold gcell; rw [if_pos ht]
theorem gcell_int {E : gE} {σ : gM} {t k : Nat} (h1 : ¬ t < 10) (h2 : ¬ (t = 41 ∨ t = 42)) : gcell E σ t k = .inl (E.2.1 (gcls t), glen t, .inl (σ t k)) := by
  unfold gcell; rw [if_neg h1, if_neg h2]
theorem gcell_ref {E : gE} {σ : gM} {t k : Nat} (h1 : ¬ t < 10) (h2 : t = 41 ∨ t = 42) : gcell E σ t k = .inl (E.2.1 (gcls t), glen t, .inr (.inr (.inr (.inr (fun i => some (E.2.2.1 (garef t k i).1 (garef t k i).2)))))) := by
  unfold gcell; rw [if_neg h1, if_pos h2]
theorem gfs_at {E : gE} {σ : gM} {t k j : Nat} (hj : j < gnf t) : ((List.range (gnf t)).map (fun j => gv E (gfv σ t k j)))[j]? = some (gv E (gfv σ t k j)) := by
  simp [hj]
theorem r_get {X : gX} {own : String} {cc : ByteArray} {h nL : Nat} {ret : Option FieldType} (C : gC X own cc h nL ret) {ρ : Type} {enc : ρ → Option Value} {pc : Nat} {lv : List (Option gV)} {st : List gV} {σ : gM} {o : Option (ρ × gM)} {idx t k j : Nat} {v : gV} (hf : gFW own idx t j) (hd : decode cc pc = .ok (.getfield idx, 3)) (hv : gfv σ t k j = v) (kk : gw X enc (pc + 3) lv (v :: st) σ o) : gw X enc pc lv (.inr (t, k) :: st) σ o := by
  subst hv
  obtain ⟨p, l, e, h', s, m, args, below, meth, c, E, nL'⟩ := X
  obtain ⟨rfl, rfl, hx, hb, hml, hown, hts, hN, hK, hE, hlk, hrt⟩ := C
  intro hst hlv r ho H locs ls hP hS hl
  obtain ⟨ht, hj, hT, hlink⟩ := hf
  have hq : gin E (t, k) := (List.forall_mem_cons.mp hst).1
  obtain ⟨q0, h0⟩ := gpl_at hq
  have hw := gW_get (σ := σ) h0
  rw [gcell_obj ht] at hw
  have hvok : gok E (gfv σ t k j) := by
    unfold gfv
    cases hr : gref t j k with
    | none => trivial
    | some q => exact hE.2.1 t k j q ht hq hr
  have hgo := kk (List.forall_mem_cons.mpr ⟨hvok, (List.forall_mem_cons.mp hst).2⟩) hlv r ho H locs ls hP hS hl
  rcases hlink with hl1 | ⟨host, hl1⟩
  · exact va_get (D := E.1) (ci := t) (v := gv E (gfv σ t k j)) (C := gRn t) (T := gTn t) (N := gnf t) hx hb hts (gUin ht) hown hK hP q0 hw (gcl ht) j hj (hts _ hl1) (fun x hx => by rw [← hT]; exact hx) (gfs_at hj) hd hgo
  · exact va_getN (D := E.1) (ci := t) (v := gv E (gfv σ t k j)) (C := gRn t) (T := gTn t) (N := gnf t) hx hb hts (gUin ht) hown hK hP q0 hw (gcl ht) j hj (va_Nw.use rfl (hN _ hl1)) (fun x hx => by rw [← hT]; exact hx) (gfs_at hj) hd hgo
theorem gup_ne {σ : gM} {t k i t' k' : Nat} {v : Int32} (h : ¬ (t' = t ∧ k' = k)) : σ t' k' = gup σ t k i v t' k' := by
  funext j
  unfold gup
  rw [if_neg (fun q => h ⟨q.1, q.2.1⟩)]
theorem gup_row {σ : gM} {t k i : Nat} {v : Int32} : gup σ t k i v t k = upd (σ t k) i v := by
  funext j
  unfold gup upd
  by_cases hj : j = i
  · simp [hj]
  · simp [hj]
theorem gcell_put {E : gE} {σ : gM} {t k j : Nat} {x : Int32} (ht : t < 10) (hr : gref t j k = none) : (.inr (t, ((List.range (gnf t)).map (fun j => gv E (gfv σ t k j))).set j (.int x)) : va_E) = gcell E (gup σ t k j x) t k := by
  rw [gcell_obj ht]
  congr 2
  apply List.ext_getElem?
  intro i
  by_cases hi : i = j
  · subst hi
    by_cases hl : i < gnf t
    · rw [List.getElem?_set_self (by simpa using hl), gfs_at hl]
      simp [gfv, hr, gv, gup]
    · rw [List.getElem?_eq_none (by simp; omega), List.getElem?_eq_none (by simp; omega)]
  · rw [List.getElem?_set_ne (Ne.symm hi)]
    by_cases hl : i < gnf t
    · rw [gfs_at hl, gfs_at hl]
      congr 2
      unfold gfv gup
      cases gref t i k with
      | some q => rfl
      | none => simp [hi]
    · rw [List.getElem?_eq_none (by simp; omega), List.getElem?_eq_none (by simp; omega)]
def gSet {β : Type} (σ : gM) (t k j : Nat) (x : Int32) (kk : gM → β) : β := kk (gup σ t k j x)
theorem r_putG {X : gX} {own : String} {cc : ByteArray} {h nL : Nat} {ret : Option FieldType} (C : gC X own cc h nL ret) {ρ : Type} {enc : ρ → Option Value} {pc : Nat} {lv : List (Option gV)} {st : List gV} {σ : gM} {idx t k j : Nat} {x : Int32} {kk : gM → Option (ρ × gM)} (hf : gFW own idx t j) (hr : gref t j k = none) (hfin : (gTn t j).2.2.2 = false) (hn : narrow (gty t j) (.int x) = .int x) (hfit : fits (gty t j) (.int x) = true) (hd : decode cc pc = .ok (.putfield idx, 3)) (kk1 : ∀ σ1, gw X enc (pc + 3) lv st σ1 (kk σ1)) : gw X enc pc lv (.inl x :: .inr (t, k) :: st) σ (gSet σ t k j x kk) := by
  obtain ⟨p, l, e, h', s, m, args, below, meth, c, E, nL'⟩ := X
  obtain ⟨rfl, rfl, hx, hb, hml, hown, hts, hN, hK, hE, hlk, hrt⟩ := C
  intro hst hlv r ho H locs ls hP hS hl
  obtain ⟨ht, hj, hT, hlink⟩ := hf
  have hst2 := (List.forall_mem_cons.mp hst).2
  have hq : gin E (t, k) := (List.forall_mem_cons.mp hst2).1
  obtain ⟨q0, h0⟩ := gpl_at hq
  have hw := gW_get (σ := σ) h0
  rw [gcell_obj ht] at hw
  have hset : (gW E σ).set q0 (E.2.2.1 t k, .inr (t, ((List.range (gnf t)).map (fun j => gv E (gfv σ t k j))).set j (.int x))) = gW E (gup σ t k j x) := gW_set hE h0 (fun t' k' h => gup_ne h) (gcell_put ht hr)
  have hlen : j < ((List.range (gnf t)).map (fun j => gv E (gfv σ t k j))).length := by simpa using hj
  have hgo := fun (H1 : Heap) (locs1 : List Loc) (a : va_P E.1 vwCl ((gW E σ).set q0 (E.2.2.1 t k, .inr (t, ((List.range (gnf t)).map (fun j => gv E (gfv σ t k j))).set j (.int x)))) H1) (_ : va_D (gA E) ((gW E σ).set q0 (E.2.2.1 t k, .inr (t, ((List.range (gnf t)).map (fun j => gv E (gfv σ t k j))).set j (.int x))))) (b : va_S (gA E) s.heap H1 locs1) => kk1 (gup σ t k j x) (List.forall_mem_cons.mp hst2).2 hlv r ho H1 locs1 ls (hset ▸ a) b hl
  rcases hlink with hl1 | ⟨host, hl1⟩
  · exact va_put (D := E.1) (ci := t) (v := .int x) (C := gRn t) (T := gTn t) (N := gnf t) hx hb hts (gUin ht) (gty t) (gty_ok ht) (gnm_ok ht) hown hK hP (hE.1 σ) hS q0 hw (gcl ht) j hj (hts _ hl1) (fun x hx => by rw [← hT]; exact hx) hfin (gty_ok ht j hj) hn hfit hlen hd hgo
  · exact va_putN (D := E.1) (ci := t) (v := .int x) (C := gRn t) (T := gTn t) (N := gnf t) hx hb hts (gUin ht) (gty t) (gty_ok ht) (gnm_ok ht) hown hK hP (hE.1 σ) hS q0 hw (gcl ht) j hj (va_Nw.use rfl (hN _ hl1)) (fun x hx => by rw [← hT]; exact hx) hfin (gty_ok ht j hj) hn hfit hlen hd hgo
theorem r_put {X : gX} {own : String} {cc : ByteArray} {h nL : Nat} {ret : Option FieldType} (C : gC X own cc h nL ret) {ρ : Type} {enc : ρ → Option Value} {pc : Nat} {lv : List (Option gV)} {st : List gV} {σ : gM} {idx t k j : Nat} {x : Int32} {kk : gM → Option (ρ × gM)} (hf : gFW own idx t j) (hr : gref t j k = none) (hfin : (gTn t j).2.2.2 = false) (hty : gty t j = .int) (hd : decode cc pc = .ok (.putfield idx, 3)) (kk1 : ∀ σ1, gw X enc (pc + 3) lv st σ1 (kk σ1)) : gw X enc pc lv (.inl x :: .inr (t, k) :: st) σ (gSet σ t k j x kk) :=
  r_putG C hf hr hfin (by rw [hty]; rfl) (by rw [hty]; rfl) hd kk1
/-- arrays of numbers -/
def gAt {β : Type} (σ : gM) (t k : Nat) (i : Int32) (kk : Int32 → Option β) : Option β := if i < 0 ∨ glen t ≤ i.toNatClampNeg then none else kk (σ t k i.toNatClampNeg)
def gPut {β : Type} (σ : gM) (t k : Nat) (i x : Int32) (kk : gM → Option β) : Option β := if i < 0 ∨ glen t ≤ i.toNatClampNeg then none else kk (gup σ t k i.toNatClampNeg x)
def gAtR {β : Type} (t : Nat) (i : Int32) (kk : Nat → Option β) : Option β := if i < 0 ∨ glen t ≤ i.toNatClampNeg then none else kk i.toNatClampNeg
theorem gia_spec {t : Nat} (h : gia t = true) : ¬ t < 10 ∧ ¬ (t = 41 ∨ t = 42) ∧ gcls t = 0 := by
  unfold gia at h
  simp only [Bool.and_eq_true, decide_eq_true_eq, bne_iff_ne, ne_eq] at h
  refine ⟨by omega, by omega, ?_⟩
  unfold gcls
  rw [if_neg (by omega), if_neg (by omega), if_neg (by omega)]
theorem r_iald {X : gX} {own : String} {cc : ByteArray} {h nL : Nat} {ret : Option FieldType} (C : gC X own cc h nL ret) {ρ : Type} {enc : ρ → Option Value} {pc : Nat} {lv : List (Option gV)} {st : List gV} {σ : gM} {t k : Nat} {i : Int32} {kk : Int32 → Option (ρ × gM)} (ht : gia t = true) (hd : decode cc pc = .ok (.iaload, 1)) (k1 : ∀ x : Int32, gw X enc (pc + 1) lv (.inl x :: st) σ (kk x)) : gw X enc pc lv (.inl i :: .inr (t, k) :: st) σ (gAt σ t k i kk) := by
  obtain ⟨t1, t2, t3⟩ := gia_spec ht
  obtain ⟨p, l, e, h', s, m, args, below, meth, c, E, nL'⟩ := X
  obtain ⟨rfl, rfl, hx, hb, hml, hown, hts, hN, hK, hE, hlk, hrt⟩ := C
  intro hst hlv r ho H locs ls hP hS hl
  have hst2 := (List.forall_mem_cons.mp hst).2
  obtain ⟨q0, h0⟩ := gpl_at (List.forall_mem_cons.mp hst2).1
  have hw := gW_get (σ := σ) h0
  rw [gcell_int t1 t2, t3] at hw
  unfold gAt at ho
  by_cases hin : i < 0 ∨ glen t ≤ i.toNatClampNeg
  · rw [if_pos hin] at ho; cases ho
  · rw [if_neg hin] at ho
    exact va_iald hx hb hK hP q0 0 hw rfl hin hd (k1 _ (List.forall_mem_cons.mpr ⟨trivial, (List.forall_mem_cons.mp hst2).2⟩) hlv r ho H locs ls hP hS hl)
theorem r_zald {X : gX} {own : String} {cc : ByteArray} {h nL : Nat} {ret : Option FieldType} (C : gC X own cc h nL ret) {ρ : Type} {enc : ρ → Option Value} {pc : Nat} {lv : List (Option gV)} {st : List gV} {σ : gM} {k : Nat} {i : Int32} {kk : Int32 → Option (ρ × gM)} (hd : decode cc pc = .ok (.baload, 1)) (k1 : ∀ x : Int32, gw X enc (pc + 1) lv (.inl x :: st) σ (kk x)) : gw X enc pc lv (.inl i :: .inr (54, k) :: st) σ (gAt σ 54 k i kk) := by
  obtain ⟨p, l, e, h', s, m, args, below, meth, c, E, nL'⟩ := X
  obtain ⟨rfl, rfl, hx, hb, hml, hown, hts, hN, hK, hE, hlk, hrt⟩ := C
  intro hst hlv r ho H locs ls hP hS hl
  have hst2 := (List.forall_mem_cons.mp hst).2
  obtain ⟨q0, h0⟩ := gpl_at (List.forall_mem_cons.mp hst2).1
  have hw : (gW E σ)[q0]? = some (E.2.2.1 54 k, gcell E σ 54 k) := gW_get (σ := σ) h0
  rw [gcell_int (by decide) (by decide)] at hw
  unfold gAt at ho
  by_cases hin : i < 0 ∨ glen 54 ≤ i.toNatClampNeg
  · rw [if_pos hin] at ho; cases ho
  · rw [if_neg hin] at ho
    exact va_zald hx hb hK hP q0 1 hw rfl hin hd (k1 _ (List.forall_mem_cons.mpr ⟨trivial, (List.forall_mem_cons.mp hst2).2⟩) hlv r ho H locs ls hP hS hl)
theorem gcell_iput {E : gE} {σ : gM} {t k i : Nat} {x : Int32} (t1 : ¬ t < 10) (t2 : ¬ (t = 41 ∨ t = 42)) : (.inl (E.2.1 (gcls t), glen t, .inl (upd (σ t k) i x)) : va_E) = gcell E (gup σ t k i x) t k := by
  rw [gcell_int t1 t2, gup_row]
theorem r_iast {X : gX} {own : String} {cc : ByteArray} {h nL : Nat} {ret : Option FieldType} (C : gC X own cc h nL ret) {ρ : Type} {enc : ρ → Option Value} {pc : Nat} {lv : List (Option gV)} {st : List gV} {σ : gM} {t k : Nat} {i x : Int32} {kk : gM → Option (ρ × gM)} (ht : gia t = true) (hd : decode cc pc = .ok (.iastore, 1)) (k1 : ∀ σ1, gw X enc (pc + 1) lv st σ1 (kk σ1)) : gw X enc pc lv (.inl x :: .inl i :: .inr (t, k) :: st) σ (gPut σ t k i x kk) := by
  obtain ⟨t1, t2, t3⟩ := gia_spec ht
  obtain ⟨p, l, e, h', s, m, args, below, meth, c, E, nL'⟩ := X
  obtain ⟨rfl, rfl, hx, hb, hml, hown, hts, hN, hK, hE, hlk, hrt⟩ := C
  intro hst hlv r ho H locs ls hP hS hl
  have hst2 := (List.forall_mem_cons.mp (List.forall_mem_cons.mp hst).2).2
  obtain ⟨q0, h0⟩ := gpl_at (List.forall_mem_cons.mp hst2).1
  have hw := gW_get (σ := σ) h0
  rw [gcell_int t1 t2] at hw
  unfold gPut at ho
  by_cases hin : i < 0 ∨ glen t ≤ i.toNatClampNeg
  · rw [if_pos hin] at ho; cases ho
  · rw [if_neg hin] at ho
    have hset : (gW E σ).set q0 (E.2.2.1 t k, .inl (E.2.1 (gcls t), glen t, .inl (upd (σ t k) i.toNatClampNeg x))) = gW E (gup σ t k i.toNatClampNeg x) := gW_set hE h0 (fun t' k' h => gup_ne h) (gcell_iput t1 t2)
    exact va_iast hx hb hK hP (hE.1 σ) hS q0 0 hw (by rw [t3]; rfl) hin hd (fun H1 locs1 a _ b => k1 _ (List.forall_mem_cons.mp hst2).2 hlv r ho H1 locs1 ls (hset ▸ a) b hl)
theorem r_zast {X : gX} {own : String} {cc : ByteArray} {h nL : Nat} {ret : Option FieldType} (C : gC X own cc h nL ret) {ρ : Type} {enc : ρ → Option Value} {pc : Nat} {lv : List (Option gV)} {st : List gV} {σ : gM} {k : Nat} {i x : Int32} {kk : gM → Option (ρ × gM)} (hz : vp_nar .boolean x = x) (hd : decode cc pc = .ok (.bastore, 1)) (k1 : ∀ σ1, gw X enc (pc + 1) lv st σ1 (kk σ1)) : gw X enc pc lv (.inl x :: .inl i :: .inr (54, k) :: st) σ (gPut σ 54 k i x kk) := by
  obtain ⟨p, l, e, h', s, m, args, below, meth, c, E, nL'⟩ := X
  obtain ⟨rfl, rfl, hx, hb, hml, hown, hts, hN, hK, hE, hlk, hrt⟩ := C
  intro hst hlv r ho H locs ls hP hS hl
  have hst2 := (List.forall_mem_cons.mp (List.forall_mem_cons.mp hst).2).2
  obtain ⟨q0, h0⟩ := gpl_at (List.forall_mem_cons.mp hst2).1
  have hw : (gW E σ)[q0]? = some (E.2.2.1 54 k, gcell E σ 54 k) := gW_get (σ := σ) h0
  rw [gcell_int (by decide) (by decide)] at hw
  unfold gPut at ho
  by_cases hin : i < 0 ∨ glen 54 ≤ i.toNatClampNeg
  · rw [if_pos hin] at ho; cases ho
  · rw [if_neg hin] at ho
    have hset : (gW E σ).set q0 (E.2.2.1 54 k, .inl (E.2.1 (gcls 54), glen 54, .inl (upd (σ 54 k) i.toNatClampNeg (vp_nar .boolean x)))) = gW E (gup σ 54 k i.toNatClampNeg x) := gW_set hE h0 (fun t' k' h => gup_ne h) (by rw [hz]; exact gcell_iput (by decide) (by decide))
    exact va_zast hx hb hK hP (hE.1 σ) hS q0 1 hw rfl hin hd (fun H1 locs1 a _ b => k1 _ (List.forall_mem_cons.mp hst2).2 hlv r ho H1 locs1 ls (hset ▸ a) b hl)
theorem r_aald {X : gX} {own : String} {cc : ByteArray} {h nL : Nat} {ret : Option FieldType} (C : gC X own cc h nL ret) {ρ : Type} {enc : ρ → Option Value} {pc : Nat} {lv : List (Option gV)} {st : List gV} {σ : gM} {t k : Nat} {i : Int32} {kk : Nat → Option (ρ × gM)} {q : Nat → Nat × Nat} (ht : t = 41 ∨ t = 42) (hq : ∀ j, garef t k j = q j) (hd : decode cc pc = .ok (.aaload, 1)) (k1 : ∀ j : Nat, gw X enc (pc + 1) lv (.inr (q j) :: st) σ (kk j)) : gw X enc pc lv (.inl i :: .inr (t, k) :: st) σ (gAtR t i kk) := by
  obtain ⟨p, l, e, h', s, m, args, below, meth, c, E, nL'⟩ := X
  obtain ⟨rfl, rfl, hx, hb, hml, hown, hts, hN, hK, hE, hlk, hrt⟩ := C
  intro hst hlv r ho H locs ls hP hS hl
  have hst2 := (List.forall_mem_cons.mp hst).2
  have hg := (List.forall_mem_cons.mp hst2).1
  obtain ⟨q0, h0⟩ := gpl_at hg
  have hw := gW_get (σ := σ) h0
  rw [gcell_ref (by omega) ht] at hw
  unfold gAtR at ho
  by_cases hin : i < 0 ∨ glen t ≤ i.toNatClampNeg
  · rw [if_pos hin] at ho; cases ho
  · rw [if_neg hin] at ho
    have hlt : i.toNatClampNeg < glen t := Nat.not_le.mp fun z => hin (Or.inr z)
    have hok : gin E (q i.toNatClampNeg) := by
      rw [← hq]
      rcases ht with rfl | rfl
      · exact hE.2.2.1 k _ hg hlt
      · exact hE.2.2.2 k _ hg hlt
    have hgo := k1 i.toNatClampNeg (List.forall_mem_cons.mpr ⟨hok, (List.forall_mem_cons.mp hst2).2⟩) hlv r ho H locs ls hP hS hl
    rw [← hq] at hgo
    rcases ht with rfl | rfl
    · exact va_aldq hx hb hK hP q0 2 hw rfl hin hd hgo
    · exact va_aldq hx hb hK hP q0 3 hw rfl hin hd hgo
theorem gtys_at {E : gE} {t : Nat} : ∃ (t0 : Nat) (ty : FieldType), (gtys E)[t0]? = some (E.2.1 (gcls t), ty) := by
  unfold gcls
  by_cases h1 : t = 54
  · rw [if_pos h1]; exact ⟨1, _, rfl⟩
  · rw [if_neg h1]
    by_cases h2 : t = 41
    · rw [if_pos h2]; exact ⟨2, _, rfl⟩
    · rw [if_neg h2]
      by_cases h3 : t = 42
      · rw [if_pos h3]; exact ⟨3, _, rfl⟩
      · rw [if_neg h3]; exact ⟨0, _, rfl⟩
theorem r_alen {X : gX} {own : String} {cc : ByteArray} {h nL : Nat} {ret : Option FieldType} (C : gC X own cc h nL ret) {ρ : Type} {enc : ρ → Option Value} {pc : Nat} {lv : List (Option gV)} {st : List gV} {σ : gM} {o : Option (ρ × gM)} {t k : Nat} {v : Int32} (ht : ¬ t < 10) (hv : Int32.ofNat (glen t) = v) (hd : decode cc pc = .ok (.arraylength, 1)) (k1 : gw X enc (pc + 1) lv (.inl v :: st) σ o) : gw X enc pc lv (.inr (t, k) :: st) σ o := by
  obtain ⟨p, l, e, h', s, m, args, below, meth, c, E, nL'⟩ := X
  obtain ⟨rfl, rfl, hx, hb, hml, hown, hts, hN, hK, hE, hlk, hrt⟩ := C
  intro hst hlv r ho H locs ls hP hS hl
  obtain ⟨q0, h0⟩ := gpl_at (List.forall_mem_cons.mp hst).1
  have hw := gW_get (σ := σ) h0
  obtain ⟨t0, ty, hty⟩ := gtys_at (E := E) (t := t)
  have hgo := k1 (List.forall_mem_cons.mpr ⟨trivial, (List.forall_mem_cons.mp hst).2⟩) hlv r ho H locs ls hP hS hl
  by_cases h2 : t = 41 ∨ t = 42
  · rw [gcell_ref ht h2] at hw
    exact va_alen hx hb hK hP q0 t0 hw hty hv hd hgo
  · rw [gcell_int ht h2] at hw
    exact va_alen hx hb hK hP q0 t0 hw hty hv hd hgo
def gCopy {β : Type} (σ : gM) (t0 k0 t1 k1 : Nat) (sp dp n : Int32) (kk : gM → Option β) : Option β := if (sp < 0 ∨ dp < 0 ∨ n < 0) ∨ (glen t0 < sp.toNatClampNeg + n.toNatClampNeg ∨ glen t1 < dp.toNatClampNeg + n.toNatClampNeg) then none else kk (gcp σ t0 k0 t1 k1 sp.toNatClampNeg dp.toNatClampNeg n.toNatClampNeg)
theorem gst_cat (E : gE) (st : List gV) : ((st.map (gv E)).map fun v => v.category).sum = st.length := by
  induction st with
  | nil => rfl
  | cons a r ih => simp only [List.map_cons, List.sum_cons, ih, gv_cat, List.length_cons]; omega
theorem r_copy {X : gX} {own : String} {cc : ByteArray} {h nL : Nat} {ret : Option FieldType} (C : gC X own cc h nL ret) {ρ : Type} {enc : ρ → Option Value} {pc : Nat} {lv : List (Option gV)} {st : List gV} {σ : gM} {idx t0 k0 t1 k1 : Nat} {sp dp n : Int32} {kk : gM → Option (ρ × gM)} (ht0 : gia t0 = true) (ht1 : gia t1 = true) (hw : Cond.methodLink own idx arraycopyName ∈ gU ∧ Cond.native arraycopyName ∈ gU ∧ Cond.static arraycopyName ∈ gU ∧ Cond.initialized "java/lang/System" ∈ gU) (hh : 1 ≤ h) (hroom : st.length + (nativeFrameWords "java/lang/System" "arraycopy" 5 + 11) ≤ 36) (hd : decode cc pc = .ok (.invokestatic idx, 3)) (kk1 : ∀ σ1, gw X enc (pc + 3) lv st σ1 (kk σ1)) : gw X enc pc lv (.inl n :: .inl dp :: .inr (t1, k1) :: .inl sp :: .inr (t0, k0) :: st) σ (gCopy σ t0 k0 t1 k1 sp dp n kk) := by
  obtain ⟨a1, a2, a3⟩ := gia_spec ht0
  obtain ⟨b1, b2, b3⟩ := gia_spec ht1
  obtain ⟨p, l, e, h', s, m, args, below, meth, c, E, nL'⟩ := X
  obtain ⟨rfl, rfl, hx, hb, hml, hown, hts, hN, hK, hE, hlk, hrt⟩ := C
  intro hst hlv r ho H locs ls hP hS hl
  have s1 := (List.forall_mem_cons.mp (List.forall_mem_cons.mp hst).2).2
  have s2 := (List.forall_mem_cons.mp (List.forall_mem_cons.mp s1).2).2
  obtain ⟨p0, h0⟩ := gpl_at (List.forall_mem_cons.mp s2).1
  obtain ⟨p1, h1⟩ := gpl_at (List.forall_mem_cons.mp s1).1
  have w0 := gW_get (σ := σ) h0
  have w1 := gW_get (σ := σ) h1
  rw [gcell_int a1 a2, a3] at w0
  rw [gcell_int b1 b2] at w1
  unfold gCopy at ho
  by_cases hin : (sp < 0 ∨ dp < 0 ∨ n < 0) ∨ (glen t0 < sp.toNatClampNeg + n.toNatClampNeg ∨ glen t1 < dp.toNatClampNeg + n.toNatClampNeg)
  · rw [if_pos hin] at ho; cases ho
  · rw [if_neg hin] at ho
    have e1 : ¬ sp < 0 := fun z => hin (Or.inl (Or.inl z))
    have e2 : ¬ dp < 0 := fun z => hin (Or.inl (Or.inr (Or.inl z)))
    have e3 : ¬ n < 0 := fun z => hin (Or.inl (Or.inr (Or.inr z)))
    have e4 : sp.toNatClampNeg + n.toNatClampNeg ≤ glen t0 := Nat.not_lt.mp fun z => hin (Or.inr (Or.inl z))
    have e5 : dp.toNatClampNeg + n.toNatClampNeg ≤ glen t1 := Nat.not_lt.mp fun z => hin (Or.inr (Or.inr z))
    have hset : (gW E σ).set p1 (E.2.2.1 t1 k1, .inl (E.2.1 (gcls t1), glen t1, .inl (va_cpy (σ t0 k0) (σ t1 k1) sp.toNatClampNeg dp.toNatClampNeg n.toNatClampNeg))) = gW E (gcp σ t0 k0 t1 k1 sp.toNatClampNeg dp.toNatClampNeg n.toNatClampNeg) := by
      refine gW_set hE h1 (fun t' k' hne => ?_) ?_
      · unfold gcp; rw [if_neg hne]
      · rw [gcell_int b1 b2]
        unfold gcp
        rw [if_pos ⟨rfl, rfl⟩]
    refine va_copyi hx hb (hml.trans hl.1.symm) hown (hts _ hw.1) (hts _ hw.2.1) (hts _ hw.2.2.1) (hts _ hw.2.2.2) hK hP (hE.1 σ) hS p0 p1 0 0 w0 w1 rfl (by rw [b3]; rfl) rfl e1 e2 e3 e4 e5 (fun i _ => rfl) hh ?_ hd (fun H1 locs1 a _ b => kk1 _ (List.forall_mem_cons.mp s2).2 hlv r ho H1 locs1 ls (hset ▸ a) b hl)
    rw [gst_cat]
    show _ ≤ 36 * h'
    omega
theorem r_mmax {X : gX} {own : String} {cc : ByteArray} {h nL : Nat} {ret : Option FieldType} (C : gC X own cc h nL ret) {ρ : Type} {enc : ρ → Option Value} {pc : Nat} {lv : List (Option gV)} {st : List gV} {σ : gM} {o : Option (ρ × gM)} {idx : Nat} {x y : Int32} (hw : Cond.methodLink own idx Lib.Math.max.name ∈ gU ∧ Cond.static Lib.Math.max.name ∈ gU ∧ Cond.initialized "java/lang/Math" ∈ gU ∧ Cond.code Lib.Math.max.name Lib.Math.max.code 2 (some .int) ∈ gU) (hh : 1 ≤ h) (hroom : st.length ≤ 23) (hd : decode cc pc = .ok (.invokestatic idx, 3)) (k1 : gw X enc (pc + 3) lv (.inl (gMax x y) :: st) σ o) : gw X enc pc lv (.inl y :: .inl x :: st) σ o := by
  obtain ⟨p, l, e, h', s, m, args, below, meth, c, E, nL'⟩ := X
  obtain ⟨rfl, rfl, hx, hb, hml, hown, hts, hN, hK, hE, hlk, hrt⟩ := C
  intro hst hlv r ho H locs ls hP hS hl
  refine va_mmax hx hb (hml.trans hl.1.symm) hown (hts _ hw.1) (hts _ hw.2.1) (hts _ hw.2.2.1) (hts _ hw.2.2.2) hh ?_ (Nat.zero_le _) (Nat.zero_le _) hd (k1 (List.forall_mem_cons.mpr ⟨trivial, (List.forall_mem_cons.mp (List.forall_mem_cons.mp hst).2).2⟩) hlv r ho H locs ls hP hS hl)
  rw [gst_cat]
  show _ ≤ 36 * h'
  omega
theorem r_mmin {X : gX} {own : String} {cc : ByteArray} {h nL : Nat} {ret : Option FieldType} (C : gC X own cc h nL ret) {ρ : Type} {enc : ρ → Option Value} {pc : Nat} {lv : List (Option gV)} {st : List gV} {σ : gM} {o : Option (ρ × gM)} {idx : Nat} {x y : Int32} (hw : Cond.methodLink own idx Lib.Math.min.name ∈ gU ∧ Cond.static Lib.Math.min.name ∈ gU ∧ Cond.initialized "java/lang/Math" ∈ gU ∧ Cond.code Lib.Math.min.name Lib.Math.min.code 2 (some .int) ∈ gU) (hh : 1 ≤ h) (hroom : st.length ≤ 23) (hd : decode cc pc = .ok (.invokestatic idx, 3)) (k1 : gw X enc (pc + 3) lv (.inl (gMin x y) :: st) σ o) : gw X enc pc lv (.inl y :: .inl x :: st) σ o := by
  obtain ⟨p, l, e, h', s, m, args, below, meth, c, E, nL'⟩ := X
  obtain ⟨rfl, rfl, hx, hb, hml, hown, hts, hN, hK, hE, hlk, hrt⟩ := C
  intro hst hlv r ho H locs ls hP hS hl
  refine va_mmin hx hb (hml.trans hl.1.symm) hown (hts _ hw.1) (hts _ hw.2.1) (hts _ hw.2.2.1) (hts _ hw.2.2.2) hh ?_ (Nat.zero_le _) (Nat.zero_le _) hd (k1 (List.forall_mem_cons.mpr ⟨trivial, (List.forall_mem_cons.mp (List.forall_mem_cons.mp hst).2).2⟩) hlv r ho H locs ls hP hS hl)
  rw [gst_cat]
  show _ ≤ 36 * h'
  omega
/-- ends -/
def gRetZ (v : Int32) (σ : gM) : Option (Bool × gM) := if v = 0 then some (false, σ) else if v = 1 then some (true, σ) else none
theorem r_ireturn {X : gX} {own : String} {cc : ByteArray} {h nL : Nat} (C : gC X own cc h nL (some .int)) {pc : Nat} {lv : List (Option gV)} {σ : gM} {v : Int32} (hd : decode cc pc = .ok (.ireturn, 1)) : gw X eI pc lv [.inl v] σ (some (v, σ)) := by
  obtain ⟨p, l, e, h', s, m, args, below, meth, c, E, nL'⟩ := X
  obtain ⟨rfl, rfl, hx, hb, hml, hown, hts, hN, hK, hE, hlk, hrt⟩ := C
  intro hst hlv r ho H locs ls hP hS hl
  cases ho
  exact W.iret (v := v) hx hb hrt (fun t ht hW => ⟨rfl, by rw [ht]; exact hP, va_K.moved hW.alike hK, hS.F ht⟩) hS.2.2 hd hlk
theorem r_zretB {X : gX} {own : String} {cc : ByteArray} {h nL : Nat} (C : gC X own cc h nL (some .boolean)) {pc : Nat} {lv : List (Option gV)} {σ : gM} {b : Bool} (hd : decode cc pc = .ok (.ireturn, 1)) : gw X eB pc lv [.inl (bI b)] σ (some (b, σ)) := by
  obtain ⟨p, l, e, h', s, m, args, below, meth, c, E, nL'⟩ := X
  obtain ⟨rfl, rfl, hx, hb, hml, hown, hts, hN, hK, hE, hlk, hrt⟩ := C
  intro hst hlv r ho H locs ls hP hS hl
  cases ho
  exact W.zret (v := bI b) hx hb hrt (by cases b <;> rfl) (fun t ht hW => ⟨rfl, by rw [ht]; exact hP, va_K.moved hW.alike hK, hS.F ht⟩) hS.2.2 hd hlk
theorem r_zret0 {X : gX} {own : String} {cc : ByteArray} {h nL : Nat} (C : gC X own cc h nL (some .boolean)) {pc : Nat} {lv : List (Option gV)} {σ : gM} (hd : decode cc pc = .ok (.ireturn, 1)) : gw X eB pc lv [.inl 0] σ (some (false, σ)) := by
  have k := r_zretB (b := false) (lv := lv) (σ := σ) C hd
  exact k
theorem r_zret1 {X : gX} {own : String} {cc : ByteArray} {h nL : Nat} (C : gC X own cc h nL (some .boolean)) {pc : Nat} {lv : List (Option gV)} {σ : gM} (hd : decode cc pc = .ok (.ireturn, 1)) : gw X eB pc lv [.inl 1] σ (some (true, σ)) := by
  have k := r_zretB (b := true) (lv := lv) (σ := σ) C hd
  exact k
theorem r_zret {X : gX} {own : String} {cc : ByteArray} {h nL : Nat} (C : gC X own cc h nL (some .boolean)) {pc : Nat} {lv : List (Option gV)} {σ : gM} {v : Int32} (hd : decode cc pc = .ok (.ireturn, 1)) : gw X eB pc lv [.inl v] σ (gRetZ v σ) := by
  unfold gRetZ
  by_cases h0 : v = 0
  · rw [if_pos h0, h0]; exact r_zret0 C hd
  · rw [if_neg h0]
    by_cases h1 : v = 1
    · rw [if_pos h1, h1]; exact r_zret1 C hd
    · rw [if_neg h1]; exact gw_none
theorem r_return {X : gX} {own : String} {cc : ByteArray} {h nL : Nat} (C : gC X own cc h nL none) {pc : Nat} {lv : List (Option gV)} {σ : gM} (hd : decode cc pc = .ok (.return_, 1)) : gw X eU pc lv [] σ (some ((), σ)) := by
  obtain ⟨p, l, e, h', s, m, args, below, meth, c, E, nL'⟩ := X
  obtain ⟨rfl, rfl, hx, hb, hml, hown, hts, hN, hK, hE, hlk, hrt⟩ := C
  intro hst hlv r ho H locs ls hP hS hl
  cases ho
  exact W.vret hx hb hrt (fun t ht hW => ⟨rfl, by rw [ht]; exact hP, va_K.moved hW.alike hK, hS.F ht⟩) hS.2.2 hd hlk
/-- switches -/
theorem r_tsw {X : gX} {own : String} {cc : ByteArray} {h nL : Nat} {ret : Option FieldType} (C : gC X own cc h nL ret) {ρ : Type} {enc : ρ → Option Value} {pc : Nat} {lv : List (Option gV)} {st : List gV} {σ : gM} {o : Option (ρ × gM)} {dflt lo hi : Int} {offs : Array Int} {len : Nat} {x : Int32} {off : Int} {tgt : Nat} (hd : decode cc pc = .ok (.tableswitch dflt lo hi offs, len)) (h1 : ¬ x.toInt < lo) (h2 : ¬ hi < x.toInt) (hoff : offs[(x.toInt - lo).toNat]? = some off) (ht : (pc : Int) + off = (tgt : Int)) (k1 : gw X enc tgt lv st σ o) : gw X enc pc lv (.inl x :: st) σ o := by
  obtain ⟨p, l, e, h', s, m, args, below, meth, c, E, nL'⟩ := X
  obtain ⟨rfl, rfl, hx, hb, hml, hown, hts, hN, hK, hE, hlk, hrt⟩ := C
  intro hst hlv r ho H locs ls hP hS hl
  exact lv_tableIn hx hb hd h1 h2 hoff ht (k1 (List.forall_mem_cons.mp hst).2 hlv r ho H locs ls hP hS hl)
theorem r_tswO {X : gX} {own : String} {cc : ByteArray} {h nL : Nat} {ret : Option FieldType} (C : gC X own cc h nL ret) {ρ : Type} {enc : ρ → Option Value} {pc : Nat} {lv : List (Option gV)} {st : List gV} {σ : gM} {o : Option (ρ × gM)} {dflt lo hi : Int} {offs : Array Int} {len : Nat} {x : Int32} {tgt : Nat} (hd : decode cc pc = .ok (.tableswitch dflt lo hi offs, len)) (hh : x.toInt < lo ∨ hi < x.toInt) (ht : (pc : Int) + dflt = (tgt : Int)) (k1 : gw X enc tgt lv st σ o) : gw X enc pc lv (.inl x :: st) σ o := by
  obtain ⟨p, l, e, h', s, m, args, below, meth, c, E, nL'⟩ := X
  obtain ⟨rfl, rfl, hx, hb, hml, hown, hts, hN, hK, hE, hlk, hrt⟩ := C
  intro hst hlv r ho H locs ls hP hS hl
  exact lv_tableOut hx hb hd hh ht (k1 (List.forall_mem_cons.mp hst).2 hlv r ho H locs ls hP hS hl)
theorem r_lsw {X : gX} {own : String} {cc : ByteArray} {h nL : Nat} {ret : Option FieldType} (C : gC X own cc h nL ret) {ρ : Type} {enc : ρ → Option Value} {pc : Nat} {lv : List (Option gV)} {st : List gV} {σ : gM} {o : Option (ρ × gM)} {dflt : Int} {ps : Array (Int × Int)} {len : Nat} {x : Int32} {off : Int} {tgt : Nat} (hd : decode cc pc = .ok (.lookupswitch dflt ps, len)) (hp : (ps.toList.zip (ps.toList.drop 1)).all (fun (a, next) => a.1 < next.1) = true) (hoff : Op.lookupswitch.offset ps.toList dflt x.toInt = off) (ht : (pc : Int) + off = (tgt : Int)) (k1 : gw X enc tgt lv st σ o) : gw X enc pc lv (.inl x :: st) σ o := by
  obtain ⟨p, l, e, h', s, m, args, below, meth, c, E, nL'⟩ := X
  obtain ⟨rfl, rfl, hx, hb, hml, hown, hts, hN, hK, hE, hlk, hrt⟩ := C
  intro hst hlv r ho H locs ls hP hS hl
  exact lv_lookup hx hb hd hp hoff ht (k1 (List.forall_mem_cons.mp hst).2 hlv r ho H locs ls hP hS hl)
/-- a method's contract: o foretells its answer and its world -/
def gCon {ρ : Type} (enc : ρ → Option Value) (y : MethodName) (cc : ByteArray) (nL : Nat) (ret : Option FieldType) (h : Nat) (as : List gV) (σ : gM) (o : Option (ρ × gM)) : Prop :=
  ∀ (l : Launch) (E : gE), gEok E → (∀ v ∈ as, gok E v) → ∀ r, o = some r → Met l y (Cond.code y cc nL ret :: gU) (grm h) (fun v U => v = (as.map (gv E)).toArray ∧ va_P E.1 vwCl (gW E σ) U.heap ∧ va_K E.1 vwCl (gtys E) U ∧ gNW U) (gQc E (enc r.1) r.2) 0 0 (gA E)
theorem lg_sl_map (E : gE) (as : List gV) : (lg_sl (as.map (gv E))).length = as.length := by
  induction as with
  | nil => rfl
  | cons a r ih =>
    have hc : ¬ (gv E a).category = 2 := by rw [gv_cat]; decide
    unfold lg_sl at ih ⊢
    simp only [List.map_cons, List.flatMap_cons, if_neg hc, List.length_append, List.length_cons, List.length_nil, ih]
    omega
theorem lv_args_map (E : gE) : ∀ (as : List gV) (i k : Nat) (v : gV), as[k]? = some v → (i + k, gv E v) ∈ lv_args i (as.map (gv E)) := by
  intro as
  induction as with
  | nil => intro i k v h; simp at h
  | cons a r ih =>
    intro i k v h
    have hc : ¬ (gv E a).category = 2 := by rw [gv_cat]; decide
    simp only [List.map_cons, lv_args, if_neg hc]
    cases k with
    | zero => simp at h; rw [h]; exact List.mem_cons_self
    | succ k =>
      refine List.mem_cons_of_mem _ ?_
      have := ih (i + 1) k v (by simpa using h)
      rw [show i + (k + 1) = i + 1 + k by omega]
      exact this
theorem gCon.of {ρ : Type} {enc : ρ → Option Value} {y : MethodName} {cc : ByteArray} {nL : Nat} {ret : Option FieldType} {h : Nat} {as : List gV} {σ : gM} {o : Option (ρ × gM)} {lv : List (Option gV)} (hy : plainName y.cls = true) (hn : as.length ≤ nL) (hlv : as.map some ++ List.replicate (nL - as.length) none = lv) (k : ∀ X : gX, gC X y.cls cc h nL ret → gw X enc 0 lv [] σ o) : gCon enc y cc nL ret h as σ o := by
  intro l E hE hok r ho
  refine Met.ofW (cc := cc) (maxL := nL) (ret := ret) hy rfl ?_
  intro p e s m args below meth c s₁ B hml hv
  obtain ⟨rfl, hP, hK, hN⟩ := hv
  have hts := atoms_spec (ws := Cond.code y cc nL ret :: gU) B.pre
  have hown : s.vm.findClass y.cls = some m.cls := findClass_of_methodNamed B.named
  have hC : gC (p, l, e, h, s, m, (as.map (gv E)).toArray, below, meth, c, E, nL) y.cls cc h nL ret := ⟨rfl, rfl, B.exec, B.bytes, hml, hown, fun w hw => hts w (List.mem_cons_of_mem _ hw), hN, hK, hE, B.notSynchronized, B.returns⟩
  have hl := lv_entry (as.map (gv E)) (n := nL) (by rw [lg_sl_map]; exact hn)
  rw [lg_entry_eq]
  generalize (lg_sl (as.map (gv E)) ++ List.replicate (nL - (lg_sl (as.map (gv E))).length) Slot.unset).toArray = ls at hl ⊢
  have at0 : ∀ (i : Nat) (v : gV), lv[i]? = some (some v) → as[i]? = some v := by
    intro i v hi
    rw [← hlv] at hi
    by_cases hlt : i < as.length
    · rw [List.getElem?_append_left (by simpa using hlt)] at hi
      simpa using hi
    · rw [List.getElem?_append_right (by simpa using hlt), List.getElem?_replicate] at hi
      split at hi <;> cases hi
  refine k _ hC (fun v hv => by cases hv) (fun v hv => ?_) r ho s.heap [] ls hP va_S.rf ⟨hl.1, hl.2.1, fun i v hi => ?_⟩
  · obtain ⟨i, hi⟩ := List.getElem?_of_mem hv
    exact hok v (List.mem_of_getElem? (at0 i v hi))
  · have := lv_args_map E as 0 i v (at0 i v hi)
    rw [Nat.zero_add] at this
    exact hl.2.2 _ this
/-- a call's link -/
def gIV (own : String) (idx : Nat) (y : MethodName) (n : Nat) : Prop := (y.cls ≠ "java/lang/invoke/MethodHandle" ∧ y.cls ≠ "java/lang/invoke/VarHandle" ∧ (parseMethodDescriptor y.desc).map (fun d => d.parameters.length) = some n) ∧ Cond.instanceMethod y ∈ gU ∧ Cond.selects y.cls y y ∈ gU ∧ Cond.initialized y.cls ∈ gU ∧ (Cond.methodLink own idx y ∈ gU ∨ ∃ host, Cond.methodLinkNest own idx y host ∈ gNL)
def gIS (own : String) (idx : Nat) (y : MethodName) (n : Nat) : Prop := (y.cls ≠ "java/lang/invoke/MethodHandle" ∧ y.cls ≠ "java/lang/invoke/VarHandle" ∧ (parseMethodDescriptor y.desc).map (fun d => d.parameters.length) = some n) ∧ Cond.static y ∈ gU ∧ Cond.initialized y.cls ∈ gU ∧ (Cond.methodLink own idx y ∈ gU ∨ ∃ host, Cond.methodLinkNest own idx y host ∈ gNL)
def gCall {α β : Type} (o : Option (α × gM)) (kk : α → gM → Option β) : Option β := match o with
  | none => none
  | some q => kk q.1 q.2
theorem gU_goodT {c : Cond} (hc : c ∈ gU) : GoodIn gU (c :: gU) := by
  intro w hw
  have h1 : w ∈ gU := by
    rcases List.mem_cons.mp hw with h | h
    · rw [h]; exact hc
    · exact h
  exact ⟨h1, good_of_word (List.mem_filter.mp h1).2⟩
theorem va_callG {p : Program} {l : Launch} {e : Env} {R : Room} {s : State} {m : MethodId} {args : Array Value} {below : List Frame} {meth : Method} {c : Code} {H : Heap} {locs : List Loc} {Q : State → Prop} {pc : Nat} {ls : Array Slot} {rest st0 : List Value} {a : Array Value} {H0 : Heap} {E : gE} {ov : Option Value} {σ' : gM}
    (hr : va_Run p l e R s m args below meth c H locs 0 0 0 0 (F0 m pc ls st0) rest (gQc E ov σ' a) (gA E)) (hS : va_S (gA E) H0 H locs)
    (kk : ∀ (H1 : Heap) (locs1 : List Loc), va_P E.1 vwCl (gW E σ') H1 → va_S (gA E) H0 H1 locs1 → W p l e R s m args below meth c H1 locs1 0 0 Q (F0 m (pc + 3) ls (ov.toList ++ rest))) : W p l e R s m args below meth c H locs 0 0 Q (F0 m pc ls st0) := by
  intro T hT X
  obtain ⟨v, st₀, t, T', L, h0, X', hL, e1, e2, ⟨hv, hp, -, hz, hk⟩, st⟩ := hr T hT X
  cases hv
  rw [h0] at hz hk
  obtain ⟨t2, a1, b1⟩ := kk T'.heap (locs ++ L) (by rw [e1]; exact hp)
    ⟨Nat.le_trans hS.1 (by rw [e1]; exact hz), fun q h1 h2 => by rw [e1, hk q (Nat.lt_of_lt_of_le h1 hS.1) h2]; exact hS.2.1 q h1 h2, fun q hq => by
      rcases List.mem_append.mp hq with h | h
      · exact hS.2.2 q h
      · exact hL q h⟩ T' rfl X'
  exact ⟨t2, st t2 a1, b1⟩
theorem gmap_rev {E : gE} (As : List gV) : (As.reverse).map (gv E) = (As.map (gv E)).reverse := List.map_reverse
theorem r_inv {X : gX} {own : String} {cc : ByteArray} {h nL : Nat} {ret : Option FieldType} (C : gC X own cc h nL ret) {ρ : Type} {enc : ρ → Option Value} {pc : Nat} {lv : List (Option gV)} {st : List gV} {σ : gM} {ρ' : Type} {enc' : ρ' → Option Value} {y : MethodName} {cc' : ByteArray} {nL' h' idx n : Nat} {ret' : Option FieldType} {t kb : Nat} {As st0 : List gV} {o' : Option (ρ' × gM)} {kk : ρ' → gM → Option (ρ × gM)} {psh : ρ' → List gV} (L : gIV own idx y n) (hcode : Cond.code y cc' nL' ret' ∈ gU) (ht : t < 10) (hcls : gRn t = y.cls) (hcon : gCon enc' y cc' nL' ret' h' (.inr (t, kb) :: As) σ o') (hh : h' + 1 ≤ h) (hnl : nL' ≤ 17) (hn : As.length = n) (hst0 : st0 = As.reverse ++ .inr (t, kb) :: st) (hlen : st.length ≤ 8) (hpsh : ∀ (E : gE) r, (enc' r).toList = (psh r).map (gv E)) (hpok : ∀ (E : gE) r, ∀ v ∈ psh r, gok E v) (hd : decode cc pc = .ok (.invokevirtual idx, 3)) (k1 : ∀ r σ1, gw X enc (pc + 3) lv (psh r ++ st) σ1 (kk r σ1)) : gw X enc pc lv st0 σ (gCall o' kk) := by
  subst hst0
  cases ho' : o' with
  | none => exact gw_none
  | some q =>
  subst ho'
  obtain ⟨p, l, e, h'', s, m, args, below, meth, c, E, nL''⟩ := X
  obtain ⟨rfl, rfl, hx, hb, hml, hown, hts, hN, hK, hE, hlk, hrt⟩ := C
  intro hst hlv r ho H locs ls hP hS hl
  obtain ⟨l1, l2, l3, l4, l5⟩ := L
  have hAs : ∀ v ∈ As, gok E v := fun v hv => hst v (List.mem_append_left _ (List.mem_reverse.mpr hv))
  have hob := List.forall_mem_cons.mp (fun v hv => hst v (List.mem_append_right _ hv) : ∀ v ∈ .inr (t, kb) :: st, gok E v)
  obtain ⟨q0, h0⟩ := gpl_at hob.1
  have hw := gW_get (σ := σ) h0
  rw [gcell_obj ht] at hw
  have hM := hcon l E hE (List.forall_mem_cons.mpr ⟨hob.1, hAs⟩) q rfl
  have hrc := va_recv (cl := vwCl) hK hP (gcl ht) hw
  rw [show (gRn t, gTn t, gnf t).1 = y.cls from hcls] at hrc
  have hpre : ∀ U : State, U.heap = H → s.WarmedH U.vm → (Value.ref (E.2.2.1 t kb) :: As.map (gv E)).toArray = (((Sum.inr (t, kb) : gV) :: As).map (gv E)).toArray ∧ va_P E.1 vwCl (gW E σ) U.heap ∧ va_K E.1 vwCl (gtys E) U ∧ gNW U := fun U hU hW => ⟨rfl, by rw [hU]; exact hP, va_K.moved hW.alike hK, gNW_warm hW hN⟩
  have hbl : FrameBlind (fun (v : Array Value) (U : State) => v = (((Sum.inr (t, kb) : gV) :: As).map (gv E)).toArray ∧ va_P E.1 vwCl (gW E σ) U.heap ∧ va_K E.1 vwCl (gtys E) U ∧ gNW U) := fun a U g mk z => ⟨z.1, z.2.1, va_K.moved (u := U) (U := U.calling g mk a) (Vm.Alike.refl U.vm) z.2.2.1, gNW_same (s := U) (U := U.calling g mk a) rfl z.2.2.2⟩
  have hgo := k1 q.1 q.2 (fun v hv => by
    rcases List.mem_append.mp hv with h | h
    · exact hpok E q.1 v h
    · exact hob.2 v h) hlv r ho
  rw [List.map_append, ← hpsh E q.1] at hgo
  have hstk : (F0 m pc ls ((As.reverse ++ Sum.inr (t, kb) :: st).map (gv E))).stack = (As.map (gv E)).reverse ++ .ref (E.2.2.1 t kb) :: st.map (gv E) := by
    show (As.reverse ++ Sum.inr (t, kb) :: st).map (gv E) = _
    rw [List.map_append, List.map_reverse]
    rfl
  have hcat : 2 * (F0 m pc ls ((As.reverse ++ Sum.inr (t, kb) :: st).map (gv E))).monitorRoom + ((st.map (gv E)).map fun v => v.category).sum ≤ 8 := lv_room (by rw [gst_cat]; exact hlen)
  have hroom : (grm h').frames + 1 ≤ (grm h'').frames ∧ 8 + (nL' + 11) + (grm h').locals ≤ (grm h'').locals := by
    show h' + 1 ≤ h'' ∧ 8 + (nL' + 11) + 36 * h' ≤ 36 * h''
    omega
  rcases l5 with l5 | ⟨host, l5⟩
  · exact va_callG (va_runV ⟨hx, hb, hml, hown, hts⟩ hM ⟨callB_of n hts (gU_goodT hcode) rfl rfl rfl (hts _ l4) (hts _ l5) l1 hroom, hts _ l2, hts _ l3⟩ ⟨hbl, hrc, hpre⟩ rfl (by simpa using hn) hl.1 hstk hcat hd ⟨Nat.zero_le _, Nat.zero_le _⟩) hS (fun H1 locs1 a b => hgo H1 locs1 ls a b hl)
  · exact va_callG (va_runVN ⟨hx, hb, hml, hown, hts⟩ hM ⟨va_cnB n hts (gU_goodT hcode) rfl rfl rfl (hN _ l5) (hts _ l4) l1 hroom, hts _ l2, hts _ l3⟩ ⟨hbl, hrc, hpre⟩ rfl (by simpa using hn) hl.1 hstk hcat hd ⟨Nat.zero_le _, Nat.zero_le _⟩) hS (fun H1 locs1 a b => hgo H1 locs1 ls a b hl)
theorem r_ins {X : gX} {own : String} {cc : ByteArray} {h nL : Nat} {ret : Option FieldType} (C : gC X own cc h nL ret) {ρ : Type} {enc : ρ → Option Value} {pc : Nat} {lv : List (Option gV)} {st : List gV} {σ : gM} {ρ' : Type} {enc' : ρ' → Option Value} {y : MethodName} {cc' : ByteArray} {nL' h' idx n : Nat} {ret' : Option FieldType} {As st0 : List gV} {o' : Option (ρ' × gM)} {kk : ρ' → gM → Option (ρ × gM)} {psh : ρ' → List gV} (L : gIS own idx y n) (hcode : Cond.code y cc' nL' ret' ∈ gU) (hcon : gCon enc' y cc' nL' ret' h' As σ o') (hh : h' + 1 ≤ h) (hnl : nL' ≤ 17) (hn : As.length = n) (hst0 : st0 = As.reverse ++ st) (hlen : st.length ≤ 8) (hpsh : ∀ (E : gE) r, (enc' r).toList = (psh r).map (gv E)) (hpok : ∀ (E : gE) r, ∀ v ∈ psh r, gok E v) (hd : decode cc pc = .ok (.invokestatic idx, 3)) (k1 : ∀ r σ1, gw X enc (pc + 3) lv (psh r ++ st) σ1 (kk r σ1)) : gw X enc pc lv st0 σ (gCall o' kk) := by
  subst hst0
  cases ho' : o' with
  | none => exact gw_none
  | some q =>
  subst ho'
  obtain ⟨p, l, e, h'', s, m, args, below, meth, c, E, nL''⟩ := X
  obtain ⟨rfl, rfl, hx, hb, hml, hown, hts, hN, hK, hE, hlk, hrt⟩ := C
  intro hst hlv r ho H locs ls hP hS hl
  obtain ⟨l1, l2, l4, l5⟩ := L
  have hAs : ∀ v ∈ As, gok E v := fun v hv => hst v (List.mem_append_left _ (List.mem_reverse.mpr hv))
  have hob := (fun v hv => hst v (List.mem_append_right _ hv) : ∀ v ∈ st, gok E v)
  have hM := hcon l E hE hAs q rfl
  have hpre : ∀ U : State, U.heap = H → s.WarmedH U.vm → (As.map (gv E)).toArray = (As.map (gv E)).toArray ∧ va_P E.1 vwCl (gW E σ) U.heap ∧ va_K E.1 vwCl (gtys E) U ∧ gNW U := fun U hU hW => ⟨rfl, by rw [hU]; exact hP, va_K.moved hW.alike hK, gNW_warm hW hN⟩
  have hbl : FrameBlind (fun (v : Array Value) (U : State) => v = (As.map (gv E)).toArray ∧ va_P E.1 vwCl (gW E σ) U.heap ∧ va_K E.1 vwCl (gtys E) U ∧ gNW U) := fun a U g mk z => ⟨z.1, z.2.1, va_K.moved (u := U) (U := U.calling g mk a) (Vm.Alike.refl U.vm) z.2.2.1, gNW_same (s := U) (U := U.calling g mk a) rfl z.2.2.2⟩
  have hgo := k1 q.1 q.2 (fun v hv => by
    rcases List.mem_append.mp hv with h | h
    · exact hpok E q.1 v h
    · exact hob v h) hlv r ho
  rw [List.map_append, ← hpsh E q.1] at hgo
  have hstk : (F0 m pc ls ((As.reverse ++ st).map (gv E))).stack = (As.map (gv E)).reverse ++ st.map (gv E) := by
    show (As.reverse ++ st).map (gv E) = _
    rw [List.map_append, List.map_reverse]
  have hcat : 2 * (F0 m pc ls ((As.reverse ++ st).map (gv E))).monitorRoom + ((st.map (gv E)).map fun v => v.category).sum ≤ 8 := lv_room (by rw [gst_cat]; exact hlen)
  have hroom : (grm h').frames + 1 ≤ (grm h'').frames ∧ 8 + (nL' + 11) + (grm h').locals ≤ (grm h'').locals := by
    show h' + 1 ≤ h'' ∧ 8 + (nL' + 11) + 36 * h' ≤ 36 * h''
    omega
  rcases l5 with l5 | ⟨host, l5⟩
  · exact va_callG (va_runS ⟨hx, hb, hml, hown, hts⟩ hM ⟨callB_of n hts (gU_goodT hcode) rfl rfl rfl (hts _ l4) (hts _ l5) l1 hroom, hts _ l2⟩ ⟨hbl, hpre⟩ rfl (by simpa using hn) hl.1 hstk hcat hd ⟨Nat.zero_le _, Nat.zero_le _⟩) hS (fun H1 locs1 a b => hgo H1 locs1 ls a b hl)
  · exact va_callG (va_runSN ⟨hx, hb, hml, hown, hts⟩ hM ⟨va_cnB n hts (gU_goodT hcode) rfl rfl rfl (hN _ l5) (hts _ l4) l1 hroom, hts _ l2, trivial⟩ ⟨hbl, hpre⟩ rfl (by simpa using hn) hl.1 hstk hcat hd ⟨Nat.zero_le _, Nat.zero_le _⟩) hS (fun H1 locs1 a b => hgo H1 locs1 ls a b hl)
def pI : Int32 → List gV := fun x => [.inl x]
def pB : Bool → List gV := fun b => [.inl (bI b)]
def pU : Unit → List gV := fun _ => []
theorem pI_ok (E : gE) (r : Int32) : (eI r).toList = (pI r).map (gv E) := rfl
theorem pB_ok (E : gE) (r : Bool) : (eB r).toList = (pB r).map (gv E) := rfl
theorem pU_ok (E : gE) (r : Unit) : (eU r).toList = (pU r).map (gv E) := rfl
theorem pI_in (E : gE) (r : Int32) : ∀ v ∈ pI r, gok E v := fun v hv => by rw [List.mem_singleton.mp hv]; trivial
theorem pB_in (E : gE) (r : Bool) : ∀ v ∈ pB r, gok E v := fun v hv => by rw [List.mem_singleton.mp hv]; trivial
theorem pU_in (E : gE) (r : Unit) : ∀ v ∈ pU r, gok E v := fun v hv => by cases hv
def FU : Nat := 100000
theorem r_invI {X : gX} {own : String} {cc : ByteArray} {h nL : Nat} {ret : Option FieldType} (C : gC X own cc h nL ret) {ρ : Type} {enc : ρ → Option Value} {pc : Nat} {lv : List (Option gV)} {st : List gV} {σ : gM} {y : MethodName} {cc' : ByteArray} {nL' h' idx n : Nat} {ret' : Option FieldType} {t kb : Nat} {As st0 : List gV} {o' : Option (Int32 × gM)} {kk : Int32 → gM → Option (ρ × gM)} (L : gIV own idx y n) (hcode : Cond.code y cc' nL' ret' ∈ gU) (ht : t < 10) (hcls : gRn t = y.cls) (hcon : gCon eI y cc' nL' ret' h' (.inr (t, kb) :: As) σ o') (hh : h' + 1 ≤ h) (hnl : nL' ≤ 17) (hn : As.length = n) (hst0 : st0 = As.reverse ++ .inr (t, kb) :: st) (hlen : st.length ≤ 8) (hd : decode cc pc = .ok (.invokevirtual idx, 3)) (k1 : ∀ (r : Int32) (σ1 : gM), gw X enc (pc + 3) lv (.inl r :: st) σ1 (kk r σ1)) : gw X enc pc lv st0 σ (gCall o' kk) :=
  r_inv C L hcode ht hcls hcon hh hnl hn hst0 hlen pI_ok pI_in hd k1
theorem r_invB {X : gX} {own : String} {cc : ByteArray} {h nL : Nat} {ret : Option FieldType} (C : gC X own cc h nL ret) {ρ : Type} {enc : ρ → Option Value} {pc : Nat} {lv : List (Option gV)} {st : List gV} {σ : gM} {y : MethodName} {cc' : ByteArray} {nL' h' idx n : Nat} {ret' : Option FieldType} {t kb : Nat} {As st0 : List gV} {o' : Option (Bool × gM)} {kk : Bool → gM → Option (ρ × gM)} (L : gIV own idx y n) (hcode : Cond.code y cc' nL' ret' ∈ gU) (ht : t < 10) (hcls : gRn t = y.cls) (hcon : gCon eB y cc' nL' ret' h' (.inr (t, kb) :: As) σ o') (hh : h' + 1 ≤ h) (hnl : nL' ≤ 17) (hn : As.length = n) (hst0 : st0 = As.reverse ++ .inr (t, kb) :: st) (hlen : st.length ≤ 8) (hd : decode cc pc = .ok (.invokevirtual idx, 3)) (k1 : ∀ (r : Bool) (σ1 : gM), gw X enc (pc + 3) lv (.inl (bI r) :: st) σ1 (kk r σ1)) : gw X enc pc lv st0 σ (gCall o' kk) :=
  r_inv C L hcode ht hcls hcon hh hnl hn hst0 hlen pB_ok pB_in hd k1
theorem r_invU {X : gX} {own : String} {cc : ByteArray} {h nL : Nat} {ret : Option FieldType} (C : gC X own cc h nL ret) {ρ : Type} {enc : ρ → Option Value} {pc : Nat} {lv : List (Option gV)} {st : List gV} {σ : gM} {y : MethodName} {cc' : ByteArray} {nL' h' idx n : Nat} {ret' : Option FieldType} {t kb : Nat} {As st0 : List gV} {o' : Option (Unit × gM)} {kk : Unit → gM → Option (ρ × gM)} (L : gIV own idx y n) (hcode : Cond.code y cc' nL' ret' ∈ gU) (ht : t < 10) (hcls : gRn t = y.cls) (hcon : gCon eU y cc' nL' ret' h' (.inr (t, kb) :: As) σ o') (hh : h' + 1 ≤ h) (hnl : nL' ≤ 17) (hn : As.length = n) (hst0 : st0 = As.reverse ++ .inr (t, kb) :: st) (hlen : st.length ≤ 8) (hd : decode cc pc = .ok (.invokevirtual idx, 3)) (k1 : ∀ (r : Unit) (σ1 : gM), gw X enc (pc + 3) lv st σ1 (kk r σ1)) : gw X enc pc lv st0 σ (gCall o' kk) :=
  r_inv C L hcode ht hcls hcon hh hnl hn hst0 hlen pU_ok pU_in hd k1
theorem r_insI {X : gX} {own : String} {cc : ByteArray} {h nL : Nat} {ret : Option FieldType} (C : gC X own cc h nL ret) {ρ : Type} {enc : ρ → Option Value} {pc : Nat} {lv : List (Option gV)} {st : List gV} {σ : gM} {y : MethodName} {cc' : ByteArray} {nL' h' idx n : Nat} {ret' : Option FieldType} {As st0 : List gV} {o' : Option (Int32 × gM)} {kk : Int32 → gM → Option (ρ × gM)} (L : gIS own idx y n) (hcode : Cond.code y cc' nL' ret' ∈ gU) (hcon : gCon eI y cc' nL' ret' h' As σ o') (hh : h' + 1 ≤ h) (hnl : nL' ≤ 17) (hn : As.length = n) (hst0 : st0 = As.reverse ++ st) (hlen : st.length ≤ 8) (hd : decode cc pc = .ok (.invokestatic idx, 3)) (k1 : ∀ (r : Int32) (σ1 : gM), gw X enc (pc + 3) lv (.inl r :: st) σ1 (kk r σ1)) : gw X enc pc lv st0 σ (gCall o' kk) :=
  r_ins C L hcode hcon hh hnl hn hst0 hlen pI_ok pI_in hd k1
theorem r_insB {X : gX} {own : String} {cc : ByteArray} {h nL : Nat} {ret : Option FieldType} (C : gC X own cc h nL ret) {ρ : Type} {enc : ρ → Option Value} {pc : Nat} {lv : List (Option gV)} {st : List gV} {σ : gM} {y : MethodName} {cc' : ByteArray} {nL' h' idx n : Nat} {ret' : Option FieldType} {As st0 : List gV} {o' : Option (Bool × gM)} {kk : Bool → gM → Option (ρ × gM)} (L : gIS own idx y n) (hcode : Cond.code y cc' nL' ret' ∈ gU) (hcon : gCon eB y cc' nL' ret' h' As σ o') (hh : h' + 1 ≤ h) (hnl : nL' ≤ 17) (hn : As.length = n) (hst0 : st0 = As.reverse ++ st) (hlen : st.length ≤ 8) (hd : decode cc pc = .ok (.invokestatic idx, 3)) (k1 : ∀ (r : Bool) (σ1 : gM), gw X enc (pc + 3) lv (.inl (bI r) :: st) σ1 (kk r σ1)) : gw X enc pc lv st0 σ (gCall o' kk) :=
  r_ins C L hcode hcon hh hnl hn hst0 hlen pB_ok pB_in hd k1
theorem r_insU {X : gX} {own : String} {cc : ByteArray} {h nL : Nat} {ret : Option FieldType} (C : gC X own cc h nL ret) {ρ : Type} {enc : ρ → Option Value} {pc : Nat} {lv : List (Option gV)} {st : List gV} {σ : gM} {y : MethodName} {cc' : ByteArray} {nL' h' idx n : Nat} {ret' : Option FieldType} {As st0 : List gV} {o' : Option (Unit × gM)} {kk : Unit → gM → Option (ρ × gM)} (L : gIS own idx y n) (hcode : Cond.code y cc' nL' ret' ∈ gU) (hcon : gCon eU y cc' nL' ret' h' As σ o') (hh : h' + 1 ≤ h) (hnl : nL' ≤ 17) (hn : As.length = n) (hst0 : st0 = As.reverse ++ st) (hlen : st.length ≤ 8) (hd : decode cc pc = .ok (.invokestatic idx, 3)) (k1 : ∀ (r : Unit) (σ1 : gM), gw X enc (pc + 3) lv st σ1 (kk r σ1)) : gw X enc pc lv st0 σ (gCall o' kk) :=
  r_ins C L hcode hcon hh hnl hn hst0 hlen pU_ok pU_in hd k1

def gJ0 {β : Type} (j : gM → β) (kk : (gM → β) → β) : β := kk j
theorem r_j0 {X : gX} {ρ : Type} {enc : ρ → Option Value} {pc : Nat} {lv : List (Option gV)} {st : List gV} {σ : gM} (pj : Nat) (lv0 : List (Option gV)) (st0 : List gV) {j0 : gM → Option (ρ × gM)} {kk : (gM → Option (ρ × gM)) → Option (ρ × gM)} (hj : ∀ (σ1 : gM), gw X enc pj lv0 st0 σ1 (j0 σ1)) (hk : ∀ j : gM → Option (ρ × gM), (∀ (σ1 : gM), gw X enc pj lv0 st0 σ1 (j σ1)) → gw X enc pc lv st σ (kk j)) : gw X enc pc lv st σ (gJ0 j0 kk) := hk j0 hj
def gL0 {β : Type} : Nat → (gM → (gM → Option β) → Option β) → gM → Option β
  | 0, _, _ => none
  | n + 1, f, σ => f σ (gL0 n f)
theorem r_l0 {X : gX} {ρ : Type} {enc : ρ → Option Value} {pj : Nat} (lv0 : List (Option gV)) {f : gM → (gM → Option (ρ × gM)) → Option (ρ × gM)} (hf : ∀ (σ : gM) (K : gM → Option (ρ × gM)), (∀ (σ1 : gM), gw X enc pj lv0 [] σ1 (K σ1)) → gw X enc pj lv0 [] σ (f σ K)) : ∀ (n : Nat) (σ : gM), gw X enc pj lv0 [] σ (gL0 n f σ) := by
  intro n
  induction n with
  | zero => intro σ; exact gw_none
  | succ n ih => intro σ; exact hf σ _ ih
def gJ1 {β : Type} (j : Int32 → gM → β) (kk : (Int32 → gM → β) → β) : β := kk j
theorem r_j1 {X : gX} {ρ : Type} {enc : ρ → Option Value} {pc : Nat} {lv : List (Option gV)} {st : List gV} {σ : gM} (pj : Nat) (lv0 : Int32 → List (Option gV)) (st0 : Int32 → List gV) {j0 : Int32 → gM → Option (ρ × gM)} {kk : (Int32 → gM → Option (ρ × gM)) → Option (ρ × gM)} (hj : ∀ (a1 : Int32) (σ1 : gM), gw X enc pj (lv0 a1) (st0 a1) σ1 (j0 a1 σ1)) (hk : ∀ j : Int32 → gM → Option (ρ × gM), (∀ (a1 : Int32) (σ1 : gM), gw X enc pj (lv0 a1) (st0 a1) σ1 (j a1 σ1)) → gw X enc pc lv st σ (kk j)) : gw X enc pc lv st σ (gJ1 j0 kk) := hk j0 hj
def gL1 {β : Type} : Nat → (Int32 → gM → (Int32 → gM → Option β) → Option β) → Int32 → gM → Option β
  | 0, _, _, _ => none
  | n + 1, f, a1, σ => f a1 σ (gL1 n f)
theorem r_l1 {X : gX} {ρ : Type} {enc : ρ → Option Value} {pj : Nat} (lv0 : Int32 → List (Option gV)) {f : Int32 → gM → (Int32 → gM → Option (ρ × gM)) → Option (ρ × gM)} (hf : ∀ (a1 : Int32) (σ : gM) (K : Int32 → gM → Option (ρ × gM)), (∀ (a1 : Int32) (σ1 : gM), gw X enc pj (lv0 a1) [] σ1 (K a1 σ1)) → gw X enc pj (lv0 a1) [] σ (f a1 σ K)) : ∀ (n : Nat) (a1 : Int32) (σ : gM), gw X enc pj (lv0 a1) [] σ (gL1 n f a1 σ) := by
  intro n
  induction n with
  | zero => intro a1 σ; exact gw_none
  | succ n ih => intro a1 σ; exact hf a1 σ _ ih
def gJ2 {β : Type} (j : Int32 → Int32 → gM → β) (kk : (Int32 → Int32 → gM → β) → β) : β := kk j
theorem r_j2 {X : gX} {ρ : Type} {enc : ρ → Option Value} {pc : Nat} {lv : List (Option gV)} {st : List gV} {σ : gM} (pj : Nat) (lv0 : Int32 → Int32 → List (Option gV)) (st0 : Int32 → Int32 → List gV) {j0 : Int32 → Int32 → gM → Option (ρ × gM)} {kk : (Int32 → Int32 → gM → Option (ρ × gM)) → Option (ρ × gM)} (hj : ∀ (a1 a2 : Int32) (σ1 : gM), gw X enc pj (lv0 a1 a2) (st0 a1 a2) σ1 (j0 a1 a2 σ1)) (hk : ∀ j : Int32 → Int32 → gM → Option (ρ × gM), (∀ (a1 a2 : Int32) (σ1 : gM), gw X enc pj (lv0 a1 a2) (st0 a1 a2) σ1 (j a1 a2 σ1)) → gw X enc pc lv st σ (kk j)) : gw X enc pc lv st σ (gJ2 j0 kk) := hk j0 hj
def gL2 {β : Type} : Nat → (Int32 → Int32 → gM → (Int32 → Int32 → gM → Option β) → Option β) → Int32 → Int32 → gM → Option β
  | 0, _, _, _, _ => none
  | n + 1, f, a1, a2, σ => f a1 a2 σ (gL2 n f)
theorem r_l2 {X : gX} {ρ : Type} {enc : ρ → Option Value} {pj : Nat} (lv0 : Int32 → Int32 → List (Option gV)) {f : Int32 → Int32 → gM → (Int32 → Int32 → gM → Option (ρ × gM)) → Option (ρ × gM)} (hf : ∀ (a1 a2 : Int32) (σ : gM) (K : Int32 → Int32 → gM → Option (ρ × gM)), (∀ (a1 a2 : Int32) (σ1 : gM), gw X enc pj (lv0 a1 a2) [] σ1 (K a1 a2 σ1)) → gw X enc pj (lv0 a1 a2) [] σ (f a1 a2 σ K)) : ∀ (n : Nat) (a1 a2 : Int32) (σ : gM), gw X enc pj (lv0 a1 a2) [] σ (gL2 n f a1 a2 σ) := by
  intro n
  induction n with
  | zero => intro a1 a2 σ; exact gw_none
  | succ n ih => intro a1 a2 σ; exact hf a1 a2 σ _ ih
def gJ3 {β : Type} (j : Int32 → Int32 → Int32 → gM → β) (kk : (Int32 → Int32 → Int32 → gM → β) → β) : β := kk j
theorem r_j3 {X : gX} {ρ : Type} {enc : ρ → Option Value} {pc : Nat} {lv : List (Option gV)} {st : List gV} {σ : gM} (pj : Nat) (lv0 : Int32 → Int32 → Int32 → List (Option gV)) (st0 : Int32 → Int32 → Int32 → List gV) {j0 : Int32 → Int32 → Int32 → gM → Option (ρ × gM)} {kk : (Int32 → Int32 → Int32 → gM → Option (ρ × gM)) → Option (ρ × gM)} (hj : ∀ (a1 a2 a3 : Int32) (σ1 : gM), gw X enc pj (lv0 a1 a2 a3) (st0 a1 a2 a3) σ1 (j0 a1 a2 a3 σ1)) (hk : ∀ j : Int32 → Int32 → Int32 → gM → Option (ρ × gM), (∀ (a1 a2 a3 : Int32) (σ1 : gM), gw X enc pj (lv0 a1 a2 a3) (st0 a1 a2 a3) σ1 (j a1 a2 a3 σ1)) → gw X enc pc lv st σ (kk j)) : gw X enc pc lv st σ (gJ3 j0 kk) := hk j0 hj
def gL3 {β : Type} : Nat → (Int32 → Int32 → Int32 → gM → (Int32 → Int32 → Int32 → gM → Option β) → Option β) → Int32 → Int32 → Int32 → gM → Option β
  | 0, _, _, _, _, _ => none
  | n + 1, f, a1, a2, a3, σ => f a1 a2 a3 σ (gL3 n f)
theorem r_l3 {X : gX} {ρ : Type} {enc : ρ → Option Value} {pj : Nat} (lv0 : Int32 → Int32 → Int32 → List (Option gV)) {f : Int32 → Int32 → Int32 → gM → (Int32 → Int32 → Int32 → gM → Option (ρ × gM)) → Option (ρ × gM)} (hf : ∀ (a1 a2 a3 : Int32) (σ : gM) (K : Int32 → Int32 → Int32 → gM → Option (ρ × gM)), (∀ (a1 a2 a3 : Int32) (σ1 : gM), gw X enc pj (lv0 a1 a2 a3) [] σ1 (K a1 a2 a3 σ1)) → gw X enc pj (lv0 a1 a2 a3) [] σ (f a1 a2 a3 σ K)) : ∀ (n : Nat) (a1 a2 a3 : Int32) (σ : gM), gw X enc pj (lv0 a1 a2 a3) [] σ (gL3 n f a1 a2 a3 σ) := by
  intro n
  induction n with
  | zero => intro a1 a2 a3 σ; exact gw_none
  | succ n ih => intro a1 a2 a3 σ; exact hf a1 a2 a3 σ _ ih
def gJ4 {β : Type} (j : Int32 → Int32 → Int32 → Int32 → gM → β) (kk : (Int32 → Int32 → Int32 → Int32 → gM → β) → β) : β := kk j
theorem r_j4 {X : gX} {ρ : Type} {enc : ρ → Option Value} {pc : Nat} {lv : List (Option gV)} {st : List gV} {σ : gM} (pj : Nat) (lv0 : Int32 → Int32 → Int32 → Int32 → List (Option gV)) (st0 : Int32 → Int32 → Int32 → Int32 → List gV) {j0 : Int32 → Int32 → Int32 → Int32 → gM → Option (ρ × gM)} {kk : (Int32 → Int32 → Int32 → Int32 → gM → Option (ρ × gM)) → Option (ρ × gM)} (hj : ∀ (a1 a2 a3 a4 : Int32) (σ1 : gM), gw X enc pj (lv0 a1 a2 a3 a4) (st0 a1 a2 a3 a4) σ1 (j0 a1 a2 a3 a4 σ1)) (hk : ∀ j : Int32 → Int32 → Int32 → Int32 → gM → Option (ρ × gM), (∀ (a1 a2 a3 a4 : Int32) (σ1 : gM), gw X enc pj (lv0 a1 a2 a3 a4) (st0 a1 a2 a3 a4) σ1 (j a1 a2 a3 a4 σ1)) → gw X enc pc lv st σ (kk j)) : gw X enc pc lv st σ (gJ4 j0 kk) := hk j0 hj
def gL4 {β : Type} : Nat → (Int32 → Int32 → Int32 → Int32 → gM → (Int32 → Int32 → Int32 → Int32 → gM → Option β) → Option β) → Int32 → Int32 → Int32 → Int32 → gM → Option β
  | 0, _, _, _, _, _, _ => none
  | n + 1, f, a1, a2, a3, a4, σ => f a1 a2 a3 a4 σ (gL4 n f)
theorem r_l4 {X : gX} {ρ : Type} {enc : ρ → Option Value} {pj : Nat} (lv0 : Int32 → Int32 → Int32 → Int32 → List (Option gV)) {f : Int32 → Int32 → Int32 → Int32 → gM → (Int32 → Int32 → Int32 → Int32 → gM → Option (ρ × gM)) → Option (ρ × gM)} (hf : ∀ (a1 a2 a3 a4 : Int32) (σ : gM) (K : Int32 → Int32 → Int32 → Int32 → gM → Option (ρ × gM)), (∀ (a1 a2 a3 a4 : Int32) (σ1 : gM), gw X enc pj (lv0 a1 a2 a3 a4) [] σ1 (K a1 a2 a3 a4 σ1)) → gw X enc pj (lv0 a1 a2 a3 a4) [] σ (f a1 a2 a3 a4 σ K)) : ∀ (n : Nat) (a1 a2 a3 a4 : Int32) (σ : gM), gw X enc pj (lv0 a1 a2 a3 a4) [] σ (gL4 n f a1 a2 a3 a4 σ) := by
  intro n
  induction n with
  | zero => intro a1 a2 a3 a4 σ; exact gw_none
  | succ n ih => intro a1 a2 a3 a4 σ; exact hf a1 a2 a3 a4 σ _ ih
def gJ5 {β : Type} (j : Int32 → Int32 → Int32 → Int32 → Int32 → gM → β) (kk : (Int32 → Int32 → Int32 → Int32 → Int32 → gM → β) → β) : β := kk j
theorem r_j5 {X : gX} {ρ : Type} {enc : ρ → Option Value} {pc : Nat} {lv : List (Option gV)} {st : List gV} {σ : gM} (pj : Nat) (lv0 : Int32 → Int32 → Int32 → Int32 → Int32 → List (Option gV)) (st0 : Int32 → Int32 → Int32 → Int32 → Int32 → List gV) {j0 : Int32 → Int32 → Int32 → Int32 → Int32 → gM → Option (ρ × gM)} {kk : (Int32 → Int32 → Int32 → Int32 → Int32 → gM → Option (ρ × gM)) → Option (ρ × gM)} (hj : ∀ (a1 a2 a3 a4 a5 : Int32) (σ1 : gM), gw X enc pj (lv0 a1 a2 a3 a4 a5) (st0 a1 a2 a3 a4 a5) σ1 (j0 a1 a2 a3 a4 a5 σ1)) (hk : ∀ j : Int32 → Int32 → Int32 → Int32 → Int32 → gM → Option (ρ × gM), (∀ (a1 a2 a3 a4 a5 : Int32) (σ1 : gM), gw X enc pj (lv0 a1 a2 a3 a4 a5) (st0 a1 a2 a3 a4 a5) σ1 (j a1 a2 a3 a4 a5 σ1)) → gw X enc pc lv st σ (kk j)) : gw X enc pc lv st σ (gJ5 j0 kk) := hk j0 hj
def gL5 {β : Type} : Nat → (Int32 → Int32 → Int32 → Int32 → Int32 → gM → (Int32 → Int32 → Int32 → Int32 → Int32 → gM → Option β) → Option β) → Int32 → Int32 → Int32 → Int32 → Int32 → gM → Option β
  | 0, _, _, _, _, _, _, _ => none
  | n + 1, f, a1, a2, a3, a4, a5, σ => f a1 a2 a3 a4 a5 σ (gL5 n f)
theorem r_l5 {X : gX} {ρ : Type} {enc : ρ → Option Value} {pj : Nat} (lv0 : Int32 → Int32 → Int32 → Int32 → Int32 → List (Option gV)) {f : Int32 → Int32 → Int32 → Int32 → Int32 → gM → (Int32 → Int32 → Int32 → Int32 → Int32 → gM → Option (ρ × gM)) → Option (ρ × gM)} (hf : ∀ (a1 a2 a3 a4 a5 : Int32) (σ : gM) (K : Int32 → Int32 → Int32 → Int32 → Int32 → gM → Option (ρ × gM)), (∀ (a1 a2 a3 a4 a5 : Int32) (σ1 : gM), gw X enc pj (lv0 a1 a2 a3 a4 a5) [] σ1 (K a1 a2 a3 a4 a5 σ1)) → gw X enc pj (lv0 a1 a2 a3 a4 a5) [] σ (f a1 a2 a3 a4 a5 σ K)) : ∀ (n : Nat) (a1 a2 a3 a4 a5 : Int32) (σ : gM), gw X enc pj (lv0 a1 a2 a3 a4 a5) [] σ (gL5 n f a1 a2 a3 a4 a5 σ) := by
  intro n
  induction n with
  | zero => intro a1 a2 a3 a4 a5 σ; exact gw_none
  | succ n ih => intro a1 a2 a3 a4 a5 σ; exact hf a1 a2 a3 a4 a5 σ _ ih
def gJ6 {β : Type} (j : Int32 → Int32 → Int32 → Int32 → Int32 → Int32 → gM → β) (kk : (Int32 → Int32 → Int32 → Int32 → Int32 → Int32 → gM → β) → β) : β := kk j
theorem r_j6 {X : gX} {ρ : Type} {enc : ρ → Option Value} {pc : Nat} {lv : List (Option gV)} {st : List gV} {σ : gM} (pj : Nat) (lv0 : Int32 → Int32 → Int32 → Int32 → Int32 → Int32 → List (Option gV)) (st0 : Int32 → Int32 → Int32 → Int32 → Int32 → Int32 → List gV) {j0 : Int32 → Int32 → Int32 → Int32 → Int32 → Int32 → gM → Option (ρ × gM)} {kk : (Int32 → Int32 → Int32 → Int32 → Int32 → Int32 → gM → Option (ρ × gM)) → Option (ρ × gM)} (hj : ∀ (a1 a2 a3 a4 a5 a6 : Int32) (σ1 : gM), gw X enc pj (lv0 a1 a2 a3 a4 a5 a6) (st0 a1 a2 a3 a4 a5 a6) σ1 (j0 a1 a2 a3 a4 a5 a6 σ1)) (hk : ∀ j : Int32 → Int32 → Int32 → Int32 → Int32 → Int32 → gM → Option (ρ × gM), (∀ (a1 a2 a3 a4 a5 a6 : Int32) (σ1 : gM), gw X enc pj (lv0 a1 a2 a3 a4 a5 a6) (st0 a1 a2 a3 a4 a5 a6) σ1 (j a1 a2 a3 a4 a5 a6 σ1)) → gw X enc pc lv st σ (kk j)) : gw X enc pc lv st σ (gJ6 j0 kk) := hk j0 hj
def gL6 {β : Type} : Nat → (Int32 → Int32 → Int32 → Int32 → Int32 → Int32 → gM → (Int32 → Int32 → Int32 → Int32 → Int32 → Int32 → gM → Option β) → Option β) → Int32 → Int32 → Int32 → Int32 → Int32 → Int32 → gM → Option β
  | 0, _, _, _, _, _, _, _, _ => none
  | n + 1, f, a1, a2, a3, a4, a5, a6, σ => f a1 a2 a3 a4 a5 a6 σ (gL6 n f)
theorem r_l6 {X : gX} {ρ : Type} {enc : ρ → Option Value} {pj : Nat} (lv0 : Int32 → Int32 → Int32 → Int32 → Int32 → Int32 → List (Option gV)) {f : Int32 → Int32 → Int32 → Int32 → Int32 → Int32 → gM → (Int32 → Int32 → Int32 → Int32 → Int32 → Int32 → gM → Option (ρ × gM)) → Option (ρ × gM)} (hf : ∀ (a1 a2 a3 a4 a5 a6 : Int32) (σ : gM) (K : Int32 → Int32 → Int32 → Int32 → Int32 → Int32 → gM → Option (ρ × gM)), (∀ (a1 a2 a3 a4 a5 a6 : Int32) (σ1 : gM), gw X enc pj (lv0 a1 a2 a3 a4 a5 a6) [] σ1 (K a1 a2 a3 a4 a5 a6 σ1)) → gw X enc pj (lv0 a1 a2 a3 a4 a5 a6) [] σ (f a1 a2 a3 a4 a5 a6 σ K)) : ∀ (n : Nat) (a1 a2 a3 a4 a5 a6 : Int32) (σ : gM), gw X enc pj (lv0 a1 a2 a3 a4 a5 a6) [] σ (gL6 n f a1 a2 a3 a4 a5 a6 σ) := by
  intro n
  induction n with
  | zero => intro a1 a2 a3 a4 a5 a6 σ; exact gw_none
  | succ n ih => intro a1 a2 a3 a4 a5 a6 σ; exact hf a1 a2 a3 a4 a5 a6 σ _ ih
