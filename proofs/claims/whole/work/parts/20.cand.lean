/-! LAYER 2: the candidates of a line, on both sides the same list of (place, number of the candidate it was found from). -/
theorem fb_holes : ∀ (m n : Nat) (f : Nat → Nat), (∀ i, i < n → f i < m) → (∀ i j, i < j → j < n → f i ≠ f j) → n ≤ m := by
  intro m
  induction m with
  | zero =>
    intro n f h1 _
    rcases Nat.eq_zero_or_pos n with h | h
    · omega
    · exact absurd (h1 0 h) (Nat.not_lt_zero _)
  | succ m ih =>
    intro n f h1 h2
    by_cases hx : ∃ i, i < n ∧ f i = m
    · obtain ⟨a, ha, hfa⟩ := hx
      have hg := ih (n - 1) (fun i => if i < a then f i else f (i + 1)) (by
        intro i hi
        by_cases q : i < a
        · simp only [if_pos q]
          have b1 := h1 i (by omega)
          have b2 := h2 i a q ha
          omega
        · simp only [if_neg q]
          have b1 := h1 (i + 1) (by omega)
          have b2 := h2 a (i + 1) (by omega) (by omega)
          omega) (by
        intro i j hij hj
        by_cases q : i < a
        · by_cases r : j < a
          · simp only [if_pos q, if_pos r]
            exact h2 i j hij (by omega)
          · simp only [if_pos q, if_neg r]
            exact h2 i (j + 1) (by omega) (by omega)
        · have r : ¬ j < a := by omega
          simp only [if_neg q, if_neg r]
          exact h2 (i + 1) (j + 1) (by omega) (by omega))
      omega
    · have hg := ih n f (fun i hi => by
        have b1 := h1 i hi
        have b2 : f i ≠ m := fun e => hx ⟨i, hi, e⟩
        omega) h2
      omega
/-- two of them in one place -/
abbrev gCL : Type := List (Nat × Option Nat)
def lp (L : gCL) (i : Nat) : Nat := (L.getD i (0, none)).1
def lo (L : gCL) (i : Nat) : Option Nat := (L.getD i (0, none)).2
theorem lp_app {L : gCL} {q : Nat × Option Nat} {i : Nat} (h : i < L.length) : lp (L ++ [q]) i = lp L i ∧ lo (L ++ [q]) i = lo L i := by
  unfold lp lo
  rw [List.getD_eq_getElem?_getD, List.getD_eq_getElem?_getD, List.getElem?_append_left h]
  exact ⟨rfl, rfl⟩
theorem lp_last {L : gCL} {q : Nat × Option Nat} : lp (L ++ [q]) L.length = q.1 ∧ lo (L ++ [q]) L.length = q.2 := by
  unfold lp lo
  rw [List.getD_eq_getElem?_getD, List.getElem?_append_right (Nat.le_refl _)]
  simp
def lIn (L : gCL) (p : Nat) : Prop := ∃ i, i < L.length ∧ lp L i = p
/-- all places are such, each once; found from an earlier one -/
def LW (L : gCL) : Prop := (∀ i, i < L.length → lp L i < 64) ∧ (∀ i j, i < j → j < L.length → lp L i ≠ lp L j) ∧ ∀ i j, i < L.length → lo L i = some j → j < i
theorem LW_nil : LW [] := ⟨fun i h => by simp at h, fun i j _ h => by simp at h, fun i j h => by simp at h⟩
theorem LW_len {L : gCL} (h : LW L) : L.length ≤ 64 := fb_holes 64 L.length (lp L) h.1 h.2.1
theorem LW_app {L : gCL} {p : Nat} {o : Option Nat} (h : LW L) (hp : p < 64) (hn : ¬ lIn L p) (ho : ∀ j, o = some j → j < L.length) : LW (L ++ [(p, o)]) ∧ L.length < 64 := by
  have h1 : LW (L ++ [(p, o)]) := by
    refine ⟨fun i hi => ?_, fun i j hij hj => ?_, fun i j hi hj => ?_⟩
    · rw [List.length_append, List.length_singleton] at hi
      by_cases hl : i < L.length
      · rw [(lp_app hl).1]; exact h.1 i hl
      · have : i = L.length := by omega
        subst this
        rw [lp_last.1]; exact hp
    · rw [List.length_append, List.length_singleton] at hj
      rw [(lp_app (show i < L.length by omega)).1]
      by_cases hl : j < L.length
      · rw [(lp_app hl).1]; exact h.2.1 i j hij hl
      · have : j = L.length := by omega
        subst this
        rw [lp_last.1]
        exact fun e => hn ⟨i, by omega, e⟩
    · rw [List.length_append, List.length_singleton] at hi
      by_cases hl : i < L.length
      · rw [(lp_app hl).2] at hj; exact h.2.2 i j hl hj
      · have : i = L.length := by omega
        subst this
        rw [lp_last.2] at hj
        exact ho j hj
  have h2 := LW_len h1
  rw [List.length_append, List.length_singleton] at h2
  exact ⟨h1, by omega⟩
theorem lIn_app {L : gCL} {q : Nat × Option Nat} {p : Nat} : lIn (L ++ [q]) p ↔ lIn L p ∨ q.1 = p := by
  constructor
  · rintro ⟨i, hi, e⟩
    rw [List.length_append, List.length_singleton] at hi
    by_cases hl : i < L.length
    · rw [(lp_app hl).1] at e; exact Or.inl ⟨i, hl, e⟩
    · have : i = L.length := by omega
      subst this
      rw [lp_last.1] at e; exact Or.inr e
  · rintro (⟨i, hi, e⟩ | e)
    · exact ⟨i, by rw [List.length_append, List.length_singleton]; omega, by rw [(lp_app hi).1]; exact e⟩
    · exact ⟨L.length, by rw [List.length_append, List.length_singleton]; omega, by rw [lp_last.1]; exact e⟩
theorem lIn_dec (L : gCL) (p : Nat) : lIn L p ↔ (L.any fun q => q.1 == p) = true := by
  rw [List.any_eq_true]
  constructor
  · rintro ⟨i, hi, e⟩
    refine ⟨L[i], List.getElem_mem hi, ?_⟩
    unfold lp at e
    rw [List.getD_eq_getElem?_getD, List.getElem?_eq_getElem hi] at e
    simpa using e
  · rintro ⟨q, hq, e⟩
    obtain ⟨i, hi, rfl⟩ := List.getElem_of_mem hq
    refine ⟨i, hi, ?_⟩
    unfold lp
    rw [List.getD_eq_getElem?_getD, List.getElem?_eq_getElem hi]
    simpa using e
def addC (B : Nat → Int32) (L : gCL) (p : Nat) (o : Option Nat) : gCL := if (L.any fun q => q.1 == p) = true ∨ B (31 + 5 * p) = 1 then L else L ++ [(p, o)]
/-- the slots of a line, way by way, but not in the way own -/
def addW (B : Nat → Int32) (line : Nat) (own o : Option Nat) (L : gCL) : Nat → gCL
  | 0 => L
  | w + 1 => if some w = own then addW B line own o L w else addC B (addW B line own o L w) (16 * w + bIx B line w) o
theorem addC_LW {B : Nat → Int32} {L : gCL} {p : Nat} {o : Option Nat} (h : LW L) (hp : p < 64) (ho : ∀ j, o = some j → j < L.length) : LW (addC B L p o) ∧ L.length ≤ (addC B L p o).length ∧ ∀ i, i < L.length → lp (addC B L p o) i = lp L i ∧ lo (addC B L p o) i = lo L i := by
  unfold addC
  split
  · exact ⟨h, Nat.le_refl _, fun i _ => ⟨rfl, rfl⟩⟩
  · rename_i hn
    exact ⟨(LW_app h hp (fun z => hn (Or.inl ((lIn_dec L p).mp z))) ho).1, by simp, fun i hi => lp_app hi⟩
theorem addW_LW {B : Nat → Int32} {N : Nat} (hB : BI B N) {line : Nat} {own o : Option Nat} {L : gCL} (h : LW L) (ho : ∀ j, o = some j → j < L.length) : ∀ w, w ≤ 4 → LW (addW B line own o L w) ∧ L.length ≤ (addW B line own o L w).length ∧ ∀ i, i < L.length → lp (addW B line own o L w) i = lp L i ∧ lo (addW B line own o L w) i = lo L i := by
  intro w
  induction w with
  | zero => intro _; exact ⟨h, Nat.le_refl _, fun i _ => ⟨rfl, rfl⟩⟩
  | succ w ih =>
    intro hw
    obtain ⟨i1, i2, i3⟩ := ih (by omega)
    simp only [addW]
    split
    · exact ⟨i1, i2, i3⟩
    · have hix := bIx_lt hB line w
      obtain ⟨j1, j2, j3⟩ := addC_LW (B := B) (p := 16 * w + bIx B line w) (o := o) i1 (by omega) (fun j hj => Nat.lt_of_lt_of_le (ho j hj) i2)
      refine ⟨j1, Nat.le_trans i2 j2, fun i hi => ?_⟩
      obtain ⟨k1, k2⟩ := j3 i (by omega)
      rw [k1, k2]; exact i3 i hi
/-- the component's search room holds the list -/
def SX (m : gM) (L : gCL) : Prop := m 1 0 3 = nI L.length ∧ (∀ i, i < L.length → m 17 0 i = nI (lp L i) ∧ m 18 0 i = oI (lo L i)) ∧ ∀ p, p < 64 → m 19 0 p = if (L.any fun q => q.1 == p) = true then 1 else 0
/-- the reference's -/
def SM (m : gM) (L : gCL) : Prop := m 9 0 18 = nI L.length ∧ (∀ i, i < L.length → m 52 0 i = nI (lp L i) ∧ m 53 0 i = oI (lo L i)) ∧ ∀ p, p < 64 → m 54 0 p = if (L.any fun q => q.1 == p) = true then 1 else 0
def pSe (t _k _i : Nat) : Prop := t = 1 ∨ (17 ≤ t ∧ t ≤ 19)
def pFi (t _k i : Nat) : Prop := (t = 9 ∧ i = 18) ∨ (52 ≤ t ∧ t ≤ 54)
theorem any_app {L : gCL} {p q : Nat} {o : Option Nat} : ((L ++ [(q, o)]).any fun x => x.1 == p) = true ↔ (L.any fun x => x.1 == p) = true ∨ q = p := by
  rw [List.any_append]
  simp
/-- a place is added: the component -/
theorem SX_add {m : gM} {L : gCL} {p : Nat} {o : Option Nat} (h : SX m L) (hL : L.length < 64) : SX (gup (gup (gup (gup m 19 0 p 1) 17 0 L.length (nI p)) 18 0 L.length (oI o)) 1 0 3 (nI (L.length + 1))) (L ++ [(p, o)]) := by
  refine ⟨by rw [gup_at, if_pos rfl, List.length_append, List.length_singleton], fun i hi => ?_, fun q hq => ?_⟩
  · rw [List.length_append, List.length_singleton] at hi
    have e1 : gup (gup (gup (gup m 19 0 p 1) 17 0 L.length (nI p)) 18 0 L.length (oI o)) 1 0 3 (nI (L.length + 1)) 17 0 i = if i = L.length then nI p else m 17 0 i := by
      rw [gup_t (by omega), gup_t (by omega), gup_at, gup_t (by omega)]
    have e2 : gup (gup (gup (gup m 19 0 p 1) 17 0 L.length (nI p)) 18 0 L.length (oI o)) 1 0 3 (nI (L.length + 1)) 18 0 i = if i = L.length then oI o else m 18 0 i := by
      rw [gup_t (by omega), gup_at, gup_t (by omega), gup_t (by omega)]
    rw [e1, e2]
    by_cases hl : i < L.length
    · rw [if_neg (by omega), if_neg (by omega), (lp_app hl).1, (lp_app hl).2]
      exact h.2.1 i hl
    · have : i = L.length := by omega
      subst this
      rw [if_pos rfl, if_pos rfl, lp_last.1, lp_last.2]
      exact ⟨rfl, rfl⟩
  · rw [gup_t (by omega), gup_t (by omega), gup_t (by omega), gup_at]
    by_cases e : q = p
    · rw [if_pos e, if_pos (any_app.mpr (Or.inr e.symm))]
    · rw [if_neg e, h.2.2 q hq]
      by_cases g : (L.any fun x => x.1 == q) = true
      · rw [if_pos g, if_pos (any_app.mpr (Or.inl g))]
      · rw [if_neg g, if_neg (fun z => (any_app.mp z).elim g (fun z => e z.symm))]
theorem SM_add {m : gM} {L : gCL} {p : Nat} {o : Option Nat} (h : SM m L) (hL : L.length < 64) : SM (gup (gup (gup (gup m 54 0 p 1) 52 0 L.length (nI p)) 53 0 L.length (oI o)) 9 0 18 (nI (L.length + 1))) (L ++ [(p, o)]) := by
  refine ⟨by rw [gup_at, if_pos rfl, List.length_append, List.length_singleton], fun i hi => ?_, fun q hq => ?_⟩
  · rw [List.length_append, List.length_singleton] at hi
    have e1 : gup (gup (gup (gup m 54 0 p 1) 52 0 L.length (nI p)) 53 0 L.length (oI o)) 9 0 18 (nI (L.length + 1)) 52 0 i = if i = L.length then nI p else m 52 0 i := by
      rw [gup_t (by omega), gup_t (by omega), gup_at, gup_t (by omega)]
    have e2 : gup (gup (gup (gup m 54 0 p 1) 52 0 L.length (nI p)) 53 0 L.length (oI o)) 9 0 18 (nI (L.length + 1)) 53 0 i = if i = L.length then oI o else m 53 0 i := by
      rw [gup_t (by omega), gup_at, gup_t (by omega), gup_t (by omega)]
    rw [e1, e2]
    by_cases hl : i < L.length
    · rw [if_neg (by omega), if_neg (by omega), (lp_app hl).1, (lp_app hl).2]
      exact h.2.1 i hl
    · have : i = L.length := by omega
      subst this
      rw [if_pos rfl, if_pos rfl, lp_last.1, lp_last.2]
      exact ⟨rfl, rfl⟩
  · rw [gup_t (by omega), gup_t (by omega), gup_t (by omega), gup_at]
    by_cases e : q = p
    · rw [if_pos e, if_pos (any_app.mpr (Or.inr e.symm))]
    · rw [if_neg e, h.2.2 q hq]
      by_cases g : (L.any fun x => x.1 == q) = true
      · rw [if_pos g, if_pos (any_app.mpr (Or.inl g))]
      · rw [if_neg g, if_neg (fun z => (any_app.mp z).elim g (fun z => e z.symm))]
theorem RS_se {m m' : gM} {k N : Nat} {B : Nat → Int32} (h : RS m k B N) (e : Eqv pSe m m') : RS m' k B N := RS_congr h (fun t i ht => e t k i (by unfold pSe; omega))
theorem oI_way {own : Option Nat} {w : Nat} (hw : w < 4) (ho : ∀ j, own = some j → j < 4) : nI w = oI own ↔ some w = own := by
  cases own with
  | none => constructor
            · intro h; exact absurd h (nI_nm1 (by omega))
            · intro h; cases h
  | some j =>
    have := ho j rfl
    show nI w = nI j ↔ _
    rw [nI_inj (by omega) (by omega), Option.some.injEq]
/-- the slots of a line are added: the component -/
theorem x_addW {m : gM} {k N line : Nat} {B : Nat → Int32} {own o : Option Nat} {L : gCL} (hR : RS m k B N) (hB : BI B N) (hl : line < 1024) (hown : ∀ j, own = some j → j < 4) (hL : LW L) (ho : ∀ j, o = some j → j < L.length) (hS : SX m L) :
    ∃ m', X1_addSlotsOf k (nI line) (oI own) (oI o) m = some ((), m') ∧ SX m' (addW B line own o L (bW B)) ∧ Eqv pSe m m' := by
  have hw4 := hB.1.2.2
  unfold X1_addSlotsOf
  refine gL1_for (fun i σ => SX σ (addW B line own o L i) ∧ Eqv pSe m σ) (fun r => ∃ m', r = some ((), m') ∧ SX m' (addW B line own o L (bW B)) ∧ Eqv pSe m m') (bW B) ?_ ?_ FU 0 m (Nat.zero_le _) (by rw [FU_eq]; omega) ⟨hS, Eqv.rf⟩
  · rintro i σ K hi ⟨hS, hE⟩ hK
    have hR1 := RS_se hR hE
    unfold X1_addSlotsOf_b3
    rw [if_neg (by rw [hR1.1.1, hB.1.1, nI_leq (by omega) (by omega)]; omega), gCall_eq (X3_ix hR1 hB hl (by omega))]
    have hix := bIx_lt hB line i
    rw [show nI i * 16 + nI (bIx B line i) = nI (16 * i + bIx B line i) by rw [li16, pk_mul, nI_add, Nat.mul_comm]]
    simp only [gLet, gJ1, gJ0]
    have hLW := addW_LW (line := line) (own := own) hB hL ho i (by omega)
    have hp : 16 * i + bIx B line i < 64 := by omega
    by_cases hw : some i = own
    · rw [if_pos ((oI_way (by omega) hown).mpr hw), if_pos trivial, nI_1]
      exact hK _ ⟨by simp only [addW, if_pos hw]; exact hS, hE⟩
    · rw [if_neg (fun z => hw ((oI_way (by omega) hown).mp z)), gAt_nI (show 16 * i + bIx B line i < 64 from hp) (by omega), hS.2.2 _ hp]
      by_cases ha : ((addW B line own o L i).any fun q => q.1 == 16 * i + bIx B line i) = true
      · rw [if_pos ha, if_neg (by decide), if_pos trivial, nI_1]
        exact hK _ ⟨by simp only [addW, if_neg hw, addC, if_pos (Or.inl ha)]; exact hS, hE⟩
      · rw [if_neg ha, if_pos rfl, gAt_nI (show 16 * i + bIx B line i < 64 from hp) (by omega), hR1.2.2.2.2.2.2.2.2.1 _ hp]
        rcases (hB.2.2.2.2.2.2.1 _ hp).2.2.2.2 with hz | hz
        · have hlt := (LW_app (o := none) hLW.1 hp (fun z => ha ((lIn_dec _ _).mp z)) (fun j hj => by cases hj)).2
          rw [hz, if_pos rfl, if_neg (by decide), hS.1, if_neg (by rw [li64, nI_leq (by omega) (by omega)]; omega)]
          rw [gPut_nI (show 16 * i + bIx B line i < 64 from hp) (by omega), show gup σ 19 0 (16 * i + bIx B line i) 1 1 0 3 = nI (addW B line own o L i).length by rw [gup_t (by omega)]; exact hS.1]
          rw [gPut_nI (show (addW B line own o L i).length < 64 from hlt) (by omega), gup_t (show 1 ≠ 17 by omega), show gup σ 19 0 (16 * i + bIx B line i) 1 1 0 3 = nI (addW B line own o L i).length by rw [gup_t (by omega)]; exact hS.1]
          rw [gPut_nI (show (addW B line own o L i).length < 64 from hlt) (by omega), gup_t (show 1 ≠ 18 by omega), gup_t (show 1 ≠ 17 by omega), show gup σ 19 0 (16 * i + bIx B line i) 1 1 0 3 = nI (addW B line own o L i).length by rw [gup_t (by omega)]; exact hS.1]
          simp only [gSet, nI_1]
          refine hK _ ⟨?_, hE.tr ?_⟩
          · simp only [addW, if_neg hw, addC]
            rw [if_neg (fun z => z.elim ha (fun z => absurd (hz.symm.trans z) (by decide)))]
            exact SX_add hS hlt
          · exact (((Eqv.up (by unfold pSe; omega)).tr (Eqv.up (by unfold pSe; omega))).tr (Eqv.up (by unfold pSe; omega))).tr (Eqv.up (by unfold pSe; omega))
        · rw [hz, if_neg (by decide), if_pos trivial, nI_1]
          exact hK _ ⟨by simp only [addW, if_neg hw, addC, if_pos (Or.inr hz)]; exact hS, hE⟩
  · rintro σ K ⟨hS, hE⟩
    have hR1 := RS_se hR hE
    unfold X1_addSlotsOf_b3
    rw [if_pos (by rw [hR1.1.1, hB.1.1, nI_leq (by omega) (by omega)]; omega)]
    exact ⟨σ, rfl, hS, hE⟩
