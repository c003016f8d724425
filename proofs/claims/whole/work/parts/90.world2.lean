/-! LAYER 3: what is made is a world: the cells. -/
theorem arrV_cg {a b : Nat → Value} {n : Nat} {c : ClassId} (h : ∀ i, i < n → a i = b i) : arrV c n a = arrV c n b := by
  unfold arrV
  congr 1
  first
    | (congr 1; funext i; exact h i.val i.isLt)
    | exact absurd h 3
theorem cden_ok {G : cG} {off : Nat → Nat → Nat} {cnt : Nat → Nat} {σ : gM} {t k : Nat} {H : Heap} (hσ : ¬ t < 10 → ∀ i, σ t k i = 0) (h : va_at G.1 vwCl (G.2.2 + off t k, cden G.2.1 G.2.2 (dsc off σ t k)) H) : va_at (gEm G off cnt).1 vwCl ((gEm G off cnt).2.2.1 t k, gcell (gEm G off cnt) σ t k) H := by
  unfold dsc at h
  by_cases c1 : t < 10
  · rw [if_pos c1] at h
    rw [gcell_obj c1]
    have e : ((List.range (gnf t)).map (fun j => match gref t j k with
        | some q => (.inl (some (off q.1 q.2)) : CV)
        | none => .inr (σ t k j))).map (cval G.2.2) = (List.range (gnf t)).map (fun j => gv (gEm G off cnt) (gfv σ t k j)) := by
      rw [List.map_map]
      apply List.map_congr_left
      intro j _
      simp only [Function.comp]
      unfold gfv
      cases gref t j k with
      | none => rfl
      | some q => rfl
    have h' : va_at G.1 vwCl (G.2.2 + off t k, .inr (t, ((List.range (gnf t)).map (fun j => match gref t j k with
        | some q => (.inl (some (off q.1 q.2)) : CV)
        | none => .inr (σ t k j))).map (cval G.2.2))) H := h
    rw [e] at h'
    exact h'
  · rw [if_neg c1] at h
    by_cases c2 : t = 41 ∨ t = 42
    · rw [if_pos c2] at h
      rw [gcell_ref c1 c2]
      have h' : H[G.2.2 + off t k]? = some (arrV (G.2.1 (gcls t)) (glen t) (fun i => va_rf (crf G.2.2 ((List.range (glen t)).map (fun i => some (off (garef t k i).1 (garef t k i).2))) i))) := h
      show H[G.2.2 + off t k]? = some (arrV (G.2.1 (gcls t)) (glen t) (fun i => va_rf (some (G.2.2 + off (garef t k i).1 (garef t k i).2))))
      rw [h']
      congr 1
      refine arrV_cg (fun i hi => ?_)
      unfold crf
      rw [List.getElem?_map, List.getElem?_range hi]
      rfl
    · rw [if_neg c2] at h
      rw [gcell_int c1 c2]
      have h' : H[G.2.2 + off t k]? = some (arrV (G.2.1 (gcls t)) (glen t) (fun _ => .int 0)) := h
      show H[G.2.2 + off t k]? = some (arrV (G.2.1 (gcls t)) (glen t) (fun i => .int (σ t k i)))
      rw [h']
      congr 1
      refine arrV_cg (fun i _ => ?_)
      rw [hσ c1 i]
theorem world_of {G : cG} {off : Nat → Nat → Nat} {cnt : Nat → Nat} {σ : gM} {S : List CD} {H : Heap} (hσ : ∀ t k i, ¬ t < 10 → σ t k i = 0) (hS : ∀ q ∈ gpl cnt, S[off q.1 q.2]? = some (dsc off σ q.1 q.2)) (hH : cH G S H) : va_P (gEm G off cnt).1 vwCl (gW (gEm G off cnt) σ) H := by
  intro k q hk
  unfold gW at hk
  rw [List.getElem?_map] at hk
  cases hk0 : (gpl (gEm G off cnt).2.2.2)[k]? with
  | none => rw [hk0] at hk; cases hk
  | some a =>
    rw [hk0] at hk
    cases hk
    have ha := hS a (List.mem_of_getElem? hk0)
    exact cden_ok (cnt := cnt) (fun c i => hσ a.1 a.2 i c) (hH.2 _ _ ha)
