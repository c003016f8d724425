/-! LAYER 3: what is made is a world. -/
def sto (k : Nat) : Nat := if k = 0 then 2 else if k < 21 then 15 + 10 * (k - 1) else if k = 21 then 228 else if k < 42 then 241 + 10 * (k - 22) else 453
def tra (k : Nat) : Nat := if k < 4 then 215 + 3 * k else if k < 8 then 441 + 3 * (k - 4) else 483
def offX (t k : Nat) : Nat := match t with
  | 0 => 481
  | 1 => 463
  | 2 => 470
  | 3 => sto k
  | 4 => 476
  | 5 => tra k
  | 6 => if k = 0 then 1 else 227
  | 7 => 467
  | 8 => 0
  | 16 => 482
  | 17 => 464
  | 18 => 465
  | 19 => 466
  | 20 => 471
  | 21 => 472
  | 22 => 473
  | 23 => 474
  | 24 => 475
  | 34 => 477
  | 35 => 478
  | 36 => 479
  | 37 => 480
  | 38 => tra k + 1
  | 39 => tra k + 2
  | 40 => if k = 0 then 14 else 240
  | 41 => if k = 0 then 12 else 238
  | 42 => if k = 0 then 13 else 239
  | 43 => 468
  | 44 => 469
  | 45 => 486
  | 46 => 487
  | t => sto k + 1 + (t - 25)
def dsc (off : Nat → Nat → Nat) (σ : gM) (t k : Nat) : CD := if t < 10 then .inr (t, (List.range (gnf t)).map (fun j => match gref t j k with
    | some q => .inl (some (off q.1 q.2))
    | none => .inr (σ t k j))) else if t = 41 ∨ t = 42 then .inl (gcls t, glen t, some ((List.range (glen t)).map (fun i => some (off (garef t k i).1 (garef t k i).2)))) else .inl (gcls t, glen t, none)
def gEm (G : cG) (off : Nat → Nat → Nat) (cnt : Nat → Nat) : gE := (G.1, G.2.1, fun t k => G.2.2 + off t k, cnt)
def σX : gM := fun t _ j => if t = 8 ∧ (j = 12 ∨ j = 13) then -1 else 0
def cdEq (a b : CD) : Bool := decide (a = b)
theorem getD_some {S : List CD} {i : Nat} {d d0 : CD} (h : i < S.length ∧ S.getD i d0 = d) : S[i]? = some d := by
  obtain ⟨h1, h2⟩ := h
  rw [← h2, List.getD, List.getElem?_eq_getElem h1]
  rfl
theorem CX8_ok : ∀ q ∈ gpl gcX, CX8[offX q.1 q.2]? = some (dsc offX σX q.1 q.2) := by
  have key : (gpl gcX).all (fun q => decide (offX q.1 q.2 < CX8.length) && cdEq (CX8.getD (offX q.1 q.2) (.inl (0, 0, none))) (dsc offX σX q.1 q.2)) = true := by decide +kernel
  intro q hq
  have h := Bool.and_eq_true_iff.mp (List.all_eq_true.mp key q hq)
  exact getD_some ⟨of_decide_eq_true h.1, of_decide_eq_true h.2⟩
theorem offX_nd : ((gpl gcX).map (fun q => offX q.1 q.2)).Nodup := by decide +kernel
theorem gref_big {t j k : Nat} (h : 32 ≤ j) : gref t j k = none := by
  unfold gref
  split <;> first | omega | rfl
theorem crefs_X : (∀ t, t < 10 → ∀ k, k < gcX t → ∀ j, j < 32 → ∀ q, gref t j k = some q → q.1 < 64 ∧ q.2 < gcX q.1) ∧ (∀ k, k < gcX 41 → ∀ i, i < 20 → 21 * k + 1 + i < gcX 3) ∧ (∀ k, k < gcX 42 → ∀ i, i < 4 → 4 * k + i < gcX 5) := by
  refine ⟨?_, ?_, ?_⟩
  · intro t ht k hk j hj q hq
    have key : ∀ t, t < 10 → ∀ k, k < gcX t → ∀ j, j < 32 → (match gref t j k with | some q => decide (q.1 < 64 ∧ q.2 < gcX q.1) | none => true) = true := by decide +kernel
    have := key t ht k hk j hj
    rw [hq] at this
    exact of_decide_eq_true this
  · decide +kernel
  · decide +kernel
theorem gEok_of {G : cG} {off : Nat → Nat → Nat} {cnt : Nat → Nat} (hnd : ((gpl cnt).map (fun q => off q.1 q.2)).Nodup) (hr : (∀ t, t < 10 → ∀ k, k < cnt t → ∀ j, j < 32 → ∀ q, gref t j k = some q → q.1 < 64 ∧ q.2 < cnt q.1) ∧ (∀ k, k < cnt 41 → ∀ i, i < 20 → 21 * k + 1 + i < cnt 3) ∧ (∀ k, k < cnt 42 → ∀ i, i < 4 → 4 * k + i < cnt 5)) : gEok (gEm G off cnt) := by
  refine ⟨fun σ => ⟨fun i j p q hi hj hpq => ?_, fun k q hk => ?_⟩, fun t k j q ht hg hq => ?_, fun k i hg hi => ⟨by show 3 < 64; omega, hr.2.1 k hg.2 i hi⟩, fun k i hg hi => ⟨by show 5 < 64; omega, hr.2.2 k hg.2 i hi⟩⟩
  · unfold gW at hi hj
    rw [List.getElem?_map] at hi hj
    cases hi0 : (gpl (gEm G off cnt).2.2.2)[i]? with
    | none => rw [hi0] at hi; cases hi
    | some a =>
      cases hj0 : (gpl (gEm G off cnt).2.2.2)[j]? with
      | none => rw [hj0] at hj; cases hj
      | some b =>
        rw [hi0] at hi
        rw [hj0] at hj
        cases hi
        cases hj
        have e : off a.1 a.2 = off b.1 b.2 := Nat.add_left_cancel hpq
        have hi1 : ((gpl cnt).map (fun q => off q.1 q.2))[i]? = some (off a.1 a.2) := by rw [List.getElem?_map]; exact congrArg (Option.map _) hi0
        have hj1 : ((gpl cnt).map (fun q => off q.1 q.2))[j]? = some (off a.1 a.2) := by rw [List.getElem?_map, e]; exact congrArg (Option.map _) hj0
        have hli := (List.getElem?_eq_some_iff.mp hi1).1
        exact (List.getElem?_inj hli hnd).mp (hi1.trans hj1.symm)
  · unfold gW at hk
    rw [List.getElem?_map] at hk
    cases hk0 : (gpl (gEm G off cnt).2.2.2)[k]? with
    | none => rw [hk0] at hk; cases hk
    | some a =>
      rw [hk0] at hk
      cases hk
      exact ⟨a, gpl_mem.mp (List.mem_of_getElem? hk0), rfl⟩
  · by_cases c : j < 32
    · exact hr.1 t ht k hg.2 j c q hq
    · rw [gref_big (by omega)] at hq
      cases hq
