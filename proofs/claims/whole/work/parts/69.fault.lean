/-! LAYER 2: texts: where the component's reader comes to a fault. -/
/-- a sign after a fault changes nothing that is told -/
theorem sign_any {x σ : gM} {c d o f q : Nat} {a : Int32} (hc : c < 256) (h8 : σ 0 0 8 = nI f) (hf : f ≠ 0 ∧ f ≤ 4) (h9 : σ 0 0 9 = nI q) (h4 : σ 0 0 4 = -1) (h2 : σ 0 0 2 = nI d) (hd : d ≤ 9) (h1 : σ 0 0 1 = nI o) (ho : o ≤ 4) (e : Eqv pRx x σ) : ∃ σ2 d2, X0_takeSign (nI c) a 8 σ = some ((), σ2) ∧ σ2 0 0 8 = nI f ∧ σ2 0 0 9 = nI q ∧ σ2 0 0 4 = -1 ∧ σ2 0 0 2 = nI d2 ∧ d2 ≤ 9 ∧ Eqv pRx x σ2 := by
  have hne : σ 0 0 8 ≠ 0 := by rw [h8]; exact fun z => hf.1 ((nI_z (by omega)).mp z)
  have hup : ∀ v, v ≤ 9 → ∃ σ2 d2, some ((), gup σ 0 0 2 (nI v)) = some ((), σ2) ∧ σ2 0 0 8 = nI f ∧ σ2 0 0 9 = nI q ∧ σ2 0 0 4 = -1 ∧ σ2 0 0 2 = nI d2 ∧ d2 ≤ 9 ∧ Eqv pRx x σ2 := by
    intro v hv
    exact ⟨_, v, rfl, by rw [gup_at, if_neg (by omega)]; exact h8, by rw [gup_at, if_neg (by omega)]; exact h9, by rw [gup_at, if_neg (by omega)]; exact h4, by rw [gup_at, if_pos rfl], hv, e.tr (Eqv.up (by unfold pRx; omega))⟩
  by_cases w : ws c
  · exact ⟨σ, d, sign_ws w, h8, h9, h4, h2, hd, e⟩
  rw [sign_eq hc w h2 hd h1 ho]
  split
  · unfold X0_openLoop
    rw [h1]
    by_cases c4 : o < 4
    · rw [if_pos (by rw [li4, nI_ltt (by omega) (by omega)]; exact c4), gPut_nI (show o < glen 16 by rw [show glen 16 = 4 from rfl]; omega) (by omega), gLet, gSet, gSet, gCall_some]
      exact ⟨_, 0, rfl, by simp [gup, h8], by simp [gup, h9], by simp [gup, h4], by rw [gup_at, if_pos rfl]; rfl, by omega, e.tr (((Eqv.up (by unfold pRx; omega)).tr (Eqv.up (by unfold pRx; omega))).tr (Eqv.up (by unfold pRx; omega)))⟩
    · rw [if_neg (by rw [li4, nI_ltt (by omega) (by omega)]; exact c4), gCall_eq (fail_f hne), gCall_some]
      exact ⟨σ, d, rfl, h8, h9, h4, h2, hd, e⟩
  · split
    · exact hup 9 (by omega)
    · split
      · exact hup 1 (by omega)
      · split
        · exact hup 6 (by omega)
        · split
          · exact hup 3 (by omega)
          · split
            · exact hup 5 (by omega)
            · split
              · exact hup 8 (by omega)
              · rw [gCall_eq (fail_f hne)]
                exact ⟨σ, d, rfl, h8, h9, h4, h2, hd, e⟩
/-- a number that comes to a fault -/
theorem CP_flush_f {x σ σ1 : gM} {n e d o f q : Nat} {b : Nat → Nat} (hT : TPx n b x) (hen : e ≤ n) (hd : e < n → ¬ dg (b e)) (ee : Eqv pRx x σ) (h8 : σ 0 0 8 = 0) (he : X0_endNumber 8 σ = some ((), σ1)) (h81 : σ1 0 0 8 = nI f) (hf : f ≠ 0 ∧ f ≤ 4) (h9 : σ1 0 0 9 = nI q) (h4 : σ1 0 0 4 = -1) (h2 : σ1 0 0 2 = nI d) (hd9 : d ≤ 9) (h1 : σ1 0 0 1 = nI o) (ho : o ≤ 4) (e1 : Eqv pRx x σ1) : CP n e σ (FX x f q) := by
  have hn := hT.1
  have hne : σ1 0 0 8 ≠ 0 := by rw [h81]; exact fun z => hf.1 ((nI_z (by omega)).mp z)
  rcases Nat.lt_or_ge e n with c | c
  · obtain ⟨b1, b2⟩ := hT.2 e c
    have hT' : TPx n b σ := ⟨hn, fun i hi => ⟨(hT.2 i hi).1, by rw [ee 46 0 i (by unfold pRx; omega)]; exact (hT.2 i hi).2⟩⟩
    obtain ⟨σ2, d2, s1, s2, s3, s4, s5, s6, s7⟩ := sign_any (a := nI e) b1 h81 hf h9 h4 h2 hd9 h1 ho e1
    refine CP_sig hT' c h8 (hd c) he (by rw [e1 46 0 e (by unfold pRx; omega), ee 46 0 e (by unfold pRx; omega)]) s1 (CP_fail hn (by omega) s2 hf s3 s4 s5 s6 s7)
  · refine CP_end hn (by omega) (Or.inl c) ?_
    unfold JR
    rw [gCall_eq he, gCall_eq (takeEnd_f hne h2 hd9)]
    exact ⟨σ1, rfl, h81, h9, e1⟩
def fS (σ : gM) (f q : Nat) : gM := gup (gup (gup σ 0 0 8 (nI f)) 0 0 9 (nI q)) 0 0 4 (-1)
theorem fS_8 {σ : gM} {f q : Nat} : fS σ f q 0 0 8 = nI f := by simp [fS, gup]
theorem fS_9 {σ : gM} {f q : Nat} : fS σ f q 0 0 9 = nI q := by simp [fS, gup]
theorem fS_4 {σ : gM} {f q : Nat} : fS σ f q 0 0 4 = -1 := by simp [fS, gup]
theorem fS_o {σ : gM} {f q i : Nat} (h : i < 4) : fS σ f q 0 0 i = σ 0 0 i := by
  unfold fS
  rw [gup_at, if_neg (by omega), gup_at, if_neg (by omega), gup_at, if_neg (by omega)]
theorem fS_e {x σ : gM} {f q : Nat} (e : Eqv pRx x σ) : Eqv pRx x (fS σ f q) := e.tr (((Eqv.up (by unfold pRx; omega)).tr (Eqv.up (by unfold pRx; omega))).tr (Eqv.up (by unfold pRx; omega)))
/-- no number is due -/
theorem en_bad {σ : gM} {d q : Nat} (hq : q ≤ 300) (h8 : σ 0 0 8 = 0) (h4 : σ 0 0 4 = nI q) (h2 : σ 0 0 2 = nI d) (hd : d = 0 ∨ d = 2 ∨ d = 4 ∨ d = 7) : X0_endNumber 8 σ = some ((), fS σ 1 q) := by
  unfold X0_endNumber X0_takeNumber
  rw [if_neg (by rw [h4]; exact nI_nm1 (by omega)), gJ0_e, h2]
  have hf : ∀ m, gCall (gCall (X0_fail 1 (σ 0 0 4) σ) (fun (_ : Unit) (m2 : gM) => some ((), m2))) (fun (_ : Unit) (m1 : gM) => gSet m1 0 0 4 (-1) (fun (m3 : gM) => some ((), m3))) = m ↔ some ((), fS σ 1 q) = m := by
    intro m
    rw [gCall_eq (fail_0 h8), gCall_some, gSet, h4]
    rfl
  rcases hd with rfl | rfl | rfl | rfl
  all_goals
    simp only [show (nI 0 = 1) = False from by decide, show (nI 0 = 2) = False from by decide, show (nI 0 = 3) = False from by decide, show (nI 0 = 4) = False from by decide, show (nI 0 = 5) = False from by decide, show (nI 0 = 6) = False from by decide, show (nI 0 = 7) = False from by decide, show (nI 0 = 8) = False from by decide, show (nI 0 = 9) = False from by decide, show (nI 2 = 1) = False from by decide, show (nI 2 = 2) = True from by decide, show (nI 4 = 1) = False from by decide, show (nI 4 = 2) = False from by decide, show (nI 4 = 3) = False from by decide, show (nI 4 = 4) = True from by decide, show (nI 7 = 1) = False from by decide, show (nI 7 = 2) = False from by decide, show (nI 7 = 3) = False from by decide, show (nI 7 = 4) = False from by decide, show (nI 7 = 5) = False from by decide, show (nI 7 = 6) = False from by decide, show (nI 7 = 7) = True from by decide, if_true, if_false]
    exact ((hf _).mpr rfl)
theorem within_f {σ : gM} {lo hi v q : Nat} (hv : v ≤ 100000) (hl : lo ≤ 9999 ∧ hi ≤ 9999) (h8 : σ 0 0 8 = 0) (h4 : σ 0 0 4 = nI q) (h3 : σ 0 0 3 = nI v) (h : ¬ (lo ≤ v ∧ v ≤ hi)) : X0_isWithin (nI lo) (nI hi) σ = some (false, gup (gup σ 0 0 8 2) 0 0 9 (nI q)) := by
  unfold X0_isWithin
  rw [gJ0_e, h3]
  dsimp only
  have hF : gCall (X0_fail 2 (σ 0 0 4) σ) (fun (_ : Unit) (m2 : gM) => some (false, m2)) = some (false, gup (gup σ 0 0 8 2) 0 0 9 (nI q)) := by
    rw [gCall_eq (fail_0 h8), h4]
  by_cases c : v < lo
  · rw [if_pos (by rw [nI_ltt (by omega) (by omega)]; exact c)]
    exact hF
  · rw [if_neg (by rw [nI_ltt (by omega) (by omega)]; exact c), if_neg (by rw [nI_leq (by omega) (by omega)]; omega)]
    exact hF
theorem within_t {σ : gM} {lo hi v : Nat} (hl : lo ≤ 9999 ∧ hi ≤ 9999) (h3 : σ 0 0 3 = nI v) (h : lo ≤ v ∧ v ≤ hi) : X0_isWithin (nI lo) (nI hi) σ = some (true, σ) := by
  unfold X0_isWithin
  rw [gJ0_e, h3]
  dsimp only
  rw [if_neg (by rw [nI_ltt (by omega) (by omega)]; omega), if_pos (by rw [nI_leq (by omega) (by omega)]; omega)]
def due (d lo hi : Nat) : Prop := (d = 1 ∧ lo = 0 ∧ hi = 1023) ∨ (d = 3 ∧ lo = 0 ∧ hi = 1023) ∨ (d = 5 ∧ lo = 1 ∧ hi = 99) ∨ (d = 6 ∧ lo = 0 ∧ hi = 1023) ∨ (d = 8 ∧ lo = 0 ∧ hi = 9999) ∨ (d = 9 ∧ lo = 1 ∧ hi = 9)
/-- the number is out of its range -/
theorem en_range {σ : gM} {d lo hi v q : Nat} (hq : q ≤ 300) (hdu : due d lo hi) (h8 : σ 0 0 8 = 0) (h4 : σ 0 0 4 = nI q) (h2 : σ 0 0 2 = nI d) (hv : v ≤ 100000) (h3 : σ 0 0 3 = nI v) (h : ¬ (lo ≤ v ∧ v ≤ hi)) : X0_endNumber 8 σ = some ((), fS σ 2 q) := by
  unfold X0_endNumber X0_takeNumber
  have hw := within_f hv (by unfold due at hdu; omega) h8 h4 h3 h
  rw [if_neg (by rw [h4]; exact nI_nm1 (by omega)), gJ0_e, h2]
  unfold due at hdu
  rcases hdu with ⟨rfl, rfl, rfl⟩ | ⟨rfl, rfl, rfl⟩ | ⟨rfl, rfl, rfl⟩ | ⟨rfl, rfl, rfl⟩ | ⟨rfl, rfl, rfl⟩ | ⟨rfl, rfl, rfl⟩
  · rw [if_pos (by decide), gCall_eq (show X0_isWithin 0 1023 σ = _ from hw)]
    rfl
  · rw [if_neg (by decide), if_neg (by decide), if_pos (by decide), gCall_eq (show X0_isWithin 0 1023 σ = _ from hw)]
    rfl
  · rw [if_neg (by decide), if_neg (by decide), if_neg (by decide), if_neg (by decide), if_pos (by decide), gCall_eq (show X0_isWithin 1 99 σ = _ from hw)]
    rfl
  · rw [if_neg (by decide), if_neg (by decide), if_neg (by decide), if_neg (by decide), if_neg (by decide), if_pos (by decide), gCall_eq (show X0_isWithin 0 1023 σ = _ from hw)]
    rfl
  · rw [if_neg (by decide), if_neg (by decide), if_neg (by decide), if_neg (by decide), if_neg (by decide), if_neg (by decide), if_neg (by decide), if_pos (by decide), gCall_eq (show X0_isWithin 0 9999 σ = _ from hw)]
    rfl
  · rw [if_neg (by decide), if_neg (by decide), if_neg (by decide), if_neg (by decide), if_neg (by decide), if_neg (by decide), if_neg (by decide), if_neg (by decide), if_pos (by decide), gCall_eq (show X0_isWithin 1 9 σ = _ from hw)]
    rfl
def pE (t k i : Nat) : Prop := pTo t k i ∨ (t = 0 ∧ k = 0 ∧ (i = 2 ∨ i = 4 ∨ i = 5 ∨ i = 6))
theorem pTx_E (t k i : Nat) (h : pTx t k i) : pE t k i := Or.inl (Or.inl h)
theorem pTo_E (t k i : Nat) (h : pTo t k i) : pE t k i := Or.inl h
theorem pE_R {x σ σ1 : gM} (e : Eqv pRx x σ) (g : Eqv pE σ σ1) : Eqv pRx x σ1 := e.tr (g.mono (fun t k i h => by unfold pE pTo pTx at h; unfold pRx; omega))
theorem tRx_cg {S : gT} {σ σ1 : gM} (h : tRx S σ) (e1 : σ1 5 8 2 = σ 5 8 2) (e2 : σ1 0 0 7 = σ 0 0 7) (e3 : ∀ i, σ1 38 8 i = σ 38 8 i) (e4 : ∀ i, σ1 39 8 i = σ 39 8 i) : tRx S σ1 := ⟨e1.trans h.1, e2.trans h.2.1, fun i hi => ⟨(e3 i).trans (h.2.2 i hi).1, (e4 i).trans (h.2.2 i hi).2⟩⟩
/-- a field of the reader is set -/
theorem tRx_up {S : gT} {σ : gM} {i : Nat} {v : Int32} (h : tRx S σ) (hi : i ≠ 7) : tRx S (gup σ 0 0 i v) := tRx_cg h (by simp [gup]) (by rw [gup_at, if_neg (Ne.symm hi)]) (fun i => by simp [gup]) (fun i => by simp [gup])
def pF (t k i : Nat) : Prop := pTx t k i ∨ (t = 0 ∧ k = 0 ∧ (i = 2 ∨ i = 4 ∨ i = 5 ∨ i = 6))
theorem pTx_F (t k i : Nat) (h : pTx t k i) : pF t k i := Or.inl h
theorem pF_E (t k i : Nat) (h : pF t k i) : pE t k i := h.elim (fun a => Or.inl (Or.inl a)) Or.inr
theorem en_1 {S : gT} {σ : gM} {v q : Nat} (hq : q ≤ 300) (hS : SOK S) (hT : tRx S σ) (h4 : σ 0 0 4 = nI q) (h2 : σ 0 0 2 = nI 1) (h3 : σ 0 0 3 = nI v) (hv : v ≤ 1023) : ∃ σ1, X0_endNumber 8 σ = some ((), σ1) ∧ tRx (em S v nM) σ1 ∧ σ1 0 0 2 = nI 2 ∧ σ1 0 0 4 = -1 ∧ σ1 0 0 5 = nI v ∧ Eqv pF σ σ1 := by
  unfold X0_endNumber X0_takeNumber
  have hw : X0_isWithin 0 1023 σ = _ := within_t (lo := 0) (hi := 1023) (by omega) h3 (by omega)
  rw [if_neg (by rw [h4]; exact nI_nm1 (by omega)), gJ0_e, h2, if_pos (by decide), gCall_eq hw, if_pos rfl, gSet, gup_at, if_neg (by decide), h3]
  obtain ⟨σ', x1, x2, x3⟩ := x_emit (l := v) (v := -1) hS (tRx_up (i := 5) (v := nI v) hT (by omega))
  rw [gCall_eq x1, gSet, gCall_some, gSet]
  refine ⟨_, rfl, tRx_up (tRx_up x2 (by omega)) (by omega), by rw [gup_at, if_neg (by decide), gup_at, if_pos rfl]; rfl, by rw [gup_at, if_pos rfl], ?_, ?_⟩
  · rw [gup_at, if_neg (by decide), gup_at, if_neg (by decide), x3 0 0 5 (by unfold pTx; omega), gup_at, if_pos rfl]
  · exact (((Eqv.up (by unfold pF; omega)).tr (x3.mono pTx_F)).tr (Eqv.up (by unfold pF; omega))).tr (Eqv.up (by unfold pF; omega))
theorem en_3 {S : gT} {σ : gM} {v q : Nat} (hq : q ≤ 300) (hT : tRx S σ) (h4 : σ 0 0 4 = nI q) (h2 : σ 0 0 2 = nI 3) (h3 : σ 0 0 3 = nI v) (hv : v ≤ 1023) : ∃ σ1, X0_endNumber 8 σ = some ((), σ1) ∧ tRx S σ1 ∧ σ1 0 0 2 = nI 4 ∧ σ1 0 0 4 = -1 ∧ σ1 0 0 5 = σ 0 0 5 ∧ σ1 0 0 6 = nI v ∧ Eqv pF σ σ1 := by
  unfold X0_endNumber X0_takeNumber
  have hw : X0_isWithin 0 1023 σ = _ := within_t (lo := 0) (hi := 1023) (by omega) h3 (by omega)
  rw [if_neg (by rw [h4]; exact nI_nm1 (by omega)), gJ0_e, h2, if_neg (by decide), if_neg (by decide), if_pos (by decide), gCall_eq hw, if_pos rfl, gSet, gSet, gCall_some, gSet, h3]
  refine ⟨_, rfl, tRx_up (tRx_up (tRx_up hT (by omega)) (by omega)) (by omega), by simp [gup]; rfl, by rw [gup_at, if_pos rfl], by simp [gup], by simp [gup], ?_⟩
  exact ((Eqv.up (by unfold pF; omega)).tr (Eqv.up (by unfold pF; omega))).tr (Eqv.up (by unfold pF; omega))
theorem en_6 {S : gT} {σ : gM} {v q : Nat} (hq : q ≤ 300) (hT : tRx S σ) (h4 : σ 0 0 4 = nI q) (h2 : σ 0 0 2 = nI 6) (h3 : σ 0 0 3 = nI v) (hv : v ≤ 1023) : ∃ σ1, X0_endNumber 8 σ = some ((), σ1) ∧ tRx S σ1 ∧ σ1 0 0 2 = nI 7 ∧ σ1 0 0 4 = -1 ∧ σ1 0 0 5 = nI v ∧ Eqv pF σ σ1 := by
  unfold X0_endNumber X0_takeNumber
  have hw : X0_isWithin 0 1023 σ = _ := within_t (lo := 0) (hi := 1023) (by omega) h3 (by omega)
  rw [if_neg (by rw [h4]; exact nI_nm1 (by omega)), gJ0_e, h2, if_neg (by decide), if_neg (by decide), if_neg (by decide), if_neg (by decide), if_neg (by decide), if_pos (by decide), gCall_eq hw, if_pos rfl, gSet, gSet, gCall_some, gSet, h3]
  refine ⟨_, rfl, tRx_up (tRx_up (tRx_up hT (by omega)) (by omega)) (by omega), by simp [gup]; rfl, by rw [gup_at, if_pos rfl], by simp [gup], ?_⟩
  exact ((Eqv.up (by unfold pF; omega)).tr (Eqv.up (by unfold pF; omega))).tr (Eqv.up (by unfold pF; omega))
theorem en_5 {S : gT} {σ : gM} {v q line st : Nat} (hq : q ≤ 300) (hS : SOK S) (hT : tRx S σ) (h4 : σ 0 0 4 = nI q) (h2 : σ 0 0 2 = nI 5) (h3 : σ 0 0 3 = nI v) (hv : 1 ≤ v ∧ v ≤ 99) (h5 : σ 0 0 5 = nI line) (h6 : σ 0 0 6 = nI st) (hl : line < 1024) (hs : st < 1024) : ∃ σ1, X0_endNumber 8 σ = some ((), σ1) ∧ tRx (eN S (fun j => wS line st (1 + j)) (v - 1)) σ1 ∧ σ1 0 0 2 = nI 0 ∧ σ1 0 0 4 = -1 ∧ Eqv pF σ σ1 := by
  unfold X0_endNumber X0_takeNumber
  have hw : X0_isWithin 1 99 σ = _ := within_t (lo := 1) (hi := 99) (by omega) h3 (by omega)
  obtain ⟨σ', x1, x2, x3⟩ := x_strides (c := v) hS hT h5 h6 hl hs hv
  rw [if_neg (by rw [h4]; exact nI_nm1 (by omega)), gJ0_e, h2, if_neg (by decide), if_neg (by decide), if_neg (by decide), if_neg (by decide), if_pos (by decide), gCall_eq hw, if_pos rfl, h3, gCall_eq x1, gSet, gCall_some, gSet]
  refine ⟨_, rfl, tRx_up (tRx_up x2 (by omega)) (by omega), by simp [gup]; rfl, by rw [gup_at, if_pos rfl], ?_⟩
  exact ((x3.mono pTx_F).tr (Eqv.up (by unfold pF; omega))).tr (Eqv.up (by unfold pF; omega))
theorem en_8 {S : gT} {σ : gM} {v q line : Nat} (hq : q ≤ 300) (hS : SOK S) (hT : tRx S σ) (h4 : σ 0 0 4 = nI q) (h2 : σ 0 0 2 = nI 8) (h3 : σ 0 0 3 = nI v) (hv : v ≤ 9999) (h5 : σ 0 0 5 = nI line) : ∃ σ1, X0_endNumber 8 σ = some ((), σ1) ∧ tRx (em S line (nI v)) σ1 ∧ σ1 0 0 2 = nI 0 ∧ σ1 0 0 4 = -1 ∧ Eqv pF σ σ1 := by
  unfold X0_endNumber X0_takeNumber
  have hw : X0_isWithin 0 9999 σ = _ := within_t (lo := 0) (hi := 9999) (by omega) h3 (by omega)
  obtain ⟨σ', x1, x2, x3⟩ := x_emit (l := line) (v := nI v) hS hT
  rw [if_neg (by rw [h4]; exact nI_nm1 (by omega)), gJ0_e, h2, if_neg (by decide), if_neg (by decide), if_neg (by decide), if_neg (by decide), if_neg (by decide), if_neg (by decide), if_neg (by decide), if_pos (by decide), gCall_eq hw, if_pos rfl, h3, h5, gCall_eq x1, gSet, gCall_some, gSet]
  refine ⟨_, rfl, tRx_up (tRx_up x2 (by omega)) (by omega), by simp [gup]; rfl, by rw [gup_at, if_pos rfl], ?_⟩
  exact ((x3.mono pTx_F).tr (Eqv.up (by unfold pF; omega))).tr (Eqv.up (by unfold pF; omega))
theorem en_9 {S : gT} {σ : gM} {v q o fr : Nat} (hq : q ≤ 300) (hS : SOK S) (hT : tRx S σ) (h4 : σ 0 0 4 = nI q) (h2 : σ 0 0 2 = nI 9) (h3 : σ 0 0 3 = nI v) (hv : 1 ≤ v ∧ v ≤ 9) (ho : 0 < o ∧ o ≤ 4) (h1 : σ 0 0 1 = nI o) (h16 : σ 16 0 (o - 1) = nI fr) (hf : fr ≤ S.1) : ∃ σ1, X0_endNumber 8 σ = some ((), σ1) ∧ tRx (eN S (wC S fr (S.1 - fr)) ((S.1 - fr) * (v - 1))) σ1 ∧ σ1 0 0 2 = nI 0 ∧ σ1 0 0 4 = -1 ∧ σ1 0 0 1 = nI (o - 1) ∧ Eqv pE σ σ1 := by
  unfold X0_endNumber X0_takeNumber
  have hw : X0_isWithin 1 9 σ = _ := within_t (lo := 1) (hi := 9) (by omega) h3 (by omega)
  obtain ⟨σ', x1, x2, x3, x4⟩ := x_close (c := v) hS hT ho h1 h16 hf hv
  rw [if_neg (by rw [h4]; exact nI_nm1 (by omega)), gJ0_e, h2, if_neg (by decide), if_neg (by decide), if_neg (by decide), if_neg (by decide), if_neg (by decide), if_neg (by decide), if_neg (by decide), if_neg (by decide), if_pos (by decide), gCall_eq hw, if_pos rfl, h3, gCall_eq x1, gSet, gCall_some, gSet]
  refine ⟨_, rfl, tRx_up (tRx_up x3 (by omega)) (by omega), by simp [gup]; rfl, by rw [gup_at, if_pos rfl], by simp [gup]; exact x2, ?_⟩
  exact ((x4.mono pTo_E).tr (Eqv.up (by unfold pE; omega))).tr (Eqv.up (by unfold pE; omega))
