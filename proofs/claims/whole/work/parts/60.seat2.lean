/-! LAYER 2: lines that are seated: looking for a seat. -/
def SE (x m : gM) (n : Nat) (sg : Nat → Nat) : Prop := x 2 0 5 = nI n ∧ ∃ (l st : Nat → Nat) (ow : Nat → Option Nat), OK n st ow ∧ (∀ c, c < n → l c < 1024 ∧ sg c < 64 ∧ x 20 0 c = nI (l c) ∧ x 21 0 c = nI (st c) ∧ m 58 0 (sg c) = nI (l c)) ∧ (∀ p, p < 64 → x 22 0 p = oI (ow p) ∧ m 59 0 p = oI ((ow p).map sg)) ∧ ∀ c d, c < n → d < n → sg c = sg d → c = d
/-- places looked at, and who waits -/
def BS (n root line : Nat) (l st : Nat → Nat) (ow : Nat → Option Nat) (sg Q : Nat → Nat) (rb : Nat → Option Nat) (e : Nat) (x m σ τ : gM) : Prop :=
  e ≤ n + 1 ∧ RBQ n root e st sg Q rb σ τ ∧ (∀ q, q < e → σ 24 0 q = nI (Q q) ∧ τ 62 0 q = nI (sgx sg n root (Q q))) ∧ (∀ p c, p < 64 → rb p = some c → ∃ q, q < e ∧ c = Q q) ∧ e = 1 + cntP (fun p => (rb p).isSome && (ow p).isSome) 64 ∧
  (∀ t k i, ¬ ((t = 23 ∨ t = 24) ∧ k = 0) → σ t k i = x t k i) ∧ ∀ t k i, ¬ ((t = 60 ∨ t = 61 ∨ t = 62) ∧ k = 0) → τ t k i = m t k i
theorem XK_pi {x : gM} {W b l w : Nat} {mk : Nat → Nat → Nat} (h : XK x W b mk) (hl : l < 1024) (hw : w < W) : X3_placeIn 0 (nI l) (nI w) x = some (nI (16 * w + ixR (mk w) l b), x) := by
  unfold X3_placeIn
  rw [gCall_eq (XK_ix h hl hw), li16, pk_mul, nI_add, Nat.mul_comm]
theorem MK_pi {m : gM} {W b l w : Nat} {mk : Nat → Nat → Nat} (h : MK m W b mk) (hl : l < 1024) (hw : w < W) : X9_placeOf (nI l) (nI w) m = some (nI (16 * w + ixR (mk w) l b), m) := by
  unfold X9_placeOf
  rw [gCall_eq (MK_ix h hl hw), li16, pk_mul, nI_add]
/-- what comes out of it -/
def SR (n root : Nat) (sg : Nat → Nat) (x m : gM) (p q : Option (Bool × gM)) : Prop := ∃ r x' m', p = some (r, x') ∧ q = some (r, m') ∧ (r = true → SE x' m' (n + 1) (sgx sg n root)) ∧ (r = false → SE x' m' n sg) ∧ Eqv pSX x x' ∧ Eqv pSM m m'
theorem seat_ok {x m : gM} {n root line W b : Nat} {sg : Nat → Nat} {mk : Nat → Nat → Nat} (hX : XK x W b mk) (hM : MK m W b mk) (h : SE x m n sg) (hn : n ≤ 63) (hr : root < 64) (hroot : ∀ c, c < n → sg c ≠ root) (hl : line < 1024) (hm : m 58 0 root = nI line) : SR n root sg x m (X2_admit 0 (nI line) x) (X9_fits (nI root) m) := by
  obtain ⟨h5, l, st, ow, hO, hc, hp, hi⟩ := h
  have hW := hX.1.2.2.1
  have hb4 := hX.1.2.2.2
  unfold X2_admit X9_fits
  have e60 := fil_loop (m := m) (R := fun (m1 : gM) => gPut m1 62 0 0 (nI root) (fun (m2 : gM) => gPut m2 61 0 (nI root) (-1) (fun (m3 : gM) => gJ1 (fun (v4 : Int32) (m5 : gM) => gCall (X9_goOn v4 m5) (fun (r7 : Unit) (m6 : gM) => some (true, m6))) (fun (j116 : Int32 → gM → Option (Bool × gM)) => gL2 FU (X9_fits_b39 j116) 1 0 m3)))) (f := X9_fits_b2 (fun (m1 : gM) => gPut m1 62 0 0 (nI root) (fun (m2 : gM) => gPut m2 61 0 (nI root) (-1) (fun (m3 : gM) => gJ1 (fun (v4 : Int32) (m5 : gM) => gCall (X9_goOn v4 m5) (fun (r7 : Unit) (m6 : gM) => some (true, m6))) (fun (j116 : Int32 → gM → Option (Bool × gM)) => gL2 FU (X9_fits_b39 j116) 1 0 m3))))) 60 0 (-1) 64 (fun i σ K hi => by
    unfold X9_fits_b2
    rw [if_neg (by rw [li64, nI_leq (by omega) (by omega)]; omega), gPut_nI (show i < 64 from hi) (by omega), gLet, nI_1]) (fun σ K => by
    unfold X9_fits_b2
    rw [if_pos (by rw [li64, nI_leq (by omega) (by omega)]; omega)]) (by rw [FU_eq]; omega)
  rw [gJ0_e, e60, h5, if_pos (by rw [li64, nI_ltt (by omega) (by omega)]; omega), gPut_nI (show n < 64 by omega) (by omega), gup_t (show 2 ≠ 20 by omega), h5, gPut_nI (show n < 64 by omega) (by omega), gup_t (show 2 ≠ 21 by omega), gup_t (show 2 ≠ 20 by omega), h5, show gPut _ 24 0 0 _ _ = _ from gPut_nI (i := 0) (show 0 < 64 by omega) (by omega), gCall_eq (fill_ok (show glen 23 < FU by rw [FU_eq]; decide)), show gPut _ 62 0 0 _ _ = _ from gPut_nI (i := 0) (show 0 < 64 by omega) (by omega), gPut_nI (show root < 64 from hr) (by omega), gJ1_e, gJ1_e, show glen 23 = 64 from rfl]
  generalize hx1 : gfil (gup (gup (gup x 20 0 n (nI line)) 21 0 n (-1)) 24 0 0 (nI n)) 23 0 (-1) 64 = x1
  generalize hm1 : gup (gup (gfil m 60 0 (-1) 64) 62 0 0 (nI root)) 61 0 root (-1) = m1
  have ox : ∀ t k i, ¬ ((t = 23 ∨ t = 24) ∧ k = 0) → ¬ ((t = 20 ∨ t = 21) ∧ k = 0 ∧ i = n) → x1 t k i = x t k i := by
    intro t k i z1 z2
    rw [← hx1]
    unfold gfil gup
    rw [if_neg (by omega), if_neg (by omega), if_neg (by omega), if_neg (by omega)]
  have om : ∀ t k i, ¬ ((t = 60 ∨ t = 61 ∨ t = 62) ∧ k = 0) → m1 t k i = m t k i := by
    intro t k i z
    rw [← hm1]
    unfold gup
    rw [if_neg (by omega), if_neg (by omega)]
    unfold gfil
    rw [if_neg (by omega)]
  have x20 : x1 20 0 n = nI line := by
    rw [← hx1]; unfold gfil; rw [if_neg (by omega), gup_t (by omega), gup_t (by omega), gup_at, if_pos rfl]
  have x21 : x1 21 0 n = -1 := by
    rw [← hx1]; unfold gfil; rw [if_neg (by omega), gup_t (by omega), gup_at, if_pos rfl]
  have x24 : x1 24 0 0 = nI n := by
    rw [← hx1]; unfold gfil; rw [if_neg (by omega), gup_at, if_pos rfl]
  have x23 : ∀ p, p < 64 → x1 23 0 p = -1 := fun p hp => by
    rw [← hx1]; unfold gfil; rw [if_pos ⟨rfl, rfl, hp⟩]
  have m60 : ∀ p, p < 64 → m1 60 0 p = -1 := fun p hp => by
    rw [← hm1, gup_t (by omega), gup_t (by omega)]; unfold gfil; rw [if_pos ⟨rfl, rfl, hp⟩]
  have m61 : m1 61 0 root = -1 := by rw [← hm1, gup_at, if_pos rfl]
  have m62 : m1 62 0 0 = nI root := by rw [← hm1, gup_t (by omega), gup_at, if_pos rfl]
  have eX : Eqv pSX x x1 := fun t k i z => ox t k i (fun y => z ⟨by omega, y.2⟩) (fun y => z ⟨by omega, y.2.1⟩)
  have eM : Eqv pSM m m1 := fun t k i z => om t k i (fun y => z ⟨by omega, y.2⟩)
  -- the guests' lines, the new one among them
  have hl2 : ∀ c, c ≤ n → x1 20 0 c = nI (if c = n then line else l c) ∧ m1 58 0 (sgx sg n root c) = nI (if c = n then line else l c) ∧ (if c = n then line else l c) < 1024 ∧ sgx sg n root c < 64 := by
    intro c hcn
    unfold sgx
    by_cases z : c = n
    · subst z
      simp only [if_pos]
      exact ⟨x20, by rw [om 58 0 _ (by omega)]; exact hm, hl, hr⟩
    · obtain ⟨k1, k2, k3, k4, k5⟩ := hc c (by omega)
      simp only [if_neg z]
      exact ⟨by rw [ox 20 0 c (by omega) (by omega)]; exact k3, by rw [om 58 0 _ (by omega)]; exact k5, k1, k2⟩
  have b0 : BS n root line l st ow sg (fun _ => n) (fun _ => none) 1 x1 m1 x1 m1 := by
    refine ⟨by omega, ⟨⟨x21, m61⟩, fun p hp => ⟨x23 p hp, m60 p hp⟩, rfl, fun q q0 q1 => by omega, fun q q' q1 q2 _ => by omega⟩, fun q q1 => ?_, fun p c _ z => (by cases z), ?_, fun _ _ _ _ => rfl, fun _ _ _ _ => rfl⟩
    · have : q = 0 := by omega
      subst this
      exact ⟨x24, by rw [m62]; unfold sgx; rw [if_pos rfl]⟩
    · have h0 : cntP (fun p => ((fun _ => (none : Option Nat)) p).isSome && (ow p).isSome) 64 = 0 := cntP_none _ (fun _ _ => rfl)
      rw [h0]
  have hcnt := OK_cnt n st ow hO
  -- where it ends well
  have good : ∀ (Q : Nat → Nat) (rb : Nat → Option Nat) (e a p : Nat) (σ τ : gM), BS n root line l st ow sg Q rb e x1 m1 σ τ → a < e → p < 64 → rb p = some (Q a) → ow p = none → SR n root sg x m (gCall (X2_shiftTo (nI p) σ) (fun (r9 : Unit) (m8 : gM) => gLet ((m8 2 0 5) + 1) (fun (x10 : Int32) => gSet m8 2 0 5 x10 (fun (m11 : gM) => some (true, m11))))) (gCall (X9_goOn (nI p) τ) (fun (r7 : Unit) (m6 : gM) => some (true, m6))) := by
    rintro Q rb e a p σ τ ⟨e1, hQ, -, -, -, oσ, oτ⟩ ha hp64 hrb how
    have hQn : ∀ p, p < 64 → σ 22 0 p = oI (ow p) ∧ τ 59 0 p = oI ((ow p).map (sgx sg n root)) := by
      intro p' hp'
      obtain ⟨k1, k2⟩ := hp p' hp'
      refine ⟨by rw [oσ 22 0 p' (by omega), ox 22 0 p' (by omega) (by omega)]; exact k1, ?_⟩
      rw [oτ 59 0 p' (by omega), om 59 0 p' (by omega), k2]
      cases z : ow p' with
      | none => rfl
      | some c =>
        have := (hO.2 p' c hp' z).1
        show nI (sg c) = nI (sgx sg n root c)
        unfold sgx
        rw [if_neg (by omega)]
    obtain ⟨σ', τ', f1, f2, st', ow', g1, g2, g3, g4, g5⟩ := chain_ok (n := n) (root := root) (e := e) (st := st) (sg := sg) (Q := Q) (rb := rb) hn hr (fun c hc' => (hc c hc').2.1) (by omega) a ha FU FU 0 p ow st σ τ (by rw [FU_eq]; omega) (by rw [FU_eq]; omega) (by omega) hp64 hrb hQ (fun c hc' => by
      obtain ⟨k1, k2⟩ := hO.1 c hc'
      refine ⟨k1, fun z => ?_, k2, ?_⟩
      · rw [z, how] at k2; cases k2
      · rw [oσ 21 0 c (by omega), ox 21 0 c (by omega) (by omega)]; exact (hc c hc').2.2.2.1) (fun p' c _ h64 z => hO.2 p' c h64 z) hQn (fun _ _ _ => rfl)
    have f1' : X2_shiftTo (nI p) σ = some ((), σ') := f1
    have f2' : X9_goOn (nI p) τ = some ((), τ') := f2
    have s5 : σ' 2 0 5 = nI n := by rw [g4 2 0 5 (by omega), oσ 2 0 5 (by omega), ox 2 0 5 (by omega) (by omega)]; exact h5
    rw [gCall_eq f1', gCall_eq f2', s5, nI_1, gLet, gSet]
    refine ⟨true, _, τ', rfl, rfl, fun _ => ⟨by rw [gup_at, if_pos rfl], fun c => if c = n then line else l c, st', ow', g1, fun c hc' => ?_, fun p' hp' => ⟨by rw [gup_t (by omega)]; exact (g3 p' hp').1, (g3 p' hp').2⟩, fun c d hc' hd' e' => ?_⟩, fun z => (by cases z), ?_, ?_⟩
    · obtain ⟨k1, k2, k3, k4⟩ := hl2 c (by omega)
      refine ⟨k3, k4, ?_, ?_, ?_⟩
      · rw [gup_t (by omega), g4 20 0 c (by omega), oσ 20 0 c (by omega)]; exact k1
      · rw [gup_t (by omega)]; exact g2 c hc'
      · rw [g5 58 0 _ (by omega), oτ 58 0 _ (by omega)]; exact k2
    · unfold sgx at e'
      by_cases z1 : c = n
      · by_cases z2 : d = n
        · omega
        · rw [if_pos z1, if_neg z2] at e'
          exact absurd e'.symm (hroot d (by omega))
      · rw [if_neg z1] at e'
        by_cases z2 : d = n
        · rw [if_pos z2] at e'
          exact absurd e' (hroot c (by omega))
        · rw [if_neg z2] at e'
          exact hi c d (by omega) (by omega) e'
    · refine eX.tr (fun t k i z => ?_)
      unfold gup
      unfold pSX at z
      rw [if_neg (by omega), g4 t k i (by omega), oσ t k i (by omega)]
    · refine eM.tr (fun t k i z => ?_)
      unfold pSM at z
      rw [g5 t k i (by omega), oτ t k i (by omega)]
  -- where it doesn't
  have bad : ∀ (Q : Nat → Nat) (rb : Nat → Option Nat) (e : Nat) (σ τ : gM), BS n root line l st ow sg Q rb e x1 m1 σ τ → SR n root sg x m (some (false, σ)) (some (false, τ)) := by
    rintro Q rb e σ τ ⟨e1, hQ, -, -, -, oσ, oτ⟩
    refine ⟨false, σ, τ, rfl, rfl, fun z => (by cases z), fun _ => ⟨by rw [oσ 2 0 5 (by omega), ox 2 0 5 (by omega) (by omega)]; exact h5, l, st, ow, hO, fun c hc' => ?_, fun p' hp' => ⟨by rw [oσ 22 0 p' (by omega), ox 22 0 p' (by omega) (by omega)]; exact (hp p' hp').1, by rw [oτ 59 0 p' (by omega), om 59 0 p' (by omega)]; exact (hp p' hp').2⟩, hi⟩, eX.tr (fun t k i z => oσ t k i (fun y => z ⟨by omega, y.2⟩)), eM.tr (fun t k i z => oτ t k i (fun y => z ⟨by omega, y.2⟩))⟩
    obtain ⟨k1, k2, k3, k4, k5⟩ := hc c hc'
    exact ⟨k1, k2, by rw [oσ 20 0 c (by omega), ox 20 0 c (by omega) (by omega)]; exact k3, by rw [oσ 21 0 c (by omega), ox 21 0 c (by omega) (by omega)]; exact k4, by rw [oτ 58 0 _ (by omega), om 58 0 _ (by omega)]; exact k5⟩
  refine gL2_two (fun i a b σ τ => ∃ Q rb e, a = nI e ∧ b = nI e ∧ BS n root line l st ow sg Q rb e x1 m1 σ τ) (SR n root sg x m) 64 ?_ ?_ FU FU 0 1 1 x1 m1 (by omega) (by rw [FU_eq]; omega) (by rw [FU_eq]; omega) ⟨_, _, 1, rfl, rfl, b0⟩
  · rintro i a b' σ τ K K' hi64 ⟨Q, rb, e, rfl, rfl, hB⟩ hK
    unfold X2_admit_b54 X9_fits_b39
    have he := hB.1
    by_cases c0 : e ≤ i
    · rw [if_pos (by rw [nI_leq (by omega) (by omega)]; exact c0), if_pos (by rw [nI_leq (by omega) (by omega)]; exact c0)]
      exact bad Q rb e σ τ hB
    · have hq := hB.2.2.1 i (by omega)
      rw [if_neg (by rw [nI_leq (by omega) (by omega)]; exact c0), if_neg (show ¬ 64 ≤ nI i by rw [li64, nI_leq (by omega) (by omega)]; omega), if_neg (by rw [nI_leq (by omega) (by omega)]; exact c0), gAt_nI (show i < 64 by omega) (by omega), hq.1, gAt_nI (show i < 64 by omega) (by omega), hq.2]
      have hQi : Q i ≤ n := by
        rcases Nat.eq_zero_or_pos i with z | z
        · rw [z, hB.2.1.2.2.1]; exact Nat.le_refl _
        · exact Nat.le_of_lt (hB.2.1.2.2.2.1 i z (by omega)).1
      obtain ⟨g1, g2, g3, g4⟩ := hl2 (Q i) hQi
      refine gL2_two (fun w a b σ' τ' => ∃ Q' rb' e', a = nI e' ∧ b = nI e' ∧ BS n root line l st ow sg Q' rb' e' x1 m1 σ' τ' ∧ Q' i = Q i ∧ i < e') (SR n root sg x m) W ?_ ?_ FU FU 0 (nI e) (nI e) σ τ (by omega) (by rw [FU_eq]; omega) (by rw [FU_eq]; omega) ⟨Q, rb, e, rfl, rfl, hB, rfl, by omega⟩
      · rintro w a b' σ' τ' K2 K3 hw ⟨Q', rb', e', rfl, rfl, hB', hQ', hie⟩ hK2
        unfold X2_admit_b79 X9_fits_b55
        obtain ⟨f1, f2, f3, f4, f5, oσ, oτ⟩ := id hB'
        have hX' : XK σ' W b mk := XK_cg hX (fun t j ht => by rw [oσ t 0 j (by omega), ox t 0 j (by omega) (by omega)])
        have hM' : MK τ' W b mk := MK_cg hM (fun j => by rw [oτ 47 0 j (by omega), om 47 0 j (by omega)])
        have hix : ixR (mk w) (if Q i = n then line else l (Q i)) b < 16 := ixR_16 hb4
        rw [hX'.1.1, if_neg (by rw [nI_leq (by omega) (by omega)]; omega), gAt_nI (show Q i < 64 by omega) (by omega), oσ 20 0 _ (by omega), g1, gCall_eq (XK_pi hX' g3 hw), show gAt τ' 47 0 36 _ = _ from gAt_nI (i := 36) (show 36 < 30843 by omega) (by omega), hM'.1.1, if_neg (show ¬ nI W ≤ nI w by rw [nI_leq (by omega) (by omega)]; omega), gAt_nI (t := 58) (show sgx sg n root (Q i) < 64 from g4) (by omega), oτ 58 0 _ (by omega), g2, gCall_eq (MK_pi hM' g3 hw)]
        revert hix
        generalize ixR (mk w) (if Q i = n then line else l (Q i)) b = ix
        intro hix
        have hp64 : 16 * w + ix < 64 := by omega
        revert hp64
        generalize 16 * w + ix = p
        intro hp64
        obtain ⟨u1, u2⟩ := f2.2.1 p hp64
        rw [gAt_nI (show p < 64 from hp64) (by omega), u1, gAt_nI (show p < 64 from hp64) (by omega), u2]
        cases hrp : rb' p with
        | some c =>
          obtain ⟨qc, qc1, qc2⟩ := f4 p c hp64 hrp
          have hcn : c ≤ n := by
            rw [qc2]
            rcases Nat.eq_zero_or_pos qc with z | z
            · rw [z, f2.2.2.1]; exact Nat.le_refl _
            · exact Nat.le_of_lt (f2.2.2.2.1 qc z qc1).1
          have hsc := (hl2 c hcn).2.2.2
          rw [show oI (some c) = nI c from rfl, show oI (Option.map (sgx sg n root) (some c)) = nI (sgx sg n root c) from rfl, if_neg (nI_nm1 (by omega)), if_neg (nI_nm1 (by omega)), gLet, gLet, nI_1]
          exact hK2 _ _ _ _ ⟨Q', rb', e', rfl, rfl, hB', hQ', hie⟩
        | none =>
          rw [show oI none = -1 from rfl, show oI (Option.map (sgx sg n root) none) = -1 from rfl, if_pos rfl, if_pos rfl, gPut_nI (t := 23) (show p < 64 from hp64) (by omega), gPut_nI (t := 60) (show p < 64 from hp64) (by omega), gAt_nI (t := 22) (show p < 64 from hp64) (by omega), gAt_nI (t := 59) (show p < 64 from hp64) (by omega), gup_t (show 22 ≠ 23 by omega), oσ 22 0 p (by omega), ox 22 0 p (by omega) (by omega), gup_t (show 59 ≠ 60 by omega), oτ 59 0 p (by omega), om 59 0 p (by omega), (hp p hp64).1, (hp p hp64).2]
          have t23 : ∀ p', p' < 64 → gup σ' 23 0 p (nI (Q i)) 23 0 p' = oI (if p' = p then some (Q i) else rb' p') := by
            intro p' hp'
            rw [gup_at]
            by_cases z : p' = p
            · rw [if_pos z, if_pos z]; rfl
            · rw [if_neg z, if_neg z]; exact (f2.2.1 p' hp').1
          have t60 : ∀ p', p' < 64 → gup τ' 60 0 p (nI (sgx sg n root (Q i))) 60 0 p' = oI (Option.map (sgx sg n root) (if p' = p then some (Q i) else rb' p')) := by
            intro p' hp'
            rw [gup_at]
            by_cases z : p' = p
            · rw [if_pos z, if_pos z]; rfl
            · rw [if_neg z, if_neg z]; exact (f2.2.1 p' hp').2
          cases how : ow p with
          | none =>
            rw [show oI none = -1 from rfl, show oI (Option.map sg none) = -1 from rfl, if_pos rfl, if_pos rfl]
            refine good Q' (fun p' => if p' = p then some (Q i) else rb' p') e' i p _ _ ⟨f1, ⟨⟨by rw [gup_t (by omega)]; exact f2.1.1, by rw [gup_t (by omega)]; exact f2.1.2⟩, fun p' hp' => ⟨t23 p' hp', t60 p' hp'⟩, f2.2.2.1, fun q q0 q1 => ⟨(f2.2.2.2.1 q q0 q1).1, by rw [gup_t (by omega)]; exact (f2.2.2.2.1 q q0 q1).2.1, ?_⟩, f2.2.2.2.2⟩, fun q q1 => ⟨by rw [gup_t (by omega)]; exact (f3 q q1).1, by rw [gup_t (by omega)]; exact (f3 q q1).2⟩, fun p' c hp' z => ?_, ?_, fun t k j z => by unfold gup; rw [if_neg (fun y => z ⟨Or.inl y.1, y.2.1⟩)]; exact oσ t k j z, fun t k j z => by unfold gup; rw [if_neg (fun y => z ⟨Or.inl y.1, y.2.1⟩)]; exact oτ t k j z⟩ hie hp64 (by rw [if_pos rfl, hQ']) how
            · obtain ⟨q', d1, d2⟩ := (f2.2.2.2.1 q q0 q1).2.2
              refine ⟨q', d1, ?_⟩
              dsimp only
              rw [if_neg (fun z => by rw [z, hrp] at d2; cases d2)]
              exact d2
            · dsimp only at z
              by_cases y : p' = p
              · rw [if_pos y] at z
                cases z
                exact ⟨i, hie, hQ'.symm⟩
              · rw [if_neg y] at z
                exact f4 p' c hp' z
            · refine f5.trans (congrArg (fun k => 1 + k) (cntP_congr 64 (fun p' hp' => ?_)))
              dsimp only
              by_cases y : p' = p
              · rw [y, how]; simp
              · rw [if_neg y]
          | some c =>
            obtain ⟨cn, cst⟩ := hO.2 p c hp64 how
            obtain ⟨k1, k2, k3, k4, k5⟩ := hc c cn
            have cntn : cntP (fun p' => (if p' = p then some (Q i) else rb' p').isSome && (ow p').isSome) 64 = cntP (fun p' => (rb' p').isSome && (ow p').isSome) 64 + 1 := by
              rw [cntP_new (p := fun p' => (rb' p').isSome && (ow p').isSome) (a := p) (fun p' => ?_) (by rw [hrp]; rfl) 64, if_pos hp64]
              by_cases y : p' = p
              · rw [y, how]; simp
              · rw [if_neg y, decide_eq_false y, Bool.or_false]
            have cntl : cntP (fun p' => (if p' = p then some (Q i) else rb' p').isSome && (ow p').isSome) 64 ≤ n := by
              rw [← hcnt]
              exact cntP_mono 64 (fun p' _ z => (Bool.and_eq_true _ _ ▸ z).2)
            have he' : e' ≤ n := by omega
            have hnew : ∀ q, q < e' → Q' q ≠ c := by
              intro q q1 z
              rcases Nat.eq_zero_or_pos q with y | y
              · rw [y, f2.2.2.1] at z; omega
              · obtain ⟨d0, d1, q', d2, d3⟩ := f2.2.2.2.1 q y q1
                rw [z, cst, hrp] at d3
                cases d3
            rw [show oI (some c) = nI c from rfl, show oI (Option.map sg (some c)) = nI (sg c) from rfl, if_neg (nI_nm1 (by omega)), if_neg (nI_nm1 (by omega)), if_neg (show ¬ 64 ≤ nI e' by rw [li64, nI_leq (by omega) (by omega)]; omega), gAt_nI (t := 22) (show p < 64 from hp64) (by omega), gup_t (show 22 ≠ 23 by omega), oσ 22 0 p (by omega), ox 22 0 p (by omega) (by omega), (hp p hp64).1, how, show oI (some c) = nI c from rfl, gPut_nI (t := 24) (show e' < 64 by omega) (by omega), gLet, gLet, nI_1, nI_1]
            rw [gAt_nI (t := 59) (show p < 64 from hp64) (by omega), gup_t (show 59 ≠ 60 by omega), oτ 59 0 p (by omega), om 59 0 p (by omega), (hp p hp64).2, how, show oI (Option.map sg (some c)) = nI (sg c) from rfl, gPut_nI (t := 61) (show sg c < 64 from k2) (by omega), gAt_nI (t := 59) (show p < 64 from hp64) (by omega), gup_t (show 59 ≠ 61 by omega), gup_t (show 59 ≠ 60 by omega), oτ 59 0 p (by omega), om 59 0 p (by omega), (hp p hp64).2, how, show oI (Option.map sg (some c)) = nI (sg c) from rfl, gPut_nI (t := 62) (show e' < 64 by omega) (by omega), gLet, gLet]
            refine hK2 _ _ _ _ ⟨fun q => if q = e' then c else Q' q, fun p' => if p' = p then some (Q i) else rb' p', e' + 1, rfl, rfl, ⟨by omega, ⟨⟨by rw [gup_t (by omega), gup_t (by omega)]; exact f2.1.1, ?_⟩, fun p' hp' => ⟨by rw [gup_t (by omega)]; exact t23 p' hp', by rw [gup_t (by omega), gup_t (by omega)]; exact t60 p' hp'⟩, ?_, fun q q0 q1 => ?_, fun q q' q1 q2 z => ?_⟩, fun q q1 => ?_, fun p' c' hp' z => ?_, by rw [cntn, f5]; omega, fun t k j z => by
                unfold gup
                rw [if_neg (fun y => z ⟨Or.inr y.1, y.2.1⟩), if_neg (fun y => z ⟨Or.inl y.1, y.2.1⟩)]
                exact oσ t k j z, fun t k j z => by
                unfold gup
                rw [if_neg (fun y => z ⟨by omega, y.2.1⟩), if_neg (fun y => z ⟨by omega, y.2.1⟩), if_neg (fun y => z ⟨by omega, y.2.1⟩)]
                exact oτ t k j z⟩, ?_, by omega⟩
            · rw [gup_t (by omega), gup_at, if_neg (fun z => hroot c cn z.symm), gup_t (by omega)]; exact f2.1.2
            · dsimp only; rw [if_neg (by omega)]; exact f2.2.2.1
            · dsimp only
              by_cases y : q = e'
              · rw [if_pos y, gup_t (by omega), gup_at, if_pos rfl, cst, if_pos rfl]
                exact ⟨cn, rfl, i, by omega, by rw [if_neg (by omega), hQ']⟩
              · rw [if_neg y]
                obtain ⟨d0, d1, q', d2, d3⟩ := f2.2.2.2.1 q q0 (by omega)
                refine ⟨d0, ?_, q', d2, ?_⟩
                · rw [gup_t (by omega), gup_at, if_neg (fun z => hnew q (by omega) (hi _ _ d0 cn z)), gup_t (by omega)]; exact d1
                · rw [if_neg (fun z => by rw [z, hrp] at d3; cases d3), if_neg (by omega)]
                  exact d3
            · dsimp only at z
              by_cases y1 : q = e'
              · by_cases y2 : q' = e'
                · omega
                · rw [if_pos y1, if_neg y2] at z
                  exact absurd z.symm (hnew q' (by omega))
              · rw [if_neg y1] at z
                by_cases y2 : q' = e'
                · rw [if_pos y2] at z
                  exact absurd z (hnew q (by omega))
                · rw [if_neg y2] at z
                  exact f2.2.2.2.2 q q' (by omega) (by omega) z
            · dsimp only
              by_cases y : q = e'
              · rw [if_pos y, y, gup_at, if_pos rfl, gup_at, if_pos rfl]
                refine ⟨rfl, ?_⟩
                unfold sgx
                rw [if_neg (by omega)]
              · rw [if_neg y, gup_at, if_neg y, gup_t (by omega), gup_at, if_neg y, gup_t (by omega), gup_t (by omega)]
                exact f3 q (by omega)
            · dsimp only at z ⊢
              by_cases y : p' = p
              · rw [if_pos y] at z
                cases z
                exact ⟨i, by omega, by rw [if_neg (by omega), hQ']⟩
              · rw [if_neg y] at z
                obtain ⟨q, q1, q2⟩ := f4 p' c' hp' z
                exact ⟨q, by omega, by rw [if_neg (by omega)]; exact q2⟩
            · dsimp only; rw [if_neg (by omega)]; exact hQ'
      · rintro a b' σ' τ' K2 K3 ⟨Q', rb', e', rfl, rfl, hB', hQ', hie⟩
        unfold X2_admit_b79 X9_fits_b55
        obtain ⟨f1, f2, f3, f4, f5, oσ, oτ⟩ := id hB'
        have hX' : XK σ' W b mk := XK_cg hX (fun t j ht => by rw [oσ t 0 j (by omega), ox t 0 j (by omega) (by omega)])
        have hM' : MK τ' W b mk := MK_cg hM (fun j => by rw [oτ 47 0 j (by omega), om 47 0 j (by omega)])
        rw [hX'.1.1, if_pos (by rw [nI_leq (by omega) (by omega)]; omega), show gAt τ' 47 0 36 _ = _ from gAt_nI (i := 36) (show 36 < 30843 by omega) (by omega), hM'.1.1, if_pos (by rw [nI_leq (by omega) (by omega)]; omega), gLet, gLet, nI_1]
        exact hK _ _ _ _ ⟨Q', rb', e', rfl, rfl, hB'⟩
  · rintro a b' σ τ K K' ⟨Q, rb, e, rfl, rfl, hB⟩
    unfold X2_admit_b54 X9_fits_b39
    have he := hB.1
    rw [if_pos (by rw [nI_leq (by omega) (by omega)]; omega), if_pos (by rw [nI_leq (by omega) (by omega)]; omega)]
    exact bad Q rb e σ τ hB
