/-! LAYER 2: texts: the whole text. -/
def GX (x : gM) (S : gT) (o : Option (Unit × gM)) : Prop := ∃ x', o = some ((), x') ∧ x' 0 0 8 = 0 ∧ x' 0 0 9 = -1 ∧ tRx S x' ∧ Eqv pRx x x'
def RDO (n : Nat) (x y : gM) (T p : Nat) (σ : gM) (R : Option (Int32 × gM)) : Prop :=
  (∃ f q τ', R = some (nI f, τ') ∧ f ≠ 0 ∧ f ≤ 4 ∧ τ' 9 0 8 = nI q ∧ q ≤ n ∧ Eqv (pRm T) y τ' ∧ CP n p σ (FX x f q)) ∨
  (∃ S τ', R = some (0, τ') ∧ SOK S ∧ S.2.1 = 0 ∧ tRm T S τ' ∧ Eqv (pRm T) y τ' ∧ CP n p σ (GX x S))
theorem rd_end {n d o T : Nat} {b : Nat → Nat} {x y σ τ : gM} {S : gT} (hT : TPx n b x) (Y : SYN n b x y T n d o S σ τ) : RDO n x y T n σ (if (τ 9 0 14) ≤ 0 then (if (τ 9 0 12) = 0 then (some (0, τ)) else (some (4, τ))) else (some (1, τ))) := by
  obtain ⟨R, Y2, bg, t1, t2, ok, tk, h8, h14, e, hpn⟩ := Y
  obtain ⟨a1, a2, a3, a4, a5, a6, a7, a8⟩ := R
  have hn := hT.1
  have hL := ok.2.1
  have hdd : d = 0 ∨ d = 2 := by omega
  have cf : ∀ f, X0_takeEnd (nI n) σ = some ((), gup (gup σ 0 0 8 (nI f)) 0 0 9 (nI n)) → CP n n σ (FX x f n) := by
    intro f hf
    refine CP_end hn (by omega) (Or.inl (Nat.le_refl _)) ?_
    unfold JR
    rw [gCall_eq (end_no a4), gCall_eq hf]
    exact ⟨_, rfl, by rw [gup_at, if_neg (by decide), gup_at, if_pos rfl], by rw [gup_at, if_pos rfl], a1.tr ((Eqv.up (by unfold pRx; omega)).tr (Eqv.up (by unfold pRx; omega)))⟩
  rw [h14, t2.2.2.1]
  rcases Nat.eq_zero_or_pos o with z | z
  · subst z
    rw [if_pos (show nI 0 ≤ 0 by decide)]
    by_cases c : S.2.1 = 0
    · rw [if_pos (by rw [c]; rfl)]
      refine Or.inr ⟨S, τ, rfl, ok, c, t2, e, ?_⟩
      refine CP_end hn (by omega) (Or.inl (Nat.le_refl _)) ?_
      have hf : X0_takeEnd (nI n) σ = some ((), σ) := by
        unfold X0_takeEnd
        rw [gJ0_e, a7, if_neg (by decide)]
        dsimp only
        rw [gCall_eq (x_may a5 a6), decide_eq_true hdd, if_pos rfl, t1.2.1, if_pos (by rw [c]; rfl)]
      unfold JR
      rw [gCall_eq (end_no a4), gCall_eq hf]
      exact ⟨σ, rfl, a2, a3, t1, a1⟩
    · rw [if_neg (by rw [nI_z (by omega)]; exact c)]
      refine Or.inl ⟨4, n, τ, rfl, by omega, by omega, h8, Nat.le_refl _, e, cf 4 ?_⟩
      unfold X0_takeEnd
      rw [gJ0_e, a7, if_neg (by decide)]
      dsimp only
      rw [gCall_eq (x_may a5 a6), decide_eq_true hdd, if_pos rfl, t1.2.1, if_neg (by rw [nI_z (by omega)]; exact c), gCall_eq (fail_0 a2)]
      rfl
  · rw [if_neg (by rw [li0, nI_leq (by omega) (by omega)]; omega)]
    refine Or.inl ⟨1, n, τ, rfl, by omega, by omega, h8, Nat.le_refl _, e, cf 1 ?_⟩
    unfold X0_takeEnd
    rw [gJ0_e, a7, if_pos (by rw [li0, nI_ltt (by omega) (by omega)]; exact z)]
    dsimp only
    rw [gCall_eq (fail_0 a2)]
    rfl
theorem rd_loop {n p d o T : Nat} {b : Nat → Nat} {x y σ τ : gM} {S : gT} (hT4 : T < 4) (hT : TPx n b x) (hy : TPm n b y) (Y : SYN n b x y T p d o S σ τ) : RDO n x y T p σ (gL0 FU (X9_readText_b43 (fun (m10 : gM) => if (m10 9 0 14) ≤ 0 then (if (m10 9 0 12) = 0 then (some (0, m10)) else (some (4, m10))) else (some (1, m10)))) τ) := by
  have hn := hT.1
  have hbb : ∀ i, i < n → b i < 256 := fun i hi => (hT.2 i hi).1
  refine gL0_rec (fun j τ1 => ∃ p1 d1 o1 S1 σ1, n - p1 = j ∧ SYN n b x y T p1 d1 o1 S1 σ1 τ1 ∧ ∀ Q, CP n p1 σ1 Q → CP n p σ Q) (fun R => RDO n x y T p σ R) ?_ FU (n - p) τ (by rw [FU_eq]; omega) ⟨p, d, o, S, σ, rfl, Y, fun Q h => h⟩
  rintro j τ1 K ⟨p1, d1, o1, S1, σ1, hj, Y1, K1⟩ hK
  have up : ∀ R, RDO n x y T p1 σ1 R → RDO n x y T p σ R := by
    intro R h
    rcases h with ⟨f, q, τ', g1, g2, g3, g4, g5, g6, g7⟩ | ⟨S, τ', g1, g2, g3, g4, g5, g6⟩
    · exact Or.inl ⟨f, q, τ', g1, g2, g3, g4, g5, g6, K1 _ g7⟩
    · exact Or.inr ⟨S, τ', g1, g2, g3, g4, g5, K1 _ g6⟩
  have hpn := Y1.2.2.2.2.2.2.2.2.2.2
  have tk := Y1.2.2.2.2.2.2.1
  unfold X9_readText_b43
  by_cases c : p1 = n
  · rw [if_pos ((tok_0 hbb tk).mpr c)]
    subst c
    exact up _ (rd_end hT Y1)
  · rw [if_neg (fun z => c ((tok_0 hbb tk).mp z))]
    rcases item hT4 hT hy Y1 (by omega) with ⟨f, q, τ', g1, g2, g3, g4, g5, g6, g7⟩ | ⟨q, d2, o2, S2, σ2, τ2, g1, g2, g3, g4⟩
    · rw [gCall_eq g1, if_neg (by rw [nI_z (by omega)]; exact g2)]
      exact up _ (Or.inl ⟨f, q, τ', rfl, g2, g3, g4, g5, g6, g7⟩)
    · rw [gCall_eq g1, if_pos rfl]
      have hq := g3.2.2.2.2.2.2.2.2.2.2
      exact hK (n - q) τ2 (by omega) ⟨q, d2, o2, S2, σ2, rfl, g3, fun Q h => K1 _ (g4 _ h)⟩
/-- both read the same text -/
theorem read_both {x m : gM} {tp T : Nat} (hT : TP x m tp) (htp : tp ≤ 300) (hT4 : T < 4) (h47 : m 47 0 0 = nI T) :
    (∃ f q x' m', X0_read 46 0 (nI tp) 8 x = some ((), x') ∧ X9_readText m = some (nI f, m') ∧ f ≠ 0 ∧ f ≤ 4 ∧ x' 0 0 8 = nI f ∧ x' 0 0 9 = nI q ∧ m' 9 0 8 = nI q ∧ Eqv pRx x x' ∧ Eqv (pRm T) m m') ∨
    (∃ S x' m', X0_read 46 0 (nI tp) 8 x = some ((), x') ∧ X9_readText m = some (0, m') ∧ SOK S ∧ tRx S x' ∧ tRm T S m' ∧ x' 0 0 8 = 0 ∧ x' 0 0 9 = -1 ∧ Eqv pRx x x' ∧ Eqv (pRm T) m m') := by
  obtain ⟨h1, h2, h3⟩ := hT
  have hex : ∃ b : Nat → Nat, ∀ i, i < tp → b i < 256 ∧ x 46 0 i = nI (b i) ∧ m 50 0 i = nI (b i) := by
    refine ⟨fun i => (x 46 0 i).toNatClampNeg, fun i hi => ?_⟩
    obtain ⟨c, c1, c2, c3⟩ := h3 i hi
    dsimp only
    rw [c2, nI_cl (by omega)]
    exact ⟨c1, rfl, c3⟩
  obtain ⟨b, hb⟩ := hex
  have hTx : TPx tp b x := ⟨htp, fun i hi => ⟨(hb i hi).1, (hb i hi).2.1⟩⟩
  have hTm : TPm tp b m := ⟨htp, h2, fun i hi => ⟨(hb i hi).1, (hb i hi).2.2⟩⟩
  have hx : X0_read 46 0 (nI tp) 8 x = gL1 FU (X0_read_b38 46 0 (nI tp) 8 (JR tp)) 0 (gup (gup (gup (gup (gup (gup (gup x 0 0 1 0) 0 0 2 0) 0 0 7 0) 0 0 8 0) 0 0 9 (-1)) 0 0 4 (-1)) 5 8 2 0) := by
    unfold X0_read JR
    simp only [gSet, gJ0_e]
  generalize hσ : gup (gup (gup (gup (gup (gup (gup x 0 0 1 0) 0 0 2 0) 0 0 7 0) 0 0 8 0) 0 0 9 (-1)) 0 0 4 (-1)) 5 8 2 0 = σ at hx
  have eσ : Eqv pRx x σ := by
    rw [← hσ]
    exact ((((((Eqv.up (by unfold pRx; omega)).tr (Eqv.up (by unfold pRx; omega))).tr (Eqv.up (by unfold pRx; omega))).tr (Eqv.up (by unfold pRx; omega))).tr (Eqv.up (by unfold pRx; omega))).tr (Eqv.up (by unfold pRx; omega))).tr (Eqv.up (by unfold pRx; omega))
  have R : RTS x 0 0 σ := ⟨eσ, by rw [← hσ]; simp [gup], by rw [← hσ]; simp [gup], by rw [← hσ]; simp [gup], by rw [← hσ]; simp [gup]; rfl, by omega, by rw [← hσ]; simp [gup]; rfl, by omega⟩
  have tx : tRx (0, 0, fun _ => 0, fun _ => 0) σ := ⟨by rw [← hσ]; simp [gup]; rfl, by rw [← hσ]; simp [gup]; rfl, fun i hi => absurd hi (Nat.not_lt_zero _)⟩
  have hm : X9_readText m = gCall (X9_nextToken (gup (gup (gup (gup (gup m 9 0 11 (nI (1201 * T))) 49 0 (1201 * T) 0) 9 0 12 0) 9 0 14 0) 9 0 7 0)) (fun (_ : Unit) (m8 : gM) => gL0 FU (X9_readText_b43 (fun (m10 : gM) => if (m10 9 0 14) ≤ 0 then (if (m10 9 0 12) = 0 then (some (0, m10)) else (some (4, m10))) else (some (1, m10)))) m8) := by
    unfold X9_readText
    rw [show gAt m 47 0 0 = gAt m 47 0 (nI 0) from rfl, gAt_nI (show 0 < glen 47 by decide) (by omega), h47, show (1201 : Int32) = nI 1201 from rfl, pk_mul, gLet]
    simp only [gSet, gup_at, if_true]
    rw [gPut_nI (show 1201 * T < 4804 by omega) (by omega)]
    simp only [gSet, gJ0_e]
  generalize hτ : gup (gup (gup (gup (gup m 9 0 11 (nI (1201 * T))) 49 0 (1201 * T) 0) 9 0 12 0) 9 0 14 0) 9 0 7 0 = τ at hm
  have eτ : Eqv (pRm T) m τ := by
    rw [← hτ]
    exact ((((Eqv.up (by unfold pRm; omega)).tr (Eqv.up (by unfold pRm; omega))).tr (Eqv.up (by unfold pRm; omega))).tr (Eqv.up (by unfold pRm; omega))).tr (Eqv.up (by unfold pRm; omega))
  obtain ⟨q, τ1, n1, n2, n3, n4, n5, n6, n7⟩ := nt_ok (a := 0) (TPm_e hTm eτ) (by rw [← hτ]; simp [gup]; rfl) (by omega)
  rw [gCall_eq n1] at hm
  have tm : tRm T (0, 0, fun _ => 0, fun _ => 0) τ := ⟨by rw [← hτ]; simp [gup], by rw [← hτ]; simp [gup]; rfl, by rw [← hτ]; simp [gup]; rfl, fun i hi => absurd hi (Nat.not_lt_zero _)⟩
  have Y : SYN tp b x m T q 0 0 (0, 0, fun _ => 0, fun _ => 0) σ τ1 := ⟨R, Or.inl rfl, fun i hi => absurd hi (Nat.not_lt_zero _), tx, tRm_nt tm n5, ⟨Nat.zero_le _, Nat.zero_le _, fun z => absurd z (by show ¬ (0 = 1); omega), fun i hi => absurd hi (Nat.not_lt_zero _)⟩, n7, n6, (n5 9 0 14 (by unfold pNT; omega)).trans (by rw [← hτ]; simp [gup]; rfl), eτ.tr (n5.mono pNT_R), n3⟩
  have h0 : ∀ Q, CP tp q σ Q → Q (X0_read 46 0 (nI tp) 8 x) := by
    intro Q hQ
    rw [hx]
    exact CP_ws (TPx_e hTx eσ) R.2.1 R.2.2.2.1 n3 hQ q 0 (by omega) n4 FU (by rw [FU_eq]; omega)
  rcases rd_loop hT4 hTx hTm Y with ⟨f, w, τ', g1, g2, g3, g4, g5, g6, g7⟩ | ⟨S, τ', g1, g2, g3, g4, g5, g6⟩
  · obtain ⟨x', z1, z2, z3, z4⟩ := h0 _ g7
    exact Or.inl ⟨f, w, x', τ', z1, hm.trans g1, g2, g3, z2, z3, g4, z4, g6⟩
  · obtain ⟨x', z1, z2, z3, z4, z5⟩ := h0 _ g6
    exact Or.inr ⟨S, x', τ', z1, hm.trans g1, g2, z4, g4, z2, z3, z5, g5⟩
