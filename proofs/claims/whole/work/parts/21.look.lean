/-! LAYER 2: look and layFound give the same list. -/
/-- from the candidates a .. a + n less 1 on -/
def exS (B : Nat → Int32) (a : Nat) (L : gCL) : Nat → gCL
  | 0 => L
  | n + 1 => if bL B (lp (exS B a L n) (a + n)) = 0 then exS B a L n else addW B (bL B (lp (exS B a L n) (a + n)) - 1) (some (lp (exS B a L n) (a + n) / 16)) (some (a + n)) (exS B a L n) (bW B)
/-- level by level: where the last level begins, and all -/
def lev (B : Nat → Int32) (line : Nat) : Nat → Nat × gCL
  | 0 => (0, addW B line none none [] (bW B))
  | d + 1 => ((lev B line d).2.length, exS B (lev B line d).1 (lev B line d).2 ((lev B line d).2.length - (lev B line d).1))
def cand (B : Nat → Int32) (line d : Nat) : gCL := (lev B line d).2
theorem exS_LW {B : Nat → Int32} {N a : Nat} (hB : BI B N) {L : gCL} (h : LW L) : ∀ n, a + n ≤ L.length → LW (exS B a L n) ∧ L.length ≤ (exS B a L n).length ∧ ∀ i, i < L.length → lp (exS B a L n) i = lp L i ∧ lo (exS B a L n) i = lo L i := by
  intro n
  induction n with
  | zero => intro _; exact ⟨h, Nat.le_refl _, fun i _ => ⟨rfl, rfl⟩⟩
  | succ n ih =>
    intro hn
    obtain ⟨i1, i2, i3⟩ := ih (by omega)
    simp only [exS]
    split
    · exact ⟨i1, i2, i3⟩
    · obtain ⟨j1, j2, j3⟩ := addW_LW (line := bL B (lp (exS B a L n) (a + n)) - 1) (own := some (lp (exS B a L n) (a + n) / 16)) (o := some (a + n)) hB i1 (fun j hj => by cases hj; omega) (bW B) hB.1.2.2
      refine ⟨j1, Nat.le_trans i2 j2, fun i hi => ?_⟩
      obtain ⟨k1, k2⟩ := j3 i (by omega)
      rw [k1, k2]; exact i3 i hi
theorem lev_LW {B : Nat → Int32} {N line : Nat} (hB : BI B N) : ∀ d, LW (lev B line d).2 ∧ (lev B line d).1 ≤ (lev B line d).2.length := by
  intro d
  induction d with
  | zero => exact ⟨(addW_LW hB LW_nil (fun j hj => by cases hj) (bW B) hB.1.2.2).1, Nat.zero_le _⟩
  | succ d ih =>
    obtain ⟨h1, h2⟩ := ih
    obtain ⟨e1, e2, -⟩ := exS_LW (a := (lev B line d).1) hB h1 ((lev B line d).2.length - (lev B line d).1) (by omega)
    exact ⟨e1, e2⟩
theorem cand_LW {B : Nat → Int32} {N line : Nat} (hB : BI B N) (d : Nat) : LW (cand B line d) := (lev_LW hB d).1
/-- rows are filled with a number -/
def gfil (m : gM) (t k : Nat) (v : Int32) (n : Nat) : gM := fun t' k' i => if t' = t ∧ k' = k ∧ i < n then v else m t' k' i
theorem fil_loop {β : Type} {m : gM} (t k : Nat) (v : Int32) (n : Nat) {R : gM → Option β} {f : Int32 → gM → (Int32 → gM → Option β) → Option β} (hs : ∀ i σ K, i < n → f (nI i) σ K = K (nI (i + 1)) (gup σ t k i v)) (hx : ∀ σ K, f (nI n) σ K = R σ) (hn : n < FU) : gL1 FU f 0 m = R (gfil m t k v n) := by
  refine gL1_for (fun i σ => σ = gfil m t k v i) (fun o => o = R (gfil m t k v n)) n ?_ ?_ FU 0 m (Nat.zero_le _) (by omega) ?_
  · rintro i σ K hi rfl hK
    rw [hs i _ K hi]
    refine hK _ ?_
    funext t' k' q
    unfold gup gfil
    by_cases e : t' = t ∧ k' = k ∧ q = i
    · rw [if_pos e, if_pos (by omega)]
    · rw [if_neg e]
      by_cases e2 : t' = t ∧ k' = k ∧ q < i
      · rw [if_pos e2, if_pos (by omega)]
      · rw [if_neg e2, if_neg (by omega)]
  · rintro σ K rfl
    exact hx _ K
  · funext t' k' q
    unfold gfil
    rw [if_neg (by omega)]
theorem fill_ok {m : gM} {t u : Nat} {v : Int32} (ht : glen t < FU) : J7_fill_53178 t u v m = some ((), gfil m t u v (glen t)) := by
  have h2 : glen t < 2147483648 := by rw [FU_eq] at ht; omega
  unfold J7_fill_53178
  simp only [gLet]
  refine fil_loop (R := fun σ => some ((), σ)) t u v (glen t) (fun i σ K hi => ?_) (fun σ K => ?_) ht
  · unfold J7_fill_53178_b5
    rw [if_neg (by rw [show Int32.ofNat (glen t) = nI (glen t) from rfl, nI_leq h2 (by omega)]; omega), gPut_nI hi (by omega)]
    simp only [gLet, nI_1]
  · unfold J7_fill_53178_b5
    rw [if_pos (by rw [show Int32.ofNat (glen t) = nI (glen t) from rfl, nI_leq h2 h2]; omega)]
theorem Eqv_fil {P : Nat → Nat → Nat → Prop} {m : gM} {t k n : Nat} {v : Int32} (h : ∀ i, P t k i) : Eqv P m (gfil m t k v n) := by
  intro t' k' i q
  unfold gfil
  rw [if_neg (fun z => q (by rw [z.1, z.2.1]; exact h i))]
theorem x_look {m : gM} {k N line d : Nat} {B : Nat → Int32} (hR : RS m k B N) (hB : BI B N) (hl : line < 1024) (hd : d ≤ 3) : ∃ m', X1_look k (nI line) (nI d) m = some ((), m') ∧ SX m' (cand B line d) ∧ Eqv pSe m m' := by
  unfold X1_look
  simp only [gSet]
  rw [gCall_eq (fill_ok (by rw [ge19, FU_eq]; omega)), ge19]
  have e0 : Eqv pSe m (gfil (gup m 1 0 3 0) 19 0 0 64) := (Eqv.up (by unfold pSe; omega)).tr (Eqv_fil (fun _ => by unfold pSe; omega))
  have s0 : SX (gfil (gup m 1 0 3 0) 19 0 0 64) [] := by
    refine ⟨?_, fun i hi => by simp at hi, fun p hp => ?_⟩
    · unfold gfil
      rw [if_neg (by omega), gup_at, if_pos rfl]; rfl
    · unfold gfil
      rw [if_pos (by omega)]; rfl
  obtain ⟨m1, h1, s1, e1⟩ := x_addW (own := none) (o := none) (RS_se hR e0) hB hl (fun j hj => by cases hj) LW_nil (fun j hj => by cases hj) s0
  rw [show (-1 : Int32) = oI none from rfl, gCall_eq h1]
  have e01 := e0.tr e1
  refine gL2_rec (fun j a b σ => ∃ lv, lv ≤ d ∧ j = d - lv ∧ a = nI (lev B line lv).1 ∧ b = nI (lv + 1) ∧ SX σ (lev B line lv).2 ∧ Eqv pSe m σ) (fun r => ∃ m', r = some ((), m') ∧ SX m' (cand B line d) ∧ Eqv pSe m m') ?_ FU d 0 1 m1 (by rw [FU_eq]; omega) ⟨0, by omega, by omega, rfl, rfl, s1, e01⟩
  rintro j a b σ K ⟨lv, h1, rfl, rfl, rfl, hS, hE⟩ hK
  unfold X1_look_b27
  by_cases hlv : lv = d
  · subst hlv
    rw [if_pos (by rw [nI_ltt (by omega) (by omega)]; omega)]
    exact ⟨σ, rfl, hS, hE⟩
  · rw [if_neg (by rw [nI_ltt (by omega) (by omega)]; omega)]
    obtain ⟨w1, w2⟩ := lev_LW (line := line) hB lv
    have wl := LW_len w1
    refine gL1_for (fun i τ => SX τ (exS B (lev B line lv).1 (lev B line lv).2 (i - (lev B line lv).1)) ∧ Eqv pSe m τ ∧ (lev B line lv).1 ≤ i) (fun r => ∃ m', r = some ((), m') ∧ SX m' (cand B line d) ∧ Eqv pSe m m') (lev B line lv).2.length ?_ ?_ FU (lev B line lv).1 σ w2 (by rw [FU_eq]; omega) ⟨by rw [Nat.sub_self]; exact hS, hE, Nat.le_refl _⟩
    · rintro i τ K2 hi ⟨hS2, hE2, hai⟩ hK2
      unfold X1_look_b43
      have hR2 := RS_se hR hE2
      rw [hS.1, if_neg (by rw [nI_leq (by omega) (by omega)]; omega)]
      obtain ⟨x1, x2, x3⟩ := exS_LW (a := (lev B line lv).1) hB w1 (i - (lev B line lv).1) (by omega)
      have hex : i - (lev B line lv).1 + 1 = i + 1 - (lev B line lv).1 := by omega
      have hai2 : (lev B line lv).1 + (i - (lev B line lv).1) = i := by omega
      have hli : i < (exS B (lev B line lv).1 (lev B line lv).2 (i - (lev B line lv).1)).length := by omega
      have hp := x1.1 i hli
      rw [gAt_nI (show i < 64 by omega) (by omega), (hS2.2.1 i hli).1, gAt_nI (show lp _ i < 64 from hp) (by omega), hR2.2.2.2.2.1 _ hp]
      have hs := hB.2.2.2.2.2.2.1 _ hp
      rw [hs.1]
      by_cases h0 : bL B (lp (exS B (lev B line lv).1 (lev B line lv).2 (i - (lev B line lv).1)) i) = 0
      · rw [if_pos ((line_none hs.2.1).mpr h0)]
        simp only [gLet, nI_1]
        refine hK2 _ ⟨?_, hE2, by omega⟩
        rw [← hex]
        simp only [exS, hai2]
        rw [if_pos h0]
        exact hS2
      · rw [if_neg (fun q => h0 ((line_none hs.2.1).mp q)), gAt_nI (show i < 64 by omega) (by omega), (hS2.2.1 i hli).1, nI_sub1 (by omega), li16, nI_div (by omega) (by omega) (by omega)]
        obtain ⟨m2, y1, y2, y3⟩ := x_addW (line := bL B (lp (exS B (lev B line lv).1 (lev B line lv).2 (i - (lev B line lv).1)) i) - 1) (own := some (lp (exS B (lev B line lv).1 (lev B line lv).2 (i - (lev B line lv).1)) i / 16)) (o := some i) hR2 hB (by omega) (fun j hj => by cases hj; omega) x1 (fun j hj => by cases hj; exact hli) hS2
        have y1' : X1_addSlotsOf k (nI (bL B (lp (exS B (lev B line lv).1 (lev B line lv).2 (i - (lev B line lv).1)) i) - 1)) (nI (lp (exS B (lev B line lv).1 (lev B line lv).2 (i - (lev B line lv).1)) i / 16)) (nI i) τ = some ((), m2) := y1
        rw [gCall_eq y1']
        simp only [gLet, nI_1]
        refine hK2 _ ⟨?_, hE2.tr y3, by omega⟩
        rw [← hex]
        simp only [exS, hai2]
        rw [if_neg h0]
        exact y2
    · rintro τ K2 ⟨hS2, hE2, hai⟩
      unfold X1_look_b43
      rw [hS.1, if_pos (by rw [nI_leq (by omega) (by omega)]; omega)]
      simp only [gLet, nI_1]
      exact hK (d - (lv + 1)) _ _ _ (by omega) ⟨lv + 1, by omega, rfl, rfl, rfl, hS2, hE2⟩
/-- the reference: a place is found -/
theorem mB_fi {m m' : gM} (e : Eqv pFi m m') : mB m' = mB m := funext fun i => e 47 0 (36 + i) (by unfold pFi; omega)
theorem m_find {m : gM} {N p : Nat} {o : Option Nat} {L : gCL} (hB : BI (mB m) N) (hL : LW L) (hS : SM m L) (hp : p < 64) : ∃ m', X9_find (nI p) (oI o) m = some ((), m') ∧ SM m' (addC (mB m) L p o) ∧ Eqv pFi m m' := by
  unfold X9_find
  rw [gAt_nI (show p < 64 from hp) (by omega), hS.2.2 p hp]
  by_cases ha : (L.any fun q => q.1 == p) = true
  · rw [if_pos ha, if_neg (by decide)]
    refine ⟨m, rfl, ?_, Eqv.rf⟩
    unfold addC
    rw [if_pos (Or.inl ha)]; exact hS
  · rw [if_neg ha, if_pos rfl, m_at, li4, m_row hp (by omega), show 27 + 5 * p + 4 = 31 + 5 * p by omega]
    have hlt := (LW_app (o := none) hL hp (fun z => ha ((lIn_dec _ _).mp z)) (fun j hj => by cases hj)).2
    rcases (hB.2.2.2.2.2.2.1 _ hp).2.2.2.2 with hz | hz
    · rw [hz, if_neg (by decide)]
      have q1 : gup m 54 0 p 1 9 0 18 = nI L.length := by rw [gup_t (by omega)]; exact hS.1
      rw [gPut_nI (show p < 64 from hp) (by omega), q1, gPut_nI (show L.length < 64 from hlt) (by omega)]
      have q2 : gup (gup m 54 0 p 1) 52 0 L.length (nI p) 9 0 18 = nI L.length := by rw [gup_t (by omega)]; exact q1
      rw [q2, gPut_nI (show L.length < 64 from hlt) (by omega)]
      have q3 : gup (gup (gup m 54 0 p 1) 52 0 L.length (nI p)) 53 0 L.length (oI o) 9 0 18 = nI L.length := by rw [gup_t (by omega)]; exact q2
      rw [q3]
      simp only [gLet, gSet, nI_1]
      refine ⟨_, rfl, ?_, (((Eqv.up (by unfold pFi; omega)).tr (Eqv.up (by unfold pFi; omega))).tr (Eqv.up (by unfold pFi; omega))).tr (Eqv.up (by unfold pFi; omega))⟩
      unfold addC
      rw [if_neg (fun z => z.elim ha (fun z => absurd (hz.symm.trans z) (by decide)))]
      exact SM_add hS hlt
    · rw [hz, if_pos rfl]
      refine ⟨m, rfl, ?_, Eqv.rf⟩
      unfold addC
      rw [if_pos (Or.inr hz)]; exact hS
theorem m_levs {m : gM} {N line d : Nat} {B : Nat → Int32} (hBe : mB m = B) (hB : BI B N) (hl : line < 1024) (hd : d ≤ 3) {σ : gM} (hS : SM σ (lev B line 0).2) (hE : Eqv pFi m σ) : ∃ m', gL2 FU (X9_layFound_b71 (nI d)) 0 0 σ = some ((), m') ∧ SM m' (cand B line d) ∧ Eqv pFi m m' := by
  have hw4 := hB.1.2.2
  refine gL2_rec (fun j a b σ => ∃ lv, lv ≤ d ∧ j = d - lv ∧ a = nI (lev B line lv).1 ∧ b = nI lv ∧ SM σ (lev B line lv).2 ∧ Eqv pFi m σ) (fun r => ∃ m', r = some ((), m') ∧ SM m' (cand B line d) ∧ Eqv pFi m m') ?_ FU d 0 0 σ (by rw [FU_eq]; omega) ⟨0, by omega, by omega, rfl, rfl, hS, hE⟩
  rintro j a b σ K ⟨lv, h1, rfl, rfl, rfl, hS, hE⟩ hK
  unfold X9_layFound_b71
  by_cases hlv : lv = d
  · subst hlv
    rw [if_pos (by rw [nI_leq (by omega) (by omega)]; omega)]
    exact ⟨σ, rfl, hS, hE⟩
  · rw [if_neg (by rw [nI_leq (by omega) (by omega)]; omega)]
    obtain ⟨w1, w2⟩ := lev_LW (line := line) hB lv
    have wl := LW_len w1
    refine gL1_for (fun i τ => SM τ (exS B (lev B line lv).1 (lev B line lv).2 (i - (lev B line lv).1)) ∧ Eqv pFi m τ ∧ (lev B line lv).1 ≤ i) (fun r => ∃ m', r = some ((), m') ∧ SM m' (cand B line d) ∧ Eqv pFi m m') (lev B line lv).2.length ?_ ?_ FU (lev B line lv).1 σ w2 (by rw [FU_eq]; omega) ⟨by rw [Nat.sub_self]; exact hS, hE, Nat.le_refl _⟩
    · rintro i τ K2 hi ⟨hS2, hE2, hai⟩ hK2
      unfold X9_layFound_b86
      have hBt : mB τ = B := (mB_fi hE2).trans hBe
      have hBT : BI (mB τ) N := by rw [hBt]; exact hB
      rw [hS.1, if_neg (by rw [nI_leq (by omega) (by omega)]; omega)]
      obtain ⟨x1, x2, x3⟩ := exS_LW (a := (lev B line lv).1) hB w1 (i - (lev B line lv).1) (by omega)
      have hex : i - (lev B line lv).1 + 1 = i + 1 - (lev B line lv).1 := by omega
      have hai2 : (lev B line lv).1 + (i - (lev B line lv).1) = i := by omega
      have hgoal : SM τ (exS B (lev B line lv).1 (lev B line lv).2 (i - (lev B line lv).1)) := hS2
      generalize hLe : exS B (lev B line lv).1 (lev B line lv).2 (i - (lev B line lv).1) = L at *
      have hli : i < L.length := by omega
      have hp := x1.1 i hli
      have hnext : exS B (lev B line lv).1 (lev B line lv).2 (i + 1 - (lev B line lv).1) = if bL B (lp L i) = 0 then L else addW B (bL B (lp L i) - 1) (some (lp L i / 16)) (some i) L (bW B) := by
        rw [← hex]
        simp only [exS, hai2, hLe]
      rw [gAt_nI (show i < 64 by omega) (by omega), (hS2.2.1 i hli).1, gCall_eq (X9_la hBT hp), hBt]
      have hs := hB.2.2.2.2.2.2.1 _ hp
      by_cases h0 : bL B (lp L i) = 0
      · rw [if_pos h0] at hnext
        have hm1 : nI (bL B (lp L i)) - 1 = -1 := (line_none hs.2.1).mpr h0
        rw [hm1]
        refine gL1_for (fun q ρ => ρ = τ ∧ q = 0) (fun r => ∃ m', r = some ((), m') ∧ SM m' (cand B line d) ∧ Eqv pFi m m') (bW B) ?_ ?_ FU 0 τ (Nat.zero_le _) (by rw [FU_eq]; omega) ⟨rfl, rfl⟩
        · rintro q ρ K3 hq ⟨rfl, rfl⟩ hK3
          unfold X9_layFound_b109
          rw [li36, gAt_nI (show 36 < 30843 by omega) (by omega), show ρ 47 0 36 = nI (bW (mB ρ)) from hBT.1.1, hBt, if_neg (by rw [nI_leq (by omega) (by omega)]; omega), if_pos rfl]
          simp only [gLet, nI_1]
          exact hK2 _ ⟨by rw [hnext]; exact hgoal, hE2, by omega⟩
        · rintro ρ K3 ⟨rfl, hq⟩
          have := hB.1.2.1
          omega
      · rw [if_neg h0] at hnext
        have hm1 : nI (bL B (lp L i)) - 1 = nI (bL B (lp L i) - 1) := nI_sub1 (by omega)
        rw [hm1]
        refine gL1_for (fun q ρ => SM ρ (addW B (bL B (lp L i) - 1) (some (lp L i / 16)) (some i) L q) ∧ Eqv pFi m ρ) (fun r => ∃ m', r = some ((), m') ∧ SM m' (cand B line d) ∧ Eqv pFi m m') (bW B) ?_ ?_ FU 0 τ (Nat.zero_le _) (by rw [FU_eq]; omega) ⟨hS2, hE2⟩
        · rintro q ρ K3 hq ⟨hS3, hE3⟩ hK3
          have hBr : mB ρ = B := (mB_fi hE3).trans hBe
          have hBR : BI (mB ρ) N := by rw [hBr]; exact hB
          obtain ⟨z1, z2, z3⟩ := addW_LW (line := bL B (lp L i) - 1) (own := some (lp L i / 16)) (o := some i) hB x1 (fun j hj => by cases hj; exact hli) q (by omega)
          unfold X9_layFound_b109
          rw [li36, gAt_nI (show 36 < 30843 by omega) (by omega), show ρ 47 0 36 = nI (bW (mB ρ)) from hBR.1.1, hBr, if_neg (by rw [nI_leq (by omega) (by omega)]; omega), if_neg (nI_nm1 (by omega)), gAt_nI (show i < 64 by omega) (by omega), (hS3.2.1 i (by omega)).1, (z3 i hli).1, li16, nI_div (by omega) (by omega) (by omega)]
          by_cases hw : q = lp L i / 16
          · rw [if_pos (by rw [hw])]
            simp only [gLet, nI_1]
            exact hK3 _ ⟨by simp only [addW]; rw [if_pos (by rw [hw])]; exact hS3, hE3⟩
          · rw [if_neg (by rw [nI_inj (by omega) (by omega)]; exact hw), gCall_eq (X9_pi hBR (by omega) (by omega)), hBr]
            have hix := bIx_lt hB (bL B (lp L i) - 1) q
            obtain ⟨m2, y1, y2, y3⟩ := m_find (o := some i) hBR z1 hS3 (p := 16 * q + bIx B (bL B (lp L i) - 1) q) (by omega)
            rw [hBr] at y2
            rw [show nI i = oI (some i) from rfl, gCall_eq y1]
            simp only [gLet, nI_1]
            exact hK3 _ ⟨by simp only [addW]; rw [if_neg (by rw [Option.some.injEq]; exact hw)]; exact y2, hE3.tr y3⟩
        · rintro ρ K3 ⟨hS3, hE3⟩
          have hBr : mB ρ = B := (mB_fi hE3).trans hBe
          have hBR : BI (mB ρ) N := by rw [hBr]; exact hB
          unfold X9_layFound_b109
          rw [li36, gAt_nI (show 36 < 30843 by omega) (by omega), show ρ 47 0 36 = nI (bW (mB ρ)) from hBR.1.1, hBr, if_pos (by rw [nI_leq (by omega) (by omega)]; omega)]
          simp only [gLet, nI_1]
          exact hK2 _ ⟨by rw [hnext]; exact hS3, hE3, by omega⟩
    · rintro τ K2 ⟨hS2, hE2, hai⟩
      unfold X9_layFound_b86
      rw [hS.1, if_pos (by rw [nI_leq (by omega) (by omega)]; omega)]
      simp only [gLet, nI_1]
      exact hK (d - (lv + 1)) _ _ _ (by omega) ⟨lv + 1, by omega, rfl, rfl, rfl, hS2, hE2⟩
theorem m_lev0 {m : gM} {N line : Nat} {B : Nat → Int32} (hBe : mB m = B) (hB : BI B N) (hl : line < 1024) (R : gM → Option (Unit × gM)) {m1 : gM} (s0 : SM m1 []) (e0 : Eqv pFi m m1) : ∃ m', gL1 FU (X9_layFound_b38 (nI line) R) 0 m1 = R m' ∧ SM m' (lev B line 0).2 ∧ Eqv pFi m m' := by
  have hw4 := hB.1.2.2
  refine gL1_for (fun i σ => SM σ (addW B line none none [] i) ∧ Eqv pFi m σ) (fun r => ∃ m', r = R m' ∧ SM m' (lev B line 0).2 ∧ Eqv pFi m m') (bW B) ?_ ?_ FU 0 m1 (Nat.zero_le _) (by rw [FU_eq]; omega) ⟨s0, e0⟩
  · rintro i σ K hi ⟨hS, hE⟩ hK
    have hBs : mB σ = B := (mB_fi hE).trans hBe
    have hBI : BI (mB σ) N := by rw [hBs]; exact hB
    unfold X9_layFound_b38
    rw [li36, gAt_nI (show 36 < 30843 by omega) (by omega), show σ 47 0 36 = nI (bW (mB σ)) from hBI.1.1, hBs, if_neg (by rw [nI_leq (by omega) (by omega)]; omega), gCall_eq (X9_pi hBI hl (by omega)), hBs]
    have hix := bIx_lt hB line i
    have hLW := addW_LW (line := line) (own := none) (o := none) hB LW_nil (fun j hj => by cases hj) i (by omega)
    obtain ⟨m2, y1, y2, y3⟩ := m_find (o := none) hBI hLW.1 hS (p := 16 * i + bIx B line i) (by omega)
    rw [hBs] at y2
    rw [show (-1 : Int32) = oI none from rfl, gCall_eq y1]
    simp only [gLet, nI_1]
    exact hK _ ⟨by simp only [addW]; exact y2, hE.tr y3⟩
  · rintro σ K ⟨hS, hE⟩
    have hBs : mB σ = B := (mB_fi hE).trans hBe
    have hBI : BI (mB σ) N := by rw [hBs]; exact hB
    unfold X9_layFound_b38
    rw [li36, gAt_nI (show 36 < 30843 by omega) (by omega), show σ 47 0 36 = nI (bW (mB σ)) from hBI.1.1, hBs, if_pos (by rw [nI_leq (by omega) (by omega)]; omega)]
    exact ⟨σ, rfl, hS, hE⟩
theorem gJ0_e {β : Type} {K : gM → β} {F : (gM → β) → β} : gJ0 K F = F K := by unfold gJ0; exact Eq.refl _
theorem m_pre {m : gM} (R : gM → Option (Unit × gM)) : gL1 FU (X9_layFound_b7 R) 0 m = R (gfil m 54 0 0 64) := by
  refine fil_loop 54 0 0 64 (fun i σ K hi => ?_) (fun σ K => ?_) (by rw [FU_eq]; omega)
  · unfold X9_layFound_b7
    rw [if_neg (by rw [li64, nI_leq (by omega) (by omega)]; omega), gPut_nI (show i < 64 from hi) (by omega)]
    simp only [gLet, nI_1]
  · unfold X9_layFound_b7
    rw [if_pos (by rw [li64, nI_leq (by omega) (by omega)]; omega)]
theorem m_look {m : gM} {N line d : Nat} (hB : BI (mB m) N) (hl : line < 1024) (hd : d ≤ 3) (hno : bAt (mB m) line = none) : ∃ m', X9_layFound (nI line) (nI d) m = some ((), m') ∧ SM m' (cand (mB m) line d) ∧ Eqv pFi m m' := by
  have e0 : Eqv pFi m (gfil (gup m 9 0 18 0) 54 0 0 64) := (Eqv.up (by unfold pFi; omega)).tr (Eqv_fil (fun _ => by unfold pFi; omega))
  have s0 : SM (gfil (gup m 9 0 18 0) 54 0 0 64) [] := by
    refine ⟨?_, fun i hi => by simp at hi, fun p hp => ?_⟩
    · unfold gfil
      rw [if_neg (by omega), gup_at, if_pos rfl]; rfl
    · unfold gfil
      rw [if_pos (by omega)]; rfl
  have hB1 : mB (gfil (gup m 9 0 18 0) 54 0 0 64) = mB m := mB_fi e0
  unfold X9_layFound
  simp only [gSet]
  rw [gJ0_e, m_pre, gCall_eq (X9_pw (by rw [hB1]; exact hB) hl), hB1, hno, oI_n, if_pos rfl, gJ0_e]
  obtain ⟨m2, h2, s2, e2⟩ := m_lev0 rfl hB hl (fun m5 => gL2 FU (X9_layFound_b71 (nI d)) 0 0 m5) s0 e0
  obtain ⟨m3, h3, s3, e3⟩ := m_levs rfl hB hl hd s2 e2
  exact ⟨m3, h2.trans h3, s3, e3⟩
