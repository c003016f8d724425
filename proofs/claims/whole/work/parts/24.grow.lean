/-! LAYER 2: what happens to the store when a line comes: ages, what goes back. -/
def grw (B : Nat → Int32) (L : gCL) (e : Nat) : Nat → Nat → Int32
  | 0 => B
  | n + 1 => bup (grw B L e n) (30 + 5 * lp L n) (nI (bAg B (lp L n) + e))
theorem grw_ok {B : Nat → Int32} {N e : Nat} {L : gCL} (hB : BI B N) (hL : LW L) (hne : ∀ i, i < L.length → bL B (lp L i) ≠ 0) (he : ∀ i, i < L.length → bAg B (lp L i) + e ≤ 3) : ∀ n, n ≤ L.length → BI (grw B L e n) N ∧ (∀ q, q < 64 → bL (grw B L e n) q = bL B q) ∧ (∀ i, n ≤ i → i < L.length → bAg (grw B L e n) (lp L i) = bAg B (lp L i)) ∧ ∀ i, (∀ q, q < 64 → i ≠ 30 + 5 * q) → grw B L e n i = B i := by
  intro n
  induction n with
  | zero => intro _; exact ⟨hB, fun _ _ => rfl, fun _ _ _ => rfl, fun _ _ => rfl⟩
  | succ n ih =>
    intro hn
    obtain ⟨i1, i2, i3, i4⟩ := ih (by omega)
    have hp := hL.1 n (by omega)
    obtain ⟨a1, a2⟩ := BI_ag i1 hp (by rw [i2 _ hp]; exact hne n (by omega)) (he n (by omega))
    simp only [grw]
    refine ⟨a1, fun q hq => by rw [(a2 q hq).1]; exact i2 q hq, fun i hi hl => ?_, fun i hi => ?_⟩
    · rw [(a2 _ (hL.1 i hl)).2, if_neg (fun z => hL.2.1 n i (by omega) hl z.symm)]
      exact i3 i (by omega) hl
    · rw [bup_ne (hi _ hp)]; exact i4 i hi
def mxA (B : Nat → Int32) (L : gCL) : Nat → Nat
  | 0 => 0
  | n + 1 => max (mxA B L n) (bAg B (lp L n))
theorem mxA_pck {B : Nat → Int32} {L : gCL} : ∀ n, 0 < n → mxA B L n = bAg B (lp L (pck B L n)) := by
  intro n
  induction n with
  | zero => intro h; omega
  | succ n ih =>
    intro _
    simp only [mxA]
    rcases Nat.eq_zero_or_pos n with h | h
    · subst h; simp [mxA, pck]
    · rw [ih h]
      simp only [pck]
      split <;> omega
theorem nI_sub {a b : Nat} (h : b ≤ a) (ha : a < 2147483648) : nI a - nI b = nI (a - b) := by
  rw [show nI a = nI ((a - b) + b) by rw [Nat.sub_add_cancel h], ← nI_add]
  rw [show nI (a - b) + nI b - nI b = nI (a - b) + (nI b - nI b) by rw [Int32.sub_eq_add_neg, Int32.sub_eq_add_neg, Int32.add_assoc], Int32.sub_self, Int32.add_zero]
def pAg (k t k' _i : Nat) : Prop := t = 32 ∧ k' = k
theorem x_grow {m : gM} {k N : Nat} {B : Nat → Int32} {L : gCL} (hR : RS m k B N) (hB : BI B N) (hL : LW L) (h0 : 0 < L.length) (hS : SX m L) (hn : fE B L L.length = none) : ∃ m', X3_growOlder k m = some ((), m') ∧ RS m' k (grw B L (3 - bAg B (lp L (tk B L))) L.length) N ∧ Eqv (pAg k) m m' := by
  have hlen := LW_len hL
  have htk : tk B L = pck B L L.length := by unfold tk; rw [hn]
  have hmx := mxA_pck (B := B) (L := L) L.length h0
  rw [← htk] at hmx
  have hmle : ∀ i, i < L.length → bAg B (lp L i) ≤ bAg B (lp L (tk B L)) := fun i hi => by rw [htk]; exact pck_max _ i hi
  have h3 := (hB.2.2.2.2.2.2.1 _ (hL.1 _ (tk_lt (B := B) h0))).2.2.2.1.2
  have hg := grw_ok (e := 3 - bAg B (lp L (tk B L))) hB hL (fE_non _ hn) (fun i hi => by have := hmle i hi; omega)
  unfold X3_growOlder
  rw [show gJ1 _ _ = _ from rfl]
  refine gL2_for (fun i x σ => σ = m ∧ x = nI (mxA B L i) ∧ mxA B L i ≤ 3) (fun r => ∃ m', r = some ((), m') ∧ RS m' k (grw B L (3 - bAg B (lp L (tk B L))) L.length) N ∧ Eqv (pAg k) m m') L.length ?_ ?_ FU 0 0 m (Nat.zero_le _) (by rw [FU_eq]; omega) ⟨rfl, rfl, by simp [mxA]⟩
  · rintro i x σ K hi ⟨rfl, rfl, hx⟩ hK
    unfold X3_growOlder_b4
    have hp := hL.1 i hi
    have ag := (hB.2.2.2.2.2.2.1 _ hp).2.2.2.1
    rw [hS.1, if_neg (by rw [nI_leq (by omega) (by omega)]; omega), gAt_nI (show i < 64 by omega) (by omega), (hS.2.1 i hi).1, gAt_nI (show lp L i < 64 from hp) (by omega), hR.2.2.2.2.2.2.2.1 _ hp, ag.1, gMax_nI (by omega) (by omega)]
    simp only [gLet, nI_1]
    exact hK _ _ ⟨rfl, rfl, by simp only [mxA]; omega⟩
  · rintro x σ K ⟨rfl, rfl, hx⟩
    unfold X3_growOlder_b4
    rw [hS.1, if_pos (by rw [nI_leq (by omega) (by omega)]; omega)]
    refine gL1_for (fun i τ => RS τ k (grw B L (3 - bAg B (lp L (tk B L))) i) N ∧ Eqv (pAg k) σ τ) (fun r => ∃ m', r = some ((), m') ∧ RS m' k (grw B L (3 - bAg B (lp L (tk B L))) L.length) N ∧ Eqv (pAg k) σ m') L.length ?_ ?_ FU 0 σ (Nat.zero_le _) (by rw [FU_eq]; omega) ⟨hR, Eqv.rf⟩
    · rintro i τ K2 hi ⟨hR2, hE⟩ hK2
      unfold X3_growOlder_b36
      have hp := hL.1 i hi
      obtain ⟨g1, g2, g3, g4⟩ := hg i (by omega)
      have ag := (g1.2.2.2.2.2.2.1 _ hp).2.2.2.1
      rw [g3 i (Nat.le_refl _) hi] at ag
      have e1 : τ 1 0 3 = nI L.length := by rw [hE 1 0 3 (by unfold pAg; omega)]; exact hS.1
      have e2 : τ 17 0 i = nI (lp L i) := by rw [hE 17 0 i (by unfold pAg; omega)]; exact (hS.2.1 i hi).1
      rw [e1, if_neg (by rw [nI_leq (by omega) (by omega)]; omega), gAt_nI (show i < 64 by omega) (by omega), e2, gAt_nI (show lp L i < 64 from hp) (by omega), hR2.2.2.2.2.2.2.2.1 _ hp, ag.1, gPut_nI (show lp L i < 64 from hp) (by omega), hmx, li3, nI_sub h3 (by omega), nI_add]
      simp only [gLet, nI_1]
      exact hK2 _ ⟨by simp only [grw]; exact RS_u32 hR2 hp _, hE.tr (Eqv.up (by unfold pAg; omega))⟩
    · rintro τ K2 ⟨hR2, hE⟩
      unfold X3_growOlder_b36
      have e1 : τ 1 0 3 = nI L.length := by rw [hE 1 0 3 (by unfold pAg; omega)]; exact hS.1
      rw [e1, if_pos (by rw [nI_leq (by omega) (by omega)]; omega)]
      exact ⟨τ, rfl, hR2, hE⟩
/-- the reference's block only -/
def pBk (t k i : Nat) : Prop := t = 47 ∧ k = 0 ∧ 36 ≤ i ∧ i < 1503
theorem SM_bk {m m' : gM} {L : gCL} (h : SM m L) (e : Eqv pBk m m') : SM m' L := by
  obtain ⟨a, b, c⟩ := h
  have q := fun t i (ht : t ≠ 47) => e t 0 i (by unfold pBk; omega)
  exact ⟨by rw [q 9 _ (by omega)]; exact a, fun i hi => by rw [q 52 _ (by omega), q 53 _ (by omega)]; exact b i hi, fun p hp => by rw [q 54 _ (by omega)]; exact c p hp⟩
theorem m_put {m : gM} {i : Nat} {β : Type} {v : Int32} {kk : gM → Option β} (hi : i < 1467) : gPut m 47 0 (nI (36 + i)) v kk = kk (gup m 47 0 (36 + i) v) := gPut_nI (show 36 + i < 30843 by omega) (by omega)
theorem m_get {m : gM} {i : Nat} {β : Type} {kk : Int32 → Option β} (hi : i < 1467) : gAt m 47 0 (nI (36 + i)) kk = kk (mB m i) := gAt_nI (show 36 + i < 30843 by omega) (by omega)
theorem m_ix {p j : Nat} : ((63 + 5 * nI p) + nI j : Int32) = nI (36 + (27 + 5 * p + j)) := by
  rw [li63, li5, pk_mul, nI_add, nI_add]; congr 1; omega
theorem Eqv_bk {m : gM} {i : Nat} {v : Int32} (hi : i < 1467) : Eqv pBk m (gup m 47 0 (36 + i) v) := Eqv.up (by unfold pBk; omega)
theorem m_grow {m : gM} {N e : Nat} {B : Nat → Int32} {L : gCL} {R : gM → Option (Unit × gM)} (hm : mB m = B) (hB : BI B N) (hL : LW L) (hS : SM m L) (hne : ∀ i, i < L.length → bL B (lp L i) ≠ 0) (he : ∀ i, i < L.length → bAg B (lp L i) + e ≤ 3) : ∃ m', gL1 FU (X9_comeIn_b44 R (nI e)) 0 m = R m' ∧ mB m' = grw B L e L.length ∧ Eqv pBk m m' := by
  have hlen := LW_len hL
  have hg := grw_ok hB hL hne he
  refine gL1_for (fun i τ => mB τ = grw B L e i ∧ Eqv pBk m τ) (fun r => ∃ m', r = R m' ∧ mB m' = grw B L e L.length ∧ Eqv pBk m m') L.length ?_ ?_ FU 0 m (Nat.zero_le _) (by rw [FU_eq]; omega) ⟨hm, Eqv.rf⟩
  · rintro i τ K2 hi ⟨hR2, hE⟩ hK2
    unfold X9_comeIn_b44
    have hp := hL.1 i hi
    obtain ⟨g1, g2, g3, g4⟩ := hg i (by omega)
    have ag := (g1.2.2.2.2.2.2.1 _ hp).2.2.2.1
    rw [g3 i (Nat.le_refl _) hi] at ag
    have hS2 := SM_bk hS hE
    rw [hS2.1, if_neg (by rw [nI_leq (by omega) (by omega)]; omega), gAt_nI (show i < 64 by omega) (by omega), (hS2.2.1 i hi).1, m_at]
    simp only [gLet, nI_1]
    rw [li3, m_ix, m_get (by omega), m_put (by omega), show 27 + 5 * lp L i + 3 = 30 + 5 * lp L i by omega, hR2, ag.1, nI_add]
    exact hK2 _ ⟨by rw [mB_up, hR2]; rfl, hE.tr (Eqv_bk (by omega))⟩
  · rintro τ K2 ⟨hR2, hE⟩
    unfold X9_comeIn_b44
    rw [(SM_bk hS hE).1, if_pos (by rw [nI_leq (by omega) (by omega)]; omega)]
    exact ⟨τ, rfl, hR2, hE⟩
/-- a dirty value goes back to the memory -/
def gbk (B : Nat → Int32) (p : Nat) : Nat → Int32 := if B (29 + 5 * p) = 0 then B else bup (bup B (347 + (bL B p - 1)) (B (28 + 5 * p))) 6 (B 6 + 1)
theorem gbk_BI {B : Nat → Int32} {N p : Nat} (hB : BI B N) : BI (gbk B p) N := by
  unfold gbk
  split
  · exact hB
  · exact BI_hi (BI_me hB _) (fun i _ hi => bup_ne (by omega))
theorem gbk_at {B : Nat → Int32} {p i : Nat} (hi : i < 347) (h6 : i ≠ 6) : gbk B p i = B i := by
  unfold gbk
  split
  · rfl
  · rw [bup_ne h6, bup_ne (by omega)]
def pBr (k t k' _i : Nat) : Prop := (t = 26 ∨ t = 28 ∨ t = 31) ∧ k' = k
theorem x_bring0 {m : gM} {k N p : Nat} {B : Nat → Int32} (hR : RS m k B N) (hB : BI B N) (hp : p < 64) (h0 : bL B p = 0) : X3_bringBack k (nI p) m = some (0, m) := by
  unfold X3_bringBack
  have hs := hB.2.2.2.2.2.2.1 _ hp
  rw [gAt_nI (show p < 64 from hp) (by omega), hR.2.2.2.2.1 _ hp, hs.1, if_pos ((line_none hs.2.1).mpr h0)]
theorem x_bring {m : gM} {k N p : Nat} {B : Nat → Int32} (hR : RS m k B N) (hB : BI B N) (hp : p < 64) (h0 : bL B p ≠ 0) : ∃ m', X3_bringBack k (nI p) m = some (if B (29 + 5 * p) = 0 then 0 else 1, m') ∧ RS m' k (bup (gbk B p) (29 + 5 * p) 0) N ∧ Eqv (pBr k) m m' := by
  unfold X3_bringBack
  have hs := hB.2.2.2.2.2.2.1 _ hp
  rw [gAt_nI (show p < 64 from hp) (by omega), hR.2.2.2.2.1 _ hp, hs.1, if_neg (fun z => h0 ((line_none hs.2.1).mp z)), gAt_nI (show p < 64 from hp) (by omega), hR.2.2.2.2.2.2.1 _ hp]
  by_cases hd : B (29 + 5 * p) = 0
  · rw [if_pos hd, if_pos hd]
    refine ⟨m, rfl, RS_congrB hR (fun i hi => ?_), Eqv.rf⟩
    unfold gbk
    rw [if_pos hd, bup_at]
    split
    · rename_i e; rw [e, hd]
    · rfl
  · rw [if_neg hd, if_neg hd, gAt_nI (show p < 64 from hp) (by omega), hR.2.2.2.2.2.1 _ hp, nI_sub1 (by omega), gPut_nI (show bL B p - 1 < 1024 by omega) (by omega), gPut_nI (show p < 64 from hp) (by omega)]
    have r1 := RS_u31 (RS_u28 hR (show bL B p - 1 < 1024 by omega) (B (28 + 5 * p))) hp 0
    rw [li3, gAt_nI (show 3 < 6 by omega) (by omega), gPut_nI (show 3 < 6 by omega) (by omega), r1.2.1.2.2.2.1]
    refine ⟨_, rfl, RS_congrB (RS_k3 r1 _) (fun i hi => ?_), ((Eqv.up (by unfold pBr; omega)).tr (Eqv.up (by unfold pBr; omega))).tr (Eqv.up (by unfold pBr; omega))⟩
    unfold gbk
    rw [if_neg hd, bup_ne (show 6 ≠ 29 + 5 * p by omega), bup_ne (show 6 ≠ 347 + (bL B p - 1) by omega)]
    by_cases e1 : i = 6
    · rw [e1, bup_eq, bup_ne (by omega), bup_eq]
    · rw [bup_ne e1]
      by_cases e2 : i = 29 + 5 * p
      · rw [e2, bup_eq, bup_eq]
      · rw [bup_ne e2, bup_ne e2, bup_ne e1]
theorem m_goes {m : gM} {N p : Nat} {B : Nat → Int32} (hm : mB m = B) (hB : BI B N) (hp : p < 64) (h0 : bL B p ≠ 0) : ∃ m', X9_goesBack (nI p) m = some (if B (29 + 5 * p) = 0 then false else true, m') ∧ mB m' = gbk B p ∧ Eqv pBk m m' := by
  subst hm
  unfold X9_goesBack
  have hs := hB.2.2.2.2.2.2.1 _ hp
  rw [m_at, li2, m_row hp (by omega), show 27 + 5 * p + 2 = 29 + 5 * p by omega]
  by_cases hd : mB m (29 + 5 * p) = 0
  · rw [if_pos hd, if_pos hd]
    exact ⟨m, rfl, by unfold gbk; rw [if_pos hd], Eqv.rf⟩
  · rw [if_neg hd, if_neg hd, gCall_eq (X9_la hB hp), m_at, li1, m_row hp (by omega), show 27 + 5 * p + 1 = 28 + 5 * p by omega, nI_sub (show 1 ≤ bL (mB m) p by omega) (by omega), li383, nI_add, show 383 + (bL (mB m) p - 1) = 36 + (347 + (bL (mB m) p - 1)) by omega, m_put (by omega), show (42 : Int32) = nI (36 + 6) from rfl, m_get (by omega), m_put (by omega), mB_up]
    refine ⟨_, rfl, ?_, (Eqv_bk (by omega)).tr (Eqv_bk (by omega))⟩
    rw [mB_up, mB_up, bup_ne (show 6 ≠ 347 + (bL (mB m) p - 1) by omega)]
    unfold gbk
    rw [if_neg hd]; rfl
