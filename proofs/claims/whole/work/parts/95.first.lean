/-! LAYER 3: what both constructors leave behind answers alike: the first INV. -/
def Bq (l : Int32) (n : Nat) : Nat → Int32 := fun i => if i = 0 ∨ i = 1 then 2 else if i = 8 then 431 else if 27 ≤ i ∧ i < 347 ∧ (i - 27) % 5 = 0 then l else if 347 ≤ i ∧ i < 347 + n then nI ((i - 347) * 7 % 100) else 0
def lay0 (B : Nat → Int32) : Nat → Int32 := bup (bup (bup (bup B 11 1) 12 2) 15 1) 16 2
theorem fm_plain (B : Nat → Int32) : fmW 0 B 2 2 = lay0 B := by
  have s : ∀ (B : Nat → Int32) (w j : Nat), stp 0 B w j = bup B (11 + (4 * w + j)) (1 <<< (nI j &&& 31)) := fun B w j => by
    unfold stp
    rw [if_neg (by decide), if_neg (by decide)]
  show stp 0 (stp 0 (stp 0 (stp 0 B 0 0) 0 1) 1 0) 1 1 = _
  rw [s, s, s, s, show (1 : Int32) <<< (nI 0 &&& 31) = 1 by decide, show (1 : Int32) <<< (nI 1 &&& 31) = 2 by decide]
  rfl
theorem lay0_ne {B : Nat → Int32} {i : Nat} (h : i < 11 ∨ 27 ≤ i) : lay0 B i = B i := by
  unfold lay0
  rw [bup_ne (by omega), bup_ne (by omega), bup_ne (by omega), bup_ne (by omega)]
theorem Bq_z {l : Int32} {n i : Nat} (h : 2 ≤ i ∧ i ≠ 8 ∧ ¬ (27 ≤ i ∧ i < 347 ∧ (i - 27) % 5 = 0) ∧ ¬ (347 ≤ i ∧ i < 347 + n)) : Bq l n i = 0 := by
  unfold Bq
  rw [if_neg (by omega), if_neg (by omega), if_neg (by omega), if_neg (by omega)]
theorem Bq_l {l : Int32} {n p : Nat} (h : p < 64) : Bq l n (27 + 5 * p) = l := by
  unfold Bq
  rw [if_neg (by omega), if_neg (by omega), if_pos (by omega)]
theorem Bq_s (l : Int32) (n : Nat) : bup (lay0 (Bq l n)) (347 + n) (nI (n * 7 % 100)) = lay0 (Bq l (n + 1)) := by
  have h : bup (Bq l n) (347 + n) (nI (n * 7 % 100)) = Bq l (n + 1) := by
    funext i
    unfold bup Bq
    by_cases c : i = 347 + n
    · rw [if_pos c, if_neg (by omega), if_neg (by omega), if_neg (by omega), if_pos (by omega), show i - 347 = n by omega]
    · rw [if_neg c]
      by_cases d : 347 ≤ i ∧ i < 347 + n
      · rw [if_neg (by omega), if_neg (by omega), if_neg (by omega), if_pos d, if_neg (by omega), if_neg (by omega), if_neg (by omega), if_pos (by omega)]
      · by_cases a : i = 0 ∨ i = 1
        · rw [if_pos a, if_pos a]
        · rw [if_neg a, if_neg a]
          by_cases b : i = 8
          · rw [if_pos b, if_pos b]
          · rw [if_neg b, if_neg b]
            by_cases e : 27 ≤ i ∧ i < 347 ∧ (i - 27) % 5 = 0
            · rw [if_pos e, if_pos e]
            · rw [if_neg e, if_neg e, if_neg d, if_neg (by omega)]
  rw [← h]
  funext i
  unfold lay0
  simp only [bup_at]
  by_cases c : i = 347 + n
  · simp only [c, if_true]
    rw [if_neg (by omega), if_neg (by omega), if_neg (by omega), if_neg (by omega)]
  · simp only [if_neg c]
theorem RS_lines {m : gM} {k n : Nat} (h : RS m k (lay0 (Bq 1 n)) 0) : RS (gfil m 29 k (-1) 64) k (lay0 (Bq 0 n)) 0 := by
  obtain ⟨⟨a1, a2, a3, a4⟩, ⟨b1, b2, b3, b4, b5, b6⟩, c1, c2, c3, c4, c5, c6, c7, nb, d1, d2, d3, d4⟩ := h
  have em : ∀ t i, t ≠ 29 → gfil m 29 k (-1) 64 t k i = m t k i := fun t i ht => by unfold gfil; rw [if_neg (by omega)]
  have eB : ∀ i, ¬ (27 ≤ i ∧ i < 347 ∧ (i - 27) % 5 = 0) → lay0 (Bq 0 n) i = lay0 (Bq 1 n) i := by
    intro i hi
    have e : Bq 0 n i = Bq 1 n i := by
      unfold Bq
      rw [if_neg hi, if_neg hi]
    unfold lay0
    simp only [bup_at, e]
  refine ⟨⟨by rw [em _ _ (by omega), eB _ (by omega)]; exact a1, by rw [em _ _ (by omega), eB _ (by omega)]; exact a2, by rw [em _ _ (by omega), eB _ (by omega)]; exact a3, by rw [em _ _ (by omega), eB _ (by omega)]; exact a4⟩, ⟨by rw [em _ _ (by omega), eB _ (by omega)]; exact b1, by rw [em _ _ (by omega), eB _ (by omega)]; exact b2, by rw [em _ _ (by omega), eB _ (by omega)]; exact b3, by rw [em _ _ (by omega), eB _ (by omega)]; exact b4, by rw [em _ _ (by omega), eB _ (by omega)]; exact b5, by rw [em _ _ (by omega), eB _ (by omega)]; exact b6⟩, fun q hq => by rw [em _ _ (by omega), eB _ (by omega), mB_w (eB 0 (by omega)), mB_n (eB 1 (by omega))]; exact c1 q hq, fun q hq => by rw [em _ _ (by omega), eB _ (by omega)]; exact c2 q hq, fun q hq => ?_, fun q hq => by rw [em _ _ (by omega), eB _ (by omega)]; exact c4 q hq, fun q hq => by rw [em _ _ (by omega), eB _ (by omega)]; exact c5 q hq, fun q hq => by rw [em _ _ (by omega), eB _ (by omega)]; exact c6 q hq, fun q hq => by rw [em _ _ (by omega), eB _ (by omega)]; exact c7 q hq, nb, by rw [em _ _ (by omega)]; exact d1, d2, by rw [eB _ (by omega)]; exact d3, fun q j hq hj => by rw [em _ _ (by omega), eB _ (by omega)]; exact d4 q j hq hj⟩
  rw [lay0_ne (by omega), Bq_l hq]
  unfold gfil
  rw [if_pos ⟨rfl, rfl, hq⟩]
  decide
def sX3 (x : gM) (k : Nat) : gM := gup (gup (gup x 3 k 0 2) 3 k 1 2) 3 k 3 431
/-- the store k is as it was made -/
def ZS (x : gM) (k : Nat) : Prop := ∀ t i, (t = 3 ∨ (25 ≤ t ∧ t ≤ 33)) → x t k i = 0
theorem sX3_z {x : gM} {k t i : Nat} (h : ZS x k) (h3 : 25 ≤ t ∧ t ≤ 33) : sX3 x k t k i = 0 := by
  unfold sX3
  rw [gup_t (by omega), gup_t (by omega), gup_t (by omega)]
  exact h t i (Or.inr h3)
theorem sX3_3 {x : gM} {k i : Nat} (h : ZS x k) : sX3 x k 3 k i = if i = 3 then 431 else if i = 1 then 2 else if i = 0 then 2 else 0 := by
  unfold sX3
  rw [gup_at, gup_at, gup_at, h 3 i (Or.inl rfl)]
theorem RS_X3 {x : gM} {k : Nat} (h : ZS x k) : RS (sX3 x k) k (Bq 1 0) 0 := by
  have e3 := fun (i : Nat) => sX3_3 (i := i) h
  have z := fun (t i : Nat) (ht : 25 ≤ t ∧ t ≤ 33) => sX3_z (i := i) h ht
  refine ⟨⟨(e3 0).trans (by decide), (e3 1).trans (by decide), (e3 2).trans (by decide), (e3 3).trans (by decide)⟩, ⟨(z 26 0 (by omega)).trans (by decide), (z 26 1 (by omega)).trans (by decide), (z 26 2 (by omega)).trans (by decide), (z 26 3 (by omega)).trans (by decide), (z 26 4 (by omega)).trans (by decide), (z 26 5 (by omega)).trans (by decide)⟩, fun i hi _ _ => ?_, fun i hi => ?_, fun p hp => ?_, fun p hp => ?_, fun p hp => ?_, fun p hp => ?_, fun p hp => ?_, 0, (e3 4).trans (by decide), Nat.le_refl _, by decide, fun i j hi hj => absurd hi (by omega)⟩
  · rw [z 25 _ (by omega), Bq_z (by omega)]
  · rw [z 28 _ (by omega), Bq_z (by omega)]
  · rw [z 29 _ (by omega), Bq_l hp]; decide
  · rw [z 30 _ (by omega), Bq_z (by omega)]
  · rw [z 31 _ (by omega), Bq_z (by omega)]
  · rw [z 32 _ (by omega), Bq_z (by omega)]
  · rw [z 33 _ (by omega), Bq_z (by omega)]
theorem x_begin {n k : Nat} {x : gM} (hn : n = 1024) (hz : ZS x k) : ∃ σa, X3_begin k x = some ((), σa) ∧ RS σa k (lay0 (Bq 0 n)) 0 ∧ Eqv (pCo k) x σa := by
  unfold X3_begin
  simp only [gSet]
  rw [show gup (gup (gup x 3 k 0 2) 3 k 1 2) 3 k 3 431 = sX3 x k from rfl]
  obtain ⟨m4, h1, h2, h3⟩ := x_setF (m := sX3 x k) (k := k) (N := 0) (n := 2) (w := 2) (a := 0) (RS_X3 hz) rfl (by omega) (by omega) ⟨fun _ _ _ => rfl, rfl⟩
  rw [gCall_eq h1, gJ0_e]
  rw [fm_plain] at h2
  have e3 : Eqv (pCo k) x (sX3 x k) := ((Eqv.up (by unfold pCo; omega)).tr (Eqv.up (by unfold pCo; omega))).tr (Eqv.up (by unfold pCo; omega))
  refine gL1_for (fun i σ => RS σ k (lay0 (Bq 1 i)) 0 ∧ Eqv (pCo k) x σ) (fun r => ∃ σa, r = some ((), σa) ∧ RS σa k (lay0 (Bq 0 n)) 0 ∧ Eqv (pCo k) x σa) n ?_ ?_ FU 0 m4 (Nat.zero_le _) (by rw [FU_eq]; omega) ⟨h2, e3.tr h3⟩
  · rintro i σ K hi ⟨g1, g2⟩ hK
    unfold X3_begin_b24
    rw [if_neg (by rw [li1024, nI_leq (by omega) (by omega)]; omega), gPut_nI (show i < 1024 by omega) (by omega), gLet, nI_1]
    refine hK _ ⟨?_, g2.tr (Eqv.up (by unfold pCo; omega))⟩
    rw [li7, pk_mul, li100, nI_rem (by omega) (by omega) (by omega), ← Bq_s]
    exact RS_u28 g1 (by omega) _
  · rintro σ K ⟨g1, g2⟩
    unfold X3_begin_b24
    rw [if_pos (by rw [li1024, nI_leq (by omega) (by omega)]; omega)]
    dsimp only
    rw [gCall_eq (fill_ok (by rw [ge29, FU_eq]; omega)), ge29]
    exact ⟨_, rfl, RS_lines g1, g2.tr (Eqv_fil (fun _ => by unfold pCo; omega))⟩
theorem mB_L (n : Nat) : mB (σL n) = Bq 0 n := by
  funext i
  unfold mB σL
  by_cases d : 347 ≤ i ∧ i < 347 + n
  · rw [if_pos (by omega), show 36 + i - 383 = i - 347 by omega]
    unfold Bq
    rw [if_neg (by omega), if_neg (by omega), if_neg (by omega), if_pos d]
  · rw [if_neg (by omega)]
    unfold σM3
    rw [gup_at, gup_at, gup_at]
    unfold σM
    rw [if_neg (show ¬ (47 = 9 ∧ _) by omega)]
    unfold Bq
    by_cases a : i = 0 ∨ i = 1
    · rw [if_neg (by omega), if_pos a]
      by_cases b : i = 0
      · rw [if_neg (by omega), if_pos (by omega)]
      · rw [if_pos (by omega)]
    · rw [if_neg a]
      by_cases b : i = 8
      · rw [if_pos (by omega), if_pos b]
      · rw [if_neg (by omega), if_neg b, if_neg (by omega), if_neg (by omega), if_neg d]
        exact (ite_self _).symm
theorem lay_m (n : Nat) : ∀ i, i < 16 → ∃ v, Bq 0 n (11 + i) = nI v ∧ v < 1024 := fun i hi => ⟨0, by rw [Bq_z (by omega)]; rfl, by omega⟩
theorem BI_lay {n : Nat} (hn : n ≤ 1024) : BI (lay0 (Bq 0 n)) 0 := by
  refine (BI_mk 2 2 0 (fun w j => if w < 2 ∧ j < 2 then 2 ^ j else 0) (fun _ => 0) (fun _ => 0) ?_ (by omega) ?_ (by omega) ?_ (by omega) ⟨0, 0, ?_, ?_, Nat.le_refl _⟩ ⟨431, ?_, by omega⟩ ?_ ?_ ?_ ?_).1
  · rw [lay0_ne (by omega)]; rfl
  · rw [lay0_ne (by omega)]; rfl
  · rw [lay0_ne (by omega), Bq_z (by omega)]; rfl
  · rw [lay0_ne (by omega), Bq_z (by omega)]; rfl
  · rw [lay0_ne (by omega), Bq_z (by omega)]; rfl
  · rw [lay0_ne (by omega)]; rfl
  · intro w j hw hj
    have e : Bq 0 n (11 + 4 * w + j) = 0 := Bq_z (by omega)
    unfold lay0
    simp only [bup_at, e]
    clear e
    have key : ∀ w, w < 4 → ∀ j, j < 4 → (if 11 + 4 * w + j = 16 then (2 : Int32) else if 11 + 4 * w + j = 15 then 1 else if 11 + 4 * w + j = 12 then 2 else if 11 + 4 * w + j = 11 then 1 else 0) = nI (if w < 2 ∧ j < 2 then 2 ^ j else 0) ∧ (if w < 2 ∧ j < 2 then 2 ^ j else 0) < 1024 := by decide +kernel
    exact key w hw j hj
  · intro p hp
    rw [lay0_ne (by omega), lay0_ne (by omega), lay0_ne (by omega), lay0_ne (by omega), Bq_l hp, Bq_z (by omega), Bq_z (by omega), Bq_z (by omega)]
    exact ⟨rfl, by omega, Or.inl rfl, ⟨rfl, by omega⟩, Or.inl rfl⟩
  · intro p hp hne
    exact absurd rfl hne
  · intro p hp _
    rw [lay0_ne (by omega), lay0_ne (by omega), lay0_ne (by omega), lay0_ne (by omega), Bq_z (by omega), Bq_z (by omega), Bq_z (by omega), Bq_z (by omega)]
    exact ⟨rfl, rfl, rfl, rfl⟩
theorem σL_o {n t i : Nat} (h : ¬ (t = 47 ∧ 36 ≤ i)) : σL n t 0 i = σM t 0 i := by
  unfold σL σM3 gup
  rw [if_neg (by omega), if_neg (by omega), if_neg (by omega), if_neg (by omega)]
/-- both made, they answer alike -/
theorem first_INV {n : Nat} (hn : n = 1024) : ∃ σa σb μa μb, X3_begin 0 σX = some ((), σa) ∧ X3_begin 21 σa = some ((), σb) ∧ X9_layFamily 0 (σL n) = some ((), μa) ∧ X9_copy 47 0 48 0 μa = some ((), μb) ∧ INV σb μb 0 := by
  have zX : ∀ k, ZS σX k := fun k t i ht => by unfold σX; rw [if_neg (by omega)]
  obtain ⟨σa, h1, h2, h3⟩ := x_begin hn (zX 0)
  obtain ⟨σb, a1, a2, a3⟩ := x_begin (k := 21) (x := σa) hn (fun t i ht => (h3 t 21 i (by unfold pCo; omega)).trans (zX 21 t i ht))
  have hF : FK (Bq 0 n) (Bq 0 n) 2 := ⟨fun _ _ _ => rfl, rfl, ⟨431, rfl, by omega⟩, lay_m n⟩
  obtain ⟨μa, g1, g2, g3⟩ := m_layF (m := σL n) (n := 2) (w := 2) (a := 0) (mB_L n) rfl (by omega) (by omega) hF (Or.inl rfl)
  rw [fm_plain] at g2
  have hm : ∀ t i, ¬ (t = 47 ∧ 36 ≤ i) → μa t 0 i = σM t 0 i := fun t i h => (g3 t 0 i (by unfold pBk; omega)).trans (σL_o h)
  have hs : ∀ t k i, t ≠ 3 → t ≠ 8 → (t < 17 ∨ 34 ≤ t) → t ≠ 1 → σb t k i = 0 := fun t k i a b c d => (a3 t k i (by unfold pCo; omega)).trans ((h3 t k i (by unfold pCo; omega)).trans (by unfold σX; rw [if_neg (by omega)]))
  have z47 : ∀ i, i < 36 → μa 47 0 i = 0 := fun i hi => (hm 47 i (by omega)).trans (by unfold σM; rw [if_neg (by omega)])
  have hW : ∀ w, RS σb (21 * w) (mB μa) 0 → WR σb w (μa 47 0) (μa 49 0) 0 := by
    intro w hR
    refine ⟨⟨hR, ?_⟩, ⟨0, 0, 0, ?_, ?_, by omega, ?_, by omega, ?_, by omega, fun j hj => absurd hj (by omega)⟩, ⟨0, ?_, ?_, by omega, fun t ht => absurd ht (by omega)⟩, 0, ?_, ?_, by omega, fun i hi => absurd hi (by omega), fun i j _ hj => absurd hj (by omega)⟩
    · show BI (mB μa) 0
      rw [g2]; exact BI_lay (by omega)
    · exact hs 6 w 5 (by omega) (by omega) (by omega) (by omega)
    · exact z47 1 (by omega)
    · exact hs 6 w 4 (by omega) (by omega) (by omega) (by omega)
    · exact z47 2 (by omega)
    · exact hs 6 w 6 (by omega) (by omega) (by omega) (by omega)
    · exact z47 0 (by omega)
    · exact hs 6 w 7 (by omega) (by omega) (by omega) (by omega)
    · exact z47 3 (by omega)
  have R0 : RS σb (21 * 0) (mB μa) 0 := by
    rw [g2]
    exact RS_congr h2 (fun t i ht => a3 t 0 i (by unfold pCo; omega))
  have R1 : RS σb (21 * 1) (mB μa) 0 := by
    rw [g2]
    exact a2
  have e8 : ∀ i, σb 8 0 i = σX 8 0 i := fun i => (a3 8 0 i (by unfold pCo; omega)).trans (h3 8 0 i (by unfold pCo; omega))
  refine ⟨σa, σb, μa, gblk μa 47 0 0 48 0 0 30843, h1, a1, g1, m_copy (by omega) (Or.inl rfl) (Or.inr rfl), ?_⟩
  unfold INV
  rw [blk_oth (t' := 47) (by omega), blk_oth (t' := 49) (by omega), blk_oth (t' := 9) (by omega), blk_oth (t' := 50) (by omega)]
  refine ⟨hW 0 R0, WR_A (hW 1 R1) (fun i hi => blk_in hi), by rw [hs 6 1 6 (by omega) (by omega) (by omega) (by omega), hs 6 0 6 (by omega) (by omega) (by omega) (by omega)]; exact Nat.le_refl _, ⟨0, by omega, ?_, ?_, fun i hi => absurd hi (by omega)⟩, ?_, ?_, by omega⟩
  · rw [e8]; rfl
  · rw [hm 9 4 (by omega)]; rfl
  · rw [e8, hm 9 5 (by omega)]; rfl
  · rw [e8, hm 9 6 (by omega)]; rfl
