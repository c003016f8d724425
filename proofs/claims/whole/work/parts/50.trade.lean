/-! LAYER 2: trade. -/
def sg (a b n q : Nat) : Nat := if a ≤ q ∧ q < a + n then b + (q - a) else if b ≤ q ∧ q < b + n then a + (q - b) else q
def gsw (m : gM) (t k a b n : Nat) : gM := fun t' k' q => if t' = t ∧ k' = k then m t k (sg a b n q) else m t' k' q
theorem swap_loop {β : Type} {m : gM} (t k a b n : Nat) {R : gM → Option β} {f : Int32 → gM → (Int32 → gM → Option β) → Option β} (hs : ∀ i σ K, i < n → f (nI i) σ K = K (nI (i + 1)) (gup (gup σ t k (a + i) (σ t k (b + i))) t k (b + i) (σ t k (a + i)))) (hx : ∀ σ K, f (nI n) σ K = R σ) (hd : a + n ≤ b ∨ b + n ≤ a) (hn : n < FU) : gL1 FU f 0 m = R (gsw m t k a b n) := by
  refine gL1_for (fun i σ => i ≤ n ∧ σ = gsw m t k a b i) (fun o => o = R (gsw m t k a b n)) n ?_ ?_ FU 0 m (Nat.zero_le _) (by omega) ⟨Nat.zero_le _, ?_⟩
  · rintro i σ K hi ⟨hin, rfl⟩ hK
    rw [hs i _ K hi]
    refine hK _ ⟨by omega, ?_⟩
    have ha : gsw m t k a b i t k (a + i) = m t k (a + i) := by
      unfold gsw sg
      rw [if_pos ⟨rfl, rfl⟩, if_neg (by omega), if_neg (by omega)]
    have hb : gsw m t k a b i t k (b + i) = m t k (b + i) := by
      unfold gsw sg
      rw [if_pos ⟨rfl, rfl⟩, if_neg (by omega), if_neg (by omega)]
    rw [ha, hb]
    funext t' k' q
    unfold gup
    by_cases e : t' = t ∧ k' = k
    · obtain ⟨rfl, rfl⟩ := e
      unfold gsw
      simp only [true_and, and_self, if_true]
      by_cases e1 : q = b + i
      · rw [if_pos e1]
        congr 1
        unfold sg
        rw [if_neg (by omega), if_pos (by omega)]
        omega
      · rw [if_neg e1]
        by_cases e2 : q = a + i
        · rw [if_pos e2]
          congr 1
          unfold sg
          rw [if_pos (by omega)]
          omega
        · rw [if_neg e2]
          congr 1
          unfold sg
          by_cases c1 : a ≤ q ∧ q < a + i
          · rw [if_pos c1, if_pos (by omega)]
          · rw [if_neg c1]
            by_cases c2 : b ≤ q ∧ q < b + i
            · rw [if_pos c2, if_neg (by omega), if_pos (by omega)]
            · rw [if_neg c2, if_neg (by omega), if_neg (by omega)]
    · unfold gsw
      rw [if_neg (by omega), if_neg (by omega), if_neg e, if_neg e]
  · rintro σ K ⟨-, rfl⟩
    exact hx _ K
  · funext t' k' q
    unfold gsw sg
    by_cases e : t' = t ∧ k' = k
    · rw [if_pos e, if_neg (by omega), if_neg (by omega), e.1, e.2]
    · rw [if_neg e]
theorem x_parts {m : gM} {t k w o n : Nat} (hw : w < 4) (ho : o < 4) (hne : w ≠ o) (hn : n ≤ 16) (hl : glen t = 4 * n) : X3_tradeParts t k (nI w) (nI o) (nI n) m = some ((), gsw m t k (w * n) (o * n) n) := by
  unfold X3_tradeParts
  have h1 : w * n + n ≤ 4 * n := by rw [← Nat.succ_mul]; exact Nat.mul_le_mul_right n hw
  have h2 : o * n + n ≤ 4 * n := by rw [← Nat.succ_mul]; exact Nat.mul_le_mul_right n ho
  have hd : w * n + n ≤ o * n ∨ o * n + n ≤ w * n := by
    rw [← Nat.succ_mul, ← Nat.succ_mul]
    rcases Nat.lt_or_gt_of_ne hne with z | z
    · exact Or.inl (Nat.mul_le_mul_right n z)
    · exact Or.inr (Nat.mul_le_mul_right n z)
  refine swap_loop (R := fun σ => some ((), σ)) t k (w * n) (o * n) n (fun i σ K hi => ?_) (fun σ K => ?_) hd (by rw [FU_eq]; omega)
  · unfold X3_tradeParts_b3
    rw [if_neg (by rw [nI_leq (by omega) (by omega)]; omega), pk_mul, pk_mul, nI_add, nI_add, gAt_nI (show w * n + i < glen t by omega) (by omega), gAt_nI (show o * n + i < glen t by omega) (by omega), gPut_nI (show w * n + i < glen t by omega) (by omega), gPut_nI (show o * n + i < glen t by omega) (by omega), gLet, nI_1]
  · unfold X3_tradeParts_b3
    rw [if_pos (by rw [nI_leq (by omega) (by omega)]; omega)]
theorem gsw_t {m : gM} {t k a b n t' : Nat} (h : t' ≠ t) : gsw m t k a b n t' = m t' := by
  funext k' q
  unfold gsw
  rw [if_neg (fun z => h z.1)]
theorem gsw_at {m : gM} {t k a b n q : Nat} : gsw m t k a b n t k q = m t k (sg a b n q) := by
  unfold gsw
  rw [if_pos ⟨rfl, rfl⟩]
theorem gsw_E {P : Nat → Nat → Nat → Prop} {m : gM} {t k a b n : Nat} (h : ∀ q, sg a b n q ≠ q → P t k q) : Eqv P m (gsw m t k a b n) := by
  intro t' k' q hq
  unfold gsw
  by_cases e : t' = t ∧ k' = k
  · rw [if_pos e]
    by_cases c : sg a b n q = q
    · rw [c, e.1, e.2]
    · exact absurd (by rw [e.1, e.2]; exact h q c) hq
  · rw [if_neg e]
def trB (B : Nat → Int32) (w o i : Nat) : Int32 := B (sg (11 + 4 * w) (11 + 4 * o) 4 (sg (27 + 80 * w) (27 + 80 * o) 80 i))
theorem trB_out {B : Nat → Int32} {w o i : Nat} (hw : w < 4) (ho : o < 4) (h : i < 11 ∨ 347 ≤ i) : trB B w o i = B i := by
  unfold trB
  rw [show sg (27 + 80 * w) (27 + 80 * o) 80 i = i by unfold sg; rw [if_neg (by omega), if_neg (by omega)]]
  rw [show sg (11 + 4 * w) (11 + 4 * o) 4 i = i by unfold sg; rw [if_neg (by omega), if_neg (by omega)]]
theorem trB_mk {B : Nat → Int32} {w o i : Nat} (hw : w < 4) (ho : o < 4) (h : i < 16) : trB B w o (11 + i) = B (11 + sg (4 * w) (4 * o) 4 i) := by
  unfold trB
  rw [show sg (27 + 80 * w) (27 + 80 * o) 80 (11 + i) = 11 + i by unfold sg; rw [if_neg (by omega), if_neg (by omega)]]
  congr 1
  unfold sg
  by_cases c1 : 4 * w ≤ i ∧ i < 4 * w + 4
  · rw [if_pos c1, if_pos (by omega)]; omega
  · rw [if_neg c1, if_neg (by omega)]
    by_cases c2 : 4 * o ≤ i ∧ i < 4 * o + 4
    · rw [if_pos c2, if_pos (by omega)]; omega
    · rw [if_neg c2, if_neg (by omega)]
theorem sg_lt {a b n q M : Nat} (h : q < M) (ha : a + n ≤ M) (hb : b + n ≤ M) : sg a b n q < M := by
  unfold sg
  split
  · omega
  · split <;> omega
theorem trB_sl {B : Nat → Int32} {w o p j : Nat} (hw : w < 4) (ho : o < 4) (hp : p < 64) (hj : j < 5) : trB B w o (27 + 5 * p + j) = B (27 + 5 * sg (16 * w) (16 * o) 16 p + j) := by
  unfold trB
  have h1 : sg (27 + 80 * w) (27 + 80 * o) 80 (27 + 5 * p + j) = 27 + 5 * sg (16 * w) (16 * o) 16 p + j := by
    unfold sg
    by_cases c1 : 16 * w ≤ p ∧ p < 16 * w + 16
    · rw [if_pos c1, if_pos (by omega)]; omega
    · rw [if_neg c1, if_neg (by omega)]
      by_cases c2 : 16 * o ≤ p ∧ p < 16 * o + 16
      · rw [if_pos c2, if_pos (by omega)]; omega
      · rw [if_neg c2, if_neg (by omega)]
  rw [h1]
  have h2 : sg (16 * w) (16 * o) 16 p < 64 := sg_lt hp (by omega) (by omega)
  congr 1
  unfold sg
  rw [if_neg (by omega), if_neg (by omega)]
def swW (w o u : Nat) : Nat := if u = w then o else if u = o then w else u
theorem sg_mk {w o u j : Nat} (hj : j < 4) : sg (4 * w) (4 * o) 4 (4 * u + j) = 4 * swW w o u + j := by
  unfold sg swW
  by_cases c1 : u = w
  · rw [if_pos c1, if_pos (by omega)]; omega
  · rw [if_neg c1, if_neg (by omega)]
    by_cases c2 : u = o
    · rw [if_pos c2, if_pos (by omega)]; omega
    · rw [if_neg c2, if_neg (by omega)]
theorem sg_sl {w o p : Nat} : sg (16 * w) (16 * o) 16 p / 16 = swW w o (p / 16) ∧ sg (16 * w) (16 * o) 16 p % 16 = p % 16 := by
  unfold sg swW
  by_cases c1 : p / 16 = w
  · rw [if_pos c1, if_pos (by omega)]; omega
  · rw [if_neg c1, if_neg (by omega)]
    by_cases c2 : p / 16 = o
    · rw [if_pos c2, if_pos (by omega)]; omega
    · rw [if_neg c2, if_neg (by omega)]; omega
theorem trB_BI {B : Nat → Int32} {N w o : Nat} (hB : BI B N) (hw : w < bW B) (ho : o < bW B) : BI (trB B w o) N ∧ bW (trB B w o) = bW B ∧ bN (trB B w o) = bN B := by
  have hW := hB.1.2.2
  have hw4 : w < 4 := by omega
  have ho4 : o < 4 := by omega
  obtain ⟨⟨a1, a2⟩, ⟨b1, b2⟩, ⟨c1, c2⟩, ⟨x1, x2, d1, d2, d3⟩, ⟨y, e1, e2⟩, f1, f2, f3⟩ := id hB
  have hsw : ∀ u, u < 4 → swW w o u < 4 := by
    intro u hu
    unfold swW
    split
    · omega
    · split <;> omega
  have hsW : ∀ u, swW w o u < bW B → u < bW B := by
    intro u hu
    unfold swW at hu
    split at hu
    · omega
    · split at hu <;> omega
  have g := BI_mk (B := trB B w o) (N := N) (bW B) (bN B) (bD B) (fun u j => bMk B (swW w o u) j) (fun p => bL B (sg (16 * w) (16 * o) 16 p)) (fun p => bAg B (sg (16 * w) (16 * o) 16 p)) (by rw [trB_out hw4 ho4 (by omega)]; exact a1) a2 (by rw [trB_out hw4 ho4 (by omega)]; exact b1) b2 (by rw [trB_out hw4 ho4 (by omega)]; exact c1) c2 ⟨x1, x2, by rw [trB_out hw4 ho4 (by omega)]; exact d1, by rw [trB_out hw4 ho4 (by omega)]; exact d2, d3⟩ ⟨y, by rw [trB_out hw4 ho4 (by omega)]; exact e1, e2⟩ (fun u j hu hj => by
      have h1 := f1 (swW w o u) j (hsw u hu) hj
      rw [show 11 + 4 * u + j = 11 + (4 * u + j) by omega, trB_mk hw4 ho4 (by omega), sg_mk hj, ← Nat.add_assoc]
      exact h1) (fun p hp => by
      have h2 : sg (16 * w) (16 * o) 16 p < 64 := sg_lt hp (by omega) (by omega)
      have h1 := f2 _ h2
      rw [show 27 + 5 * p = 27 + 5 * p + 0 by omega, trB_sl hw4 ho4 hp (by omega), show 29 + 5 * p = 27 + 5 * p + 2 by omega, trB_sl hw4 ho4 hp (by omega), show 30 + 5 * p = 27 + 5 * p + 3 by omega, trB_sl hw4 ho4 hp (by omega), show 31 + 5 * p = 27 + 5 * p + 4 by omega, trB_sl hw4 ho4 hp (by omega)]
      rw [show 29 + 5 * sg (16 * w) (16 * o) 16 p = 27 + 5 * sg (16 * w) (16 * o) 16 p + 2 by omega, show 30 + 5 * sg (16 * w) (16 * o) 16 p = 27 + 5 * sg (16 * w) (16 * o) 16 p + 3 by omega, show 31 + 5 * sg (16 * w) (16 * o) 16 p = 27 + 5 * sg (16 * w) (16 * o) 16 p + 4 by omega] at h1
      exact h1) (fun p hp hne => by
      have h2 : sg (16 * w) (16 * o) 16 p < 64 := sg_lt hp (by omega) (by omega)
      obtain ⟨k1, k2⟩ := f3.1 _ h2 hne
      rw [sg_sl.1] at k1 k2
      rw [sg_sl.2] at k2
      exact ⟨hsW _ k1, k2⟩) (fun p hp h0 => by
      have h2 : sg (16 * w) (16 * o) 16 p < 64 := sg_lt hp (by omega) (by omega)
      have h1 := f3.2 _ h2 h0
      rw [show 28 + 5 * p = 27 + 5 * p + 1 by omega, trB_sl hw4 ho4 hp (by omega), show 29 + 5 * p = 27 + 5 * p + 2 by omega, trB_sl hw4 ho4 hp (by omega), show 30 + 5 * p = 27 + 5 * p + 3 by omega, trB_sl hw4 ho4 hp (by omega), show 31 + 5 * p = 27 + 5 * p + 4 by omega, trB_sl hw4 ho4 hp (by omega)]
      rw [show 28 + 5 * sg (16 * w) (16 * o) 16 p = 27 + 5 * sg (16 * w) (16 * o) 16 p + 1 by omega, show 29 + 5 * sg (16 * w) (16 * o) 16 p = 27 + 5 * sg (16 * w) (16 * o) 16 p + 2 by omega, show 30 + 5 * sg (16 * w) (16 * o) 16 p = 27 + 5 * sg (16 * w) (16 * o) 16 p + 3 by omega, show 31 + 5 * sg (16 * w) (16 * o) 16 p = 27 + 5 * sg (16 * w) (16 * o) 16 p + 4 by omega] at h1
      exact h1)
  exact ⟨g.1, g.2.1, g.2.2.1⟩
theorem x_trade {x : gM} {N w o : Nat} {B : Nat → Int32} (hR : RS x 0 B N) (hB : BI B N) (hw : w < bW B) (ho : o < bW B) (hne : w ≠ o) : ∃ x', X3_tradeWays 0 (nI w) (nI o) x = some ((), x') ∧ RS x' 0 (trB B w o) N ∧ Eqv (pCo 0) x x' := by
  have hW := hB.1.2.2
  have hw4 : w < 4 := by omega
  have ho4 : o < 4 := by omega
  unfold X3_tradeWays
  have p4 : ∀ m, X3_tradeParts 25 0 (nI w) (nI o) 4 m = some ((), gsw m 25 0 (4 * w) (4 * o) 4) := fun m => by rw [Nat.mul_comm 4 w, Nat.mul_comm 4 o]; exact x_parts (n := 4) hw4 ho4 hne (by omega) rfl
  have p16 : ∀ t m, glen t = 64 → X3_tradeParts t 0 (nI w) (nI o) 16 m = some ((), gsw m t 0 (16 * w) (16 * o) 16) := fun t m ht => by rw [Nat.mul_comm 16 w, Nat.mul_comm 16 o]; exact x_parts (n := 16) hw4 ho4 hne (by omega) ht
  rw [gCall_eq (p4 _), gCall_eq (p16 29 _ rfl), gCall_eq (p16 30 _ rfl), gCall_eq (p16 31 _ rfl), gCall_eq (p16 32 _ rfl), gCall_eq (p16 33 _ rfl)]
  obtain ⟨-, e2, e3⟩ := trB_BI hB hw ho
  obtain ⟨⟨a1, a2, a3, a4⟩, ⟨b1, b2, b3, b4, b5, b6⟩, c1, c2, c3, c4, c5, c6, c7, nb, d1, d2, d3, d4⟩ := hR
  refine ⟨_, rfl, ?_, ?_⟩
  · have oth : ∀ t i, t ≠ 25 → ¬ (29 ≤ t ∧ t ≤ 33) → gsw (gsw (gsw (gsw (gsw (gsw x 25 0 (4 * w) (4 * o) 4) 29 0 (16 * w) (16 * o) 16) 30 0 (16 * w) (16 * o) 16) 31 0 (16 * w) (16 * o) 16) 32 0 (16 * w) (16 * o) 16) 33 0 (16 * w) (16 * o) 16 t 0 i = x t 0 i := by
      intro t i h1 h2
      rw [gsw_t (by omega), gsw_t (by omega), gsw_t (by omega), gsw_t (by omega), gsw_t (by omega), gsw_t (by omega)]
    have hp : ∀ p, p < 64 → sg (16 * w) (16 * o) 16 p < 64 := fun p hp => sg_lt hp (by omega) (by omega)
    refine ⟨⟨by rw [oth _ _ (by omega) (by omega), trB_out hw4 ho4 (by omega)]; exact a1, by rw [oth _ _ (by omega) (by omega), trB_out hw4 ho4 (by omega)]; exact a2, by rw [oth _ _ (by omega) (by omega), trB_out hw4 ho4 (by omega)]; exact a3, by rw [oth _ _ (by omega) (by omega), trB_out hw4 ho4 (by omega)]; exact a4⟩, ⟨by rw [oth _ _ (by omega) (by omega), trB_out hw4 ho4 (by omega)]; exact b1, by rw [oth _ _ (by omega) (by omega), trB_out hw4 ho4 (by omega)]; exact b2, by rw [oth _ _ (by omega) (by omega), trB_out hw4 ho4 (by omega)]; exact b3, by rw [oth _ _ (by omega) (by omega), trB_out hw4 ho4 (by omega)]; exact b4, by rw [oth _ _ (by omega) (by omega), trB_out hw4 ho4 (by omega)]; exact b5, by rw [oth _ _ (by omega) (by omega), trB_out hw4 ho4 (by omega)]; exact b6⟩, fun i hi h1 h2 => ?_, fun i hi => by rw [oth _ _ (by omega) (by omega), trB_out hw4 ho4 (by omega)]; exact c2 i hi, fun p h => ?_, fun p h => ?_, fun p h => ?_, fun p h => ?_, fun p h => ?_, nb, by rw [oth _ _ (by omega) (by omega)]; exact d1, d2, by rw [trB_out hw4 ho4 (by omega)]; exact d3, fun i j hi hj => by rw [oth _ _ (by omega) (by omega), trB_out hw4 ho4 (by omega)]; exact d4 i j hi hj⟩
    · rw [gsw_t (by omega), gsw_t (by omega), gsw_t (by omega), gsw_t (by omega), gsw_t (by omega), gsw_at, trB_mk hw4 ho4 hi]
      rw [e2] at h1
      rw [e3] at h2
      have ei : i = 4 * (i / 4) + i % 4 := by omega
      have hs : sg (4 * w) (4 * o) 4 i = 4 * swW w o (i / 4) + i % 4 := by
        conv => lhs; rw [ei]
        exact sg_mk (by omega)
      have hu : swW w o (i / 4) < bW B := by
        unfold swW
        split
        · exact ho
        · split
          · exact hw
          · exact h1
      rw [hs]
      exact c1 _ (by omega) (by omega) (by omega)
    · rw [gsw_t (by omega), gsw_t (by omega), gsw_t (by omega), gsw_t (by omega), gsw_at, gsw_t (by omega), show 27 + 5 * p = 27 + 5 * p + 0 by omega, trB_sl hw4 ho4 h (by omega)]
      exact c3 _ (hp p h)
    · rw [gsw_t (by omega), gsw_t (by omega), gsw_t (by omega), gsw_at, gsw_t (by omega), gsw_t (by omega), show 28 + 5 * p = 27 + 5 * p + 1 by omega, trB_sl hw4 ho4 h (by omega), c4 _ (hp p h)]
      congr 1; omega
    · rw [gsw_t (by omega), gsw_t (by omega), gsw_at, gsw_t (by omega), gsw_t (by omega), gsw_t (by omega), show 29 + 5 * p = 27 + 5 * p + 2 by omega, trB_sl hw4 ho4 h (by omega), c5 _ (hp p h)]
      congr 1; omega
    · rw [gsw_t (by omega), gsw_at, gsw_t (by omega), gsw_t (by omega), gsw_t (by omega), gsw_t (by omega), show 30 + 5 * p = 27 + 5 * p + 3 by omega, trB_sl hw4 ho4 h (by omega), c6 _ (hp p h)]
      congr 1; omega
    · rw [gsw_at, gsw_t (by omega), gsw_t (by omega), gsw_t (by omega), gsw_t (by omega), gsw_t (by omega), show 31 + 5 * p = 27 + 5 * p + 4 by omega, trB_sl hw4 ho4 h (by omega), c7 _ (hp p h)]
      congr 1; omega
  · exact ((((((gsw_E (fun q _ => by unfold pCo; omega)).tr (gsw_E (fun q _ => by unfold pCo; omega))).tr (gsw_E (fun q _ => by unfold pCo; omega))).tr (gsw_E (fun q _ => by unfold pCo; omega))).tr (gsw_E (fun q _ => by unfold pCo; omega)))).tr (gsw_E (fun q _ => by unfold pCo; omega))
theorem m_change {m : gM} {a b : Nat} (ha : a < 30843) (hb : b < 30843) : X9_change (nI a) (nI b) m = some ((), gup (gup m 47 0 a (m 47 0 b)) 47 0 b (m 47 0 a)) := by
  unfold X9_change
  rw [gAt_nI (show a < 30843 from ha) (by omega), gAt_nI (show b < 30843 from hb) (by omega), gPut_nI (show a < 30843 from ha) (by omega), gPut_nI (show b < 30843 from hb) (by omega)]
theorem m_trade {m : gM} {w o : Nat} (hw : w < 4) (ho : o < 4) (hne : w ≠ o) : ∃ m', gJ0 (fun (m7 : gM) => gL1 FU (X9_trade_b56 (nI w) (nI o)) 0 m7) (fun (j54 : gM → Option (Bool × gM)) => gL1 FU (X9_trade_b29 (nI w) (nI o) j54) 0 m) = some (true, m') ∧ mB m' = trB (mB m) w o ∧ Eqv pBk m m' := by
  rw [gJ0_e]
  generalize hR : (fun (m7 : gM) => gL1 FU (X9_trade_b56 (nI w) (nI o)) 0 m7) = R
  have h1 := swap_loop (m := m) (R := R) (f := X9_trade_b29 (nI w) (nI o) R) 47 0 (47 + 4 * w) (47 + 4 * o) 4 (fun i σ K hi => by
    unfold X9_trade_b29
    have hma : ∀ u m, X9_maskAt (nI u) (nI i) m = some (nI (47 + 4 * u + i), m) := by
      intro u m
      unfold X9_maskAt
      rw [li47, li4, pk_mul, nI_add, nI_add]
    rw [if_neg (by rw [li4, nI_leq (by omega) (by omega)]; omega), gCall_eq (hma w σ), gCall_eq (hma o σ), gCall_eq (m_change (by omega) (by omega)), gLet, nI_1]) (fun σ K => by
    unfold X9_trade_b29
    rw [if_pos (by rw [li4, nI_leq (by omega) (by omega)]; omega)]) (by omega) (by rw [FU_eq]; omega)
  have h2 := swap_loop (m := gsw m 47 0 (47 + 4 * w) (47 + 4 * o) 4) (R := fun σ => some (true, σ)) (f := X9_trade_b56 (nI w) (nI o)) 47 0 (63 + 80 * w) (63 + 80 * o) 80 (fun i σ K hi => by
    unfold X9_trade_b56
    rw [if_neg (by rw [li80, nI_leq (by omega) (by omega)]; omega), m_at, m_at, li16, pk_mul, pk_mul, li5, pk_mul, pk_mul, li63, nI_add, nI_add, nI_add, nI_add, show 63 + 5 * (16 * w) + i = 63 + 80 * w + i by omega, show 63 + 5 * (16 * o) + i = 63 + 80 * o + i by omega, gCall_eq (m_change (by omega) (by omega)), gLet, nI_1]) (fun σ K => by
    unfold X9_trade_b56
    rw [if_pos (by rw [li80, nI_leq (by omega) (by omega)]; omega)]) (by omega) (by rw [FU_eq]; omega)
  rw [h1, ← hR]
  refine ⟨_, h2, funext fun i => ?_, (gsw_E (fun q hq => ?_)).tr (gsw_E (fun q hq => ?_))⟩
  · show gsw (gsw m 47 0 (47 + 4 * w) (47 + 4 * o) 4) 47 0 (63 + 80 * w) (63 + 80 * o) 80 47 0 (36 + i) = m 47 0 (36 + sg (11 + 4 * w) (11 + 4 * o) 4 (sg (27 + 80 * w) (27 + 80 * o) 80 i))
    rw [gsw_at, gsw_at]
    congr 1
    have e1 : sg (63 + 80 * w) (63 + 80 * o) 80 (36 + i) = 36 + sg (27 + 80 * w) (27 + 80 * o) 80 i := by
      unfold sg
      by_cases c1 : 27 + 80 * w ≤ i ∧ i < 27 + 80 * w + 80
      · rw [if_pos c1, if_pos (by omega)]; omega
      · rw [if_neg c1, if_neg (by omega)]
        by_cases c2 : 27 + 80 * o ≤ i ∧ i < 27 + 80 * o + 80
        · rw [if_pos c2, if_pos (by omega)]; omega
        · rw [if_neg c2, if_neg (by omega)]
    rw [e1]
    generalize sg (27 + 80 * w) (27 + 80 * o) 80 i = j
    unfold sg
    by_cases c1 : 11 + 4 * w ≤ j ∧ j < 11 + 4 * w + 4
    · rw [if_pos c1, if_pos (by omega)]; omega
    · rw [if_neg c1, if_neg (by omega)]
      by_cases c2 : 11 + 4 * o ≤ j ∧ j < 11 + 4 * o + 4
      · rw [if_pos c2, if_pos (by omega)]; omega
      · rw [if_neg c2, if_neg (by omega)]
  · unfold pBk
    refine ⟨rfl, rfl, ?_⟩
    unfold sg at hq
    split at hq
    · omega
    · split at hq <;> omega
  · unfold pBk
    refine ⟨rfl, rfl, ?_⟩
    unfold sg at hq
    split at hq
    · omega
    · split at hq <;> omega
theorem q_trade {x m : gM} {N : Nat} (h : INV x m N) (a b : Int32) : Ag (X8_trade a b x) (X9_trade a b m) N := by
  unfold X8_trade X9_trade
  have hN := h.2.2.2.2.2.2
  have hW := h.bi.1.2.2
  rcases way_cases h a with ⟨w, hw, rfl⟩ | ⟨h1, h2⟩
  · rw [gCall_eq (wayT h hw).1, if_pos rfl, gCall_eq (wayT h hw).2, if_pos rfl]
    rcases way_cases h b with ⟨o, ho, rfl⟩ | ⟨h1, h2⟩
    · rw [gCall_eq (wayT h ho).1, if_pos rfl, gCall_eq (wayT h ho).2, if_pos rfl]
      by_cases e : nI w = nI o
      · rw [if_pos e, if_pos e]
        exact Ag.same h _ rfl rfl
      · have hne : w ≠ o := fun z => e (by rw [z])
        obtain ⟨x1, m1, k1, k2, h', keepE, -, -⟩ := keep_ok h
        have hw' : w < bW (mB m1) := by rw [mB_w (keepE 0 (by omega))]; exact hw
        have ho' : o < bW (mB m1) := by rw [mB_w (keepE 0 (by omega))]; exact ho
        obtain ⟨x2, a1, a2, a3⟩ := x_trade h'.rs h'.bi hw' ho' hne
        obtain ⟨m2, b1, b2, b3⟩ := m_trade (m := m1) (w := w) (o := o) (by omega) (by omega) hne
        rw [if_neg e, if_neg e, gCall_eq k1, gCall_eq k2, gCall_eq a1, b1]
        exact ⟨_, _, _, rfl, rfl, INV_store h' (pCo_XS a3) (pBk_MS b3) (by rw [b2]; exact a2) (by rw [b2]; exact (trB_BI h'.bi hw' ho').1) (Nat.le_refl _) hN⟩
    · rw [gCall_eq h1, gCall_eq h2]
      exact Ag.same h _ rfl rfl
  · rw [gCall_eq h1, gCall_eq h2]
    exact Ag.same h _ rfl rfl
