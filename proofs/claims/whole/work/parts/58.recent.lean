/-! LAYER 2: recent, conflicts. -/
def mvf (G : Nat → Nat) (p v j : Nat) : Nat := if j = 0 then v else if j ≤ p then G (j - 1) else G j
def gS (L : Nat → Nat) (R : Nat) : Nat → Nat × Nat × (Nat → Nat)
  | 0 => (0, 0, fun _ => 0)
  | i + 1 => match fdx (gS L R i).2.2 (L i) (gS L R i).2.1 with
    | some p => ((gS L R i).1, (gS L R i).2.1, mvf (gS L R i).2.2 p (L i))
    | none => ((gS L R i).1 + 1, if (gS L R i).2.1 < R then (gS L R i).2.1 + 1 else (gS L R i).2.1, mvf (gS L R i).2.2 ((if (gS L R i).2.1 < R then (gS L R i).2.1 + 1 else (gS L R i).2.1) - 1) (L i))
theorem gS_le (L : Nat → Nat) (R : Nat) : ∀ i, (gS L R i).1 ≤ i ∧ (gS L R i).2.1 ≤ R := by
  intro i
  induction i with
  | zero => exact ⟨Nat.le_refl _, Nat.zero_le _⟩
  | succ i ih =>
    have h1 := ih.1
    have h2 := ih.2
    simp only [gS]
    split
    · dsimp only
      exact ⟨by omega, h2⟩
    · dsimp only
      refine ⟨by omega, ?_⟩
      by_cases c : (gS L R i).2.1 < R
      · rw [if_pos c]; omega
      · rw [if_neg c]; exact h2
theorem x_shift {x : gM} {p v : Nat} {G : Nat → Nat} {R : gM → Option (Int32 × gM)} {P : Option (Int32 × gM) → Prop} (hp : p < 64) (hR : ∀ σ, (∀ j, j ≠ 0 → σ 36 0 j = if j ≤ p then x 36 0 (j - 1) else x 36 0 j) → (∀ t q j, ¬ (t = 36 ∧ q = 0) → σ t q j = x t q j) → P (R σ)) : P (gL1 FU (X4_missesByRecency_b84 R) (nI p) x) := by
  refine gL1_rec (fun q a σ => a = nI q ∧ q ≤ p ∧ (∀ j, σ 36 0 j = if q < j ∧ j ≤ p then x 36 0 (j - 1) else x 36 0 j) ∧ ∀ t q j, ¬ (t = 36 ∧ q = 0) → σ t q j = x t q j) P ?_ FU p _ x (by rw [FU_eq]; omega) ⟨rfl, Nat.le_refl _, fun j => by rw [if_neg (by omega)], fun _ _ _ _ => rfl⟩
  rintro q a σ K ⟨rfl, hq, g1, g2⟩ hK
  unfold X4_missesByRecency_b84
  cases q with
  | zero =>
    rw [if_pos (show nI 0 ≤ 0 by decide)]
    refine hR σ (fun j hj => ?_) g2
    rw [g1 j]
    by_cases c : j ≤ p
    · rw [if_pos ⟨by omega, c⟩, if_pos c]
    · rw [if_neg (fun z => c z.2), if_neg c]
  | succ q =>
    rw [if_neg (show ¬ nI (q + 1) ≤ 0 by rw [show (0 : Int32) = nI 0 from rfl, nI_leq (by omega) (by omega)]; omega), nI_sub1 (by omega), Nat.add_sub_cancel, gAt_nI (show q < 64 by omega) (by omega), gPut_nI (show q + 1 < 64 by omega) (by omega), gLet, nI_dn (by omega), Nat.add_sub_cancel]
    refine hK q _ _ (by omega) ⟨rfl, by omega, fun j => ?_, fun t u j z => by unfold gup; rw [if_neg (fun y => z ⟨y.1, y.2.1⟩)]; exact g2 t u j z⟩
    rw [gup_at]
    by_cases e : j = q + 1
    · rw [if_pos e, if_pos (by omega), g1 q, if_neg (by omega), e, Nat.add_sub_cancel]
    · rw [if_neg e, g1 j]
      by_cases c : q + 1 < j ∧ j ≤ p
      · rw [if_pos c, if_pos (by omega)]
      · rw [if_neg c, if_neg (by omega)]
theorem x_rec {x : gM} {t s R : Nat} {L : Nat → Nat} (h : TRx x t s L) (hR : 1 ≤ R ∧ R ≤ 64) : ∃ x', X4_missesByRecency t (nI R) x = some (nI (gS L R s).1, x') ∧ Eqv pSt x x' := by
  unfold X4_missesByRecency
  obtain ⟨hs, h5, h38⟩ := id h
  rw [gSet]
  refine gL2_for (fun i v σ => v = nI (gS L R i).1 ∧ σ 4 0 4 = nI (gS L R i).2.1 ∧ (∀ k, k < (gS L R i).2.1 → σ 36 0 k = nI ((gS L R i).2.2 k) ∧ (gS L R i).2.2 k < 1024) ∧ Eqv pSt x σ) (fun o => ∃ x', o = some (nI (gS L R s).1, x') ∧ Eqv pSt x x') s ?_ ?_ FU 0 0 _ (Nat.zero_le _) (by rw [FU_eq]; omega) ⟨rfl, by rw [gup_at, if_pos rfl]; rfl, fun k hk => absurd hk (Nat.not_lt_zero _), Eqv.up (Or.inr ⟨rfl, rfl, rfl⟩)⟩
  · rintro i v σ K hi ⟨rfl, g1, g2, g3⟩ hK
    unfold X4_missesByRecency_b10
    obtain ⟨l1, l2⟩ := h38 i hi
    obtain ⟨r1, r2⟩ := gS_le L R i
    have e38 : σ 38 t i = nI (L i) := by rw [g3 38 t i (by unfold pSt; omega)]; exact l2
    have hnx : gS L R (i + 1) = match fdx (gS L R i).2.2 (L i) (gS L R i).2.1 with
      | some p => ((gS L R i).1, (gS L R i).2.1, mvf (gS L R i).2.2 p (L i))
      | none => ((gS L R i).1 + 1, if (gS L R i).2.1 < R then (gS L R i).2.1 + 1 else (gS L R i).2.1, mvf (gS L R i).2.2 ((if (gS L R i).2.1 < R then (gS L R i).2.1 + 1 else (gS L R i).2.1) - 1) (L i)) := rfl
    rw [g3 5 t 2 (by unfold pSt; omega), h5, if_neg (by rw [nI_leq (by omega) (by omega)]; omega), gAt_nI (show i < 600 by omega) (by omega), e38, gCall_eq (x_place (by omega) l1 g1 g2)]
    revert g1 g2 hK r1 r2 hnx
    generalize gS L R (i + 1) = q'
    generalize gS L R i = q
    obtain ⟨c, h0, G⟩ := q
    intro g1 g2 hK r1 r2 hnx
    dsimp only at hK g1 g2 r1 r2 hnx ⊢
    have tail : ∀ (p c1 h1 : Nat) (τ : gM), p < 64 → q' = (c1, h1, mvf G p (L i)) → p < h1 → h1 ≤ h0 + 1 → (h1 ≤ h0 ∨ p = h0) → τ 4 0 4 = nI h1 → (∀ t q j, ¬ (t = 4 ∧ q = 0 ∧ j = 4) → τ t q j = σ t q j) →
        ∃ x', gJ0 (fun (m11 : gM) => gPut m11 36 0 0 (nI (L i)) (fun (m12 : gM) => gLet (nI i + 1) (fun (x13 : Int32) => K (nI c1) x13 m12))) (fun (j111 : gM → Option (Int32 × gM)) => gL1 FU (X4_missesByRecency_b84 j111) (nI p) τ) = some (nI (gS L R s).1, x') ∧ Eqv pSt x x' := by
      intro p c1 h1 τ hp hq' hph h1h hor t4 tth
      subst hq'
      dsimp only at hK
      rw [gJ0_e]
      refine x_shift (P := fun o => ∃ x', o = some (nI (gS L R s).1, x') ∧ Eqv pSt x x') (v := 0) (G := G) hp (fun ρ y1 y2 => ?_)
      rw [show gPut ρ 36 0 0 _ _ = _ from gPut_nI (i := 0) (show 0 < 64 by omega) (by omega), gLet, nI_1]
      refine hK _ _ ⟨rfl, by rw [gup_t (by omega), y2 4 0 4 (by omega)]; exact t4, fun k hk => ?_, (g3.tr (fun t q j z => tth t q j (fun y => z (Or.inr y)))).tr (fun t q j z => ?_)⟩
      · rw [gup_at]
        unfold mvf
        by_cases e : k = 0
        · rw [if_pos e, if_pos e]; exact ⟨rfl, l1⟩
        · rw [if_neg e, if_neg e, y1 k e]
          by_cases c2 : k ≤ p
          · rw [if_pos c2, if_pos c2, tth 36 0 _ (by omega)]
            exact g2 (k - 1) (by omega)
          · rw [if_neg c2, if_neg c2, tth 36 0 _ (by omega)]
            exact g2 k (by omega)
      · unfold gup
        rw [if_neg (fun y => z (Or.inl ⟨by omega, y.2.1⟩))]
        exact y2 t q j (fun y => z (Or.inl ⟨by omega, y.2⟩))
    rw [gJ2_e]
    cases hf : fdx G (L i) h0 with
    | some p =>
      obtain ⟨p1, p2⟩ := fdx_lt _ _ hf
      rw [hf] at hnx
      dsimp only at hnx
      rw [show oI (some p) = nI p from rfl, if_neg (nI_nm1 (by omega))]
      exact tail p c h0 σ (by omega) hnx p1 (by omega) (Or.inl (Nat.le_refl _)) g1 (fun _ _ _ _ => rfl)
    | none =>
      rw [hf] at hnx
      dsimp only at hnx
      rw [show oI none = -1 from rfl, if_pos rfl, gLet, nI_1 c, gJ0_e, g1]
      by_cases c1 : h0 < R
      · rw [if_pos c1] at hnx
        rw [if_neg (show ¬ nI R ≤ nI h0 by rw [nI_leq (by omega) (by omega)]; omega), if_neg (show ¬ 64 ≤ nI h0 by rw [li64, nI_leq (by omega) (by omega)]; omega), gLet, nI_1 h0, gSet]
        dsimp only
        rw [gup_at, if_pos rfl, nI_sub1 (by omega), gLet]
        exact tail (h0 + 1 - 1) (c + 1) (h0 + 1) (gup σ 4 0 4 (nI (h0 + 1))) (by omega) hnx (by omega) (by omega) (Or.inr (by omega)) (by rw [gup_at, if_pos rfl]) (fun t q j z => by unfold gup; rw [if_neg z])
      · rw [if_neg c1] at hnx
        rw [if_pos (show nI R ≤ nI h0 by rw [nI_leq (by omega) (by omega)]; omega)]
        dsimp only
        rw [g1, nI_sub1 (by omega), gLet]
        exact tail (h0 - 1) (c + 1) h0 σ (by omega) hnx (by omega) (by omega) (Or.inl (Nat.le_refl _)) g1 (fun _ _ _ _ => rfl)
  · rintro v σ K ⟨rfl, g1, g2, g3⟩
    unfold X4_missesByRecency_b10
    rw [g3 5 t 2 (by unfold pSt; omega), h5, if_pos (by rw [nI_leq (by omega) (by omega)]; omega)]
    exact ⟨σ, rfl, g3⟩
def btR (L : Nat → Nat) (i : Nat) (H : Nat → Nat) (e k : Nat) : Bool := decide (lst L (H e) i < lst L (H k) i)
theorem m_rec {m : gM} {t s R : Nat} {L : Nat → Nat} (h : TRm m t s L) (hR : 1 ≤ R ∧ R ≤ 64) : ∃ m', X9_missesWith (nI t) (nI R) 0 m = some (nI (rS (btR L) L R s).1, m') ∧ Eqv pWi m m' := by
  refine m_with (btR L) h hR (fun i H e k h0 σ J hi he hk h0R hT hH => ?_)
  have hs := h.2.1
  obtain ⟨e1, e2⟩ := hH e he
  obtain ⟨k1, k2⟩ := hH k hk
  have n1 := lst_le L (H e) i
  have n2 := lst_le L (H k) i
  rw [if_pos rfl, gAt_nI (show e < 64 by omega) (by omega), e1, gCall_eq (m_latestOf hT (by omega) e2), gAt_nI (show k < 64 by omega) (by omega), k1, gCall_eq (m_latestOf hT (by omega) k2)]
  unfold btR
  by_cases c : lst L (H e) i < lst L (H k) i
  · rw [if_neg (by rw [Int32.not_le]; exact (pn_pn (by omega) (by omega)).mpr c), decide_eq_true c, if_pos rfl]; rfl
  · rw [if_pos (by rw [← Int32.not_lt]; exact fun z => c ((pn_pn (by omega) (by omega)).mp z)), decide_eq_false c, if_neg (by decide)]; rfl
theorem sel_min {bt : Nat → Nat → Bool} {T : Nat → Nat} {h : Nat} (hb : ∀ e k, e < h → k < h → (bt e k = true ↔ T e < T k)) : ∀ n, n ≤ h → ∀ e, e < n → T (sel bt n) ≤ T e := by
  intro n
  induction n with
  | zero => intro _ e he; omega
  | succ n ih =>
    intro hn e he
    simp only [sel]
    rcases Nat.eq_zero_or_pos n with z | z
    · subst z
      rw [if_neg (fun q => q.1 rfl), show sel bt 0 = 0 from rfl, show e = 0 by omega]
      exact Nat.le_refl _
    · have hl := sel_lt bt n z
      have h2 := hb n (sel bt n) (by omega) (by omega)
      have h3 := ih (by omega)
      by_cases c : n ≠ 0 ∧ bt n (sel bt n) = true
      · rw [if_pos c]
        have := h2.mp c.2
        by_cases en : e = n
        · rw [en]; exact Nat.le_refl _
        · have := h3 e (by omega); omega
      · rw [if_neg c]
        by_cases en : e = n
        · rw [en]
          rcases Nat.lt_or_ge (T n) (T (sel bt n)) with y | y
          · exact absurd ⟨by omega, h2.mpr y⟩ c
          · exact y
        · exact h3 e (by omega)
/-- both stores hold the same lines: one in any order, the other the latest first -/
def RI (L : Nat → Nat) (i : Nat) (c h : Nat) (H : Nat → Nat) (c' h' : Nat) (G : Nat → Nat) : Prop := c = c' ∧ h = h' ∧ (∀ k, k < h → ∃ j, j < h ∧ G j = H k) ∧ (∀ k, k < h → ∃ j, j < h ∧ H j = G k) ∧ (∀ j k, j < h → k < h → H j = H k → j = k) ∧ ∀ j k, j < k → k < h → lst L (G k) i < lst L (G j) i
theorem lst_s {L : Nat → Nat} {v i : Nat} (h : L i ≠ v) : lst L v (i + 1) = lst L v i := by simp only [lst]; rw [if_neg h]
theorem lst_t {L : Nat → Nat} {i : Nat} : lst L (L i) (i + 1) = i + 1 := by simp [lst]
theorem RI_ok {L : Nat → Nat} {R : Nat} (hR : 1 ≤ R) : ∀ i, RI L i (rS (btR L) L R i).1 (rS (btR L) L R i).2.1 (rS (btR L) L R i).2.2 (gS L R i).1 (gS L R i).2.1 (gS L R i).2.2 := by
  intro i
  induction i with
  | zero => exact ⟨rfl, rfl, fun k hk => absurd hk (Nat.not_lt_zero _), fun k hk => absurd hk (Nat.not_lt_zero _), fun j k hj => absurd hj (Nat.not_lt_zero _), fun j k _ hk => absurd hk (Nat.not_lt_zero _)⟩
  | succ i ih =>
    have hr := (rS_le (btR L) L R i).2
    simp only [rS, gS]
    revert ih hr
    generalize rS (btR L) L R i = p
    generalize gS L R i = q
    obtain ⟨c, h, H⟩ := p
    obtain ⟨c', h', G⟩ := q
    rintro ⟨e1, e2, s1, s2, hd, so⟩ hr
    dsimp only at e1 e2 s1 s2 hd so hr ⊢
    subst e1 e2
    have hG : ∀ j k, j < h → k < h → G j = G k → j = k := by
      intro j k hj hk e
      rcases Nat.lt_trichotomy j k with z | z | z
      · have := so j k z hk; rw [e] at this; omega
      · exact z
      · have := so k j z hj; rw [e] at this; omega
    cases hf : fdx H (L i) h with
    | some p =>
      obtain ⟨p1, p2⟩ := fdx_lt _ _ hf
      obtain ⟨g0, g1, g2⟩ := s1 p p1
      cases hg : fdx G (L i) h with
      | none => exact absurd (g2.trans p2) (fdx_non _ hg g0 g1)
      | some u =>
        obtain ⟨u1, u2⟩ := fdx_lt _ _ hg
        dsimp only
        refine ⟨rfl, rfl, fun k hk => ?_, fun k hk => ?_, hd, fun j k hjk hk => ?_⟩
        · obtain ⟨j, j1, j2⟩ := s1 k hk
          unfold mvf
          rcases Nat.lt_trichotomy j u with z | z | z
          · exact ⟨j + 1, by omega, by rw [if_neg (by omega), if_pos (by omega), Nat.add_sub_cancel]; exact j2⟩
          · exact ⟨0, by omega, by rw [if_pos rfl, ← u2, ← z]; exact j2⟩
          · exact ⟨j, j1, by rw [if_neg (by omega), if_neg (by omega)]; exact j2⟩
        · unfold mvf
          by_cases k0 : k = 0
          · rw [if_pos k0]; exact ⟨p, p1, p2⟩
          · rw [if_neg k0]
            by_cases ku : k ≤ u
            · rw [if_pos ku]; exact s2 (k - 1) (by omega)
            · rw [if_neg ku]; exact s2 k hk
        · unfold mvf
          have hk0 : k ≠ 0 := by omega
          have nk : ∀ a, a < h → a ≠ u → L i ≠ G a := fun a ha hau z => hau (hG a u ha u1 (by rw [u2]; exact z.symm))
          have ek : lst L (if k = 0 then L i else if k ≤ u then G (k - 1) else G k) (i + 1) = lst L (if k ≤ u then G (k - 1) else G k) i := by
            rw [if_neg hk0]
            by_cases ku : k ≤ u
            · rw [if_pos ku]; exact lst_s (nk _ (by omega) (by omega))
            · rw [if_neg ku]; exact lst_s (nk _ hk (by omega))
          rw [ek]
          by_cases j0 : j = 0
          · rw [if_pos j0, lst_t]
            have := lst_le L (if k ≤ u then G (k - 1) else G k) i
            omega
          · rw [if_neg j0]
            by_cases ju : j ≤ u
            · rw [if_pos ju, lst_s (nk _ (by omega) (by omega))]
              by_cases ku : k ≤ u
              · rw [if_pos ku]; exact so (j - 1) (k - 1) (by omega) (by omega)
              · rw [if_neg ku]; exact so (j - 1) k (by omega) hk
            · rw [if_neg ju, if_neg (by omega), lst_s (nk _ (by omega) (by omega))]
              exact so j k hjk hk
    | none =>
      have hno := fdx_non _ hf
      have hng : ∀ k, k < h → G k ≠ L i := fun k hk z => by
        obtain ⟨j, j1, j2⟩ := s2 k hk
        exact hno j j1 (j2.trans z)
      cases hg : fdx G (L i) h with
      | some u =>
        obtain ⟨u1, u2⟩ := fdx_lt _ _ hg
        exact absurd u2 (hng u u1)
      | none =>
        dsimp only
        by_cases c1 : h < R
        · rw [if_pos c1, if_pos c1]
          refine ⟨rfl, rfl, fun k hk => ?_, fun k hk => ?_, fun j k hj hk e => ?_, fun j k hjk hk => ?_⟩
          · unfold uH mvf
            by_cases ek : k = h
            · exact ⟨0, by omega, by rw [if_pos rfl, if_pos ek]⟩
            · obtain ⟨j, j1, j2⟩ := s1 k (by omega)
              exact ⟨j + 1, by omega, by rw [if_neg (by omega), if_pos (by omega), if_neg ek, Nat.add_sub_cancel]; exact j2⟩
          · unfold uH mvf
            by_cases k0 : k = 0
            · exact ⟨h, by omega, by rw [if_pos rfl, if_pos k0]⟩
            · obtain ⟨j, j1, j2⟩ := s2 (k - 1) (by omega)
              exact ⟨j, by omega, by rw [if_neg (show ¬ j = h by omega), if_neg k0, if_pos (show k ≤ h + 1 - 1 by omega)]; exact j2⟩
          · unfold uH at e
            by_cases ej : j = h
            · by_cases ek : k = h
              · omega
              · rw [if_pos ej, if_neg ek] at e
                exact absurd e.symm (hno k (by omega))
            · rw [if_neg ej] at e
              by_cases ek : k = h
              · rw [if_pos ek] at e
                exact absurd e (hno j (by omega))
              · rw [if_neg ek] at e
                exact hd j k (by omega) (by omega) e
          · unfold mvf
            rw [if_neg (show ¬ k = 0 by omega), if_pos (show k ≤ h + 1 - 1 by omega), lst_s (fun z => hng (k - 1) (by omega) z.symm)]
            by_cases j0 : j = 0
            · rw [if_pos j0, lst_t]
              have := lst_le L (G (k - 1)) i
              omega
            · rw [if_neg j0, if_pos (by omega), lst_s (fun z => hng (j - 1) (by omega) z.symm)]
              exact so (j - 1) (k - 1) (by omega) (by omega)
        · rw [if_neg c1, if_neg c1]
          have hh : 0 < h := by omega
          have hl := sel_lt (btR L i H) h hh
          have hm := sel_min (bt := btR L i H) (T := fun k => lst L (H k) i) (h := h) (fun e k _ _ => by unfold btR; exact decide_eq_true_iff) h (Nat.le_refl _)
          have hlast : H (sel (btR L i H) h) = G (h - 1) := by
            obtain ⟨j, j1, j2⟩ := s1 _ hl
            obtain ⟨e, e1, e2⟩ := s2 (h - 1) (by omega)
            by_cases ej : j = h - 1
            · rw [← j2, ej]
            · have a1 := so j (h - 1) (by omega) (by omega)
              have a2 := hm e e1
              rw [e2, ← j2] at a2
              omega
          revert hl hlast
          generalize sel (btR L i H) h = z
          intro hl hlast
          refine ⟨rfl, rfl, fun k hk => ?_, fun k hk => ?_, fun j k hj hk e => ?_, fun j k hjk hk => ?_⟩
          · unfold uH mvf
            by_cases ek : k = z
            · exact ⟨0, by omega, by rw [if_pos rfl, if_pos ek]⟩
            · obtain ⟨j, j1, j2⟩ := s1 k hk
              have : j ≠ h - 1 := fun y => ek (hd k z hk hl (by rw [hlast, ← y, j2]))
              exact ⟨j + 1, by omega, by rw [if_neg (by omega), if_pos (by omega), if_neg ek, Nat.add_sub_cancel]; exact j2⟩
          · unfold uH mvf
            by_cases k0 : k = 0
            · exact ⟨z, hl, by rw [if_pos rfl, if_pos k0]⟩
            · obtain ⟨j, j1, j2⟩ := s2 (k - 1) (by omega)
              have : j ≠ z := fun y => by
                rw [y, hlast] at j2
                have := hG (h - 1) (k - 1) (by omega) (by omega) j2
                omega
              exact ⟨j, j1, by rw [if_neg this, if_neg k0, if_pos (show k ≤ h - 1 by omega)]; exact j2⟩
          · unfold uH at e
            by_cases ej : j = z
            · by_cases ek : k = z
              · omega
              · rw [if_pos ej, if_neg ek] at e
                exact absurd e.symm (hno k hk)
            · rw [if_neg ej] at e
              by_cases ek : k = z
              · rw [if_pos ek] at e
                exact absurd e (hno j hj)
              · rw [if_neg ek] at e
                exact hd j k hj hk e
          · unfold mvf
            rw [if_neg (show ¬ k = 0 by omega), if_pos (show k ≤ h - 1 by omega), lst_s (fun z => hng (k - 1) (by omega) z.symm)]
            by_cases j0 : j = 0
            · rw [if_pos j0, lst_t]
              have := lst_le L (G (k - 1)) i
              omega
            · rw [if_neg j0, if_pos (by omega), lst_s (fun z => hng (j - 1) (by omega) z.symm)]
              exact so (j - 1) (k - 1) (by omega) (by omega)
theorem q_recent {x m : gM} {N : Nat} (h : INV x m N) (a b : Int32) : Ag (X8_recent a b x) (X9_recent a b m) N := by
  unfold X8_recent X9_recent
  rcases trace_cases h a with ⟨t, ht, rfl, c1, c2, hT⟩ | ⟨c1, c2⟩
  · rw [gCall_eq c1, if_pos rfl, gCall_eq c2, if_pos rfl]
    rcases swept1 b with ⟨n, n1, n2, rfl, d1, d2⟩ | ⟨d1, d2⟩
    · obtain ⟨s, L, hx, hm⟩ := trc2 ht hT
      obtain ⟨x1, a1, a2⟩ := x_rec (R := n) hx ⟨n1, n2⟩
      obtain ⟨m1, b1, b2⟩ := m_rec (R := n) hm ⟨n1, n2⟩
      rw [gCall_eq (d1 x), if_pos rfl, gCall_eq (d2 m), if_pos rfl, x_tr ht, z4, gCall_eq a1, gCall_eq b1, (RI_ok n1 s).1]
      exact ⟨_, _, _, rfl, rfl, INV_congr h (pSt_X a2) (pWi_M b2)⟩
    · rw [gCall_eq (d1 x), gCall_eq (d2 m)]
      exact Ag.same h _ rfl rfl
  · rw [gCall_eq c1, gCall_eq c2]
    exact Ag.same h _ rfl rfl
theorem q_conflicts {x m : gM} {N : Nat} (h : INV x m N) (hN : N + 1200 ≤ 1000000000) (a : Int32) : Ag (X8_conflicts a x) (X9_conflicts a m) N := by
  unfold X8_conflicts X9_conflicts
  rcases trace_cases h a with ⟨t, ht, rfl, c1, c2, hT⟩ | ⟨c1, c2⟩
  · have hd := h.bi.2.2.1
    obtain ⟨r, x1, m1, y1, y2, y3, y4⟩ := fore_ok h hN ht hT hd.2
    have h1 := INV_congr h y3 y4
    obtain ⟨s, L, hx, hm⟩ := trc2 ht (by rw [pM_49 y4]; exact RT_pX (by omega) hT y3 : RT x1 t (m1 49 0) t)
    have hR := slots_R h1.bi
    obtain ⟨x2, a1, a2⟩ := x_rec hx hR
    obtain ⟨m2, b1, b2⟩ := m_rec hm hR
    rw [gCall_eq c1, if_pos rfl, gCall_eq c2, if_pos rfl, x_tr ht, h.rs.1.2.2.1, hd.1, gCall_eq y1, x_tr ht, z4, gCall_eq (x_slotsAll h1.rs h1.bi), gCall_eq a1, show (38 : Int32) = nI (36 + 2) from rfl, m_get (by omega), hd.1, gCall_eq y2, gCall_eq (m_slotsAll h1.bi), gCall_eq b1, (RI_ok hR.1 s).1]
    exact ⟨_, _, _, rfl, rfl, INV_congr h1 (pSt_X a2) (pWi_M b2)⟩
  · rw [gCall_eq c1, gCall_eq c2]
    exact Ag.same h _ rfl rfl
