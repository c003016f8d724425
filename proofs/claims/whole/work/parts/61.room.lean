/-! LAYER 2: room, fitting. -/
theorem gL12_two {β γ : Type} (I : Nat → Int32 → gM → gM → Prop) (P : Option β → Option γ → Prop) (e : Nat) {f : Int32 → gM → (Int32 → gM → Option β) → Option β} {g : Int32 → Int32 → gM → (Int32 → Int32 → gM → Option γ) → Option γ}
    (hs : ∀ i b σ τ K K', i < e → I i b σ τ → (∀ b' σ' τ', I (i + 1) b' σ' τ' → P (K (nI (i + 1)) σ') (K' b' (nI (i + 1)) τ')) → P (f (nI i) σ K) (g b (nI i) τ K')) (hx : ∀ b σ τ K K', I e b σ τ → P (f (nI e) σ K) (g b (nI e) τ K')) :
    ∀ (n n' i : Nat) b σ τ, i ≤ e → e - i < n → e - i < n' → I i b σ τ → P (gL1 n f (nI i) σ) (gL2 n' g b (nI i) τ) := by
  intro n
  induction n with
  | zero => intro n' i b σ τ _ h; exact absurd h (Nat.not_lt_zero _)
  | succ n ih =>
    intro n' i b σ τ ha hn hn' hI
    cases n' with
    | zero => exact absurd hn' (Nat.not_lt_zero _)
    | succ n' =>
      rcases Nat.lt_or_ge i e with h | h
      · exact hs i b σ τ _ _ h hI (fun b' σ' τ' hI' => ih n' (i + 1) b' σ' τ' h (by omega) (by omega) hI')
      · have : i = e := by omega
        subst this
        exact hx b σ τ _ _ hI
def pRM (t k _i : Nat) : Prop := (58 ≤ t ∧ t ≤ 62) ∧ k = 0
theorem pSX_X {x x' : gM} (h : Eqv pSX x x') : Eqv pX x x' := h.mono (fun t k i q => by unfold pSX at q; unfold pX; omega)
theorem pRM_M {m m' : gM} (h : Eqv pRM m m') : Eqv pM m m' := h.mono (fun t k i q => by unfold pRM at q; unfold pM; omega)
theorem pSM_R {m m' : gM} (h : Eqv pSM m m') : Eqv pRM m m' := h.mono (fun t k i q => by unfold pSM at q; unfold pRM; omega)
theorem x_clr {x : gM} : ∃ x', X2_clear x = some ((), x') ∧ x' 2 0 5 = 0 ∧ (∀ p, p < 64 → x' 22 0 p = -1) ∧ Eqv pSX x x' := by
  unfold X2_clear
  rw [gSet, gCall_eq (fill_ok (show glen 22 < FU by rw [FU_eq]; decide)), show glen 22 = 64 from rfl]
  refine ⟨_, rfl, ?_, fun p hp => ?_, (Eqv.up (by unfold pSX; omega)).tr (Eqv_fil (fun _ => by unfold pSX; omega))⟩
  · unfold gfil; rw [if_neg (by omega), gup_at, if_pos rfl]
  · unfold gfil; rw [if_pos ⟨rfl, rfl, hp⟩]
theorem m_clr {m : gM} : ∃ m', X9_layFitted m = some ((), m') ∧ (∀ p, p < 64 → m' 59 0 p = -1) ∧ Eqv pSM m m' := by
  unfold X9_layFitted
  refine ⟨_, fil_loop (R := fun σ => some ((), σ)) 59 0 (-1) 64 (fun i σ K hi => ?_) (fun σ K => ?_) (by rw [FU_eq]; omega), fun p hp => ?_, Eqv_fil (fun _ => by unfold pSM; omega)⟩
  · unfold X9_layFitted_b2
    rw [if_neg (by rw [li64, nI_leq (by omega) (by omega)]; omega), gPut_nI (show i < 64 from hi) (by omega), gLet, nI_1]
  · unfold X9_layFitted_b2
    rw [if_pos (by rw [li64, nI_leq (by omega) (by omega)]; omega)]
  · unfold gfil; rw [if_pos ⟨rfl, rfl, hp⟩]
theorem SE_0 {x m : gM} {sg : Nat → Nat} (h1 : x 2 0 5 = 0) (h2 : ∀ p, p < 64 → x 22 0 p = -1) (h3 : ∀ p, p < 64 → m 59 0 p = -1) : SE x m 0 sg := ⟨h1, fun _ => 0, fun _ => 0, fun _ => none, ⟨fun c hc => absurd hc (Nat.not_lt_zero _), fun p c _ z => by cases z⟩, fun c hc => absurd hc (Nat.not_lt_zero _), fun p hp => ⟨h2 p hp, h3 p hp⟩, fun c d hc => absurd hc (Nat.not_lt_zero _)⟩
theorem SE_58 {x m : gM} {n k : Nat} {sg : Nat → Nat} {v : Int32} (h : SE x m n sg) (hk : ∀ c, c < n → sg c ≠ k) : SE x (gup m 58 0 k v) n sg := by
  obtain ⟨h1, l, st, ow, h2, h3, h4, h5⟩ := h
  refine ⟨h1, l, st, ow, h2, fun c hc => ?_, fun p hp => ⟨(h4 p hp).1, by rw [gup_t (by omega)]; exact (h4 p hp).2⟩, h5⟩
  obtain ⟨k1, k2, k3, k4, k5⟩ := h3 c hc
  exact ⟨k1, k2, k3, k4, by rw [gup_at, if_neg (hk c hc)]; exact k5⟩
theorem SE_sg {x m : gM} {n : Nat} {sg sg' : Nat → Nat} (h : SE x m n sg) (e : ∀ c, c < n → sg c = sg' c) : SE x m n sg' := by
  obtain ⟨h1, l, st, ow, h2, h3, h4, h5⟩ := h
  refine ⟨h1, l, st, ow, h2, fun c hc => by rw [← e c hc]; exact h3 c hc, fun p hp => ⟨(h4 p hp).1, ?_⟩, fun c d hc hd z => h5 c d hc hd (by rw [e c hc, e d hd]; exact z)⟩
  rw [(h4 p hp).2]
  cases z : ow p with
  | none => rfl
  | some c =>
    show nI (sg c) = nI (sg' c)
    rw [e c (h2.2 p c hp z).1]
/-- a stride's lines come again -/
theorem st_new {s n c : Nat} (hc : c < n) (h : c * s % 1024 = n * s % 1024) : (n - c) * s % 1024 = 0 := by
  have e : n * s = c * s + (n - c) * s := by rw [← Nat.add_mul]; congr 1; omega
  omega
theorem st_old {s n k : Nat} (hn : 0 < n) (h : n * s % 1024 = 0) : (k % n) * s % 1024 = k * s % 1024 := by
  have e : k * s = 1024 * (n * s / 1024 * (k / n)) + (k % n) * s := by
    have h1 : n * s = 1024 * (n * s / 1024) := by omega
    have h2 : k = n * (k / n) + k % n := (Nat.div_add_mod k n).symm
    calc k * s = (n * (k / n) + k % n) * s := by rw [← h2]
      _ = n * s * (k / n) + (k % n) * s := by rw [Nat.add_mul, Nat.mul_right_comm]
      _ = 1024 * (n * s / 1024) * (k / n) + (k % n) * s := by rw [← h1]
      _ = _ := by rw [Nat.mul_assoc]
  rw [e, Nat.mul_add_mod]
theorem m_isnew {m : gM} {n line : Nat} {a : Int32} {L : Nat → Nat} {J : Int32 → gM → Option (Int32 × gM)} (hn : n ≤ 64) (hl : line < 1024) (h : ∀ c, c < n → m 58 0 c = nI (L c) ∧ L c < 1024) (ha : a = nI n) : gL2 FU (X9_room_b42 J a (nI line)) 1 0 m = J (nI (if ∀ c, c < n → L c ≠ line then 1 else 0)) m := by
  subst ha
  refine gL2_for (fun i v σ => σ = m ∧ v = nI (if ∀ c, c < i → L c ≠ line then 1 else 0)) (fun o => o = J (nI (if ∀ c, c < n → L c ≠ line then 1 else 0)) m) n ?_ ?_ FU 0 1 m (Nat.zero_le _) (by rw [FU_eq]; omega) ⟨rfl, by rw [if_pos (fun c hc => by omega)]; rfl⟩
  · rintro i v σ K hi ⟨rfl, rfl⟩ hK
    unfold X9_room_b42
    obtain ⟨h1, h2⟩ := h i hi
    rw [if_neg (by rw [nI_leq (by omega) (by omega)]; omega)]
    by_cases c0 : ∀ c, c < i → L c ≠ line
    · rw [if_pos c0, if_neg (show ¬ nI 1 = 0 by decide), gAt_nI (show i < 64 by omega) (by omega), h1]
      by_cases e : L i = line
      · rw [if_pos (by rw [e]), gLet, nI_1]
        exact hK _ _ ⟨rfl, by rw [if_neg (fun z => z i (by omega) e)]; rfl⟩
      · rw [if_neg (fun z => e ((nI_inj (by omega) (by omega)).mp z)), gLet, nI_1]
        refine hK _ _ ⟨rfl, ?_⟩
        rw [if_pos (fun c hc => by
          by_cases ec : c = i
          · rw [ec]; exact e
          · exact c0 c (by omega))]
        rfl
    · rw [if_neg c0, if_pos (show nI 0 = 0 from rfl), gLet, nI_1]
      exact hK _ _ ⟨rfl, by rw [if_neg (fun z => c0 (fun c hc => z c (by omega)))]; rfl⟩
  · rintro v σ K ⟨rfl, rfl⟩
    unfold X9_room_b42
    rw [if_pos (by rw [nI_leq (by omega) (by omega)]; omega)]
/-- once the lines come again, the reference finds no new one -/
theorem room_tail {n0 s : Nat} (h0 : 0 < n0) (hn0 : n0 ≤ 64) (hs : s ≤ 1023) (hz : n0 * s % 1024 = 0) : ∀ (n i : Nat) (τ : gM), n0 ≤ i → i ≤ 64 → 64 - i < n → (∀ c, c < n0 → τ 58 0 c = nI (c * s % 1024)) → gL2 n (X9_room_b21 (nI s)) (nI n0) (nI i) τ = some (64, τ) := by
  intro n
  induction n with
  | zero => intro i τ _ _ h; exact absurd h (Nat.not_lt_zero _)
  | succ n ih =>
    intro i τ h1 h2 h3 h4
    rw [gL2_s, X9_room_b21]
    by_cases c : 64 ≤ i
    · rw [if_pos (by rw [li64, nI_leq (by omega) (by omega)]; exact c)]
    · have his : i * s ≤ 64 * 1023 := Nat.mul_le_mul (by omega) hs
      have hm1 : i * s % 1024 < 1024 := Nat.mod_lt _ (by omega)
      rw [if_neg (by rw [li64, nI_leq (by omega) (by omega)]; exact c), li1024, pk_mul, nI_rem (by omega) (by omega) (by omega), gLet, gJ1_e, m_isnew (L := fun c => c * s % 1024) hn0 hm1 (fun c hc => ⟨h4 c hc, Nat.mod_lt _ (by omega)⟩) rfl, if_neg (show ¬ ∀ c, c < n0 → c * s % 1024 ≠ i * s % 1024 from fun z => z (i % n0) (Nat.mod_lt _ h0) (st_old h0 hz)), if_pos (show nI 0 = 0 from rfl), gLet, nI_1]
      exact ih (i + 1) τ (by omega) (by omega) (by omega) h4
def idn (c : Nat) : Nat := c
theorem room_ok {x m : gM} {W b s : Nat} {mk : Nat → Nat → Nat} (hX : XK x W b mk) (hM : MK m W b mk) (hs : s ≤ 1023) : ∀ (n n' i : Nat) (σ τ : gM), i ≤ 64 → 64 - i < n → 64 - i < n' → Eqv pSX x σ → Eqv pRM m τ → SE σ τ i idn → (∀ c, c < i → τ 58 0 c = nI (c * s % 1024)) → (∀ c, 0 < c → c < i → c * s % 1024 ≠ 0) → ∃ r x' m', gL1 n (X8_room_b18 (nI s)) (nI i) σ = some (r, x') ∧ gL2 n' (X9_room_b21 (nI s)) (nI i) (nI i) τ = some (r, m') ∧ Eqv pSX x x' ∧ Eqv pRM m m' := by
  intro n
  induction n with
  | zero => intro n' i σ τ _ h; exact absurd h (Nat.not_lt_zero _)
  | succ n ih =>
    intro n' i σ τ hi h1 h2 eX eM hS h58 hz
    cases n' with
    | zero => exact absurd h2 (Nat.not_lt_zero _)
    | succ n' =>
      by_cases c : 64 ≤ i
      · refine ⟨64, σ, τ, ?_, ?_, eX, eM⟩
        · rw [gL1_s, X8_room_b18, if_pos (by rw [li64, nI_leq (by omega) (by omega)]; exact c)]
        · rw [gL2_s, X9_room_b21, if_pos (by rw [li64, nI_leq (by omega) (by omega)]; exact c)]
      · have his : i * s ≤ 64 * 1023 := Nat.mul_le_mul (by omega) hs
        have hm1 : i * s % 1024 < 1024 := Nat.mod_lt _ (by omega)
        by_cases c0 : 0 < i ∧ i * s % 1024 = 0
        · have ht := room_tail c0.1 (by omega) hs c0.2 (n' + 1) i τ (Nat.le_refl _) hi h2 h58
          refine ⟨64, σ, τ, ?_, ht, eX, eM⟩
          rw [gL1_s, X8_room_b18, if_neg (by rw [li64, nI_leq (by omega) (by omega)]; exact c), li1024, pk_mul, nI_rem (by omega) (by omega) (by omega), gLet, gJ0_e, if_neg (show ¬ nI i ≤ 0 by rw [li0, nI_leq (by omega) (by omega)]; omega), if_pos (by rw [c0.2]; rfl)]
        · have hnew : ∀ c, c < i → c * s % 1024 ≠ i * s % 1024 := by
            intro c hc e
            have h3 := st_new hc e
            by_cases c1 : c = 0
            · rw [c1, Nat.sub_zero] at h3
              exact c0 ⟨by omega, h3⟩
            · exact hz (i - c) (by omega) (by omega) h3
          have hS' : SE σ (gup τ 58 0 i (nI (i * s % 1024))) i idn := SE_58 hS (fun c hc => by unfold idn; omega)
          have hX' : XK σ W b mk := XK_cg hX (fun t j ht => eX t 0 j (by unfold pSX; omega))
          have hM' : MK (gup τ 58 0 i (nI (i * s % 1024))) W b mk := MK_cg hM (fun j => by rw [gup_t (by omega)]; exact eM 47 0 j (by unfold pRM; omega))
          obtain ⟨r, x', m', a1, a2, a3, a4, a5, a6⟩ := seat_ok (root := i) hX' hM' hS' (by omega) (by omega) (fun c hc => by unfold idn; omega) hm1 (by rw [gup_at, if_pos rfl])
          have e1 : gL1 (n + 1) (X8_room_b18 (nI s)) (nI i) σ = if r = true then gL1 n (X8_room_b18 (nI s)) (nI (i + 1)) x' else some (nI i, x') := by
            rw [gL1_s, X8_room_b18, if_neg (by rw [li64, nI_leq (by omega) (by omega)]; exact c), li1024, pk_mul, nI_rem (by omega) (by omega) (by omega), gLet, gJ0_e]
            by_cases i0 : i = 0
            · rw [if_pos (show nI i ≤ 0 by rw [i0]; decide)]
              dsimp only
              rw [gCall_eq a1]
              by_cases hr : r = true
              · rw [if_pos hr, if_pos hr, gLet, nI_1]
              · rw [if_neg hr, if_neg hr]
            · rw [if_neg (show ¬ nI i ≤ 0 by rw [li0, nI_leq (by omega) (by omega)]; omega), if_neg (fun z => c0 ⟨by omega, (nI_z (by omega)).mp z⟩)]
              dsimp only
              rw [gCall_eq a1]
              by_cases hr : r = true
              · rw [if_pos hr, if_pos hr, gLet, nI_1]
              · rw [if_neg hr, if_neg hr]
          have e2 : gL2 (n' + 1) (X9_room_b21 (nI s)) (nI i) (nI i) τ = if r = true then gL2 n' (X9_room_b21 (nI s)) (nI (i + 1)) (nI (i + 1)) m' else some (nI i, m') := by
            rw [gL2_s, X9_room_b21, if_neg (by rw [li64, nI_leq (by omega) (by omega)]; exact c), li1024, pk_mul, nI_rem (by omega) (by omega) (by omega), gLet, gJ1_e, m_isnew (L := fun c => c * s % 1024) (show i ≤ 64 from hi) hm1 (fun c hc => ⟨h58 c hc, Nat.mod_lt _ (by omega)⟩) rfl, if_pos hnew, if_neg (show ¬ nI 1 = 0 by decide), gPut_nI (show i < 64 by omega) (by omega), gCall_eq a2]
            by_cases hr : r = true
            · rw [if_pos hr, if_pos hr, gLet, gLet, nI_1]
            · rw [if_neg hr, if_neg hr]
          have eM' : Eqv pRM m m' := (eM.tr (Eqv.up (by unfold pRM; omega))).tr (pSM_R a6)
          rw [e1, e2]
          by_cases hr : r = true
          · rw [if_pos hr, if_pos hr]
            refine ih n' (i + 1) x' m' (by omega) (by omega) (by omega) (eX.tr a5) eM' (SE_sg (a3 hr) (fun c hc => ?_)) (fun c hc => ?_) (fun c c1 c2 => ?_)
            · unfold sgx idn
              split <;> omega
            · rw [a6 58 0 c (by unfold pSM; omega), gup_at]
              by_cases ec : c = i
              · rw [if_pos ec, ec]
              · rw [if_neg ec]; exact h58 c (by omega)
            · by_cases ec : c = i
              · rw [ec]; exact fun z => c0 ⟨by omega, z⟩
              · exact hz c c1 (by omega)
          · rw [if_neg hr, if_neg hr]
            exact ⟨_, x', m', rfl, rfl, eX.tr a5, eM'⟩
theorem q_room {x m : gM} {N : Nat} (h : INV x m N) (a : Int32) : Ag (X8_room a x) (X9_room a m) N := by
  unfold X8_room X9_room
  rcases stride1 a with ⟨s, s1, s2, rfl, b1, b2⟩ | ⟨b1, b2⟩
  · obtain ⟨x1, c1, c2, c3, c4⟩ := x_clr (x := x)
    obtain ⟨m1, d1, d2, d3⟩ := m_clr (m := m)
    have hX := XK_of h.rs h.bi
    have hM := MK_of h.bi
    obtain ⟨r, x', m', k1, k2, k3, k4⟩ := room_ok hX hM s2 FU FU 0 x1 m1 (Nat.zero_le _) (by rw [FU_eq]; omega) (by rw [FU_eq]; omega) c4 (pSM_R d3) (SE_0 c2 c3 d2) (fun c hc => absurd hc (Nat.not_lt_zero _)) (fun c _ hc => absurd hc (Nat.not_lt_zero _))
    have k1' : gL1 FU (X8_room_b18 (nI s)) 0 x1 = some (r, x') := k1
    have k2' : gL2 FU (X9_room_b21 (nI s)) 0 0 m1 = some (r, m') := k2
    rw [gCall_eq (b1 x), if_pos rfl, gCall_eq (b2 m), if_pos rfl, gCall_eq c1, gCall_eq d1, k1', k2']
    exact ⟨_, _, _, rfl, rfl, INV_congr h (pSX_X k3) (pRM_M k4)⟩
  · rw [gCall_eq (b1 x), gCall_eq (b2 m)]
    exact Ag.same h _ rfl rfl
theorem q_fitting {x m : gM} {N : Nat} (h : INV x m N) : Ag (X8_fitting x) (X9_fitting m) N := by
  unfold X8_fitting X9_fitting
  obtain ⟨g, s, g1, g2, g3, g4, -⟩ := set_is h
  obtain ⟨x1, c1, c2, c3, c4⟩ := x_clr (x := x)
  obtain ⟨m1, d1, d2, d3⟩ := m_clr (m := m)
  have hX := XK_of h.rs h.bi
  have hM := MK_of h.bi
  rw [gCall_eq c1, gCall_eq d1, gJ0_e]
  have key : ∃ r x' m', gL1 FU (X8_fitting_b9 (fun m3 => some (m3 2 0 5, m3))) (nI 0) x1 = some (r, x') ∧ gL2 FU X9_fitting_b8 0 (nI 0) m1 = some (r, m') ∧ Eqv pSX x x' ∧ Eqv pRM m m' := by
    refine gL12_two (fun i v σ τ => ∃ n sg, v = nI n ∧ n ≤ i ∧ SE σ τ n sg ∧ (∀ c, c < n → sg c < i) ∧ Eqv pSX x σ ∧ Eqv pRM m τ) (fun p q => ∃ r x' m', p = some (r, x') ∧ q = some (r, m') ∧ Eqv pSX x x' ∧ Eqv pRM m m') g ?_ ?_ FU FU 0 0 x1 m1 (Nat.zero_le _) (by rw [FU_eq]; omega) (by rw [FU_eq]; omega) ⟨0, idn, rfl, Nat.le_refl _, SE_0 c2 c3 d2, fun c hc => absurd hc (Nat.not_lt_zero _), c4, pSM_R d3⟩
    · rintro i v σ τ K K' hi ⟨n, sg, rfl, hni, hS, hsg, eX, eM⟩ hK
      unfold X8_fitting_b9 X9_fitting_b8
      obtain ⟨k1, k2, k3⟩ := g4 i hi
      have hX' : XK σ (bW (mB m)) (bN (mB m)) (bMk (mB m)) := XK_cg hX (fun t j ht => eX t 0 j (by unfold pSX; omega))
      have hM' : MK (gup τ 58 0 i (nI (s i))) (bW (mB m)) (bN (mB m)) (bMk (mB m)) := MK_cg hM (fun j => by rw [gup_t (by omega)]; exact eM 47 0 j (by unfold pRM; omega))
      have hne : ∀ c, c < n → sg c ≠ i := fun c hc z => by have := hsg c hc; omega
      obtain ⟨r, x', m', a1, a2, a3, a4, a5, a6⟩ := seat_ok (root := i) hX' hM' (SE_58 hS hne) (by omega) (by omega) hne k1 (by rw [gup_at, if_pos rfl])
      have eM' : Eqv pRM m m' := (eM.tr (Eqv.up (by unfold pRM; omega))).tr (pSM_R a6)
      rw [eX 6 0 7 (by unfold pSX; omega), g2, if_neg (by rw [nI_leq (by omega) (by omega)]; omega), gAt_nI (show i < 32 by omega) (by omega), eX 40 0 i (by unfold pSX; omega), k2, gCall_eq a1, gLet, nI_1]
      rw [show gAt τ 47 0 3 _ = _ from gAt_nI (i := 3) (show 3 < 30843 by omega) (by omega), eM 47 0 3 (by unfold pRM; omega), g3, if_neg (by rw [nI_leq (by omega) (by omega)]; omega), li4, nI_add, gAt_nI (show 4 + i < 30843 by omega) (by omega), eM 47 0 _ (by unfold pRM; omega), k3, gPut_nI (show i < 64 by omega) (by omega), gCall_eq a2]
      by_cases hr : r = true
      · rw [if_pos hr, gLet, gLet, nI_1 n]
        refine hK _ _ _ ⟨n + 1, sgx sg n i, rfl, by omega, a3 hr, fun c hc => ?_, eX.tr a5, eM'⟩
        unfold sgx
        split
        · omega
        · have := hsg c (by omega); omega
      · rw [if_neg hr, gLet, gLet, nI_p0]
        exact hK _ _ _ ⟨n, sg, rfl, by omega, a4 (Bool.eq_false_iff.mpr hr), fun c hc => by have := hsg c hc; omega, eX.tr a5, eM'⟩
    · rintro v σ τ K K' ⟨n, sg, rfl, hni, hS, hsg, eX, eM⟩
      unfold X8_fitting_b9 X9_fitting_b8
      rw [eX 6 0 7 (by unfold pSX; omega), g2, if_pos (by rw [nI_leq (by omega) (by omega)]; omega), show gAt τ 47 0 3 _ = _ from gAt_nI (i := 3) (show 3 < 30843 by omega) (by omega), eM 47 0 3 (by unfold pRM; omega), g3, if_pos (by rw [nI_leq (by omega) (by omega)]; omega)]
      dsimp only
      exact ⟨_, σ, τ, rfl, by rw [hS.1], eX, eM⟩
  obtain ⟨r, x', m', k1, k2, k3, k4⟩ := key
  have k1' : gL1 FU (X8_fitting_b9 (fun m3 => some (m3 2 0 5, m3))) 0 x1 = some (r, x') := k1
  have k2' : gL2 FU X9_fitting_b8 0 0 m1 = some (r, m') := k2
  rw [k1', k2']
  exact ⟨_, _, _, rfl, rfl, INV_congr h (pSX_X k3) (pRM_M k4)⟩
