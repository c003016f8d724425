/-! LAYER 2: rank, family, mask. -/
theorem x_rankAll {x : gM} {W b : Nat} {mk : Nat → Nat → Nat} (h : XK x W b mk) (hb : 1 ≤ b) : ∃ x', X7_rankOfAll 0 x = some (nI (rk (fun t => mk (t / b) (t % b)) (b * W)), x') ∧ Eqv p43 x x' := by
  unfold X7_rankOfAll
  obtain ⟨⟨h1, h2, h3, h4⟩, h5⟩ := id h
  rw [gJ1_e]
  have hr : ∀ w j, j < b → (fun t => mk (t / b) (t % b)) (b * w + j) = mk w j := by
    intro w j hj
    dsimp only
    rw [Nat.mul_add_div (by omega), Nat.div_eq_of_lt hj, Nat.mul_add_mod, Nat.mod_eq_of_lt hj, Nat.add_zero]
  revert hr
  generalize (fun t => mk (t / b) (t % b)) = r
  intro hr
  have hlt : ∀ w, w ≤ W → b * w ≤ 16 := fun w hw => Nat.le_trans (Nat.mul_le_mul h4 (show w ≤ 4 by omega)) (by omega)
  refine gL2_for (fun w v σ => v = nI (b * w) ∧ (∀ k, k < b * w → σ 43 0 k = nI (r k)) ∧ Eqv p43 x σ) (fun o => ∃ x', o = some (nI (rk r (b * W)), x') ∧ Eqv p43 x x') W ?_ ?_ FU 0 0 x (Nat.zero_le _) (by rw [FU_eq]; omega) ⟨rfl, fun k hk => by omega, Eqv.rf⟩
  · rintro w v σ K hw ⟨rfl, g1, g2⟩ hK
    unfold X7_rankOfAll_b4
    have hl := hlt (w + 1) (by omega)
    obtain ⟨x', a1, a2, a3⟩ := x_add (r := r) (XK_cg h (fun t i ht => g2 t 0 i (by unfold p43; omega))) hw (show b * w + b ≤ 16 by rw [← Nat.mul_succ]; exact hl) (hr w) g1
    rw [g2 3 0 0 (by unfold p43; omega), h1, if_neg (by rw [nI_leq (by omega) (by omega)]; omega), gCall_eq a1, gLet, nI_1]
    exact hK _ _ ⟨by rw [Nat.mul_succ], fun k hk => a2 k (by rw [Nat.mul_succ] at hk; exact hk), g2.tr a3⟩
  · rintro v σ K ⟨rfl, g1, g2⟩
    unfold X7_rankOfAll_b4
    have hrl : ∀ k, k < b * W → r k < 1024 := by
      intro k hk
      have e : k = b * (k / b) + k % b := (Nat.div_add_mod k b).symm
      have hm : k % b < b := Nat.mod_lt _ (by omega)
      have hd : k / b < W := by rw [Nat.div_lt_iff_lt_mul (by omega), Nat.mul_comm]; exact hk
      rw [e, hr _ _ hm]
      exact (h5 _ _ hd hm).2
    obtain ⟨x', a1, a2⟩ := x_rows (x := σ) (hlt W (Nat.le_refl _)) (fun k hk => ⟨g1 k hk, hrl k hk⟩)
    rw [g2 3 0 0 (by unfold p43; omega), h1, if_pos (by rw [nI_leq (by omega) (by omega)]; omega)]
    dsimp only
    rw [gCall_eq a1]
    exact ⟨x', rfl, g2.tr a2⟩
theorem x_rank1 {x : gM} {W b w : Nat} {mk : Nat → Nat → Nat} (h : XK x W b mk) (hw : w < W) : ∃ x', X7_rankOfTwo 0 (nI w) (nI w) x = some (nI (rk (mk w) b), x') ∧ Eqv p43 x x' := by
  unfold X7_rankOfTwo
  obtain ⟨⟨h1, h2, h3, h4⟩, h5⟩ := id h
  obtain ⟨x1, a1, a2, a3⟩ := x_add (c := 0) (r := mk w) h hw (by omega) (fun j _ => by rw [Nat.zero_add]) (fun k hk => by omega)
  rw [Nat.zero_add] at a1 a2
  have a1' : X7_addMasks 0 (nI w) 0 x = some (nI b, x1) := a1
  obtain ⟨x2, b1, b2⟩ := x_rows (x := x1) (show b ≤ 16 by omega) (fun k hk => ⟨a2 k hk, (h5 w k hw hk).2⟩)
  rw [gCall_eq a1', gJ1_e, if_pos rfl]
  dsimp only
  rw [gCall_eq b1]
  exact ⟨x2, rfl, a3.tr b2⟩
theorem x_rank2 {x : gM} {W b w o : Nat} {mk : Nat → Nat → Nat} (h : XK x W b mk) (hw : w < W) (ho : o < W) (hne : w ≠ o) : ∃ x', X7_rankOfTwo 0 (nI w) (nI o) x = some (nI (rk (cat (mk w) (mk o) b) (b + b)), x') ∧ Eqv p43 x x' := by
  unfold X7_rankOfTwo
  obtain ⟨⟨h1, h2, h3, h4⟩, h5⟩ := id h
  obtain ⟨x1, a1, a2, a3⟩ := x_add (c := 0) (r := cat (mk w) (mk o) b) h hw (by omega) (fun j hj => by rw [Nat.zero_add]; exact if_pos hj) (fun k hk => by omega)
  rw [Nat.zero_add] at a1 a2
  have a1' : X7_addMasks 0 (nI w) 0 x = some (nI b, x1) := a1
  obtain ⟨x2, b1, b2, b3⟩ := x_add (c := b) (r := cat (mk w) (mk o) b) (XK_cg h (fun t i ht => a3 t 0 i (by unfold p43; omega))) ho (by omega) (fun j hj => by unfold cat; rw [if_neg (by omega), Nat.add_sub_cancel_left]) a2
  obtain ⟨x3, c1, c2⟩ := x_rows (x := x2) (r := cat (mk w) (mk o) b) (show b + b ≤ 16 by omega) (fun k hk => ⟨b2 k hk, by
    unfold cat
    split
    · exact (h5 w k hw (by omega)).2
    · exact (h5 o _ ho (by omega)).2⟩)
  rw [gCall_eq a1', gJ1_e, if_neg (fun z => hne ((nI_inj (by omega) (by omega)).mp z).symm), gCall_eq b1]
  dsimp only
  rw [gCall_eq c1]
  exact ⟨x3, rfl, (a3.tr b3).tr c2⟩
theorem ite1 {b : Bool} : (nI (if b = true then 1 else 0) = 1) ↔ b = true := by cases b <;> decide
theorem one_incl {w u : Nat} (hw : w < 4) (hu : u < 4) : ((nI (2 ^ w) >>> (nI u &&& 31)) &&& 1 = 1) ↔ (decide (u = w)) = true := by
  have h2 : 2 ^ w ≤ 2 ^ 4 := Nat.pow_le_pow_right (by omega) (by omega)
  rw [shr_bit (by omega) (by omega), ite1, Nat.testBit_two_pow, decide_eq_true_iff, decide_eq_true_iff]
  exact eq_comm
theorem m_rank1 {m : gM} {W b w : Nat} {mk : Nat → Nat → Nat} {a : Int32} (h : MK m W b mk) (hw : w < W) (ha : a = nI (2 ^ w)) : ∃ m', X9_rankOf a m = some (nI (rk (mk w) b), m') ∧ Eqv p55 m m' := by
  have hW := h.1.2.2.1
  have hc : ∀ n, cntP (fun u => decide (u = w)) n = if w < n then 1 else 0 := fun n => by
    rw [cntP_new (p := fun _ => false) (a := w) (fun i => by simp) rfl n, cntP_none _ (fun _ _ => rfl), Nat.zero_add]
  obtain ⟨m', h1, h2⟩ := m_rank (incl := fun u => decide (u = w)) (a := a) (r := mk w) h (fun u hu => by rw [ha]; exact one_incl (by omega) (by omega)) (fun u hu hi j hj => by
    have : u = w := of_decide_eq_true hi
    subst this
    rw [hc, if_neg (Nat.lt_irrefl _), Nat.mul_zero, Nat.zero_add])
  rw [hc, if_pos hw, Nat.mul_one] at h1
  exact ⟨m', h1, h2⟩
theorem two_incl {w o u : Nat} (hw : w < 4) (ho : o < 4) (hu : u < 4) : ((nI (2 ^ w ||| 2 ^ o) >>> (nI u &&& 31)) &&& 1 = 1) ↔ (decide (u = w) || decide (u = o)) = true := by
  have h2 : 2 ^ w < 2 ^ 4 := Nat.pow_lt_pow_right (by omega) (by omega)
  have h3 : 2 ^ o < 2 ^ 4 := Nat.pow_lt_pow_right (by omega) (by omega)
  have h4 := Nat.or_lt_two_pow h2 h3
  rw [shr_bit (by omega) (by omega), ite1, Nat.testBit_or, Nat.testBit_two_pow, Nat.testBit_two_pow, show decide (w = u) = decide (u = w) from decide_eq_decide.mpr eq_comm, show decide (o = u) = decide (u = o) from decide_eq_decide.mpr eq_comm]
theorem m_rank2 {m : gM} {W b w o : Nat} {mk : Nat → Nat → Nat} {a : Int32} (h : MK m W b mk) (hw : w < o) (ho : o < W) (ha : a = nI (2 ^ w ||| 2 ^ o)) : ∃ m', X9_rankOf a m = some (nI (rk (cat (mk w) (mk o) b) (b + b)), m') ∧ Eqv p55 m m' := by
  have hW := h.1.2.2.1
  have hc1 : ∀ n, cntP (fun u => decide (u = w)) n = if w < n then 1 else 0 := fun n => by
    rw [cntP_new (p := fun _ => false) (a := w) (fun i => by simp) rfl n, cntP_none _ (fun _ _ => rfl), Nat.zero_add]
  have hc : ∀ n, cntP (fun u => decide (u = w) || decide (u = o)) n = (if w < n then 1 else 0) + if o < n then 1 else 0 := fun n => by
    rw [cntP_new (p := fun u => decide (u = w)) (a := o) (fun i => rfl) (decide_eq_false (by omega)) n, hc1]
  obtain ⟨m', h1, h2⟩ := m_rank (incl := fun u => decide (u = w) || decide (u = o)) (a := a) (r := cat (mk w) (mk o) b) h (fun u hu => by rw [ha]; exact two_incl (by omega) (by omega) (by omega)) (fun u hu hi j hj => by
    rw [hc]
    by_cases e : u = w
    · subst e
      rw [if_neg (Nat.lt_irrefl _), if_neg (by omega), Nat.mul_zero, Nat.zero_add]
      exact if_pos hj
    · have : u = o := by simpa [e] using hi
      subst this
      rw [if_pos hw, if_neg (Nat.lt_irrefl _), Nat.add_zero, Nat.mul_one]
      unfold cat
      rw [if_neg (by omega), Nat.add_sub_cancel_left])
  rw [hc, if_pos (by omega), if_pos ho, show b * (1 + 1) = b + b by omega] at h1
  exact ⟨m', h1, h2⟩
theorem m_rankAll {m : gM} {W b : Nat} {mk : Nat → Nat → Nat} {a : Int32} (h : MK m W b mk) (hb : 1 ≤ b) (ha : a = nI (2 ^ W - 1)) : ∃ m', X9_rankOf a m = some (nI (rk (fun t => mk (t / b) (t % b)) (b * W)), m') ∧ Eqv p55 m m' := by
  have hW := h.1.2.2.1
  have hc : ∀ n, cntP (fun _ => true) n = n := fun n => cntP_all n (fun _ _ => rfl)
  have h2 : 2 ^ W ≤ 2 ^ 4 := Nat.pow_le_pow_right (by omega) (by omega)
  obtain ⟨m', h1, h2⟩ := m_rank (incl := fun _ => true) (a := a) (r := fun t => mk (t / b) (t % b)) h (fun u hu => by
    rw [ha, shr_bit (by omega) (by omega), ite1, Nat.testBit_two_pow_sub_one, decide_eq_true_iff]
    exact ⟨fun _ => rfl, fun _ => hu⟩) (fun u hu hi j hj => by
    rw [hc, Nat.mul_add_div (by omega), Nat.div_eq_of_lt hj, Nat.mul_add_mod, Nat.mod_eq_of_lt hj, Nat.add_zero])
  rw [hc] at h1
  exact ⟨m', h1, h2⟩
theorem p43_X {x x' : gM} (h : Eqv p43 x x') : Eqv pX x x' := h.mono (fun t k i q => by unfold p43 at q; unfold pX; omega)
theorem p55_M {m m' : gM} (h : Eqv p55 m m') : Eqv pM m m' := h.mono (fun t k i q => by unfold p55 at q; unfold pM; omega)
theorem q_rank {x m : gM} {N : Nat} (h : INV x m N) (a b : Int32) : Ag (X8_rank a b x) (X9_rank a b m) N := by
  unfold X8_rank X9_rank
  have hx := XK_of h.rs h.bi
  have hm := MK_of h.bi
  have hW := hx.1.2.2.1
  rcases way_cases h a with ⟨w, hw, rfl⟩ | ⟨h1, h2⟩
  · rw [gCall_eq (wayT h hw).1, if_pos rfl, gCall_eq (wayT h hw).2, if_pos rfl]
    rcases way_cases h b with ⟨o, ho, rfl⟩ | ⟨g1, g2⟩
    · rw [gCall_eq (wayT h ho).1, if_pos rfl, gCall_eq (wayT h ho).2, if_pos rfl, two_shl (by omega), two_shl (by omega), nI_or]
      rcases Nat.lt_trichotomy w o with z | z | z
      · obtain ⟨x1, a1, a2⟩ := x_rank2 hx hw ho (by omega)
        obtain ⟨m1, b1, b2⟩ := m_rank2 hm z ho rfl
        rw [gCall_eq a1, gCall_eq b1]
        exact ⟨_, _, _, rfl, rfl, INV_congr h (p43_X a2) (p55_M b2)⟩
      · subst z
        obtain ⟨x1, a1, a2⟩ := x_rank1 hx hw
        obtain ⟨m1, b1, b2⟩ := m_rank1 (a := nI (2 ^ w ||| 2 ^ w)) hm hw (by rw [Nat.or_self])
        rw [gCall_eq a1, gCall_eq b1]
        exact ⟨_, _, _, rfl, rfl, INV_congr h (p43_X a2) (p55_M b2)⟩
      · obtain ⟨x1, a1, a2⟩ := x_rank2 hx hw ho (by omega)
        obtain ⟨m1, b1, b2⟩ := m_rank2 (a := nI (2 ^ w ||| 2 ^ o)) hm z hw (by rw [Nat.or_comm])
        rw [rk_swap _ _ _ (fun i hi => (hx.2 w i hw hi).2) (fun i hi => (hx.2 o i ho hi).2)] at a1
        rw [gCall_eq a1, gCall_eq b1]
        exact ⟨_, _, _, rfl, rfl, INV_congr h (p43_X a2) (p55_M b2)⟩
    · rw [gCall_eq g1, gCall_eq g2]
      exact Ag.same h _ rfl rfl
  · rw [gCall_eq h1, gCall_eq h2]
    exact Ag.same h _ rfl rfl
theorem p43_XS {x x' : gM} (h : Eqv p43 x x') : Eqv pXS x x' := h.mono (fun t k i q => by unfold p43 at q; unfold pXS pX; omega)
theorem p55_MS {m m' : gM} (h : Eqv p55 m m') : Eqv pMS m m' := h.mono (fun t k i q => by unfold p55 at q; unfold pMS pM; omega)
theorem p43_RS {x x' : gM} {k N : Nat} {B : Nat → Int32} (h : RS x k B N) (e : Eqv p43 x x') : RS x' k B N := RS_congr h (fun t i ht => e t k i (by unfold p43; omega))
theorem p55_mB {m m' : gM} (e : Eqv p55 m m') : mB m' = mB m := funext fun i => e 47 0 (36 + i) (by unfold p55; omega)
theorem q_family {x m : gM} {N : Nat} (h : INV x m N) (a : Int32) : Ag (X8_family a x) (X9_family a m) N := by
  unfold X8_family X9_family
  have hN := h.2.2.2.2.2.2
  rcases in_out a 0 2 with ⟨j, -, h2, -, rfl⟩ | ho
  · have hT : X9_isIn (nI j) 0 2 m = some (true, m) := isIn_T (Nat.zero_le _) h2 (by omega) m
    have ha : nI j = 0 ∨ nI j = 1 ∨ nI j = 2 := by
      rcases (show j = 0 ∨ j = 1 ∨ j = 2 by omega) with rfl | rfl | rfl
      · exact Or.inl rfl
      · exact Or.inr (Or.inl rfl)
      · exact Or.inr (Or.inr rfl)
    obtain ⟨x1, m1, k1, k2, h', -⟩ := keep_ok h
    obtain ⟨x2, y1, y2, y3⟩ := x_emptyAll h'.rs h'.bi
    obtain ⟨m2, z1, z2, z3⟩ := m_emptyNow rfl h'.bi
    have b2 := (emB_ok h'.bi 64).1
    have hE := emB_0 h'.bi
    have hFK := FK_self b2
    obtain ⟨x3, f1, f2, f3⟩ := x_setF (a := nI j) y2 b2.1.1 b2.1.2.2 b2.2.1.2 ⟨hFK.1, hFK.2.1⟩
    obtain ⟨m3, g1, g2, g3⟩ := m_layF (a := nI j) z2 b2.1.1 b2.1.2.2 b2.2.1.2 hFK ha
    obtain ⟨c1, c2⟩ := fm_BI (a := nI j) b2 hE
    have c1' : BI (mB m3) N := by rw [g2]; exact c1
    have f2' : RS x3 0 (mB m3) N := by rw [g2]; exact f2
    have hw := c1'.1.2
    have hp : 2 ^ bW (mB m3) ≤ 2 ^ 4 := Nat.pow_le_pow_right (by omega) hw.2
    have hp0 := Nat.two_pow_pos (bW (mB m3))
    obtain ⟨x4, r1, r2⟩ := x_rankAll (XK_of f2' c1') c1'.2.1.2.1
    obtain ⟨m4, s1, s2⟩ := m_rankAll (a := nI (2 ^ bW (mB m3)) - 1) (MK_of c1') c1'.2.1.2.1 (nI_sub1 hp0)
    rw [gCall_eq hT, if_pos rfl, if_neg (nI_neg (by omega)), if_pos (by rw [li2, nI_leq (by omega) (by omega)]; exact h2), gCall_eq k1, gCall_eq k2, gCall_eq y1, gCall_eq z1, gCall_eq f1, gCall_eq g1, gCall_eq r1, show gAt m3 47 0 36 _ = _ from m_get (i := 0) (by omega), c1'.1.1, two_shl (by omega), gCall_eq s1]
    refine ⟨_, _, _, rfl, rfl, INV_store h' (((pCo_XS (y3.tr f3))).tr (p43_XS r2)) ((pBk_MS (z3.tr g3)).tr (p55_MS s2)) ?_ ?_ (Nat.le_refl _) hN⟩
    · rw [p55_mB s2]; exact p43_RS f2' r2
    · rw [p55_mB s2]; exact c1'
  · have hF : X9_isIn a 0 2 m = some (false, m) := isIn_F ho (by omega) (by omega) m
    rw [gCall_eq hF]
    refine Ag.same h (-1) ?_ rfl
    rcases ho.lt0 with z | ⟨j, hj, rfl, z⟩
    · rw [if_pos z]
    · rw [if_neg (nI_neg hj), if_neg (by rw [li2, nI_leq hj (by omega)]; omega)]
theorem q_mask {x m : gM} {N : Nat} (h : INV x m N) (a b c : Int32) : Ag (X8_mask a b c x) (X9_mask a b c m) N := by
  unfold X8_mask X9_mask
  have hN := h.2.2.2.2.2.2
  have hw4 := h.bi.1.2.2
  have hb4 := h.bi.2.1.2.2
  rcases mask_cases h a b with ⟨w, j, hw, hj, rfl, rfl, h1, h2⟩ | ⟨h1, h2⟩
  · rw [gCall_eq h1, if_pos rfl, gCall_eq h2, if_pos rfl]
    rcases in_out c 0 1023 with ⟨v, -, hv, -, rfl⟩ | ho
    · have hT : X9_isIn (nI v) 0 1023 m = some (true, m) := isIn_T (Nat.zero_le _) hv (by omega) m
      obtain ⟨x1, m1, k1, k2, h', keepE, -, -⟩ := keep_ok h
      obtain ⟨x2, y1, y2, y3⟩ := x_emptyAll h'.rs h'.bi
      obtain ⟨m2, z1, z2, z3⟩ := m_emptyNow rfl h'.bi
      obtain ⟨b2, -, b3, -⟩ := emB_ok h'.bi 64
      have hE := emB_0 h'.bi
      have hFK := FK_self b2
      have eM : mB (gup m2 47 0 (36 + (11 + (4 * w + j))) (nI v)) = bup (emB (mB m1) 64) (11 + (4 * w + j)) (nI v) := by rw [mB_up, z2]
      have bB : BI (bup (emB (mB m1) 64) (11 + (4 * w + j)) (nI v)) N := (BI_em b2 hE (fun i _ h2i h8 hmk => bup_ne (by omega)) (by rw [bup_ne (by omega)]; exact b2.1.1) b2.1.2 (by rw [bup_ne (by omega)]; exact b2.2.1.1) b2.2.1.2 (by rw [bup_ne (by omega)]; exact b2.2.2.2.2.1) (fun i hi => by
        rw [bup_at]
        split
        · exact ⟨v, rfl, by omega⟩
        · exact hFK.2.2.2 i hi)).1
      have rB := RS_u25 y2 (show 4 * w + j < 16 by omega) (nI v)
      have hwE : w < bW (bup (emB (mB m1) 64) (11 + (4 * w + j)) (nI v)) := by
        rw [mB_w (bup_ne (by omega)), mB_w (b3 0 (by omega) (by omega)), mB_w (keepE 0 (by omega))]
        exact hw
      have bM : BI (mB (gup m2 47 0 (36 + (11 + (4 * w + j))) (nI v))) N := by rw [eM]; exact bB
      have rM : RS (gup x2 25 0 (4 * w + j) (nI v)) 0 (mB (gup m2 47 0 (36 + (11 + (4 * w + j))) (nI v))) N := by rw [eM]; exact rB
      obtain ⟨x4, r1, r2⟩ := x_rank1 (w := w) (XK_of rM bM) (by rw [eM]; exact hwE)
      obtain ⟨m4, s1, s2⟩ := m_rank1 (w := w) (a := nI (2 ^ w)) (MK_of bM) (by rw [eM]; exact hwE) rfl
      have hma : X8_maskAt (nI w) (nI j) x2 = some (nI (4 * w + j), x2) := by
        unfold X8_maskAt
        rw [li4, pk_mul, nI_add, Nat.mul_comm]
      have hmm : X9_maskAt (nI w) (nI j) m2 = some (nI (36 + (11 + (4 * w + j))), m2) := by
        unfold X9_maskAt
        rw [li47, li4, pk_mul, nI_add, nI_add, show 47 + 4 * w + j = 36 + (11 + (4 * w + j)) by omega]
      rw [gCall_eq hT, if_pos rfl, if_neg (nI_neg (by omega)), if_pos (by rw [li1024, nI_ltt (by omega) (by omega)]; omega), gCall_eq k1, gCall_eq k2, gCall_eq y1, gCall_eq z1, gCall_eq hma, gCall_eq hmm, gPut_nI (show 4 * w + j < 16 by omega) (by omega), m_put (by omega), gCall_eq r1, two_shl (by omega), gCall_eq s1]
      refine ⟨_, _, _, rfl, rfl, INV_store h' ((pCo_XS (y3.tr (Eqv.up (by unfold pCo; omega)))).tr (p43_XS r2)) ((pBk_MS (z3.tr (Eqv_bk (by omega)))).tr (p55_MS s2)) ?_ ?_ (Nat.le_refl _) hN⟩
      · rw [p55_mB s2]; exact p43_RS rM r2
      · rw [p55_mB s2]; exact bM
    · have hF : X9_isIn c 0 1023 m = some (false, m) := isIn_F ho (by omega) (by omega) m
      rw [gCall_eq hF]
      refine Ag.same h (-1) ?_ rfl
      rcases ho.lt0 with z | ⟨j, hj, rfl, z⟩
      · rw [if_pos z]
      · rw [if_neg (nI_neg hj), if_neg (by rw [li1024, nI_ltt hj (by omega)]; omega)]
  · rw [gCall_eq h1, gCall_eq h2]
    exact Ag.same h _ rfl rfl
