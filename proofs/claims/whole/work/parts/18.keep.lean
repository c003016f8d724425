/-! LAYER 2: the steps that are kept, and taken back. -/
theorem INV_ring {x m x' m' : gM} {N c e f : Nat} (h : INV x m N)
    (hx : ∀ t k i, ¬ (t = 6 ∧ k = 0 ∧ (i = 4 ∨ i = 5)) → ¬ (sT t ∧ 1 ≤ k ∧ k ≤ 20) → x' t k i = x t k i)
    (hm : ∀ t k i, ¬ (t = 47 ∧ k = 0 ∧ (i = 1 ∨ i = 2 ∨ 1503 ≤ i)) → m' t k i = m t k i)
    (hc : x' 6 0 5 = nI c ∧ m' 47 0 1 = nI c ∧ c ≤ 20) (he : x' 6 0 4 = nI e ∧ e < 20) (hf : m' 47 0 2 = nI f ∧ f < 20)
    (hr : ∀ j, j < c → RS x' (1 + (e + j) % 20) (fun i => m' 47 0 (1503 + 1467 * ((f + j) % 20) + i)) N ∧ BI (fun i => m' 47 0 (1503 + 1467 * ((f + j) % 20) + i)) N) : INV x' m' N := by
  obtain ⟨⟨⟨a1, a2⟩, -, ⟨tr, d1, d2, d3, d4⟩, g, f1, f2, f3, f4, f5⟩, h2, h3, ⟨tp, h4, h5, h6, h7⟩, h8, h9, h10⟩ := h
  have r48 : m' 48 0 = m 48 0 := funext fun i => hm 48 0 i (by omega)
  have r49 : m' 49 0 = m 49 0 := funext fun i => hm 49 0 i (by omega)
  have r50 : m' 50 0 = m 50 0 := funext fun i => hm 50 0 i (by omega)
  have q := fun i => hm 9 0 i (by omega)
  have rB : (fun i => m' 47 0 (36 + i)) = (fun i => m' 47 0 (36 + i)) := rfl
  have eB : ∀ i, i < 1467 → m' 47 0 (36 + i) = m 47 0 (36 + i) := fun i hi => hm 47 0 _ (by omega)
  have x6 := fun i (hi : ¬ (i = 4 ∨ i = 5)) => hx 6 0 i (by omega) (by unfold sT; omega)
  have x40 := fun w i => hx 40 w i (by omega) (by unfold sT; omega)
  have x8 := fun i => hx 8 0 i (by omega) (by unfold sT; omega)
  have x46 := fun i => hx 46 0 i (by omega) (by unfold sT; omega)
  refine ⟨⟨⟨RS_congrB (RS_congr a1 (fun t i ht => hx t _ i (by omega) (by omega))) eB, BI_congr a2 eB⟩, ⟨c, e, f, hc.1, hc.2.1, hc.2.2, he.1, he.2, hf.1, hf.2, fun j hj => ?_⟩, ⟨tr, by rw [x6 6 (by omega)]; exact d1, by rw [hm 47 0 0 (by omega)]; exact d2, d3, fun t ht => ?_⟩, g, by rw [x6 7 (by omega)]; exact f1, by rw [hm 47 0 3 (by omega)]; exact f2, f3, fun i hi => ?_, fun i j hi hj => by rw [x40, x40]; exact f5 i j hi hj⟩, ?_, by rw [hx 6 1 6 (by omega) (by unfold sT; omega), x6 6 (by omega)]; exact h3, ⟨tp, h4, by rw [x8]; exact h5, by rw [q]; exact h6, fun i hi => by rw [x46, r50]; exact h7 i hi⟩, by rw [x8, q]; exact h8, by rw [x8, q]; exact h9, h10⟩
  · have := hr j hj
    rw [show 21 * 0 + 1 + (e + j) % 20 = 1 + (e + j) % 20 by omega]
    exact this
  · rw [r49]
    exact RT_congr (d4 t ht) (fun t' i ht' => hx t' _ i (by omega) (by unfold sT; omega))
  · rw [x40, hm 47 0 (4 + i) (by omega)]
    exact f4 i hi
  · rw [r48, r49]
    obtain ⟨⟨a1, a2⟩, ⟨c, e0, f, b1, b2, b3, b4, b5, b6, b7, b8⟩, ⟨tr, d1, d2, d3, d4⟩, g, f1, f2, f3, f4, f5⟩ := h2
    have y6 := fun i => hx 6 1 i (by omega) (by unfold sT; omega)
    exact ⟨⟨RS_congr a1 (fun t i ht => hx t _ i (by omega) (by omega)), a2⟩, ⟨c, e0, f, by rw [y6]; exact b1, b2, b3, by rw [y6]; exact b4, b5, b6, b7, fun j hj => ⟨RS_congr (b8 j hj).1 (fun t i ht => hx t _ i (by omega) (by omega)), (b8 j hj).2⟩⟩, ⟨tr, by rw [y6]; exact d1, d2, d3, fun t ht => RT_congr (d4 t ht) (fun t' i ht' => hx t' _ i (by omega) (by unfold sT; omega))⟩, g, by rw [y6]; exact f1, f2, f3, fun i hi => by rw [x40]; exact f4 i hi, fun i j hi hj => by rw [x40, x40]; exact f5 i j hi hj⟩
/-- the ring with room: a new step behind the others -/
theorem keep_last {x m : gM} {N c e f : Nat} (h : INV x m N) (hc : x 6 0 5 = nI c ∧ m 47 0 1 = nI c ∧ c < 20) (he : x 6 0 4 = nI e ∧ e < 20) (hf : m 47 0 2 = nI f ∧ f < 20)
    (hr : ∀ j, j < c → RS x (1 + (e + j) % 20) (fun i => m 47 0 (1503 + 1467 * ((f + j) % 20) + i)) N ∧ BI (fun i => m 47 0 (1503 + 1467 * ((f + j) % 20) + i)) N) :
    ∃ x' m', gAtR 41 (gRem ((x 6 0 4) + (x 6 0 5)) 20) (fun n2 => gCall (X3_takeStore (21 * 0 + 1 + n2) (21 * 0) x) (fun (_ : Unit) m3 => gLet ((m3 6 0 5) + 1) (fun x5 => gSet m3 6 0 5 x5 (fun m6 => some ((), m6))))) = some ((), x') ∧
      gAt m 47 0 2 (fun x3 => gAt m 47 0 1 (fun x4 => gCall (X9_stepAt x3 x4 m) (fun r6 m5 => gL1 FU (X9_keep_b56 (fun m7 => gAt m7 47 0 1 (fun x8 => gPut m7 47 0 1 (x8 + 1) (fun m9 => some ((), m9)))) r6) 0 m5))) = some ((), m') ∧ INV x' m' N ∧ (∀ i, i < 1467 → mB m' i = mB m i) ∧ (∀ t k i, ¬ (t = 47 ∧ k = 0) → m' t k i = m t k i) ∧ (∀ t k i, ¬ (t = 6 ∧ k = 0) → ¬ (sT t ∧ 1 ≤ k ∧ k ≤ 20) → x' t k i = x t k i) := by
  obtain ⟨xs, hxs, s3, sr, so⟩ := takeStore_ok (m := x) (k := 1 + (e + c) % 20) (o := 0) (by omega)
  have e1 : (gRem ((x 6 0 4) + (x 6 0 5)) 20) = nI ((e + c) % 20) := by rw [he.1, hc.1, nI_add, li20, nI_rem (by omega) (by omega) (by omega)]
  have sx : ∀ i, xs 6 0 i = x 6 0 i := fun i => so 6 0 i (by unfold sT; omega)
  have hmc : gAt m 47 0 2 (fun x3 => gAt m 47 0 1 (fun x4 => gCall (X9_stepAt x3 x4 m) (fun r6 m5 => gL1 FU (X9_keep_b56 (fun m7 => gAt m7 47 0 1 (fun x8 => gPut m7 47 0 1 (x8 + 1) (fun m9 => some ((), m9)))) r6) 0 m5))) = some ((), gup (gblk m 47 0 36 47 0 (1503 + 1467 * ((f + c) % 20)) 1467) 47 0 1 (nI (c + 1))) := by
    rw [li2, gAt_nI (show 2 < 30843 by omega) (by omega), li1, gAt_nI (show 1 < 30843 by omega) (by omega), hf.1, hc.2.1]
    unfold X9_stepAt
    rw [nI_add, li20, nI_rem (by omega) (by omega) (by omega), li1467, pk_mul, li1503, nI_add, gCall_some]
    rw [copy_loop 47 0 36 47 0 (1503 + 1467 * ((f + c) % 20)) 1467 (R := fun m7 => gAt m7 47 0 (nI 1) (fun x8 => gPut m7 47 0 (nI 1) (x8 + nI 1) (fun m9 => some ((), m9)))) (fun i σ K hi => ?_) (fun σ K => ?_) (by omega) (by rw [FU_eq]; omega)]
    · have e2 : gblk m 47 0 36 47 0 (1503 + 1467 * ((f + c) % 20)) 1467 47 0 1 = nI c := by
        unfold gblk
        rw [if_neg (by omega)]; exact hc.2.1
      rw [gAt_nI (show 1 < 30843 by omega) (by omega), gPut_nI (show 1 < 30843 by omega) (by omega), e2, nI_add]
    · unfold X9_keep_b56
      rw [if_neg (by rw [li1467, nI_leq (by omega) (by omega)]; omega), li36, nI_add, gAt_nI (show 36 + i < 30843 by omega) (by omega), nI_add, gPut_nI (show 1503 + 1467 * ((f + c) % 20) + i < 30843 by omega) (by omega)]
      simp only [gLet, nI_1]
    · unfold X9_keep_b56
      rw [if_pos (by rw [li1467, nI_leq (by omega) (by omega)]; omega)]
  have m1 : ∀ t k i, ¬ (t = 47 ∧ k = 0 ∧ (i = 1 ∨ 1503 ≤ i)) → gup (gblk m 47 0 36 47 0 (1503 + 1467 * ((f + c) % 20)) 1467) 47 0 1 (nI (c + 1)) t k i = m t k i := by
    intro t k i hq
    unfold gup gblk
    rw [if_neg (by omega), if_neg (by omega)]
  refine ⟨gup xs 6 0 5 (nI (c + 1)), _, ?_, hmc, ?_, ?_, fun t k i hq => m1 t k i (by omega), fun t k i h1 h2 => ?_⟩
  · rw [e1, gAtR_nI (show (e + c) % 20 < 20 by omega) (by omega), show 21 * 0 + 1 + (e + c) % 20 = 1 + (e + c) % 20 by omega, gCall_eq hxs]
    simp only [gLet, gSet]
    rw [sx, hc.1, nI_1]
  · refine INV_ring (c := c + 1) (e := e) (f := f) h (fun t k i h1 h2 => ?_) (fun t k i hq => m1 t k i (by omega)) ⟨by rw [gup_at, if_pos rfl], by rw [gup_at, if_pos rfl], by omega⟩ ⟨by rw [gup_at, if_neg (by omega), sx]; exact he.1, he.2⟩ ⟨by rw [m1 _ _ _ (by omega)]; exact hf.1, hf.2⟩ (fun j hj => ?_)
    · unfold gup
      rw [if_neg (by omega)]
      exact so t k i (by unfold sT at h2 ⊢; omega)
    · by_cases hjc : j < c
      · have hne : ¬ (f + j) % 20 = (f + c) % 20 := by omega
        have hne2 : ¬ (e + j) % 20 = (e + c) % 20 := by omega
        obtain ⟨r1, r2⟩ := hr j hjc
        have eb : ∀ i, i < 1467 → gup (gblk m 47 0 36 47 0 (1503 + 1467 * ((f + c) % 20)) 1467) 47 0 1 (nI (c + 1)) 47 0 (1503 + 1467 * ((f + j) % 20) + i) = m 47 0 (1503 + 1467 * ((f + j) % 20) + i) := by
          intro i hi
          unfold gup gblk
          rw [if_neg (by omega), if_neg (by omega)]
        exact ⟨RS_congrB (RS_congr r1 (fun t i ht => by
          unfold gup
          rw [if_neg (by omega)]
          exact so t _ i (by omega))) eb, BI_congr r2 eb⟩
      · have : j = c := by omega
        subst this
        have eb : ∀ i, i < 1467 → gup (gblk m 47 0 36 47 0 (1503 + 1467 * ((f + j) % 20)) 1467) 47 0 1 (nI (j + 1)) 47 0 (1503 + 1467 * ((f + j) % 20) + i) = mB m i := by
          intro i hi
          unfold gup gblk
          rw [if_neg (by omega), if_pos (by omega)]
          show m 47 0 _ = m 47 0 _
          congr 1; omega
        refine ⟨RS_congrB (RS_congr (m := xs) (RS_take h.rs s3 sr) (fun t i ht => ?_)) eb, BI_congr h.bi eb⟩
        unfold gup
        rw [if_neg (by omega)]
  · intro i hi
    exact m1 47 0 (36 + i) (by omega)
  · unfold gup
    rw [if_neg (by omega)]
    exact so t k i (by unfold sT at h2 ⊢; omega)
/-- a step is kept: on both sides the store stays as it is -/
theorem keep_ok {x m : gM} {N : Nat} (h : INV x m N) : ∃ x' m', X6_remember 0 x = some ((), x') ∧ X9_keep m = some ((), m') ∧ INV x' m' N ∧ (∀ i, i < 1467 → mB m' i = mB m i) ∧ (∀ t k i, ¬ (t = 47 ∧ k = 0) → m' t k i = m t k i) ∧ (∀ t k i, ¬ (t = 6 ∧ k = 0) → ¬ (sT t ∧ 1 ≤ k ∧ k ≤ 20) → x' t k i = x t k i) := by
  obtain ⟨⟨-, ⟨c, e, f, b1, b2, b3, b4, b5, b6, b7, b8⟩, -⟩, -⟩ := id h
  have b8 : ∀ j, j < c → RS x (1 + (e + j) % 20) (fun i => m 47 0 (1503 + 1467 * ((f + j) % 20) + i)) N ∧ BI (fun i => m 47 0 (1503 + 1467 * ((f + j) % 20) + i)) N := fun j hj => by
    have := b8 j hj
    rw [show 21 * 0 + 1 + (e + j) % 20 = 1 + (e + j) % 20 by omega] at this
    exact this
  unfold X6_remember X9_keep
  simp only [gJ0]
  rw [show gAt m 47 0 1 _ = _ from gAt_nI (i := 1) (show 1 < 30843 by omega) (by omega), b1, b2]
  by_cases h20 : c = 20
  · subst h20
    rw [if_pos (show nI 20 = 20 from rfl), if_pos (show nI 20 = 20 from rfl)]
    rw [show gAt m 47 0 2 _ = _ from gAt_nI (i := 2) (show 2 < 30843 by omega) (by omega), b6]
    rw [show gPut m 47 0 2 _ _ = _ from gPut_nI (i := 2) (show 2 < 30843 by omega) (by omega)]
    rw [show gAt _ 47 0 1 _ = _ from gAt_nI (i := 1) (show 1 < 30843 by omega) (by omega)]
    rw [show gPut _ 47 0 1 _ _ = _ from gPut_nI (i := 1) (show 1 < 30843 by omega) (by omega)]
    simp only [gLet, gSet]
    rw [b4, show gup m 47 0 2 (gRem (nI f + 1) 20) 47 0 1 = nI 20 by rw [gup_at, if_neg (by omega)]; exact b2]
    rw [show gup x 6 0 4 (gRem (nI e + 1) 20) 6 0 5 = nI 20 by rw [gup_at, if_neg (by omega)]; exact b1]
    rw [nI_1, nI_1, li20, nI_rem (by omega) (by omega) (by omega), nI_rem (by omega) (by omega) (by omega), nI_sub1 (by omega)]
    have hx : ∀ t k i, ¬ (t = 6 ∧ k = 0 ∧ (i = 4 ∨ i = 5)) → gup (gup x 6 0 4 (nI ((e + 1) % 20))) 6 0 5 (nI (20 - 1)) t k i = x t k i := by
      intro t k i hq
      unfold gup
      rw [if_neg (by omega), if_neg (by omega)]
    have hm : ∀ t k i, ¬ (t = 47 ∧ k = 0 ∧ (i = 1 ∨ i = 2)) → gup (gup m 47 0 2 (nI ((f + 1) % 20))) 47 0 1 (nI (20 - 1)) t k i = m t k i := by
      intro t k i hq
      unfold gup
      rw [if_neg (by omega), if_neg (by omega)]
    have hr : ∀ j, j < 19 → RS (gup (gup x 6 0 4 (nI ((e + 1) % 20))) 6 0 5 (nI (20 - 1))) (1 + ((e + 1) % 20 + j) % 20) (fun i => gup (gup m 47 0 2 (nI ((f + 1) % 20))) 47 0 1 (nI (20 - 1)) 47 0 (1503 + 1467 * (((f + 1) % 20 + j) % 20) + i)) N ∧ BI (fun i => gup (gup m 47 0 2 (nI ((f + 1) % 20))) 47 0 1 (nI (20 - 1)) 47 0 (1503 + 1467 * (((f + 1) % 20 + j) % 20) + i)) N := by
      intro j hj
      obtain ⟨r1, r2⟩ := b8 (j + 1) (by omega)
      have eb : ∀ i, i < 1467 → gup (gup m 47 0 2 (nI ((f + 1) % 20))) 47 0 1 (nI (20 - 1)) 47 0 (1503 + 1467 * (((f + 1) % 20 + j) % 20) + i) = m 47 0 (1503 + 1467 * ((f + (j + 1)) % 20) + i) := by
        intro i hi
        rw [hm _ _ _ (by omega), show ((f + 1) % 20 + j) % 20 = (f + (j + 1)) % 20 by omega]
      rw [show ((e + 1) % 20 + j) % 20 = (e + (j + 1)) % 20 by omega]
      exact ⟨RS_congrB (RS_congr r1 (fun t i ht => hx _ _ _ (by omega))) eb, BI_congr r2 eb⟩
    have h1 : INV (gup (gup x 6 0 4 (nI ((e + 1) % 20))) 6 0 5 (nI (20 - 1))) (gup (gup m 47 0 2 (nI ((f + 1) % 20))) 47 0 1 (nI (20 - 1))) N :=
      INV_ring (c := 19) (e := (e + 1) % 20) (f := (f + 1) % 20) h (fun t k i q _ => hx t k i q) (fun t k i q => hm t k i (by omega)) ⟨by rw [gup_at, if_pos rfl], by rw [gup_at, if_pos rfl], by omega⟩ ⟨by rw [gup_at, if_neg (by omega), gup_at, if_pos rfl], by omega⟩ ⟨by rw [gup_at, if_neg (by omega), gup_at, if_pos rfl], by omega⟩ hr
    obtain ⟨x', m', r1, r2, r3, r4, r5, r6⟩ := keep_last (c := 19) (e := (e + 1) % 20) (f := (f + 1) % 20) h1 ⟨by rw [gup_at, if_pos rfl], by rw [gup_at, if_pos rfl], by omega⟩ ⟨by rw [gup_at, if_neg (by omega), gup_at, if_pos rfl], by omega⟩ ⟨by rw [gup_at, if_neg (by omega), gup_at, if_pos rfl], by omega⟩ hr
    refine ⟨x', m', r1, r2, r3, fun i hi => ?_, fun t k i q => ?_, fun t k i q1 q2 => ?_⟩
    · rw [r4 i hi]; exact hm 47 0 (36 + i) (by omega)
    · rw [r5 t k i q]; exact hm t k i (by omega)
    · rw [r6 t k i q1 q2]; exact hx t k i (by omega)
  · have hne : ¬ nI c = 20 := by rw [li20, nI_inj (by omega) (by omega)]; exact h20
    rw [if_neg hne, if_neg hne]
    obtain ⟨x', m', r1, r2, r3, r4, r5, r6⟩ := keep_last (c := c) (e := e) (f := f) h ⟨b1, b2, by omega⟩ ⟨b4, b5⟩ ⟨b6, b7⟩ b8
    exact ⟨x', m', by rw [b1] at r1; exact r1, r2, r3, r4, r5, r6⟩
