/-! LAYER 2: texts: the four items. -/
def BGS (o : Nat) (S : gT) (σ τ : gM) : Prop := ∀ i, i < o → ∃ s, s ≤ S.1 ∧ σ 16 0 i = nI s ∧ τ 51 0 i = nI s
def SYN (n : Nat) (b : Nat → Nat) (x y : gM) (T p d o : Nat) (S : gT) (σ τ : gM) : Prop := RTS x d o σ ∧ (d = 0 ∨ d = 2 ∧ (p < n → b p ≠ 43)) ∧ BGS o S σ τ ∧ tRx S σ ∧ tRm T S τ ∧ SOK S ∧ TOK n b p τ ∧ τ 9 0 8 = nI p ∧ τ 9 0 14 = nI o ∧ Eqv (pRm T) y τ ∧ p ≤ n
def ITM (n : Nat) (b : Nat → Nat) (x y : gM) (T p : Nat) (σ : gM) (R : Option (Int32 × gM)) : Prop :=
  (∃ f q τ', R = some (nI f, τ') ∧ f ≠ 0 ∧ f ≤ 4 ∧ τ' 9 0 8 = nI q ∧ q ≤ n ∧ Eqv (pRm T) y τ' ∧ CP n p σ (FX x f q)) ∨
  (∃ q d o S σ' τ', R = some (0, τ') ∧ p < q ∧ SYN n b x y T q d o S σ' τ' ∧ ∀ Q, CP n q σ' Q → CP n p σ Q)
theorem pNT_R {T : Nat} (t k i : Nat) (h : pNT t k i) : pRm T t k i := by unfold pNT at h; unfold pRm; omega
theorem pTm_R {T : Nat} (t k i : Nat) (h : pTm T t k i) : pRm T t k i := by unfold pTm at h; unfold pRm; omega
theorem tRm_nt {T : Nat} {S : gT} {τ τ' : gM} (h : tRm T S τ) (e : Eqv pNT τ τ') : tRm T S τ' := by
  obtain ⟨h0, h1, h2, h3⟩ := h
  exact ⟨(e 9 0 11 (by unfold pNT; omega)).trans h0, (e 49 0 _ (by unfold pNT; omega)).trans h1, (e 9 0 12 (by unfold pNT; omega)).trans h2, fun i hi => ⟨(e 49 0 _ (by unfold pNT; omega)).trans (h3 i hi).1, (e 49 0 _ (by unfold pNT; omega)).trans (h3 i hi).2⟩⟩
theorem BGS_cg {o : Nat} {S S' : gT} {σ τ σ' τ' : gM} (h : BGS o S σ τ) (hS : S.1 ≤ S'.1) (e1 : ∀ i, i < o → σ' 16 0 i = σ 16 0 i) (e2 : ∀ i, i < o → τ' 51 0 i = τ 51 0 i) : BGS o S' σ' τ' := by
  intro i hi
  obtain ⟨s, s1, s2, s3⟩ := h i hi
  exact ⟨s, by omega, (e1 i hi).trans s2, (e2 i hi).trans s3⟩
theorem RTS_E {x σ σ1 : gM} {d d1 o : Nat} (R : RTS x d o σ) (e : Eqv pE σ σ1) (h4 : σ1 0 0 4 = -1) (h2 : σ1 0 0 2 = nI d1) (hd : d1 ≤ 9) (h1 : σ1 0 0 1 = σ 0 0 1) : RTS x d1 o σ1 := by
  obtain ⟨a1, a2, a3, a4, a5, a6, a7, a8⟩ := R
  exact ⟨pE_R a1 e, (e 0 0 8 (by unfold pE pTo pTx; omega)).trans a2, (e 0 0 9 (by unfold pE pTo pTx; omega)).trans a3, h4, h2, hd, h1.trans a7, a8⟩
theorem RTS_up {x σ : gM} {d d1 o : Nat} (R : RTS x d o σ) (hd : d1 ≤ 9) : RTS x d1 o (gup σ 0 0 2 (nI d1)) := by
  obtain ⟨a1, a2, a3, a4, a5, a6, a7, a8⟩ := R
  exact ⟨a1.tr (Eqv.up (by unfold pRx; omega)), by rw [gup_at, if_neg (by omega)]; exact a2, by rw [gup_at, if_neg (by omega)]; exact a3, by rw [gup_at, if_neg (by omega)]; exact a4, by rw [gup_at, if_pos rfl], hd, by rw [gup_at, if_neg (by omega)]; exact a7, a8⟩
/-- a number's flush, in the run -/
theorem CP_fl {x σ σ1 : gM} {n q v k a d d1 o : Nat} {b : Nat → Nat} {Q : Option (Unit × gM) → Prop} (hT : TPx n b x) (R : RTS x d o σ) (hk : q + k ≤ n) (hd : q + k < n → ¬ dg (b (q + k))) (he : X0_endNumber 8 (nS σ q v) = some ((), σ1)) (R1 : RTS x d1 a σ1) (h : CP n (q + k) σ1 Q) : CP n (q + k) (nS σ q v) Q := by
  have e := nS_e (q := q) (v := v) R.1
  exact CP_flush (TPx_e hT e) hk hd (by rw [nS_o (by omega)]; exact R.2.1) he R1.2.2.2.1 R1.2.1 (fun i => by rw [R1.1 46 0 i (by unfold pRx; omega), e 46 0 i (by unfold pRx; omega)]) h
/-- the next token, and on -/
theorem fin0 {n p a o T : Nat} {b : Nat → Nat} {x y σ σ1 τ5 : gM} {S : gT} (hT : TPx n b x) (hy : TPm n b y) (R : RTS x 0 o σ1) (bg : BGS o S σ1 τ5) (t1 : tRx S σ1) (t2 : tRm T S τ5) (ok : SOK S) (h14 : τ5 9 0 14 = nI o) (e : Eqv (pRm T) y τ5) (h7 : τ5 9 0 7 = nI a) (ha : a ≤ n) (hp : p < a) (K : ∀ Q, CP n a σ1 Q → CP n p σ Q) : ITM n b x y T p σ (gCall (X9_nextToken τ5) (fun (_ : Unit) (m : gM) => some (0, m))) := by
  obtain ⟨q, τ6, n1, n2, n3, n4, n5, n6, n7⟩ := nt_ok (TPm_e hy e) h7 ha
  right
  rw [gCall_eq n1]
  refine ⟨q, 0, o, S, σ1, τ6, rfl, by omega, ⟨R, Or.inl rfl, BGS_cg bg (Nat.le_refl _) (fun _ _ => rfl) (fun i _ => n5 51 0 i (by unfold pNT; omega)), t1, tRm_nt t2 n5, ok, n7, n6, (n5 9 0 14 (by unfold pNT; omega)).trans h14, e.tr (n5.mono pNT_R), n3⟩, fun Q hQ => K Q ?_⟩
  exact CP_ws (TPx_e hT R.1) R.2.1 R.2.2.2.1 n3 hQ (q - a) a (by omega) n4
theorem gCall_id {o : Option (Int32 × gM)} : gCall o (fun (r : Int32) (m : gM) => some (r, m)) = o := by
  cases o with
  | none => rfl
  | some v => rfl
theorem CP_sg {n p : Nat} {b : Nat → Nat} {x σ σ2 : gM} {d o : Nat} (hT : TPx n b x) (R : RTS x d o σ) (hp : p < n) (hd : ¬ dg (b p)) (ht : X0_takeSign (nI (b p)) (nI p) 8 σ = some ((), σ2)) {Q : Option (Unit × gM) → Prop} (h : CP n (p + 1) σ2 Q) : CP n p σ Q := CP_sig (TPx_e hT R.1) hp R.2.1 hd (end_no R.2.2.2.1) rfl ht h
theorem it_bad {n p d o T f : Nat} {b : Nat → Nat} {x y σ τ : gM} {S : gT} (Y : SYN n b x y T p d o S σ τ) (hf : f ≠ 0 ∧ f ≤ 4) (h : CP n p σ (FX x f p)) : ITM n b x y T p σ (some (nI f, τ)) := Or.inl ⟨f, p, τ, rfl, hf.1, hf.2, Y.2.2.2.2.2.2.2.1, Y.2.2.2.2.2.2.2.2.2.2, Y.2.2.2.2.2.2.2.2.2.1, h⟩
theorem it_open {n p d o T : Nat} {b : Nat → Nat} {x y σ τ : gM} {S : gT} (hT4 : T < 4) (hT : TPx n b x) (hy : TPm n b y) (Y : SYN n b x y T p d o S σ τ) (hp : p < n) (hb : b p = 40) : ITM n b x y T p σ (X9_openItem τ) := by
  have Y' := Y
  obtain ⟨R, Y2, bg, t1, t2, ok, tk, h8, h14, e, hpn⟩ := Y
  have R' := R
  obtain ⟨a1, a2, a3, a4, a5, a6, a7, a8⟩ := R
  have hsz := ok.1
  have hd : d = 0 ∨ d = 2 := by omega
  have hs := sign_eq (a := nI p) (hT.2 p hp).1 (by unfold ws; omega) a5 a6 a7 a8
  rw [if_pos ⟨hb, hd⟩] at hs
  unfold X9_openItem
  rw [h14]
  by_cases c : o = 4
  · rw [if_pos (by rw [c]; rfl)]
    refine it_bad (f := 3) Y' (by omega) ?_
    refine CP_sg hT R' hp (by unfold dg; omega) (σ2 := gup (gup σ 0 0 8 3) 0 0 9 (nI p)) ?_ ?_
    · rw [hs]
      unfold X0_openLoop
      rw [a7, if_neg (by rw [c]; decide), gCall_eq (fail_0 a2), gCall_some]
    · exact CP_fail (d := d) hT.1 (by omega) (by rw [gup_at, if_neg (by decide), gup_at, if_pos rfl]; rfl) (by omega) (by rw [gup_at, if_pos rfl]) (by simp [gup]; exact a4) (by simp [gup]; exact a5) a6 (a1.tr ((Eqv.up (by unfold pRx; omega)).tr (Eqv.up (by unfold pRx; omega))))
  · rw [if_neg (by rw [li4, nI_inj (by omega) (by omega)]; exact c), t2.1, gAt_nI (show 1201 * T < 4804 by omega) (by omega), t2.2.1, gPut_nI (show o < 4 by omega) (by omega), gup_t (by omega), h14, nI_1, gLet, gSet]
    have htk : τ 9 0 7 = nI (p + 1) := by
      rcases id tk with ⟨z1, z2, z3⟩ | ⟨z1, z2, z3, _⟩ | ⟨z1, z2, z3, z4, z5, z6⟩
      · omega
      · unfold dg at z2; omega
      · exact z6
    refine fin0 (S := S) (σ1 := gup (gup (gup σ 16 0 o (nI S.1)) 0 0 1 (nI (o + 1))) 0 0 2 0) (a := p + 1) (o := o + 1) hT hy ⟨a1.tr (((Eqv.up (by unfold pRx; omega)).tr (Eqv.up (by unfold pRx; omega))).tr (Eqv.up (by unfold pRx; omega))), by simp [gup]; exact a2, by simp [gup]; exact a3, by simp [gup]; exact a4, by simp [gup]; rfl, by omega, by simp [gup], by omega⟩ ?_ ?_ ?_ ok (by rw [gup_at, if_pos rfl]) (e.tr ((Eqv.up (by unfold pRm; omega)).tr (Eqv.up (by unfold pRm; omega)))) (by simp [gup]; exact htk) (by omega) (by omega) ?_
    · intro i hi
      by_cases c2 : i = o
      · subst c2
        exact ⟨S.1, Nat.le_refl _, by simp [gup], by simp [gup]⟩
      · obtain ⟨s, s1, s2, s3⟩ := bg i (by omega)
        exact ⟨s, s1, by simp [gup, c2]; exact s2, by simp [gup, c2]; exact s3⟩
    · exact tRx_cg t1 (by simp [gup]) (by simp [gup]) (fun i => by simp [gup]) (fun i => by simp [gup])
    · obtain ⟨g0, g1, g2, g3⟩ := t2
      exact ⟨by simp [gup]; exact g0, by simp [gup]; exact g1, by simp [gup]; exact g2, fun i hi => ⟨by simp [gup]; exact (g3 i hi).1, by simp [gup]; exact (g3 i hi).2⟩⟩
    · intro Q hQ
      refine CP_sg hT R' hp (by unfold dg; omega) ?_ hQ
      rw [hs]
      unfold X0_openLoop
      rw [a7, if_pos (by rw [li4, nI_ltt (by omega) (by omega)]; omega), gPut_nI (show o < glen 16 by rw [show glen 16 = 4 from rfl]; omega) (by omega), t1.1, gLet, gup_t (by omega), a7, nI_1, gSet, gSet, gCall_some]
