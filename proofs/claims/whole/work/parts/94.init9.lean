/-! LAYER 3: the reference's constructor, to its end. -/
def σM3 : gM := gup (gup (gup σM 47 0 36 2) 47 0 37 2) 47 0 44 431
/-- the reference's memory, with n numbers of the far memory laid -/
def σL (n : Nat) : gM := fun t k i => if t = 47 ∧ k = 0 ∧ 383 ≤ i ∧ i < 383 + n then nI ((i - 383) * 7 % 100) else σM3 t k i
theorem σL_0 : σL 0 = σM3 := by
  funext t k i
  unfold σL
  rw [if_neg (by omega)]
theorem σL_s (n : Nat) : gup (σL n) 47 0 (383 + n) (nI (n * 7 % 100)) = σL (n + 1) := by
  funext t k i
  unfold gup σL
  by_cases c : t = 47 ∧ k = 0 ∧ i = 383 + n
  · rw [if_pos c, if_pos (by omega), show i - 383 = n by omega]
  · rw [if_neg c]
    by_cases d : t = 47 ∧ k = 0 ∧ 383 ≤ i ∧ i < 383 + n
    · rw [if_pos d, if_pos (by omega)]
    · rw [if_neg d, if_neg (by omega)]
theorem x9_loop {X : cX} {N1 : Nat} (hN1 : N1 = 1024) (C : cC X RX9 cX9_init (3, 17, 68863) 2) {S' : cG → Array Value → State → Outcome → State → Prop} : match X with
  | (p, l, e, r, s, m, args, below, meth, c, G, nL) => (∀ (H : Heap) (locs : List Loc) (ls : Array Slot), va_P (gEm G offM gcM).1 vwCl (gW (gEm G offM gcM) (σL N1)) H → va_S (cA G) s.heap H locs → lv_has ls nL [(0, .ref ((gEm G offM gcM).2.2.1 9 0))] → W p l e (crm r) s m args below meth c H locs 17 68863 (MQ below (S' G) args s r.2.1 r.2.2 (cA G)) (F0 m 212 ls [])) →
    ∀ (n k : Nat), k + n = N1 → ∀ (H : Heap) (locs : List Loc) (ls : Array Slot), va_P (gEm G offM gcM).1 vwCl (gW (gEm G offM gcM) (σL k)) H → va_S (cA G) s.heap H locs → lv_has ls nL [(1, .int (nI k)), (0, .ref ((gEm G offM gcM).2.2.1 9 0))] → W p l e (crm r) s m args below meth c H locs 17 68863 (MQ below (S' G) args s r.2.1 r.2.2 (cA G)) (F0 m 182 ls []) := by
  obtain ⟨p, l, e, r', s, m, args, below, meth, co, G, nL'⟩ := X
  obtain ⟨rfl, rfl, hx, hb, hml, hown, hts, hN, ⟨hK, hO⟩, hlk, hrt, hin, hN0⟩ := C
  dsimp only
  intro K n
  have hE : gEok (gEm G offM gcM) := gEok_of offM_nd crefs_M
  have hKE : va_K (gEm G offM gcM).1 vwCl (gtys (gEm G offM gcM)) s := hK
  have g90 : gin (gEm G offM gcM) (9, 0) := ⟨by decide, (by decide : 0 < gcM 9)⟩
  have g470 : gin (gEm G offM gcM) (47, 0) := ⟨by decide, (by decide : 0 < gcM 47)⟩
  induction n with
  | zero =>
    intro k hk H locs ls hP hS hl
    obtain rfl : k = N1 := by omega
    refine lv_iload_n hx hb dX9_init_182 rfl (lv_at hl 0 rfl) ?_
    refine lv_sipush (v := nI 1024) hx hb dX9_init_183 (by decide) ?_
    refine lv_icmp_ge (tgt := 212) hx hb dX9_init_186 (by decide) (fun _ => K H locs ls hP hS (lv_sub hl [1] rfl)) (fun c => absurd ((nI_leq (by omega) (by omega)).mpr (by omega)) c)
  | succ n ih =>
    intro k hk H locs ls hP hS hl
    refine lv_iload_n hx hb dX9_init_182 rfl (lv_at hl 0 rfl) ?_
    refine lv_sipush (v := nI 1024) hx hb dX9_init_183 (by decide) ?_
    refine lv_icmp_ge (tgt := 212) hx hb dX9_init_186 (by decide) (fun c => absurd ((nI_leq (by omega) (by omega)).mp c) (by omega)) (fun _ => ?_)
    refine lv_aload_n hx hb dX9_init_189 rfl (lv_at hl 1 rfl) ?_
    refine x_get (σ := σL k) (j := 0) hx hb hown hts hN hKE fl_X9_7 g90 hP dX9_init_190 ?_
    show W p l e _ s m args below meth co H locs _ _ _ (F0 m 193 ls [.ref ((gEm G offM gcM).2.2.1 47 0)])
    refine lv_sipush (v := nI 383) hx hb dX9_init_193 (by decide) ?_
    refine lv_iload_n hx hb dX9_init_196 rfl (lv_at hl 0 rfl) ?_
    refine lv_iadd hx hb dX9_init_197 ?_
    rw [nI_add]
    refine lv_iload_n hx hb dX9_init_198 rfl (lv_at hl 0 rfl) ?_
    refine lv_bipush (v := nI 7) hx hb dX9_init_199 (by decide) ?_
    refine lv_imul hx hb dX9_init_201 ?_
    rw [show nI k * nI 7 = nI (k * 7) from (Int32.ofNat_mul k 7).symm]
    refine lv_bipush (v := nI 100) hx hb dX9_init_202 (by decide) ?_
    refine lv_irem hx hb dX9_init_204 (by decide) ?_
    rw [show nI (k * 7) - nI (k * 7) / nI 100 * nI 100 = nI (k * 7 % 100) from nI_rem (by omega) (by omega) (by omega)]
    refine x_iast (σ := σL k) (t := 47) (k := 0) hx hb hKE hE (by decide) g470 gA_cA hP hS (by rw [nI_cl (by omega)]; intro h; rcases h with h | h; exact nI_neg (by omega) h; exact absurd h (by show ¬ 30843 ≤ 383 + k; omega)) dX9_init_205 (fun H1 locs1 hP1 hS1 => ?_)
    rw [nI_cl (by omega), σL_s] at hP1
    refine lv_iinc (v := nI (k + 1)) (lv' := [(1, .int (nI (k + 1))), (0, .ref ((gEm G offM gcM).2.2.1 9 0))]) hx hb dX9_init_206 hl (k := 0) rfl (nI_1 k) (by decide) rfl (fun ls hl => ?_)
    refine lv_goto (tgt := 182) hx hb dX9_init_209 (by decide) ?_
    exact ih (k + 1) (by omega) H1 locs1 ls hP1 hS1 hl
theorem c_X9_init {σa σb : gM} (h1 : X9_layFamily 0 (σL 1024) = some ((), σa)) (h2 : X9_copy 47 0 48 0 σa = some ((), σb)) : gConQ yX9_init cX9_init 2 (3, 17, 68863) 0 [.inr (9, cdef 9)] (qI offM gcM σb) := by
  refine gConQ.of (by decide +kernel) rfl (by decide) (fun X C => ?_)
  refine x9_made C ?_
  have L := x9_loop (S' := qI offM gcM σb) (N1 := 1024) rfl C
  obtain ⟨p, l, e, r', s, m, args, below, meth, co, G, nL'⟩ := X
  obtain ⟨rfl, rfl, hx, hb, hml, hown, hts, hN, ⟨hK, hO⟩, hlk, hrt, hin, hN0⟩ := C
  dsimp only at L
  intro H locs ls hH hS hlv
  have hE : gEok (gEm G offM gcM) := gEok_of offM_nd crefs_M
  have hP := world_of (off := offM) (cnt := gcM) σM_arr CX9_ok hH
  have hKE : va_K (gEm G offM gcM).1 vwCl (gtys (gEm G offM gcM)) s := hK
  have g90 : gin (gEm G offM gcM) (9, 0) := ⟨by decide, (by decide : 0 < gcM 9)⟩
  have g470 : gin (gEm G offM gcM) (47, 0) := ⟨by decide, (by decide : 0 < gcM 47)⟩
  have g480 : gin (gEm G offM gcM) (48, 0) := ⟨by decide, (by decide : 0 < gcM 48)⟩
  have c1 := c_X9_layFamily 0 (σL 1024)
  rw [h1] at c1
  have c2 := c_X9_copy 47 0 48 0 (by decide) (by decide) σa
  rw [h2] at c2
  have hl0 : lv_has ls 2 [(0, .ref ((gEm G offM gcM).2.2.1 9 0))] := hlv
  refine lv_aload_n hx hb dX9_init_154 rfl (lv_at hl0 0 rfl) ?_
  refine x_get (σ := σM) (j := 0) hx hb hown hts hN hKE fl_X9_7 g90 hP dX9_init_155 ?_
  show W p l e _ s m args below meth co H locs _ _ _ (F0 m 158 ls [.ref ((gEm G offM gcM).2.2.1 47 0)])
  refine lv_bipush (v := 36) hx hb dX9_init_158 (by decide) ?_
  refine lv_iconst (v := 2) hx hb dX9_init_160 (by decide) ?_
  refine x_iast (t := 47) (k := 0) hx hb hKE hE (by decide) g470 gA_cA hP hS (by decide) dX9_init_161 (fun H locs hP hS => ?_)
  refine lv_aload_n hx hb dX9_init_162 rfl (lv_at hl0 0 rfl) ?_
  refine x_get (j := 0) hx hb hown hts hN hKE fl_X9_7 g90 hP dX9_init_163 ?_
  show W p l e _ s m args below meth co H locs _ _ _ (F0 m 166 ls [.ref ((gEm G offM gcM).2.2.1 47 0)])
  refine lv_bipush (v := 37) hx hb dX9_init_166 (by decide) ?_
  refine lv_iconst (v := 2) hx hb dX9_init_168 (by decide) ?_
  refine x_iast (t := 47) (k := 0) hx hb hKE hE (by decide) g470 gA_cA hP hS (by decide) dX9_init_169 (fun H locs hP hS => ?_)
  refine lv_aload_n hx hb dX9_init_170 rfl (lv_at hl0 0 rfl) ?_
  refine x_get (j := 0) hx hb hown hts hN hKE fl_X9_7 g90 hP dX9_init_171 ?_
  show W p l e _ s m args below meth co H locs _ _ _ (F0 m 174 ls [.ref ((gEm G offM gcM).2.2.1 47 0)])
  refine lv_bipush (v := 44) hx hb dX9_init_174 (by decide) ?_
  refine lv_sipush (v := 431) hx hb dX9_init_176 (by decide) ?_
  refine x_iast (t := 47) (k := 0) hx hb hKE hE (by decide) g470 gA_cA hP hS (by decide) dX9_init_179 (fun H locs hP hS => ?_)
  refine lv_iconst (v := nI 0) hx hb dX9_init_180 (by decide) ?_
  refine lv_istore_n (lv' := [(1, .int (nI 0)), (0, .ref ((gEm G offM gcM).2.2.1 9 0))]) hx hb dX9_init_181 rfl hl0 (by decide) rfl (fun ls hl => ?_)
  have hP : va_P (gEm G offM gcM).1 vwCl (gW (gEm G offM gcM) (σL 0)) H := by rw [σL_0]; exact hP
  refine L ?_ 1024 0 (Nat.zero_add _) H locs ls hP hS hl
  intro H locs ls hP hS hl
  refine lv_aload_n hx hb dX9_init_212 rfl (lv_at hl 0 rfl) ?_
  refine lv_iconst (v := 0) hx hb dX9_init_213 (by decide) ?_
  refine x_callV (As := [.inl 0]) (rest := []) (σ := σL 1024) (σ1 := σa) hx hb hml hown hts hN hKE hE il_X9_69 co_X9_layFamily (by decide) rfl c1 (by show 3 ≤ 3; omega) (by show 8 + (4 + 11) + 36 * 2 ≤ 36 * 3; omega) rfl g90 (fun v hv => by rw [List.mem_singleton.mp hv]; trivial) hP hl.1 (by decide) ⟨Nat.le_refl _, Nat.le_refl _⟩ dX9_init_214 (fun H1 L1 hP1 z1 o1 hL1 => ?_)
  have hS1 := x_S hS gA_cA z1 o1 hL1
  refine lv_aload_n hx hb dX9_init_217 rfl (lv_at hl 0 rfl) ?_
  refine x_get (σ := σa) (j := 0) hx hb hown hts hN hKE fl_X9_7 g90 hP1 dX9_init_218 ?_
  show W p l e _ s m args below meth co H1 _ _ _ _ (F0 m 221 ls [.ref ((gEm G offM gcM).2.2.1 47 0)])
  refine lv_aload_n hx hb dX9_init_221 rfl (lv_at hl 0 rfl) ?_
  refine x_get (σ := σa) (j := 1) hx hb hown hts hN hKE fl_X9_13 g90 hP1 dX9_init_222 ?_
  show W p l e _ s m args below meth co H1 _ _ _ _ (F0 m 225 ls [.ref ((gEm G offM gcM).2.2.1 48 0), .ref ((gEm G offM gcM).2.2.1 47 0)])
  refine x_callS (As := [.inr (47, 0), .inr (48, 0)]) (rest := []) (σ := σa) (σ1 := σb) hx hb hml hown hts hN hKE hE il_X9_73 co_X9_copy c2 (by show 1 ≤ 3; omega) (by show 8 + (3 + 11) + 36 * 0 ≤ 36 * 3; omega) rfl (fun v hv => by rcases List.mem_cons.mp hv with h | h; rw [h]; exact g470; rw [List.mem_singleton.mp h]; exact g480) hP1 hl.1 (by decide) ⟨Nat.le_refl _, Nat.le_refl _⟩ dX9_init_225 (fun H2 L2 hP2 z2 o2 hL2 => ?_)
  have hS2 := x_S hS1 gA_cA z2 o2 hL2
  exact W.vret hx hb hrt (fun t ht hW => ⟨rfl, by rw [ht]; exact hP2, cK.moved hW.alike ⟨hK, hO⟩, hS2.F ht⟩) hS2.2.2 dX9_init_228 hlk
