/-! LAYER 2: ratio: numbers with a point, exactly. -/
theorem f_tails : FP.Core.b64.tails = 4503599627370496 := by decide
theorem f_exps : FP.Core.b64.exps = 2048 := by decide
theorem f_qmin : FP.Core.b64.qmin = -1074 := by decide
theorem f_qmax : FP.Core.b64.qmax = 971 := by decide
theorem f_p : FP.Core.b64.p = 53 := rfl
theorem f_pp : 2 ^ FP.Core.b64.p = 9007199254740992 := by decide
abbrev fD (x : UInt64) : FP.Core.Datum := FP.Core.decode FP.Core.b64 x.toNat
theorem dec_norm {e t : Nat} (he : 1 ≤ e ∧ e ≤ 2046) (ht : t < 4503599627370496) : FP.Core.decode FP.Core.b64 (e * 4503599627370496 + t) = .fin false (4503599627370496 + t) (-1074 + ((e : Int) - 1)) := by
  unfold FP.Core.decode FP.Core.fieldE FP.Core.fieldT FP.Core.fieldS
  rw [f_tails, f_exps, f_qmin]
  have h1 : (e * 4503599627370496 + t) / 4503599627370496 = e := by omega
  have h2 : (e * 4503599627370496 + t) % 4503599627370496 = t := by omega
  rw [h1, h2, show e % 2048 = e by omega, show e / 2048 % 2 = 0 by omega, if_neg (by omega), if_neg (by omega)]
  rfl
theorem enc_norm {c : Nat} {q : Int} (hc : 4503599627370496 ≤ c) : FP.Core.encode FP.Core.b64 (.fin false c q) = ((q + 1074).toNat + 1) * 4503599627370496 + (c - 4503599627370496) := by
  unfold FP.Core.encode FP.Core.assemble
  rw [f_tails, f_exps, f_qmin]
  dsimp only
  rw [if_neg (by omega), show q - (-1074) = q + 1074 by omega, show Bool.toNat false = 0 from rfl, Nat.zero_mul, Nat.zero_add]
def ND (x : UInt64) (c : Nat) (q : Int) : Prop := 4503599627370496 ≤ c ∧ c < 9007199254740992 ∧ -1074 ≤ q ∧ q ≤ 971 ∧ x = UInt64.ofNat (FP.Core.encode FP.Core.b64 (.fin false c q))
theorem ND.bits {x : UInt64} {c : Nat} {q : Int} (h : ND x c q) : x.toNat = ((q + 1074).toNat + 1) * 4503599627370496 + (c - 4503599627370496) := by
  obtain ⟨h1, h2, h3, h4, rfl⟩ := h
  rw [enc_norm h1, UInt64.toNat_ofNat_of_lt']
  show _ < 18446744073709551616
  omega
theorem ND.dec {x : UInt64} {c : Nat} {q : Int} (h : ND x c q) : fD x = .fin false c q := by
  unfold fD
  rw [h.bits]
  obtain ⟨h1, h2, h3, h4, -⟩ := h
  rw [dec_norm (by omega) (by omega), show 4503599627370496 + (c - 4503599627370496) = c by omega]
  congr 1
  omega
theorem ND.ok {x : UInt64} {c : Nat} {q : Int} (h : ND x c q) : vf_n64 x := by
  have hb := h.bits
  obtain ⟨h1, h2, h3, h4, -⟩ := h
  unfold vf_n64
  rw [UInt64.le_iff_toNat_le, UInt64.toNat_and]
  have h5 : x.toNat &&& (0x7fffffffffffffff : UInt64).toNat ≤ x.toNat := Nat.and_le_left
  refine Nat.le_trans h5 ?_
  rw [hb]
  show _ ≤ 9218868437227405312
  omega
theorem lg {n k : Nat} (h1 : 2 ^ k ≤ n) (h2 : n < 2 ^ (k + 1)) : n.log2 = k := by
  have h0 : n ≠ 0 := by
    intro z
    have := Nat.two_pow_pos k
    omega
  have a := (Nat.le_log2 h0).mpr h1
  have b := (Nat.log2_lt h0).mpr h2
  omega
theorem near_ex {n d : Nat} (hd : 0 < d) : FP.Core.nearest (n * d) d = n := by
  unfold FP.Core.nearest
  rw [Nat.mul_mod_left, Nat.mul_div_cancel _ hd, if_pos (by omega)]
theorem settle_ok {s : Bool} {c : Nat} {q : Int} (hc : c < 9007199254740992) (hq : q ≤ 971) : FP.Core.settle FP.Core.b64 s c q = .fin s c q := by
  unfold FP.Core.settle FP.Core.bound
  rw [f_pp, f_qmax, if_pos hc, if_pos hq]
/-- exact: a product -/
theorem rr_mul {s : Bool} {c k : Nat} {e : Int} (hc : 4503599627370496 ≤ c ∧ c < 9007199254740992) (hq : -1074 ≤ e + k ∧ e + k ≤ 971) : FP.Core.roundRatio FP.Core.b64 s (c * 2 ^ k) 1 e = .fin s c (e + k) := by
  have hk := Nat.two_pow_pos k
  have hlog : (c * 2 ^ k).log2 = 52 + k := by
    refine lg ?_ ?_
    · rw [Nat.pow_add]
      exact Nat.mul_le_mul_right _ hc.1
    · rw [show 52 + k + 1 = 53 + k by omega, Nat.pow_add]
      exact (Nat.mul_lt_mul_right hk).mpr hc.2
  have hlead : FP.Core.leading (c * 2 ^ k) 1 = 52 + k := by
    unfold FP.Core.leading
    rw [hlog, show Nat.log2 1 = 0 by decide]
    dsimp only
    rw [show (((52 + k : Nat) : Int) - ((0 : Nat) : Int)).toNat = 52 + k by omega, show (-(((52 + k : Nat) : Int) - ((0 : Nat) : Int))).toNat = 0 by omega, if_pos]
    · omega
    · rw [Nat.one_mul, Nat.pow_zero, Nat.mul_one, Nat.pow_add]
      exact Nat.mul_le_mul_right _ hc.1
  unfold FP.Core.roundRatio FP.Core.roundAt FP.Core.quantum FP.Core.unitsNum FP.Core.unitsDen
  have h0 : c * 2 ^ k ≠ 0 := Nat.mul_ne_zero (by omega) (by omega)
  rw [if_neg h0, hlead, f_qmin, f_p, show max (-1074 : Int) (52 + (k : Int) + e - (((53 : Nat) : Int) - 1)) = e + k by omega, show (e - (e + (k : Int))).toNat = 0 by omega, show (e + (k : Int) - e).toNat = k by omega, Nat.pow_zero, Nat.mul_one, Nat.one_mul, near_ex hk, settle_ok hc.2 hq.2]
/-- exact: a small whole number -/
theorem rr_int {s : Bool} {n j : Nat} {e : Int} (hj : j ≤ 52) (hc : 4503599627370496 ≤ n * 2 ^ j ∧ n * 2 ^ j < 9007199254740992) (hq : -1074 ≤ e - j ∧ e - j ≤ 971) : FP.Core.roundRatio FP.Core.b64 s n 1 e = .fin s (n * 2 ^ j) (e - j) := by
  have hk := Nat.two_pow_pos j
  have hp : 2 ^ (52 - j) * 2 ^ j = 4503599627370496 := by rw [← Nat.pow_add, show 52 - j + j = 52 by omega]
  have hp2 : 2 ^ (52 - j + 1) * 2 ^ j = 9007199254740992 := by rw [← Nat.pow_add, show 52 - j + 1 + j = 53 by omega]
  have hlog : n.log2 = 52 - j := by
    refine lg ?_ ?_
    · exact Nat.le_of_mul_le_mul_right (by rw [hp]; exact hc.1) hk
    · exact Nat.lt_of_mul_lt_mul_right (a := 2 ^ j) (by rw [hp2]; exact hc.2)
  have hn0 : n ≠ 0 := by intro z; rw [z, Nat.zero_mul] at hc; omega
  have hlead : FP.Core.leading n 1 = 52 - j := by
    unfold FP.Core.leading
    rw [hlog, show Nat.log2 1 = 0 by decide]
    dsimp only
    rw [show (((52 - j : Nat) : Int) - ((0 : Nat) : Int)).toNat = 52 - j by omega, show (-(((52 - j : Nat) : Int) - ((0 : Nat) : Int))).toNat = 0 by omega, if_pos]
    · omega
    · rw [Nat.one_mul, Nat.pow_zero, Nat.mul_one]
      exact Nat.le_of_mul_le_mul_right (by rw [hp]; exact hc.1) hk
  unfold FP.Core.roundRatio FP.Core.roundAt FP.Core.quantum FP.Core.unitsNum FP.Core.unitsDen
  rw [if_neg hn0, hlead, f_qmin, f_p, show max (-1074 : Int) (52 - (j : Int) + e - (((53 : Nat) : Int) - 1)) = e - j by omega, show (e - (e - (j : Int))).toNat = j by omega, show (e - (j : Int) - e).toNat = 0 by omega, Nat.pow_zero, Nat.mul_one]
  have hne := near_ex (n := n * 2 ^ j) (d := 1) (by omega)
  rw [Nat.mul_one] at hne
  rw [hne, settle_ok hc.2 hq.2]
theorem sh_ex {n : Nat} (h0 : 0 < n) (h1 : n < 4503599627370496) : ∃ j, j ≤ 52 ∧ 4503599627370496 ≤ n * 2 ^ j ∧ n * 2 ^ j < 9007199254740992 ∧ n.log2 + j = 52 := by
  have hn : n ≠ 0 := by omega
  have a := Nat.log2_self_le hn
  have b := Nat.lt_log2_self (n := n)
  have hl : n.log2 < 52 := (Nat.log2_lt hn).mpr (by omega)
  refine ⟨52 - n.log2, by omega, ?_, ?_, by omega⟩
  · have := Nat.mul_le_mul_right (2 ^ (52 - n.log2)) a
    rw [← Nat.pow_add, show n.log2 + (52 - n.log2) = 52 by omega] at this
    exact this
  · have := (Nat.mul_lt_mul_right (Nat.two_pow_pos (52 - n.log2))).mpr b
    rw [← Nat.pow_add, show n.log2 + 1 + (52 - n.log2) = 53 by omega] at this
    exact this
/-- a quotient -/
theorem rr_div {s : Bool} {c d : Nat} {e : Int} (hc : 4503599627370496 ≤ c ∧ c < 9007199254740992) (hd : 4503599627370496 ≤ d ∧ d < 9007199254740992) (he : -100 ≤ e ∧ e ≤ 100) : ∃ n q, FP.Core.roundRatio FP.Core.b64 s c d e = .fin s n q ∧ 4503599627370496 ≤ n ∧ n < 9007199254740992 ∧ e - 53 ≤ q ∧ q ≤ e - 51 ∧ (c ≤ d → q ≤ e - 52) := by
  have l1 : c.log2 = 52 := lg hc.1 hc.2
  have l2 : d.log2 = 52 := lg hd.1 hd.2
  have key : ∀ num Q, e - 53 ≤ Q → Q ≤ e - 52 → 4503599627370496 * d ≤ num → num < 9007199254740992 * d → (c ≤ d → Q = e - 53 ∨ num = 4503599627370496 * d) → ∃ n q, FP.Core.settle FP.Core.b64 s (FP.Core.nearest num d) Q = .fin s n q ∧ 4503599627370496 ≤ n ∧ n < 9007199254740992 ∧ e - 53 ≤ q ∧ q ≤ e - 51 ∧ (c ≤ d → q ≤ e - 52) := by
    intro num Q h1 h2 h3 h4 h5
    have hd0 : 0 < d := by omega
    have g1 : 4503599627370496 ≤ num / d := (Nat.le_div_iff_mul_le hd0).mpr h3
    have g2 : num / d < 9007199254740992 := (Nat.div_lt_iff_lt_mul hd0).mpr h4
    have g3 : num / d ≤ FP.Core.nearest num d ∧ FP.Core.nearest num d ≤ num / d + 1 := by
      unfold FP.Core.nearest
      split
      · omega
      · split
        · omega
        · omega
    by_cases cc : FP.Core.nearest num d < 9007199254740992
    · exact ⟨_, _, settle_ok cc (by omega), by omega, cc, by omega, by omega, fun _ => by omega⟩
    · refine ⟨4503599627370496, Q + 1, ?_, by omega, by omega, by omega, by omega, fun hcd => ?_⟩
      · unfold FP.Core.settle FP.Core.bound
        rw [f_pp, f_qmax, f_tails, if_neg cc, if_pos (by omega)]
      · rcases h5 hcd with z | z
        · omega
        · exfalso
          rw [z, near_ex hd0] at cc
          omega
  unfold FP.Core.roundRatio FP.Core.roundAt FP.Core.quantum FP.Core.unitsNum FP.Core.unitsDen
  rw [if_neg (by omega), f_qmin, f_p]
  by_cases cd : d ≤ c
  · have hlead : FP.Core.leading c d = 0 := by
      unfold FP.Core.leading
      rw [l1, l2]
      dsimp only
      rw [show (((52 : Nat) : Int) - ((52 : Nat) : Int)).toNat = 0 by omega, show (-(((52 : Nat) : Int) - ((52 : Nat) : Int))).toNat = 0 by omega, Nat.pow_zero, Nat.mul_one, Nat.mul_one, if_pos cd]
      omega
    rw [hlead, show max (-1074 : Int) (0 + e - (((53 : Nat) : Int) - 1)) = e - 52 by omega, show (e - (e - 52)).toNat = 52 by omega, show (e - 52 - e).toNat = 0 by omega, Nat.pow_zero, Nat.mul_one, show 2 ^ 52 = 4503599627370496 from rfl]
    exact key _ _ (by omega) (by omega) (by omega) (by omega) (fun h => Or.inr (by omega))
  · have hlead : FP.Core.leading c d = -1 := by
      unfold FP.Core.leading
      rw [l1, l2]
      dsimp only
      rw [show (((52 : Nat) : Int) - ((52 : Nat) : Int)).toNat = 0 by omega, show (-(((52 : Nat) : Int) - ((52 : Nat) : Int))).toNat = 0 by omega, Nat.pow_zero, Nat.mul_one, Nat.mul_one, if_neg cd]
      omega
    rw [hlead, show max (-1074 : Int) (-1 + e - (((53 : Nat) : Int) - 1)) = e - 53 by omega, show (e - (e - 53)).toNat = 53 by omega, show (e - 53 - e).toNat = 0 by omega, Nat.pow_zero, Nat.mul_one, show 2 ^ 53 = 9007199254740992 from rfl]
    exact key _ _ (by omega) (by omega) (by omega) (by omega) (fun h => Or.inl rfl)
