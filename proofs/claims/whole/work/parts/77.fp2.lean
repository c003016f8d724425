/-! LAYER 2: ratio: the quotient's bits. -/
theorem nI_int {n : Nat} (hn : n < 2147483648) : (nI n).toInt = (n : Int) := by
  show (Int32.ofNat n).toInt = _
  exact Int32.toInt_ofNat_of_lt (by omega)
theorem i2d_ND {n : Nat} (h0 : 0 < n) (h1 : n < 2147483648) : ∃ j : Nat, ND (FP.i2d (nI n)) (n * 2 ^ j) (-(j : Int)) ∧ n.log2 + j = 52 := by
  obtain ⟨j, j1, j2, j3, j4⟩ := sh_ex h0 (by omega)
  refine ⟨j, ⟨j2, j3, by omega, by omega, ?_⟩, j4⟩
  show UInt64.ofNat (FP.Core.fromInt FP.Core.b64 (nI n).toInt) = _
  unfold FP.Core.fromInt FP.Core.ofInt FP.Core.round
  rw [nI_int h1]
  dsimp only
  rw [show decide ((n : Int) < 0) = false by rw [decide_eq_false]; omega, Int.natAbs_natCast, rr_int j1 ⟨j2, j3⟩ (by omega), Int.zero_sub]
theorem ddiv_ND {x y : UInt64} {c d : Nat} {q r : Int} (hx : ND x c q) (hy : ND y d r) (he : -100 ≤ q - r ∧ q - r ≤ 100) : ∃ n q', ND (FP.ddiv x y) n q' ∧ (q - r) - 53 ≤ q' ∧ q' ≤ (q - r) - 51 ∧ (c ≤ d → q' ≤ (q - r) - 52) := by
  obtain ⟨n, q', h1, h2, h3, h4, h5, h6⟩ := rr_div (s := false) ⟨hx.1, hx.2.1⟩ ⟨hy.1, hy.2.1⟩ he
  refine ⟨n, q', ⟨h2, h3, by omega, by omega, ?_⟩, h4, h5, h6⟩
  show UInt64.ofNat (FP.Core.encode FP.Core.b64 (FP.Core.quotient FP.Core.b64 (fD x) (fD y))) = _
  have hd : d ≠ 0 := by have := hy.1; omega
  rw [hx.dec, hy.dec]
  unfold FP.Core.quotient
  dsimp only
  rw [if_neg hd, show (false != false) = false from rfl, h1]
def dTwo : UInt64 := 4611686018427387904
def dBig : UInt64 := 4841369599423283200
theorem dec_two : fD dTwo = .fin false 4503599627370496 (-51) := by
  unfold fD
  rw [show dTwo.toNat = 1024 * 4503599627370496 + 0 from rfl, dec_norm (by omega) (by omega)]
  rfl
theorem dec_big : fD dBig = .fin false 4503599627370496 0 := by
  unfold fD
  rw [show dBig.toNat = 1075 * 4503599627370496 + 0 from rfl, dec_norm (by omega) (by omega)]
  rfl
theorem dec_one : fD FP.dconst1 = .fin false 4503599627370496 (-52) := by
  unfold fD
  rw [show FP.dconst1.toNat = 1023 * 4503599627370496 + 0 from rfl, dec_norm (by omega) (by omega)]
  rfl
theorem dmul_ND {x y : UInt64} {c : Nat} {q r : Int} (hx : ND x c q) (hy : fD y = .fin false 4503599627370496 r) (he : -1074 ≤ q + r + 52 ∧ q + r + 52 ≤ 971) : ND (FP.dmul x y) c (q + r + 52) := by
  refine ⟨hx.1, hx.2.1, he.1, he.2, ?_⟩
  show UInt64.ofNat (FP.Core.encode FP.Core.b64 (FP.Core.round FP.Core.b64 (FP.Core.exactProduct (fD x) (fD y)))) = _
  rw [hx.dec, hy]
  unfold FP.Core.exactProduct FP.Core.round
  dsimp only
  rw [show (false != false) = false from rfl, show c * 4503599627370496 = c * 2 ^ 52 from rfl, rr_mul ⟨hx.1, hx.2.1⟩ (by omega)]
  rfl
theorem cmp_i {a b : Int} : compare a b = if a < b then .lt else if a = b then .eq else .gt := rfl
theorem dcmp_lt {x : UInt64} {c : Nat} {q : Int} (hx : ND x c q) (hq : q < -52) : FP.dcmp x FP.dconst1 = some .lt := by
  show FP.Core.order (fD x) (fD FP.dconst1) = _
  rw [hx.dec, dec_one]
  unfold FP.Core.order FP.Core.signed FP.Core.inUnits
  dsimp only
  obtain ⟨h1, h2, h3, h4, -⟩ := hx
  have hp : 2 ^ 1 ≤ 2 ^ (-52 - q).toNat := Nat.pow_le_pow_right (by omega) (by omega)
  have hm := Nat.mul_le_mul_left 4503599627370496 hp
  rw [show min q (-52) = q by omega, show (q - q).toNat = 0 by omega, Nat.pow_zero, Nat.mul_one, if_neg (by decide), if_neg (by decide), cmp_i, if_pos (by omega)]
theorem dcmp_ge {x : UInt64} {c : Nat} (hx : ND x c (-52)) : FP.dcmp x FP.dconst1 = some .eq ∨ FP.dcmp x FP.dconst1 = some .gt := by
  have h : FP.dcmp x FP.dconst1 = some (compare (c : Int) 4503599627370496) := by
    show FP.Core.order (fD x) (fD FP.dconst1) = _
    rw [hx.dec, dec_one]
    unfold FP.Core.order FP.Core.signed FP.Core.inUnits
    dsimp only
    rw [show min (-52 : Int) (-52) = -52 by omega, show ((-52 : Int) - (-52)).toNat = 0 by omega, Nat.pow_zero, Nat.mul_one, Nat.mul_one, if_neg (by decide), if_neg (by decide)]
    rfl
  have h1 := hx.1
  rw [h, cmp_i, if_neg (by omega)]
  by_cases e : (c : Int) = 4503599627370496
  · rw [if_pos e]; exact Or.inl rfl
  · rw [if_neg e]; exact Or.inr rfl
theorem dcmp_self {x : UInt64} {c : Nat} {q : Int} (hx : ND x c q) : FP.dcmp x x = some .eq := by
  show FP.Core.order (fD x) (fD x) = _
  rw [hx.dec]
  unfold FP.Core.order
  dsimp only
  rw [cmp_i, if_neg (by omega), if_pos rfl]
theorem clamp {t : Nat} (h : t < 9007199254740992) : max (-2 ^ 63 : Int) (min (2 ^ 63 - 1) (t : Int)) = t := by
  have h2 : (2 : Int) ^ 63 = 9223372036854775808 := by decide
  rw [h2]
  omega
theorem sum_one {c : Nat} (h1 : 4503599627370496 ≤ c) : FP.Core.exactSum (.fin false c (-52)) (.fin true 4503599627370496 (-52)) = .fin false (c - 4503599627370496) (-52) := by
  have hv : FP.Core.sumUnits false c (-52) true 4503599627370496 (-52) (-52) = ((c - 4503599627370496 : Nat) : Int) := by
    unfold FP.Core.sumUnits FP.Core.signed FP.Core.inUnits
    rw [show ((-52 : Int) - (-52)).toNat = 0 by omega, Nat.pow_zero, Nat.mul_one, Nat.mul_one, if_neg (by decide), if_pos rfl]
    omega
  unfold FP.Core.exactSum
  dsimp only
  rw [show min (-52 : Int) (-52) = -52 by omega, hv, Int.natAbs_natCast]
  have hs : FP.Core.sumSign false true ((c - 4503599627370496 : Nat) : Int) = false := by
    unfold FP.Core.sumSign
    by_cases z : ((c - 4503599627370496 : Nat) : Int) = 0
    · rw [if_pos z]; rfl
    · rw [if_neg z, decide_eq_false (by omega)]
  rw [hs]
/-- the fraction -/
theorem frac {x : UInt64} {c : Nat} (hx : ND x c (-52)) : vf_n64 (FP.dsub x FP.dconst1) ∧ vf_n64 (FP.dmul (FP.dsub x FP.dconst1) dBig) ∧ FP.d2l (FP.dmul (FP.dsub x FP.dconst1) dBig) = Int64.ofInt ((c - 4503599627370496 : Nat) : Int) := by
  have h1 := hx.1
  have h2 := hx.2.1
  have hs : FP.dsub x FP.dconst1 = UInt64.ofNat (FP.Core.encode FP.Core.b64 (FP.Core.roundRatio FP.Core.b64 false (c - 4503599627370496) 1 (-52))) := by
    show UInt64.ofNat (FP.Core.encode FP.Core.b64 (FP.Core.round FP.Core.b64 (FP.Core.exactSum (fD x) (FP.Core.negate (fD FP.dconst1))))) = _
    rw [hx.dec, dec_one]
    unfold FP.Core.negate FP.Core.round
    dsimp only
    rw [show (!false) = true from rfl, sum_one h1]
  rcases Nat.eq_zero_or_pos (c - 4503599627370496) with z | z
  · rw [z] at hs ⊢
    have h0 : FP.dsub x FP.dconst1 = 0 := by
      rw [hs]
      unfold FP.Core.roundRatio FP.Core.encode FP.Core.assemble
      rw [if_pos rfl, f_tails, f_exps]
      dsimp only
      rw [if_pos (by omega)]
      rfl
    have hz : fD 0 = .fin false 0 (-1074) := by
      unfold fD FP.Core.decode FP.Core.fieldE FP.Core.fieldT FP.Core.fieldS
      rw [f_tails, f_exps, f_qmin]
      rfl
    have hm : FP.dmul 0 dBig = 0 := by
      show UInt64.ofNat (FP.Core.encode FP.Core.b64 (FP.Core.round FP.Core.b64 (FP.Core.exactProduct (fD 0) (fD dBig)))) = _
      rw [hz, dec_big]
      unfold FP.Core.exactProduct FP.Core.round FP.Core.roundRatio FP.Core.encode FP.Core.assemble
      dsimp only
      rw [if_pos (Nat.zero_mul _), f_tails, f_exps]
      dsimp only
      rw [if_pos (by omega)]
      rfl
    rw [h0, hm]
    refine ⟨by unfold vf_n64; decide, by unfold vf_n64; decide, ?_⟩
    show FP.Core.toL (fD 0) = _
    rw [hz]
    unfold FP.Core.toL FP.Core.toInt FP.Core.truncate FP.Core.signed
    dsimp only
    rw [Nat.zero_mul, Nat.zero_div, if_neg (by decide), clamp (by omega)]
  · obtain ⟨j, j1, j2, j3, j4⟩ := sh_ex z (by omega)
    have hN : ND (FP.dsub x FP.dconst1) ((c - 4503599627370496) * 2 ^ j) (-52 - j) := ⟨j2, j3, by omega, by omega, by rw [hs, rr_int j1 ⟨j2, j3⟩ (by omega)]⟩
    have hM := dmul_ND hN dec_big (by omega)
    refine ⟨hN.ok, hM.ok, ?_⟩
    show FP.Core.toL (fD (FP.dmul (FP.dsub x FP.dconst1) dBig)) = _
    rw [hM.dec]
    unfold FP.Core.toL FP.Core.toInt FP.Core.truncate FP.Core.signed
    dsimp only
    rw [show (-52 - (j : Int) + 0 + 52).toNat = 0 by omega, show (-(-52 - (j : Int) + 0 + 52)).toNat = j by omega, Nat.pow_zero, Nat.mul_one, Nat.mul_div_cancel _ (Nat.two_pow_pos j), if_neg (by decide), clamp (by omega)]
/-- exponent and fraction together are the bits -/
theorem bits_join {x : UInt64} {c s : Nat} {q : Int} (hx : ND x c q) (hs : (s : Int) = -52 - q) (hb : s ≤ 60) : ((nI (1023 - s)).toInt64 <<< ((52 : Int32).toInt64 &&& 63)) ||| Int64.ofInt ((c - 4503599627370496 : Nat) : Int) = x.toInt64 := by
  have hbits := hx.bits
  have h1 := hx.1
  have h2 := hx.2.1
  apply Int64.toBitVec_inj.1
  apply BitVec.eq_of_toNat_eq
  have hE : (nI (1023 - s)).toInt64 = Int64.ofNat (1023 - s) := by
    apply Int64.toInt_inj.1
    rw [Int32.toInt_toInt64, nI_int (by omega), Int64.toInt_ofNat_of_lt (by omega)]
  have hT : (Int64.ofInt ((c - 4503599627370496 : Nat) : Int)).toBitVec = BitVec.ofNat 64 (c - 4503599627370496) := by
    show BitVec.ofInt 64 _ = _
    rw [BitVec.ofInt_natCast]
  rw [hE, Int64.toBitVec_or, hT, Int64.toBitVec_shiftLeft, show BitVec.smod (((52 : Int32).toInt64 &&& 63) : Int64).toBitVec 64 = 52#64 from by decide, show (Int64.ofNat (1023 - s)).toBitVec = BitVec.ofNat 64 (1023 - s) from rfl, show x.toInt64.toBitVec = x.toBitVec from rfl, show x.toBitVec.toNat = x.toNat from rfl, hbits, BitVec.toNat_or, BitVec.shiftLeft_eq', BitVec.toNat_shiftLeft, BitVec.toNat_ofNat, BitVec.toNat_ofNat, BitVec.toNat_ofNat, show 52 % 2 ^ 64 = 52 from rfl, Nat.shiftLeft_eq, show (q + 1074).toNat + 1 = 1023 - s by omega, show (2 : Nat) ^ 52 = 4503599627370496 from rfl, show (2 : Nat) ^ 64 = 18446744073709551616 from rfl, Nat.mod_eq_of_lt (show 1023 - s < 18446744073709551616 by omega), Nat.mod_eq_of_lt (show c - 4503599627370496 < 18446744073709551616 by omega), Nat.mod_eq_of_lt (show (1023 - s) * 4503599627370496 < 18446744073709551616 by omega)]
  have := Nat.shiftLeft_add_eq_or_of_lt (i := 52) (b := c - 4503599627370496) (by show _ < 4503599627370496; omega) (1023 - s)
  rw [Nat.shiftLeft_eq, show (2 : Nat) ^ 52 = 4503599627370496 from rfl] at this
  exact this.symm
/-- the quotient of hits and all -/
def rq (h a : Nat) : UInt64 := FP.ddiv (FP.i2d (nI h)) (FP.i2d (nI a))
theorem rq_ND {h a : Nat} (h0 : 0 < h) (ha : h ≤ a) (h1 : a < 2147483648) : ∃ c s, s ≤ 60 ∧ ND (rq h a) c (-52 - ((s : Nat) : Int)) := by
  obtain ⟨i, i1, i2⟩ := i2d_ND h0 (show h < 2147483648 by omega)
  obtain ⟨j, j1, j2⟩ := i2d_ND (show 0 < a by omega) h1
  have hl : h.log2 ≤ a.log2 := (Nat.le_log2 (by omega)).mpr (Nat.le_trans (Nat.log2_self_le (by omega)) ha)
  have ha31 : a.log2 < 31 := (Nat.log2_lt (by omega)).mpr (by omega)
  obtain ⟨n, q, g1, g2, g3, g4⟩ := ddiv_ND i1 j1 (by omega)
  refine ⟨n, (-52 - q).toNat, ?_, ?_⟩
  · omega
  · have hq : q ≤ -52 := by
      rcases Nat.lt_or_ge h.log2 a.log2 with z | z
      · omega
      · have hij : i = j := by omega
        have := g4 (by rw [hij]; exact Nat.mul_le_mul_right _ ha)
        omega
    rw [show -52 - (((-52 - q).toNat : Nat) : Int) = q by omega]
    exact g1
