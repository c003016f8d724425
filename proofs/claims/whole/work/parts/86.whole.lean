/-! LAYER 3: making: a whole. -/
theorem cr_get {X : cX} {own : String} {cc : ByteArray} {r : Nat × Nat × Nat} {nL : Nat} (C : cC X own cc r nL) {S' : cG → Array Value → State → Outcome → State → Prop} {S : List CD} {pc : Nat} {lv : List (Nat × Value)} {st : List Value} {cells slots idx ci i j : Nat} {fs : List CV} {v : CV} (hf : gFW own idx ci j) (hi : S[i]? = some (.inr (ci, fs))) (hv : fs[j]? = some v) (hd : decode cc pc = .ok (.getfield idx, 3)) (k : cW X S' (pc + 3) lv (cval (xG X).2.2 v :: st) S cells slots) : cW X S' pc lv (.ref ((xG X).2.2 + i) :: st) S cells slots := by
  obtain ⟨p, l, e, r', s, m, args, below, meth, co, G, nL'⟩ := X
  obtain ⟨rfl, rfl, hx, hb, hml, hown, hts, hNW, ⟨hK, hO⟩, hlk, hrt, hin, hN0⟩ := C
  intro H locs ls hH hS hlv
  obtain ⟨ht, hj, hT, hlink⟩ := hf
  have hP : va_P G.1 vwCl [(G.2.2 + i, .inr (ci, fs.map (cval G.2.2)))] H := by
    intro k q hq
    have hz : k < 1 := (List.getElem?_eq_some_iff.mp hq).1
    rw [show k = 0 by omega] at hq
    cases hq
    exact hH.2 i _ hi
  have hv' : (fs.map (cval G.2.2))[j]? = some (cval G.2.2 v) := by rw [List.getElem?_map, hv]; rfl
  have hgo := k H locs ls hH hS hlv
  rcases hlink with hl1 | ⟨host, hl1⟩
  · exact va_get (D := G.1) (ci := ci) (C := gRn ci) (T := gTn ci) (N := gnf ci) hx hb hts (gUin ht) hown hK hP 0 rfl (gcl ht) j hj (hts _ hl1) (fun x hx => by rw [← hT]; exact hx) hv' hd hgo
  · exact va_getN (D := G.1) (ci := ci) (C := gRn ci) (T := gTn ci) (N := gnf ci) hx hb hts (gUin ht) hown hK hP 0 rfl (gcl ht) j hj (va_Nw.use rfl (hNW _ hl1)) (fun x hx => by rw [← hT]; exact hx) hv' hd hgo
theorem MkS_appL {S : List CD} {i ci : Nat} {fs : List CV} {arrs l : List CD} : MkS S i ci fs arrs ++ l = MkS S i ci fs (arrs ++ l) := List.append_assoc _ _ _
theorem MkS_at {S : List CD} {i ci k : Nat} {fs : List CV} {arrs : List CD} : (MkS S i ci fs arrs)[S.length + k]? = arrs[k]? := by
  unfold MkS
  rw [List.getElem?_append_right (by rw [List.length_set]; omega), List.length_set, show S.length + k - S.length = k by omega]
theorem MkS_set {S : List CD} {i ci k : Nat} {fs : List CV} {arrs : List CD} {d : CD} : (MkS S i ci fs arrs).set (S.length + k) d = MkS S i ci fs (arrs.set k d) := by
  unfold MkS
  rw [List.set_append_right _ _ (by rw [List.length_set]; omega), List.length_set, show S.length + k - S.length = k by omega]
def blk3 (n : Nat) : List CD := .inr (3, f_X3 (n + 1)) :: a_X3
def blk5 (n : Nat) : List CD := .inr (5, f_X5 (n + 1)) :: a_X5
def f_X6 (n : Nat) : List CV := [.inl (some n), .inl (some (n + 10)), .inl (some (n + 11)), .inl (some (n + 12)), .inr 0, .inr 0, .inr 0, .inr 0]
def L1 (n j : Nat) : List (Option Nat) := (List.range 20).map (fun q => if q < j then some (n + (13 + 10 * q)) else none)
def L2 (n j : Nat) : List (Option Nat) := (List.range 4).map (fun q => if q < j then some (n + (213 + 3 * q)) else none)
def tl1 (n : Nat) : Nat → List CD
  | 0 => []
  | j + 1 => tl1 n j ++ blk3 (n + (13 + 10 * j))
def tl2 (n : Nat) : Nat → List CD
  | 0 => []
  | j + 1 => tl2 n j ++ blk5 (n + (213 + 3 * j))
def W6 (n : Nat) (a b : List (Option Nat)) (t : List CD) : List CD := blk3 n ++ ([.inl (2, 20, some a), .inl (3, 4, some b), .inl (0, 32, none)] ++ t)
theorem tl1_len (n : Nat) : ∀ j, (tl1 n j).length = 10 * j := by
  intro j
  induction j with
  | zero => rfl
  | succ j ih =>
    unfold tl1
    rw [List.length_append, ih]
    show 10 * j + 10 = _
    omega
theorem tl2_len (n : Nat) : ∀ j, (tl2 n j).length = 3 * j := by
  intro j
  induction j with
  | zero => rfl
  | succ j ih =>
    unfold tl2
    rw [List.length_append, ih]
    show 3 * j + 3 = _
    omega
theorem W6_len {n : Nat} {a b : List (Option Nat)} {t : List CD} : (W6 n a b t).length = 13 + t.length := by
  unfold W6
  rw [List.length_append, List.length_append]
  show 10 + (3 + t.length) = _
  omega
theorem W6_app {n : Nat} {a b : List (Option Nat)} {t l : List CD} : W6 n a b t ++ l = W6 n a b (t ++ l) := by
  unfold W6
  rw [List.append_assoc, List.append_assoc]
theorem L1_set {n j : Nat} (hj : j < 20) : (L1 n j).set j (some (n + (13 + 10 * j))) = L1 n (j + 1) := by
  apply List.ext_getElem?
  intro q
  unfold L1
  by_cases c : q = j
  · subst c
    rw [List.getElem?_set_self (by rw [List.length_map, List.length_range]; exact hj), List.getElem?_map, List.getElem?_range hj]
    simp
  · rw [List.getElem?_set_ne (Ne.symm c), List.getElem?_map, List.getElem?_map]
    by_cases cq : q < 20
    · rw [List.getElem?_range cq]
      simp only [Option.map_some]
      by_cases c2 : q < j
      · rw [if_pos c2, if_pos (by omega)]
      · rw [if_neg c2, if_neg (by omega)]
    · rw [List.getElem?_eq_none (by rw [List.length_range]; omega)]
      rfl
theorem L2_set {n j : Nat} (hj : j < 4) : (L2 n j).set j (some (n + (213 + 3 * j))) = L2 n (j + 1) := by
  apply List.ext_getElem?
  intro q
  unfold L2
  by_cases c : q = j
  · subst c
    rw [List.getElem?_set_self (by rw [List.length_map, List.length_range]; exact hj), List.getElem?_map, List.getElem?_range hj]
    simp
  · rw [List.getElem?_set_ne (Ne.symm c), List.getElem?_map, List.getElem?_map]
    by_cases cq : q < 4
    · rw [List.getElem?_range cq]
      simp only [Option.map_some]
      by_cases c2 : q < j
      · rw [if_pos c2, if_pos (by omega)]
      · rw [if_neg c2, if_neg (by omega)]
    · rw [List.getElem?_eq_none (by rw [List.length_range]; omega)]
      rfl
theorem hc3 (S : List CD) (i : Nat) (h : S[i]? = some (.inr (3, cdef 3))) : gConC yX3_init cX3_init 1 (1, 9, 1462) i S (MkS S i 3 (f_X3 S.length) ((fun _ => a_X3) S.length)) := c_X3_init S i h
theorem hc5 (S : List CD) (i : Nat) (h : S[i]? = some (.inr (5, cdef 5))) : gConC yX5_init cX5_init 1 (1, 2, 1200) i S (MkS S i 5 (f_X5 S.length) ((fun _ => a_X5) S.length)) := c_X5_init S i h
theorem cat_ref (a : Nat) : (Value.ref a).category ≤ 2 := Nat.le_succ 1
theorem cat_int (a : Int32) : (Value.int a).category ≤ 2 := Nat.le_succ 1
theorem w_loop1 {X : cX} (C : cC X RX6 cX6_init (2, 225, 35864) 2) {S' : cG → Array Value → State → Outcome → State → Prop} {S : List CD} {i : Nat} (hl : i < S.length) (hk : cW X S' 67 [(1, .int (nI 20)), (0, .ref ((xG X).2.2 + i))] [] (MkS S i 6 (f_X6 S.length) (W6 S.length (L1 S.length 20) (L2 S.length 0) (tl1 S.length 20))) 213 31052) : ∀ d j, j + d = 20 → cW X S' 42 [(1, .int (nI j)), (0, .ref ((xG X).2.2 + i))] [] (MkS S i 6 (f_X6 S.length) (W6 S.length (L1 S.length j) (L2 S.length 0) (tl1 S.length j))) (13 + 10 * j) (1532 + 1476 * j) := by
  intro d
  induction d with
  | zero =>
    intro j hj
    have e : j = 20 := by omega
    subst e
    refine cr_iload1 C (q := 0) rfl dX6_init_42 ?_
    refine cr_bipush C (v := nI 20) dX6_init_43 (by decide) ?_
    exact cr_icmpge C (tgt := 67) dX6_init_45 (by decide) (fun _ => hk) (fun h => absurd (by decide) h)
  | succ d ih =>
    intro j hj
    refine cr_iload1 C (q := 0) rfl dX6_init_42 ?_
    refine cr_bipush C (v := nI 20) dX6_init_43 (by decide) ?_
    refine cr_icmpge C (tgt := 67) dX6_init_45 (by decide) (fun h => absurd h ?_) (fun _ => ?_)
    · rw [nI_leq (by omega) (by omega)]; omega
    refine cr_aload C (q := 1) rfl dX6_init_48 ?_
    refine cr_get C (i := i) (j := 1) (v := .inl (some (S.length + 10))) fl_X6_18 (MkS_get hl) rfl dX6_init_49 ?_
    refine cr_iload1 C (q := 0) rfl dX6_init_52 ?_
    refine cr_mk C (f := f_X3) (arrs := fun _ => a_X3) (p1 := 56) (p2 := 57) (p3 := 60) nk_X6_9 hc3 (by omega) (Nat.le_refl _) (by show 2 ≤ 3; omega) (fun v hv => ?_) (by show 13 + 10 * j + 1 + 9 ≤ 225; omega) (by show 1532 + 1476 * j + 14 + 1462 ≤ 35864; omega) dX6_init_53 rfl dX6_init_56 rfl dX6_init_57 rfl ?_
    · rcases List.mem_cons.mp hv with h | h
      · rw [h]; exact cat_int _
      · rw [List.mem_singleton.mp h]; exact cat_ref _
    have hlen : (MkS S i 6 (f_X6 S.length) (W6 S.length (L1 S.length j) (L2 S.length 0) (tl1 S.length j))).length = S.length + (13 + 10 * j) := by rw [MkS_len, W6_len, tl1_len]
    rw [hlen, MkS_appL]
    refine cr_aast C (i := S.length + 10) (o := S.length + (13 + 10 * j)) (c := 2) (ci := 3) (j := j) (n := 20) (l := L1 S.length j) (Or.inl ⟨rfl, rfl⟩) rfl (by omega) (by unfold L1; rw [List.length_map, List.length_range]) (by omega) (by rw [MkS_at]; rfl) (by rw [MkS_at, List.getElem?_append_right (by rw [W6_len, tl1_len]; exact Nat.le_refl _), W6_len, tl1_len, Nat.sub_self]; rfl) dX6_init_60 ?_
    rw [MkS_set, L1_set (by omega)]
    refine cr_iinc1 C (q := 0) (n := 1) (v := nI (j + 1)) (lv' := [(1, .int (nI (j + 1))), (0, .ref ((xG X).2.2 + i))]) (by omega) rfl (nI_1 j) rfl dX6_init_61 ?_
    refine cr_goto C (tgt := 42) dX6_init_64 (by decide) ?_
    have := ih (j + 1) (by omega)
    have e : (W6 S.length (L1 S.length j) (L2 S.length 0) (tl1 S.length j) ++ (.inr (3, f_X3 (S.length + (13 + 10 * j) + 1)) :: a_X3)).set 10 (.inl (2, 20, some (L1 S.length (j + 1)))) = W6 S.length (L1 S.length (j + 1)) (L2 S.length 0) (tl1 S.length (j + 1)) := by
      show W6 S.length (L1 S.length (j + 1)) (L2 S.length 0) (tl1 S.length j) ++ blk3 (S.length + (13 + 10 * j)) = _
      rw [W6_app]
      rfl
    rw [e, show 13 + 10 * j + 1 + 9 = 13 + 10 * (j + 1) by omega, show 1532 + 1476 * j + gnf 3 + 1462 = 1532 + 1476 * (j + 1) by show 1532 + 1476 * j + 14 + 1462 = _; omega]
    exact this
theorem w_loop2 {X : cX} (C : cC X RX6 cX6_init (2, 225, 35864) 2) {S' : cG → Array Value → State → Outcome → State → Prop} {S : List CD} {i : Nat} (hl : i < S.length) (hk : cW X S' 93 [(1, .int (nI 4)), (0, .ref ((xG X).2.2 + i))] [] (MkS S i 6 (f_X6 S.length) (W6 S.length (L1 S.length 20) (L2 S.length 4) (tl1 S.length 20 ++ tl2 S.length 4))) 225 35864) : ∀ d j, j + d = 4 → cW X S' 69 [(1, .int (nI j)), (0, .ref ((xG X).2.2 + i))] [] (MkS S i 6 (f_X6 S.length) (W6 S.length (L1 S.length 20) (L2 S.length j) (tl1 S.length 20 ++ tl2 S.length j))) (213 + 3 * j) (31052 + 1203 * j) := by
  intro d
  induction d with
  | zero =>
    intro j hj
    have e : j = 4 := by omega
    subst e
    refine cr_iload1 C (q := 0) rfl dX6_init_69 ?_
    refine cr_iconst C (v := nI 4) dX6_init_70 (by decide) ?_
    exact cr_icmpge C (tgt := 93) dX6_init_71 (by decide) (fun _ => hk) (fun h => absurd (by decide) h)
  | succ d ih =>
    intro j hj
    refine cr_iload1 C (q := 0) rfl dX6_init_69 ?_
    refine cr_iconst C (v := nI 4) dX6_init_70 (by decide) ?_
    refine cr_icmpge C (tgt := 93) dX6_init_71 (by decide) (fun h => absurd h ?_) (fun _ => ?_)
    · rw [nI_leq (by omega) (by omega)]; omega
    refine cr_aload C (q := 1) rfl dX6_init_74 ?_
    refine cr_get C (i := i) (j := 2) (v := .inl (some (S.length + 11))) fl_X6_24 (MkS_get hl) rfl dX6_init_75 ?_
    refine cr_iload1 C (q := 0) rfl dX6_init_78 ?_
    refine cr_mk C (f := f_X5) (arrs := fun _ => a_X5) (p1 := 82) (p2 := 83) (p3 := 86) nk_X6_22 hc5 (by omega) (Nat.le_refl _) (by show 2 ≤ 3; omega) (fun v hv => ?_) (by show 213 + 3 * j + 1 + 2 ≤ 225; omega) (by show 31052 + 1203 * j + 3 + 1200 ≤ 35864; omega) dX6_init_79 rfl dX6_init_82 rfl dX6_init_83 rfl ?_
    · rcases List.mem_cons.mp hv with h | h
      · rw [h]; exact cat_int _
      · rw [List.mem_singleton.mp h]; exact cat_ref _
    have htl : (tl1 S.length 20 ++ tl2 S.length j).length = 200 + 3 * j := by rw [List.length_append, tl1_len, tl2_len]
    have hlen : (MkS S i 6 (f_X6 S.length) (W6 S.length (L1 S.length 20) (L2 S.length j) (tl1 S.length 20 ++ tl2 S.length j))).length = S.length + (213 + 3 * j) := by rw [MkS_len, W6_len, htl]; omega
    rw [hlen, MkS_appL]
    refine cr_aast C (i := S.length + 11) (o := S.length + (213 + 3 * j)) (c := 3) (ci := 5) (j := j) (n := 4) (l := L2 S.length j) (Or.inr ⟨rfl, rfl⟩) rfl (by omega) (by unfold L2; rw [List.length_map, List.length_range]) (by omega) (by rw [MkS_at]; rfl) (by rw [MkS_at, List.getElem?_append_right (by rw [W6_len, htl]; omega), W6_len, htl, show 213 + 3 * j - (13 + (200 + 3 * j)) = 0 by omega]; rfl) dX6_init_86 ?_
    rw [MkS_set, L2_set (by omega)]
    refine cr_iinc1 C (q := 0) (n := 1) (v := nI (j + 1)) (lv' := [(1, .int (nI (j + 1))), (0, .ref ((xG X).2.2 + i))]) (by omega) rfl (nI_1 j) rfl dX6_init_87 ?_
    refine cr_goto C (tgt := 69) dX6_init_90 (by decide) ?_
    have := ih (j + 1) (by omega)
    have e : (W6 S.length (L1 S.length 20) (L2 S.length j) (tl1 S.length 20 ++ tl2 S.length j) ++ (.inr (5, f_X5 (S.length + (213 + 3 * j) + 1)) :: a_X5)).set 11 (.inl (3, 4, some (L2 S.length (j + 1)))) = W6 S.length (L1 S.length 20) (L2 S.length (j + 1)) (tl1 S.length 20 ++ tl2 S.length (j + 1)) := by
      show W6 S.length (L1 S.length 20) (L2 S.length (j + 1)) (tl1 S.length 20 ++ tl2 S.length j) ++ blk5 (S.length + (213 + 3 * j)) = _
      rw [W6_app, List.append_assoc]
      rfl
    rw [e, show 213 + 3 * j + 1 + 2 = 213 + 3 * (j + 1) by omega, show 31052 + 1203 * j + gnf 5 + 1200 = 31052 + 1203 * (j + 1) by show 31052 + 1203 * j + 3 + 1200 = _; omega]
    exact this
def a_X6 (n : Nat) : List CD := W6 n (L1 n 20) (L2 n 4) (tl1 n 20 ++ tl2 n 4)
theorem c_X6_init (S : List CD) (i : Nat) (hi : S[i]? = some (.inr (6, cdef 6))) : gConC yX6_init cX6_init 2 (2, 225, 35864) i S (MkS S i 6 (f_X6 S.length) (a_X6 S.length)) := by
  have hl := (List.getElem?_eq_some_iff.mp hi).1
  refine gConC.of (by decide +kernel) rfl (Nat.le_of_ble_eq_true rfl) (fun X C => ?_)
  have h93 : cW X (cR (MkS S i 6 (f_X6 S.length) (a_X6 S.length))) 93 [(1, .int (nI 4)), (0, .ref ((xG X).2.2 + i))] [] (MkS S i 6 (f_X6 S.length) (W6 S.length (L1 S.length 20) (L2 S.length 4) (tl1 S.length 20 ++ tl2 S.length 4))) 225 35864 := cr_ret C (Nat.le_refl _) (Nat.le_refl _) dX6_init_93
  have h69 := w_loop2 C hl h93 4 0 rfl
  have h67 : cW X (cR (MkS S i 6 (f_X6 S.length) (a_X6 S.length))) 67 [(1, .int (nI 20)), (0, .ref ((xG X).2.2 + i))] [] (MkS S i 6 (f_X6 S.length) (W6 S.length (L1 S.length 20) (L2 S.length 0) (tl1 S.length 20))) 213 31052 := by
    refine cr_iconst C (v := nI 0) dX6_init_67 (by decide) ?_
    refine cr_istore1 C (lv' := [(1, .int (nI 0)), (0, .ref ((xG X).2.2 + i))]) (by omega) rfl dX6_init_68 ?_
    have e : tl1 S.length 20 ++ tl2 S.length 0 = tl1 S.length 20 := List.append_nil _
    rw [e] at h69
    exact h69
  have h42 := w_loop1 C hl h67 20 0 rfl
  refine cr_aload C (q := 0) rfl dX6_init_0 ?_
  refine cr_obj C oi_X6_3 oi_inst oi_code (by decide) dX6_init_1 ?_
  suffices h : cW X (cR (MkS S i 6 (f_X6 S.length) (a_X6 S.length))) 4 [(0, .ref ((xG X).2.2 + i))] [] (MkS S i 6 (cdef 6) []) 0 0 by
    rw [MkS_nil hi] at h
    exact h
  refine cr_aload C (q := 0) rfl dX6_init_4 ?_
  refine cr_mk C (f := f_X3) (arrs := fun _ => a_X3) (p1 := 8) (p2 := 9) (p3 := 12) nk_X6_9 hc3 (by omega) (Nat.le_refl _) (by show 1 ≤ 3; omega) (fun v hv => by rw [List.mem_singleton.mp hv]; exact cat_ref _) (Nat.le_of_ble_eq_true rfl) (Nat.le_of_ble_eq_true rfl) dX6_init_5 rfl dX6_init_8 rfl dX6_init_9 rfl ?_
  rw [MkS_len, MkS_appL]
  refine cr_put C (v := .inl (some S.length)) (i := i) (j := 0) fl_X6_12 fk_X6_12 rfl (MkS_get hl) (by decide) (fun _ => rfl) (fun _ => rfl) dX6_init_12 ?_
  rw [MkS_put hl]
  refine cr_aload C (q := 0) rfl dX6_init_15 ?_
  refine cr_bipush C (v := nI 20) dX6_init_16 (by decide) ?_
  refine cr_anew C (N := 20) (Or.inl ⟨rfl, rfl⟩) cl_6_9 rfl (by omega) (Nat.le_of_ble_eq_true rfl) (Nat.le_of_ble_eq_true rfl) dX6_init_18 ?_
  rw [MkS_len, MkS_app]
  refine cr_put C (v := .inl (some (S.length + 10))) (i := i) (j := 1) fl_X6_18 fk_X6_18 rfl (MkS_get hl) (by simp only [List.length_set]; decide) (fun _ => rfl) (fun _ => rfl) dX6_init_21 ?_
  rw [MkS_put hl]
  refine cr_aload C (q := 0) rfl dX6_init_24 ?_
  refine cr_iconst C (v := nI 4) dX6_init_25 (by decide) ?_
  refine cr_anew C (N := 4) (Or.inr ⟨rfl, rfl⟩) cl_6_22 rfl (by omega) (Nat.le_of_ble_eq_true rfl) (Nat.le_of_ble_eq_true rfl) dX6_init_26 ?_
  rw [MkS_len, MkS_app]
  refine cr_put C (v := .inl (some (S.length + 11))) (i := i) (j := 2) fl_X6_24 fk_X6_24 rfl (MkS_get hl) (by simp only [List.length_set]; decide) (fun _ => rfl) (fun _ => rfl) dX6_init_29 ?_
  rw [MkS_put hl]
  refine cr_fld C (ci := 6) (pc := 32) (p1 := 33) (p2 := 35) (p3 := 37) (p4 := 40) (q := 0) (j := 3) (c := 0) (N := 32) hl rfl dX6_init_32 rfl (fun _ _ _ _ => cr_bipush C dX6_init_33 (by decide)) dX6_init_35 rfl dX6_init_37 rfl fl_X6_28 fk_X6_28 (by simp only [List.length_set]; decide) (fun _ => rfl) (fun _ => rfl) (Or.inl ⟨rfl, rfl, ac_int⟩) (Nat.le_of_ble_eq_true rfl) (Nat.le_of_ble_eq_true rfl) (Nat.le_of_ble_eq_true rfl) ?_
  refine cr_iconst C (v := nI 0) dX6_init_40 (by decide) ?_
  refine cr_istore1 C (lv' := [(1, .int (nI 0)), (0, .ref ((xG X).2.2 + i))]) (by omega) rfl dX6_init_41 ?_
  exact h42
