/-! pure rows: unsigned order, shifts, the upper half of a product, leading zeros, the root's trial, division by ten and by -1, turning -/
theorem wn_lt (x y : Int64) : (x ^^^ (-9223372036854775808)) < (y ^^^ (-9223372036854775808)) ↔ uN x < uN y := by
  rw [← Int64.not_le, uN_le]
  omega
theorem wn_uN {n : Nat} (h : n < 18446744073709551616) : uN (lN n) = n := Nat.mod_eq_of_lt h
theorem wn_neg (x : Int64) : x < 0 ↔ 9223372036854775808 ≤ uN x := by
  have h := uN_lt x
  have h0 : (0 : Int64).toInt = 0 := by decide
  rw [Int64.lt_iff_toInt_lt, h0, uN_int]
  split <;> omega
theorem wn_shl (x : Int64) {k : Nat} (hk : k < 64) : uN (x <<< ((nI k).toInt64 &&& 63)) = uN x * 2 ^ k % 18446744073709551616 := by
  have h : (((nI k).toInt64 &&& 63).toBitVec.smod 64).toNat = k := by
    rw [wb_c k hk, wb_tb, wb_sm k hk, BitVec.toNat_ofNat, Nat.mod_eq_of_lt (by omega)]
  show (x.toBitVec <<< (((nI k).toInt64 &&& 63).toBitVec.smod 64).toNat).toNat = _
  rw [h, BitVec.toNat_shiftLeft, Nat.shiftLeft_eq]
  rfl
/-! the upper half of a product by four products -/
theorem wn_mul4 (p q r s : Nat) : (s * 18446744073709551616 + (q + r) * 4294967296 + p) / 18446744073709551616 = s + q / 4294967296 + r / 4294967296 + (p / 4294967296 + q % 4294967296 + r % 4294967296) / 4294967296 := by
  omega
theorem wn_ring (c d ah al bh bl : Nat) (hd : d = c * c) : (c * ah + al) * (c * bh + bl) = ah * bh * d + (al * bh + ah * bl) * c + al * bl := by
  subst hd
  grind
theorem wn_prod (a b : Nat) : a * b = a / 4294967296 * (b / 4294967296) * 18446744073709551616 + (a % 4294967296 * (b / 4294967296) + a / 4294967296 * (b % 4294967296)) * 4294967296 + a % 4294967296 * (b % 4294967296) := by
  have h := wn_ring 4294967296 18446744073709551616 (a / 4294967296) (a % 4294967296) (b / 4294967296) (b % 4294967296) (by decide)
  rw [Nat.div_add_mod, Nat.div_add_mod] at h
  exact h
theorem wn_pb {a b : Nat} (ha : a < 4294967296) (hb : b < 4294967296) : a * b ≤ 18446744065119617025 := by
  have h : a * b ≤ 4294967295 * 4294967295 := Nat.mul_le_mul (by omega) (by omega)
  omega
theorem wn_big {a b : Nat} (ha : a < 18446744073709551616) (hb : b < 18446744073709551616) : a * b / 18446744073709551616 < 18446744073709551616 := by
  have h : a * b ≤ 18446744073709551615 * 18446744073709551615 := Nat.mul_le_mul (by omega) (by omega)
  omega
theorem wn_fin {p q r s t : Nat} (hp : p ≤ 18446744065119617025) (hq : q ≤ 18446744065119617025) (hr : r ≤ 18446744065119617025) (ht : t = s + q / 4294967296 + r / 4294967296 + (p / 4294967296 + q % 4294967296 + r % 4294967296) / 4294967296) (hb : t < 18446744073709551616) :
    (((s % 18446744073709551616 + q / 4294967296) % 18446744073709551616 + r / 4294967296) % 18446744073709551616 + ((p / 4294967296 + q % 4294967296) % 18446744073709551616 + r % 4294967296) % 18446744073709551616 / 4294967296) % 18446744073709551616 = t := by
  have e1 : p / 4294967296 + q % 4294967296 < 18446744073709551616 := by omega
  rw [Nat.mod_eq_of_lt e1]
  have e2 : p / 4294967296 + q % 4294967296 + r % 4294967296 < 18446744073709551616 := by omega
  rw [Nat.mod_eq_of_lt e2]
  generalize (p / 4294967296 + q % 4294967296 + r % 4294967296) / 4294967296 = m at *
  generalize q / 4294967296 = q1 at *
  generalize r / 4294967296 = r1 at *
  have e3 : s < 18446744073709551616 := by omega
  have e4 : s + q1 < 18446744073709551616 := by omega
  have e5 : s + q1 + r1 < 18446744073709551616 := by omega
  rw [Nat.mod_eq_of_lt e3, Nat.mod_eq_of_lt e4, Nat.mod_eq_of_lt e5, ← ht, Nat.mod_eq_of_lt hb]
/-- the upper 64 bits of the unsigned product -/
def wn_up (x y : Int64) : Int64 := lN (uN x * uN y / 18446744073709551616)
theorem wn_upX {x y xl xh yl yh lh hl md : Int64} (h1 : uN xl = uN x % 4294967296) (h2 : uN xh = uN x / 4294967296) (h3 : uN yl = uN y % 4294967296) (h4 : uN yh = uN y / 4294967296)
    (h5 : lh = xl * yh) (h6 : hl = xh * yl)
    (h7 : uN md = ((uN (xl * yl) / 4294967296 + uN lh % 4294967296) % 18446744073709551616 + uN hl % 4294967296) % 18446744073709551616) :
    (((uN (xh * yh) + uN lh / 4294967296) % 18446744073709551616 + uN hl / 4294967296) % 18446744073709551616 + uN md / 4294967296) % 18446744073709551616 = uN (wn_up x y) := by
  have hx := uN_lt x
  have hy := uN_lt y
  have b1 : uN xl < 4294967296 := by omega
  have b2 : uN xh < 4294967296 := by omega
  have b3 : uN yl < 4294967296 := by omega
  have b4 : uN yh < 4294967296 := by omega
  have c1 := wn_pb b1 b3
  have c2 := wn_pb b1 b4
  have c3 := wn_pb b2 b3
  have d2 : uN lh = uN xl * uN yh := by rw [h5, uN_mul]; exact Nat.mod_eq_of_lt (by omega)
  have d3 : uN hl = uN xh * uN yl := by rw [h6, uN_mul]; exact Nat.mod_eq_of_lt (by omega)
  have d1 : uN (xl * yl) = uN xl * uN yl := by rw [uN_mul]; exact Nat.mod_eq_of_lt (by omega)
  have hb := wn_big hx hy
  unfold wn_up
  rw [wn_uN hb, h7, d1, uN_mul, d2, d3]
  refine wn_fin c1 c2 c3 ?_ hb
  rw [wn_prod (uN x) (uN y), ← h1, ← h2, ← h3, ← h4]
  exact wn_mul4 _ _ _ _
/-! the upper half of a product by 64 turns of shift and add -/
theorem wn_c1 (M H L ph pl : Nat) : (H + ph) * M + (L + pl) = H * M + L + (M * ph + pl) := by
  rw [Nat.add_mul, Nat.mul_comm M ph]
  omega
theorem wn_c2 (M H L ph pl : Nat) (c : M ≤ L + pl) : (H + ph + 1) * M + (L + pl - M) = H * M + L + (M * ph + pl) := by
  rw [Nat.add_mul, Nat.add_mul, Nat.one_mul, Nat.mul_comm M ph]
  omega
theorem wn_carry {H L P T : Nat} (hL : L < 18446744073709551616) (hT : H * 18446744073709551616 + L = T) (hB : T + P < 340282366920938463463374607431768211456) :
    ((L + P % 18446744073709551616) % 18446744073709551616 < P % 18446744073709551616 → ((H + P / 18446744073709551616) % 18446744073709551616 + 1) % 18446744073709551616 * 18446744073709551616 + (L + P % 18446744073709551616) % 18446744073709551616 = T + P) ∧
    (¬ (L + P % 18446744073709551616) % 18446744073709551616 < P % 18446744073709551616 → (H + P / 18446744073709551616) % 18446744073709551616 * 18446744073709551616 + (L + P % 18446744073709551616) % 18446744073709551616 = T + P) := by
  have hd := Nat.div_add_mod P 18446744073709551616
  have hm := Nat.mod_lt P (show 0 < 18446744073709551616 by decide)
  generalize P / 18446744073709551616 = ph at *
  generalize P % 18446744073709551616 = pl at *
  rcases Nat.lt_or_ge (L + pl) 18446744073709551616 with c | c
  · have e : (L + pl) % 18446744073709551616 = L + pl := Nat.mod_eq_of_lt c
    have f : (H + ph) % 18446744073709551616 = H + ph := Nat.mod_eq_of_lt (by omega)
    rw [e, f]
    refine ⟨fun z => absurd z (Nat.not_lt.mpr (Nat.le_add_left pl L)), fun _ => ?_⟩
    rw [← hT, ← hd]
    exact wn_c1 _ _ _ _ _
  · have lt : L + pl - 18446744073709551616 < pl := by omega
    have e : (L + pl) % 18446744073709551616 = L + pl - 18446744073709551616 := by omega
    have f : (H + ph) % 18446744073709551616 = H + ph := Nat.mod_eq_of_lt (by omega)
    have g : (H + ph + 1) % 18446744073709551616 = H + ph + 1 := Nat.mod_eq_of_lt (by omega)
    rw [e, f, g]
    refine ⟨fun _ => ?_, fun z => absurd lt z⟩
    rw [← hT, ← hd]
    exact wn_c2 _ _ _ _ _ c
/-- before turn b: the two halves hold the product by the lowest b bits of y -/
def wn_Up (x y : Int64) (b : Nat) (hi lo : Int64) : Prop := uN hi * 18446744073709551616 + uN lo = uN x * (uN y % 2 ^ b)
theorem wn_Up0 (x y : Int64) : wn_Up x y 0 0 0 := by
  have e : uN 0 = 0 := rfl
  have e2 : uN x * (uN y % 2 ^ 0) = 0 := by rw [Nat.pow_zero, Nat.mod_one, Nat.mul_zero]
  unfold wn_Up
  rw [e2, e, Nat.zero_mul, Nat.zero_add]
theorem wn_UpE {x y hi lo : Int64} (h : wn_Up x y 64 hi lo) : hi = wn_up x y := by
  apply uN_inj
  have hl := uN_lt lo
  have hx := uN_lt x
  have hy := uN_lt y
  unfold wn_Up at h
  rw [show (2 : Nat) ^ 64 = 18446744073709551616 from rfl, Nat.mod_eq_of_lt hy] at h
  unfold wn_up
  rw [wn_uN (wn_big hx hy), ← h]
  omega
theorem wn_UpS {x y hi lo : Int64} {b : Nat} (h : wn_Up x y b hi lo) (hz : uN y / 2 ^ b % 2 = 0) : wn_Up x y (b + 1) hi lo := by
  unfold wn_Up at h ⊢
  rw [Nat.mod_pow_succ, hz, Nat.mul_zero, Nat.add_zero, h]
theorem wn_UpT {x y hi lo : Int64} {b : Nat} (h : wn_Up x y b hi lo) (hz : ¬ uN y / 2 ^ b % 2 = 0) {part lo' hi' : Int64} (hp : uN part = uN x * 2 ^ b % 18446744073709551616) (hl : uN lo' = (uN lo + uN part) % 18446744073709551616) (hh : uN hi' = (uN hi + uN x * 2 ^ b / 18446744073709551616) % 18446744073709551616) :
    (uN lo' < uN part → wn_Up x y (b + 1) (hi' + 1) lo') ∧ (¬ uN lo' < uN part → wn_Up x y (b + 1) hi' lo') := by
  have h1 : uN y / 2 ^ b % 2 = 1 := by omega
  have hx := uN_lt x
  have hy := uN_lt y
  have e : uN x * (uN y % 2 ^ (b + 1)) = uN x * (uN y % 2 ^ b) + uN x * 2 ^ b := by rw [Nat.mod_pow_succ, h1, Nat.mul_one, Nat.mul_add]
  have hB : uN x * (uN y % 2 ^ b) + uN x * 2 ^ b < 340282366920938463463374607431768211456 := by
    rw [← e]
    have h2 : uN y % 2 ^ (b + 1) ≤ uN y := Nat.mod_le _ _
    have h3 : uN x * (uN y % 2 ^ (b + 1)) ≤ 18446744073709551615 * 18446744073709551615 := Nat.mul_le_mul (by omega) (by omega)
    omega
  have c := wn_carry (uN_lt lo) h hB
  unfold wn_Up
  rw [e, uN_add, hh, hl, hp]
  exact c
theorem wn_hi (x : Int64) {b : Nat} (h0 : 0 < b) (h : b < 64) : uN (x.toUInt64 >>> ((nI (64 - b)).toInt64.toUInt64 &&& Int64.toUInt64 63)).toInt64 = uN x * 2 ^ b / 18446744073709551616 := by
  have e := Nat.pow_add 2 (64 - b) b
  rw [show 64 - b + b = 64 by omega] at e
  have e2 : (18446744073709551616 : Nat) = 2 ^ (64 - b) * 2 ^ b := e
  rw [uN_sk x (by omega), e2, Nat.mul_div_mul_right _ _ (Nat.two_pow_pos b)]
/-! leading zeros -/
theorem wn_clzN (X : Nat) {z : Nat} (hz : z < 64) : 9223372036854775808 ≤ X * 2 ^ z % 18446744073709551616 ↔ ¬ X / 2 ^ (63 - z) % 2 = 0 := by
  have e1 := Nat.pow_add 2 (63 - z + 1) z
  rw [show 63 - z + 1 + z = 64 by omega] at e1
  have e1 : (18446744073709551616 : Nat) = 2 ^ (63 - z + 1) * 2 ^ z := e1
  have e2 := Nat.pow_add 2 (63 - z) z
  rw [show 63 - z + z = 63 by omega] at e2
  have e2 : (9223372036854775808 : Nat) = 2 ^ (63 - z) * 2 ^ z := e2
  have m1 : X * 2 ^ z % 18446744073709551616 = (X % 2 ^ (63 - z) + 2 ^ (63 - z) * (X / 2 ^ (63 - z) % 2)) * 2 ^ z := by rw [e1, Nat.mul_mod_mul_right, Nat.mod_pow_succ]
  have h1 := Nat.mod_lt X (Nat.two_pow_pos (63 - z))
  have hp := Nat.two_pow_pos z
  rw [m1, e2]
  generalize 2 ^ (63 - z) = w at *
  generalize 2 ^ z = v at *
  have h2 : X / w % 2 = 0 ∨ X / w % 2 = 1 := by omega
  rcases h2 with h2 | h2
  · rw [h2, Nat.mul_zero, Nat.add_zero]
    exact ⟨fun h => absurd (Nat.le_of_mul_le_mul_right h hp) (by omega), fun h => absurd rfl h⟩
  · rw [h2, Nat.mul_one]
    exact ⟨fun _ => Nat.one_ne_zero, fun _ => Nat.mul_le_mul_right _ (by omega)⟩
theorem wn_clz (x : Int64) {z : Nat} (hz : z < 64) : (x <<< ((nI z).toInt64 &&& 63)) < 0 ↔ ¬ ((x.toUInt64 >>> ((nI (63 - z)).toInt64.toUInt64 &&& Int64.toUInt64 63)).toInt64 &&& 1) = 0 := by
  rw [wn_neg, wn_shl x hz, uN_bit, uN_sk x (by omega)]
  exact wn_clzN _ hz
/-! the root's trial -/
theorem wn_two {g i : Nat} : g * 2 ^ (i + 1) = 2 * g * 2 ^ i := by
  have ps : (2 : Nat) ^ (i + 1) = 2 ^ i * 2 := Nat.pow_succ ..
  rw [ps, Nat.mul_comm (2 ^ i) 2, ← Nat.mul_assoc, Nat.mul_comm g 2]
theorem wn_or {g i : Nat} (hi : i < 32) (hb : (g + 1) * 2 ^ (i + 1) ≤ 4294967296) : lN (g * 2 ^ (i + 1)) ||| ((1 : Int64) <<< ((nI i).toInt64 &&& 63)) = lN ((2 * g + 1) * 2 ^ i) := by
  have e : (1 : Int64) <<< ((nI i).toInt64 &&& 63) = lN (1 * 2 ^ i) := wb_shl 1 (by omega)
  have hp := Nat.two_pow_pos i
  have ps : (2 : Nat) ^ (i + 1) = 2 ^ i * 2 := Nat.pow_succ ..
  have h1 : 2 ^ i < 2 ^ (i + 1) := by rw [ps]; omega
  have h2 : g * 2 ^ (i + 1) + 2 ^ i < 2 ^ 64 := by
    rw [Nat.add_mul, Nat.one_mul] at hb
    exact Nat.lt_of_le_of_lt (Nat.le_trans (Nat.add_le_add_left (Nat.le_of_lt h1) _) hb) (by decide)
  rw [e, Nat.one_mul, g_or (k := i + 1) rfl h1 h2]
  exact congrArg lN (by rw [wn_two (g := g) (i := i), Nat.add_mul, Nat.one_mul])
theorem wn_mid {g i : Nat} (hb : (g + 1) * 2 ^ (i + 1) ≤ 4294967296) : (lN (g * 2 ^ (i + 1)) + lN ((g + 1) * 2 ^ (i + 1))) / 2 = lN ((2 * g + 1) * 2 ^ i) := by
  have ps : (2 : Nat) ^ (i + 1) = 2 ^ i * 2 := Nat.pow_succ ..
  have e0 : g + (g + 1) = 2 * g + 1 := by omega
  have e : g * 2 ^ (i + 1) + (g + 1) * 2 ^ (i + 1) = (2 * g + 1) * 2 ^ i * 2 := by rw [← Nat.add_mul, e0, ps, Nat.mul_assoc]
  have hg : g * 2 ^ (i + 1) ≤ (g + 1) * 2 ^ (i + 1) := Nat.mul_le_mul_right _ (by omega)
  have hs : g * 2 ^ (i + 1) + (g + 1) * 2 ^ (i + 1) < 2 ^ 63 := Nat.lt_of_le_of_lt (Nat.add_le_add (Nat.le_trans hg hb) hb) (by decide)
  have h2 : lN (g * 2 ^ (i + 1) + (g + 1) * 2 ^ (i + 1)) / lN 2 = lN ((g * 2 ^ (i + 1) + (g + 1) * 2 ^ (i + 1)) / 2) := pk_lDiv hs (by decide) (by decide)
  rw [lN_add]
  refine h2.trans (congrArg lN ?_)
  rw [e, Nat.mul_div_cancel _ (by decide)]
theorem wn_gap {g i : Nat} : lN ((g + 1) * 2 ^ i) - lN (g * 2 ^ i) = lN (2 ^ i) := by
  rw [lN_sub (Nat.mul_le_mul_right _ (by omega)), Nat.add_mul, Nat.one_mul, Nat.add_sub_cancel_left]
/-! division -/
theorem wn_dm (x : Int64) : x / (-1) = 0 - x := by
  apply Int64.toInt_inj.mp
  have h1 : (-1 : Int64).toInt = -1 := by decide
  have h0 : (0 : Int64).toInt = 0 := by decide
  rw [Int64.toInt_div, Int64.toInt_sub, h1, h0, Int.tdiv_neg, Int.tdiv_one, Int.zero_sub]
theorem wn_rm (x : Int64) : x - x / (-1) * (-1) = 0 := by
  rw [wn_dm]
  grind
/-- twice the quotient of half of x -/
def wn_q (x y : Int64) : Int64 := ((x.toUInt64 >>> ((1 : Int32).toInt64.toUInt64 &&& Int64.toUInt64 63)).toInt64 / y) <<< ((1 : Int32).toInt64 &&& 63)
/-- the unsigned quotient as both sides work it out -/
def wn_qu (x y : Int64) : Int64 := if y = 0 then -1 else if y < 0 then (if uN x < uN y then 0 else 1) else if uN (x - wn_q x y * y) < uN y then wn_q x y else wn_q x y + 1
theorem wn_10 {n : Nat} (h : n < 18446744073709551616) : wn_qu (lN n) 10 = lN (n / 10) := by
  have e1 : ((lN n).toUInt64 >>> ((1 : Int32).toInt64.toUInt64 &&& Int64.toUInt64 63)).toInt64 = lN (n / 2) := wb_shr (k := 1) h (by decide)
  have e2 : lN (n / 2) / 10 = lN (n / 2 / 10) := pk_lDiv (b := 10) (by omega) (by decide) (by decide)
  have e3 : lN (n / 2 / 10) <<< ((1 : Int32).toInt64 &&& 63) = lN (n / 2 / 10 * 2) := wb_shl (k := 1) _ (by decide)
  have e : wn_q (lN n) 10 = lN (n / 2 / 10 * 2) := by unfold wn_q; rw [e1, e2, e3]
  have e4 : lN n - lN (n / 2 / 10 * 2) * 10 = lN (n - n / 2 / 10 * 2 * 10) := by
    have e5 : lN (n / 2 / 10 * 2) * 10 = lN (n / 2 / 10 * 2 * 10) := lN_mul _ 10
    rw [e5, lN_sub (by omega)]
  have e6 : uN 10 = 10 := by decide
  unfold wn_qu
  rw [if_neg (by decide), if_neg (by decide), e, e4, wn_uN (by omega), e6]
  split
  · exact congrArg lN (by omega)
  · rw [lN_1]
    exact congrArg lN (by omega)
/-! turning -/
theorem wn_amt (y : Int64) : ∃ k : Nat, k < 64 ∧ (y &&& 63).toInt32 = nI k := by
  obtain ⟨n, hn, rfl⟩ := wb_of y
  refine ⟨n % 64, by omega, ?_⟩
  have e : lN n &&& 63 = lN (n % 64) := g_mask (s := 6) (p := 64) rfl (by decide) hn
  rw [e, lN_i]
theorem wn_r1 : ∀ k, k < 64 → 0 < k → ((64 : Int32) - nI k) &&& 63 = nI (64 - k) := by decide +kernel
theorem wn_r2 : ∀ k, k < 64 → (64 : Int32) - nI k = nI (64 - k) := by decide +kernel
theorem wn_r3 : ∀ k, k < 64 → (63 : Int32) - nI k = nI (63 - k) := by decide +kernel
theorem wn_sh0 (x : Int64) : x <<< ((0 : Int32).toInt64 &&& 63) = x := by
  obtain ⟨n, hn, rfl⟩ := wb_of x
  have e : lN n <<< ((0 : Int32).toInt64 &&& 63) = lN (n * 2 ^ 0) := wb_shl (k := 0) n (by decide)
  rw [e, Nat.pow_zero, Nat.mul_one]
theorem wn_us0 (x : Int64) : (x.toUInt64 >>> ((((64 : Int32) - 0) &&& 63).toInt64.toUInt64 &&& Int64.toUInt64 63)).toInt64 = x := by
  obtain ⟨n, hn, rfl⟩ := wb_of x
  have h : ((64 : Int32) - 0) &&& 63 = nI 0 := by decide
  rw [h, wb_shr hn (by decide), Nat.pow_zero, Nat.div_one]
