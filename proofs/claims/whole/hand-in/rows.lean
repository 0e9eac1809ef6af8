section
theorem pk_uLs {f : Nat → Int64} {k : Nat} {x : Int64} : vp_updL f k x k = x := if_pos rfl
theorem pk_uLn {f : Nat → Int64} {k j : Nat} {x : Int64} (h : j ≠ k) : vp_updL f k x j = f j := if_neg h
theorem pk_sub {a b : Nat} (h : b ≤ a) : nI a - nI b = nI (a - b) := by
  obtain ⟨c, rfl⟩ : ∃ c, a = c + b := ⟨a - b, by omega⟩
  rw [← nI_add, Int32.add_sub_cancel, Nat.add_sub_cancel]
theorem pk_m1 (n : Nat) : nI (n + 1) + (-1) = nI n := by
  rw [← nI_1, Int32.add_assoc, show (1 : Int32) + (-1) = 0 from rfl, Int32.add_zero]
theorem pk_mul (a b : Nat) : nI a * nI b = nI (a * b) := (Int32.ofNat_mul a b).symm
theorem pk_ix (x : Int32) {n : Nat} (hn : n < 2 ^ 31) : x < 0 ∨ nI n ≤ x ∨ ∃ j : Nat, j < n ∧ x = nI j := by
  by_cases h : x < 0
  · exact Or.inl h
  · obtain ⟨j, hj, rfl⟩ := nI_of h
    by_cases h2 : j < n
    · exact Or.inr (Or.inr ⟨j, h2, rfl⟩)
    · exact Or.inr (Or.inl (nI_le (by omega) hj))
theorem pk_le {x y : Int32} {A B : Prop} (a b : Nat) (f : a ≤ b → A) (g : b < a → B) (hx : x = nI a := by rfl) (hy : y = nI b := by rfl) (ha : a < 2 ^ 31 := by omega) (hb : b < 2 ^ 31 := by omega) : (x ≤ y → A) ∧ (¬ x ≤ y → B) := by
  subst hx hy
  rw [nI_leI ha hb]
  exact ⟨f, fun z => g (by omega)⟩
theorem pk_lt {x y : Int32} {A B : Prop} (a b : Nat) (f : a < b → A) (g : b ≤ a → B) (hx : x = nI a := by rfl) (hy : y = nI b := by rfl) (ha : a < 2 ^ 31 := by omega) (hb : b < 2 ^ 31 := by omega) : (x < y → A) ∧ (¬ x < y → B) := by
  subst hx hy
  rw [nI_ltI ha hb]
  exact ⟨f, fun z => g (by omega)⟩
theorem pk_eq {x y : Int32} {A B : Prop} (a b : Nat) (f : a = b → A) (g : a ≠ b → B) (hx : x = nI a := by rfl) (hy : y = nI b := by rfl) (ha : a < 2 ^ 31 := by omega) (hb : b < 2 ^ 31 := by omega) : (x = y → A) ∧ (¬ x = y → B) := by
  subst hx hy
  rw [nI_eq ha hb]
  exact ⟨f, g⟩
theorem pk_in {x : Int32} (n N : Nat) (h : n < N) (hx : x = nI n := by rfl) (hN : N < 2 ^ 31 := by omega) : vp_in x N := by
  subst hx
  exact vp_in_nI h hN
theorem pk_cl {x : Int32} (n : Nat) (hx : x = nI n := by rfl) (h : n < 2 ^ 31 := by omega) : x.toNatClampNeg = n := by
  subst hx
  exact nI_clamp h
theorem pk_tn {n : Nat} (h : n < 2 ^ 32) : (nI n).toBitVec.toNat = n := Nat.mod_eq_of_lt h
theorem pk_and (x : Int32) {m : Int32} (k : Nat) (hm : m.toBitVec.toNat = 2 ^ k - 1) : x &&& m = nI (x.toBitVec.toNat % 2 ^ k) := by
  apply Int32.toBitVec_inj.mp
  apply BitVec.eq_of_toNat_eq
  rw [Int32.toBitVec_and, BitVec.toNat_and, hm, Nat.and_two_pow_sub_one_eq_mod]
  show _ = (BitVec.ofNat 32 _).toNat
  rw [BitVec.toNat_ofNat]
  exact (Nat.mod_eq_of_lt (Nat.lt_of_le_of_lt (Nat.mod_le _ _) x.toBitVec.isLt)).symm
theorem pk_andN {n : Nat} (h : n < 2 ^ 32) {m : Int32} (k : Nat) (hm : m.toBitVec.toNat = 2 ^ k - 1) : nI n &&& m = nI (n % 2 ^ k) := by
  rw [pk_and _ k hm, pk_tn h]
theorem pk_andE (x : Int32) {m : Int32} (k : Nat) (hm : m.toBitVec.toNat = 2 ^ k - 1) : ∃ j : Nat, j < 2 ^ k ∧ x &&& m = nI j := ⟨_, Nat.mod_lt _ (Nat.two_pow_pos k), pk_and x k hm⟩
theorem pk_andIn (x : Int32) {m : Int32} (k : Nat) (hm : m.toBitVec.toNat = 2 ^ k - 1) (hk : k ≤ 30) : vp_in (x &&& m) (2 ^ k) := by
  obtain ⟨j, hj, e⟩ := pk_andE x k hm
  rw [e]
  exact vp_in_nI hj (Nat.lt_of_le_of_lt (Nat.pow_le_pow_right (by decide) hk) (by decide))
theorem pk_lT {n : Nat} (h : n < 2 ^ 63) : (lN n).toInt = (n : Int) := lg_ofNat_toInt h
theorem pk_lLT {a b : Nat} (ha : a < 2 ^ 63) (hb : b < 2 ^ 63) : lN a < lN b ↔ a < b := by
  rw [Int64.lt_iff_toInt_lt, pk_lT ha, pk_lT hb]; omega
theorem pk_lLE {a b : Nat} (ha : a < 2 ^ 63) (hb : b < 2 ^ 63) : lN a ≤ lN b ↔ a ≤ b := by
  rw [Int64.le_iff_toInt_le, pk_lT ha, pk_lT hb]; omega
theorem pk_lEQ {a b : Nat} (ha : a < 2 ^ 63) (hb : b < 2 ^ 63) : lN a = lN b ↔ a = b := by
  rw [← Int64.toInt_inj, pk_lT ha, pk_lT hb]; omega
theorem pk_lOf {x : Int64} (h : ¬ x < 0) : ∃ k : Nat, k < 2 ^ 63 ∧ x = lN k := by
  rw [Int64.lt_iff_toInt_lt] at h
  have h0 : (0 : Int64).toInt = 0 := by decide
  have hx := Int64.toInt_lt x
  refine ⟨x.toInt.toNat, by omega, Int64.toInt_inj.mp ?_⟩
  rw [pk_lT (by omega)]
  omega
theorem pk_lDiv {a b : Nat} (ha : a < 2 ^ 63) (h0 : 0 < b) (hb : b < 2 ^ 63) : lN a / lN b = lN (a / b) := by
  apply Int64.toInt_inj.mp
  rw [lg_ldiv_nonneg (by rw [pk_lT ha]; omega) (by rw [pk_lT hb]; omega), pk_lT ha, pk_lT hb, pk_lT (Nat.lt_of_le_of_lt (Nat.div_le_self a b) ha)]
  rfl
theorem pk_lRem {a b : Nat} (ha : a < 2 ^ 63) (h0 : 0 < b) (hb : b < 2 ^ 63) : lN a - lN a / lN b * lN b = lN (a % b) := by
  rw [pk_lDiv ha h0 hb, lN_mul, lN_sub (Nat.div_mul_le_self a b)]
  exact congrArg lN (by have := Nat.div_add_mod' a b; omega)
/-! ===== lN n to 2^64: shifts, and, or, masks, one bit ===== -/
theorem wb_tb (n : Nat) : (lN n).toBitVec = BitVec.ofNat 64 n := rfl
theorem wb_inj {a b : Int64} (h : a.toBitVec = b.toBitVec) : a = b := Int64.toBitVec_inj.mp h
theorem wb_tn {n : Nat} (h : n < 2 ^ 64) : (lN n).toBitVec.toNat = n := by rw [wb_tb, BitVec.toNat_ofNat, Nat.mod_eq_of_lt h]
theorem wb_of (x : Int64) : ∃ n, n < 2 ^ 64 ∧ x = lN n := ⟨x.toBitVec.toNat, x.toBitVec.isLt, wb_inj (by rw [wb_tb]; simp)⟩
theorem wb_of32 (x : Int32) : ∃ n, n < 2 ^ 32 ∧ x = nI n := ⟨x.toBitVec.toNat, x.toBitVec.isLt, Int32.toBitVec_inj.mp (by show _ = BitVec.ofNat 32 _; simp)⟩
theorem wb_c : ∀ k, k < 64 → ((nI k).toInt64 &&& 63) = lN k := by decide +kernel
theorem wb_cu : ∀ k, k < 64 → ((nI k).toInt64.toUInt64 &&& Int64.toUInt64 63) = UInt64.ofNat k := by decide +kernel
theorem wb_sm : ∀ k, k < 64 → (BitVec.ofNat 64 k).smod 64 = BitVec.ofNat 64 k := by decide +kernel
theorem wb_pw {a b : Nat} (h : a ≤ b) : 2 ^ b = 2 ^ a * 2 ^ (b - a) := by rw [← Nat.pow_add]; congr 1; omega
theorem wb_lt2 {a b : Nat} (h : a < b) : 2 ^ a < 2 ^ b := Nat.pow_lt_pow_right (by decide) h
theorem wb_mod (n : Nat) : lN n = lN (n % 2 ^ 64) := wb_inj (by rw [wb_tb, wb_tb]; apply BitVec.eq_of_toNat_eq; rw [BitVec.toNat_ofNat, BitVec.toNat_ofNat, Nat.mod_mod])
theorem wb_shr {n k : Nat} (hn : n < 2 ^ 64) (hk : k < 64) : ((lN n).toUInt64 >>> ((nI k).toInt64.toUInt64 &&& Int64.toUInt64 63)).toInt64 = lN (n / 2 ^ k) := by
  rw [wb_cu k hk]
  apply wb_inj
  apply BitVec.eq_of_toNat_eq
  show ((lN n).toUInt64 >>> UInt64.ofNat k).toNat = (BitVec.ofNat 64 _).toNat
  have h1 : (UInt64.ofNat k).toNat = k := by
    show (BitVec.ofNat 64 k).toNat = k
    rw [BitVec.toNat_ofNat, Nat.mod_eq_of_lt (by omega)]
  have h2 : (lN n).toUInt64.toNat = n := wb_tn hn
  rw [UInt64.toNat_shiftRight, h1, h2, Nat.mod_eq_of_lt hk, Nat.shiftRight_eq_div_pow, BitVec.toNat_ofNat, Nat.mod_eq_of_lt (Nat.lt_of_le_of_lt (Nat.div_le_self _ _) hn)]
theorem wb_shl (n : Nat) {k : Nat} (hk : k < 64) : lN n <<< ((nI k).toInt64 &&& 63) = lN (n * 2 ^ k) := by
  rw [wb_c k hk]
  apply wb_inj
  rw [Int64.toBitVec_shiftLeft, wb_tb, wb_tb, wb_tb, wb_sm k hk]
  apply BitVec.eq_of_toNat_eq
  rw [BitVec.shiftLeft_eq', BitVec.toNat_shiftLeft, BitVec.toNat_ofNat, BitVec.toNat_ofNat, BitVec.toNat_ofNat, Nat.mod_eq_of_lt (show k < 2 ^ 64 by omega), Nat.shiftLeft_eq, Nat.mul_mod, Nat.mod_mod, ← Nat.mul_mod]
theorem wb_and {a b : Nat} (ha : a < 2 ^ 64) (hb : b < 2 ^ 64) : lN a &&& lN b = lN (a &&& b) := by
  apply wb_inj
  rw [Int64.toBitVec_and, wb_tb, wb_tb, wb_tb]
  apply BitVec.eq_of_toNat_eq
  rw [BitVec.toNat_and, BitVec.toNat_ofNat, BitVec.toNat_ofNat, BitVec.toNat_ofNat, Nat.mod_eq_of_lt ha, Nat.mod_eq_of_lt hb, Nat.mod_eq_of_lt (Nat.and_lt_two_pow _ hb)]
theorem wb_or {a b : Nat} (ha : a < 2 ^ 64) (hb : b < 2 ^ 64) : lN a ||| lN b = lN (a ||| b) := by
  apply wb_inj
  rw [Int64.toBitVec_or, wb_tb, wb_tb, wb_tb]
  apply BitVec.eq_of_toNat_eq
  rw [BitVec.toNat_or, BitVec.toNat_ofNat, BitVec.toNat_ofNat, BitVec.toNat_ofNat, Nat.mod_eq_of_lt ha, Nat.mod_eq_of_lt hb, Nat.mod_eq_of_lt (Nat.or_lt_two_pow ha hb)]
theorem wb_mask {n k : Nat} (hn : n < 2 ^ 64) (hk : k < 64) : lN n &&& lN (2 ^ k - 1) = lN (n % 2 ^ k) := by
  rw [wb_and hn (by have := wb_lt2 hk; omega), Nat.and_two_pow_sub_one_eq_mod]
theorem wb_a1 {n : Nat} (hn : n < 2 ^ 64) : lN n &&& 1 = lN (n % 2) := wb_mask (k := 1) hn (by decide)
theorem wb_bit {n k : Nat} (hn : n < 2 ^ 64) (hk : k < 64) : ((lN n).toUInt64 >>> ((nI k).toInt64.toUInt64 &&& Int64.toUInt64 63)).toInt64 &&& 1 = lN (n / 2 ^ k % 2) := by
  rw [wb_shr hn hk, wb_a1 (Nat.lt_of_le_of_lt (Nat.div_le_self _ _) hn)]
theorem wb_xor {q k : Nat} (hk : k < 63) (h : 2 ^ k ≤ q) (h2 : q < 2 ^ (k + 1)) : lN q ^^^ lN (2 ^ k) = lN (q - 2 ^ k) := by
  obtain ⟨r, rfl⟩ : ∃ r, q = 2 ^ k + r := ⟨q - 2 ^ k, by omega⟩
  have hr : r < 2 ^ k := by rw [Nat.pow_succ] at h2; omega
  have hx : (2 ^ k + r) ^^^ 2 ^ k = r := by
    apply Nat.eq_of_testBit_eq
    intro i
    rw [Nat.testBit_xor, Nat.testBit_two_pow]
    rcases Nat.lt_trichotomy i k with h | h | h
    · rw [Nat.testBit_two_pow_add_gt h]
      simp [show ¬ k = i by omega]
    · subst h
      rw [Nat.testBit_two_pow_add_eq]
      simp
    · have a1 : 2 ^ (k + 1) ≤ 2 ^ i := Nat.pow_le_pow_right (by decide) h
      rw [Nat.testBit_lt_two_pow (show 2 ^ k + r < 2 ^ i by omega), Nat.testBit_lt_two_pow (show r < 2 ^ i by omega)]
      simp [show ¬ k = i by omega]
  have b1 := wb_lt2 (show k + 1 < 64 by omega)
  have b2 := wb_lt2 (show k < 64 by omega)
  apply wb_inj
  rw [Int64.toBitVec_xor, wb_tb, wb_tb, wb_tb]
  apply BitVec.eq_of_toNat_eq
  rw [BitVec.toNat_xor, BitVec.toNat_ofNat, BitVec.toNat_ofNat, BitVec.toNat_ofNat, Nat.mod_eq_of_lt (by omega : 2 ^ k + r < 2 ^ 64), Nat.mod_eq_of_lt b2, hx, Nat.add_sub_cancel_left, Nat.mod_eq_of_lt (by omega)]
/-! ===== lN: masks, 'or' of parts that don't overlap is a sum ===== -/
theorem u_tn {n : Nat} (h : n < 2 ^ 64) : (UInt64.ofNat n).toNat = n := Nat.mod_eq_of_lt h
theorem g_and {a b c : Nat} (ha : a < 2 ^ 64) (hb : b < 2 ^ 64) (hc : a &&& b = c) : lN a &&& lN b = lN c := by
  subst hc
  have h : UInt64.ofNat a &&& UInt64.ofNat b = UInt64.ofNat (a &&& b) := UInt64.toNat_inj.mp (by rw [UInt64.toNat_and, u_tn ha, u_tn hb, u_tn (Nat.and_lt_two_pow a hb)])
  have h2 := congrArg UInt64.toInt64 h
  exact h2
theorem g_and1 {a : Nat} (ha : a < 2 ^ 64) : lN a &&& 1 = lN (a % 2) := g_and (b := 1) ha (by decide) (Nat.and_two_pow_sub_one_eq_mod a 1)
theorem g_mask {a s p : Nat} (hp : 2 ^ s = p) (hs : s < 64) (ha : a < 2 ^ 64) : lN a &&& lN (p - 1) = lN (a % p) := by
  subst hp
  have := Nat.pow_lt_pow_right (show 1 < 2 by decide) hs
  exact g_and ha (by omega) (Nat.and_two_pow_sub_one_eq_mod a s)
theorem g_or {k p a b : Nat} (hp : 2 ^ k = p) (ha : a < p) (h : b * p + a < 2 ^ 64) : lN (b * p) ||| lN a = lN (b * p + a) := by
  subst hp
  have h1 : b * 2 ^ k ||| a = b * 2 ^ k + a := by rw [← Nat.shiftLeft_eq, Nat.shiftLeft_add_eq_or_of_lt ha]
  have h3 : UInt64.ofNat (b * 2 ^ k) ||| UInt64.ofNat a = UInt64.ofNat (b * 2 ^ k + a) := UInt64.toNat_inj.mp (by rw [UInt64.toNat_or, u_tn (by omega), u_tn (by omega), u_tn h, h1])
  have h2 := congrArg UInt64.toInt64 h3
  exact h2
theorem g_or' {k p a b : Nat} (hp : 2 ^ k = p) (ha : a < p) (h : a + b * p < 2 ^ 64) : lN a ||| lN (b * p) = lN (a + b * p) := by
  rw [Int64.or_comm, g_or hp ha (by omega), Nat.add_comm]
theorem g_ushr {a k p : Nat} {y : UInt64} (hy : y = UInt64.ofNat k) (hk : k < 64) (hp : 2 ^ k = p) (ha : a < 2 ^ 64) : ((lN a).toUInt64 >>> y).toInt64 = lN (a / p) := by
  subst hy hp
  have h : UInt64.ofNat a >>> UInt64.ofNat k = UInt64.ofNat (a / 2 ^ k) := UInt64.toNat_inj.mp (by rw [UInt64.toNat_shiftRight, u_tn ha, u_tn (by omega), u_tn (Nat.lt_of_le_of_lt (Nat.div_le_self _ _) ha), Nat.mod_eq_of_lt hk, Nat.shiftRight_eq_div_pow])
  have h2 := congrArg UInt64.toInt64 h
  exact h2
theorem g_shl {a k p : Nat} {y : Int64} (hy : y.toBitVec.smod 64 = BitVec.ofNat 64 k) (hk : k < 64) (hp : 2 ^ k = p) (ha : a < 2 ^ 64) : lN a <<< y = lN (a * p) := by
  subst hp
  apply Int64.toBitVec_inj.mp
  rw [Int64.toBitVec_shiftLeft, hy]
  apply BitVec.eq_of_toNat_eq
  have hb : (lN a).toBitVec.toNat = a := Nat.mod_eq_of_lt ha
  have hk' : (BitVec.ofNat 64 k).toNat = k := Nat.mod_eq_of_lt (by omega)
  have h : ((lN a).toBitVec <<< BitVec.ofNat 64 k).toNat = (a * 2 ^ k) % 2 ^ 64 := by simp only [BitVec.shiftLeft_eq', BitVec.toNat_shiftLeft, hb, hk', Nat.shiftLeft_eq]
  exact h
/-! ===== Int64 as an unsigned number: uN x ===== -/
def uN (x : Int64) : Nat := x.toUInt64.toNat
theorem uN_lt (x : Int64) : uN x < 18446744073709551616 := x.toUInt64.toNat_lt
theorem uN_inj {x y : Int64} (h : uN x = uN y) : x = y := congrArg UInt64.toInt64 (UInt64.toNat_inj.mp h)
theorem uN_add (x y : Int64) : uN (x + y) = (uN x + uN y) % 18446744073709551616 := by
  show (x.toUInt64 + y.toUInt64).toNat = _
  exact UInt64.toNat_add _ _
theorem uN_mul (x y : Int64) : uN (x * y) = (uN x * uN y) % 18446744073709551616 := by
  show (x.toUInt64 * y.toUInt64).toNat = _
  exact UInt64.toNat_mul _ _
theorem uN_shl (x : Int64) : uN (x <<< ((1 : Int32).toInt64 &&& 63)) = (2 * uN x) % 18446744073709551616 := by
  have h : (((1 : Int32).toInt64 &&& 63).toBitVec.smod 64).toNat = 1 := by decide
  show (x.toBitVec <<< (((1 : Int32).toInt64 &&& 63).toBitVec.smod 64).toNat).toNat = _
  rw [h, BitVec.toNat_shiftLeft, Nat.shiftLeft_eq, Nat.mul_comm]
  rfl
theorem uN_shr (x : Int64) (s : UInt64) : uN (x.toUInt64 >>> s).toInt64 = uN x / 2 ^ (s.toNat % 64) := by
  show (x.toUInt64 >>> s).toNat = _
  rw [UInt64.toNat_shiftRight, Nat.shiftRight_eq_div_pow]
  rfl
theorem uN_s32 (x : Int64) : uN (x.toUInt64 >>> ((32 : Int32).toInt64.toUInt64 &&& Int64.toUInt64 63)).toInt64 = uN x / 4294967296 := by
  have h : ((32 : Int32).toInt64.toUInt64 &&& Int64.toUInt64 63).toNat % 64 = 32 := by decide
  rw [uN_shr, h]
theorem uN_s63 (x : Int64) : uN (x.toUInt64 >>> ((63 : Int32).toInt64.toUInt64 &&& Int64.toUInt64 63)).toInt64 = uN x / 9223372036854775808 := by
  have h : ((63 : Int32).toInt64.toUInt64 &&& Int64.toUInt64 63).toNat % 64 = 63 := by decide
  rw [uN_shr, h]
theorem uN_lo (x : Int64) : uN (x &&& 4294967295) = uN x % 4294967296 := by
  show (x.toUInt64 &&& Int64.toUInt64 4294967295).toNat = _
  rw [UInt64.toNat_and]
  exact Nat.and_two_pow_sub_one_eq_mod _ 32
theorem uN_bit (x : Int64) : (x &&& 1) = 0 ↔ uN x % 2 = 0 := by
  have h : uN (x &&& 1) = uN x % 2 := by
    show (x.toUInt64 &&& Int64.toUInt64 1).toNat = _
    rw [UInt64.toNat_and]
    exact Nat.and_two_pow_sub_one_eq_mod _ 1
  rw [← h]
  exact ⟨fun z => by rw [z]; rfl, fun z => uN_inj (z.trans rfl)⟩
theorem uN_or {x y : Int64} (hy : uN y < 2) : uN ((x <<< ((1 : Int32).toInt64 &&& 63)) ||| y) = (2 * uN x) % 18446744073709551616 + uN y := by
  have h1 : uN ((x <<< ((1 : Int32).toInt64 &&& 63)) ||| y) = uN (x <<< ((1 : Int32).toInt64 &&& 63)) ||| uN y := UInt64.toNat_or _ _
  have h2 : (2 * uN x) % 18446744073709551616 = 2 ^ 1 * (uN x % 9223372036854775808) := by omega
  rw [h1, uN_shl, h2]
  exact (Nat.two_pow_add_eq_or_of_lt (i := 1) hy _).symm
theorem nat_xor {a : Nat} (h : a < 18446744073709551616) : a ^^^ 2 ^ 63 = (a + 9223372036854775808) % 18446744073709551616 := by
  have h1 : (a ^^^ 2 ^ 63) % 2 ^ 63 = a % 2 ^ 63 := by rw [Nat.xor_mod_two_pow, Nat.mod_self, Nat.xor_zero]
  have h2 : (a ^^^ 2 ^ 63) / 2 ^ 63 = (a / 2 ^ 63) ^^^ 1 := by rw [Nat.xor_div_two_pow, Nat.div_self (Nat.two_pow_pos 63)]
  have h3 : a / 2 ^ 63 = 0 ∨ a / 2 ^ 63 = 1 := by omega
  generalize a ^^^ 2 ^ 63 = t at h1 h2
  rcases h3 with h3 | h3
  · rw [h3] at h2
    have h2 : t / 2 ^ 63 = 1 := h2
    omega
  · rw [h3] at h2
    have h2 : t / 2 ^ 63 = 0 := h2
    omega
theorem uN_xor (x : Int64) : uN (x ^^^ (-9223372036854775808)) = (uN x + 9223372036854775808) % 18446744073709551616 := by
  rw [← nat_xor (uN_lt x)]
  exact UInt64.toNat_xor _ _
theorem uN_int (x : Int64) : x.toInt = if 2 * uN x < 18446744073709551616 then (uN x : Int) else (uN x : Int) - 18446744073709551616 := BitVec.toInt_eq_toNat_cond _
theorem uN_le (x y : Int64) : (x ^^^ (-9223372036854775808)) ≤ (y ^^^ (-9223372036854775808)) ↔ uN x ≤ uN y := by
  have hx := uN_lt x
  have hy := uN_lt y
  rw [Int64.le_iff_toInt_le, uN_int, uN_int, uN_xor, uN_xor]
  omega
theorem uN_sk (x : Int64) {k : Nat} (hk : k < 64) : uN (x.toUInt64 >>> ((nI k).toInt64.toUInt64 &&& Int64.toUInt64 63)).toInt64 = uN x / 2 ^ k := by
  have h : ((nI k).toInt64.toUInt64 &&& Int64.toUInt64 63).toNat % 64 = k := by
    rw [nI_l (by omega), UInt64.toNat_and]
    have e : (lN k).toUInt64.toNat = k % 2 ^ 64 := rfl
    have e2 : (Int64.toUInt64 63).toNat = 2 ^ 6 - 1 := by decide
    rw [e, e2, Nat.and_two_pow_sub_one_eq_mod]
    omega
  rw [uN_shr, h]
end
section
/-! pure rows: unsigned order, shifts, the upper half of a product, leading zeros, the root's trial, division by ten and by -1, turning -/
theorem wn_lt (x y : Int64) : (x ^^^ (-9223372036854775808)) < (y ^^^ (-9223372036854775808)) ↔ uN x < uN y := by
  rw [← Int64.not_le, uN_le]
  omega
theorem wn_uN {n : Nat} (h : n < 18446744073709551616) : uN (lN n) = n := Nat.mod_eq_of_lt h
theorem wn_neg (x : Int64) : x < 0 ↔ 9223372036854775808 ≤ uN x := by
  have h := uN_lt x
  have h0 : (0 : Int64).toInt = 0 := by decide
  rw [Int64.lt_iff_toInt_lt, h0, uN_int]
  split <;> omega
theorem wn_shl (x : Int64) {k : Nat} (hk : k < 64) : uN (x <<< ((nI k).toInt64 &&& 63)) = uN x * 2 ^ k % 18446744073709551616 := by
  have h : (((nI k).toInt64 &&& 63).toBitVec.smod 64).toNat = k := by
    rw [wb_c k hk, wb_tb, wb_sm k hk, BitVec.toNat_ofNat, Nat.mod_eq_of_lt (by omega)]
  show (x.toBitVec <<< (((nI k).toInt64 &&& 63).toBitVec.smod 64).toNat).toNat = _
  rw [h, BitVec.toNat_shiftLeft, Nat.shiftLeft_eq]
  rfl
/-! the upper half of a product by four products -/
theorem wn_mul4 (p q r s : Nat) : (s * 18446744073709551616 + (q + r) * 4294967296 + p) / 18446744073709551616 = s + q / 4294967296 + r / 4294967296 + (p / 4294967296 + q % 4294967296 + r % 4294967296) / 4294967296 := by
  omega
theorem wn_ring (c d ah al bh bl : Nat) (hd : d = c * c) : (c * ah + al) * (c * bh + bl) = ah * bh * d + (al * bh + ah * bl) * c + al * bl := by
  subst hd
  grind
theorem wn_prod (a b : Nat) : a * b = a / 4294967296 * (b / 4294967296) * 18446744073709551616 + (a % 4294967296 * (b / 4294967296) + a / 4294967296 * (b % 4294967296)) * 4294967296 + a % 4294967296 * (b % 4294967296) := by
  have h := wn_ring 4294967296 18446744073709551616 (a / 4294967296) (a % 4294967296) (b / 4294967296) (b % 4294967296) (by decide)
  rw [Nat.div_add_mod, Nat.div_add_mod] at h
  exact h
theorem wn_pb {a b : Nat} (ha : a < 4294967296) (hb : b < 4294967296) : a * b ≤ 18446744065119617025 := by
  have h : a * b ≤ 4294967295 * 4294967295 := Nat.mul_le_mul (by omega) (by omega)
  omega
theorem wn_big {a b : Nat} (ha : a < 18446744073709551616) (hb : b < 18446744073709551616) : a * b / 18446744073709551616 < 18446744073709551616 := by
  have h : a * b ≤ 18446744073709551615 * 18446744073709551615 := Nat.mul_le_mul (by omega) (by omega)
  omega
theorem wn_fin {p q r s t : Nat} (hp : p ≤ 18446744065119617025) (hq : q ≤ 18446744065119617025) (hr : r ≤ 18446744065119617025) (ht : t = s + q / 4294967296 + r / 4294967296 + (p / 4294967296 + q % 4294967296 + r % 4294967296) / 4294967296) (hb : t < 18446744073709551616) :
    (((s % 18446744073709551616 + q / 4294967296) % 18446744073709551616 + r / 4294967296) % 18446744073709551616 + ((p / 4294967296 + q % 4294967296) % 18446744073709551616 + r % 4294967296) % 18446744073709551616 / 4294967296) % 18446744073709551616 = t := by
  have e1 : p / 4294967296 + q % 4294967296 < 18446744073709551616 := by omega
  rw [Nat.mod_eq_of_lt e1]
  have e2 : p / 4294967296 + q % 4294967296 + r % 4294967296 < 18446744073709551616 := by omega
  rw [Nat.mod_eq_of_lt e2]
  generalize (p / 4294967296 + q % 4294967296 + r % 4294967296) / 4294967296 = m at *
  generalize q / 4294967296 = q1 at *
  generalize r / 4294967296 = r1 at *
  have e3 : s < 18446744073709551616 := by omega
  have e4 : s + q1 < 18446744073709551616 := by omega
  have e5 : s + q1 + r1 < 18446744073709551616 := by omega
  rw [Nat.mod_eq_of_lt e3, Nat.mod_eq_of_lt e4, Nat.mod_eq_of_lt e5, ← ht, Nat.mod_eq_of_lt hb]
/-- the upper 64 bits of the unsigned product -/
def wn_up (x y : Int64) : Int64 := lN (uN x * uN y / 18446744073709551616)
theorem wn_upX {x y xl xh yl yh lh hl md : Int64} (h1 : uN xl = uN x % 4294967296) (h2 : uN xh = uN x / 4294967296) (h3 : uN yl = uN y % 4294967296) (h4 : uN yh = uN y / 4294967296)
    (h5 : lh = xl * yh) (h6 : hl = xh * yl)
    (h7 : uN md = ((uN (xl * yl) / 4294967296 + uN lh % 4294967296) % 18446744073709551616 + uN hl % 4294967296) % 18446744073709551616) :
    (((uN (xh * yh) + uN lh / 4294967296) % 18446744073709551616 + uN hl / 4294967296) % 18446744073709551616 + uN md / 4294967296) % 18446744073709551616 = uN (wn_up x y) := by
  have hx := uN_lt x
  have hy := uN_lt y
  have b1 : uN xl < 4294967296 := by omega
  have b2 : uN xh < 4294967296 := by omega
  have b3 : uN yl < 4294967296 := by omega
  have b4 : uN yh < 4294967296 := by omega
  have c1 := wn_pb b1 b3
  have c2 := wn_pb b1 b4
  have c3 := wn_pb b2 b3
  have d2 : uN lh = uN xl * uN yh := by rw [h5, uN_mul]; exact Nat.mod_eq_of_lt (by omega)
  have d3 : uN hl = uN xh * uN yl := by rw [h6, uN_mul]; exact Nat.mod_eq_of_lt (by omega)
  have d1 : uN (xl * yl) = uN xl * uN yl := by rw [uN_mul]; exact Nat.mod_eq_of_lt (by omega)
  have hb := wn_big hx hy
  unfold wn_up
  rw [wn_uN hb, h7, d1, uN_mul, d2, d3]
  refine wn_fin c1 c2 c3 ?_ hb
  rw [wn_prod (uN x) (uN y), ← h1, ← h2, ← h3, ← h4]
  exact wn_mul4 _ _ _ _
/-! the upper half of a product by 64 turns of shift and add -/
theorem wn_c1 (M H L ph pl : Nat) : (H + ph) * M + (L + pl) = H * M + L + (M * ph + pl) := by
  rw [Nat.add_mul, Nat.mul_comm M ph]
  omega
theorem wn_c2 (M H L ph pl : Nat) (c : M ≤ L + pl) : (H + ph + 1) * M + (L + pl - M) = H * M + L + (M * ph + pl) := by
  rw [Nat.add_mul, Nat.add_mul, Nat.one_mul, Nat.mul_comm M ph]
  omega
theorem wn_carry {H L P T : Nat} (hL : L < 18446744073709551616) (hT : H * 18446744073709551616 + L = T) (hB : T + P < 340282366920938463463374607431768211456) :
    ((L + P % 18446744073709551616) % 18446744073709551616 < P % 18446744073709551616 → ((H + P / 18446744073709551616) % 18446744073709551616 + 1) % 18446744073709551616 * 18446744073709551616 + (L + P % 18446744073709551616) % 18446744073709551616 = T + P) ∧
    (¬ (L + P % 18446744073709551616) % 18446744073709551616 < P % 18446744073709551616 → (H + P / 18446744073709551616) % 18446744073709551616 * 18446744073709551616 + (L + P % 18446744073709551616) % 18446744073709551616 = T + P) := by
  have hd := Nat.div_add_mod P 18446744073709551616
  have hm := Nat.mod_lt P (show 0 < 18446744073709551616 by decide)
  generalize P / 18446744073709551616 = ph at *
  generalize P % 18446744073709551616 = pl at *
  rcases Nat.lt_or_ge (L + pl) 18446744073709551616 with c | c
  · have e : (L + pl) % 18446744073709551616 = L + pl := Nat.mod_eq_of_lt c
    have f : (H + ph) % 18446744073709551616 = H + ph := Nat.mod_eq_of_lt (by omega)
    rw [e, f]
    refine ⟨fun z => absurd z (Nat.not_lt.mpr (Nat.le_add_left pl L)), fun _ => ?_⟩
    rw [← hT, ← hd]
    exact wn_c1 _ _ _ _ _
  · have lt : L + pl - 18446744073709551616 < pl := by omega
    have e : (L + pl) % 18446744073709551616 = L + pl - 18446744073709551616 := by omega
    have f : (H + ph) % 18446744073709551616 = H + ph := Nat.mod_eq_of_lt (by omega)
    have g : (H + ph + 1) % 18446744073709551616 = H + ph + 1 := Nat.mod_eq_of_lt (by omega)
    rw [e, f, g]
    refine ⟨fun _ => ?_, fun z => absurd lt z⟩
    rw [← hT, ← hd]
    exact wn_c2 _ _ _ _ _ c
/-- before turn b: the two halves hold the product by the lowest b bits of y -/
def wn_Up (x y : Int64) (b : Nat) (hi lo : Int64) : Prop := uN hi * 18446744073709551616 + uN lo = uN x * (uN y % 2 ^ b)
theorem wn_Up0 (x y : Int64) : wn_Up x y 0 0 0 := by
  have e : uN 0 = 0 := rfl
  have e2 : uN x * (uN y % 2 ^ 0) = 0 := by rw [Nat.pow_zero, Nat.mod_one, Nat.mul_zero]
  unfold wn_Up
  rw [e2, e, Nat.zero_mul, Nat.zero_add]
theorem wn_UpE {x y hi lo : Int64} (h : wn_Up x y 64 hi lo) : hi = wn_up x y := by
  apply uN_inj
  have hl := uN_lt lo
  have hx := uN_lt x
  have hy := uN_lt y
  unfold wn_Up at h
  rw [show (2 : Nat) ^ 64 = 18446744073709551616 from rfl, Nat.mod_eq_of_lt hy] at h
  unfold wn_up
  rw [wn_uN (wn_big hx hy), ← h]
  omega
theorem wn_UpS {x y hi lo : Int64} {b : Nat} (h : wn_Up x y b hi lo) (hz : uN y / 2 ^ b % 2 = 0) : wn_Up x y (b + 1) hi lo := by
  unfold wn_Up at h ⊢
  rw [Nat.mod_pow_succ, hz, Nat.mul_zero, Nat.add_zero, h]
theorem wn_UpT {x y hi lo : Int64} {b : Nat} (h : wn_Up x y b hi lo) (hz : ¬ uN y / 2 ^ b % 2 = 0) {part lo' hi' : Int64} (hp : uN part = uN x * 2 ^ b % 18446744073709551616) (hl : uN lo' = (uN lo + uN part) % 18446744073709551616) (hh : uN hi' = (uN hi + uN x * 2 ^ b / 18446744073709551616) % 18446744073709551616) :
    (uN lo' < uN part → wn_Up x y (b + 1) (hi' + 1) lo') ∧ (¬ uN lo' < uN part → wn_Up x y (b + 1) hi' lo') := by
  have h1 : uN y / 2 ^ b % 2 = 1 := by omega
  have hx := uN_lt x
  have hy := uN_lt y
  have e : uN x * (uN y % 2 ^ (b + 1)) = uN x * (uN y % 2 ^ b) + uN x * 2 ^ b := by rw [Nat.mod_pow_succ, h1, Nat.mul_one, Nat.mul_add]
  have hB : uN x * (uN y % 2 ^ b) + uN x * 2 ^ b < 340282366920938463463374607431768211456 := by
    rw [← e]
    have h2 : uN y % 2 ^ (b + 1) ≤ uN y := Nat.mod_le _ _
    have h3 : uN x * (uN y % 2 ^ (b + 1)) ≤ 18446744073709551615 * 18446744073709551615 := Nat.mul_le_mul (by omega) (by omega)
    omega
  have c := wn_carry (uN_lt lo) h hB
  unfold wn_Up
  rw [e, uN_add, hh, hl, hp]
  exact c
theorem wn_hi (x : Int64) {b : Nat} (h0 : 0 < b) (h : b < 64) : uN (x.toUInt64 >>> ((nI (64 - b)).toInt64.toUInt64 &&& Int64.toUInt64 63)).toInt64 = uN x * 2 ^ b / 18446744073709551616 := by
  have e := Nat.pow_add 2 (64 - b) b
  rw [show 64 - b + b = 64 by omega] at e
  have e2 : (18446744073709551616 : Nat) = 2 ^ (64 - b) * 2 ^ b := e
  rw [uN_sk x (by omega), e2, Nat.mul_div_mul_right _ _ (Nat.two_pow_pos b)]
/-! leading zeros -/
theorem wn_clzN (X : Nat) {z : Nat} (hz : z < 64) : 9223372036854775808 ≤ X * 2 ^ z % 18446744073709551616 ↔ ¬ X / 2 ^ (63 - z) % 2 = 0 := by
  have e1 := Nat.pow_add 2 (63 - z + 1) z
  rw [show 63 - z + 1 + z = 64 by omega] at e1
  have e1 : (18446744073709551616 : Nat) = 2 ^ (63 - z + 1) * 2 ^ z := e1
  have e2 := Nat.pow_add 2 (63 - z) z
  rw [show 63 - z + z = 63 by omega] at e2
  have e2 : (9223372036854775808 : Nat) = 2 ^ (63 - z) * 2 ^ z := e2
  have m1 : X * 2 ^ z % 18446744073709551616 = (X % 2 ^ (63 - z) + 2 ^ (63 - z) * (X / 2 ^ (63 - z) % 2)) * 2 ^ z := by rw [e1, Nat.mul_mod_mul_right, Nat.mod_pow_succ]
  have h1 := Nat.mod_lt X (Nat.two_pow_pos (63 - z))
  have hp := Nat.two_pow_pos z
  rw [m1, e2]
  generalize 2 ^ (63 - z) = w at *
  generalize 2 ^ z = v at *
  have h2 : X / w % 2 = 0 ∨ X / w % 2 = 1 := by omega
  rcases h2 with h2 | h2
  · rw [h2, Nat.mul_zero, Nat.add_zero]
    exact ⟨fun h => absurd (Nat.le_of_mul_le_mul_right h hp) (by omega), fun h => absurd rfl h⟩
  · rw [h2, Nat.mul_one]
    exact ⟨fun _ => Nat.one_ne_zero, fun _ => Nat.mul_le_mul_right _ (by omega)⟩
theorem wn_clz (x : Int64) {z : Nat} (hz : z < 64) : (x <<< ((nI z).toInt64 &&& 63)) < 0 ↔ ¬ ((x.toUInt64 >>> ((nI (63 - z)).toInt64.toUInt64 &&& Int64.toUInt64 63)).toInt64 &&& 1) = 0 := by
  rw [wn_neg, wn_shl x hz, uN_bit, uN_sk x (by omega)]
  exact wn_clzN _ hz
/-! the root's trial -/
theorem wn_two {g i : Nat} : g * 2 ^ (i + 1) = 2 * g * 2 ^ i := by
  have ps : (2 : Nat) ^ (i + 1) = 2 ^ i * 2 := Nat.pow_succ ..
  rw [ps, Nat.mul_comm (2 ^ i) 2, ← Nat.mul_assoc, Nat.mul_comm g 2]
theorem wn_or {g i : Nat} (hi : i < 32) (hb : (g + 1) * 2 ^ (i + 1) ≤ 4294967296) : lN (g * 2 ^ (i + 1)) ||| ((1 : Int64) <<< ((nI i).toInt64 &&& 63)) = lN ((2 * g + 1) * 2 ^ i) := by
  have e : (1 : Int64) <<< ((nI i).toInt64 &&& 63) = lN (1 * 2 ^ i) := wb_shl 1 (by omega)
  have hp := Nat.two_pow_pos i
  have ps : (2 : Nat) ^ (i + 1) = 2 ^ i * 2 := Nat.pow_succ ..
  have h1 : 2 ^ i < 2 ^ (i + 1) := by rw [ps]; omega
  have h2 : g * 2 ^ (i + 1) + 2 ^ i < 2 ^ 64 := by
    rw [Nat.add_mul, Nat.one_mul] at hb
    exact Nat.lt_of_le_of_lt (Nat.le_trans (Nat.add_le_add_left (Nat.le_of_lt h1) _) hb) (by decide)
  rw [e, Nat.one_mul, g_or (k := i + 1) rfl h1 h2]
  exact congrArg lN (by rw [wn_two (g := g) (i := i), Nat.add_mul, Nat.one_mul])
theorem wn_mid {g i : Nat} (hb : (g + 1) * 2 ^ (i + 1) ≤ 4294967296) : (lN (g * 2 ^ (i + 1)) + lN ((g + 1) * 2 ^ (i + 1))) / 2 = lN ((2 * g + 1) * 2 ^ i) := by
  have ps : (2 : Nat) ^ (i + 1) = 2 ^ i * 2 := Nat.pow_succ ..
  have e0 : g + (g + 1) = 2 * g + 1 := by omega
  have e : g * 2 ^ (i + 1) + (g + 1) * 2 ^ (i + 1) = (2 * g + 1) * 2 ^ i * 2 := by rw [← Nat.add_mul, e0, ps, Nat.mul_assoc]
  have hg : g * 2 ^ (i + 1) ≤ (g + 1) * 2 ^ (i + 1) := Nat.mul_le_mul_right _ (by omega)
  have hs : g * 2 ^ (i + 1) + (g + 1) * 2 ^ (i + 1) < 2 ^ 63 := Nat.lt_of_le_of_lt (Nat.add_le_add (Nat.le_trans hg hb) hb) (by decide)
  have h2 : lN (g * 2 ^ (i + 1) + (g + 1) * 2 ^ (i + 1)) / lN 2 = lN ((g * 2 ^ (i + 1) + (g + 1) * 2 ^ (i + 1)) / 2) := pk_lDiv hs (by decide) (by decide)
  rw [lN_add]
  refine h2.trans (congrArg lN ?_)
  rw [e, Nat.mul_div_cancel _ (by decide)]
theorem wn_gap {g i : Nat} : lN ((g + 1) * 2 ^ i) - lN (g * 2 ^ i) = lN (2 ^ i) := by
  rw [lN_sub (Nat.mul_le_mul_right _ (by omega)), Nat.add_mul, Nat.one_mul, Nat.add_sub_cancel_left]
/-! division -/
theorem wn_dm (x : Int64) : x / (-1) = 0 - x := by
  apply Int64.toInt_inj.mp
  have h1 : (-1 : Int64).toInt = -1 := by decide
  have h0 : (0 : Int64).toInt = 0 := by decide
  rw [Int64.toInt_div, Int64.toInt_sub, h1, h0, Int.tdiv_neg, Int.tdiv_one, Int.zero_sub]
theorem wn_rm (x : Int64) : x - x / (-1) * (-1) = 0 := by
  rw [wn_dm]
  grind
/-- twice the quotient of half of x -/
def wn_q (x y : Int64) : Int64 := ((x.toUInt64 >>> ((1 : Int32).toInt64.toUInt64 &&& Int64.toUInt64 63)).toInt64 / y) <<< ((1 : Int32).toInt64 &&& 63)
/-- the unsigned quotient as both sides work it out -/
def wn_qu (x y : Int64) : Int64 := if y = 0 then -1 else if y < 0 then (if uN x < uN y then 0 else 1) else if uN (x - wn_q x y * y) < uN y then wn_q x y else wn_q x y + 1
theorem wn_10 {n : Nat} (h : n < 18446744073709551616) : wn_qu (lN n) 10 = lN (n / 10) := by
  have e1 : ((lN n).toUInt64 >>> ((1 : Int32).toInt64.toUInt64 &&& Int64.toUInt64 63)).toInt64 = lN (n / 2) := wb_shr (k := 1) h (by decide)
  have e2 : lN (n / 2) / 10 = lN (n / 2 / 10) := pk_lDiv (b := 10) (by omega) (by decide) (by decide)
  have e3 : lN (n / 2 / 10) <<< ((1 : Int32).toInt64 &&& 63) = lN (n / 2 / 10 * 2) := wb_shl (k := 1) _ (by decide)
  have e : wn_q (lN n) 10 = lN (n / 2 / 10 * 2) := by unfold wn_q; rw [e1, e2, e3]
  have e4 : lN n - lN (n / 2 / 10 * 2) * 10 = lN (n - n / 2 / 10 * 2 * 10) := by
    have e5 : lN (n / 2 / 10 * 2) * 10 = lN (n / 2 / 10 * 2 * 10) := lN_mul _ 10
    rw [e5, lN_sub (by omega)]
  have e6 : uN 10 = 10 := by decide
  unfold wn_qu
  rw [if_neg (by decide), if_neg (by decide), e, e4, wn_uN (by omega), e6]
  split
  · exact congrArg lN (by omega)
  · rw [lN_1]
    exact congrArg lN (by omega)
/-! turning -/
theorem wn_amt (y : Int64) : ∃ k : Nat, k < 64 ∧ (y &&& 63).toInt32 = nI k := by
  obtain ⟨n, hn, rfl⟩ := wb_of y
  refine ⟨n % 64, by omega, ?_⟩
  have e : lN n &&& 63 = lN (n % 64) := g_mask (s := 6) (p := 64) rfl (by decide) hn
  rw [e, lN_i]
theorem wn_r1 : ∀ k, k < 64 → 0 < k → ((64 : Int32) - nI k) &&& 63 = nI (64 - k) := by decide +kernel
theorem wn_r2 : ∀ k, k < 64 → (64 : Int32) - nI k = nI (64 - k) := by decide +kernel
theorem wn_r3 : ∀ k, k < 64 → (63 : Int32) - nI k = nI (63 - k) := by decide +kernel
theorem wn_sh0 (x : Int64) : x <<< ((0 : Int32).toInt64 &&& 63) = x := by
  obtain ⟨n, hn, rfl⟩ := wb_of x
  have e : lN n <<< ((0 : Int32).toInt64 &&& 63) = lN (n * 2 ^ 0) := wb_shl (k := 0) n (by decide)
  rw [e, Nat.pow_zero, Nat.mul_one]
theorem wn_us0 (x : Int64) : (x.toUInt64 >>> ((((64 : Int32) - 0) &&& 63).toInt64.toUInt64 &&& Int64.toUInt64 63)).toInt64 = x := by
  obtain ⟨n, hn, rfl⟩ := wb_of x
  have h : ((64 : Int32) - 0) &&& 63 = nI 0 := by decide
  rw [h, wb_shr hn (by decide), Nat.pow_zero, Nat.div_one]
end
section
/-! the walks of the private methods: a general post each -/
theorem wk_in {r : Int32} (h0 : ¬ r < 0) (h8 : ¬ 8 ≤ r) : vp_in r 8 := by
  obtain ⟨j, hj, rfl⟩ := nI_of h0
  rcases Nat.lt_or_ge j 8 with h | h
  · exact vp_in_nI h (by decide)
  · exact absurd (show (8 : Int32) ≤ nI j from nI_le (a := 8) h hj) h8
theorem wk_reg (r : Int32) : (vp_in r 8 ∧ (∀ post : Int32 → Prop, post 1 → wpX_isRegister post r) ∧ (∀ (post : Int32 → Prop) (a : SY), post 1 → wpY_isRegister post a r)) ∨ ((∀ post : Int32 → Prop, post 0 → wpX_isRegister post r) ∧ (∀ (post : Int32 → Prop) (a : SY), post 0 → wpY_isRegister post a r)) := by
  by_cases h0 : r < 0
  · exact Or.inr ⟨fun _ p => br_t h0 p, fun _ _ p => br_t h0 p⟩
  · by_cases h8 : 8 ≤ r
    · exact Or.inr ⟨fun _ p => br_f h0 (br_t h8 p), fun _ _ p => br_f h0 (br_t h8 p)⟩
    · exact Or.inl ⟨wk_in h0 h8, fun _ p => br_f h0 (br_f h8 p), fun _ _ p => br_f h0 (br_f h8 p)⟩
theorem wk_xb {post : Int32 → Prop} {x y : Int64} (ht : uN x < uN y → post 1) (hf : ¬ uN x < uN y → post 0) : wpX_isBelowUnsigned post x y := by
  unfold wpX_isBelowUnsigned
  rw [uN_le]
  exact br_c (fun c => hf (by omega)) (fun c => ht (by omega))
theorem wk_yb {post : Int32 → Prop} {a : SY} {x y : Int64} (ht : uN x < uN y → post 1) (hf : ¬ uN x < uN y → post 0) : wpY_lessUnsigned post a x y := by
  unfold wpY_lessUnsigned
  rw [uN_le]
  exact br_c (fun c => hf (by omega)) (fun c => ht (by omega))
theorem wk_q0 {x y : Int64} (h0 : y = 0) : wn_qu x y = -1 := if_pos h0
theorem wk_q1 {x y : Int64} (h0 : ¬ y = 0) (h1 : y < 0) (c : uN x < uN y) : wn_qu x y = 0 := by unfold wn_qu; rw [if_neg h0, if_pos h1, if_pos c]
theorem wk_q2 {x y : Int64} (h0 : ¬ y = 0) (h1 : y < 0) (c : ¬ uN x < uN y) : wn_qu x y = 1 := by unfold wn_qu; rw [if_neg h0, if_pos h1, if_neg c]
theorem wk_q3 {x y : Int64} (h0 : ¬ y = 0) (h1 : ¬ y < 0) (c : uN (x - wn_q x y * y) < uN y) : wn_qu x y = wn_q x y := by unfold wn_qu; rw [if_neg h0, if_neg h1, if_pos c]
theorem wk_q4 {x y : Int64} (h0 : ¬ y = 0) (h1 : ¬ y < 0) (c : ¬ uN (x - wn_q x y * y) < uN y) : wn_qu x y = wn_q x y + 1 := by unfold wn_qu; rw [if_neg h0, if_neg h1, if_neg c]
theorem wk_xq {post : Int64 → Prop} {x y : Int64} (h : post (wn_qu x y)) : wpX_quotientUnsigned post x y := by
  unfold wpX_quotientUnsigned
  by_cases h0 : y = 0
  · rw [wk_q0 h0] at h
    exact br_t h0 h
  · by_cases h1 : y < 0
    · have h2 : ¬ 0 ≤ y := Int64.not_le.mpr h1
      refine br_f h0 (br_f h2 (wk_xb (fun c => br_f (by decide) ?_) (fun c => br_t rfl ?_)))
      · rw [wk_q1 h0 h1 c] at h; exact h
      · rw [wk_q2 h0 h1 c] at h; exact h
    · have h2 : 0 ≤ y := Int64.not_lt.mp h1
      refine br_f h0 (br_t h2 ⟨h0, fun q eq r er => ?_⟩)
      have eq : q = wn_q x y := eq
      subst eq
      subst er
      refine wk_xb (fun c => br_f (by decide) ?_) (fun c => br_t rfl ?_)
      · rw [wk_q3 h0 h1 c] at h; exact h
      · rw [wk_q4 h0 h1 c] at h; exact h
theorem wk_yq {post : Int64 → Prop} {a : SY} {x y : Int64} (h : post (wn_qu x y)) : wpY_quotient post a x y := by
  unfold wpY_quotient
  by_cases h0 : y = 0
  · rw [wk_q0 h0] at h
    exact br_t h0 h
  · by_cases h1 : y < 0
    · have h2 : ¬ 0 ≤ y := Int64.not_le.mpr h1
      refine br_f h0 (br_f h2 (wk_yb (fun c => br_f (by decide) ?_) (fun c => br_t rfl ?_)))
      · rw [wk_q1 h0 h1 c] at h; exact h
      · rw [wk_q2 h0 h1 c] at h; exact h
    · have h2 : 0 ≤ y := Int64.not_lt.mp h1
      refine br_f h0 (br_t h2 ⟨h0, fun q eq => ?_⟩)
      have eq : q = wn_q x y := eq
      subst eq
      refine wk_yb (fun c => br_f (by decide) ?_) (fun c => br_t rfl ?_)
      · rw [wk_q3 h0 h1 c] at h; exact h
      · rw [wk_q4 h0 h1 c] at h; exact h
theorem wk_xr {post : Int64 → Prop} {x y : Int64} (h : post (x - wn_qu x y * y)) : wpX_restUnsigned post x y := by
  unfold wpX_restUnsigned
  exact wk_xq h
/-! the upper half of a product -/
theorem wk_xup {post : Int64 → Prop} {x y : Int64} (h : post (wn_up x y)) : wpX_upperProduct post x y := by
  unfold wpX_upperProduct
  intro xl e1 xh e2 yl e3 yh e4 lh e5 hl e6 md e7
  have f1 : uN xl = uN x % 4294967296 := by rw [e1, uN_lo]
  have f2 : uN xh = uN x / 4294967296 := by rw [e2, uN_s32]
  have f3 : uN yl = uN y % 4294967296 := by rw [e3, uN_lo]
  have f4 : uN yh = uN y / 4294967296 := by rw [e4, uN_s32]
  have f7 : uN md = ((uN (xl * yl) / 4294967296 + uN lh % 4294967296) % 18446744073709551616 + uN hl % 4294967296) % 18446744073709551616 := by rw [e7, uN_add, uN_add, uN_s32, uN_lo, uN_lo]
  have e := wn_upX f1 f2 f3 f4 e5 e6 f7
  refine (congrArg post (uN_inj ?_)).mpr h
  rw [uN_add, uN_add, uN_add, uN_s32, uN_s32, uN_s32]
  exact e
theorem wk_y51 {post : Int64 → Prop} {J : Int64 → Int64 → Int32 → Prop} {x y lo part z0 hi : Int64} {b : Nat} {a : Nat → Int64} (h : wn_Up x y b hi lo) (hz : ¬ uN y / 2 ^ b % 2 = 0) (hp : uN part = uN x * 2 ^ b % 18446744073709551616) (hz0 : uN z0 = uN x * 2 ^ b / 18446744073709551616)
    (hJ : ∀ hi' lo' : Int64, wn_Up x y (b + 1) hi' lo' → J hi' lo' (nI (b + 1))) : wY_upper_51 post J x y lo (nI b) part z0 hi a := by
  unfold wY_upper_51
  intro h1 e1 l1 e2
  have T := wn_UpT h hz hp (lo' := l1) (hi' := h1) (by rw [e2, uN_add]) (by rw [e1, uN_add, hz0])
  refine wk_yb (fun c => br_f (by decide) ?_) (fun c => br_t rfl ?_)
  · intro h2 e3 b2 e4
    rw [e3, e4, nI_1]
    exact hJ _ _ (T.1 c)
  · intro b2 e4
    rw [e4, nI_1]
    exact hJ _ _ (T.2 c)
theorem wk_y9 {post : Int64 → Prop} {x y : Int64} {a : Nat → Int64} (hp : post (wn_up x y)) : ∀ (d b : Nat) (hi lo : Int64), b + d = 64 → wn_Up x y b hi lo → wY_upper_9 post x y a (d + 1) hi lo (nI b) := by
  intro d
  induction d with
  | zero =>
    intro b hi lo hb h
    have hb : b = 64 := by omega
    subst hb
    rw [← wn_UpE h] at hp
    exact br_t (show (64 : Int32) ≤ nI 64 by decide) hp
  | succ d ih =>
    intro b hi lo hb h
    have h64 : ¬ (64 : Int32) ≤ nI b := nI_ge (b := 64) (by omega) (by decide)
    have hbit := uN_bit ((y.toUInt64 >>> ((nI b).toInt64.toUInt64 &&& Int64.toUInt64 63)).toInt64)
    rw [uN_sk y (by omega)] at hbit
    by_cases c : ((y.toUInt64 >>> ((nI b).toInt64.toUInt64 &&& Int64.toUInt64 63)).toInt64) &&& 1 = 0
    · refine br_f h64 (br_t c fun b2 e => ?_)
      rw [e, nI_1]
      exact ih (b + 1) hi lo (by omega) (wn_UpS h (hbit.mp c))
    · have hz : ¬ uN y / 2 ^ b % 2 = 0 := fun z => c (hbit.mpr z)
      refine br_f h64 (br_f c fun part ep => ?_)
      have hpart : uN part = uN x * 2 ^ b % 18446744073709551616 := by rw [ep, wn_shl x (by omega)]
      rcases Nat.eq_zero_or_pos b with h0 | h0
      · subst h0
        refine br_t (show nI 0 = 0 from nI_0) (wk_y51 h hz hpart ?_ (fun hi' lo' h' => ih _ hi' lo' (by omega) h'))
        have hx := uN_lt x
        rw [Nat.pow_zero, Nat.mul_one, Nat.div_eq_of_lt hx]
        rfl
      · refine br_f (nI_ne0 h0 (by omega)) (wk_y51 h hz hpart ?_ (fun hi' lo' h' => ih _ hi' lo' (by omega) h'))
        rw [wn_r2 b (by omega)]
        exact wn_hi x h0 (by omega)
theorem wk_yup {post : Int64 → Prop} {x y : Int64} {a : SY} (h : post (wn_up x y)) : wpY_upper post a x y := ⟨65, wk_y9 h 64 0 0 0 (by decide) (wn_Up0 x y)⟩
/-! leading zeros, in lockstep -/
theorem wk_clz (x : Int64) : ∀ d z : Nat, z + d = 64 → ∃ r : Int64, (∀ post : Int64 → Prop, post r → wX_leadingZeros_2 post x (d + 1) (nI z)) ∧ (∀ (post : Int64 → Prop) (a : Nat → Int64), post r → wY_further_84 post x a (d + 1) (nI z)) := by
  intro d
  induction d with
  | zero =>
    intro z hz
    have hz : z = 64 := by omega
    subst hz
    have h : (64 : Int32) ≤ nI 64 := by decide
    have e : (64 : Int64) = (nI 64).toInt64 := by decide
    refine ⟨64, fun post hp => br_t h hp, fun post a hp => br_t h ?_⟩
    rw [e] at hp
    exact hp
  | succ d ih =>
    intro z hz
    have h : ¬ (64 : Int32) ≤ nI z := nI_ge (b := 64) (by omega) (by decide)
    have k := wn_clz x (z := z) (by omega)
    rw [← wn_r3 z (by omega)] at k
    obtain ⟨r, hX, hY⟩ := ih (z + 1) (by omega)
    by_cases c : (x <<< ((nI z).toInt64 &&& 63)) < 0
    · have c1 : ¬ 0 ≤ (x <<< ((nI z).toInt64 &&& 63)) := Int64.not_le.mpr c
      exact ⟨(nI z).toInt64, fun post hp => br_f h (br_f c1 hp), fun post a hp => br_f h (br_f (k.mp c) hp)⟩
    · have c1 : 0 ≤ (x <<< ((nI z).toInt64 &&& 63)) := Int64.not_lt.mp c
      have c2 : ((x.toUInt64 >>> (((63 : Int32) - nI z).toInt64.toUInt64 &&& Int64.toUInt64 63)).toInt64 &&& 1) = 0 := Decidable.byContradiction fun n => c (k.mpr n)
      refine ⟨r, fun post hp => br_f h (br_t c1 fun y ey => ?_), fun post a hp => br_f h (br_t c2 fun y ey => ?_)⟩
      · rw [ey, nI_1]; exact hX post hp
      · rw [ey, nI_1]; exact hY post a hp
end
section
/-! the sixteen operations: one result, met by both sides -/
def wo_Y (post : Int64 → Prop) (a : SY) (p0 : Int32) (x y : Int64) : Prop := ((6 ≤ p0 → ((12 ≤ p0 → wpY_further post a p0 x y) ∧ (¬ 12 ≤ p0 → wpY_bits post a p0 x y))) ∧ (¬ 6 ≤ p0 → wpY_arithmetic post a p0 x y))
def wo_R (p0 : Int32) (x y : Int64) : Prop := ∃ r : Int64, (∀ post : Int64 → Prop, post r → wpX_resultOf post p0 x y) ∧ (∀ (post : Int64 → Prop) (a : SY), post r → wo_Y post a p0 x y)

theorem wo_x0 {post : Int64 → Prop} {x y : Int64} (h : post (x + y)) : wpX_resultOf post 0 x y := by
  unfold wpX_resultOf
  intro n en
  subst en
  exact br_f (by decide) (br_f (by decide) (br_t rfl h))
theorem wo_x1 {post : Int64 → Prop} {x y : Int64} (h : post (x - y)) : wpX_resultOf post 1 x y := by
  unfold wpX_resultOf
  intro n en
  subst en
  exact br_f (by decide) (br_f (by decide) (br_f (by decide) (br_t rfl h)))
theorem wo_x2 {post : Int64 → Prop} {x y : Int64} (h : post (x * y)) : wpX_resultOf post 2 x y := by
  unfold wpX_resultOf
  intro n en
  subst en
  exact br_f (by decide) (br_f (by decide) (br_f (by decide) (br_f (by decide) (br_t rfl h))))
theorem wo_x3 {post : Int64 → Prop} {x y : Int64} (h : wpX_quotientSigned (fun r => post r) x y) : wpX_resultOf post 3 x y := by
  unfold wpX_resultOf
  intro n en
  subst en
  exact br_f (by decide) (br_f (by decide) (br_f (by decide) (br_f (by decide) (br_f (by decide) (br_t rfl h)))))
theorem wo_x4 {post : Int64 → Prop} {x y : Int64} (h : wpX_restSigned (fun r => post r) x y) : wpX_resultOf post 4 x y := by
  unfold wpX_resultOf
  intro n en
  subst en
  exact br_f (by decide) (br_f (by decide) (br_f (by decide) (br_f (by decide) (br_f (by decide) (br_f (by decide) (br_t rfl h))))))
theorem wo_x5 {post : Int64 → Prop} {x y : Int64} (h : wpX_quotientUnsigned (fun r => post r) x y) : wpX_resultOf post 5 x y := by
  unfold wpX_resultOf
  intro n en
  subst en
  exact br_f (by decide) (br_f (by decide) (br_f (by decide) (br_f (by decide) (br_f (by decide) (br_f (by decide) (br_f (by decide) (br_t rfl h)))))))
theorem wo_x6 {post : Int64 → Prop} {x y : Int64} (h : post (x <<< (((y &&& 63).toInt32).toInt64 &&& 63))) : wpX_resultOf post 6 x y := by
  unfold wpX_resultOf
  intro n en
  subst en
  exact br_f (by decide) (br_f (by decide) (br_f (by decide) (br_f (by decide) (br_f (by decide) (br_f (by decide) (br_f (by decide) (br_f (by decide) (br_t rfl h))))))))
theorem wo_x7 {post : Int64 → Prop} {x y : Int64} (h : post ((x.toUInt64 >>> (((y &&& 63).toInt32).toInt64.toUInt64 &&& Int64.toUInt64 63)).toInt64)) : wpX_resultOf post 7 x y := by
  unfold wpX_resultOf
  intro n en
  subst en
  exact br_f (by decide) (br_f (by decide) (br_f (by decide) (br_f (by decide) (br_f (by decide) (br_f (by decide) (br_f (by decide) (br_f (by decide) (br_f (by decide) (br_t rfl h)))))))))
theorem wo_x8 {post : Int64 → Prop} {x y : Int64} (h : post (x >>> (((y &&& 63).toInt32).toInt64 &&& 63))) : wpX_resultOf post 8 x y := by
  unfold wpX_resultOf
  intro n en
  subst en
  exact br_f (by decide) (br_f (by decide) (br_f (by decide) (br_f (by decide) (br_f (by decide) (br_f (by decide) (br_f (by decide) (br_f (by decide) (br_f (by decide) (br_f (by decide) (br_t rfl h))))))))))
theorem wo_x9 {post : Int64 → Prop} {x y : Int64} (h : post (x &&& y)) : wpX_resultOf post 9 x y := by
  unfold wpX_resultOf
  intro n en
  subst en
  exact br_f (by decide) (br_f (by decide) (br_f (by decide) (br_f (by decide) (br_f (by decide) (br_f (by decide) (br_f (by decide) (br_f (by decide) (br_f (by decide) (br_f (by decide) (br_f (by decide) (br_t rfl h)))))))))))
theorem wo_x10 {post : Int64 → Prop} {x y : Int64} (h : post (x ||| y)) : wpX_resultOf post 10 x y := by
  unfold wpX_resultOf
  intro n en
  subst en
  exact br_f (by decide) (br_f (by decide) (br_f (by decide) (br_f (by decide) (br_f (by decide) (br_f (by decide) (br_f (by decide) (br_f (by decide) (br_f (by decide) (br_f (by decide) (br_f (by decide) (br_f (by decide) (br_t rfl h))))))))))))
theorem wo_x11 {post : Int64 → Prop} {x y : Int64} (h : post (x ^^^ y)) : wpX_resultOf post 11 x y := by
  unfold wpX_resultOf
  intro n en
  subst en
  exact br_f (by decide) (br_f (by decide) (br_f (by decide) (br_f (by decide) (br_f (by decide) (br_f (by decide) (br_f (by decide) (br_f (by decide) (br_f (by decide) (br_f (by decide) (br_f (by decide) (br_f (by decide) (br_f (by decide) (br_t rfl h)))))))))))))
theorem wo_x12 {post : Int64 → Prop} {x y : Int64} (h : wpX_upperProduct (fun r => post r) x y) : wpX_resultOf post 12 x y := by
  unfold wpX_resultOf
  intro n en
  subst en
  exact br_f (by decide) (br_f (by decide) (br_f (by decide) (br_f (by decide) (br_f (by decide) (br_f (by decide) (br_f (by decide) (br_f (by decide) (br_f (by decide) (br_f (by decide) (br_f (by decide) (br_f (by decide) (br_f (by decide) (br_f (by decide) (br_t rfl h))))))))))))))
theorem wo_x13 {post : Int64 → Prop} {x y : Int64} (h : wpX_turnedLeft (fun r => post r) x ((y &&& 63).toInt32)) : wpX_resultOf post 13 x y := by
  unfold wpX_resultOf
  intro n en
  subst en
  exact br_f (by decide) (br_f (by decide) (br_f (by decide) (br_f (by decide) (br_f (by decide) (br_f (by decide) (br_f (by decide) (br_f (by decide) (br_f (by decide) (br_f (by decide) (br_f (by decide) (br_f (by decide) (br_f (by decide) (br_f (by decide) (br_f (by decide) (br_t rfl h)))))))))))))))
theorem wo_x14 {post : Int64 → Prop} {x y : Int64} (h : wpX_leadingZeros (fun r => post r) x) : wpX_resultOf post 14 x y := by
  unfold wpX_resultOf
  intro n en
  subst en
  exact br_f (by decide) (br_f (by decide) (br_f (by decide) (br_f (by decide) (br_f (by decide) (br_f (by decide) (br_f (by decide) (br_f (by decide) (br_f (by decide) (br_f (by decide) (br_f (by decide) (br_f (by decide) (br_f (by decide) (br_f (by decide) (br_f (by decide) (br_f (by decide) (br_t rfl h))))))))))))))))
theorem wo_x15 {post : Int64 → Prop} {x y : Int64} (h : wX_resultOf_163 post x y) : wpX_resultOf post 15 x y := by
  unfold wpX_resultOf
  intro n en
  subst en
  exact br_f (by decide) (br_f (by decide) (br_f (by decide) (br_f (by decide) (br_f (by decide) (br_f (by decide) (br_f (by decide) (br_f (by decide) (br_f (by decide) (br_f (by decide) (br_f (by decide) (br_f (by decide) (br_f (by decide) (br_f (by decide) (br_f (by decide) (br_f (by decide) (br_f (by decide) (br_t rfl h)))))))))))))))))
theorem wo_y0 {post : Int64 → Prop} {a : SY} {x y : Int64} (h : post (x + y)) : wo_Y post a 0 x y := br_f (by decide) (by
  unfold wpY_arithmetic
  exact br_t rfl h)
theorem wo_y1 {post : Int64 → Prop} {a : SY} {x y : Int64} (h : post (x - y)) : wo_Y post a 1 x y := br_f (by decide) (by
  unfold wpY_arithmetic
  exact br_f (by decide) (br_t rfl h))
theorem wo_y2 {post : Int64 → Prop} {a : SY} {x y : Int64} (h : post (x * y)) : wo_Y post a 2 x y := br_f (by decide) (by
  unfold wpY_arithmetic
  exact br_f (by decide) (br_f (by decide) (br_t rfl h)))
theorem wo_y5 {post : Int64 → Prop} {a : SY} {x y : Int64} (h : wpY_quotient (fun r => post r) a x y) : wo_Y post a 5 x y := br_f (by decide) (by
  unfold wpY_arithmetic
  exact br_f (by decide) (br_f (by decide) (br_f (by decide) (br_t rfl h))))
theorem wo_y6 {post : Int64 → Prop} {a : SY} {x y : Int64} (h : post (x <<< (((y &&& 63).toInt32).toInt64 &&& 63))) : wo_Y post a 6 x y := br_t (by decide) (br_f (by decide) (by
  unfold wpY_bits
  intro n en
  subst en
  exact br_t rfl h))
theorem wo_y7 {post : Int64 → Prop} {a : SY} {x y : Int64} (h : post ((x.toUInt64 >>> (((y &&& 63).toInt32).toInt64.toUInt64 &&& Int64.toUInt64 63)).toInt64)) : wo_Y post a 7 x y := br_t (by decide) (br_f (by decide) (by
  unfold wpY_bits
  intro n en
  subst en
  exact br_f (by decide) (br_t rfl h)))
theorem wo_y8 {post : Int64 → Prop} {a : SY} {x y : Int64} (h : post (x >>> (((y &&& 63).toInt32).toInt64 &&& 63))) : wo_Y post a 8 x y := br_t (by decide) (br_f (by decide) (by
  unfold wpY_bits
  intro n en
  subst en
  exact br_f (by decide) (br_f (by decide) (br_t rfl h))))
theorem wo_y9 {post : Int64 → Prop} {a : SY} {x y : Int64} (h : post (x &&& y)) : wo_Y post a 9 x y := br_t (by decide) (br_f (by decide) (by
  unfold wpY_bits
  intro n en
  subst en
  exact br_f (by decide) (br_f (by decide) (br_f (by decide) (br_t rfl h)))))
theorem wo_y10 {post : Int64 → Prop} {a : SY} {x y : Int64} (h : post (x ||| y)) : wo_Y post a 10 x y := br_t (by decide) (br_f (by decide) (by
  unfold wpY_bits
  intro n en
  subst en
  exact br_f (by decide) (br_f (by decide) (br_f (by decide) (br_f (by decide) (br_t rfl h))))))
theorem wo_y11 {post : Int64 → Prop} {a : SY} {x y : Int64} (h : post (x ^^^ y)) : wo_Y post a 11 x y := br_t (by decide) (br_f (by decide) (by
  unfold wpY_bits
  intro n en
  subst en
  exact br_f (by decide) (br_f (by decide) (br_f (by decide) (br_f (by decide) (br_f (by decide) (h)))))))
theorem wo_y12 {post : Int64 → Prop} {a : SY} {x y : Int64} (h : wpY_upper (fun r => post r) a x y) : wo_Y post a 12 x y := br_t (by decide) (br_t (by decide) (by
  unfold wpY_further
  intro n en
  subst en
  exact br_t rfl h))
theorem wo_y13 {post : Int64 → Prop} {a : SY} {x y : Int64} (h : ((y &&& 63).toInt32 = 0 → post x) ∧ (¬ (y &&& 63).toInt32 = 0 → post ((x <<< (((y &&& 63).toInt32).toInt64 &&& 63)) ||| ((x.toUInt64 >>> ((64 - (y &&& 63).toInt32).toInt64.toUInt64 &&& Int64.toUInt64 63)).toInt64)))) : wo_Y post a 13 x y := br_t (by decide) (br_t (by decide) (by
  unfold wpY_further
  intro n en
  subst en
  exact br_f (by decide) (br_t rfl h)))
theorem wo_y15 {post : Int64 → Prop} {a : SY} {x y : Int64} (h : (y = 0 → post x) ∧ (¬ y = 0 → wpY_quotient (fun r => post (x - (r * y))) a x y)) : wo_Y post a 15 x y := br_t (by decide) (br_t (by decide) (by
  unfold wpY_further
  intro n en
  subst en
  exact br_f (by decide) (br_f (by decide) (br_t rfl h))))
theorem wo_y14 {post : Int64 → Prop} {a : SY} {x y : Int64} (h : ∃ n84 : Nat, wY_further_84 post x a n84 0) : wo_Y post a 14 x y := br_t (by decide) (br_t (by decide) (by
  unfold wpY_further
  intro n en
  subst en
  exact br_f (by decide) (br_f (by decide) (br_f (by decide) (h)))))
theorem wo_y3 {post : Int64 → Prop} {a : SY} {x y : Int64} (h0 : y = 0 → post (-1)) (h1 : y = -1 → post (0 - x)) (h2 : ¬ y = 0 → post (x / y)) : wo_Y post a 3 x y := br_f (by decide) (by
  unfold wpY_arithmetic
  exact br_f (by decide) (br_f (by decide) (br_f (by decide) (br_f (by decide) (br_c (fun z => br_t rfl (h0 z)) (fun z => br_c (fun w => br_t rfl (h1 w)) (fun w => br_t rfl ⟨z, h2 z⟩)))))))
theorem wo_y4 {post : Int64 → Prop} {a : SY} {x y : Int64} (h0 : y = 0 → post (x)) (h1 : y = -1 → post (0)) (h2 : ¬ y = 0 → post (x - x / y * y)) : wo_Y post a 4 x y := br_f (by decide) (by
  unfold wpY_arithmetic
  exact br_f (by decide) (br_f (by decide) (br_f (by decide) (br_f (by decide) (br_c (fun z => br_f (by decide) (h0 z)) (fun z => br_c (fun w => br_f (by decide) (h1 w)) (fun w => br_f (by decide) ⟨z, h2 z⟩)))))))
theorem wo_0 (x y : Int64) : wo_R 0 x y := ⟨(x + y), fun _ h => wo_x0 h, fun _ _ h => wo_y0 h⟩
theorem wo_1 (x y : Int64) : wo_R 1 x y := ⟨(x - y), fun _ h => wo_x1 h, fun _ _ h => wo_y1 h⟩
theorem wo_2 (x y : Int64) : wo_R 2 x y := ⟨(x * y), fun _ h => wo_x2 h, fun _ _ h => wo_y2 h⟩
theorem wo_6 (x y : Int64) : wo_R 6 x y := ⟨(x <<< (((y &&& 63).toInt32).toInt64 &&& 63)), fun _ h => wo_x6 h, fun _ _ h => wo_y6 h⟩
theorem wo_7 (x y : Int64) : wo_R 7 x y := ⟨((x.toUInt64 >>> (((y &&& 63).toInt32).toInt64.toUInt64 &&& Int64.toUInt64 63)).toInt64), fun _ h => wo_x7 h, fun _ _ h => wo_y7 h⟩
theorem wo_8 (x y : Int64) : wo_R 8 x y := ⟨(x >>> (((y &&& 63).toInt32).toInt64 &&& 63)), fun _ h => wo_x8 h, fun _ _ h => wo_y8 h⟩
theorem wo_9 (x y : Int64) : wo_R 9 x y := ⟨(x &&& y), fun _ h => wo_x9 h, fun _ _ h => wo_y9 h⟩
theorem wo_10 (x y : Int64) : wo_R 10 x y := ⟨(x ||| y), fun _ h => wo_x10 h, fun _ _ h => wo_y10 h⟩
theorem wo_11 (x y : Int64) : wo_R 11 x y := ⟨(x ^^^ y), fun _ h => wo_x11 h, fun _ _ h => wo_y11 h⟩
theorem wo_3 (x y : Int64) : wo_R 3 x y := by
  by_cases h0 : y = 0
  · exact ⟨-1, fun _ h => wo_x3 (br_t h0 h), fun _ _ h => wo_y3 (fun _ => h) (fun z => absurd (h0.symm.trans z) (by decide)) (fun z => absurd h0 z)⟩
  · refine ⟨x / y, fun _ h => wo_x3 (br_f h0 ⟨h0, h⟩), fun post _ h => wo_y3 (fun z => absurd z h0) (fun z => ?_) (fun _ => h)⟩
    rw [z, wn_dm] at h
    exact h
theorem wo_4 (x y : Int64) : wo_R 4 x y := by
  by_cases h0 : y = 0
  · exact ⟨x, fun _ h => wo_x4 (br_t h0 h), fun _ _ h => wo_y4 (fun _ => h) (fun z => absurd (h0.symm.trans z) (by decide)) (fun z => absurd h0 z)⟩
  · refine ⟨x - x / y * y, fun _ h => wo_x4 (br_f h0 ⟨h0, h⟩), fun post _ h => wo_y4 (fun z => absurd z h0) (fun z => ?_) (fun _ => h)⟩
    rw [z, wn_rm] at h
    exact h
theorem wo_5 (x y : Int64) : wo_R 5 x y := ⟨wn_qu x y, fun _ h => wo_x5 (wk_xq h), fun _ _ h => wo_y5 (wk_yq h)⟩
theorem wo_12 (x y : Int64) : wo_R 12 x y := ⟨wn_up x y, fun _ h => wo_x12 (wk_xup h), fun _ _ h => wo_y12 (wk_yup h)⟩
theorem wo_13 (x y : Int64) : wo_R 13 x y := by
  obtain ⟨k, hk, e⟩ := wn_amt y
  rcases Nat.eq_zero_or_pos k with h0 | h0
  · subst h0
    have e : (y &&& 63).toInt32 = 0 := e
    refine ⟨x, fun post h => wo_x13 ?_, fun post a h => wo_y13 (br_t e h)⟩
    unfold wpX_turnedLeft
    rw [e, wn_sh0, wn_us0, Int64.or_self]
    exact h
  · have n0 : ¬ (y &&& 63).toInt32 = 0 := by rw [e]; exact nI_ne0 h0 (by omega)
    refine ⟨(x <<< (((y &&& 63).toInt32).toInt64 &&& 63)) ||| ((x.toUInt64 >>> ((64 - (y &&& 63).toInt32).toInt64.toUInt64 &&& Int64.toUInt64 63)).toInt64), fun post h => wo_x13 ?_, fun post a h => wo_y13 (br_f n0 h)⟩
    unfold wpX_turnedLeft
    rw [e, wn_r2 k hk] at h
    rw [e, wn_r1 k hk h0]
    exact h
theorem wo_14 (x y : Int64) : wo_R 14 x y := by
  obtain ⟨r, hX, hY⟩ := wk_clz x 64 0 (by decide)
  exact ⟨r, fun post h => wo_x14 ⟨65, hX _ h⟩, fun post a h => wo_y14 ⟨65, hY _ _ h⟩⟩
theorem wo_15 (x y : Int64) : wo_R 15 x y := by
  by_cases h0 : y = 0
  · refine ⟨x, fun post h => wo_x15 ?_, fun _ _ h => wo_y15 (br_t h0 h)⟩
    unfold wX_resultOf_163
    refine wk_xr ?_
    have e : x - wn_qu x y * y = x := by rw [h0, Int64.mul_zero, Int64.sub_zero]
    rw [e]
    exact h
  · refine ⟨x - wn_qu x y * y, fun post h => wo_x15 ?_, fun _ _ h => wo_y15 (br_f h0 (wk_yq h))⟩
    unfold wX_resultOf_163
    exact wk_xr h
theorem wo_all : ∀ (j : Nat), j ≤ 15 → ∀ x y : Int64, wo_R (nI j) x y
  | 0, _ => wo_0
  | 1, _ => wo_1
  | 2, _ => wo_2
  | 3, _ => wo_3
  | 4, _ => wo_4
  | 5, _ => wo_5
  | 6, _ => wo_6
  | 7, _ => wo_7
  | 8, _ => wo_8
  | 9, _ => wo_9
  | 10, _ => wo_10
  | 11, _ => wo_11
  | 12, _ => wo_12
  | 13, _ => wo_13
  | 14, _ => wo_14
  | 15, _ => wo_15
  | n + 16, h => absurd h (by omega)
end
section
/-! the loops of digits, digitAt and root, in lockstep -/
theorem wl_dig (u v : Nat → Int64) : ∀ d c k : Nat, c + d = 20 → k < 2 ^ 63 → ∃ r : Int32, (∀ post : Int32 → Prop, post r → wX_digits_25 post u (d + 1) (lN k) (nI c)) ∧ (∀ post : Int32 → Prop, post r → wY_digits_26 post v (d + 1) (nI c) (lN k)) := by
  intro d
  induction d with
  | zero =>
    intro c k hc hk
    have hc : c = 20 := by omega
    subst hc
    have h : (20 : Int32) ≤ nI 20 := by decide
    exact ⟨nI 20, fun post hp => br_t h hp, fun post hp => br_c (fun _ => hp) (fun _ => br_t h hp)⟩
  | succ d ih =>
    intro c k hc hk
    have h : ¬ (20 : Int32) ≤ nI c := nI_ge (b := 20) (by omega) (by decide)
    by_cases z : lN k = 0
    · exact ⟨nI c, fun post hp => br_f h (br_t z hp), fun post hp => br_t z hp⟩
    · obtain ⟨r, hX, hY⟩ := ih (c + 1) (k / 10) (by omega) (by omega)
      have e1 : wn_qu (lN k) 10 = lN (k / 10) := wn_10 (by omega)
      have e2 : lN k / 10 = lN (k / 10) := pk_lDiv (b := 10) hk (by decide) (by decide)
      refine ⟨r, fun post hp => br_f h (br_f z (wk_xq fun y ey => ?_)), fun post hp => br_f z (br_f h ⟨by decide, fun q eq y ey => ?_⟩)⟩
      · rw [ey, nI_1, e1]; exact hX post hp
      · rw [ey, nI_1, eq, e2]; exact hY post hp
theorem wl_at (u v : Nat → Int64) (j : Nat) (hj : j < 2 ^ 31) : ∀ (d c : Nat) (x : Int64), c + d = j → ∃ r : Int32, (∀ post : Int32 → Prop, post r → wX_digitAt_31 post (nI j) u (d + 1) x (nI c)) ∧ (∀ post : Int32 → Prop, post r → wY_digitAt_32 post (nI j) v (d + 1) x (nI c)) := by
  intro d
  induction d with
  | zero =>
    intro c x hc
    have hc : c = j := by omega
    subst hc
    have h : nI c ≤ nI c := nI_le (Nat.le_refl c) hj
    exact ⟨(x - wn_qu x 10 * 10).toInt32, fun post hp => br_t h (wk_xr hp), fun post hp => br_t h (wk_yq hp)⟩
  | succ d ih =>
    intro c x hc
    have h : ¬ nI j ≤ nI c := nI_ge (by omega) hj
    obtain ⟨r, hX, hY⟩ := ih (c + 1) (wn_qu x 10) (by omega)
    refine ⟨r, fun post hp => br_f h (wk_xq fun y ey => ?_), fun post hp => br_f h (wk_yq fun y ey => ?_)⟩
    · rw [ey, nI_1]; exact hX post hp
    · rw [ey, nI_1]; exact hY post hp
theorem wl_p1 {i : Nat} (h : i < 32) : ¬ lN (2 ^ (i + 1)) ≤ 1 := by
  have h1 : 2 ^ (i + 1) ≤ 2 ^ 32 := Nat.pow_le_pow_right (by decide) (by omega)
  have h2 : 2 ^ 1 ≤ 2 ^ (i + 1) := Nat.pow_le_pow_right (by decide) (by omega)
  have h3 : ¬ lN (2 ^ (i + 1)) ≤ lN 1 := by
    rw [pk_lLE (Nat.lt_of_le_of_lt h1 (by decide)) (by decide)]
    omega
  exact h3
theorem wl_root (u : Nat → Int64) (p : Int32) (hp0 : vp_in p 8) : ∀ j g : Nat, j ≤ 32 → (g + 1) * 2 ^ j ≤ 4294967296 → ∃ r : Int64, (∀ post : Int64 → Prop, post r → wX_root_23 post (u p.toNatClampNeg) u (j + 1) (lN (g * 2 ^ j)) (nI j + (-1))) ∧ (∀ post : Int64 → Prop, post r → wY_root_17 post p u (j + 1) (lN (g * 2 ^ j)) (lN ((g + 1) * 2 ^ j))) := by
  intro j
  induction j with
  | zero =>
    intro g _ hb
    have h : nI 0 + (-1) < 0 := by decide
    have h1 : lN ((g + 1) * 2 ^ 0) - lN (g * 2 ^ 0) ≤ 1 := by rw [wn_gap]; decide
    exact ⟨lN (g * 2 ^ 0), fun post hp => br_t h hp, fun post hp => br_t h1 hp⟩
  | succ i ih =>
    intro g hi hb
    have hg : (2 * g + 1 + 1) * 2 ^ i = (g + 1) * 2 ^ (i + 1) := by
      rw [wn_two (g := g + 1) (i := i)]
      exact congrArg (· * 2 ^ i) (by omega)
    have hn : ¬ nI i < 0 := nI_pos (by omega)
    have hgap : ¬ lN ((g + 1) * 2 ^ (i + 1)) - lN (g * 2 ^ (i + 1)) ≤ 1 := by rw [wn_gap]; exact wl_p1 (by omega)
    have e1 := wn_or (g := g) (i := i) (by omega) hb
    have e2 := wn_mid (g := g) (i := i) hb
    have b1 : (2 * g + 1 + 1) * 2 ^ i ≤ 4294967296 := by rw [hg]; exact hb
    have b0 : (2 * g + 1) * 2 ^ i ≤ 4294967296 := Nat.le_trans (Nat.mul_le_mul_right _ (by omega)) b1
    rw [pk_m1]
    by_cases c : uN (u p.toNatClampNeg) < uN (lN ((2 * g + 1) * 2 ^ i) * lN ((2 * g + 1) * 2 ^ i))
    · obtain ⟨r, hX, hY⟩ := ih (2 * g) (by omega) b0
      refine ⟨r, fun post hp => br_f hn fun t et => ?_, fun post hp => br_f hgap ⟨by decide, fun t et => ?_⟩⟩
      · rw [et, e1]
        refine wk_xb (fun _ => br_f (by decide) fun y ey => ?_) (fun n => absurd c n)
        rw [ey, wn_two (g := g) (i := i)]
        exact hX post hp
      · rw [et, e2]
        refine ⟨hp0, wk_yb (fun _ => br_f (by decide) ?_) (fun n => absurd c n)⟩
        rw [wn_two (g := g) (i := i)]
        exact hY post hp
    · obtain ⟨r, hX, hY⟩ := ih (2 * g + 1) (by omega) b1
      refine ⟨r, fun post hp => br_f hn fun t et => ?_, fun post hp => br_f hgap ⟨by decide, fun t et => ?_⟩⟩
      · rw [et, e1]
        refine wk_xb (fun n => absurd n c) (fun _ => br_t rfl fun y ey => ?_)
        rw [ey]
        exact hX post hp
      · rw [et, e2]
        refine ⟨hp0, wk_yb (fun n => absurd n c) (fun _ => br_t rfl ?_)⟩
        rw [← hg]
        exact hY post hp
end
section
/-! what is owed -/
/-- both sides hold the same eight registers -/
def i_Rel (_ : Nat) (u : SX) (v : SY) : Prop := u = v
theorem i_up {k : Nat} {u : SX} {v : SY} (h : i_Rel k u v) : i_Rel (k + 4) u v := h
theorem i_vc0 : wpX_init (fun u => wpY_init (fun v => i_Rel 0 u v)) := rfl
theorem wi_10 (x : Int32) : x < 10 ↔ x ≤ 9 := by
  have h1 : (10 : Int32).toInt = 10 := by decide
  have h2 : (9 : Int32).toInt = 9 := by decide
  rw [Int32.lt_iff_toInt_lt, Int32.le_iff_toInt_le, h1, h2]
  omega
theorem wi_20 (x : Int32) : x < 20 ↔ x ≤ 19 := by
  have h1 : (20 : Int32).toInt = 20 := by decide
  have h2 : (19 : Int32).toInt = 19 := by decide
  rw [Int32.lt_iff_toInt_lt, Int32.le_iff_toInt_le, h1, h2]
  omega
theorem i_vc_set {k : Nat} {u : SX} {v : SY} (I : i_Rel k u v) (hk : k + 4 ≤ 2048) (v1 : Int32) (a1 : Int64) : wpX_set (fun r u' => wpY_set (fun r' v' => r' = r ∧ i_Rel (k + 4) u' v') v v1 a1) u v1 a1 := by
  cases I
  unfold wpX_set wpY_set
  dsimp only
  rcases wk_reg v1 with ⟨hi, hX, hY⟩ | ⟨hX, hY⟩
  · refine hX _ (br_f (by decide) ⟨hi, fun a ea => ?_⟩)
    exact hY _ _ (br_f (by decide) ⟨hi, fun b eb => ⟨rfl, ea.trans eb.symm⟩⟩)
  · refine hX _ (br_t rfl ?_)
    exact hY _ _ (br_t rfl ⟨rfl, rfl⟩)
theorem i_vc_operate {k : Nat} {u : SX} {v : SY} (I : i_Rel k u v) (hk : k + 4 ≤ 2048) (v1 : Int32) (v2 : Int32) (v3 : Int32) : wpX_operate (fun r u' => wpY_operate (fun r' v' => r' = r ∧ i_Rel (k + 4) u' v') v v1 v2 v3) u v1 v2 v3 := by
  cases I
  unfold wpX_operate wpY_operate
  dsimp only
  by_cases h0 : v1 < 0
  · exact br_t h0 (br_t h0 ⟨rfl, rfl⟩)
  · by_cases h15 : v1 ≤ 15
    · rcases wk_reg v2 with ⟨hi, hX, hY⟩ | ⟨hX, hY⟩
      · obtain ⟨j, hj, e⟩ := nI_of2 (M := 15) (n := 15) (by decide) h0 h15
        have i1 : vp_in (v3 &&& 7) 8 := pk_andIn v3 3 (by decide) (by decide)
        have i2 : vp_in ((v3 >>> ((3 : Int32) &&& 31)) &&& 7) 8 := pk_andIn _ 3 (by decide) (by decide)
        have R := wo_all j hj (u (v3 &&& 7).toNatClampNeg) (u ((v3 >>> ((3 : Int32) &&& 31)) &&& 7).toNatClampNeg)
        rw [← e] at R
        obtain ⟨r, rX, rY⟩ := R
        refine br_f h0 (br_t h15 (hX _ (br_f (by decide) ⟨i1, nm_e ⟨i2, nm_e (rX _ ⟨hi, fun a ea => ?_⟩)⟩⟩)))
        refine br_f h0 (br_t h15 (hY _ _ (br_f (by decide) ⟨i1, nm_e ⟨i2, nm_e (rY _ _ ⟨hi, fun b eb => ?_⟩)⟩⟩)))
        exact ⟨rfl, ea.trans eb.symm⟩
      · refine br_f h0 (br_t h15 (hX _ (br_t rfl ?_)))
        exact br_f h0 (br_t h15 (hY _ _ (br_t rfl ⟨rfl, rfl⟩)))
    · exact br_f h0 (br_f h15 (br_f h0 (br_f h15 ⟨rfl, rfl⟩)))
theorem i_vc_digit {k : Nat} {u : SX} {v : SY} (I : i_Rel k u v) (hk : k + 4 ≤ 2048) (v1 : Int32) (v2 : Int32) : wpX_digit (fun r u' => wpY_digit (fun r' v' => r' = r ∧ i_Rel (k + 4) u' v') v v1 v2) u v1 v2 := by
  cases I
  unfold wpX_digit wpY_digit
  dsimp only
  rcases wk_reg v1 with ⟨hi, hX, hY⟩ | ⟨hX, hY⟩
  · by_cases h0 : v2 < 0
    · refine hX _ (br_f (by decide) (br_t h0 ?_))
      exact hY _ _ (br_f (by decide) (br_t h0 ⟨rfl, rfl⟩))
    · by_cases h9 : v2 < 10
      · refine hX _ (br_f (by decide) (br_f h0 (br_t h9 ⟨hi, hi, fun a ea => ?_⟩)))
        exact hY _ _ (br_f (by decide) (br_f h0 (br_t ((wi_10 v2).mp h9) ⟨hi, hi, fun b eb => ⟨rfl, ea.trans eb.symm⟩⟩)))
      · refine hX _ (br_f (by decide) (br_f h0 (br_f h9 ?_)))
        exact hY _ _ (br_f (by decide) (br_f h0 (br_f (fun z => h9 ((wi_10 v2).mpr z)) ⟨rfl, rfl⟩)))
  · refine hX _ (br_t rfl ?_)
    exact hY _ _ (br_t rfl ⟨rfl, rfl⟩)
theorem i_vc_swap {k : Nat} {u : SX} {v : SY} (I : i_Rel k u v) (hk : k + 4 ≤ 2048) (v1 : Int32) (v2 : Int32) : wpX_swap (fun r u' => wpY_swap (fun r' v' => r' = r ∧ i_Rel (k + 4) u' v') v v1 v2) u v1 v2 := by
  cases I
  unfold wpX_swap wpY_swap
  dsimp only
  rcases wk_reg v1 with ⟨hi, hX, hY⟩ | ⟨hX, hY⟩
  · rcases wk_reg v2 with ⟨hi2, hX2, hY2⟩ | ⟨hX2, hY2⟩
    · refine hX _ (br_f (by decide) (hX2 _ (br_f (by decide) ⟨hi, nm_e ⟨hi2, hi, nm_e ⟨hi2, fun a ea => ?_⟩⟩⟩)))
      exact hY _ _ (br_f (by decide) (hY2 _ _ (br_f (by decide) ⟨hi, nm_e ⟨hi2, hi, nm_e ⟨hi2, fun b eb => ⟨rfl, ea.trans eb.symm⟩⟩⟩⟩)))
    · refine hX _ (br_f (by decide) (hX2 _ (br_t rfl ?_)))
      exact hY _ _ (br_f (by decide) (hY2 _ _ (br_t rfl ⟨rfl, rfl⟩)))
  · refine hX _ (br_t rfl ?_)
    exact hY _ _ (br_t rfl ⟨rfl, rfl⟩)
theorem i_vc_get {k : Nat} {u : SX} {v : SY} (I : i_Rel k u v) (hk : k + 4 ≤ 2048) (v1 : Int32) : wpX_get (fun r => wpY_get (fun r' => r' = r ∧ i_Rel (k + 4) u v) v v1) u v1 := by
  cases I
  unfold wpX_get wpY_get
  dsimp only
  rcases wk_reg v1 with ⟨hi, hX, hY⟩ | ⟨hX, hY⟩
  · refine hX _ (br_f (by decide) ⟨hi, ?_⟩)
    exact hY _ _ (br_f (by decide) ⟨hi, rfl, rfl⟩)
  · refine hX _ (br_t rfl ?_)
    exact hY _ _ (br_t rfl ⟨rfl, rfl⟩)
theorem i_vc_less {k : Nat} {u : SX} {v : SY} (I : i_Rel k u v) (hk : k + 4 ≤ 2048) (v1 : Int32) (v2 : Int32) : wpX_less (fun r => wpY_less (fun r' => r' = r ∧ i_Rel (k + 4) u v) v v1 v2) u v1 v2 := by
  cases I
  unfold wpX_less wpY_less
  dsimp only
  rcases wk_reg v1 with ⟨hi, hX, hY⟩ | ⟨hX, hY⟩
  · rcases wk_reg v2 with ⟨hi2, hX2, hY2⟩ | ⟨hX2, hY2⟩
    · by_cases c : u v2.toNatClampNeg ≤ u v1.toNatClampNeg
      · refine hX _ (br_f (by decide) (hX2 _ (br_f (by decide) ⟨hi, hi2, br_t c ?_⟩)))
        exact hY _ _ (br_f (by decide) (hY2 _ _ (br_f (by decide) ⟨hi, hi2, br_t c ⟨rfl, rfl⟩⟩)))
      · refine hX _ (br_f (by decide) (hX2 _ (br_f (by decide) ⟨hi, hi2, br_f c ?_⟩)))
        exact hY _ _ (br_f (by decide) (hY2 _ _ (br_f (by decide) ⟨hi, hi2, br_f c ⟨rfl, rfl⟩⟩)))
    · refine hX _ (br_f (by decide) (hX2 _ (br_t rfl ?_)))
      exact hY _ _ (br_f (by decide) (hY2 _ _ (br_t rfl ⟨rfl, rfl⟩)))
  · refine hX _ (br_t rfl ?_)
    exact hY _ _ (br_t rfl ⟨rfl, rfl⟩)
theorem i_vc_below {k : Nat} {u : SX} {v : SY} (I : i_Rel k u v) (hk : k + 4 ≤ 2048) (v1 : Int32) (v2 : Int32) : wpX_below (fun r => wpY_below (fun r' => r' = r ∧ i_Rel (k + 4) u v) v v1 v2) u v1 v2 := by
  cases I
  unfold wpX_below wpY_below
  dsimp only
  rcases wk_reg v1 with ⟨hi, hX, hY⟩ | ⟨hX, hY⟩
  · rcases wk_reg v2 with ⟨hi2, hX2, hY2⟩ | ⟨hX2, hY2⟩
    · refine hX _ (br_f (by decide) (hX2 _ (br_f (by decide) ⟨hi, hi2, wk_xb (fun c => br_f (by decide) ?_) (fun c => br_t rfl ?_)⟩)))
      · exact hY _ _ (br_f (by decide) (hY2 _ _ (br_f (by decide) ⟨hi, hi2, wk_yb (fun _ => br_f (by decide) ⟨rfl, rfl⟩) (fun n => absurd c n)⟩)))
      · exact hY _ _ (br_f (by decide) (hY2 _ _ (br_f (by decide) ⟨hi, hi2, wk_yb (fun n => absurd n c) (fun _ => br_t rfl ⟨rfl, rfl⟩)⟩)))
    · refine hX _ (br_f (by decide) (hX2 _ (br_t rfl ?_)))
      exact hY _ _ (br_f (by decide) (hY2 _ _ (br_t rfl ⟨rfl, rfl⟩)))
  · refine hX _ (br_t rfl ?_)
    exact hY _ _ (br_t rfl ⟨rfl, rfl⟩)
theorem i_vc_digits {k : Nat} {u : SX} {v : SY} (I : i_Rel k u v) (hk : k + 4 ≤ 2048) (v1 : Int32) : wpX_digits (fun r => wpY_digits (fun r' => r' = r ∧ i_Rel (k + 4) u v) v v1) u v1 := by
  cases I
  unfold wpX_digits wpY_digits
  dsimp only
  rcases wk_reg v1 with ⟨hi, hX, hY⟩ | ⟨hX, hY⟩
  · obtain ⟨n, hn, e⟩ := wb_of (u v1.toNatClampNeg)
    have e1 : wn_qu (u v1.toNatClampNeg) 10 = lN (n / 10) := by rw [e]; exact wn_10 hn
    obtain ⟨r, rX, rY⟩ := wl_dig u u 19 1 (n / 10) (by decide) (by omega)
    refine hX _ (br_f (by decide) ⟨hi, wk_xq ⟨20, ?_⟩⟩)
    rw [e1]
    refine rX _ ?_
    refine hY _ _ (br_f (by decide) ⟨hi, wk_yq ⟨20, ?_⟩⟩)
    rw [e1]
    exact rY _ ⟨rfl, rfl⟩
  · refine hX _ (br_t rfl ?_)
    exact hY _ _ (br_t rfl ⟨rfl, rfl⟩)
theorem i_vc_digitAt {k : Nat} {u : SX} {v : SY} (I : i_Rel k u v) (hk : k + 4 ≤ 2048) (v1 : Int32) (v2 : Int32) : wpX_digitAt (fun r => wpY_digitAt (fun r' => r' = r ∧ i_Rel (k + 4) u v) v v1 v2) u v1 v2 := by
  cases I
  unfold wpX_digitAt wpY_digitAt
  dsimp only
  rcases wk_reg v1 with ⟨hi, hX, hY⟩ | ⟨hX, hY⟩
  · by_cases h0 : v2 < 0
    · refine hX _ (br_f (by decide) (br_t h0 ?_))
      exact hY _ _ (br_f (by decide) (br_t h0 ⟨rfl, rfl⟩))
    · by_cases h9 : v2 < 20
      · obtain ⟨j, hj, e⟩ := nI_of h0
        obtain ⟨r, rX, rY⟩ := wl_at u u j hj j 0 (u v1.toNatClampNeg) (by omega)
        rw [← e] at rX rY
        refine hX _ (br_f (by decide) (br_f h0 (br_t h9 ⟨hi, nm_e ⟨j + 1, rX _ ?_⟩⟩)))
        exact hY _ _ (br_f (by decide) (br_f h0 (br_t ((wi_20 v2).mp h9) ⟨hi, nm_e ⟨j + 1, rY _ ⟨rfl, rfl⟩⟩⟩)))
      · refine hX _ (br_f (by decide) (br_f h0 (br_f h9 ?_)))
        exact hY _ _ (br_f (by decide) (br_f h0 (br_f (fun z => h9 ((wi_20 v2).mpr z)) ⟨rfl, rfl⟩)))
  · refine hX _ (br_t rfl ?_)
    exact hY _ _ (br_t rfl ⟨rfl, rfl⟩)
theorem i_vc_root {k : Nat} {u : SX} {v : SY} (I : i_Rel k u v) (hk : k + 4 ≤ 2048) (v1 : Int32) : wpX_root (fun r => wpY_root (fun r' => r' = r ∧ i_Rel (k + 4) u v) v v1) u v1 := by
  cases I
  unfold wpX_root wpY_root
  dsimp only
  rcases wk_reg v1 with ⟨hi, hX, hY⟩ | ⟨hX, hY⟩
  · obtain ⟨r, rX, rY⟩ := wl_root u v1 hi 32 0 (by decide) (by decide)
    have e1 : lN (0 * 2 ^ 32) = 0 := by decide
    have e2 : nI 32 + (-1) = 31 := by decide
    have e3 : lN ((0 + 1) * 2 ^ 32) = 4294967296 := by decide
    rw [e1, e2] at rX
    rw [e1, e3] at rY
    refine hX _ (br_f (by decide) ⟨hi, nm_e ⟨33, rX _ ?_⟩⟩)
    exact hY _ _ (br_f (by decide) ⟨33, rY _ ⟨rfl, rfl⟩⟩)
  · refine hX _ (br_t rfl ?_)
    exact hY _ _ (br_t rfl ⟨rfl, rfl⟩)
end
