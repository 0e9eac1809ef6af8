/-! the walks of the private methods: a general post each -/
theorem wk_in {r : Int32} (h0 : ¬ r < 0) (h8 : ¬ 8 ≤ r) : vp_in r 8 := by
  obtain ⟨j, hj, rfl⟩ := nI_of h0
  rcases Nat.lt_or_ge j 8 with h | h
  · exact vp_in_nI h (by decide)
  · exact absurd (show (8 : Int32) ≤ nI j from nI_le (a := 8) h hj) h8
theorem wk_reg (r : Int32) : (vp_in r 8 ∧ (∀ post : Int32 → Prop, post 1 → wpX_isRegister post r) ∧ (∀ (post : Int32 → Prop) (a : SY), post 1 → wpY_isRegister post a r)) ∨ ((∀ post : Int32 → Prop, post 0 → wpX_isRegister post r) ∧ (∀ (post : Int32 → Prop) (a : SY), post 0 → wpY_isRegister post a r)) := by
  by_cases h0 : r < 0
  · exact Or.inr ⟨fun _ p => br_t h0 p, fun _ _ p => br_t h0 p⟩
  · by_cases h8 : 8 ≤ r
    · exact Or.inr ⟨fun _ p => br_f h0 (br_t h8 p), fun _ _ p => br_f h0 (br_t h8 p)⟩
    · exact Or.inl ⟨wk_in h0 h8, fun _ p => br_f h0 (br_f h8 p), fun _ _ p => br_f h0 (br_f h8 p)⟩
theorem wk_xb {post : Int32 → Prop} {x y : Int64} (ht : uN x < uN y → post 1) (hf : ¬ uN x < uN y → post 0) : wpX_isBelowUnsigned post x y := by
  unfold wpX_isBelowUnsigned
  rw [uN_le]
  exact br_c (fun c => hf (by omega)) (fun c => ht (by omega))
theorem wk_yb {post : Int32 → Prop} {a : SY} {x y : Int64} (ht : uN x < uN y → post 1) (hf : ¬ uN x < uN y → post 0) : wpY_lessUnsigned post a x y := by
  unfold wpY_lessUnsigned
  rw [uN_le]
  exact br_c (fun c => hf (by omega)) (fun c => ht (by omega))
theorem wk_q0 {x y : Int64} (h0 : y = 0) : wn_qu x y = -1 := if_pos h0
theorem wk_q1 {x y : Int64} (h0 : ¬ y = 0) (h1 : y < 0) (c : uN x < uN y) : wn_qu x y = 0 := by unfold wn_qu; rw [if_neg h0, if_pos h1, if_pos c]
theorem wk_q2 {x y : Int64} (h0 : ¬ y = 0) (h1 : y < 0) (c : ¬ uN x < uN y) : wn_qu x y = 1 := by unfold wn_qu; rw [if_neg h0, if_pos h1, if_neg c]
theorem wk_q3 {x y : Int64} (h0 : ¬ y = 0) (h1 : ¬ y < 0) (c : uN (x - wn_q x y * y) < uN y) : wn_qu x y = wn_q x y := by unfold wn_qu; rw [if_neg h0, if_neg h1, if_pos c]
theorem wk_q4 {x y : Int64} (h0 : ¬ y = 0) (h1 : ¬ y < 0) (c : ¬ uN (x - wn_q x y * y) < uN y) : wn_qu x y = wn_q x y + 1 := by unfold wn_qu; rw [if_neg h0, if_neg h1, if_neg c]
theorem wk_xq {post : Int64 → Prop} {x y : Int64} (h : post (wn_qu x y)) : wpX_quotientUnsigned post x y := by
  unfold wpX_quotientUnsigned
  by_cases h0 : y = 0
  · rw [wk_q0 h0] at h
    exact br_t h0 h
  · by_cases h1 : y < 0
    · have h2 : ¬ 0 ≤ y := Int64.not_le.mpr h1
      refine br_f h0 (br_f h2 (wk_xb (fun c => br_f (by decide) ?_) (fun c => br_t rfl ?_)))
      · rw [wk_q1 h0 h1 c] at h; exact h
      · rw [wk_q2 h0 h1 c] at h; exact h
    · have h2 : 0 ≤ y := Int64.not_lt.mp h1
      refine br_f h0 (br_t h2 ⟨h0, fun q eq r er => ?_⟩)
      have eq : q = wn_q x y := eq
      subst eq
      subst er
      refine wk_xb (fun c => br_f (by decide) ?_) (fun c => br_t rfl ?_)
      · rw [wk_q3 h0 h1 c] at h; exact h
      · rw [wk_q4 h0 h1 c] at h; exact h
theorem wk_yq {post : Int64 → Prop} {a : SY} {x y : Int64} (h : post (wn_qu x y)) : wpY_quotient post a x y := by
  unfold wpY_quotient
  by_cases h0 : y = 0
  · rw [wk_q0 h0] at h
    exact br_t h0 h
  · by_cases h1 : y < 0
    · have h2 : ¬ 0 ≤ y := Int64.not_le.mpr h1
      refine br_f h0 (br_f h2 (wk_yb (fun c => br_f (by decide) ?_) (fun c => br_t rfl ?_)))
      · rw [wk_q1 h0 h1 c] at h; exact h
      · rw [wk_q2 h0 h1 c] at h; exact h
    · have h2 : 0 ≤ y := Int64.not_lt.mp h1
      refine br_f h0 (br_t h2 ⟨h0, fun q eq => ?_⟩)
      have eq : q = wn_q x y := eq
      subst eq
      refine wk_yb (fun c => br_f (by decide) ?_) (fun c => br_t rfl ?_)
      · rw [wk_q3 h0 h1 c] at h; exact h
      · rw [wk_q4 h0 h1 c] at h; exact h
theorem wk_xr {post : Int64 → Prop} {x y : Int64} (h : post (x - wn_qu x y * y)) : wpX_restUnsigned post x y := by
  unfold wpX_restUnsigned
  exact wk_xq h
/-! the upper half of a product -/
theorem wk_xup {post : Int64 → Prop} {x y : Int64} (h : post (wn_up x y)) : wpX_upperProduct post x y := by
  unfold wpX_upperProduct
  intro xl e1 xh e2 yl e3 yh e4 lh e5 hl e6 md e7
  have f1 : uN xl = uN x % 4294967296 := by rw [e1, uN_lo]
  have f2 : uN xh = uN x / 4294967296 := by rw [e2, uN_s32]
  have f3 : uN yl = uN y % 4294967296 := by rw [e3, uN_lo]
  have f4 : uN yh = uN y / 4294967296 := by rw [e4, uN_s32]
  have f7 : uN md = ((uN (xl * yl) / 4294967296 + uN lh % 4294967296) % 18446744073709551616 + uN hl % 4294967296) % 18446744073709551616 := by rw [e7, uN_add, uN_add, uN_s32, uN_lo, uN_lo]
  have e := wn_upX f1 f2 f3 f4 e5 e6 f7
  refine (congrArg post (uN_inj ?_)).mpr h
  rw [uN_add, uN_add, uN_add, uN_s32, uN_s32, uN_s32]
  exact e
theorem wk_y51 {post : Int64 → Prop} {J : Int64 → Int64 → Int32 → Prop} {x y lo part z0 hi : Int64} {b : Nat} {a : Nat → Int64} (h : wn_Up x y b hi lo) (hz : ¬ uN y / 2 ^ b % 2 = 0) (hp : uN part = uN x * 2 ^ b % 18446744073709551616) (hz0 : uN z0 = uN x * 2 ^ b / 18446744073709551616)
    (hJ : ∀ hi' lo' : Int64, wn_Up x y (b + 1) hi' lo' → J hi' lo' (nI (b + 1))) : wY_upper_51 post J x y lo (nI b) part z0 hi a := by
  unfold wY_upper_51
  intro h1 e1 l1 e2
  have T := wn_UpT h hz hp (lo' := l1) (hi' := h1) (by rw [e2, uN_add]) (by rw [e1, uN_add, hz0])
  refine wk_yb (fun c => br_f (by decide) ?_) (fun c => br_t rfl ?_)
  · intro h2 e3 b2 e4
    rw [e3, e4, nI_1]
    exact hJ _ _ (T.1 c)
  · intro b2 e4
    rw [e4, nI_1]
    exact hJ _ _ (T.2 c)
theorem wk_y9 {post : Int64 → Prop} {x y : Int64} {a : Nat → Int64} (hp : post (wn_up x y)) : ∀ (d b : Nat) (hi lo : Int64), b + d = 64 → wn_Up x y b hi lo → wY_upper_9 post x y a (d + 1) hi lo (nI b) := by
  intro d
  induction d with
  | zero =>
    intro b hi lo hb h
    have hb : b = 64 := by omega
    subst hb
    rw [← wn_UpE h] at hp
    exact br_t (show (64 : Int32) ≤ nI 64 by decide) hp
  | succ d ih =>
    intro b hi lo hb h
    have h64 : ¬ (64 : Int32) ≤ nI b := nI_ge (b := 64) (by omega) (by decide)
    have hbit := uN_bit ((y.toUInt64 >>> ((nI b).toInt64.toUInt64 &&& Int64.toUInt64 63)).toInt64)
    rw [uN_sk y (by omega)] at hbit
    by_cases c : ((y.toUInt64 >>> ((nI b).toInt64.toUInt64 &&& Int64.toUInt64 63)).toInt64) &&& 1 = 0
    · refine br_f h64 (br_t c fun b2 e => ?_)
      rw [e, nI_1]
      exact ih (b + 1) hi lo (by omega) (wn_UpS h (hbit.mp c))
    · have hz : ¬ uN y / 2 ^ b % 2 = 0 := fun z => c (hbit.mpr z)
      refine br_f h64 (br_f c fun part ep => ?_)
      have hpart : uN part = uN x * 2 ^ b % 18446744073709551616 := by rw [ep, wn_shl x (by omega)]
      rcases Nat.eq_zero_or_pos b with h0 | h0
      · subst h0
        refine br_t (show nI 0 = 0 from nI_0) (wk_y51 h hz hpart ?_ (fun hi' lo' h' => ih _ hi' lo' (by omega) h'))
        have hx := uN_lt x
        rw [Nat.pow_zero, Nat.mul_one, Nat.div_eq_of_lt hx]
        rfl
      · refine br_f (nI_ne0 h0 (by omega)) (wk_y51 h hz hpart ?_ (fun hi' lo' h' => ih _ hi' lo' (by omega) h'))
        rw [wn_r2 b (by omega)]
        exact wn_hi x h0 (by omega)
theorem wk_yup {post : Int64 → Prop} {x y : Int64} {a : SY} (h : post (wn_up x y)) : wpY_upper post a x y := ⟨65, wk_y9 h 64 0 0 0 (by decide) (wn_Up0 x y)⟩
/-! leading zeros, in lockstep -/
theorem wk_clz (x : Int64) : ∀ d z : Nat, z + d = 64 → ∃ r : Int64, (∀ post : Int64 → Prop, post r → wX_leadingZeros_2 post x (d + 1) (nI z)) ∧ (∀ (post : Int64 → Prop) (a : Nat → Int64), post r → wY_further_84 post x a (d + 1) (nI z)) := by
  intro d
  induction d with
  | zero =>
    intro z hz
    have hz : z = 64 := by omega
    subst hz
    have h : (64 : Int32) ≤ nI 64 := by decide
    have e : (64 : Int64) = (nI 64).toInt64 := by decide
    refine ⟨64, fun post hp => br_t h hp, fun post a hp => br_t h ?_⟩
    rw [e] at hp
    exact hp
  | succ d ih =>
    intro z hz
    have h : ¬ (64 : Int32) ≤ nI z := nI_ge (b := 64) (by omega) (by decide)
    have k := wn_clz x (z := z) (by omega)
    rw [← wn_r3 z (by omega)] at k
    obtain ⟨r, hX, hY⟩ := ih (z + 1) (by omega)
    by_cases c : (x <<< ((nI z).toInt64 &&& 63)) < 0
    · have c1 : ¬ 0 ≤ (x <<< ((nI z).toInt64 &&& 63)) := Int64.not_le.mpr c
      exact ⟨(nI z).toInt64, fun post hp => br_f h (br_f c1 hp), fun post a hp => br_f h (br_f (k.mp c) hp)⟩
    · have c1 : 0 ≤ (x <<< ((nI z).toInt64 &&& 63)) := Int64.not_lt.mp c
      have c2 : ((x.toUInt64 >>> (((63 : Int32) - nI z).toInt64.toUInt64 &&& Int64.toUInt64 63)).toInt64 &&& 1) = 0 := Decidable.byContradiction fun n => c (k.mpr n)
      refine ⟨r, fun post hp => br_f h (br_t c1 fun y ey => ?_), fun post a hp => br_f h (br_t c2 fun y ey => ?_)⟩
      · rw [ey, nI_1]; exact hX post hp
      · rw [ey, nI_1]; exact hY post a hp
