/-! the sixteen operations: one result, met by both sides -/
def wo_Y (post : Int64 → Prop) (a : SY) (p0 : Int32) (x y : Int64) : Prop := ((6 ≤ p0 → ((12 ≤ p0 → wpY_further post a p0 x y) ∧ (¬ 12 ≤ p0 → wpY_bits post a p0 x y))) ∧ (¬ 6 ≤ p0 → wpY_arithmetic post a p0 x y))
def wo_R (p0 : Int32) (x y : Int64) : Prop := ∃ r : Int64, (∀ post : Int64 → Prop, post r → wpX_resultOf post p0 x y) ∧ (∀ (post : Int64 → Prop) (a : SY), post r → wo_Y post a p0 x y)

theorem wo_x0 {post : Int64 → Prop} {x y : Int64} (h : post (x + y)) : wpX_resultOf post 0 x y := by
  unfold wpX_resultOf
  intro n en
  subst en
  exact br_f (by decide) (br_f (by decide) (br_t rfl h))
theorem wo_x1 {post : Int64 → Prop} {x y : Int64} (h : post (x - y)) : wpX_resultOf post 1 x y := by
  unfold wpX_resultOf
  intro n en
  subst en
  exact br_f (by decide) (br_f (by decide) (br_f (by decide) (br_t rfl h)))
theorem wo_x2 {post : Int64 → Prop} {x y : Int64} (h : post (x * y)) : wpX_resultOf post 2 x y := by
  unfold wpX_resultOf
  intro n en
  subst en
  exact br_f (by decide) (br_f (by decide) (br_f (by decide) (br_f (by decide) (br_t rfl h))))
theorem wo_x3 {post : Int64 → Prop} {x y : Int64} (h : wpX_quotientSigned (fun r => post r) x y) : wpX_resultOf post 3 x y := by
  unfold wpX_resultOf
  intro n en
  subst en
  exact br_f (by decide) (br_f (by decide) (br_f (by decide) (br_f (by decide) (br_f (by decide) (br_t rfl h)))))
theorem wo_x4 {post : Int64 → Prop} {x y : Int64} (h : wpX_restSigned (fun r => post r) x y) : wpX_resultOf post 4 x y := by
  unfold wpX_resultOf
  intro n en
  subst en
  exact br_f (by decide) (br_f (by decide) (br_f (by decide) (br_f (by decide) (br_f (by decide) (br_f (by decide) (br_t rfl h))))))
theorem wo_x5 {post : Int64 → Prop} {x y : Int64} (h : wpX_quotientUnsigned (fun r => post r) x y) : wpX_resultOf post 5 x y := by
  unfold wpX_resultOf
  intro n en
  subst en
  exact br_f (by decide) (br_f (by decide) (br_f (by decide) (br_f (by decide) (br_f (by decide) (br_f (by decide) (br_f (by decide) (br_t rfl h)))))))
theorem wo_x6 {post : Int64 → Prop} {x y : Int64} (h : post (x <<< (((y &&& 63).toInt32).toInt64 &&& 63))) : wpX_resultOf post 6 x y := by
  unfold wpX_resultOf
  intro n en
  subst en
  exact br_f (by decide) (br_f (by decide) (br_f (by decide) (br_f (by decide) (br_f (by decide) (br_f (by decide) (br_f (by decide) (br_f (by decide) (br_t rfl h))))))))
theorem wo_x7 {post : Int64 → Prop} {x y : Int64} (h : post ((x.toUInt64 >>> (((y &&& 63).toInt32).toInt64.toUInt64 &&& Int64.toUInt64 63)).toInt64)) : wpX_resultOf post 7 x y := by
  unfold wpX_resultOf
  intro n en
  subst en
  exact br_f (by decide) (br_f (by decide) (br_f (by decide) (br_f (by decide) (br_f (by decide) (br_f (by decide) (br_f (by decide) (br_f (by decide) (br_f (by decide) (br_t rfl h)))))))))
theorem wo_x8 {post : Int64 → Prop} {x y : Int64} (h : post (x >>> (((y &&& 63).toInt32).toInt64 &&& 63))) : wpX_resultOf post 8 x y := by
  unfold wpX_resultOf
  intro n en
  subst en
  exact br_f (by decide) (br_f (by decide) (br_f (by decide) (br_f (by decide) (br_f (by decide) (br_f (by decide) (br_f (by decide) (br_f (by decide) (br_f (by decide) (br_f (by decide) (br_t rfl h))))))))))
theorem wo_x9 {post : Int64 → Prop} {x y : Int64} (h : post (x &&& y)) : wpX_resultOf post 9 x y := by
  unfold wpX_resultOf
  intro n en
  subst en
  exact br_f (by decide) (br_f (by decide) (br_f (by decide) (br_f (by decide) (br_f (by decide) (br_f (by decide) (br_f (by decide) (br_f (by decide) (br_f (by decide) (br_f (by decide) (br_f (by decide) (br_t rfl h)))))))))))
theorem wo_x10 {post : Int64 → Prop} {x y : Int64} (h : post (x ||| y)) : wpX_resultOf post 10 x y := by
  unfold wpX_resultOf
  intro n en
  subst en
  exact br_f (by decide) (br_f (by decide) (br_f (by decide) (br_f (by decide) (br_f (by decide) (br_f (by decide) (br_f (by decide) (br_f (by decide) (br_f (by decide) (br_f (by decide) (br_f (by decide) (br_f (by decide) (br_t rfl h))))))))))))
theorem wo_x11 {post : Int64 → Prop} {x y : Int64} (h : post (x ^^^ y)) : wpX_resultOf post 11 x y := by
  unfold wpX_resultOf
  intro n en
  subst en
  exact br_f (by decide) (br_f (by decide) (br_f (by decide) (br_f (by decide) (br_f (by decide) (br_f (by decide) (br_f (by decide) (br_f (by decide) (br_f (by decide) (br_f (by decide) (br_f (by decide) (br_f (by decide) (br_f (by decide) (br_t rfl h)))))))))))))
theorem wo_x12 {post : Int64 → Prop} {x y : Int64} (h : wpX_upperProduct (fun r => post r) x y) : wpX_resultOf post 12 x y := by
  unfold wpX_resultOf
  intro n en
  subst en
  exact br_f (by decide) (br_f (by decide) (br_f (by decide) (br_f (by decide) (br_f (by decide) (br_f (by decide) (br_f (by decide) (br_f (by decide) (br_f (by decide) (br_f (by decide) (br_f (by decide) (br_f (by decide) (br_f (by decide) (br_f (by decide) (br_t rfl h))))))))))))))
theorem wo_x13 {post : Int64 → Prop} {x y : Int64} (h : wpX_turnedLeft (fun r => post r) x ((y &&& 63).toInt32)) : wpX_resultOf post 13 x y := by
  unfold wpX_resultOf
  intro n en
  subst en
  exact br_f (by decide) (br_f (by decide) (br_f (by decide) (br_f (by decide) (br_f (by decide) (br_f (by decide) (br_f (by decide) (br_f (by decide) (br_f (by decide) (br_f (by decide) (br_f (by decide) (br_f (by decide) (br_f (by decide) (br_f (by decide) (br_f (by decide) (br_t rfl h)))))))))))))))
theorem wo_x14 {post : Int64 → Prop} {x y : Int64} (h : wpX_leadingZeros (fun r => post r) x) : wpX_resultOf post 14 x y := by
  unfold wpX_resultOf
  intro n en
  subst en
  exact br_f (by decide) (br_f (by decide) (br_f (by decide) (br_f (by decide) (br_f (by decide) (br_f (by decide) (br_f (by decide) (br_f (by decide) (br_f (by decide) (br_f (by decide) (br_f (by decide) (br_f (by decide) (br_f (by decide) (br_f (by decide) (br_f (by decide) (br_f (by decide) (br_t rfl h))))))))))))))))
theorem wo_x15 {post : Int64 → Prop} {x y : Int64} (h : wX_resultOf_163 post x y) : wpX_resultOf post 15 x y := by
  unfold wpX_resultOf
  intro n en
  subst en
  exact br_f (by decide) (br_f (by decide) (br_f (by decide) (br_f (by decide) (br_f (by decide) (br_f (by decide) (br_f (by decide) (br_f (by decide) (br_f (by decide) (br_f (by decide) (br_f (by decide) (br_f (by decide) (br_f (by decide) (br_f (by decide) (br_f (by decide) (br_f (by decide) (br_f (by decide) (br_t rfl h)))))))))))))))))
theorem wo_y0 {post : Int64 → Prop} {a : SY} {x y : Int64} (h : post (x + y)) : wo_Y post a 0 x y := br_f (by decide) (by
  unfold wpY_arithmetic
  exact br_t rfl h)
theorem wo_y1 {post : Int64 → Prop} {a : SY} {x y : Int64} (h : post (x - y)) : wo_Y post a 1 x y := br_f (by decide) (by
  unfold wpY_arithmetic
  exact br_f (by decide) (br_t rfl h))
theorem wo_y2 {post : Int64 → Prop} {a : SY} {x y : Int64} (h : post (x * y)) : wo_Y post a 2 x y := br_f (by decide) (by
  unfold wpY_arithmetic
  exact br_f (by decide) (br_f (by decide) (br_t rfl h)))
theorem wo_y5 {post : Int64 → Prop} {a : SY} {x y : Int64} (h : wpY_quotient (fun r => post r) a x y) : wo_Y post a 5 x y := br_f (by decide) (by
  unfold wpY_arithmetic
  exact br_f (by decide) (br_f (by decide) (br_f (by decide) (br_t rfl h))))
theorem wo_y6 {post : Int64 → Prop} {a : SY} {x y : Int64} (h : post (x <<< (((y &&& 63).toInt32).toInt64 &&& 63))) : wo_Y post a 6 x y := br_t (by decide) (br_f (by decide) (by
  unfold wpY_bits
  intro n en
  subst en
  exact br_t rfl h))
theorem wo_y7 {post : Int64 → Prop} {a : SY} {x y : Int64} (h : post ((x.toUInt64 >>> (((y &&& 63).toInt32).toInt64.toUInt64 &&& Int64.toUInt64 63)).toInt64)) : wo_Y post a 7 x y := br_t (by decide) (br_f (by decide) (by
  unfold wpY_bits
  intro n en
  subst en
  exact br_f (by decide) (br_t rfl h)))
theorem wo_y8 {post : Int64 → Prop} {a : SY} {x y : Int64} (h : post (x >>> (((y &&& 63).toInt32).toInt64 &&& 63))) : wo_Y post a 8 x y := br_t (by decide) (br_f (by decide) (by
  unfold wpY_bits
  intro n en
  subst en
  exact br_f (by decide) (br_f (by decide) (br_t rfl h))))
theorem wo_y9 {post : Int64 → Prop} {a : SY} {x y : Int64} (h : post (x &&& y)) : wo_Y post a 9 x y := br_t (by decide) (br_f (by decide) (by
  unfold wpY_bits
  intro n en
  subst en
  exact br_f (by decide) (br_f (by decide) (br_f (by decide) (br_t rfl h)))))
theorem wo_y10 {post : Int64 → Prop} {a : SY} {x y : Int64} (h : post (x ||| y)) : wo_Y post a 10 x y := br_t (by decide) (br_f (by decide) (by
  unfold wpY_bits
  intro n en
  subst en
  exact br_f (by decide) (br_f (by decide) (br_f (by decide) (br_f (by decide) (br_t rfl h))))))
theorem wo_y11 {post : Int64 → Prop} {a : SY} {x y : Int64} (h : post (x ^^^ y)) : wo_Y post a 11 x y := br_t (by decide) (br_f (by decide) (by
  unfold wpY_bits
  intro n en
  subst en
  exact br_f (by decide) (br_f (by decide) (br_f (by decide) (br_f (by decide) (br_f (by decide) (h)))))))
theorem wo_y12 {post : Int64 → Prop} {a : SY} {x y : Int64} (h : wpY_upper (fun r => post r) a x y) : wo_Y post a 12 x y := br_t (by decide) (br_t (by decide) (by
  unfold wpY_further
  intro n en
  subst en
  exact br_t rfl h))
theorem wo_y13 {post : Int64 → Prop} {a : SY} {x y : Int64} (h : ((y &&& 63).toInt32 = 0 → post x) ∧ (¬ (y &&& 63).toInt32 = 0 → post ((x <<< (((y &&& 63).toInt32).toInt64 &&& 63)) ||| ((x.toUInt64 >>> ((64 - (y &&& 63).toInt32).toInt64.toUInt64 &&& Int64.toUInt64 63)).toInt64)))) : wo_Y post a 13 x y := br_t (by decide) (br_t (by decide) (by
  unfold wpY_further
  intro n en
  subst en
  exact br_f (by decide) (br_t rfl h)))
theorem wo_y15 {post : Int64 → Prop} {a : SY} {x y : Int64} (h : (y = 0 → post x) ∧ (¬ y = 0 → wpY_quotient (fun r => post (x - (r * y))) a x y)) : wo_Y post a 15 x y := br_t (by decide) (br_t (by decide) (by
  unfold wpY_further
  intro n en
  subst en
  exact br_f (by decide) (br_f (by decide) (br_t rfl h))))
theorem wo_y14 {post : Int64 → Prop} {a : SY} {x y : Int64} (h : ∃ n84 : Nat, wY_further_84 post x a n84 0) : wo_Y post a 14 x y := br_t (by decide) (br_t (by decide) (by
  unfold wpY_further
  intro n en
  subst en
  exact br_f (by decide) (br_f (by decide) (br_f (by decide) (h)))))
theorem wo_y3 {post : Int64 → Prop} {a : SY} {x y : Int64} (h0 : y = 0 → post (-1)) (h1 : y = -1 → post (0 - x)) (h2 : ¬ y = 0 → post (x / y)) : wo_Y post a 3 x y := br_f (by decide) (by
  unfold wpY_arithmetic
  exact br_f (by decide) (br_f (by decide) (br_f (by decide) (br_f (by decide) (br_c (fun z => br_t rfl (h0 z)) (fun z => br_c (fun w => br_t rfl (h1 w)) (fun w => br_t rfl ⟨z, h2 z⟩)))))))
theorem wo_y4 {post : Int64 → Prop} {a : SY} {x y : Int64} (h0 : y = 0 → post (x)) (h1 : y = -1 → post (0)) (h2 : ¬ y = 0 → post (x - x / y * y)) : wo_Y post a 4 x y := br_f (by decide) (by
  unfold wpY_arithmetic
  exact br_f (by decide) (br_f (by decide) (br_f (by decide) (br_f (by decide) (br_c (fun z => br_f (by decide) (h0 z)) (fun z => br_c (fun w => br_f (by decide) (h1 w)) (fun w => br_f (by decide) ⟨z, h2 z⟩)))))))
theorem wo_0 (x y : Int64) : wo_R 0 x y := ⟨(x + y), fun _ h => wo_x0 h, fun _ _ h => wo_y0 h⟩
theorem wo_1 (x y : Int64) : wo_R 1 x y := ⟨(x - y), fun _ h => wo_x1 h, fun _ _ h => wo_y1 h⟩
theorem wo_2 (x y : Int64) : wo_R 2 x y := ⟨(x * y), fun _ h => wo_x2 h, fun _ _ h => wo_y2 h⟩
theorem wo_6 (x y : Int64) : wo_R 6 x y := ⟨(x <<< (((y &&& 63).toInt32).toInt64 &&& 63)), fun _ h => wo_x6 h, fun _ _ h => wo_y6 h⟩
theorem wo_7 (x y : Int64) : wo_R 7 x y := ⟨((x.toUInt64 >>> (((y &&& 63).toInt32).toInt64.toUInt64 &&& Int64.toUInt64 63)).toInt64), fun _ h => wo_x7 h, fun _ _ h => wo_y7 h⟩
theorem wo_8 (x y : Int64) : wo_R 8 x y := ⟨(x >>> (((y &&& 63).toInt32).toInt64 &&& 63)), fun _ h => wo_x8 h, fun _ _ h => wo_y8 h⟩
theorem wo_9 (x y : Int64) : wo_R 9 x y := ⟨(x &&& y), fun _ h => wo_x9 h, fun _ _ h => wo_y9 h⟩
theorem wo_10 (x y : Int64) : wo_R 10 x y := ⟨(x ||| y), fun _ h => wo_x10 h, fun _ _ h => wo_y10 h⟩
theorem wo_11 (x y : Int64) : wo_R 11 x y := ⟨(x ^^^ y), fun _ h => wo_x11 h, fun _ _ h => wo_y11 h⟩
theorem wo_3 (x y : Int64) : wo_R 3 x y := by
  by_cases h0 : y = 0
  · exact ⟨-1, fun _ h => wo_x3 (br_t h0 h), fun _ _ h => wo_y3 (fun _ => h) (fun z => absurd (h0.symm.trans z) (by decide)) (fun z => absurd h0 z)⟩
  · refine ⟨x / y, fun _ h => wo_x3 (br_f h0 ⟨h0, h⟩), fun post _ h => wo_y3 (fun z => absurd z h0) (fun z => ?_) (fun _ => h)⟩
    rw [z, wn_dm] at h
    exact h
theorem wo_4 (x y : Int64) : wo_R 4 x y := by
  by_cases h0 : y = 0
  · exact ⟨x, fun _ h => wo_x4 (br_t h0 h), fun _ _ h => wo_y4 (fun _ => h) (fun z => absurd (h0.symm.trans z) (by decide)) (fun z => absurd h0 z)⟩
  · refine ⟨x - x / y * y, fun _ h => wo_x4 (br_f h0 ⟨h0, h⟩), fun post _ h => wo_y4 (fun z => absurd z h0) (fun z => ?_) (fun _ => h)⟩
    rw [z, wn_rm] at h
    exact h
theorem wo_5 (x y : Int64) : wo_R 5 x y := ⟨wn_qu x y, fun _ h => wo_x5 (wk_xq h), fun _ _ h => wo_y5 (wk_yq h)⟩
theorem wo_12 (x y : Int64) : wo_R 12 x y := ⟨wn_up x y, fun _ h => wo_x12 (wk_xup h), fun _ _ h => wo_y12 (wk_yup h)⟩
theorem wo_13 (x y : Int64) : wo_R 13 x y := by
  obtain ⟨k, hk, e⟩ := wn_amt y
  rcases Nat.eq_zero_or_pos k with h0 | h0
  · subst h0
    have e : (y &&& 63).toInt32 = 0 := e
    refine ⟨x, fun post h => wo_x13 ?_, fun post a h => wo_y13 (br_t e h)⟩
    unfold wpX_turnedLeft
    rw [e, wn_sh0, wn_us0, Int64.or_self]
    exact h
  · have n0 : ¬ (y &&& 63).toInt32 = 0 := by rw [e]; exact nI_ne0 h0 (by omega)
    refine ⟨(x <<< (((y &&& 63).toInt32).toInt64 &&& 63)) ||| ((x.toUInt64 >>> ((64 - (y &&& 63).toInt32).toInt64.toUInt64 &&& Int64.toUInt64 63)).toInt64), fun post h => wo_x13 ?_, fun post a h => wo_y13 (br_f n0 h)⟩
    unfold wpX_turnedLeft
    rw [e, wn_r2 k hk] at h
    rw [e, wn_r1 k hk h0]
    exact h
theorem wo_14 (x y : Int64) : wo_R 14 x y := by
  obtain ⟨r, hX, hY⟩ := wk_clz x 64 0 (by decide)
  exact ⟨r, fun post h => wo_x14 ⟨65, hX _ h⟩, fun post a h => wo_y14 ⟨65, hY _ _ h⟩⟩
theorem wo_15 (x y : Int64) : wo_R 15 x y := by
  by_cases h0 : y = 0
  · refine ⟨x, fun post h => wo_x15 ?_, fun _ _ h => wo_y15 (br_t h0 h)⟩
    unfold wX_resultOf_163
    refine wk_xr ?_
    have e : x - wn_qu x y * y = x := by rw [h0, Int64.mul_zero, Int64.sub_zero]
    rw [e]
    exact h
  · refine ⟨x - wn_qu x y * y, fun post h => wo_x15 ?_, fun _ _ h => wo_y15 (br_f h0 (wk_yq h))⟩
    unfold wX_resultOf_163
    exact wk_xr h
theorem wo_all : ∀ (j : Nat), j ≤ 15 → ∀ x y : Int64, wo_R (nI j) x y
  | 0, _ => wo_0
  | 1, _ => wo_1
  | 2, _ => wo_2
  | 3, _ => wo_3
  | 4, _ => wo_4
  | 5, _ => wo_5
  | 6, _ => wo_6
  | 7, _ => wo_7
  | 8, _ => wo_8
  | 9, _ => wo_9
  | 10, _ => wo_10
  | 11, _ => wo_11
  | 12, _ => wo_12
  | 13, _ => wo_13
  | 14, _ => wo_14
  | 15, _ => wo_15
  | n + 16, h => absurd h (by omega)
