/-! the loops of digits, digitAt and root, in lockstep -/
theorem wl_dig (u v : Nat → Int64) : ∀ d c k : Nat, c + d = 20 → k < 2 ^ 63 → ∃ r : Int32, (∀ post : Int32 → Prop, post r → wX_digits_25 post u (d + 1) (lN k) (nI c)) ∧ (∀ post : Int32 → Prop, post r → wY_digits_26 post v (d + 1) (nI c) (lN k)) := by
  intro d
  induction d with
  | zero =>
    intro c k hc hk
    have hc : c = 20 := by omega
    subst hc
    have h : (20 : Int32) ≤ nI 20 := by decide
    exact ⟨nI 20, fun post hp => br_t h hp, fun post hp => br_c (fun _ => hp) (fun _ => br_t h hp)⟩
  | succ d ih =>
    intro c k hc hk
    have h : ¬ (20 : Int32) ≤ nI c := nI_ge (b := 20) (by omega) (by decide)
    by_cases z : lN k = 0
    · exact ⟨nI c, fun post hp => br_f h (br_t z hp), fun post hp => br_t z hp⟩
    · obtain ⟨r, hX, hY⟩ := ih (c + 1) (k / 10) (by omega) (by omega)
      have e1 : wn_qu (lN k) 10 = lN (k / 10) := wn_10 (by omega)
      have e2 : lN k / 10 = lN (k / 10) := pk_lDiv (b := 10) hk (by decide) (by decide)
      refine ⟨r, fun post hp => br_f h (br_f z (wk_xq fun y ey => ?_)), fun post hp => br_f z (br_f h ⟨by decide, fun q eq y ey => ?_⟩)⟩
      · rw [ey, nI_1, e1]; exact hX post hp
      · rw [ey, nI_1, eq, e2]; exact hY post hp
theorem wl_at (u v : Nat → Int64) (j : Nat) (hj : j < 2 ^ 31) : ∀ (d c : Nat) (x : Int64), c + d = j → ∃ r : Int32, (∀ post : Int32 → Prop, post r → wX_digitAt_31 post (nI j) u (d + 1) x (nI c)) ∧ (∀ post : Int32 → Prop, post r → wY_digitAt_32 post (nI j) v (d + 1) x (nI c)) := by
  intro d
  induction d with
  | zero =>
    intro c x hc
    have hc : c = j := by omega
    subst hc
    have h : nI c ≤ nI c := nI_le (Nat.le_refl c) hj
    exact ⟨(x - wn_qu x 10 * 10).toInt32, fun post hp => br_t h (wk_xr hp), fun post hp => br_t h (wk_yq hp)⟩
  | succ d ih =>
    intro c x hc
    have h : ¬ nI j ≤ nI c := nI_ge (by omega) hj
    obtain ⟨r, hX, hY⟩ := ih (c + 1) (wn_qu x 10) (by omega)
    refine ⟨r, fun post hp => br_f h (wk_xq fun y ey => ?_), fun post hp => br_f h (wk_yq fun y ey => ?_)⟩
    · rw [ey, nI_1]; exact hX post hp
    · rw [ey, nI_1]; exact hY post hp
theorem wl_p1 {i : Nat} (h : i < 32) : ¬ lN (2 ^ (i + 1)) ≤ 1 := by
  have h1 : 2 ^ (i + 1) ≤ 2 ^ 32 := Nat.pow_le_pow_right (by decide) (by omega)
  have h2 : 2 ^ 1 ≤ 2 ^ (i + 1) := Nat.pow_le_pow_right (by decide) (by omega)
  have h3 : ¬ lN (2 ^ (i + 1)) ≤ lN 1 := by
    rw [pk_lLE (Nat.lt_of_le_of_lt h1 (by decide)) (by decide)]
    omega
  exact h3
theorem wl_root (u : Nat → Int64) (p : Int32) (hp0 : vp_in p 8) : ∀ j g : Nat, j ≤ 32 → (g + 1) * 2 ^ j ≤ 4294967296 → ∃ r : Int64, (∀ post : Int64 → Prop, post r → wX_root_23 post (u p.toNatClampNeg) u (j + 1) (lN (g * 2 ^ j)) (nI j + (-1))) ∧ (∀ post : Int64 → Prop, post r → wY_root_17 post p u (j + 1) (lN (g * 2 ^ j)) (lN ((g + 1) * 2 ^ j))) := by
  intro j
  induction j with
  | zero =>
    intro g _ hb
    have h : nI 0 + (-1) < 0 := by decide
    have h1 : lN ((g + 1) * 2 ^ 0) - lN (g * 2 ^ 0) ≤ 1 := by rw [wn_gap]; decide
    exact ⟨lN (g * 2 ^ 0), fun post hp => br_t h hp, fun post hp => br_t h1 hp⟩
  | succ i ih =>
    intro g hi hb
    have hg : (2 * g + 1 + 1) * 2 ^ i = (g + 1) * 2 ^ (i + 1) := by
      rw [wn_two (g := g + 1) (i := i)]
      exact congrArg (· * 2 ^ i) (by omega)
    have hn : ¬ nI i < 0 := nI_pos (by omega)
    have hgap : ¬ lN ((g + 1) * 2 ^ (i + 1)) - lN (g * 2 ^ (i + 1)) ≤ 1 := by rw [wn_gap]; exact wl_p1 (by omega)
    have e1 := wn_or (g := g) (i := i) (by omega) hb
    have e2 := wn_mid (g := g) (i := i) hb
    have b1 : (2 * g + 1 + 1) * 2 ^ i ≤ 4294967296 := by rw [hg]; exact hb
    have b0 : (2 * g + 1) * 2 ^ i ≤ 4294967296 := Nat.le_trans (Nat.mul_le_mul_right _ (by omega)) b1
    rw [pk_m1]
    by_cases c : uN (u p.toNatClampNeg) < uN (lN ((2 * g + 1) * 2 ^ i) * lN ((2 * g + 1) * 2 ^ i))
    · obtain ⟨r, hX, hY⟩ := ih (2 * g) (by omega) b0
      refine ⟨r, fun post hp => br_f hn fun t et => ?_, fun post hp => br_f hgap ⟨by decide, fun t et => ?_⟩⟩
      · rw [et, e1]
        refine wk_xb (fun _ => br_f (by decide) fun y ey => ?_) (fun n => absurd c n)
        rw [ey, wn_two (g := g) (i := i)]
        exact hX post hp
      · rw [et, e2]
        refine ⟨hp0, wk_yb (fun _ => br_f (by decide) ?_) (fun n => absurd c n)⟩
        rw [wn_two (g := g) (i := i)]
        exact hY post hp
    · obtain ⟨r, hX, hY⟩ := ih (2 * g + 1) (by omega) b1
      refine ⟨r, fun post hp => br_f hn fun t et => ?_, fun post hp => br_f hgap ⟨by decide, fun t et => ?_⟩⟩
      · rw [et, e1]
        refine wk_xb (fun n => absurd n c) (fun _ => br_t rfl fun y ey => ?_)
        rw [ey]
        exact hX post hp
      · rw [et, e2]
        refine ⟨hp0, wk_yb (fun n => absurd n c) (fun _ => br_t rfl ?_)⟩
        rw [← hg]
        exact hY post hp
