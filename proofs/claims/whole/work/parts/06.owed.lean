/-! what is owed -/
/-- both sides hold the same eight registers -/
def i_Rel (_ : Nat) (u : SX) (v : SY) : Prop := u = v
theorem i_up {k : Nat} {u : SX} {v : SY} (h : i_Rel k u v) : i_Rel (k + 4) u v := h
theorem i_vc0 : wpX_init (fun u => wpY_init (fun v => i_Rel 0 u v)) := rfl
theorem wi_10 (x : Int32) : x < 10 ↔ x ≤ 9 := by
  have h1 : (10 : Int32).toInt = 10 := by decide
  have h2 : (9 : Int32).toInt = 9 := by decide
  rw [Int32.lt_iff_toInt_lt, Int32.le_iff_toInt_le, h1, h2]
  omega
theorem wi_20 (x : Int32) : x < 20 ↔ x ≤ 19 := by
  have h1 : (20 : Int32).toInt = 20 := by decide
  have h2 : (19 : Int32).toInt = 19 := by decide
  rw [Int32.lt_iff_toInt_lt, Int32.le_iff_toInt_le, h1, h2]
  omega
theorem i_vc_set {k : Nat} {u : SX} {v : SY} (I : i_Rel k u v) (hk : k + 4 ≤ 2048) (v1 : Int32) (a1 : Int64) : wpX_set (fun r u' => wpY_set (fun r' v' => r' = r ∧ i_Rel (k + 4) u' v') v v1 a1) u v1 a1 := by
  cases I
  unfold wpX_set wpY_set
  dsimp only
  rcases wk_reg v1 with ⟨hi, hX, hY⟩ | ⟨hX, hY⟩
  · refine hX _ (br_f (by decide) ⟨hi, fun a ea => ?_⟩)
    exact hY _ _ (br_f (by decide) ⟨hi, fun b eb => ⟨rfl, ea.trans eb.symm⟩⟩)
  · refine hX _ (br_t rfl ?_)
    exact hY _ _ (br_t rfl ⟨rfl, rfl⟩)
theorem i_vc_operate {k : Nat} {u : SX} {v : SY} (I : i_Rel k u v) (hk : k + 4 ≤ 2048) (v1 : Int32) (v2 : Int32) (v3 : Int32) : wpX_operate (fun r u' => wpY_operate (fun r' v' => r' = r ∧ i_Rel (k + 4) u' v') v v1 v2 v3) u v1 v2 v3 := by
  cases I
  unfold wpX_operate wpY_operate
  dsimp only
  by_cases h0 : v1 < 0
  · exact br_t h0 (br_t h0 ⟨rfl, rfl⟩)
  · by_cases h15 : v1 ≤ 15
    · rcases wk_reg v2 with ⟨hi, hX, hY⟩ | ⟨hX, hY⟩
      · obtain ⟨j, hj, e⟩ := nI_of2 (M := 15) (n := 15) (by decide) h0 h15
        have i1 : vp_in (v3 &&& 7) 8 := pk_andIn v3 3 (by decide) (by decide)
        have i2 : vp_in ((v3 >>> ((3 : Int32) &&& 31)) &&& 7) 8 := pk_andIn _ 3 (by decide) (by decide)
        have R := wo_all j hj (u (v3 &&& 7).toNatClampNeg) (u ((v3 >>> ((3 : Int32) &&& 31)) &&& 7).toNatClampNeg)
        rw [← e] at R
        obtain ⟨r, rX, rY⟩ := R
        refine br_f h0 (br_t h15 (hX _ (br_f (by decide) ⟨i1, nm_e ⟨i2, nm_e (rX _ ⟨hi, fun a ea => ?_⟩)⟩⟩)))
        refine br_f h0 (br_t h15 (hY _ _ (br_f (by decide) ⟨i1, nm_e ⟨i2, nm_e (rY _ _ ⟨hi, fun b eb => ?_⟩)⟩⟩)))
        exact ⟨rfl, ea.trans eb.symm⟩
      · refine br_f h0 (br_t h15 (hX _ (br_t rfl ?_)))
        exact br_f h0 (br_t h15 (hY _ _ (br_t rfl ⟨rfl, rfl⟩)))
    · exact br_f h0 (br_f h15 (br_f h0 (br_f h15 ⟨rfl, rfl⟩)))
theorem i_vc_digit {k : Nat} {u : SX} {v : SY} (I : i_Rel k u v) (hk : k + 4 ≤ 2048) (v1 : Int32) (v2 : Int32) : wpX_digit (fun r u' => wpY_digit (fun r' v' => r' = r ∧ i_Rel (k + 4) u' v') v v1 v2) u v1 v2 := by
  cases I
  unfold wpX_digit wpY_digit
  dsimp only
  rcases wk_reg v1 with ⟨hi, hX, hY⟩ | ⟨hX, hY⟩
  · by_cases h0 : v2 < 0
    · refine hX _ (br_f (by decide) (br_t h0 ?_))
      exact hY _ _ (br_f (by decide) (br_t h0 ⟨rfl, rfl⟩))
    · by_cases h9 : v2 < 10
      · refine hX _ (br_f (by decide) (br_f h0 (br_t h9 ⟨hi, hi, fun a ea => ?_⟩)))
        exact hY _ _ (br_f (by decide) (br_f h0 (br_t ((wi_10 v2).mp h9) ⟨hi, hi, fun b eb => ⟨rfl, ea.trans eb.symm⟩⟩)))
      · refine hX _ (br_f (by decide) (br_f h0 (br_f h9 ?_)))
        exact hY _ _ (br_f (by decide) (br_f h0 (br_f (fun z => h9 ((wi_10 v2).mpr z)) ⟨rfl, rfl⟩)))
  · refine hX _ (br_t rfl ?_)
    exact hY _ _ (br_t rfl ⟨rfl, rfl⟩)
theorem i_vc_swap {k : Nat} {u : SX} {v : SY} (I : i_Rel k u v) (hk : k + 4 ≤ 2048) (v1 : Int32) (v2 : Int32) : wpX_swap (fun r u' => wpY_swap (fun r' v' => r' = r ∧ i_Rel (k + 4) u' v') v v1 v2) u v1 v2 := by
  cases I
  unfold wpX_swap wpY_swap
  dsimp only
  rcases wk_reg v1 with ⟨hi, hX, hY⟩ | ⟨hX, hY⟩
  · rcases wk_reg v2 with ⟨hi2, hX2, hY2⟩ | ⟨hX2, hY2⟩
    · refine hX _ (br_f (by decide) (hX2 _ (br_f (by decide) ⟨hi, nm_e ⟨hi2, hi, nm_e ⟨hi2, fun a ea => ?_⟩⟩⟩)))
      exact hY _ _ (br_f (by decide) (hY2 _ _ (br_f (by decide) ⟨hi, nm_e ⟨hi2, hi, nm_e ⟨hi2, fun b eb => ⟨rfl, ea.trans eb.symm⟩⟩⟩⟩)))
    · refine hX _ (br_f (by decide) (hX2 _ (br_t rfl ?_)))
      exact hY _ _ (br_f (by decide) (hY2 _ _ (br_t rfl ⟨rfl, rfl⟩)))
  · refine hX _ (br_t rfl ?_)
    exact hY _ _ (br_t rfl ⟨rfl, rfl⟩)
theorem i_vc_get {k : Nat} {u : SX} {v : SY} (I : i_Rel k u v) (hk : k + 4 ≤ 2048) (v1 : Int32) : wpX_get (fun r => wpY_get (fun r' => r' = r ∧ i_Rel (k + 4) u v) v v1) u v1 := by
  cases I
  unfold wpX_get wpY_get
  dsimp only
  rcases wk_reg v1 with ⟨hi, hX, hY⟩ | ⟨hX, hY⟩
  · refine hX _ (br_f (by decide) ⟨hi, ?_⟩)
    exact hY _ _ (br_f (by decide) ⟨hi, rfl, rfl⟩)
  · refine hX _ (br_t rfl ?_)
    exact hY _ _ (br_t rfl ⟨rfl, rfl⟩)
theorem i_vc_less {k : Nat} {u : SX} {v : SY} (I : i_Rel k u v) (hk : k + 4 ≤ 2048) (v1 : Int32) (v2 : Int32) : wpX_less (fun r => wpY_less (fun r' => r' = r ∧ i_Rel (k + 4) u v) v v1 v2) u v1 v2 := by
  cases I
  unfold wpX_less wpY_less
  dsimp only
  rcases wk_reg v1 with ⟨hi, hX, hY⟩ | ⟨hX, hY⟩
  · rcases wk_reg v2 with ⟨hi2, hX2, hY2⟩ | ⟨hX2, hY2⟩
    · by_cases c : u v2.toNatClampNeg ≤ u v1.toNatClampNeg
      · refine hX _ (br_f (by decide) (hX2 _ (br_f (by decide) ⟨hi, hi2, br_t c ?_⟩)))
        exact hY _ _ (br_f (by decide) (hY2 _ _ (br_f (by decide) ⟨hi, hi2, br_t c ⟨rfl, rfl⟩⟩)))
      · refine hX _ (br_f (by decide) (hX2 _ (br_f (by decide) ⟨hi, hi2, br_f c ?_⟩)))
        exact hY _ _ (br_f (by decide) (hY2 _ _ (br_f (by decide) ⟨hi, hi2, br_f c ⟨rfl, rfl⟩⟩)))
    · refine hX _ (br_f (by decide) (hX2 _ (br_t rfl ?_)))
      exact hY _ _ (br_f (by decide) (hY2 _ _ (br_t rfl ⟨rfl, rfl⟩)))
  · refine hX _ (br_t rfl ?_)
    exact hY _ _ (br_t rfl ⟨rfl, rfl⟩)
theorem i_vc_below {k : Nat} {u : SX} {v : SY} (I : i_Rel k u v) (hk : k + 4 ≤ 2048) (v1 : Int32) (v2 : Int32) : wpX_below (fun r => wpY_below (fun r' => r' = r ∧ i_Rel (k + 4) u v) v v1 v2) u v1 v2 := by
  cases I
  unfold wpX_below wpY_below
  dsimp only
  rcases wk_reg v1 with ⟨hi, hX, hY⟩ | ⟨hX, hY⟩
  · rcases wk_reg v2 with ⟨hi2, hX2, hY2⟩ | ⟨hX2, hY2⟩
    · refine hX _ (br_f (by decide) (hX2 _ (br_f (by decide) ⟨hi, hi2, wk_xb (fun c => br_f (by decide) ?_) (fun c => br_t rfl ?_)⟩)))
      · exact hY _ _ (br_f (by decide) (hY2 _ _ (br_f (by decide) ⟨hi, hi2, wk_yb (fun _ => br_f (by decide) ⟨rfl, rfl⟩) (fun n => absurd c n)⟩)))
      · exact hY _ _ (br_f (by decide) (hY2 _ _ (br_f (by decide) ⟨hi, hi2, wk_yb (fun n => absurd n c) (fun _ => br_t rfl ⟨rfl, rfl⟩)⟩)))
    · refine hX _ (br_f (by decide) (hX2 _ (br_t rfl ?_)))
      exact hY _ _ (br_f (by decide) (hY2 _ _ (br_t rfl ⟨rfl, rfl⟩)))
  · refine hX _ (br_t rfl ?_)
    exact hY _ _ (br_t rfl ⟨rfl, rfl⟩)
theorem i_vc_digits {k : Nat} {u : SX} {v : SY} (I : i_Rel k u v) (hk : k + 4 ≤ 2048) (v1 : Int32) : wpX_digits (fun r => wpY_digits (fun r' => r' = r ∧ i_Rel (k + 4) u v) v v1) u v1 := by
  cases I
  unfold wpX_digits wpY_digits
  dsimp only
  rcases wk_reg v1 with ⟨hi, hX, hY⟩ | ⟨hX, hY⟩
  · obtain ⟨n, hn, e⟩ := wb_of (u v1.toNatClampNeg)
    have e1 : wn_qu (u v1.toNatClampNeg) 10 = lN (n / 10) := by rw [e]; exact wn_10 hn
    obtain ⟨r, rX, rY⟩ := wl_dig u u 19 1 (n / 10) (by decide) (by omega)
    refine hX _ (br_f (by decide) ⟨hi, wk_xq ⟨20, ?_⟩⟩)
    rw [e1]
    refine rX _ ?_
    refine hY _ _ (br_f (by decide) ⟨hi, wk_yq ⟨20, ?_⟩⟩)
    rw [e1]
    exact rY _ ⟨rfl, rfl⟩
  · refine hX _ (br_t rfl ?_)
    exact hY _ _ (br_t rfl ⟨rfl, rfl⟩)
theorem i_vc_digitAt {k : Nat} {u : SX} {v : SY} (I : i_Rel k u v) (hk : k + 4 ≤ 2048) (v1 : Int32) (v2 : Int32) : wpX_digitAt (fun r => wpY_digitAt (fun r' => r' = r ∧ i_Rel (k + 4) u v) v v1 v2) u v1 v2 := by
  cases I
  unfold wpX_digitAt wpY_digitAt
  dsimp only
  rcases wk_reg v1 with ⟨hi, hX, hY⟩ | ⟨hX, hY⟩
  · by_cases h0 : v2 < 0
    · refine hX _ (br_f (by decide) (br_t h0 ?_))
      exact hY _ _ (br_f (by decide) (br_t h0 ⟨rfl, rfl⟩))
    · by_cases h9 : v2 < 20
      · obtain ⟨j, hj, e⟩ := nI_of h0
        obtain ⟨r, rX, rY⟩ := wl_at u u j hj j 0 (u v1.toNatClampNeg) (by omega)
        rw [← e] at rX rY
        refine hX _ (br_f (by decide) (br_f h0 (br_t h9 ⟨hi, nm_e ⟨j + 1, rX _ ?_⟩⟩)))
        exact hY _ _ (br_f (by decide) (br_f h0 (br_t ((wi_20 v2).mp h9) ⟨hi, nm_e ⟨j + 1, rY _ ⟨rfl, rfl⟩⟩⟩)))
      · refine hX _ (br_f (by decide) (br_f h0 (br_f h9 ?_)))
        exact hY _ _ (br_f (by decide) (br_f h0 (br_f (fun z => h9 ((wi_20 v2).mpr z)) ⟨rfl, rfl⟩)))
  · refine hX _ (br_t rfl ?_)
    exact hY _ _ (br_t rfl ⟨rfl, rfl⟩)
theorem i_vc_root {k : Nat} {u : SX} {v : SY} (I : i_Rel k u v) (hk : k + 4 ≤ 2048) (v1 : Int32) : wpX_root (fun r => wpY_root (fun r' => r' = r ∧ i_Rel (k + 4) u v) v v1) u v1 := by
  cases I
  unfold wpX_root wpY_root
  dsimp only
  rcases wk_reg v1 with ⟨hi, hX, hY⟩ | ⟨hX, hY⟩
  · obtain ⟨r, rX, rY⟩ := wl_root u v1 hi 32 0 (by decide) (by decide)
    have e1 : lN (0 * 2 ^ 32) = 0 := by decide
    have e2 : nI 32 + (-1) = 31 := by decide
    have e3 : lN ((0 + 1) * 2 ^ 32) = 4294967296 := by decide
    rw [e1, e2] at rX
    rw [e1, e3] at rY
    refine hX _ (br_f (by decide) ⟨hi, nm_e ⟨33, rX _ ?_⟩⟩)
    exact hY _ _ (br_f (by decide) ⟨33, rY _ ⟨rfl, rfl⟩⟩)
  · refine hX _ (br_t rfl ?_)
    exact hY _ _ (br_t rfl ⟨rfl, rfl⟩)
