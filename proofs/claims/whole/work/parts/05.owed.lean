/-- both hold the same n; the component's terms and period are those of its row -/
def i_Rel (_ : Nat) (u : SX) (v : SY) : Prop := ∃ (n : Nat) (a b : Nat → Int32), sd_V n ∧ u = (nI n, nI (sd_P n), a) ∧ v = (nI n, b) ∧ ∀ j, j < 101 → a j = nI (sd_T n j)
theorem i_up {k : Nat} {u : SX} {v : SY} (h : i_Rel k u v) : i_Rel (k + 3) u v := h
theorem i_vc0 : wpX_init (fun u => wpY_init (fun v => i_Rel 0 u v)) := by
  unfold wpX_init wpY_init
  exact sx_walkRow (n := 2) (by decide) ⟨2, _, _, by decide, rfl, rfl, fun j hj => sd_fillA hj⟩
theorem i_vc_set {k : Nat} {u : SX} {v : SY} (I : i_Rel k u v) (hk : k + 3 ≤ 1536) (v1 : Int32) : wpX_set (fun r u' => wpY_set (fun r' v' => r' = r ∧ i_Rel (k + 3) u' v') v v1) u v1 := by
  obtain ⟨n, a, b, hV, rfl, rfl, h⟩ := I
  have J : i_Rel (k + 3) (nI n, nI (sd_P n), a) (nI n, b) := ⟨n, a, b, hV, rfl, rfl, h⟩
  unfold wpX_set wpY_set
  dsimp only
  by_cases c1 : v1 < 2
  · exact br_t c1 (br_t c1 ⟨rfl, J⟩)
  by_cases c2 : 120 < v1
  · exact br_f c1 (br_t c2 (br_f c1 (br_t c2 ⟨rfl, J⟩)))
  obtain ⟨q, hq, rfl⟩ : ∃ q : Nat, q ≤ 120 ∧ v1 = nI q := nI_of2 (M := 120) (by decide) (fun z => c1 (Int32.lt_trans z (by decide))) (Int32.not_lt.mp c2)
  have hq2 : 2 ≤ q := by
    by_cases z : 2 ≤ q
    · exact z
    · exact absurd (nI_lt (a := q) (b := 2) (by omega) (by omega)) c1
  have hc := sd_c0 q (by omega) hq2
  refine br_f c1 (br_f c2 (sx_isq (by omega) hc.1 hc.2.1 (fun g => ?_) (fun g => ?_)))
  · exact br_f (by decide) (br_f c1 (br_f c2 (sy_isq (by omega) hc.1 hc.2.1 (fun _ => br_f (by decide) ⟨rfl, J⟩) (fun z => absurd g z))))
  · refine br_t rfl (sx_walkRow ⟨hq2, hq, g⟩ ?_)
    exact br_f c1 (br_f c2 (sy_isq (by omega) hc.1 hc.2.1 (fun z => absurd z g) (fun _ => br_t rfl ⟨rfl, q, _, _, ⟨hq2, hq, g⟩, rfl, rfl, fun j hj => sd_fillA hj⟩)))
theorem i_vc_term {k : Nat} {u : SX} {v : SY} (I : i_Rel k u v) (hk : k + 3 ≤ 1536) (v1 : Int32) : wpX_term (fun r => wpY_term (fun r' v' => r' = r ∧ i_Rel (k + 3) u v') v v1) u v1 := by
  obtain ⟨n, a, b, hV, rfl, rfl, h⟩ := I
  unfold wpX_term wpY_term
  dsimp only
  by_cases c1 : v1 < 0
  · exact br_t c1 (br_t c1 ⟨rfl, n, a, b, hV, rfl, rfl, h⟩)
  obtain ⟨q, hq, rfl⟩ := nI_of c1
  by_cases c2 : q < 101
  · have c3 : nI q < 101 := nI_lt (b := 101) c2 (by omega)
    have c4 : nI q ≤ 100 := nI_le (b := 100) (by omega) (by omega)
    refine br_f c1 (br_t c3 ⟨vp_in_nI c2 (by omega), br_f c1 (br_t c4 (sy_write hV ⟨vp_in_nI (by omega) (by omega), ?_, n, a, _, hV, rfl, rfl, h⟩))⟩)
    rw [nI_clamp hq, h q c2]
    exact sd_fillA (by omega)
  · have c3 : ¬ nI q < 101 := nI_nlt (b := 101) (by omega) hq
    have c4 : ¬ nI q ≤ 100 := by
      intro z
      have z2 := (nI_leI (b := 100) hq (by omega)).mp z
      omega
    exact br_f c1 (br_f c3 (br_f c1 (br_f c4 ⟨rfl, n, a, b, hV, rfl, rfl, h⟩)))
theorem i_vc_period {k : Nat} {u : SX} {v : SY} (I : i_Rel k u v) (hk : k + 3 ≤ 1536) : wpX_period (fun r => wpY_period (fun r' v' => r' = r ∧ i_Rel (k + 3) u v') v) u := by
  obtain ⟨n, a, b, hV, rfl, rfl, h⟩ := I
  have hP := sd_P1 hV
  unfold wpX_period wpY_period
  dsimp only
  refine sy_write hV ?_
  exact ⟨_, sy_per6 hV b ⟨rfl, n, a, _, hV, rfl, rfl, h⟩ (sd_P n - 1) 1 (by omega) (by omega)⟩
theorem i_vc_solutions {k : Nat} {u : SX} {v : SY} (I : i_Rel k u v) (hk : k + 3 ≤ 1536) (v1 : Int32) (v2 : Int32) : wpX_solutions (fun r => wpY_solutions (fun r' => r' = r ∧ i_Rel (k + 3) u v) v v1 v2) u v1 v2 := by
  obtain ⟨n, a, b, hV, rfl, rfl, h⟩ := I
  have J : i_Rel (k + 3) (nI n, nI (sd_P n), a) (nI n, b) := ⟨n, a, b, hV, rfl, rfl, h⟩
  unfold wpX_solutions wpY_solutions
  dsimp only
  rcases sd_ref (nI n) v1 v2 (nI (sd_P n)) a b with ⟨hx, hy⟩ | ⟨⟨k1, k2, L, hL, rfl⟩, hx, hy⟩
  · exact hx _ (br_f (by decide) (hy _ (br_f (by decide) ⟨rfl, J⟩)))
  · obtain ⟨z, zx, zy⟩ := sd_sol (p := nI (sd_P n)) (a := a) (b := b) hV.2.1 hL k1 k2 (L + 1) 0 (by omega) 0
    exact hx _ (br_t rfl ⟨_, zx _ (hy _ (br_t rfl ⟨_, zy _ ⟨rfl, J⟩⟩))⟩)
theorem i_vc_next {k : Nat} {u : SX} {v : SY} (I : i_Rel k u v) (hk : k + 3 ≤ 1536) (v1 : Int32) (v2 : Int32) : wpX_next (fun r => wpY_next (fun r' => r' = r ∧ i_Rel (k + 3) u v) v v1 v2) u v1 v2 := by
  obtain ⟨n, a, b, hV, rfl, rfl, h⟩ := I
  have J : i_Rel (k + 3) (nI n, nI (sd_P n), a) (nI n, b) := ⟨n, a, b, hV, rfl, rfl, h⟩
  unfold wpX_next wpY_next
  dsimp only
  rcases sd_ref (nI n) v1 v2 (nI (sd_P n)) a b with ⟨hx, hy⟩ | ⟨⟨k1, k2, L, hL, rfl⟩, hx, hy⟩
  · exact hx _ (br_f (by decide) (hy _ (br_f (by decide) ⟨rfl, J⟩)))
  · obtain ⟨z, zx, zy⟩ := sd_next (p := nI (sd_P n)) (a := a) (b := b) hV.2.1 k1 k2 (3001 - L) L (by omega)
    exact hx _ (br_t rfl ⟨_, zx _ (hy _ (br_t rfl ⟨_, zy _ ⟨rfl, J⟩⟩))⟩)
theorem i_vc_root {k : Nat} {u : SX} {v : SY} (I : i_Rel k u v) (hk : k + 3 ≤ 1536) (v1 : Int32) (v2 : Int32) : wpX_root (fun r => wpY_root (fun r' => r' = r ∧ i_Rel (k + 3) u v) v v1 v2) u v1 v2 := by
  obtain ⟨n, a, b, hV, rfl, rfl, h⟩ := I
  have J : i_Rel (k + 3) (nI n, nI (sd_P n), a) (nI n, b) := ⟨n, a, b, hV, rfl, rfl, h⟩
  unfold wpX_root wpY_root
  dsimp only
  rcases sd_ref (nI n) v1 v2 (nI (sd_P n)) a b with ⟨hx, hy⟩ | ⟨⟨k1, k2, L, hL, rfl⟩, hx, hy⟩
  · exact hx _ (br_f (by decide) (hy _ (br_f (by decide) ⟨rfl, J⟩)))
  · obtain ⟨z, _, zx, zy⟩ := sd_find (p := nI (sd_P n)) (a := a) (b := b) hV.2.1 hL k1 k2
    exact hx _ (br_t rfl (zx _ (hy _ (br_t rfl (zy _ ⟨rfl, J⟩)))))
theorem i_vc_sum {k : Nat} {u : SX} {v : SY} (I : i_Rel k u v) (hk : k + 3 ≤ 1536) (v1 : Int32) (v2 : Int32) : wpX_sum (fun r => wpY_sum (fun r' => r' = r ∧ i_Rel (k + 3) u v) v v1 v2) u v1 v2 := by
  obtain ⟨n, a, b, hV, rfl, rfl, h⟩ := I
  have J : i_Rel (k + 3) (nI n, nI (sd_P n), a) (nI n, b) := ⟨n, a, b, hV, rfl, rfl, h⟩
  unfold wpX_sum wpY_sum
  dsimp only
  rcases sd_ref (nI n) v1 v2 (nI (sd_P n)) a b with ⟨hx, hy⟩ | ⟨⟨k1, k2, L, hL, rfl⟩, hx, hy⟩
  · exact hx _ (br_f (by decide) (hy _ (br_f (by decide) ⟨rfl, J⟩)))
  · obtain ⟨z, zx, zy⟩ := sd_sum (p := nI (sd_P n)) (a := a) (b := b) hV.2.1 hL k1 k2 (L + 1) 0 (by omega) 0
    exact hx _ (br_t rfl ⟨_, zx _ (hy _ (br_t rfl ⟨_, zy _ ⟨rfl, J⟩⟩))⟩)
