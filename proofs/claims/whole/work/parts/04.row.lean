/-! the walk of the row: the component's, with the period; the reference's, with 300 terms -/
theorem sd_up1 {n i : Nat} (a : Nat → Int32) (h : i < 2 ^ 31) : upd (sd_fill n i a) (nI i).toNatClampNeg (nI (sd_T n i)) = sd_fill n (i + 1) a := by
  rw [nI_clamp h, sd_fillS]
theorem sx_walk1 {n : Nat} (hV : sd_V n) (a : Nat → Int32) {post : SX → Prop} (hp : post (nI n, nI (sd_P n), sd_fill n 101 a)) : ∀ d i : Nat, i + d = 101 → 1 ≤ i → wX_walkRow_26 post (nI (sd_r n)) (nI n) (d + 1) (nI (sd_st n i).1) (nI (sd_st n i).2) (nI (sd_st n 1).1) (nI (sd_st n 1).2) (nI i) (nI (if i ≤ sd_P n then 0 else sd_P n)) (sd_fill n i a) := by
  have hP := sd_P1 hV
  intro d
  induction d with
  | zero =>
    intro i hi h1
    have e : i = 101 := by omega
    subst e
    rw [if_neg (by omega)]
    exact br_t (nI_le (a := 101) (b := 101) (by omega) (by omega)) hp
  | succ d ih =>
    intro i hi h1
    have hok := sd_okA hV i
    have hok1 := sd_okA hV (i + 1)
    have hok0 := sd_okA hV 1
    have hz : ¬ nI (sd_st n i).2 = 0 := nI_ne0 hok.1 (by omega)
    have hz2 : ¬ nI (sd_st n i).2 ≤ 0 := nI_nle hok.1 (by omega)
    have hi0 : ¬ nI i = 0 := nI_ne0 (by omega) (by omega)
    have hg : ¬ (101 : Int32) ≤ nI i := nI_ge (b := 101) (by omega) (by omega)
    have hin : vp_in (nI i) 101 := vp_in_nI (by omega) (by omega)
    have hk := ih (i + 1) (by omega) (by omega)
    by_cases hl : i ≤ sd_P n
    · rw [if_pos hl]
      refine br_f hg (br_f hz2 ⟨hz, nm_r (sd_tI hV i) ⟨hin, nm_r (sd_up1 a (by omega)) (nm_r (sd_mI hV i) ⟨hz, nm_r (sd_dI hV i) (br_f hi0 (br_t nI_0 ?_))⟩)⟩⟩)
      by_cases hq : i = sd_P n
      · have e := sd_per hV 0
        rw [← hq, show 0 + 1 + i = i + 1 from by omega, show 0 + 1 = 1 from rfl] at e
        rw [if_neg (by omega), ← hq] at hk
        exact br_t (by rw [e]) (br_t (by rw [e]) (nm_r (nI_1 i) hk))
      · rw [if_pos (by omega)] at hk
        have hne := sd_c3 n (sd_Vlt hV) hV i (by omega)
        by_cases e1 : (sd_st n (i + 1)).1 = (sd_st n 1).1
        · have e2 : ¬ (sd_st n (i + 1)).2 = (sd_st n 1).2 := fun e2 => hne ⟨h1, by omega, Prod.ext e1 e2⟩
          exact br_t (by rw [e1]) (br_f (fun z => e2 ((nI_eq (by omega) (by omega)).mp z)) (nm_r (nI_1 i) hk))
        · exact br_f (fun z => e1 ((nI_eq (by omega) (by omega)).mp z)) (nm_r (nI_1 i) hk)
    · rw [if_neg hl]
      rw [if_neg (by omega)] at hk
      exact br_f hg (br_f hz2 ⟨hz, nm_r (sd_tI hV i) ⟨hin, nm_r (sd_up1 a (by omega)) (nm_r (sd_mI hV i) ⟨hz, nm_r (sd_dI hV i) (br_f hi0 (br_f (nI_ne0 (by omega) (by omega)) (nm_r (nI_1 i) hk)))⟩)⟩⟩)
theorem sx_walk0 {n : Nat} (hV : sd_V n) (a : Nat → Int32) {post : SX → Prop} (hp : post (nI n, nI (sd_P n), sd_fill n 101 a)) : wX_walkRow_26 post (nI (sd_r n)) (nI n) 102 (nI (sd_st n 0).1) (nI (sd_st n 0).2) 0 0 (nI 0) 0 (sd_fill n 0 a) := by
  have hP := sd_P1 hV
  have hok := sd_okA hV 0
  have hz : ¬ nI (sd_st n 0).2 = 0 := nI_ne0 hok.1 (by omega)
  have hz2 : ¬ nI (sd_st n 0).2 ≤ 0 := nI_nle hok.1 (by omega)
  have hg : ¬ (101 : Int32) ≤ nI 0 := nI_ge (b := 101) (by omega) (by omega)
  have hin : vp_in (nI 0) 101 := vp_in_nI (by omega) (by omega)
  have hk := sx_walk1 hV a hp 100 1 (by omega) (by omega)
  rw [if_pos (by omega)] at hk
  exact br_f hg (br_f hz2 ⟨hz, nm_r (sd_tI hV 0) ⟨hin, nm_r (sd_up1 a (by omega)) (nm_r (sd_mI hV 0) ⟨hz, nm_r (sd_dI hV 0) (br_t nI_0 (nm_r (nI_1 0) hk))⟩)⟩⟩)
theorem sx_walkRow {n : Nat} (hV : sd_V n) {p : Int32} {a : Nat → Int32} {post : SX → Prop} (hp : post (nI n, nI (sd_P n), sd_fill n 101 a)) : wpX_walkRow post (nI n, p, a) := by
  unfold wpX_walkRow
  dsimp only
  have hc := sd_c0 n (sd_Vlt hV) hV.1
  have hn := hV.2.1
  have h := sx_walk0 hV a hp
  rw [sd_fill0] at h
  exact sx_root (by omega) hc.1 hc.2.1 ⟨102, h⟩
theorem sy_write15 {n : Nat} (hV : sd_V n) (a : Nat → Int32) {post : SY → Prop} (hp : post (nI n, sd_fill n 300 a)) : ∀ d i : Nat, i + d = 300 → wY_write_15 post (nI (sd_r n)) (nI n) (d + 1) (nI (sd_st n i).1) (nI (sd_st n i).2) (nI i) (sd_fill n i a) := by
  intro d
  induction d with
  | zero =>
    intro i hi
    have e : i = 300 := by omega
    subst e
    exact br_t (nI_le (a := 300) (b := 300) (by omega) (by omega)) hp
  | succ d ih =>
    intro i hi
    have hok := sd_okA hV i
    have hz : ¬ nI (sd_st n i).2 = 0 := nI_ne0 hok.1 (by omega)
    have hg : ¬ (300 : Int32) ≤ nI i := nI_ge (b := 300) (by omega) (by omega)
    have hin : vp_in (nI i) 300 := vp_in_nI (by omega) (by omega)
    have hk := ih (i + 1) (by omega)
    exact br_f hg (br_f hz ⟨hz, nm_r (sd_tI hV i) ⟨hin, nm_r (sd_up1 a (by omega)) (nm_r (sd_mI hV i) ⟨hz, nm_r (sd_dI hV i) (nm_r (nI_1 i) hk)⟩)⟩⟩)
theorem sy_write {n : Nat} (hV : sd_V n) {a : Nat → Int32} {post : SY → Prop} (hp : post (nI n, sd_fill n 300 a)) : wpY_write post (nI n, a) := by
  unfold wpY_write
  dsimp only
  have hc := sd_c0 n (sd_Vlt hV) hV.1
  have hn := hV.2.1
  have h := sy_write15 hV a hp 300 0 (by omega)
  rw [sd_fill0] at h
  exact sy_root (by omega) hc.1 hc.2.1 ⟨301, h⟩
/-! the reference's search for the period -/
theorem sy_rep2 {n q : Nat} (hV : sd_V n) (b : Nat → Int32) (hq : q < 150) : ∀ d i : Nat, i + q + d = 300 → ∃ z : Int32, ((z = 1 ∧ ∀ j, i ≤ j → j + q < 300 → sd_T n j = sd_T n (j + q)) ∨ (z = 0 ∧ ¬ ∀ j, i ≤ j → j + q < 300 → sd_T n j = sd_T n (j + q))) ∧ ∀ post : Int32 → Prop, post z → wY_repeats_2 post (nI q) (nI n) (sd_fill n 300 b) (d + 1) (nI i) := by
  intro d
  induction d with
  | zero =>
    intro i hi
    have hg : (300 : Int32) ≤ nI i + nI q := by
      rw [nI_add]
      exact nI_le (a := 300) (by omega) (by omega)
    exact ⟨1, Or.inl ⟨rfl, fun j h1 h2 => by omega⟩, fun post hp => br_t hg hp⟩
  | succ d ih =>
    intro i hi
    have hg : ¬ (300 : Int32) ≤ nI i + nI q := by
      rw [nI_add]
      exact nI_ge (b := 300) (by omega) (by omega)
    have hi1 : vp_in (nI i) 300 := vp_in_nI (by omega) (by omega)
    have hi2 : vp_in (nI i + nI q) 300 := by
      rw [nI_add]
      exact vp_in_nI (by omega) (by omega)
    have e1 : sd_fill n 300 b (nI i).toNatClampNeg = nI (sd_T n i) := by
      rw [nI_clamp (by omega)]
      exact sd_fillA (by omega)
    have e2 : sd_fill n 300 b (nI i + nI q).toNatClampNeg = nI (sd_T n (i + q)) := by
      rw [nI_add, nI_clamp (by omega)]
      exact sd_fillA (by omega)
    have t1 := sd_Tlt hV i
    have t2 := sd_Tlt hV (i + q)
    by_cases e : sd_T n i = sd_T n (i + q)
    · obtain ⟨z, hz, hw⟩ := ih (i + 1) (by omega)
      refine ⟨z, ?_, fun post hp => br_f hg ⟨hi1, hi2, br_t (by rw [e1, e2, e]) (nm_r (nI_1 i) (hw post hp))⟩⟩
      rcases hz with ⟨rfl, h⟩ | ⟨rfl, h⟩
      · refine Or.inl ⟨rfl, fun j h1 h2 => ?_⟩
        by_cases hj : j = i
        · rw [hj]
          exact e
        · exact h j (by omega) h2
      · exact Or.inr ⟨rfl, fun g => h (fun j h1 h2 => g j (by omega) h2)⟩
    · refine ⟨0, Or.inr ⟨rfl, fun g => e (g i (by omega) (by omega))⟩, fun post hp => br_f hg ⟨hi1, hi2, br_f ?_ hp⟩⟩
      rw [e1, e2, nI_eq (by omega) (by omega)]
      exact e
theorem sy_repT {n : Nat} (hV : sd_V n) (b : Nat → Int32) {post : Int32 → Prop} (hp : post 1) : wpY_repeats post (nI n, sd_fill n 300 b) (nI (sd_P n)) := by
  have hP := sd_P1 hV
  obtain ⟨z, hz, hw⟩ := sy_rep2 (q := sd_P n) hV b (by omega) (299 - sd_P n) 1 (by omega)
  rcases hz with ⟨rfl, h⟩ | ⟨rfl, h⟩
  · exact ⟨_, hw post hp⟩
  · exact absurd (fun j h1 _ => (sd_Tper hV h1).symm) h
theorem sy_repF {n q : Nat} (hV : sd_V n) (b : Nat → Int32) (h0 : 1 ≤ q) (hq : q < sd_P n) {post : Int32 → Prop} (hp : post 0) : wpY_repeats post (nI n, sd_fill n 300 b) (nI q) := by
  have hP := sd_P1 hV
  obtain ⟨z, hz, hw⟩ := sy_rep2 (q := q) hV b (by omega) (299 - q) 1 (by omega)
  rcases hz with ⟨rfl, h⟩ | ⟨rfl, h⟩
  · exact absurd ⟨h0, hq, sd_eT (fun i h1 h2 => h i h1 (by omega))⟩ (sd_c4 n (sd_Vlt hV) hV q (by omega))
  · exact ⟨_, hw post hp⟩
theorem sy_per6 {n : Nat} (hV : sd_V n) (b : Nat → Int32) {post : Int32 → SY → Prop} (hp : post (nI (sd_P n)) (nI n, sd_fill n 300 b)) : ∀ d q : Nat, q + d = sd_P n → 1 ≤ q → wY_period_6 post (nI n) (sd_fill n 300 b) (d + 1) (nI q) := by
  have hP := sd_P1 hV
  intro d
  induction d with
  | zero =>
    intro q hq h1
    have e : q = sd_P n := by omega
    rw [e]
    have hg : ¬ (150 : Int32) ≤ nI (sd_P n) := nI_ge (b := 150) (by omega) (by omega)
    exact br_f hg (sy_repT hV b (br_f (by decide) hp))
  | succ d ih =>
    intro q hq h1
    have hg : ¬ (150 : Int32) ≤ nI q := nI_ge (b := 150) (by omega) (by omega)
    exact br_f hg (sy_repF hV b h1 (by omega) (br_t rfl (nm_r (nI_1 q) (ih (q + 1) (by omega) (by omega)))))
