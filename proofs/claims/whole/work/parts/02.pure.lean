/-! the row of n as plain numbers: its states (m, d), its terms, its period -/
def sd_r (n : Nat) : Nat := if 100 ≤ n then 10 else if 81 ≤ n then 9 else if 64 ≤ n then 8 else if 49 ≤ n then 7 else if 36 ≤ n then 6 else if 25 ≤ n then 5 else if 16 ≤ n then 4 else if 9 ≤ n then 3 else if 4 ≤ n then 2 else 1
def sd_stp (n : Nat) (s : Nat × Nat) : Nat × Nat := ((sd_r n + s.1) / s.2 * s.2 - s.1, (n - ((sd_r n + s.1) / s.2 * s.2 - s.1) * ((sd_r n + s.1) / s.2 * s.2 - s.1)) / s.2)
def sd_st (n : Nat) : Nat → Nat × Nat
  | 0 => (0, 1)
  | i + 1 => sd_stp n (sd_st n i)
def sd_T (n i : Nat) : Nat := (sd_r n + (sd_st n i).1) / (sd_st n i).2
def sd_tab : List Nat := [0, 0, 1, 2, 0, 1, 2, 4, 2, 0, 1, 2, 2, 5, 4, 2, 0, 1, 2, 6, 2, 6, 6, 4, 2, 0, 1, 2, 4, 5, 2, 8, 4, 4, 4, 2, 0, 1, 2, 2, 2, 3, 2, 10, 8, 6, 12, 4, 2, 0, 1, 2, 6, 5, 6, 4, 2, 6, 7, 6, 4, 11, 4, 2, 0, 1, 2, 10, 2, 8, 6, 8, 2, 7, 5, 4, 12, 6, 4, 4, 2, 0, 1, 2, 2, 5, 10, 2, 6, 5, 2, 8, 8, 10, 16, 4, 4, 11, 4, 2, 0, 1, 2, 12, 2, 2, 9, 6, 8, 15, 2, 6, 6, 9, 6, 10, 10, 6, 10, 4, 2]
def sd_P (n : Nat) : Nat := sd_tab.getD n 0
abbrev sd_V (n : Nat) : Prop := 2 ≤ n ∧ n ≤ 120 ∧ ¬ sd_r n * sd_r n = n
abbrev sd_ok (n i : Nat) : Prop := 0 < (sd_st n i).2 ∧ (sd_st n i).2 < 1000 ∧ (sd_st n i).1 < 1000 ∧ (sd_st n i).1 ≤ sd_T n i * (sd_st n i).2 ∧ (sd_st n (i + 1)).1 * (sd_st n (i + 1)).1 ≤ n
theorem sd_c0 : ∀ n, n < 121 → 2 ≤ n → sd_r n * sd_r n ≤ n ∧ n < (sd_r n + 1) * (sd_r n + 1) ∧ sd_r n ≤ 10 := by decide +kernel
theorem sd_c1 : ∀ n, n < 121 → sd_V n → ∀ i, i < 17 → sd_ok n i := by decide +kernel
theorem sd_c2 : ∀ n, n < 121 → sd_V n → 1 ≤ sd_P n ∧ sd_P n ≤ 16 ∧ sd_st n (sd_P n + 1) = sd_st n 1 := by decide +kernel
theorem sd_c3 : ∀ n, n < 121 → sd_V n → ∀ j, j < 16 → ¬ (1 ≤ j ∧ j < sd_P n ∧ sd_st n (j + 1) = sd_st n 1) := by decide +kernel
def sd_e (n j : Nat) : Bool := (List.range 7).all (fun i => sd_T n (i + 1) == sd_T n (i + 1 + j))
theorem sd_c4 : ∀ n, n < 121 → sd_V n → ∀ j, j < 16 → ¬ (1 ≤ j ∧ j < sd_P n ∧ sd_e n j = true) := by decide +kernel
theorem sd_eT {n j : Nat} (h : ∀ i, 1 ≤ i → i < 8 → sd_T n i = sd_T n (i + j)) : sd_e n j = true :=
  List.all_eq_true.mpr fun i hi => beq_iff_eq.mpr (h (i + 1) (by omega) (by have := List.mem_range.mp hi; omega))
theorem sd_Vlt {n : Nat} (hV : sd_V n) : n < 121 := by have := hV.2.1; omega
theorem sd_P1 {n : Nat} (hV : sd_V n) : 1 ≤ sd_P n ∧ sd_P n ≤ 16 := ⟨(sd_c2 n (sd_Vlt hV) hV).1, (sd_c2 n (sd_Vlt hV) hV).2.1⟩
theorem sd_per {n : Nat} (hV : sd_V n) : ∀ i, sd_st n (i + 1 + sd_P n) = sd_st n (i + 1) := by
  intro i
  induction i with
  | zero =>
    have h := (sd_c2 n (sd_Vlt hV) hV).2.2
    rw [show 0 + 1 + sd_P n = sd_P n + 1 from by omega]
    exact h
  | succ i ih =>
    rw [show i + 1 + 1 + sd_P n = (i + 1 + sd_P n) + 1 from by omega]
    exact congrArg (sd_stp n) ih
theorem sd_okA {n : Nat} (hV : sd_V n) : ∀ i, sd_ok n i := by
  intro i
  induction i using Nat.strongRecOn with
  | _ i ih =>
    by_cases h : i < 17
    · exact sd_c1 n (sd_Vlt hV) hV i h
    · have hp := sd_P1 hV
      have h1 := ih (i - sd_P n) (by omega)
      have e : sd_st n i = sd_st n (i - sd_P n) := by
        have z := sd_per hV (i - sd_P n - 1)
        rw [show i - sd_P n - 1 + 1 + sd_P n = i from by omega, show i - sd_P n - 1 + 1 = i - sd_P n from by omega] at z
        exact z
      have e2 : sd_st n (i + 1) = sd_st n (i - sd_P n + 1) := congrArg (sd_stp n) e
      unfold sd_ok sd_T at h1 ⊢
      rw [e, e2]
      exact h1
theorem sd_Tper {n : Nat} (hV : sd_V n) {i : Nat} (h : 1 ≤ i) : sd_T n (i + sd_P n) = sd_T n i := by
  have z := sd_per hV (i - 1)
  rw [show i - 1 + 1 = i from by omega] at z
  unfold sd_T
  rw [z]
theorem sd_r10 {n : Nat} (hV : sd_V n) : sd_r n ≤ 10 := (sd_c0 n (sd_Vlt hV) hV.1).2.2
theorem sd_Tlt {n : Nat} (hV : sd_V n) (i : Nat) : sd_T n i < 2000 := by
  have h1 := sd_r10 hV
  have h2 := (sd_okA hV i).2.2.1
  have h3 : sd_T n i ≤ sd_r n + (sd_st n i).1 := Nat.div_le_self _ _
  omega
/-! one step of the row over ints -/
theorem sd_tI {n : Nat} (hV : sd_V n) (i : Nat) : (nI (sd_r n) + nI (sd_st n i).1) / nI (sd_st n i).2 = nI (sd_T n i) := by
  have h1 := sd_r10 hV
  have h2 := sd_okA hV i
  rw [nI_add, pk_div (by omega) h2.1 (by omega)]
  rfl
theorem sd_mI {n : Nat} (hV : sd_V n) (i : Nat) : nI (sd_T n i) * nI (sd_st n i).2 - nI (sd_st n i).1 = nI (sd_st n (i + 1)).1 := by
  have h2 := sd_okA hV i
  rw [pk_mul, pk_sub h2.2.2.2.1]
  rfl
theorem sd_dI {n : Nat} (hV : sd_V n) (i : Nat) : (nI n - nI (sd_st n (i + 1)).1 * nI (sd_st n (i + 1)).1) / nI (sd_st n i).2 = nI (sd_st n (i + 1)).2 := by
  have h2 := sd_okA hV i
  have h3 := hV.2.1
  rw [pk_mul, pk_sub h2.2.2.2.2, pk_div (by omega) h2.1 (by omega)]
  rfl
/-! the array of terms after i stores -/
def sd_fill (n i : Nat) (a : Nat → Int32) : Nat → Int32 := fun j => if j < i then nI (sd_T n j) else a j
theorem sd_fill0 (n : Nat) (a : Nat → Int32) : sd_fill n 0 a = a := funext fun j => if_neg (Nat.not_lt_zero j)
theorem sd_fillS (n i : Nat) (a : Nat → Int32) : upd (sd_fill n i a) i (nI (sd_T n i)) = sd_fill n (i + 1) a := by
  funext j
  by_cases h : j = i
  · subst h
    rw [pk_us]
    exact (if_pos (Nat.lt_succ_self j)).symm
  · rw [pk_un h]
    by_cases h2 : j < i
    · exact (if_pos h2).trans (if_pos (Nat.lt_succ_of_lt h2)).symm
    · exact (if_neg h2).trans (if_neg (by omega)).symm
theorem sd_fillA {n i j : Nat} {a : Nat → Int32} (h : j < i) : sd_fill n i a j = nI (sd_T n j) := if_pos h
/-! roots -/
theorem sd_rt (w : Nat) : ∃ r, r * r ≤ w ∧ w < (r + 1) * (r + 1) := by
  induction w with
  | zero => exact ⟨0, by decide, by decide⟩
  | succ w ih =>
    obtain ⟨r, h1, h2⟩ := ih
    by_cases h : w + 1 < (r + 1) * (r + 1)
    · exact ⟨r, by omega, h⟩
    · refine ⟨r + 1, by omega, ?_⟩
      have e : (r + 1) * (r + 1) < (r + 1 + 1) * (r + 1 + 1) := Nat.mul_lt_mul'' (Nat.lt_succ_self _) (Nat.lt_succ_self _)
      omega
theorem sd_sq {w r : Nat} (h1 : r * r ≤ w) (h2 : w < (r + 1) * (r + 1)) (t : Nat) : t * t ≤ w ↔ t ≤ r := by
  constructor
  · intro h
    by_cases z : t ≤ r
    · exact z
    · have q : (r + 1) * (r + 1) ≤ t * t := Nat.mul_le_mul (by omega) (by omega)
      omega
  · exact fun h => Nat.le_trans (Nat.mul_le_mul h h) h1
theorem sd_rle {w r : Nat} (B : Nat) (h1 : r * r ≤ w) (hB : w < (B + 1) * (B + 1)) : r ≤ B := by
  by_cases z : r ≤ B
  · exact z
  · have q : (B + 1) * (B + 1) ≤ r * r := Nat.mul_le_mul (by omega) (by omega)
    omega
/-! the number whose root is sought -/
theorem sd_sqv {n y : Nat} {k : Int32} (hn : n ≤ 120) (hy : y ≤ 3000) (h1 : -9 ≤ k.toInt) (h2 : k.toInt ≤ 9) (h : ¬ nI n * nI y * nI y + k < 0) : ∃ w, w < 1080000010 ∧ nI n * nI y * nI y + k = nI w := by
  obtain ⟨w, hw, e⟩ := nI_of h
  refine ⟨w, ?_, e⟩
  have b : n * y * y ≤ 120 * 3000 * 3000 := Nat.mul_le_mul (Nat.mul_le_mul hn hy) hy
  have e2 : (nI n * nI y * nI y + k).toInt = (n * y * y : Nat) + k.toInt := by
    rw [pk_mul, pk_mul, Int32.toInt_add, nI_toInt (by omega)]
    exact Int.bmod_eq_of_le (by omega) (by omega)
  rw [e, nI_toInt hw] at e2
  omega
