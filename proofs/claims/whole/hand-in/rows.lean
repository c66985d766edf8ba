section
theorem pk_us {f : Nat → Int32} {k : Nat} {x : Int32} : upd f k x k = x := if_pos rfl
theorem pk_un {f : Nat → Int32} {k j : Nat} {x : Int32} (h : j ≠ k) : upd f k x j = f j := if_neg h
theorem pk_sub {a b : Nat} (h : b ≤ a) : nI a - nI b = nI (a - b) := by
  obtain ⟨c, rfl⟩ : ∃ c, a = c + b := ⟨a - b, by omega⟩
  rw [← nI_add, Int32.add_sub_cancel, Nat.add_sub_cancel]
theorem pk_m1 (n : Nat) : nI (n + 1) + (-1) = nI n := by
  rw [← nI_1, Int32.add_assoc, show (1 : Int32) + (-1) = 0 from rfl, Int32.add_zero]
theorem pk_mul (a b : Nat) : nI a * nI b = nI (a * b) := (Int32.ofNat_mul a b).symm
theorem pk_div {a d : Nat} (ha : a < 2 ^ 31) (h0 : 0 < d) (hd : d < 2 ^ 31) : nI a / nI d = nI (a / d) := by
  apply Int32.toInt_inj.mp
  rw [lg_idiv_nonneg (by rw [nI_toInt ha]; omega) (by rw [nI_toInt hd]; omega), nI_toInt ha, nI_toInt hd, nI_toInt (Nat.lt_of_le_of_lt (Nat.div_le_self a d) ha)]
  first | rfl | exact (Int.natCast_ediv _ _).symm
theorem pk_sub_toInt {a b : Nat} (ha : a < 2 ^ 30) (hb : b < 2 ^ 30) : (nI a - nI b).toInt = (a : Int) - b := by
  rw [Int32.toInt_sub, nI_toInt (by omega), nI_toInt (by omega)]
  exact Int.bmod_eq_of_le (by omega) (by omega)
theorem pk_ix (x : Int32) {n : Nat} (hn : n < 2 ^ 31) : x < 0 ∨ nI n ≤ x ∨ ∃ j : Nat, j < n ∧ x = nI j := by
  by_cases h : x < 0
  · exact Or.inl h
  · obtain ⟨j, hj, rfl⟩ := nI_of h
    by_cases h2 : j < n
    · exact Or.inr (Or.inr ⟨j, h2, rfl⟩)
    · exact Or.inr (Or.inl (nI_le (by omega) hj))
theorem pk_le {x y : Int32} {A B : Prop} (a b : Nat) (f : a ≤ b → A) (g : b < a → B) (hx : x = nI a := by rfl) (hy : y = nI b := by rfl) (ha : a < 2 ^ 31 := by omega) (hb : b < 2 ^ 31 := by omega) : (x ≤ y → A) ∧ (¬ x ≤ y → B) := by
  subst hx hy
  rw [nI_leI ha hb]
  exact ⟨f, fun z => g (by omega)⟩
theorem pk_lt {x y : Int32} {A B : Prop} (a b : Nat) (f : a < b → A) (g : b ≤ a → B) (hx : x = nI a := by rfl) (hy : y = nI b := by rfl) (ha : a < 2 ^ 31 := by omega) (hb : b < 2 ^ 31 := by omega) : (x < y → A) ∧ (¬ x < y → B) := by
  subst hx hy
  rw [nI_ltI ha hb]
  exact ⟨f, fun z => g (by omega)⟩
theorem pk_eq {x y : Int32} {A B : Prop} (a b : Nat) (f : a = b → A) (g : a ≠ b → B) (hx : x = nI a := by rfl) (hy : y = nI b := by rfl) (ha : a < 2 ^ 31 := by omega) (hb : b < 2 ^ 31 := by omega) : (x = y → A) ∧ (¬ x = y → B) := by
  subst hx hy
  rw [nI_eq ha hb]
  exact ⟨f, g⟩
theorem pk_in {x : Int32} (n N : Nat) (h : n < N) (hx : x = nI n := by rfl) (hN : N < 2 ^ 31 := by omega) : vp_in x N := by
  subst hx
  exact vp_in_nI h hN
theorem pk_cl {x : Int32} (n : Nat) (hx : x = nI n := by rfl) (h : n < 2 ^ 31 := by omega) : x.toNatClampNeg = n := by
  subst hx
  exact nI_clamp h
theorem pk_shr (a s : Int32) (k : Nat) (hs : (s.toBitVec.smod 32).toNat = k) : (a >>> s).toInt = a.toInt >>> k := by
  show (a.toBitVec.sshiftRight (s.toBitVec.smod 32).toNat).toInt = _
  rw [hs, BitVec.toInt_sshiftRight]
  rfl
theorem pk_shrN {n : Nat} (h : n < 2 ^ 31) (s : Int32) (k : Nat) (hs : (s.toBitVec.smod 32).toNat = k) : nI n >>> s = nI (n / 2 ^ k) := by
  apply Int32.toInt_inj.mp
  have h2 : n / 2 ^ k ≤ n := Nat.div_le_self _ _
  rw [pk_shr _ _ k hs, nI_toInt h, nI_toInt (by omega), Int.shiftRight_eq_div_pow]
  rfl
theorem pk_lT {n : Nat} (h : n < 2 ^ 63) : (lN n).toInt = (n : Int) := lg_ofNat_toInt h
theorem pk_lLT {a b : Nat} (ha : a < 2 ^ 63) (hb : b < 2 ^ 63) : lN a < lN b ↔ a < b := by
  rw [Int64.lt_iff_toInt_lt, pk_lT ha, pk_lT hb]; omega
theorem pk_lLE {a b : Nat} (ha : a < 2 ^ 63) (hb : b < 2 ^ 63) : lN a ≤ lN b ↔ a ≤ b := by
  rw [Int64.le_iff_toInt_le, pk_lT ha, pk_lT hb]; omega
end
section
/-! the row of n as plain numbers: its states (m, d), its terms, its period -/
def sd_r (n : Nat) : Nat := if 100 ≤ n then 10 else if 81 ≤ n then 9 else if 64 ≤ n then 8 else if 49 ≤ n then 7 else if 36 ≤ n then 6 else if 25 ≤ n then 5 else if 16 ≤ n then 4 else if 9 ≤ n then 3 else if 4 ≤ n then 2 else 1
def sd_stp (n : Nat) (s : Nat × Nat) : Nat × Nat := ((sd_r n + s.1) / s.2 * s.2 - s.1, (n - ((sd_r n + s.1) / s.2 * s.2 - s.1) * ((sd_r n + s.1) / s.2 * s.2 - s.1)) / s.2)
def sd_st (n : Nat) : Nat → Nat × Nat
  | 0 => (0, 1)
  | i + 1 => sd_stp n (sd_st n i)
def sd_T (n i : Nat) : Nat := (sd_r n + (sd_st n i).1) / (sd_st n i).2
def sd_tab : List Nat := [0, 0, 1, 2, 0, 1, 2, 4, 2, 0, 1, 2, 2, 5, 4, 2, 0, 1, 2, 6, 2, 6, 6, 4, 2, 0, 1, 2, 4, 5, 2, 8, 4, 4, 4, 2, 0, 1, 2, 2, 2, 3, 2, 10, 8, 6, 12, 4, 2, 0, 1, 2, 6, 5, 6, 4, 2, 6, 7, 6, 4, 11, 4, 2, 0, 1, 2, 10, 2, 8, 6, 8, 2, 7, 5, 4, 12, 6, 4, 4, 2, 0, 1, 2, 2, 5, 10, 2, 6, 5, 2, 8, 8, 10, 16, 4, 4, 11, 4, 2, 0, 1, 2, 12, 2, 2, 9, 6, 8, 15, 2, 6, 6, 9, 6, 10, 10, 6, 10, 4, 2]
def sd_P (n : Nat) : Nat := sd_tab.getD n 0
abbrev sd_V (n : Nat) : Prop := 2 ≤ n ∧ n ≤ 120 ∧ ¬ sd_r n * sd_r n = n
abbrev sd_ok (n i : Nat) : Prop := 0 < (sd_st n i).2 ∧ (sd_st n i).2 < 1000 ∧ (sd_st n i).1 < 1000 ∧ (sd_st n i).1 ≤ sd_T n i * (sd_st n i).2 ∧ (sd_st n (i + 1)).1 * (sd_st n (i + 1)).1 ≤ n
theorem sd_c0 : ∀ n, n < 121 → 2 ≤ n → sd_r n * sd_r n ≤ n ∧ n < (sd_r n + 1) * (sd_r n + 1) ∧ sd_r n ≤ 10 := by decide +kernel
theorem sd_c1 : ∀ n, n < 121 → sd_V n → ∀ i, i < 17 → sd_ok n i := by decide +kernel
theorem sd_c2 : ∀ n, n < 121 → sd_V n → 1 ≤ sd_P n ∧ sd_P n ≤ 16 ∧ sd_st n (sd_P n + 1) = sd_st n 1 := by decide +kernel
theorem sd_c3 : ∀ n, n < 121 → sd_V n → ∀ j, j < 16 → ¬ (1 ≤ j ∧ j < sd_P n ∧ sd_st n (j + 1) = sd_st n 1) := by decide +kernel
def sd_e (n j : Nat) : Bool := (List.range 7).all (fun i => sd_T n (i + 1) == sd_T n (i + 1 + j))
theorem sd_c4 : ∀ n, n < 121 → sd_V n → ∀ j, j < 16 → ¬ (1 ≤ j ∧ j < sd_P n ∧ sd_e n j = true) := by decide +kernel
theorem sd_eT {n j : Nat} (h : ∀ i, 1 ≤ i → i < 8 → sd_T n i = sd_T n (i + j)) : sd_e n j = true :=
  List.all_eq_true.mpr fun i hi => beq_iff_eq.mpr (h (i + 1) (by omega) (by have := List.mem_range.mp hi; omega))
theorem sd_Vlt {n : Nat} (hV : sd_V n) : n < 121 := by have := hV.2.1; omega
theorem sd_P1 {n : Nat} (hV : sd_V n) : 1 ≤ sd_P n ∧ sd_P n ≤ 16 := ⟨(sd_c2 n (sd_Vlt hV) hV).1, (sd_c2 n (sd_Vlt hV) hV).2.1⟩
theorem sd_per {n : Nat} (hV : sd_V n) : ∀ i, sd_st n (i + 1 + sd_P n) = sd_st n (i + 1) := by
  intro i
  induction i with
  | zero =>
    have h := (sd_c2 n (sd_Vlt hV) hV).2.2
    rw [show 0 + 1 + sd_P n = sd_P n + 1 from by omega]
    exact h
  | succ i ih =>
    rw [show i + 1 + 1 + sd_P n = (i + 1 + sd_P n) + 1 from by omega]
    exact congrArg (sd_stp n) ih
theorem sd_okA {n : Nat} (hV : sd_V n) : ∀ i, sd_ok n i := by
  intro i
  induction i using Nat.strongRecOn with
  | _ i ih =>
    by_cases h : i < 17
    · exact sd_c1 n (sd_Vlt hV) hV i h
    · have hp := sd_P1 hV
      have h1 := ih (i - sd_P n) (by omega)
      have e : sd_st n i = sd_st n (i - sd_P n) := by
        have z := sd_per hV (i - sd_P n - 1)
        rw [show i - sd_P n - 1 + 1 + sd_P n = i from by omega, show i - sd_P n - 1 + 1 = i - sd_P n from by omega] at z
        exact z
      have e2 : sd_st n (i + 1) = sd_st n (i - sd_P n + 1) := congrArg (sd_stp n) e
      unfold sd_ok sd_T at h1 ⊢
      rw [e, e2]
      exact h1
theorem sd_Tper {n : Nat} (hV : sd_V n) {i : Nat} (h : 1 ≤ i) : sd_T n (i + sd_P n) = sd_T n i := by
  have z := sd_per hV (i - 1)
  rw [show i - 1 + 1 = i from by omega] at z
  unfold sd_T
  rw [z]
theorem sd_r10 {n : Nat} (hV : sd_V n) : sd_r n ≤ 10 := (sd_c0 n (sd_Vlt hV) hV.1).2.2
theorem sd_Tlt {n : Nat} (hV : sd_V n) (i : Nat) : sd_T n i < 2000 := by
  have h1 := sd_r10 hV
  have h2 := (sd_okA hV i).2.2.1
  have h3 : sd_T n i ≤ sd_r n + (sd_st n i).1 := Nat.div_le_self _ _
  omega
/-! one step of the row over ints -/
theorem sd_tI {n : Nat} (hV : sd_V n) (i : Nat) : (nI (sd_r n) + nI (sd_st n i).1) / nI (sd_st n i).2 = nI (sd_T n i) := by
  have h1 := sd_r10 hV
  have h2 := sd_okA hV i
  rw [nI_add, pk_div (by omega) h2.1 (by omega)]
  rfl
theorem sd_mI {n : Nat} (hV : sd_V n) (i : Nat) : nI (sd_T n i) * nI (sd_st n i).2 - nI (sd_st n i).1 = nI (sd_st n (i + 1)).1 := by
  have h2 := sd_okA hV i
  rw [pk_mul, pk_sub h2.2.2.2.1]
  rfl
theorem sd_dI {n : Nat} (hV : sd_V n) (i : Nat) : (nI n - nI (sd_st n (i + 1)).1 * nI (sd_st n (i + 1)).1) / nI (sd_st n i).2 = nI (sd_st n (i + 1)).2 := by
  have h2 := sd_okA hV i
  have h3 := hV.2.1
  rw [pk_mul, pk_sub h2.2.2.2.2, pk_div (by omega) h2.1 (by omega)]
  rfl
/-! the array of terms after i stores -/
def sd_fill (n i : Nat) (a : Nat → Int32) : Nat → Int32 := fun j => if j < i then nI (sd_T n j) else a j
theorem sd_fill0 (n : Nat) (a : Nat → Int32) : sd_fill n 0 a = a := funext fun j => if_neg (Nat.not_lt_zero j)
theorem sd_fillS (n i : Nat) (a : Nat → Int32) : upd (sd_fill n i a) i (nI (sd_T n i)) = sd_fill n (i + 1) a := by
  funext j
  by_cases h : j = i
  · subst h
    rw [pk_us]
    exact (if_pos (Nat.lt_succ_self j)).symm
  · rw [pk_un h]
    by_cases h2 : j < i
    · exact (if_pos h2).trans (if_pos (Nat.lt_succ_of_lt h2)).symm
    · exact (if_neg h2).trans (if_neg (by omega)).symm
theorem sd_fillA {n i j : Nat} {a : Nat → Int32} (h : j < i) : sd_fill n i a j = nI (sd_T n j) := if_pos h
/-! roots -/
theorem sd_rt (w : Nat) : ∃ r, r * r ≤ w ∧ w < (r + 1) * (r + 1) := by
  induction w with
  | zero => exact ⟨0, by decide, by decide⟩
  | succ w ih =>
    obtain ⟨r, h1, h2⟩ := ih
    by_cases h : w + 1 < (r + 1) * (r + 1)
    · exact ⟨r, by omega, h⟩
    · refine ⟨r + 1, by omega, ?_⟩
      have e : (r + 1) * (r + 1) < (r + 1 + 1) * (r + 1 + 1) := Nat.mul_lt_mul'' (Nat.lt_succ_self _) (Nat.lt_succ_self _)
      omega
theorem sd_sq {w r : Nat} (h1 : r * r ≤ w) (h2 : w < (r + 1) * (r + 1)) (t : Nat) : t * t ≤ w ↔ t ≤ r := by
  constructor
  · intro h
    by_cases z : t ≤ r
    · exact z
    · have q : (r + 1) * (r + 1) ≤ t * t := Nat.mul_le_mul (by omega) (by omega)
      omega
  · exact fun h => Nat.le_trans (Nat.mul_le_mul h h) h1
theorem sd_rle {w r : Nat} (B : Nat) (h1 : r * r ≤ w) (hB : w < (B + 1) * (B + 1)) : r ≤ B := by
  by_cases z : r ≤ B
  · exact z
  · have q : (B + 1) * (B + 1) ≤ r * r := Nat.mul_le_mul (by omega) (by omega)
    omega
/-! the number whose root is sought -/
theorem sd_sqv {n y : Nat} {k : Int32} (hn : n ≤ 120) (hy : y ≤ 3000) (h1 : -9 ≤ k.toInt) (h2 : k.toInt ≤ 9) (h : ¬ nI n * nI y * nI y + k < 0) : ∃ w, w < 1080000010 ∧ nI n * nI y * nI y + k = nI w := by
  obtain ⟨w, hw, e⟩ := nI_of h
  refine ⟨w, ?_, e⟩
  have b : n * y * y ≤ 120 * 3000 * 3000 := Nat.mul_le_mul (Nat.mul_le_mul hn hy) hy
  have e2 : (nI n * nI y * nI y + k).toInt = (n * y * y : Nat) + k.toInt := by
    rw [pk_mul, pk_mul, Int32.toInt_add, nI_toInt (by omega)]
    exact Int.bmod_eq_of_le (by omega) (by omega)
  rw [e, nI_toInt hw] at e2
  omega
end
section
/-! the two ways to a root -/
theorem sx_root5 {w r : Nat} (hw : w < 2 ^ 31) (h1 : r * r ≤ w) (h2 : w < (r + 1) * (r + 1)) (hr : r < 65536) {post : Int32 → Prop} (hp : post (nI r)) : ∀ j f : Nat, j ≤ 16 → f ≤ r → r < f + 2 ^ j → wX_floorRoot_5 post (nI w) (j + 1) (nI f) (nI (2 ^ j / 2)) := by
  intro j
  induction j with
  | zero =>
    intro f _ hf hg
    have e : f = r := by
      have z : (2 : Nat) ^ 0 = 1 := rfl
      omega
    rw [e]
    exact br_t (by decide) hp
  | succ j ih =>
    intro f hj hf hg
    have hb : 2 ^ j ≤ 2 ^ 15 := Nat.pow_le_pow_right (by decide) (by omega)
    have hb0 : 0 < 2 ^ j := Nat.two_pow_pos j
    have e1 : 2 ^ (j + 1) / 2 = 2 ^ j := by
      rw [Nat.pow_succ]
      exact Nat.mul_div_cancel _ (by decide)
    rw [e1]
    rw [Nat.pow_succ] at hg
    clear e1
    generalize 2 ^ j = B at ih hb hb0 hg ⊢
    have hs : nI B >>> ((1 : Int32) &&& 31) = nI (B / 2) := pk_shrN (n := B) (by omega) ((1 : Int32) &&& 31) 1 (by decide)
    have ht : (nI f + nI B).toInt64 = lN (f + B) := by rw [nI_add, nI_l (by omega)]
    have hq : (f + B) * (f + B) ≤ 100000 * 100000 := Nat.mul_le_mul (by omega) (by omega)
    have hc : (nI w).toInt64 < lN (f + B) * lN (f + B) ↔ w < (f + B) * (f + B) := by
      rw [nI_l hw, lN_mul, pk_lLT (by omega) (by omega)]
    have hd := sd_sq h1 h2 (f + B)
    refine br_f (nI_nle hb0 (by omega)) (nm_r ht ?_)
    by_cases hle : f + B ≤ r
    · have hx : ¬ w < (f + B) * (f + B) := by have := hd.mpr hle; omega
      exact br_f (fun z => hx (hc.mp z)) (nm_r (nI_add f B) (nm_r hs (ih (f + B) (by omega) hle (by omega))))
    · have hx : w < (f + B) * (f + B) := by
        by_cases z : w < (f + B) * (f + B)
        · exact z
        · exact absurd (hd.mp (by omega)) hle
      exact br_t (hc.mpr hx) (nm_r hs (ih f (by omega) hf (by omega)))
theorem sx_root {w r : Nat} (hw : w < 2 ^ 31) (h1 : r * r ≤ w) (h2 : w < (r + 1) * (r + 1)) {post : Int32 → Prop} (hp : post (nI r)) : wpX_floorRoot post (nI w) := by
  have hr : r ≤ 65535 := sd_rle 65535 h1 (by omega)
  have h := sx_root5 hw h1 h2 (by omega) hp 16 0 (by omega) (by omega) (by omega)
  exact ⟨17, h⟩
theorem sy_root5 {w r : Nat} (hw : w < 2 ^ 31) (h1 : r * r ≤ w) (h2 : w < (r + 1) * (r + 1)) {post : Int32 → Prop} (hp : post (nI r)) : ∀ n lo hi : Nat, lo ≤ r → r ≤ hi → hi ≤ 33200 → hi - lo < n → wY_rootOf_5 post (nI w) n (nI lo) (nI hi) := by
  intro n
  induction n with
  | zero =>
    intro lo hi _ _ _ h
    exact absurd h (Nat.not_lt_zero _)
  | succ n ih =>
    intro lo hi a b c d
    refine pk_le hi lo (fun h => ?_) (fun h => ?_)
    · rw [show lo = r from by omega]
      exact hp
    · have e : ((nI lo + nI hi) + 1) / 2 = nI ((lo + hi + 1) / 2) := by
        rw [nI_add, nI_1]
        exact pk_div (d := 2) (by omega) (by omega) (by omega)
      refine ⟨by decide, nm_r e ?_⟩
      have hm1 : lo < (lo + hi + 1) / 2 := by omega
      have hm2 : (lo + hi + 1) / 2 ≤ hi := by omega
      clear e
      generalize (lo + hi + 1) / 2 = m at hm1 hm2 ⊢
      have hq : m * m ≤ 33200 * 33200 := Nat.mul_le_mul (by omega) (by omega)
      have hd := sd_sq h1 h2 m
      refine pk_lt w (m * m) (fun h => ?_) (fun h => ?_) rfl (pk_mul m m) hw (by omega)
      · have hx : ¬ m ≤ r := fun z => by have := hd.mpr z; omega
        exact nm_r (pk_sub (b := 1) (by omega)) (ih lo (m - 1) a (by omega) (by omega) (by omega))
      · exact ih m hi (hd.mp h) b c (by omega)
theorem sy_root {w r : Nat} (hw : w < 1080000010) (h1 : r * r ≤ w) (h2 : w < (r + 1) * (r + 1)) {post : Int32 → Prop} (hp : post (nI r)) : wpY_rootOf post (nI w) := by
  have hr : r ≤ 33200 := sd_rle 33200 h1 (by omega)
  exact ⟨33201, sy_root5 (by omega) h1 h2 hp 33201 0 33200 (by omega) hr (by omega) (by omega)⟩
theorem sx_isq {w r : Nat} (hw : w < 2 ^ 31) (h1 : r * r ≤ w) (h2 : w < (r + 1) * (r + 1)) {post : Int32 → Prop} (ht : r * r = w → post 1) (hf : r * r ≠ w → post 0) : wpX_isSquare post (nI w) := by
  unfold wpX_isSquare
  refine sx_root hw h1 h2 ?_
  exact pk_eq (r * r) w ht hf (pk_mul r r) rfl (by omega) hw
theorem sy_isq {w r : Nat} (hw : w < 1080000010) (h1 : r * r ≤ w) (h2 : w < (r + 1) * (r + 1)) {post : Int32 → Prop} (ht : r * r = w → post 1) (hf : r * r ≠ w → post 0) : wpY_isSquare post (nI w) := by
  unfold wpY_isSquare
  refine sy_root hw h1 h2 ?_
  exact pk_eq (r * r) w ht hf (pk_mul r r) rfl (by omega) (by omega)
/-! one answer for the x of k and y, on both sides -/
theorem sd_find {n y : Nat} {k p : Int32} {a b : Nat → Int32} (hn : n ≤ 120) (hy : y ≤ 3000) (h1 : -9 ≤ k.toInt) (h2 : k.toInt ≤ 9) : ∃ z : Int32, (z = -2 ∨ ∃ r : Nat, r < 2 ^ 31 ∧ z = nI r) ∧ (∀ post : Int32 → Prop, post z → wpX_findX post (nI n, p, a) k (nI y)) ∧ (∀ post : Int32 → Prop, post z → wpY_find post (nI n, b) k (nI y)) := by
  by_cases h : nI n * nI y * nI y + k < 0
  · have hl : ¬ 0 ≤ nI n * nI y * nI y + k := Int32.not_le.mpr h
    refine ⟨-2, Or.inl rfl, fun post hp => ?_, fun post hp => ?_⟩
    · unfold wpX_findX
      dsimp only
      exact nm_e (br_f hl hp)
    · unfold wpY_find
      dsimp only
      exact nm_e (br_f hl hp)
  · obtain ⟨w, hw, e⟩ := sd_sqv hn hy h1 h2 h
    obtain ⟨r, r1, r2⟩ := sd_rt w
    have hl : 0 ≤ nI w := nI_pos' (by omega)
    have hr : r ≤ 65535 := sd_rle 65535 r1 (by omega)
    by_cases g : r * r = w
    · have g2 : nI r * nI r = nI w := by rw [pk_mul, g]
      refine ⟨nI r, Or.inr ⟨r, by omega, rfl⟩, fun post hp => ?_, fun post hp => ?_⟩
      · unfold wpX_findX
        dsimp only
        exact nm_r e (br_t hl (sx_root (by omega) r1 r2 (br_t g2 hp)))
      · unfold wpY_find
        dsimp only
        exact nm_r e (br_t hl (sy_root hw r1 r2 (br_t g2 hp)))
    · have g2 : ¬ nI r * nI r = nI w := by
        rw [pk_mul, nI_eq (by omega) (by omega)]
        exact g
      refine ⟨-2, Or.inl rfl, fun post hp => ?_, fun post hp => ?_⟩
      · unfold wpX_findX
        dsimp only
        exact nm_r e (br_t hl (sx_root (by omega) r1 r2 (br_f g2 hp)))
      · unfold wpY_find
        dsimp only
        exact nm_r e (br_t hl (sy_root hw r1 r2 (br_f g2 hp)))
theorem sd_ne2 {r : Nat} (h : r < 2 ^ 31) : ¬ nI r = -2 := fun z => by
  have q := nI_pos h
  rw [z] at q
  exact q (by decide)
/-! refusals -/
theorem sd_ref (N k y p : Int32) (a b : Nat → Int32) : ((∀ post : Int32 → Prop, post 1 → wpX_isRefused post (N, p, a) k y) ∧ (∀ post : Int32 → Prop, post 1 → wpY_refused post (N, b) k y)) ∨ ((-9 ≤ k.toInt ∧ k.toInt ≤ 9 ∧ ∃ j : Nat, j ≤ 3000 ∧ y = nI j) ∧ (∀ post : Int32 → Prop, post 0 → wpX_isRefused post (N, p, a) k y) ∧ (∀ post : Int32 → Prop, post 0 → wpY_refused post (N, b) k y)) := by
  unfold wpX_isRefused wpY_refused
  dsimp only
  by_cases c1 : k < -9
  · exact Or.inl ⟨fun post hp => br_t c1 hp, fun post hp => br_t c1 hp⟩
  by_cases c2 : 9 < k
  · exact Or.inl ⟨fun post hp => br_f c1 (br_t c2 hp), fun post hp => br_f c1 (br_t c2 hp)⟩
  by_cases c3 : k = 0
  · exact Or.inl ⟨fun post hp => br_f c1 (br_f c2 (br_t c3 hp)), fun post hp => br_f c1 (br_f c2 (br_t c3 hp))⟩
  by_cases c4 : k * k < N
  · have c4y : ¬ N ≤ k * k := Int32.not_le.mpr c4
    by_cases c5 : y < 0
    · exact Or.inl ⟨fun post hp => br_f c1 (br_f c2 (br_f c3 (br_t c4 (br_t c5 hp)))), fun post hp => br_f c1 (br_f c2 (br_f c3 (br_f c4y (br_t c5 hp))))⟩
    by_cases c6 : y ≤ 3000
    · refine Or.inr ⟨⟨?_, ?_, nI_of2 (M := 3000) (by decide) c5 c6⟩, fun post hp => br_f c1 (br_f c2 (br_f c3 (br_t c4 (br_f c5 (br_t c6 hp))))), fun post hp => br_f c1 (br_f c2 (br_f c3 (br_f c4y (br_f c5 (br_t c6 hp)))))⟩
      · rw [Int32.lt_iff_toInt_lt, show (-9 : Int32).toInt = -9 from by decide] at c1
        omega
      · rw [Int32.lt_iff_toInt_lt, show (9 : Int32).toInt = 9 from by decide] at c2
        omega
    · exact Or.inl ⟨fun post hp => br_f c1 (br_f c2 (br_f c3 (br_t c4 (br_f c5 (br_f c6 hp))))), fun post hp => br_f c1 (br_f c2 (br_f c3 (br_f c4y (br_f c5 (br_f c6 hp)))))⟩
  · have c4y : N ≤ k * k := Int32.not_lt.mp c4
    exact Or.inl ⟨fun post hp => br_f c1 (br_f c2 (br_f c3 (br_f c4 hp))), fun post hp => br_f c1 (br_f c2 (br_f c3 (br_t c4y hp)))⟩
/-! the three loops over y, side by side -/
theorem sd_sol {n L : Nat} {k p : Int32} {a b : Nat → Int32} (hn : n ≤ 120) (hL : L ≤ 3000) (h1 : -9 ≤ k.toInt) (h2 : k.toInt ≤ 9) : ∀ d i : Nat, i + d = L + 1 → ∀ c : Int32, ∃ z : Int32, (∀ post : Int32 → Prop, post z → wX_solutions_16 post k (nI L) (nI n) p a (d + 1) c (nI i)) ∧ (∀ post : Int32 → Prop, post z → wY_solutions_16 post k (nI L) (nI n) b (d + 1) c (nI i)) := by
  intro d
  induction d with
  | zero =>
    intro i hi c
    have hl : nI L < nI i := nI_lt (by omega) (by omega)
    exact ⟨c, fun _ hp => br_t hl hp, fun _ hp => br_t hl hp⟩
  | succ d ih =>
    intro i hi c
    have hl : ¬ nI L < nI i := nI_nlt (by omega) (by omega)
    obtain ⟨z, hz, fx, fy⟩ := sd_find (n := n) (y := i) (k := k) (p := p) (a := a) (b := b) hn (by omega) h1 h2
    rcases hz with rfl | ⟨r, hr, rfl⟩
    · obtain ⟨v, vx, vy⟩ := ih (i + 1) (by omega) c
      exact ⟨v, fun post hp => br_f hl (fx _ (br_t rfl (nm_r (nI_1 i) (vx post hp)))), fun post hp => br_f hl (fy _ (br_t (by decide) (nm_r (nI_1 i) (vy post hp))))⟩
    · obtain ⟨v, vx, vy⟩ := ih (i + 1) (by omega) (c + 1)
      exact ⟨v, fun post hp => br_f hl (fx _ (br_f (sd_ne2 hr) (nm_e (nm_r (nI_1 i) (vx post hp))))), fun post hp => br_f hl (fy _ (br_f (nI_pos hr) (nm_e (nm_r (nI_1 i) (vy post hp)))))⟩
theorem sd_sum {n L : Nat} {k p : Int32} {a b : Nat → Int32} (hn : n ≤ 120) (hL : L ≤ 3000) (h1 : -9 ≤ k.toInt) (h2 : k.toInt ≤ 9) : ∀ d i : Nat, i + d = L + 1 → ∀ c : Int32, ∃ z : Int32, (∀ post : Int32 → Prop, post z → wX_sum_16 post k (nI L) (nI n) p a (d + 1) c (nI i)) ∧ (∀ post : Int32 → Prop, post z → wY_sum_16 post k (nI L) (nI n) b (d + 1) c (nI i)) := by
  intro d
  induction d with
  | zero =>
    intro i hi c
    have hl : nI L < nI i := nI_lt (by omega) (by omega)
    exact ⟨c, fun _ hp => br_t hl hp, fun _ hp => br_t hl hp⟩
  | succ d ih =>
    intro i hi c
    have hl : ¬ nI L < nI i := nI_nlt (by omega) (by omega)
    obtain ⟨z, hz, fx, fy⟩ := sd_find (n := n) (y := i) (k := k) (p := p) (a := a) (b := b) hn (by omega) h1 h2
    rcases hz with rfl | ⟨r, hr, rfl⟩
    · obtain ⟨v, vx, vy⟩ := ih (i + 1) (by omega) c
      exact ⟨v, fun post hp => br_f hl (fx _ (br_t rfl (nm_r (nI_1 i) (vx post hp)))), fun post hp => br_f hl (fy _ (br_t (by decide) (nm_r (nI_1 i) (vy post hp))))⟩
    · obtain ⟨v, vx, vy⟩ := ih (i + 1) (by omega) (c + nI i)
      exact ⟨v, fun post hp => br_f hl (fx _ (br_f (sd_ne2 hr) (nm_e (nm_r (nI_1 i) (vx post hp))))), fun post hp => br_f hl (fy _ (br_f (nI_pos hr) (nm_e (nm_r (nI_1 i) (vy post hp)))))⟩
theorem sd_next {n : Nat} {k p : Int32} {a b : Nat → Int32} (hn : n ≤ 120) (h1 : -9 ≤ k.toInt) (h2 : k.toInt ≤ 9) : ∀ d i : Nat, i + d = 3001 → ∃ z : Int32, (∀ post : Int32 → Prop, post z → wX_next_13 post k (nI n) p a (d + 1) (nI i)) ∧ (∀ post : Int32 → Prop, post z → wY_next_13 post k (nI n) b (d + 1) (nI i)) := by
  intro d
  induction d with
  | zero =>
    intro i hi
    have hl : (3000 : Int32) < nI i := nI_lt (a := 3000) (by omega) (by omega)
    exact ⟨-2, fun _ hp => br_t hl hp, fun _ hp => br_t hl hp⟩
  | succ d ih =>
    intro i hi
    have hl : ¬ (3000 : Int32) < nI i := nI_nlt (a := 3000) (by omega) (by omega)
    obtain ⟨z, hz, fx, fy⟩ := sd_find (n := n) (y := i) (k := k) (p := p) (a := a) (b := b) hn (by omega) h1 h2
    rcases hz with rfl | ⟨r, hr, rfl⟩
    · obtain ⟨v, vx, vy⟩ := ih (i + 1) (by omega)
      exact ⟨v, fun post hp => br_f hl (fx _ (br_t rfl (nm_r (nI_1 i) (vx post hp)))), fun post hp => br_f hl (fy _ (br_t (by decide) (nm_r (nI_1 i) (vy post hp))))⟩
    · exact ⟨nI i, fun post hp => br_f hl (fx _ (br_f (sd_ne2 hr) hp)), fun post hp => br_f hl (fy _ (br_f (nI_pos hr) hp))⟩
end
section
/-! the walk of the row: the component's, with the period; the reference's, with 300 terms -/
theorem sd_up1 {n i : Nat} (a : Nat → Int32) (h : i < 2 ^ 31) : upd (sd_fill n i a) (nI i).toNatClampNeg (nI (sd_T n i)) = sd_fill n (i + 1) a := by
  rw [nI_clamp h, sd_fillS]
theorem sx_walk1 {n : Nat} (hV : sd_V n) (a : Nat → Int32) {post : SX → Prop} (hp : post (nI n, nI (sd_P n), sd_fill n 101 a)) : ∀ d i : Nat, i + d = 101 → 1 ≤ i → wX_walkRow_26 post (nI (sd_r n)) (nI n) (d + 1) (nI (sd_st n i).1) (nI (sd_st n i).2) (nI (sd_st n 1).1) (nI (sd_st n 1).2) (nI i) (nI (if i ≤ sd_P n then 0 else sd_P n)) (sd_fill n i a) := by
  have hP := sd_P1 hV
  intro d
  induction d with
  | zero =>
    intro i hi h1
    have e : i = 101 := by omega
    subst e
    rw [if_neg (by omega)]
    exact br_t (nI_le (a := 101) (b := 101) (by omega) (by omega)) hp
  | succ d ih =>
    intro i hi h1
    have hok := sd_okA hV i
    have hok1 := sd_okA hV (i + 1)
    have hok0 := sd_okA hV 1
    have hz : ¬ nI (sd_st n i).2 = 0 := nI_ne0 hok.1 (by omega)
    have hz2 : ¬ nI (sd_st n i).2 ≤ 0 := nI_nle hok.1 (by omega)
    have hi0 : ¬ nI i = 0 := nI_ne0 (by omega) (by omega)
    have hg : ¬ (101 : Int32) ≤ nI i := nI_ge (b := 101) (by omega) (by omega)
    have hin : vp_in (nI i) 101 := vp_in_nI (by omega) (by omega)
    have hk := ih (i + 1) (by omega) (by omega)
    by_cases hl : i ≤ sd_P n
    · rw [if_pos hl]
      refine br_f hg (br_f hz2 ⟨hz, nm_r (sd_tI hV i) ⟨hin, nm_r (sd_up1 a (by omega)) (nm_r (sd_mI hV i) ⟨hz, nm_r (sd_dI hV i) (br_f hi0 (br_t nI_0 ?_))⟩)⟩⟩)
      by_cases hq : i = sd_P n
      · have e := sd_per hV 0
        rw [← hq, show 0 + 1 + i = i + 1 from by omega, show 0 + 1 = 1 from rfl] at e
        rw [if_neg (by omega), ← hq] at hk
        exact br_t (by rw [e]) (br_t (by rw [e]) (nm_r (nI_1 i) hk))
      · rw [if_pos (by omega)] at hk
        have hne := sd_c3 n (sd_Vlt hV) hV i (by omega)
        by_cases e1 : (sd_st n (i + 1)).1 = (sd_st n 1).1
        · have e2 : ¬ (sd_st n (i + 1)).2 = (sd_st n 1).2 := fun e2 => hne ⟨h1, by omega, Prod.ext e1 e2⟩
          exact br_t (by rw [e1]) (br_f (fun z => e2 ((nI_eq (by omega) (by omega)).mp z)) (nm_r (nI_1 i) hk))
        · exact br_f (fun z => e1 ((nI_eq (by omega) (by omega)).mp z)) (nm_r (nI_1 i) hk)
    · rw [if_neg hl]
      rw [if_neg (by omega)] at hk
      exact br_f hg (br_f hz2 ⟨hz, nm_r (sd_tI hV i) ⟨hin, nm_r (sd_up1 a (by omega)) (nm_r (sd_mI hV i) ⟨hz, nm_r (sd_dI hV i) (br_f hi0 (br_f (nI_ne0 (by omega) (by omega)) (nm_r (nI_1 i) hk)))⟩)⟩⟩)
theorem sx_walk0 {n : Nat} (hV : sd_V n) (a : Nat → Int32) {post : SX → Prop} (hp : post (nI n, nI (sd_P n), sd_fill n 101 a)) : wX_walkRow_26 post (nI (sd_r n)) (nI n) 102 (nI (sd_st n 0).1) (nI (sd_st n 0).2) 0 0 (nI 0) 0 (sd_fill n 0 a) := by
  have hP := sd_P1 hV
  have hok := sd_okA hV 0
  have hz : ¬ nI (sd_st n 0).2 = 0 := nI_ne0 hok.1 (by omega)
  have hz2 : ¬ nI (sd_st n 0).2 ≤ 0 := nI_nle hok.1 (by omega)
  have hg : ¬ (101 : Int32) ≤ nI 0 := nI_ge (b := 101) (by omega) (by omega)
  have hin : vp_in (nI 0) 101 := vp_in_nI (by omega) (by omega)
  have hk := sx_walk1 hV a hp 100 1 (by omega) (by omega)
  rw [if_pos (by omega)] at hk
  exact br_f hg (br_f hz2 ⟨hz, nm_r (sd_tI hV 0) ⟨hin, nm_r (sd_up1 a (by omega)) (nm_r (sd_mI hV 0) ⟨hz, nm_r (sd_dI hV 0) (br_t nI_0 (nm_r (nI_1 0) hk))⟩)⟩⟩)
theorem sx_walkRow {n : Nat} (hV : sd_V n) {p : Int32} {a : Nat → Int32} {post : SX → Prop} (hp : post (nI n, nI (sd_P n), sd_fill n 101 a)) : wpX_walkRow post (nI n, p, a) := by
  unfold wpX_walkRow
  dsimp only
  have hc := sd_c0 n (sd_Vlt hV) hV.1
  have hn := hV.2.1
  have h := sx_walk0 hV a hp
  rw [sd_fill0] at h
  exact sx_root (by omega) hc.1 hc.2.1 ⟨102, h⟩
theorem sy_write15 {n : Nat} (hV : sd_V n) (a : Nat → Int32) {post : SY → Prop} (hp : post (nI n, sd_fill n 300 a)) : ∀ d i : Nat, i + d = 300 → wY_write_15 post (nI (sd_r n)) (nI n) (d + 1) (nI (sd_st n i).1) (nI (sd_st n i).2) (nI i) (sd_fill n i a) := by
  intro d
  induction d with
  | zero =>
    intro i hi
    have e : i = 300 := by omega
    subst e
    exact br_t (nI_le (a := 300) (b := 300) (by omega) (by omega)) hp
  | succ d ih =>
    intro i hi
    have hok := sd_okA hV i
    have hz : ¬ nI (sd_st n i).2 = 0 := nI_ne0 hok.1 (by omega)
    have hg : ¬ (300 : Int32) ≤ nI i := nI_ge (b := 300) (by omega) (by omega)
    have hin : vp_in (nI i) 300 := vp_in_nI (by omega) (by omega)
    have hk := ih (i + 1) (by omega)
    exact br_f hg (br_f hz ⟨hz, nm_r (sd_tI hV i) ⟨hin, nm_r (sd_up1 a (by omega)) (nm_r (sd_mI hV i) ⟨hz, nm_r (sd_dI hV i) (nm_r (nI_1 i) hk)⟩)⟩⟩)
theorem sy_write {n : Nat} (hV : sd_V n) {a : Nat → Int32} {post : SY → Prop} (hp : post (nI n, sd_fill n 300 a)) : wpY_write post (nI n, a) := by
  unfold wpY_write
  dsimp only
  have hc := sd_c0 n (sd_Vlt hV) hV.1
  have hn := hV.2.1
  have h := sy_write15 hV a hp 300 0 (by omega)
  rw [sd_fill0] at h
  exact sy_root (by omega) hc.1 hc.2.1 ⟨301, h⟩
/-! the reference's search for the period -/
theorem sy_rep2 {n q : Nat} (hV : sd_V n) (b : Nat → Int32) (hq : q < 150) : ∀ d i : Nat, i + q + d = 300 → ∃ z : Int32, ((z = 1 ∧ ∀ j, i ≤ j → j + q < 300 → sd_T n j = sd_T n (j + q)) ∨ (z = 0 ∧ ¬ ∀ j, i ≤ j → j + q < 300 → sd_T n j = sd_T n (j + q))) ∧ ∀ post : Int32 → Prop, post z → wY_repeats_2 post (nI q) (nI n) (sd_fill n 300 b) (d + 1) (nI i) := by
  intro d
  induction d with
  | zero =>
    intro i hi
    have hg : (300 : Int32) ≤ nI i + nI q := by
      rw [nI_add]
      exact nI_le (a := 300) (by omega) (by omega)
    exact ⟨1, Or.inl ⟨rfl, fun j h1 h2 => by omega⟩, fun post hp => br_t hg hp⟩
  | succ d ih =>
    intro i hi
    have hg : ¬ (300 : Int32) ≤ nI i + nI q := by
      rw [nI_add]
      exact nI_ge (b := 300) (by omega) (by omega)
    have hi1 : vp_in (nI i) 300 := vp_in_nI (by omega) (by omega)
    have hi2 : vp_in (nI i + nI q) 300 := by
      rw [nI_add]
      exact vp_in_nI (by omega) (by omega)
    have e1 : sd_fill n 300 b (nI i).toNatClampNeg = nI (sd_T n i) := by
      rw [nI_clamp (by omega)]
      exact sd_fillA (by omega)
    have e2 : sd_fill n 300 b (nI i + nI q).toNatClampNeg = nI (sd_T n (i + q)) := by
      rw [nI_add, nI_clamp (by omega)]
      exact sd_fillA (by omega)
    have t1 := sd_Tlt hV i
    have t2 := sd_Tlt hV (i + q)
    by_cases e : sd_T n i = sd_T n (i + q)
    · obtain ⟨z, hz, hw⟩ := ih (i + 1) (by omega)
      refine ⟨z, ?_, fun post hp => br_f hg ⟨hi1, hi2, br_t (by rw [e1, e2, e]) (nm_r (nI_1 i) (hw post hp))⟩⟩
      rcases hz with ⟨rfl, h⟩ | ⟨rfl, h⟩
      · refine Or.inl ⟨rfl, fun j h1 h2 => ?_⟩
        by_cases hj : j = i
        · rw [hj]
          exact e
        · exact h j (by omega) h2
      · exact Or.inr ⟨rfl, fun g => h (fun j h1 h2 => g j (by omega) h2)⟩
    · refine ⟨0, Or.inr ⟨rfl, fun g => e (g i (by omega) (by omega))⟩, fun post hp => br_f hg ⟨hi1, hi2, br_f ?_ hp⟩⟩
      rw [e1, e2, nI_eq (by omega) (by omega)]
      exact e
theorem sy_repT {n : Nat} (hV : sd_V n) (b : Nat → Int32) {post : Int32 → Prop} (hp : post 1) : wpY_repeats post (nI n, sd_fill n 300 b) (nI (sd_P n)) := by
  have hP := sd_P1 hV
  obtain ⟨z, hz, hw⟩ := sy_rep2 (q := sd_P n) hV b (by omega) (299 - sd_P n) 1 (by omega)
  rcases hz with ⟨rfl, h⟩ | ⟨rfl, h⟩
  · exact ⟨_, hw post hp⟩
  · exact absurd (fun j h1 _ => (sd_Tper hV h1).symm) h
theorem sy_repF {n q : Nat} (hV : sd_V n) (b : Nat → Int32) (h0 : 1 ≤ q) (hq : q < sd_P n) {post : Int32 → Prop} (hp : post 0) : wpY_repeats post (nI n, sd_fill n 300 b) (nI q) := by
  have hP := sd_P1 hV
  obtain ⟨z, hz, hw⟩ := sy_rep2 (q := q) hV b (by omega) (299 - q) 1 (by omega)
  rcases hz with ⟨rfl, h⟩ | ⟨rfl, h⟩
  · exact absurd ⟨h0, hq, sd_eT (fun i h1 h2 => h i h1 (by omega))⟩ (sd_c4 n (sd_Vlt hV) hV q (by omega))
  · exact ⟨_, hw post hp⟩
theorem sy_per6 {n : Nat} (hV : sd_V n) (b : Nat → Int32) {post : Int32 → SY → Prop} (hp : post (nI (sd_P n)) (nI n, sd_fill n 300 b)) : ∀ d q : Nat, q + d = sd_P n → 1 ≤ q → wY_period_6 post (nI n) (sd_fill n 300 b) (d + 1) (nI q) := by
  have hP := sd_P1 hV
  intro d
  induction d with
  | zero =>
    intro q hq h1
    have e : q = sd_P n := by omega
    rw [e]
    have hg : ¬ (150 : Int32) ≤ nI (sd_P n) := nI_ge (b := 150) (by omega) (by omega)
    exact br_f hg (sy_repT hV b (br_f (by decide) hp))
  | succ d ih =>
    intro q hq h1
    have hg : ¬ (150 : Int32) ≤ nI q := nI_ge (b := 150) (by omega) (by omega)
    exact br_f hg (sy_repF hV b h1 (by omega) (br_t rfl (nm_r (nI_1 q) (ih (q + 1) (by omega) (by omega)))))
end
section
/-- both hold the same n; the component's terms and period are those of its row -/
def i_Rel (_ : Nat) (u : SX) (v : SY) : Prop := ∃ (n : Nat) (a b : Nat → Int32), sd_V n ∧ u = (nI n, nI (sd_P n), a) ∧ v = (nI n, b) ∧ ∀ j, j < 101 → a j = nI (sd_T n j)
theorem i_up {k : Nat} {u : SX} {v : SY} (h : i_Rel k u v) : i_Rel (k + 3) u v := h
theorem i_vc0 : wpX_init (fun u => wpY_init (fun v => i_Rel 0 u v)) := by
  unfold wpX_init wpY_init
  exact sx_walkRow (n := 2) (by decide) ⟨2, _, _, by decide, rfl, rfl, fun j hj => sd_fillA hj⟩
theorem i_vc_set {k : Nat} {u : SX} {v : SY} (I : i_Rel k u v) (hk : k + 3 ≤ 1536) (v1 : Int32) : wpX_set (fun r u' => wpY_set (fun r' v' => r' = r ∧ i_Rel (k + 3) u' v') v v1) u v1 := by
  obtain ⟨n, a, b, hV, rfl, rfl, h⟩ := I
  have J : i_Rel (k + 3) (nI n, nI (sd_P n), a) (nI n, b) := ⟨n, a, b, hV, rfl, rfl, h⟩
  unfold wpX_set wpY_set
  dsimp only
  by_cases c1 : v1 < 2
  · exact br_t c1 (br_t c1 ⟨rfl, J⟩)
  by_cases c2 : 120 < v1
  · exact br_f c1 (br_t c2 (br_f c1 (br_t c2 ⟨rfl, J⟩)))
  obtain ⟨q, hq, rfl⟩ : ∃ q : Nat, q ≤ 120 ∧ v1 = nI q := nI_of2 (M := 120) (by decide) (fun z => c1 (Int32.lt_trans z (by decide))) (Int32.not_lt.mp c2)
  have hq2 : 2 ≤ q := by
    by_cases z : 2 ≤ q
    · exact z
    · exact absurd (nI_lt (a := q) (b := 2) (by omega) (by omega)) c1
  have hc := sd_c0 q (by omega) hq2
  refine br_f c1 (br_f c2 (sx_isq (by omega) hc.1 hc.2.1 (fun g => ?_) (fun g => ?_)))
  · exact br_f (by decide) (br_f c1 (br_f c2 (sy_isq (by omega) hc.1 hc.2.1 (fun _ => br_f (by decide) ⟨rfl, J⟩) (fun z => absurd g z))))
  · refine br_t rfl (sx_walkRow ⟨hq2, hq, g⟩ ?_)
    exact br_f c1 (br_f c2 (sy_isq (by omega) hc.1 hc.2.1 (fun z => absurd z g) (fun _ => br_t rfl ⟨rfl, q, _, _, ⟨hq2, hq, g⟩, rfl, rfl, fun j hj => sd_fillA hj⟩)))
theorem i_vc_term {k : Nat} {u : SX} {v : SY} (I : i_Rel k u v) (hk : k + 3 ≤ 1536) (v1 : Int32) : wpX_term (fun r => wpY_term (fun r' v' => r' = r ∧ i_Rel (k + 3) u v') v v1) u v1 := by
  obtain ⟨n, a, b, hV, rfl, rfl, h⟩ := I
  unfold wpX_term wpY_term
  dsimp only
  by_cases c1 : v1 < 0
  · exact br_t c1 (br_t c1 ⟨rfl, n, a, b, hV, rfl, rfl, h⟩)
  obtain ⟨q, hq, rfl⟩ := nI_of c1
  by_cases c2 : q < 101
  · have c3 : nI q < 101 := nI_lt (b := 101) c2 (by omega)
    have c4 : nI q ≤ 100 := nI_le (b := 100) (by omega) (by omega)
    refine br_f c1 (br_t c3 ⟨vp_in_nI c2 (by omega), br_f c1 (br_t c4 (sy_write hV ⟨vp_in_nI (by omega) (by omega), ?_, n, a, _, hV, rfl, rfl, h⟩))⟩)
    rw [nI_clamp hq, h q c2]
    exact sd_fillA (by omega)
  · have c3 : ¬ nI q < 101 := nI_nlt (b := 101) (by omega) hq
    have c4 : ¬ nI q ≤ 100 := by
      intro z
      have z2 := (nI_leI (b := 100) hq (by omega)).mp z
      omega
    exact br_f c1 (br_f c3 (br_f c1 (br_f c4 ⟨rfl, n, a, b, hV, rfl, rfl, h⟩)))
theorem i_vc_period {k : Nat} {u : SX} {v : SY} (I : i_Rel k u v) (hk : k + 3 ≤ 1536) : wpX_period (fun r => wpY_period (fun r' v' => r' = r ∧ i_Rel (k + 3) u v') v) u := by
  obtain ⟨n, a, b, hV, rfl, rfl, h⟩ := I
  have hP := sd_P1 hV
  unfold wpX_period wpY_period
  dsimp only
  refine sy_write hV ?_
  exact ⟨_, sy_per6 hV b ⟨rfl, n, a, _, hV, rfl, rfl, h⟩ (sd_P n - 1) 1 (by omega) (by omega)⟩
theorem i_vc_solutions {k : Nat} {u : SX} {v : SY} (I : i_Rel k u v) (hk : k + 3 ≤ 1536) (v1 : Int32) (v2 : Int32) : wpX_solutions (fun r => wpY_solutions (fun r' => r' = r ∧ i_Rel (k + 3) u v) v v1 v2) u v1 v2 := by
  obtain ⟨n, a, b, hV, rfl, rfl, h⟩ := I
  have J : i_Rel (k + 3) (nI n, nI (sd_P n), a) (nI n, b) := ⟨n, a, b, hV, rfl, rfl, h⟩
  unfold wpX_solutions wpY_solutions
  dsimp only
  rcases sd_ref (nI n) v1 v2 (nI (sd_P n)) a b with ⟨hx, hy⟩ | ⟨⟨k1, k2, L, hL, rfl⟩, hx, hy⟩
  · exact hx _ (br_f (by decide) (hy _ (br_f (by decide) ⟨rfl, J⟩)))
  · obtain ⟨z, zx, zy⟩ := sd_sol (p := nI (sd_P n)) (a := a) (b := b) hV.2.1 hL k1 k2 (L + 1) 0 (by omega) 0
    exact hx _ (br_t rfl ⟨_, zx _ (hy _ (br_t rfl ⟨_, zy _ ⟨rfl, J⟩⟩))⟩)
theorem i_vc_next {k : Nat} {u : SX} {v : SY} (I : i_Rel k u v) (hk : k + 3 ≤ 1536) (v1 : Int32) (v2 : Int32) : wpX_next (fun r => wpY_next (fun r' => r' = r ∧ i_Rel (k + 3) u v) v v1 v2) u v1 v2 := by
  obtain ⟨n, a, b, hV, rfl, rfl, h⟩ := I
  have J : i_Rel (k + 3) (nI n, nI (sd_P n), a) (nI n, b) := ⟨n, a, b, hV, rfl, rfl, h⟩
  unfold wpX_next wpY_next
  dsimp only
  rcases sd_ref (nI n) v1 v2 (nI (sd_P n)) a b with ⟨hx, hy⟩ | ⟨⟨k1, k2, L, hL, rfl⟩, hx, hy⟩
  · exact hx _ (br_f (by decide) (hy _ (br_f (by decide) ⟨rfl, J⟩)))
  · obtain ⟨z, zx, zy⟩ := sd_next (p := nI (sd_P n)) (a := a) (b := b) hV.2.1 k1 k2 (3001 - L) L (by omega)
    exact hx _ (br_t rfl ⟨_, zx _ (hy _ (br_t rfl ⟨_, zy _ ⟨rfl, J⟩⟩))⟩)
theorem i_vc_root {k : Nat} {u : SX} {v : SY} (I : i_Rel k u v) (hk : k + 3 ≤ 1536) (v1 : Int32) (v2 : Int32) : wpX_root (fun r => wpY_root (fun r' => r' = r ∧ i_Rel (k + 3) u v) v v1 v2) u v1 v2 := by
  obtain ⟨n, a, b, hV, rfl, rfl, h⟩ := I
  have J : i_Rel (k + 3) (nI n, nI (sd_P n), a) (nI n, b) := ⟨n, a, b, hV, rfl, rfl, h⟩
  unfold wpX_root wpY_root
  dsimp only
  rcases sd_ref (nI n) v1 v2 (nI (sd_P n)) a b with ⟨hx, hy⟩ | ⟨⟨k1, k2, L, hL, rfl⟩, hx, hy⟩
  · exact hx _ (br_f (by decide) (hy _ (br_f (by decide) ⟨rfl, J⟩)))
  · obtain ⟨z, _, zx, zy⟩ := sd_find (p := nI (sd_P n)) (a := a) (b := b) hV.2.1 hL k1 k2
    exact hx _ (br_t rfl (zx _ (hy _ (br_t rfl (zy _ ⟨rfl, J⟩)))))
theorem i_vc_sum {k : Nat} {u : SX} {v : SY} (I : i_Rel k u v) (hk : k + 3 ≤ 1536) (v1 : Int32) (v2 : Int32) : wpX_sum (fun r => wpY_sum (fun r' => r' = r ∧ i_Rel (k + 3) u v) v v1 v2) u v1 v2 := by
  obtain ⟨n, a, b, hV, rfl, rfl, h⟩ := I
  have J : i_Rel (k + 3) (nI n, nI (sd_P n), a) (nI n, b) := ⟨n, a, b, hV, rfl, rfl, h⟩
  unfold wpX_sum wpY_sum
  dsimp only
  rcases sd_ref (nI n) v1 v2 (nI (sd_P n)) a b with ⟨hx, hy⟩ | ⟨⟨k1, k2, L, hL, rfl⟩, hx, hy⟩
  · exact hx _ (br_f (by decide) (hy _ (br_f (by decide) ⟨rfl, J⟩)))
  · obtain ⟨z, zx, zy⟩ := sd_sum (p := nI (sd_P n)) (a := a) (b := b) hV.2.1 hL k1 k2 (L + 1) 0 (by omega) 0
    exact hx _ (br_t rfl ⟨_, zx _ (hy _ (br_t rfl ⟨_, zy _ ⟨rfl, J⟩⟩))⟩)
end
