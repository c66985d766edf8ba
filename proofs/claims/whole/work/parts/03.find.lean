/-! the two ways to a root -/
theorem sx_root5 {w r : Nat} (hw : w < 2 ^ 31) (h1 : r * r ≤ w) (h2 : w < (r + 1) * (r + 1)) (hr : r < 65536) {post : Int32 → Prop} (hp : post (nI r)) : ∀ j f : Nat, j ≤ 16 → f ≤ r → r < f + 2 ^ j → wX_floorRoot_5 post (nI w) (j + 1) (nI f) (nI (2 ^ j / 2)) := by
  intro j
  induction j with
  | zero =>
    intro f _ hf hg
    have e : f = r := by
      have z : (2 : Nat) ^ 0 = 1 := rfl
      omega
    rw [e]
    exact br_t (by decide) hp
  | succ j ih =>
    intro f hj hf hg
    have hb : 2 ^ j ≤ 2 ^ 15 := Nat.pow_le_pow_right (by decide) (by omega)
    have hb0 : 0 < 2 ^ j := Nat.two_pow_pos j
    have e1 : 2 ^ (j + 1) / 2 = 2 ^ j := by
      rw [Nat.pow_succ]
      exact Nat.mul_div_cancel _ (by decide)
    rw [e1]
    rw [Nat.pow_succ] at hg
    clear e1
    generalize 2 ^ j = B at ih hb hb0 hg ⊢
    have hs : nI B >>> ((1 : Int32) &&& 31) = nI (B / 2) := pk_shrN (n := B) (by omega) ((1 : Int32) &&& 31) 1 (by decide)
    have ht : (nI f + nI B).toInt64 = lN (f + B) := by rw [nI_add, nI_l (by omega)]
    have hq : (f + B) * (f + B) ≤ 100000 * 100000 := Nat.mul_le_mul (by omega) (by omega)
    have hc : (nI w).toInt64 < lN (f + B) * lN (f + B) ↔ w < (f + B) * (f + B) := by
      rw [nI_l hw, lN_mul, pk_lLT (by omega) (by omega)]
    have hd := sd_sq h1 h2 (f + B)
    refine br_f (nI_nle hb0 (by omega)) (nm_r ht ?_)
    by_cases hle : f + B ≤ r
    · have hx : ¬ w < (f + B) * (f + B) := by have := hd.mpr hle; omega
      exact br_f (fun z => hx (hc.mp z)) (nm_r (nI_add f B) (nm_r hs (ih (f + B) (by omega) hle (by omega))))
    · have hx : w < (f + B) * (f + B) := by
        by_cases z : w < (f + B) * (f + B)
        · exact z
        · exact absurd (hd.mp (by omega)) hle
      exact br_t (hc.mpr hx) (nm_r hs (ih f (by omega) hf (by omega)))
theorem sx_root {w r : Nat} (hw : w < 2 ^ 31) (h1 : r * r ≤ w) (h2 : w < (r + 1) * (r + 1)) {post : Int32 → Prop} (hp : post (nI r)) : wpX_floorRoot post (nI w) := by
  have hr : r ≤ 65535 := sd_rle 65535 h1 (by omega)
  have h := sx_root5 hw h1 h2 (by omega) hp 16 0 (by omega) (by omega) (by omega)
  exact ⟨17, h⟩
theorem sy_root5 {w r : Nat} (hw : w < 2 ^ 31) (h1 : r * r ≤ w) (h2 : w < (r + 1) * (r + 1)) {post : Int32 → Prop} (hp : post (nI r)) : ∀ n lo hi : Nat, lo ≤ r → r ≤ hi → hi ≤ 33200 → hi - lo < n → wY_rootOf_5 post (nI w) n (nI lo) (nI hi) := by
  intro n
  induction n with
  | zero =>
    intro lo hi _ _ _ h
    exact absurd h (Nat.not_lt_zero _)
  | succ n ih =>
    intro lo hi a b c d
    refine pk_le hi lo (fun h => ?_) (fun h => ?_)
    · rw [show lo = r from by omega]
      exact hp
    · have e : ((nI lo + nI hi) + 1) / 2 = nI ((lo + hi + 1) / 2) := by
        rw [nI_add, nI_1]
        exact pk_div (d := 2) (by omega) (by omega) (by omega)
      refine ⟨by decide, nm_r e ?_⟩
      have hm1 : lo < (lo + hi + 1) / 2 := by omega
      have hm2 : (lo + hi + 1) / 2 ≤ hi := by omega
      clear e
      generalize (lo + hi + 1) / 2 = m at hm1 hm2 ⊢
      have hq : m * m ≤ 33200 * 33200 := Nat.mul_le_mul (by omega) (by omega)
      have hd := sd_sq h1 h2 m
      refine pk_lt w (m * m) (fun h => ?_) (fun h => ?_) rfl (pk_mul m m) hw (by omega)
      · have hx : ¬ m ≤ r := fun z => by have := hd.mpr z; omega
        exact nm_r (pk_sub (b := 1) (by omega)) (ih lo (m - 1) a (by omega) (by omega) (by omega))
      · exact ih m hi (hd.mp h) b c (by omega)
theorem sy_root {w r : Nat} (hw : w < 1080000010) (h1 : r * r ≤ w) (h2 : w < (r + 1) * (r + 1)) {post : Int32 → Prop} (hp : post (nI r)) : wpY_rootOf post (nI w) := by
  have hr : r ≤ 33200 := sd_rle 33200 h1 (by omega)
  exact ⟨33201, sy_root5 (by omega) h1 h2 hp 33201 0 33200 (by omega) hr (by omega) (by omega)⟩
theorem sx_isq {w r : Nat} (hw : w < 2 ^ 31) (h1 : r * r ≤ w) (h2 : w < (r + 1) * (r + 1)) {post : Int32 → Prop} (ht : r * r = w → post 1) (hf : r * r ≠ w → post 0) : wpX_isSquare post (nI w) := by
  unfold wpX_isSquare
  refine sx_root hw h1 h2 ?_
  exact pk_eq (r * r) w ht hf (pk_mul r r) rfl (by omega) hw
theorem sy_isq {w r : Nat} (hw : w < 1080000010) (h1 : r * r ≤ w) (h2 : w < (r + 1) * (r + 1)) {post : Int32 → Prop} (ht : r * r = w → post 1) (hf : r * r ≠ w → post 0) : wpY_isSquare post (nI w) := by
  unfold wpY_isSquare
  refine sy_root hw h1 h2 ?_
  exact pk_eq (r * r) w ht hf (pk_mul r r) rfl (by omega) (by omega)
/-! one answer for the x of k and y, on both sides -/
theorem sd_find {n y : Nat} {k p : Int32} {a b : Nat → Int32} (hn : n ≤ 120) (hy : y ≤ 3000) (h1 : -9 ≤ k.toInt) (h2 : k.toInt ≤ 9) : ∃ z : Int32, (z = -2 ∨ ∃ r : Nat, r < 2 ^ 31 ∧ z = nI r) ∧ (∀ post : Int32 → Prop, post z → wpX_findX post (nI n, p, a) k (nI y)) ∧ (∀ post : Int32 → Prop, post z → wpY_find post (nI n, b) k (nI y)) := by
  by_cases h : nI n * nI y * nI y + k < 0
  · have hl : ¬ 0 ≤ nI n * nI y * nI y + k := Int32.not_le.mpr h
    refine ⟨-2, Or.inl rfl, fun post hp => ?_, fun post hp => ?_⟩
    · unfold wpX_findX
      dsimp only
      exact nm_e (br_f hl hp)
    · unfold wpY_find
      dsimp only
      exact nm_e (br_f hl hp)
  · obtain ⟨w, hw, e⟩ := sd_sqv hn hy h1 h2 h
    obtain ⟨r, r1, r2⟩ := sd_rt w
    have hl : 0 ≤ nI w := nI_pos' (by omega)
    have hr : r ≤ 65535 := sd_rle 65535 r1 (by omega)
    by_cases g : r * r = w
    · have g2 : nI r * nI r = nI w := by rw [pk_mul, g]
      refine ⟨nI r, Or.inr ⟨r, by omega, rfl⟩, fun post hp => ?_, fun post hp => ?_⟩
      · unfold wpX_findX
        dsimp only
        exact nm_r e (br_t hl (sx_root (by omega) r1 r2 (br_t g2 hp)))
      · unfold wpY_find
        dsimp only
        exact nm_r e (br_t hl (sy_root hw r1 r2 (br_t g2 hp)))
    · have g2 : ¬ nI r * nI r = nI w := by
        rw [pk_mul, nI_eq (by omega) (by omega)]
        exact g
      refine ⟨-2, Or.inl rfl, fun post hp => ?_, fun post hp => ?_⟩
      · unfold wpX_findX
        dsimp only
        exact nm_r e (br_t hl (sx_root (by omega) r1 r2 (br_f g2 hp)))
      · unfold wpY_find
        dsimp only
        exact nm_r e (br_t hl (sy_root hw r1 r2 (br_f g2 hp)))
theorem sd_ne2 {r : Nat} (h : r < 2 ^ 31) : ¬ nI r = -2 := fun z => by
  have q := nI_pos h
  rw [z] at q
  exact q (by decide)
/-! refusals -/
theorem sd_ref (N k y p : Int32) (a b : Nat → Int32) : ((∀ post : Int32 → Prop, post 1 → wpX_isRefused post (N, p, a) k y) ∧ (∀ post : Int32 → Prop, post 1 → wpY_refused post (N, b) k y)) ∨ ((-9 ≤ k.toInt ∧ k.toInt ≤ 9 ∧ ∃ j : Nat, j ≤ 3000 ∧ y = nI j) ∧ (∀ post : Int32 → Prop, post 0 → wpX_isRefused post (N, p, a) k y) ∧ (∀ post : Int32 → Prop, post 0 → wpY_refused post (N, b) k y)) := by
  unfold wpX_isRefused wpY_refused
  dsimp only
  by_cases c1 : k < -9
  · exact Or.inl ⟨fun post hp => br_t c1 hp, fun post hp => br_t c1 hp⟩
  by_cases c2 : 9 < k
  · exact Or.inl ⟨fun post hp => br_f c1 (br_t c2 hp), fun post hp => br_f c1 (br_t c2 hp)⟩
  by_cases c3 : k = 0
  · exact Or.inl ⟨fun post hp => br_f c1 (br_f c2 (br_t c3 hp)), fun post hp => br_f c1 (br_f c2 (br_t c3 hp))⟩
  by_cases c4 : k * k < N
  · have c4y : ¬ N ≤ k * k := Int32.not_le.mpr c4
    by_cases c5 : y < 0
    · exact Or.inl ⟨fun post hp => br_f c1 (br_f c2 (br_f c3 (br_t c4 (br_t c5 hp)))), fun post hp => br_f c1 (br_f c2 (br_f c3 (br_f c4y (br_t c5 hp))))⟩
    by_cases c6 : y ≤ 3000
    · refine Or.inr ⟨⟨?_, ?_, nI_of2 (M := 3000) (by decide) c5 c6⟩, fun post hp => br_f c1 (br_f c2 (br_f c3 (br_t c4 (br_f c5 (br_t c6 hp))))), fun post hp => br_f c1 (br_f c2 (br_f c3 (br_f c4y (br_f c5 (br_t c6 hp)))))⟩
      · rw [Int32.lt_iff_toInt_lt, show (-9 : Int32).toInt = -9 from by decide] at c1
        omega
      · rw [Int32.lt_iff_toInt_lt, show (9 : Int32).toInt = 9 from by decide] at c2
        omega
    · exact Or.inl ⟨fun post hp => br_f c1 (br_f c2 (br_f c3 (br_t c4 (br_f c5 (br_f c6 hp))))), fun post hp => br_f c1 (br_f c2 (br_f c3 (br_f c4y (br_f c5 (br_f c6 hp)))))⟩
  · have c4y : N ≤ k * k := Int32.not_lt.mp c4
    exact Or.inl ⟨fun post hp => br_f c1 (br_f c2 (br_f c3 (br_f c4 hp))), fun post hp => br_f c1 (br_f c2 (br_f c3 (br_t c4y hp)))⟩
/-! the three loops over y, side by side -/
theorem sd_sol {n L : Nat} {k p : Int32} {a b : Nat → Int32} (hn : n ≤ 120) (hL : L ≤ 3000) (h1 : -9 ≤ k.toInt) (h2 : k.toInt ≤ 9) : ∀ d i : Nat, i + d = L + 1 → ∀ c : Int32, ∃ z : Int32, (∀ post : Int32 → Prop, post z → wX_solutions_16 post k (nI L) (nI n) p a (d + 1) c (nI i)) ∧ (∀ post : Int32 → Prop, post z → wY_solutions_16 post k (nI L) (nI n) b (d + 1) c (nI i)) := by
  intro d
  induction d with
  | zero =>
    intro i hi c
    have hl : nI L < nI i := nI_lt (by omega) (by omega)
    exact ⟨c, fun _ hp => br_t hl hp, fun _ hp => br_t hl hp⟩
  | succ d ih =>
    intro i hi c
    have hl : ¬ nI L < nI i := nI_nlt (by omega) (by omega)
    obtain ⟨z, hz, fx, fy⟩ := sd_find (n := n) (y := i) (k := k) (p := p) (a := a) (b := b) hn (by omega) h1 h2
    rcases hz with rfl | ⟨r, hr, rfl⟩
    · obtain ⟨v, vx, vy⟩ := ih (i + 1) (by omega) c
      exact ⟨v, fun post hp => br_f hl (fx _ (br_t rfl (nm_r (nI_1 i) (vx post hp)))), fun post hp => br_f hl (fy _ (br_t (by decide) (nm_r (nI_1 i) (vy post hp))))⟩
    · obtain ⟨v, vx, vy⟩ := ih (i + 1) (by omega) (c + 1)
      exact ⟨v, fun post hp => br_f hl (fx _ (br_f (sd_ne2 hr) (nm_e (nm_r (nI_1 i) (vx post hp))))), fun post hp => br_f hl (fy _ (br_f (nI_pos hr) (nm_e (nm_r (nI_1 i) (vy post hp)))))⟩
theorem sd_sum {n L : Nat} {k p : Int32} {a b : Nat → Int32} (hn : n ≤ 120) (hL : L ≤ 3000) (h1 : -9 ≤ k.toInt) (h2 : k.toInt ≤ 9) : ∀ d i : Nat, i + d = L + 1 → ∀ c : Int32, ∃ z : Int32, (∀ post : Int32 → Prop, post z → wX_sum_16 post k (nI L) (nI n) p a (d + 1) c (nI i)) ∧ (∀ post : Int32 → Prop, post z → wY_sum_16 post k (nI L) (nI n) b (d + 1) c (nI i)) := by
  intro d
  induction d with
  | zero =>
    intro i hi c
    have hl : nI L < nI i := nI_lt (by omega) (by omega)
    exact ⟨c, fun _ hp => br_t hl hp, fun _ hp => br_t hl hp⟩
  | succ d ih =>
    intro i hi c
    have hl : ¬ nI L < nI i := nI_nlt (by omega) (by omega)
    obtain ⟨z, hz, fx, fy⟩ := sd_find (n := n) (y := i) (k := k) (p := p) (a := a) (b := b) hn (by omega) h1 h2
    rcases hz with rfl | ⟨r, hr, rfl⟩
    · obtain ⟨v, vx, vy⟩ := ih (i + 1) (by omega) c
      exact ⟨v, fun post hp => br_f hl (fx _ (br_t rfl (nm_r (nI_1 i) (vx post hp)))), fun post hp => br_f hl (fy _ (br_t (by decide) (nm_r (nI_1 i) (vy post hp))))⟩
    · obtain ⟨v, vx, vy⟩ := ih (i + 1) (by omega) (c + nI i)
      exact ⟨v, fun post hp => br_f hl (fx _ (br_f (sd_ne2 hr) (nm_e (nm_r (nI_1 i) (vx post hp))))), fun post hp => br_f hl (fy _ (br_f (nI_pos hr) (nm_e (nm_r (nI_1 i) (vy post hp)))))⟩
theorem sd_next {n : Nat} {k p : Int32} {a b : Nat → Int32} (hn : n ≤ 120) (h1 : -9 ≤ k.toInt) (h2 : k.toInt ≤ 9) : ∀ d i : Nat, i + d = 3001 → ∃ z : Int32, (∀ post : Int32 → Prop, post z → wX_next_13 post k (nI n) p a (d + 1) (nI i)) ∧ (∀ post : Int32 → Prop, post z → wY_next_13 post k (nI n) b (d + 1) (nI i)) := by
  intro d
  induction d with
  | zero =>
    intro i hi
    have hl : (3000 : Int32) < nI i := nI_lt (a := 3000) (by omega) (by omega)
    exact ⟨-2, fun _ hp => br_t hl hp, fun _ hp => br_t hl hp⟩
  | succ d ih =>
    intro i hi
    have hl : ¬ (3000 : Int32) < nI i := nI_nlt (a := 3000) (by omega) (by omega)
    obtain ⟨z, hz, fx, fy⟩ := sd_find (n := n) (y := i) (k := k) (p := p) (a := a) (b := b) hn (by omega) h1 h2
    rcases hz with rfl | ⟨r, hr, rfl⟩
    · obtain ⟨v, vx, vy⟩ := ih (i + 1) (by omega)
      exact ⟨v, fun post hp => br_f hl (fx _ (br_t rfl (nm_r (nI_1 i) (vx post hp)))), fun post hp => br_f hl (fy _ (br_t (by decide) (nm_r (nI_1 i) (vy post hp))))⟩
    · exact ⟨nI i, fun post hp => br_f hl (fx _ (br_f (sd_ne2 hr) hp)), fun post hp => br_f hl (fy _ (br_f (nI_pos hr) hp))⟩
