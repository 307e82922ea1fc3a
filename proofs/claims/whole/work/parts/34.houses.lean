/-! WHAT IS TOLD OF HOUSES -/
def toldN (kd fi ha jr : Nat → Nat) (dy w i : Nat) : Nat := match w with
  | 0 => kd i
  | 1 => fi i
  | 2 => ha i
  | 3 => jr i
  | 4 => bringN (kd i) (jr i) dy
  | 5 => worthN (kd i) (jr i)
  | _ => if 5 * ha i ≤ worthN (kd i) (jr i) then 1 else 0
theorem ite_01 (c : Prop) [Decidable c] : (if (if c then (1 : Int32) else 0) = 0 then some (0 : Int32) else some 1) = some (nI (if c then 1 else 0)) := by
  by_cases h : c
  · simp only [if_pos h, i10, if_false]; rfl
  · simp only [if_neg h, if_true]; rfl
theorem c_told {S T : Mem} {h d a b a2 b2 : Nat} {kd fi ha dy qy : Nat → Nat} {jr : Nat → Nat → Nat} (H : HC S h kd fi ha) (I : HI S T h 0 d a b a2 b2 dy qy jr) {i : Nat} (hi : i < h) : ∀ w, w < 7 → f3_ofHouse S (nI i) (nI w) = some (nI (toldN kd fi ha (jr d) (dy d) w i)) := by
  intro w hw
  obtain ⟨M, O⟩ := I.2.2.1 d (Nat.le_refl d)
  have hd := I.1
  have h2 := H.2.1
  obtain ⟨⟨a1, a2⟩, b1', c1⟩ := H.2.2 i hi
  have hj := O.2.2 i hi
  have g := i7 h2 hi
  have gq : 41 * 0 + d < 165 := by omega
  have e := c_brings (q := 41 * 0 + d) (dy := dy d) H hi hj (by have := O.1; omega) M.1 (M.2.2 i hi)
  unfold f3_ofHouse
  simp only [c_now I, b1_at, gd_d gq, gd_t g, ix_k (show i < 2 ^ 31 by omega), a1, b1'.1, c1.1, M.2.2 i hi, e, c_worth _ a2 _ (show jr d i < 100 by omega), c_off H hi (show jr d i < 100 by omega)]
  rcases (show w = 0 ∨ w = 1 ∨ w = 2 ∨ w = 3 ∨ w = 4 ∨ w = 5 ∨ w = 6 by omega) with rfl | rfl | rfl | rfl | rfl | rfl | rfl
  · simp only [if_pos (show nI 0 = 0 from rfl)]
    rfl
  · simp only [if_neg (show ¬ nI 1 = 0 by decide), if_pos (show nI 1 = 1 from rfl)]
    rfl
  · simp only [if_neg (show ¬ nI 2 = 0 by decide), if_neg (show ¬ nI 2 = 1 by decide), if_pos (show nI 2 = 2 from rfl)]
    rfl
  · simp only [if_neg (show ¬ nI 3 = 0 by decide), if_neg (show ¬ nI 3 = 1 by decide), if_neg (show ¬ nI 3 = 2 by decide), if_pos (show nI 3 = 3 from rfl)]
    rfl
  · simp only [if_neg (show ¬ nI 4 = 0 by decide), if_neg (show ¬ nI 4 = 1 by decide), if_neg (show ¬ nI 4 = 2 by decide), if_neg (show ¬ nI 4 = 3 by decide), if_pos (show nI 4 = 4 from rfl)]
    rfl
  · simp only [if_neg (show ¬ nI 5 = 0 by decide), if_neg (show ¬ nI 5 = 1 by decide), if_neg (show ¬ nI 5 = 2 by decide), if_neg (show ¬ nI 5 = 3 by decide), if_neg (show ¬ nI 5 = 4 by decide), if_pos (show nI 5 = 5 from rfl)]
    rfl
  · simp only [if_neg (show ¬ nI 6 = 0 by decide), if_neg (show ¬ nI 6 = 1 by decide), if_neg (show ¬ nI 6 = 2 by decide), if_neg (show ¬ nI 6 = 3 by decide), if_neg (show ¬ nI 6 = 4 by decide), if_neg (show ¬ nI 6 = 5 by decide), ite_01]
    rfl
theorem m_told {T : Mem} {h dy qy : Nat} {kd fi ha jr : Nat → Nat} (H : HM T h kd fi ha) (M : MM T h 11 0 dy qy jr) (hdy : dy < 2 ^ 31) {i : Nat} (hi : i < h) (hj : jr i ≤ 99) : ∀ w, w < 7 → f4_told T (nI i) (nI w) = some (nI (toldN kd fi ha jr dy w i)) := by
  intro w hw
  have h2 := H.2.1
  obtain ⟨⟨a1, a2⟩, b1', c1⟩ := H.2.2 i hi
  have g := i7 h2 hi
  have e := m_brings H hi hj hdy M.1 (m_jar h2 M hi)
  unfold f4_told
  simp only [b1_at, gd_t g, ix_k (show i < 2 ^ 31 by omega), a1, b1'.1, c1.1, m_jar h2 M hi, e, m_worthNow H M hi hj, m_off H M hi hj]
  rcases (show w = 0 ∨ w = 1 ∨ w = 2 ∨ w = 3 ∨ w = 4 ∨ w = 5 ∨ w = 6 by omega) with rfl | rfl | rfl | rfl | rfl | rfl | rfl
  · simp only [if_pos (show nI 0 = 0 from rfl)]
    rfl
  · simp only [if_neg (show ¬ nI 1 = 0 by decide), if_pos (show nI 1 = 1 from rfl)]
    rfl
  · simp only [if_neg (show ¬ nI 2 = 0 by decide), if_neg (show ¬ nI 2 = 1 by decide), if_pos (show nI 2 = 2 from rfl)]
    rfl
  · simp only [if_neg (show ¬ nI 3 = 0 by decide), if_neg (show ¬ nI 3 = 1 by decide), if_neg (show ¬ nI 3 = 2 by decide), if_pos (show nI 3 = 3 from rfl)]
    rfl
  · simp only [if_neg (show ¬ nI 4 = 0 by decide), if_neg (show ¬ nI 4 = 1 by decide), if_neg (show ¬ nI 4 = 2 by decide), if_neg (show ¬ nI 4 = 3 by decide), if_pos (show nI 4 = 4 from rfl)]
    rfl
  · simp only [if_neg (show ¬ nI 5 = 0 by decide), if_neg (show ¬ nI 5 = 1 by decide), if_neg (show ¬ nI 5 = 2 by decide), if_neg (show ¬ nI 5 = 3 by decide), if_neg (show ¬ nI 5 = 4 by decide), if_pos (show nI 5 = 5 from rfl)]
    rfl
  · simp only [if_neg (show ¬ nI 6 = 0 by decide), if_neg (show ¬ nI 6 = 1 by decide), if_neg (show ¬ nI 6 = 2 by decide), if_neg (show ¬ nI 6 = 3 by decide), if_neg (show ¬ nI 6 = 4 by decide), if_neg (show ¬ nI 6 = 5 by decide), ite_01]
    rfl
theorem p_house {S T : Mem} (R : Rel S T) (x y : Int32) : ∃ r S' T', f3_house S x y = some (r, S') ∧ f4_house T x y = some (r, T') ∧ Rel S' T' := by
  obtain ⟨h, kd, fi, ha, d, dy, qy, jr, H1, H2, H3, H4, H5⟩ := R.2
  obtain ⟨M1, O1⟩ := H4.2.2.1 d (Nat.le_refl d)
  have hd := H4.1
  unfold f3_house f4_house
  simp only [c_isHouse H1, m_isHouse H2, b1_at, show (6 : Int64) = lN 6 from rfl, m_in0 y 6 (by decide)]
  by_cases hx : inb x h = true
  · obtain ⟨i, hi, rfl⟩ := inb_ex hx (by have := H1.2.1; omega)
    simp only [if_pos hx, i10, if_false]
    rw [n_7, two_if2 y (show 7 < 2 ^ 31 by decide)]
    by_cases hy : inb y 7 = true
    · obtain ⟨w, hw, rfl⟩ := inb_ex hy (by decide)
      simp only [if_pos hy, i10, if_false, c_told H1 H4 hi w hw, m_told H2 H4.2.2.2.1 (show dy d < 2 ^ 31 by have := O1.1; omega) hi (O1.2.2 i hi) w hw, b1_at, nmE, m_tells, b2_at]
      exact ⟨_, _, _, rfl, rfl, R.told _⟩
    · simp only [if_neg hy, if_true]
      exact ⟨_, _, _, rfl, rfl, R⟩
  · simp only [if_neg hx, if_true]
    exact ⟨_, _, _, rfl, rfl, R⟩
theorem p_worth {S T : Mem} (R : Rel S T) (x y : Int32) : ∃ r, f3_worth S x y = some r ∧ f4_worth T x y = some r := by
  obtain ⟨h, kd, fi, ha, d, dy, qy, jr, H1, H2, H3, H4, H5⟩ := R.2
  unfold f3_worth f4_worth
  simp only [c_isHouse H1, m_isHouse H2, b1_at, show (99 : Int64) = lN 99 from rfl, m_in0 y 99 (by decide)]
  by_cases hx : inb x h = true
  · obtain ⟨i, hi, rfl⟩ := inb_ex hx (by have := H1.2.1; omega)
    obtain ⟨⟨a1, a2⟩, -, -⟩ := H1.2.2 i hi
    obtain ⟨⟨a3, -⟩, -, -⟩ := H2.2.2 i hi
    have g := i7 H1.2.1 hi
    simp only [if_pos hx, i10, if_false]
    rw [n_99, rng0_if y (by decide)]
    by_cases hy : inb y (99 + 1) = true
    · obtain ⟨j, hj, rfl⟩ := inb_ex hy (by decide)
      have h7 := H1.2.1
      simp only [if_pos hy, i10, if_false, gd_t g, ix_k (show i < 2 ^ 31 by omega), a1, a3, c_worth _ a2 j hj, m_worth _ a2 j hj, b1_at]
      exact ⟨_, rfl, rfl⟩
    · simp only [if_neg hy, if_true]
      exact ⟨_, rfl, rfl⟩
  · simp only [if_neg hx, if_true]
    exact ⟨_, rfl, rfl⟩
theorem mk_1 : ∀ k, k < 6 → ∀ j, j < 100 → f3_markOf (nI k) (nI 1) (nI j) = some (nI (worthN k j) - nI j) := by decide +kernel
theorem mk_2 : ∀ k, k < 6 → ∀ j, j < 100 → f3_markOf (nI k) (nI 2) (nI j) = some ((nI (worthN k j) - nI j) + 100) := by decide +kernel
theorem mk_3 : ∀ k, k < 6 → ∀ j, j < 100 → f3_markOf (nI k) (nI 3) (nI j) = some (nI j - nI (j - 7)) := by decide +kernel
theorem mk_4 : ∀ k, k < 6 → ∀ j, j < 100 → f3_markOf (nI k) (nI 4) (nI j) = some (nI (worthN k j) - nI (worthN 1 j)) := by decide +kernel
theorem mk_5 : ∀ k, k < 6 → ∀ j, j < 100 → f3_markOf (nI k) (nI 5) (nI j) = some (nI (worthN 2 j) - nI (worthN k j)) := by decide +kernel
theorem rng15 {α : Type} (x : Int32) (A B : α) : (if x ≤ 0 then A else if x < 6 then B else A) = if rng x 1 5 = true then B else A := by
  rw [n_0, n_6]
  simp only [i_lt, i_le, nI_toInt (show 0 < 2 ^ 31 by decide), nI_toInt (show 6 < 2 ^ 31 by decide), rng_iff]
  split
  · rw [if_neg (by omega)]
  · split
    · rw [if_pos (by omega)]
    · rw [if_neg (by omega)]
theorem p_mark {S T : Mem} (R : Rel S T) (x y : Int32) : ∃ r S' T', f3_mark S x y = some (r, S') ∧ f4_mark T x y = some (r, T') ∧ Rel S' T' := by
  obtain ⟨h, kd, fi, ha, d, dy, qy, jr, H1, H2, H3, H4, H5⟩ := R.2
  obtain ⟨M1, O1⟩ := H4.2.2.1 d (Nat.le_refl d)
  have hd := H4.1
  have gq : 41 * 0 + d < 165 := by omega
  unfold f3_mark f4_mark
  simp only [c_isHouse H1, m_isHouse H2, b1_at, show (1 : Int64) = lN 1 from rfl, show (5 : Int64) = lN 5 from rfl, in_rng y 1 5 (by decide) (by decide), rng15]
  by_cases hx : inb x h = true
  · obtain ⟨i, hi, rfl⟩ := inb_ex hx (by have := H1.2.1; omega)
    obtain ⟨⟨a1, a2⟩, -, -⟩ := H1.2.2 i hi
    have g := i7 H1.2.1 hi
    have hj := O1.2.2 i hi
    have h7 := H1.2.1
    have t0 : f4_told T (nI i) 0 = some (nI (kd i)) := m_told H2 H4.2.2.2.1 (show dy d < 2 ^ 31 by have := O1.1; omega) hi hj 0 (by decide)
    simp only [if_pos hx, i10, if_false]
    by_cases hy : rng y 1 5 = true
    · obtain ⟨o, ho1, ho2, rfl⟩ := rng_ex hy
      simp only [if_pos hy, i10, if_false, gd_t g, ix_k (show i < 2 ^ 31 by omega), a1, nmE, c_isa _ a2 o (by omega)]
      simp only [t0, b1_at, m_isa _ a2 o (show o < 6 by omega)]
      by_cases ho : isaN (kd i) o = true
      · simp only [if_pos ho, i10, if_false, c_now H4, b1_at, gd_d gq, M1.2.2 i hi, m_jar H1.2.1 H4.2.2.2.1 hi]
        have w := m_worthNow H2 H4.2.2.2.1 hi hj
        have br := m_brings H2 hi hj (show dy d < 2 ^ 31 by have := O1.1; omega) H4.2.2.2.1.1 (m_jar H1.2.1 H4.2.2.2.1 hi)
        rcases (show o = 1 ∨ o = 2 ∨ o = 3 ∨ o = 4 ∨ o = 5 by omega) with rfl | rfl | rfl | rfl | rfl
        · simp only [mk_1 _ a2 _ (show jr d i < 100 by omega), b1_at, if_pos (show nI 1 = 1 from rfl), w]
          exact ⟨_, _, _, rfl, rfl, R⟩
        · simp only [mk_2 _ a2 _ (show jr d i < 100 by omega), b1_at, if_neg (show ¬ nI 2 = 1 by decide), if_pos (show nI 2 = 2 from rfl), w]
          exact ⟨_, _, _, rfl, rfl, R⟩
        · have k3 : kd i = 3 := by
            have := of_decide_eq_true ho
            omega
          simp only [k3, mk_3 3 (by decide) _ (show jr d i < 100 by omega), b1_at, if_neg (show ¬ nI 3 = 1 by decide), if_neg (show ¬ nI 3 = 2 by decide), if_pos (show nI 3 = 3 from rfl), br]
          exact ⟨_, _, _, rfl, rfl, R⟩
        · simp only [mk_4 _ a2 _ (show jr d i < 100 by omega), b1_at, if_neg (show ¬ nI 4 = 1 by decide), if_neg (show ¬ nI 4 = 2 by decide), if_neg (show ¬ nI 4 = 3 by decide), if_pos (show nI 4 = 4 from rfl)]
          simp only [w, n_1, m_worth 1 (by decide) _ (show jr d i < 100 by omega), b1_at]
          exact ⟨_, _, _, rfl, rfl, R⟩
        · simp only [mk_5 _ a2 _ (show jr d i < 100 by omega), b1_at, if_neg (show ¬ nI 5 = 1 by decide), if_neg (show ¬ nI 5 = 2 by decide), if_neg (show ¬ nI 5 = 3 by decide), if_neg (show ¬ nI 5 = 4 by decide)]
          simp only [w, n_2, m_worth 2 (by decide) _ (show jr d i < 100 by omega), b1_at]
          exact ⟨_, _, _, rfl, rfl, R⟩
      · simp only [if_neg ho, if_true, c_f3, m_f3, b2_at]
        exact ⟨_, _, _, rfl, rfl, R.find (by decide)⟩
    · simp only [if_neg hy, if_true]
      exact ⟨_, _, _, rfl, rfl, R⟩
  · simp only [if_neg hx, if_true]
    exact ⟨_, _, _, rfl, rfl, R⟩
