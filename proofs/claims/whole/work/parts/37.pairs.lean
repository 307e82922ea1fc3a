/-! ROWS OF PAIRS: KINDS -/
def limP (p : Nat) : Nat := if p % 2 = 0 then 99 else 300
def okP (S : Mem) (k p : Nat) : Prop := ∃ v, v ≤ limP p ∧ gi S (2 + k) p = nI v
theorem pairs_loop {S T : Mem} (R : Rel S T) {k z : Nat} (hk : k < 6) (hz : z ≤ 40) (hs : gi S 8 k = nI z) (ht : gi T 2 k = nI z) : ∀ (n i : Nat), z - i < n → i ≤ z → (∀ p, p < i → okP S k p) → (f3_pairsRefusal_b42 n S (nI k) (nI i) = some (-3, fndC S 3) ∧ f4_whyPairs_b52 n T (nI k) (nI i) = some (-3, fndM T 3)) ∨ (f3_pairsRefusal_b42 n S (nI k) (nI i) = some (0, S) ∧ f4_whyPairs_b52 n T (nI k) (nI i) = some (0, T) ∧ ∀ p, p < z → okP S k p)
  | 0, i, h, _, _ => by omega
  | n + 1, i, h, hi, ho => by
    have g0 : inb (nI k) 6 = true := inb_nI hk (by decide)
    rw [f3_pairsRefusal_b42, f4_whyPairs_b52]
    simp only [gd_t g0, ix_k (show k < 2 ^ 31 by omega), hs, ht]
    rcases Nat.lt_or_ge i z with q | q
    · have e : ¬ nI z ≤ nI i := by rw [n_le (by omega) (by omega)]; omega
      have g1 : inb (nI i) 40 = true := inb_nI (by omega) (by decide)
      have g2 : inb (nI (40 * k + i)) 240 = true := inb_nI (by omega) (by decide)
      unfold f3_pairsRefusal_b68 f4_whyPairs_b90 f3_pairsRefusal_b96
      simp only [if_neg e, gd_t g0, gd_t g1, n_40, pk_mul, nI_add, gd_t g2, ix_k (show k < 2 ^ 31 by omega), ix_k (show i < 2 ^ 31 by omega), ix_k (show 40 * k + i < 2 ^ 31 by omega), ← R.rv hk (show i < 40 by omega), mod2 (show i < 2 ^ 31 by omega), c_f3, m_f3, b2_at, nmE, nI_1, show (99 : Int64) = lN 99 from rfl, show (300 : Int64) = lN 300 from rfl, m_in0 _ 99 (by decide), m_in0 _ 300 (by decide), b1_at]
      rw [n_99, n_300, rng0_if _ (by decide), rng0_if _ (by decide)]
      by_cases p2 : i % 2 = 0
      · have e2 : nI (i % 2) = 0 := by rw [p2]; rfl
        simp only [if_pos e2]
        by_cases c : inb (gi S (2 + k) i) (99 + 1) = true
        · obtain ⟨v, hv, hv2⟩ := inb_ex c (by decide)
          simp only [if_pos c, i10, if_false]
          exact pairs_loop R hk hz hs ht n (i + 1) (by omega) (by omega) (fun p hp => by
            by_cases e3 : p = i
            · subst e3
              exact ⟨v, by unfold limP; rw [if_pos p2]; omega, hv2⟩
            · exact ho p (by omega))
        · simp only [if_neg c, if_true]
          exact Or.inl ⟨trivial, trivial⟩
      · have e2 : ¬ nI (i % 2) = 0 := nI_ne0 (by omega) (by omega)
        simp only [if_neg e2]
        by_cases c : inb (gi S (2 + k) i) (300 + 1) = true
        · obtain ⟨v, hv, hv2⟩ := inb_ex c (by decide)
          simp only [if_pos c, i10, if_false]
          exact pairs_loop R hk hz hs ht n (i + 1) (by omega) (by omega) (fun p hp => by
            by_cases e3 : p = i
            · subst e3
              exact ⟨v, by unfold limP; rw [if_neg p2]; omega, hv2⟩
            · exact ho p (by omega))
        · simp only [if_neg c, if_true]
          exact Or.inl ⟨trivial, trivial⟩
    · have e : i = z := by omega
      subst e
      rw [if_pos (Int32.le_refl _), if_pos (Int32.le_refl _)]
      exact Or.inr ⟨rfl, rfl, ho⟩
theorem p_pairs {S T : Mem} (R : Rel S T) (x y : Int32) : (∃ r S' T', ¬ r = 0 ∧ ¬ 0 ≤ r ∧ f3_pairsRefusal S x y = some (r, S') ∧ f4_whyPairs T x y = some (r, T') ∧ Rel S' T') ∨ (f3_pairsRefusal S x y = some (0, S) ∧ f4_whyPairs T x y = some (0, T) ∧ ∃ k m, k < 6 ∧ y = nI k ∧ m ≤ 20 ∧ gi S 8 k = nI (2 * m) ∧ gi T 2 k = nI (2 * m) ∧ ∀ p, p < 2 * m → okP S k p) := by
  obtain ⟨h, kd, fi, ha, d, dy, qy, jr, H1, H2, H3, H4, H5⟩ := R.2
  unfold f3_pairsRefusal f4_whyPairs
  simp only [c_isHouse H1, m_isHouse H2, m_isRow, b1_at]
  by_cases hx : inb x h = true
  · simp only [if_pos hx, i10, if_false]
    by_cases hy : inb y 6 = true
    · obtain ⟨k, hk, rfl⟩ := inb_ex hy (by decide)
      simp only [if_pos hy, i10, if_false, gd_t hy, ix_k (show k < 2 ^ 31 by omega), c_rowRef S hk]
      rcases R.rsz hk with ⟨a, b, -⟩ | ⟨z, hz, a, a2, b, c, -⟩
      · rw [if_pos a, if_neg b, b2_at, m_f1, b2_at, if_neg (by decide)]
        exact Or.inl ⟨_, _, _, by decide, by decide, rfl, rfl, R.find (by decide)⟩
      · have b' : ¬ nI z = -1 := a ▸ b
        have c' : 0 ≤ nI z := a2 ▸ c
        simp only [a, a2, if_neg b', if_pos c', b2_at, if_true, mod2 (show z < 2 ^ 31 by omega)]
        by_cases e : z % 2 = 0
        · have e1 : nI (z % 2) = 0 := by rw [e]; rfl
          have e2 : ¬ nI (z % 2) = 1 := by rw [e]; decide
          simp only [if_pos e1, if_neg e2]
          rcases pairs_loop R hk hz a a2 FU 0 (Nat.lt_of_le_of_lt (show z - 0 ≤ 40 by omega) (by decide)) (by omega) (fun p hp => by omega) with ⟨u1, u2⟩ | ⟨u1, u2, u3⟩
          · exact Or.inl ⟨_, _, _, by decide, by decide, u1, u2, R.find (by decide)⟩
          · have ez : 2 * (z / 2) = z := by omega
            exact Or.inr ⟨u1, u2, k, z / 2, hk, rfl, by omega, by rw [ez]; exact a, by rw [ez]; exact a2, by rw [ez]; exact u3⟩
        · have e0 : z % 2 = 1 := by omega
          have e1 : ¬ nI (z % 2) = 0 := by rw [e0]; decide
          have e2 : nI (z % 2) = 1 := by rw [e0]; rfl
          simp only [if_neg e1, if_pos e2, c_f5, m_f5, b2_at]
          exact Or.inl ⟨_, _, _, by decide, by decide, rfl, rfl, R.find (by decide)⟩
    · rw [c_rowRef0 S hy, b2_at, if_neg (by decide), if_neg hy, if_pos rfl]
      exact Or.inl ⟨_, _, _, by decide, by decide, rfl, rfl, R⟩
  · simp only [if_neg hx, if_true]
    exact Or.inl ⟨_, _, _, by decide, by decide, rfl, rfl, R⟩
def fitB (v : Nat → Nat) (t : Nat) : Nat → Bool
  | 0 => true
  | m + 1 => fitB v t m && decide (worthN t (v (2 * m)) = v (2 * m + 1))
theorem c_kin16 {S : Mem} {a m0 : Nat} {v : Nat → Nat} {k4 : Nat → Nat → Int32 → Int32 → Int32 → Option Int32} {x2 : Int32} {t : Nat} (hm0 : m0 ≤ 20) (ht : t < 6) (hv : ∀ p, p < 2 * m0 → v p ≤ limP p ∧ gi S a p = nI (v p)) : ∀ (n m : Nat), m0 - m < n → m ≤ m0 → f3_kindsByPairs_b16 k4 S n a 40 (nI (2 * m0)) x2 (nI t) (if fitB v t m = true then 1 else 0) (nI (2 * m)) = k4 a 40 (nI (2 * m0)) (if fitB v t m0 = true then x2 ||| (1 <<< (nI t &&& 31)) else x2) (nI (t + 1))
  | 0, m, h, _ => by omega
  | n + 1, m, h, hm => by
    rw [f3_kindsByPairs_b16]
    unfold f3_kindsByPairs_b50 f3_kindsByPairs_b51 f3_kindsByPairs_b70
    rcases Nat.lt_or_ge m m0 with q | q
    · have hr := c_kin16 (S := S) (a := a) (k4 := k4) (x2 := x2) hm0 ht hv n (m + 1) (by omega) (by omega)
      have e : ¬ nI (2 * m0) ≤ nI (2 * m) + 1 := by rw [nI_1, n_le (by omega) (by omega)]; omega
      have e2 : nI (2 * m) + 2 = nI (2 * (m + 1)) := by rw [n_2, nI_add]; congr 1
      rw [if_neg e]
      obtain ⟨l1, v1⟩ := hv (2 * m) (by omega)
      obtain ⟨l2, v2⟩ := hv (2 * m + 1) (by omega)
      have l1' : v (2 * m) ≤ 99 := by unfold limP at l1; rw [if_pos (by omega)] at l1; exact l1
      have l2' : v (2 * m + 1) ≤ 300 := by unfold limP at l2; rw [if_neg (by omega)] at l2; exact l2
      have g1 : inb (nI (2 * m)) 40 = true := inb_nI (by omega) (by decide)
      have g2 : inb (nI (2 * m + 1)) 40 = true := inb_nI (by omega) (by decide)
      have wl := worth_le t ht _ (show v (2 * m) < 100 by omega)
      rw [fitB] at hr
      by_cases f : fitB v t m = true
      · rw [f, Bool.true_and] at hr
        simp only [if_pos f, i10, if_false, gd_t g1, nI_1, gd_t g2, ix_k (show 2 * m < 2 ^ 31 by omega), ix_k (show 2 * m + 1 < 2 ^ 31 by omega), v1, v2, c_worth t ht _ (show v (2 * m) < 100 by omega), b1_at, n_eq (show worthN t (v (2 * m)) < 2 ^ 31 by omega) (show v (2 * m + 1) < 2 ^ 31 by omega), nmE, e2]
        by_cases c : worthN t (v (2 * m)) = v (2 * m + 1)
        · rw [if_pos (decide_eq_true c)] at hr
          rw [if_pos c]
          exact hr
        · rw [if_neg (fun z => c (of_decide_eq_true z))] at hr
          rw [if_neg c]
          exact hr
      · have f' : fitB v t m = false := Bool.eq_false_iff.mpr f
        rw [f', Bool.false_and, if_neg (by decide)] at hr
        simp only [if_neg f, if_true, nmE, e2]
        exact hr
    · have e : m = m0 := by omega
      subst e
      have e1 : nI (2 * m) ≤ nI (2 * m) + 1 := by rw [nI_1, n_le (by omega) (by omega)]; omega
      rw [if_pos e1]
      by_cases f : fitB v t m = true
      · simp only [if_pos f, i10, if_false, nmE, nI_1]
      · simp only [if_neg f, if_true, nmE, nI_1]
theorem m_kin16 {T : Mem} {k m0 : Nat} {v : Nat → Nat} {k4 : Int32 → Int32 → Int32 → Option Int32} {x2 : Int32} {t : Nat} (hk : k < 6) (hm0 : m0 ≤ 20) (ht : t < 6) (hs : gi T 2 k = nI (2 * m0)) (hv : ∀ p, p < 2 * m0 → v p ≤ limP p ∧ gi T 3 (40 * k + p) = nI (v p)) : ∀ (n m : Nat), m0 - m < n → m ≤ m0 → f4_kindsBy_b16 k4 T n (nI k) x2 (nI t) (if fitB v t m = true then 1 else 0) (nI (2 * m)) = k4 (nI k) (x2 ||| (if fitB v t m0 = true then (1 <<< (nI t &&& 31)) else 0)) (nI (t + 1))
  | 0, m, h, _ => by omega
  | n + 1, m, h, hm => by
    have g0 : inb (nI k) 6 = true := inb_nI hk (by decide)
    rw [f4_kindsBy_b16]
    unfold f4_kindsBy_b69 f4_kindsBy_b70 f4_kindsBy_b91
    simp only [gd_t g0, ix_k (show k < 2 ^ 31 by omega), hs]
    rcases Nat.lt_or_ge m m0 with q | q
    · have hr := m_kin16 (T := T) (k4 := k4) (x2 := x2) hk hm0 ht hs hv n (m + 1) (by omega) (by omega)
      have e : ¬ nI (2 * m0) ≤ nI (2 * m) := by rw [n_le (by omega) (by omega)]; omega
      have e2 : nI (2 * m) + 2 = nI (2 * (m + 1)) := by rw [n_2, nI_add]; congr 1
      rw [if_neg e]
      obtain ⟨l1, v1⟩ := hv (2 * m) (by omega)
      obtain ⟨l2, v2⟩ := hv (2 * m + 1) (by omega)
      have l1' : v (2 * m) ≤ 99 := by unfold limP at l1; rw [if_pos (by omega)] at l1; exact l1
      have l2' : v (2 * m + 1) ≤ 300 := by unfold limP at l2; rw [if_neg (by omega)] at l2; exact l2
      have g1 : inb (nI (40 * k + 2 * m)) 240 = true := inb_nI (by omega) (by decide)
      have g2 : inb (nI (40 * k + 2 * m + 1)) 240 = true := inb_nI (by omega) (by decide)
      have wl := worth_le t ht _ (show v (2 * m) < 100 by omega)
      rw [← Nat.add_assoc] at v2
      rw [fitB] at hr
      by_cases f : fitB v t m = true
      · rw [f, Bool.true_and] at hr
        simp only [if_pos f, i10, if_false, n_40, pk_mul, nI_add, nI_1, gd_t g1, gd_t g2, ix_k (show 40 * k + 2 * m < 2 ^ 31 by omega), ix_k (show 40 * k + 2 * m + 1 < 2 ^ 31 by omega), v1, v2, m_worth t ht _ (show v (2 * m) < 100 by omega), b1_at, n_eq (show worthN t (v (2 * m)) < 2 ^ 31 by omega) (show v (2 * m + 1) < 2 ^ 31 by omega), nmE, e2]
        by_cases c : worthN t (v (2 * m)) = v (2 * m + 1)
        · rw [if_pos (decide_eq_true c)] at hr
          rw [if_pos c]
          exact hr
        · rw [if_neg (fun z => c (of_decide_eq_true z))] at hr
          rw [if_neg c]
          exact hr
      · have f' : fitB v t m = false := Bool.eq_false_iff.mpr f
        rw [f', Bool.false_and, if_neg (by decide)] at hr
        simp only [if_neg f, if_true, nmE, e2]
        exact hr
    · have e : m = m0 := by omega
      subst e
      rw [if_pos (Int32.le_refl _)]
      by_cases f : fitB v t m = true
      · simp only [if_pos f, i10, if_false, nmE, nI_1]
      · simp only [if_neg f, if_true, nmE, nI_1]
theorem c_kin4 {S : Mem} {a m0 : Nat} {v : Nat → Nat} (hm0 : m0 ≤ 20) (hv : ∀ p, p < 2 * m0 → v p ≤ limP p ∧ gi S a p = nI (v p)) : ∀ (n t : Nat), 6 - t < n → t ≤ 6 → f3_kindsByPairs_b4 S n a 40 (nI (2 * m0)) (nI (setN (fun t => fitB v t m0) t)) (nI t) = some (nI (setN (fun t => fitB v t m0) 6))
  | 0, t, h, _ => by omega
  | n + 1, t, h, ht => by
    rw [f3_kindsByPairs_b4, n_6]
    rcases Nat.lt_or_ge t 6 with q | q
    · have hr := c_kin4 (S := S) (a := a) hm0 hv n (t + 1) (by omega) (by omega)
      have w := setN_lt (fun t => fitB v t m0) t
      have w2 := pow7 (show t ≤ 7 by omega)
      have h1 := c_kin16 (S := S) (a := a) (k4 := f3_kindsByPairs_b4 S n) (x2 := nI (setN (fun t => fitB v t m0) t)) hm0 q hv FU 0 (Nat.lt_of_le_of_lt (show m0 - 0 ≤ 20 by omega) (by decide)) (by omega)
      rw [if_neg (by rw [n_le (by decide) (by omega)]; omega)]
      refine Eq.trans h1 ?_
      rw [setN] at hr
      by_cases f : fitB v t m0 = true
      · rw [if_pos f] at hr
        rw [if_pos f, or_bit t (by omega) _ (by omega) w]
        exact hr
      · rw [if_neg f, Nat.add_zero] at hr
        rw [if_neg f]
        exact hr
    · have e : t = 6 := by omega
      subst e
      rw [if_pos (Int32.le_refl _)]
theorem m_kin4 {T : Mem} {k m0 : Nat} {v : Nat → Nat} (hk : k < 6) (hm0 : m0 ≤ 20) (hs : gi T 2 k = nI (2 * m0)) (hv : ∀ p, p < 2 * m0 → v p ≤ limP p ∧ gi T 3 (40 * k + p) = nI (v p)) : ∀ (n t : Nat), 6 - t < n → t ≤ 6 → f4_kindsBy_b4 T n (nI k) (nI (setN (fun t => fitB v t m0) t)) (nI t) = some (nI (setN (fun t => fitB v t m0) 6))
  | 0, t, h, _ => by omega
  | n + 1, t, h, ht => by
    rw [f4_kindsBy_b4, n_6]
    rcases Nat.lt_or_ge t 6 with q | q
    · have hr := m_kin4 (T := T) hk hm0 hs hv n (t + 1) (by omega) (by omega)
      have w := setN_lt (fun t => fitB v t m0) t
      have w2 := pow7 (show t ≤ 7 by omega)
      have h1 := m_kin16 (T := T) (k4 := f4_kindsBy_b4 T n) (x2 := nI (setN (fun t => fitB v t m0) t)) hk hm0 q hs hv FU 0 (Nat.lt_of_le_of_lt (show m0 - 0 ≤ 20 by omega) (by decide)) (by omega)
      rw [if_neg (by rw [n_le (by decide) (by omega)]; omega)]
      refine Eq.trans h1 ?_
      rw [setN] at hr
      by_cases f : fitB v t m0 = true
      · rw [if_pos f] at hr
        rw [if_pos f, or_bit t (by omega) _ (by omega) w]
        exact hr
      · rw [if_neg f, Nat.add_zero] at hr
        rw [if_neg f, or_0 _ (by omega)]
        exact hr
    · have e : t = 6 := by omega
      subst e
      rw [if_pos (Int32.le_refl _)]
/-- both find the same kinds -/
theorem p_kindsby {S T : Mem} (R : Rel S T) {k m : Nat} (hk : k < 6) (hm : m ≤ 20) (hs : gi S 8 k = nI (2 * m)) (ht : gi T 2 k = nI (2 * m)) (ho : ∀ p, p < 2 * m → okP S k p) : ∃ s, s < 64 ∧ f3_kindsByPairs S (2 + k) 40 (gi S 8 k) = some (nI s) ∧ f4_kindsBy T (nI k) = some (nI s) := by
  have hv : ∀ p, p < 2 * m → ix (gi S (2 + k) p) ≤ limP p ∧ gi S (2 + k) p = nI (ix (gi S (2 + k) p)) := fun p hp => by
    obtain ⟨v, h1, h2⟩ := ho p hp
    have hl : limP p ≤ 300 := by unfold limP; split <;> omega
    rw [h2, ix_k (by omega)]
    exact ⟨h1, rfl⟩
  have hv2 : ∀ p, p < 2 * m → ix (gi S (2 + k) p) ≤ limP p ∧ gi T 3 (40 * k + p) = nI (ix (gi S (2 + k) p)) := fun p hp => by
    rw [← R.rv hk (show p < 40 by omega)]
    exact hv p hp
  refine ⟨setN (fun t => fitB (fun p => ix (gi S (2 + k) p)) t m) 6, setN_lt _ 6, ?_, ?_⟩
  · unfold f3_kindsByPairs
    rw [hs]
    exact c_kin4 (v := fun p => ix (gi S (2 + k) p)) hm hv FU 0 (by decide) (by decide)
  · unfold f4_kindsBy
    exact m_kin4 (v := fun p => ix (gi S (2 + k) p)) hk hm ht hv2 FU 0 (by decide) (by decide)
theorem p_kinds {S T : Mem} (R : Rel S T) (x y : Int32) : ∃ r S' T', f3_kinds S x y = some (r, S') ∧ f4_kinds T x y = some (r, T') ∧ Rel S' T' := by
  unfold f3_kinds f4_kinds
  rcases p_pairs R x y with ⟨r, S', T', h1, h2, h3, h4, h5⟩ | ⟨h1, h2, k, m, hk, rfl, hm, hs, ht, ho⟩
  · rw [h3, h4, b2_at, b2_at, if_neg h1, if_neg h2]
    exact ⟨_, _, _, rfl, rfl, h5⟩
  · obtain ⟨s, -, e1, e2⟩ := p_kindsby R hk hm hs ht ho
    have g0 : inb (nI k) 6 = true := inb_nI hk (by decide)
    simp only [h1, h2, b2_at, if_true, Int32.le_refl, gd_t g0, ix_k (show k < 2 ^ 31 by omega), e1, e2, b1_at]
    exact ⟨_, _, _, rfl, rfl, R⟩
