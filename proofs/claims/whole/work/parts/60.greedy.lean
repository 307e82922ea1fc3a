/-! GREEDY -/
def gbN (kd jr : Nat → Nat) (dy s i : Nat) : Nat := bringN (if s.testBit i = true then 3 else kd i) (jr i) dy
theorem gb_le (kd jr : Nat → Nat) (dy s i : Nat) : gbN kd jr dy s i ≤ jr i := bring_le _ _ _
theorem c_bwg13 {S : Mem} {h q dy qy s : Nat} {kd fi ha jr : Nat → Nat} (hs : s < 128) (hd : dy < 2 ^ 31) (H : HC S h kd fi ha) (M : MC S h q dy qy jr) (hj : ∀ i, i < h → jr i ≤ 99) : ∀ (n i : Nat), h - i < n → i ≤ h → f3_broughtWithGreedy_b13 S n (nI s) q (nI (smN (gbN kd jr dy s) i)) (nI i) = some (nI (smN (gbN kd jr dy s) h))
  | 0, i, h1, _ => by omega
  | n + 1, i, h1, h2 => by
    have h7 := H.2.1
    rw [f3_broughtWithGreedy_b13, H.1]
    unfold f3_broughtWithGreedy_b48
    rcases Nat.lt_or_ge i h with u | u
    · have e : ¬ nI h ≤ nI i := by rw [n_le (by omega) (by omega)]; omega
      have kb := (H.2.2 i u).1
      have ji := hj i u
      have r := c_bwg13 hs hd H M hj n (i + 1) (by omega) (by omega)
      rw [smN] at r
      unfold gbN at r
      rw [if_neg e, c_has s hs i (by omega), b1_at]
      by_cases c : s.testBit i = true
      · rw [if_pos c] at r
        rw [if_pos c, if_neg (by decide), gd_t (i7 h7 u), ix_k (by omega), M.1, M.2.2 i u, n_3, c_brought (show 3 < 6 by decide) (by omega) hd, b1_at, nI_add, nmE, nmE, nI_1]
        exact r
      · rw [if_neg c] at r
        rw [if_neg c, if_pos rfl, gd_t (i7 h7 u), gd_t (i7 h7 u), ix_k (by omega), M.1, M.2.2 i u, kb.1, c_brought kb.2 (by omega) hd, b1_at, nI_add, nmE, nmE, nI_1]
        exact r
    · have e : i = h := by omega
      subst e
      rw [if_pos (Int32.le_refl _)]
theorem c_bwg {S : Mem} {h d dy qy s : Nat} {kd fi ha jr : Nat → Nat} (hs : s < 128) (hd : d ≤ 40) (hdy : dy < 2 ^ 31) (H : HC S h kd fi ha) (h22 : gi S 22 1 = nI d) (M : MC S h (41 * 0 + d) dy qy jr) (hj : ∀ i, i < h → jr i ≤ 99) : f3_broughtWithGreedy S (nI s) = some (nI (smN (gbN kd jr dy s) h)) := by
  unfold f3_broughtWithGreedy
  rw [c_now0 h22 hd, b1_at, gd_t (dlt hd)]
  exact c_bwg13 hs hdy H M hj FU 0 (Nat.lt_of_le_of_lt (show h - 0 ≤ 7 from H.2.1) (by decide)) (Nat.zero_le _)
theorem m_greedy48 {T : Mem} {h dy qy s : Nat} {kd fi ha jr : Nat → Nat} (hs : s < 128) (hd : dy < 2 ^ 31) (H : HM T h kd fi ha) (M : MM T h 11 0 dy qy jr) (hj : ∀ i, i < h → jr i ≤ 99) {km : Mem → Int32 → Int32 → Int32 → Int32 → Option (Int32 × Mem)} {x1 x2 x3 : Int32} : ∀ (n i : Nat), h - i < n → i ≤ h → f4_greedy_b48 km n T x1 x2 x3 (nI s) (nI (smN (gbN kd jr dy s) i)) (nI i) = if nI (smN (gbN kd jr dy s) h) = x1 then km T x1 (x2 + 1) (if x2 = 0 then nI s else x3) (nI (s + 1)) else km T x1 x2 x3 (nI (s + 1))
  | 0, i, h1, _ => by omega
  | n + 1, i, h1, h2 => by
    have h7 := H.2.1
    rw [f4_greedy_b48, H.1]
    rcases Nat.lt_or_ge i h with u | u
    · have e : ¬ nI h ≤ nI i := by rw [n_le (by omega) (by omega)]; omega
      have kb := (H.2.2 i u).1
      have ji := hj i u
      have r := m_greedy48 hs hd H M hj (km := km) (x1 := x1) (x2 := x2) (x3 := x3) n (i + 1) (by omega) (by omega)
      rw [smN] at r
      have m0 := M.1
      unfold f4_greedy_b90
      rw [if_neg e, m_has s hs i (by omega), m_jar h7 M u, b1_at]
      by_cases c : s.testBit i = true
      · have eg : gbN kd jr dy s i = bringN 3 (jr i) dy := by
          unfold gbN
          rw [if_pos c]
        rw [eg] at r
        rw [if_pos c, if_pos rfl, n_3, m_brought (show 3 < 6 by decide) (show jr i < 100 by omega) hd m0, b1_at, nI_add, nmE, nmE, nI_1]
        exact r
      · have eg : gbN kd jr dy s i = bringN (kd i) (jr i) dy := by
          unfold gbN
          rw [if_neg c]
        rw [eg] at r
        rw [if_neg c, if_neg (by decide), m_brings H u ji hd m0 (m_jar h7 M u), b1_at, nI_add, nmE, nmE, nI_1]
        exact r
    · have e : i = h := by omega
      subst e
      unfold f4_greedy_b114 f4_greedy_b115 f4_greedy_b128
      rw [if_pos (Int32.le_refl _)]
      by_cases c : nI (smN (gbN kd jr dy s) i) = x1
      · simp only [if_pos c, nmE, nI_1]
        by_cases c2 : x2 = 0
        · simp only [if_pos c2]
        · simp only [if_neg c2]
      · simp only [if_neg c, nmE, nI_1, Int32.add_zero]
theorem greedy_loop {S T : Mem} {h d dy qy v : Nat} {kd fi ha jr : Nat → Nat} (hd : d ≤ 40) (hdy : dy < 2 ^ 31) (H1 : HC S h kd fi ha) (H2 : HM T h kd fi ha) (h22 : gi S 22 1 = nI d) (M : MC S h (41 * 0 + d) dy qy jr) (N : MM T h 11 0 dy qy jr) (hj : ∀ i, i < h → jr i ≤ 99) : ∀ (n m s c : Nat) (lc lm : Int32), 2 ^ h - s < n → 2 ^ h - s < m → s ≤ 2 ^ h → c ≤ s → (c = 0 ∧ lc = -9) ∨ (0 < c ∧ lc = lm ∧ ∃ l, l < 128 ∧ lc = nI l) → ∃ r S' T', f3_greedy_b34 n S (nI v) (nI c) lc (nI s) = some (r, S') ∧ f4_greedy_b31 m T (nI v) (nI c) lm (nI s) = some (r, T') ∧ ((S' = S ∧ T' = T) ∨ ∃ w, S' = ui S 0 9 w ∧ T' = ui T 0 2 w) := by
  intro n
  induction n with
  | zero =>
    intro m s c lc lm h1
    omega
  | succ n ih =>
    intro m s c lc lm h1 h2 h3 h4 h5
    cases m with
    | zero => omega
    | succ m =>
      have h7 := H1.2.1
      have p7 := pow7 h7
      rw [f3_greedy_b34, f4_greedy_b31, H1.1, H2.1, shl_h h (by omega)]
      unfold f3_greedy_b73 f3_greedy_b74
      rcases Nat.lt_or_ge s (2 ^ h) with u | u
      · have e : ¬ nI (2 ^ h) ≤ nI s := by rw [n_le (by omega) (by omega)]; omega
        have b := c_bwg (s := s) (by omega) hd hdy H1 h22 M hj
        have g := m_greedy48 (s := s) (by omega) hdy H2 N hj (km := f4_greedy_b31 m) (x1 := nI v) (x2 := nI c) (x3 := lm) FU 0 (Nat.lt_of_le_of_lt (show h - 0 ≤ 7 from h7) (by decide)) (Nat.zero_le _)
        have g' : f4_greedy_b48 (f4_greedy_b31 m) FU T (nI v) (nI c) lm (nI s) 0 0 = _ := g
        rw [if_neg e, if_neg e, b, b1_at, g']
        by_cases k : nI (smN (gbN kd jr dy s) h) = nI v
        · rw [if_pos k, if_pos k, nmE, nI_1]
          rcases h5 with ⟨rfl, rfl⟩ | ⟨c0, rfl, l, l1, l2⟩
          · rw [if_pos rfl, if_pos (show nI 0 = 0 from rfl), nmE, nI_1]
            exact ih m (s + 1) (0 + 1) (nI s) (nI s) (by omega) (by omega) (by omega) (by omega) (Or.inr ⟨by omega, rfl, s, by omega, rfl⟩)
          · have e9 : ¬ lc = -9 := by rw [l2]; exact n9 (by omega)
            rw [if_neg e9, if_neg (nI_ne0 c0 (by omega)), nmE, nI_1]
            exact ih m (s + 1) (c + 1) lc lc (by omega) (by omega) (by omega) (by omega) (Or.inr ⟨by omega, rfl, l, l1, l2⟩)
        · rw [if_neg k, if_neg k, nmE, nI_1]
          exact ih m (s + 1) c lc lm (by omega) (by omega) (by omega) (by omega) h5
      · have e : s = 2 ^ h := by omega
        subst e
        unfold f3_tellLeast
        rw [if_pos (Int32.le_refl _), if_pos (Int32.le_refl _)]
        rcases h5 with ⟨rfl, rfl⟩ | ⟨c0, rfl, l, l1, l2⟩
        · rw [if_pos (show nI 0 = 0 from rfl), if_pos (show nI 0 = 0 from rfl), b2_at]
          exact ⟨_, _, _, rfl, rfl, Or.inl ⟨rfl, rfl⟩⟩
        · rw [if_neg (nI_ne0 c0 (by omega)), if_neg (nI_ne0 c0 (by omega)), nmE, b2_at, m_tells, b2_at]
          exact ⟨_, _, _, rfl, rfl, Or.inr ⟨_, rfl, rfl⟩⟩
theorem p_greedy {S T : Mem} (R : Rel S T) (x : Int32) : ∃ r S' T', f3_greedy S x = some (r, S') ∧ f4_greedy T x = some (r, T') ∧ Rel S' T' := by
  obtain ⟨Rb, h, kd, fi, ha, d, dy, qy, jr, P⟩ := id R
  obtain ⟨H1, H2, H3, H4, H5⟩ := id P
  obtain ⟨M1, O1⟩ := H4.2.2.1 d (Nat.le_refl d)
  have hd := H4.1
  have h7 := H1.2.1
  have o1 := O1.1
  have p7 := pow7 h7
  unfold f3_greedy f4_greedy
  rw [n_999, rng0_if x (show 999 < 2 ^ 31 by decide), show (999 : Int64) = lN 999 from rfl, m_in0 x 999 (by decide), b1_at, H1.1, H2.1]
  by_cases hx : inb x 1000 = true
  · rw [if_pos hx, if_pos hx, if_neg (show ¬ (1 : Int32) = 0 by decide)]
    obtain ⟨v, hv, rfl⟩ := inb_ex hx (by decide)
    by_cases h0 : h = 0
    · subst h0
      rw [if_pos (show nI 0 = 0 from rfl), if_pos (show nI 0 = 0 from rfl)]
      exact ⟨_, _, _, rfl, rfl, R⟩
    · have ne : ¬ nI h = 0 := nI_ne0 (by omega) (by omega)
      obtain ⟨r, S', T', e1, e2, e3⟩ := greedy_loop (v := v) hd (by omega) H1 H2 H4.2.1 M1 H4.2.2.2.1 O1.2.2 FU FU 0 0 (-9) 0 (Nat.lt_of_le_of_lt (show 2 ^ h - 0 ≤ 128 by omega) (by decide)) (Nat.lt_of_le_of_lt (show 2 ^ h - 0 ≤ 128 by omega) (by decide)) (Nat.zero_le _) (Nat.le_refl _) (Or.inl ⟨rfl, rfl⟩)
      have z0 : nI 0 = 0 := rfl
      rw [z0] at e1 e2
      rw [if_neg ne, if_neg ne, e1, e2]
      rcases e3 with ⟨rfl, rfl⟩ | ⟨w, rfl, rfl⟩
      · exact ⟨_, _, _, rfl, rfl, R⟩
      · exact ⟨_, _, _, rfl, rfl, R.told w⟩
  · rw [if_neg hx, if_neg hx, if_pos rfl]
    exact ⟨_, _, _, rfl, rfl, R⟩
