/-! LENDING -/
def lndW (h : Nat) (kd ha jr : Nat → Nat) (i j v : Nat) : Nat := popN (setN (offP kd ha (lndJ i j v jr)) h)
theorem lndJ_le {i j v h : Nat} {jr : Nat → Nat} (hj : ∀ i, i < h → jr i ≤ 99) : ∀ p, p < h → lndJ i j v jr p ≤ 99 := fun p hp => by
  have := hj p hp
  unfold lndJ
  split
  · omega
  · split
    · rename_i u
      subst u
      omega
    · omega
theorem c_wbl {S0 S : Mem} {h d dy qy i j v : Nat} {kd fi ha jr : Nat → Nat} (hd : d ≤ 40) (hqy : qy ≤ 40000) (hv : v ≤ 99) (hi : i < h) (hj' : j < h) (H1 : HC S0 h kd fi ha) (hs : gi S0 22 1 = nI d) (M : MC S0 h (41 * 0 + d) dy qy jr) (hj : ∀ i, i < h → jr i ≤ 99) (F : FQ 164 S0 S) : ∃ S', f3_worksByLending S (nI i) (nI j) (nI v) = some (if i = j ∨ jr i < v then -9 else nI (lndW h kd ha jr i j v), S') ∧ FQ 164 S0 S' := by
  have h7 := H1.2.1
  have hs' : gi S 22 1 = nI d := by
    rw [F.1 _ _ (by omega) (by omega)]
    exact hs
  have M' : MC S h (41 * 0 + d) dy qy jr := M.same (fun p => F.1 _ _ (by omega) (by omega)) (fun p => F.1 _ _ (by omega) (by omega))
  have HS := H1.fq F
  have ji := hj i hi
  unfold f3_worksByLending
  rw [c_now0 hs' hd, b1_at, gd_t (dlt hd)]
  by_cases c : i = j
  · have e : nI i = nI j := by rw [c]
    rw [if_pos e, if_pos (Or.inl c)]
    exact ⟨S, rfl, F⟩
  · have e : ¬ nI i = nI j := by rw [n_eq (by omega) (by omega)]; exact c
    rw [if_neg e, gd_t (i7 h7 hi), ix_k (by omega), M'.2.2 i hi]
    by_cases c2 : jr i < v
    · have e2 : ¬ nI v ≤ nI (jr i) := by rw [n_le (by omega) (by omega)]; omega
      rw [if_neg e2, if_pos (Or.inr c2)]
      exact ⟨S, rfl, F⟩
    · have e2 : nI v ≤ nI (jr i) := by rw [n_le (by omega) (by omega)]; omega
      have B := bcm_MC (q0 := 164) (by decide) (show 41 * 0 + d < 165 by omega) h7 M'
      have G := bcm_FQ (S := S) (q0 := 164) (q1 := 41 * 0 + d)
      obtain ⟨S1, a1, a2, a3⟩ := c_pass (q := 164) (by decide) h7 hi hj' c (show v ≤ jr i by omega) hj (by omega) B
      have w1 := c_worksOff ((HS.fq G).fq a2) a3 (lndJ_le hj)
      rw [if_pos e2, if_neg (by omega), c_become (by decide) (by omega), b1_at, a1, b1_at, w1, b1_at, c_pop _ (set128 h7), b1_at]
      exact ⟨S1, rfl, F.tr (G.tr a2)⟩
theorem lend_loop2 {S0 T0 : Mem} {h d dy qy i v : Nat} {kd fi ha jr : Nat → Nat} (hd : d ≤ 40) (hdy : dy ≤ 40) (hqy : qy ≤ 40000) (hv : v ≤ 99) (hi : i < h) (H1 : HC S0 h kd fi ha) (H2 : HM T0 h kd fi ha) (hs : gi S0 22 1 = nI d) (M : MC S0 h (41 * 0 + d) dy qy jr) (N : MM T0 h 11 0 dy qy jr) (hj : ∀ i, i < h → jr i ≤ 99) {kc km : Mem → Int32 → Int32 → Int32 → Int32 → Option (Int32 × Mem)} : ∀ (n m j : Nat) (S T : Mem) (mo : Nat) (pr : Int32), h - j < n → h - j < m → j ≤ h → mo ≤ 7 → FQ 164 S0 S → AQ T0 T → ∃ mo' pr' S' T', mo' ≤ 7 ∧ f3_lending_b61 kc n S (nI v) (nI mo) pr (nI i) (nI j) = kc S' (nI v) (nI mo') pr' (nI (i + 1)) ∧ f4_lending_b54 km m T (nI v) pr (nI mo) (nI i) (nI j) = km T' (nI v) pr' (nI mo') (nI (i + 1)) ∧ FQ 164 S0 S' ∧ AQ T0 T' := by
  intro n
  induction n with
  | zero =>
    intro m j S T mo pr h1
    omega
  | succ n ih =>
    intro m j S T mo pr h1 h2 h3 h4 F A
    cases m with
    | zero => omega
    | succ m =>
      have h7 := H1.2.1
      have ji := hj i hi
      rw [f3_lending_b61, f4_lending_b54, (H1.fq F).1, (H2.aq A).1]
      unfold f3_lending_b102 f4_lending_b134 f4_lending_b120 f4_lending_b133 f4_lending_b134
      rcases Nat.lt_or_ge j h with u | u
      · have e1 : ¬ nI h ≤ nI j := by rw [n_le (by omega) (by omega)]; omega
        obtain ⟨S1, a1, a2⟩ := c_wbl hd hqy hv hi u H1 hs M hj F
        rw [if_neg e1, if_neg e1, a1, b2_at]
        by_cases c : i = j
        · have e2 : nI i = nI j := by rw [c]
          rw [if_pos (Or.inl c), if_pos (show (-9 : Int32) ≤ nI mo by rw [i_le, nI_toInt (by omega)]; show (-9 : Int) ≤ mo; omega), if_pos e2, nmE, nmE, nI_1]
          exact ih m (j + 1) S1 T mo pr (by omega) (by omega) (by omega) h4 a2 A
        · have e2 : ¬ nI i = nI j := by rw [n_eq (by omega) (by omega)]; exact c
          have HT := H2.aq A
          have NT := N.aq h7 A
          rw [if_neg e2, m_jar h7 NT hi, b1_at]
          by_cases c2 : jr i < v
          · have e3 : nI (jr i) < nI v := by rw [n_lt (by omega) (by omega)]; exact c2
            rw [if_pos (Or.inr c2), if_pos (show (-9 : Int32) ≤ nI mo by rw [i_le, nI_toInt (by omega)]; show (-9 : Int) ≤ mo; omega), if_pos e3, nmE, nmE, nI_1]
            exact ih m (j + 1) S1 T mo pr (by omega) (by omega) (by omega) h4 a2 A
          · have e3 : ¬ nI (jr i) < nI v := by rw [n_lt (by omega) (by omega)]; exact c2
            obtain ⟨T2, d1, d2, d3⟩ := m_lends h7 hi u c (show v ≤ jr i by omega) hj (by omega) NT
            have w2 := m_worksOff (HT.ft d2) d3 (lndJ_le hj)
            obtain ⟨T4, g1, g2⟩ := m_backs A d2
            have pl := pop_le (setN (offP kd ha (lndJ i j v jr)) h)
            have ew : lndW h kd ha jr i j v = popN (setN (offP kd ha (lndJ i j v jr)) h) := rfl
            have e4 : (10 : Int32) * nI i + nI j = nI (10 * i + j) := by rw [n_10, pk_mul, nI_add]
            rw [if_neg (show ¬ (i = j ∨ jr i < v) by omega), if_neg e3, d1, b1_at, w2, b1_at, m_pop _ (set128 h7), b1_at, g1, b1_at, e4, ew]
            by_cases c3 : popN (setN (offP kd ha (lndJ i j v jr)) h) ≤ mo
            · have e5 : nI (popN (setN (offP kd ha (lndJ i j v jr)) h)) ≤ nI mo := by rw [n_le (by omega) (by omega)]; exact c3
              simp only [if_pos e5, nmE, nI_1]
              exact ih m (j + 1) S1 T4 mo pr (by omega) (by omega) (by omega) h4 a2 g2
            · have e5 : ¬ nI (popN (setN (offP kd ha (lndJ i j v jr)) h)) ≤ nI mo := by rw [n_le (by omega) (by omega)]; exact c3
              simp only [if_neg e5, nmE, nI_1]
              exact ih m (j + 1) S1 T4 _ _ (by omega) (by omega) (by omega) pl a2 g2
      · have e : j = h := by omega
        subst e
        rw [if_pos (Int32.le_refl _), if_pos (Int32.le_refl _), nmE, nmE, nI_1]
        exact ⟨mo, pr, S, T, h4, rfl, rfl, F, A⟩
theorem lend_loop {S0 T0 : Mem} {h d dy qy v : Nat} {kd fi ha jr : Nat → Nat} (hd : d ≤ 40) (hdy : dy ≤ 40) (hqy : qy ≤ 40000) (hv : v ≤ 99) (H1 : HC S0 h kd fi ha) (H2 : HM T0 h kd fi ha) (hs : gi S0 22 1 = nI d) (M : MC S0 h (41 * 0 + d) dy qy jr) (N : MM T0 h 11 0 dy qy jr) (hj : ∀ i, i < h → jr i ≤ 99) : ∀ (n m i : Nat) (S T : Mem) (mo : Nat) (pr : Int32), h - i < n → h - i < m → i ≤ h → mo ≤ 7 → FQ 164 S0 S → AQ T0 T → ∃ r S' T', f3_lending_b46 n S (nI v) (nI mo) pr (nI i) = some (r, S') ∧ f4_lending_b42 m T (nI v) pr (nI mo) (nI i) = some (r, T') ∧ ∃ S2 T2, FQ 164 S0 S2 ∧ AQ T0 T2 ∧ ((S' = S2 ∧ T' = T2) ∨ ∃ w, S' = ui S2 0 9 w ∧ T' = ui T2 0 2 w) := by
  intro n
  induction n with
  | zero =>
    intro m i S T mo pr h1
    omega
  | succ n ih =>
    intro m i S T mo pr h1 h2 h3 h4 F A
    cases m with
    | zero => omega
    | succ m =>
      have h7 := H1.2.1
      rw [f3_lending_b46, f4_lending_b42, (H1.fq F).1, (H2.aq A).1]
      rcases Nat.lt_or_ge i h with u | u
      · have e1 : ¬ nI h ≤ nI i := by rw [n_le (by omega) (by omega)]; omega
        obtain ⟨mo', pr', S1, T1, a0, a1, a2, a3, a4⟩ := lend_loop2 (kc := f3_lending_b46 n) (km := f4_lending_b42 m) hd hdy hqy hv u H1 H2 hs M N hj FU FU 0 S T mo pr (Nat.lt_of_le_of_lt (show h - 0 ≤ 7 from h7) (by decide)) (Nat.lt_of_le_of_lt (show h - 0 ≤ 7 from h7) (by decide)) (Nat.zero_le _) h4 F A
        have z0 : nI 0 = 0 := rfl
        rw [z0] at a1 a2
        rw [if_neg e1, if_neg e1, a1, a2]
        exact ih m (i + 1) S1 T1 mo' pr' (by omega) (by omega) (by omega) a0 a3 a4
      · have e : i = h := by omega
        subst e
        rw [if_pos (Int32.le_refl _), if_pos (Int32.le_refl _)]
        by_cases c : pr = -9
        · rw [if_pos c, if_pos c, c]
          exact ⟨_, _, _, rfl, rfl, S, T, F, A, Or.inl ⟨rfl, rfl⟩⟩
        · rw [if_neg c, if_neg c, nmE, m_tells, b2_at]
          exact ⟨_, _, _, rfl, rfl, S, T, F, A, Or.inr ⟨_, rfl, rfl⟩⟩
theorem p_lending {S T : Mem} (R : Rel S T) (x : Int32) : ∃ r S' T', f3_lending S x = some (r, S') ∧ f4_lending T x = some (r, T') ∧ Rel S' T' := by
  obtain ⟨Rb, h, kd, fi, ha, d, dy, qy, jr, P⟩ := id R
  obtain ⟨H1, H2, H3, H4, H5⟩ := id P
  obtain ⟨M1, O1⟩ := H4.2.2.1 d (Nat.le_refl d)
  have hd := H4.1
  have h7 := H1.2.1
  have o1 := O1.1
  have o2 := O1.2.1
  unfold f3_lending f4_lending
  rw [c_isCup, b1_at, m_isCup, b1_at, H1.1, H2.1]
  by_cases hw : rng x 1 99 = true
  · simp only [if_pos hw, i10, if_false]
    obtain ⟨v, v1, v2, rfl⟩ := rng_ex hw
    by_cases h0 : h = 0
    · subst h0
      rw [if_pos (show nI 0 = 0 from rfl), if_pos (show nI 0 = 0 from rfl)]
      exact ⟨_, _, _, rfl, rfl, R⟩
    · have ne : ¬ nI h = 0 := nI_ne0 (by omega) (by omega)
      obtain ⟨T1, c1, c2⟩ := m_asides T
      have s128 := set128 (p := offP kd ha (jr d)) h7
      obtain ⟨r, S', T', e1, e2, S2, T2, e3, e4, e5⟩ := lend_loop hd (by omega) (by omega) v2 H1 H2 H4.2.1 M1 H4.2.2.2.1 O1.2.2 FU FU 0 S T1 (popN (setN (offP kd ha (jr d)) h)) (-9) (Nat.lt_of_le_of_lt (show h - 0 ≤ 7 from h7) (by decide)) (Nat.lt_of_le_of_lt (show h - 0 ≤ 7 from h7) (by decide)) (Nat.zero_le _) (pop_le _) FQ.rf c2
      have z0 : nI 0 = 0 := rfl
      rw [z0] at e1 e2
      rw [if_neg ne, if_neg ne, c_now H4, b1_at, gd_t (dlt hd), c_worksOff H1 M1 O1.2.2, b1_at, c_pop _ s128, b1_at, m_worksOff H2 H4.2.2.2.1 O1.2.2, b1_at, m_pop _ s128, b1_at, c1, b1_at, e1, e2]
      rcases e5 with ⟨rfl, rfl⟩ | ⟨w, rfl, rfl⟩
      · exact ⟨_, _, _, rfl, rfl, (R.f164 e3).aq e4⟩
      · exact ⟨_, _, _, rfl, rfl, ((R.f164 e3).aq e4).told w⟩
  · rw [if_neg hw, if_pos rfl, if_pos rfl]
    exact ⟨_, _, _, rfl, rfl, R⟩
