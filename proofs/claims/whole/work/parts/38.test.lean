/-! TEST: the greatest part alike, of both the same -/
theorem mx_n {a b : Nat} (ha : a < 2 ^ 31) (hb : b < 2 ^ 31) : mx (nI a) (nI b) = nI (max a b) := by
  unfold mx
  simp only [n_lt ha hb]
  split
  · rw [Nat.max_eq_right (by omega)]
  · rw [Nat.max_eq_left (by omega)]
theorem mn_n {a b : Nat} (ha : a < 2 ^ 31) (hb : b < 2 ^ 31) : mn (nI a) (nI b) = nI (min a b) := by
  unfold mn
  simp only [n_lt hb ha]
  split
  · rw [Nat.min_eq_right (by omega)]
  · rw [Nat.min_eq_left (by omega)]
theorem b1_no {α β : Type} (f : α → Option β) : b1 none f = none := rfl
/-- the reference's two inner loops, alone -/
def mA (x4 x7 x9 : Int32) : Nat → Int32 → Int32 → Option Int32
  | 0, _, _ => none
  | n + 1, x10, x11 => if 6 ≤ x11 then some x10 else
      if ((x4 >>> (x9 &&& 31)) &&& 1) = 1 then
        if ((x4 >>> (x11 &&& 31)) &&& 1) = 1 then
          b1 (f4_worthTo x9 x7) fun v3 => b1 (f4_worthTo x11 x7) fun v5 => if v3 = v5 then mA x4 x7 x9 n (x10 + 1) (x11 + 1) else mA x4 x7 x9 n (x10 + 0) (x11 + 1)
        else mA x4 x7 x9 n (x10 + 0) (x11 + 1)
      else mA x4 x7 x9 n (x10 + 0) (x11 + 1)
theorem mA_eq {k38 : Mem → Int32 → Int32 → Int32 → Int32 → Option (Int32 × Mem)} {k51 : Mem → Int32 → Int32 → Int32 → Int32 → Int32 → Int32 → Option (Int32 × Mem)} {S : Mem} {x4 x5 x6 x7 x8 x9 : Int32} : ∀ (n : Nat) (x10 x11 : Int32), f4_test_b64 k38 k51 n S x4 x5 x6 x7 x8 x9 x10 x11 = b1 (mA x4 x7 x9 n x10 x11) (fun al => if al ≤ x8 then k51 S x4 x5 x6 x7 x8 (x9 + 1) else k51 S x4 x5 x6 x7 al (x9 + 1)) := by
  intro n
  induction n with
  | zero =>
    intro x10 x11
    rw [f4_test_b64, mA, b1_no]
  | succ n ih =>
    intro x10 x11
    rw [f4_test_b64, mA]
    unfold f4_test_b152 f4_test_b97 f4_test_b98 f4_test_b128 f4_test_b129
    simp only [nmE, ih]
    by_cases h : 6 ≤ x11
    · simp only [if_pos h, b1_at]
    · simp only [if_neg h]
      by_cases h1 : ((x4 >>> (x9 &&& 31)) &&& 1) = 1
      · simp only [if_pos h1]
        by_cases h2 : ((x4 >>> (x11 &&& 31)) &&& 1) = 1
        · simp only [if_pos h2, i10, if_false]
          cases e1 : f4_worthTo x9 x7 with
          | none => rw [b1_no, b1_no, b1_no]
          | some v3 =>
            cases e2 : f4_worthTo x11 x7 with
            | none => rw [b1_at, b1_at, b1_no, b1_no, b1_no]
            | some v5 =>
              simp only [b1_at]
              split <;> rfl
        · simp only [if_neg h2, if_true]
      · simp only [if_neg h1, if_true]
def mB (x4 x7 : Int32) : Nat → Int32 → Int32 → Option Int32
  | 0, _, _ => none
  | n + 1, x8, x9 => if 6 ≤ x9 then some x8 else b1 (mA x4 x7 x9 FU 0 0) (fun al => if al ≤ x8 then mB x4 x7 n x8 (x9 + 1) else mB x4 x7 n al (x9 + 1))
theorem mB_eq {k38 : Mem → Int32 → Int32 → Int32 → Int32 → Option (Int32 × Mem)} {S : Mem} {x4 x5 x6 x7 : Int32} : ∀ (n : Nat) (x8 x9 : Int32), f4_test_b51 k38 n S x4 x5 x6 x7 x8 x9 = b1 (mB x4 x7 n x8 x9) (fun mo => if x6 ≤ mo then k38 S x4 x5 x6 (x7 + 1) else k38 S x4 x7 mo (x7 + 1)) := by
  intro n
  induction n with
  | zero =>
    intro x8 x9
    rw [f4_test_b51, mB, b1_no]
  | succ n ih =>
    intro x8 x9
    rw [f4_test_b51, mB]
    unfold f4_test_b174 f4_test_b190
    by_cases h : 6 ≤ x9
    · rw [if_pos h, if_pos h, b1_at]
      by_cases c : x6 ≤ x8
      · simp only [if_pos c, nmE]
      · simp only [if_neg c, nmE]
    · rw [if_neg h, if_neg h]
      have key := mA_eq (k38 := k38) (k51 := f4_test_b51 k38 n) (S := S) (x4 := x4) (x5 := x5) (x6 := x6) (x7 := x7) (x8 := x8) (x9 := x9) FU 0 0
      rw [key]
      generalize mA x4 x7 x9 FU 0 0 = z
      cases z with
      | none => rw [b1_no, b1_no, b1_no]
      | some al =>
        rw [b1_at, b1_at]
        by_cases c : al ≤ x8
        · rw [if_pos c, if_pos c]
          exact ih _ _
        · rw [if_neg c, if_neg c]
          exact ih _ _
/-- how many of the set s are worth with j what t is -/
def alN (s j t : Nat) (u : Nat) : Bool := s.testBit u && decide (worthN u j = worthN t j)
def gpM (s j : Nat) : Nat → Nat
  | 0 => 0
  | t + 1 => if s.testBit t = true then max (gpM s j t) (cntN (alN s j t) 6) else gpM s j t
theorem gpM_le (s j : Nat) : ∀ n, gpM s j n ≤ 6
  | 0 => Nat.zero_le _
  | n + 1 => by
    have h := gpM_le s j n
    have h2 := cntN_le (alN s j n) 6
    rw [gpM]
    split <;> omega
theorem c_al {s j t : Nat} (hs : s < 128) (hj : j < 100) (ht : t < 6) : ∀ (n u : Nat), 6 - u < n → u ≤ 6 → f3_partAlike_b5 n (nI s) (nI j) (nI (worthN t j)) (nI (cntN (alN s j t) u)) (nI u) = some (nI (cntN (alN s j t) 6))
  | 0, u, hn, _ => by omega
  | n + 1, u, hn, hu => by
    rw [f3_partAlike_b5, n_6]
    rcases Nat.lt_or_ge u 6 with q | q
    · have hr := c_al hs hj ht n (u + 1) (by omega) (by omega)
      rw [cntN] at hr
      rw [if_neg (by rw [n_le (by omega) (by omega)]; omega)]
      simp only [c_has s hs u (by omega), c_worth u q j hj, b1_at]
      unfold f3_partAlike_b34
      have w1 := worth_le u q j hj
      have w2 := worth_le t ht j hj
      by_cases c : s.testBit u = true
      · simp only [c, if_true, i10, if_false, n_eq (show worthN u j < 2 ^ 31 by omega) (show worthN t j < 2 ^ 31 by omega)]
        by_cases c2 : worthN u j = worthN t j
        · rw [if_pos (by simp [alN, c, c2])] at hr
          simp only [if_pos c2, nmE, nI_1]
          exact hr
        · rw [if_neg (by simp [alN, c2]), Nat.add_zero] at hr
          simp only [if_neg c2, nmE, nI_1]
          exact hr
      · rw [if_neg (by simp [alN, c]), Nat.add_zero] at hr
        simp only [if_neg c, if_true, nmE, nI_1]
        exact hr
    · have e : u = 6 := by omega
      subst e
      rw [if_pos (Int32.le_refl _)]
theorem m_al {s j t : Nat} (hs : s < 128) (hj : j < 100) (ht : t < 6) (hb : s.testBit t = true) : ∀ (n u : Nat), 6 - u < n → u ≤ 6 → mA (nI s) (nI j) (nI t) n (nI (cntN (alN s j t) u)) (nI u) = some (nI (cntN (alN s j t) 6))
  | 0, u, hn, _ => by omega
  | n + 1, u, hn, hu => by
    rw [mA, n_6]
    rcases Nat.lt_or_ge u 6 with q | q
    · have hr := m_al hs hj ht hb n (u + 1) (by omega) (by omega)
      rw [cntN] at hr
      rw [if_neg (by rw [n_le (by omega) (by omega)]; omega)]
      have w1 := worth_le u q j hj
      have w2 := worth_le t ht j hj
      simp only [m_has s hs u (by omega), m_has s hs t (by omega), m_worth u q j hj, m_worth t ht j hj, b1_at, hb, if_true, Int32.add_zero, nI_1, n_eq (show worthN t j < 2 ^ 31 by omega) (show worthN u j < 2 ^ 31 by omega)]
      by_cases c : s.testBit u = true
      · simp only [c, if_true]
        by_cases c2 : worthN t j = worthN u j
        · rw [if_pos (by simp [alN, c, c2])] at hr
          simp only [if_pos c2]
          exact hr
        · rw [if_neg (by simp [alN, Ne.symm c2]), Nat.add_zero] at hr
          simp only [if_neg c2]
          exact hr
      · rw [if_neg (by simp [alN, c]), Nat.add_zero] at hr
        simp only [if_neg c, show ((0 : Int32) = 1) = False from eq_false (by decide), if_false]
        exact hr
    · have e : u = 6 := by omega
      subst e
      rw [if_pos (Int32.le_refl _)]
theorem m_al0 {s j t : Nat} (hs : s < 128) (ht : t < 6) (hb : ¬ s.testBit t = true) : ∀ (n u : Nat), 6 - u < n → u ≤ 6 → mA (nI s) (nI j) (nI t) n 0 (nI u) = some 0
  | 0, u, hn, _ => by omega
  | n + 1, u, hn, hu => by
    rw [mA, n_6]
    rcases Nat.lt_or_ge u 6 with q | q
    · have hr := m_al0 (j := j) hs ht hb n (u + 1) (by omega) (by omega)
      rw [if_neg (by rw [n_le (by omega) (by omega)]; omega)]
      simp only [m_has s hs t (by omega), if_neg hb, show ((0 : Int32) = 1) = False from eq_false (by decide), if_false, Int32.add_zero, nI_1]
      exact hr
    · have e : u = 6 := by omega
      subst e
      rw [if_pos (Int32.le_refl _)]
theorem c_gp4 {s j : Nat} (hs : s < 128) (hj : j < 100) : ∀ (n t : Nat), 6 - t < n → t ≤ 6 → f3_greatestPart_b4 n (nI s) (nI j) (nI (gpM s j t)) (nI t) = some (nI (gpM s j 6))
  | 0, t, hn, _ => by omega
  | n + 1, t, hn, ht => by
    rw [f3_greatestPart_b4, n_6]
    rcases Nat.lt_or_ge t 6 with q | q
    · have hr := c_gp4 hs hj n (t + 1) (by omega) (by omega)
      rw [gpM] at hr
      rw [if_neg (by rw [n_le (by omega) (by omega)]; omega)]
      have e1 : f3_partAlike (nI s) (nI j) (nI (worthN t j)) = some (nI (cntN (alN s j t) 6)) := c_al hs hj q FU 0 (by decide) (by omega)
      have l1 := gpM_le s j t
      have l2 := cntN_le (alN s j t) 6
      simp only [c_has s hs t (by omega), c_worth t q j hj, b1_at, e1]
      unfold f3_greatestPart_b33
      by_cases c : s.testBit t = true
      · rw [if_pos c] at hr
        have e2 : mx (nI (gpM s j t)) (nI (cntN (alN s j t) 6)) = _ := mx_n (by omega) (by omega)
        simp only [if_pos c, i10, if_false, nmE, nI_1, e2]
        exact hr
      · rw [if_neg c] at hr
        simp only [if_neg c, if_true, nmE, nI_1]
        exact hr
    · have e : t = 6 := by omega
      subst e
      rw [if_pos (Int32.le_refl _)]
theorem m_gp4 {s j : Nat} (hs : s < 128) (hj : j < 100) : ∀ (n t : Nat), 6 - t < n → t ≤ 6 → mB (nI s) (nI j) n (nI (gpM s j t)) (nI t) = some (nI (gpM s j 6))
  | 0, t, hn, _ => by omega
  | n + 1, t, hn, ht => by
    rw [mB, n_6]
    rcases Nat.lt_or_ge t 6 with q | q
    · have hr := m_gp4 hs hj n (t + 1) (by omega) (by omega)
      rw [gpM] at hr
      rw [if_neg (by rw [n_le (by omega) (by omega)]; omega)]
      have l1 := gpM_le s j t
      have l2 := cntN_le (alN s j t) 6
      by_cases c : s.testBit t = true
      · have e1 : mA (nI s) (nI j) (nI t) FU 0 0 = some (nI (cntN (alN s j t) 6)) := m_al hs hj q c FU 0 (by decide) (by omega)
        rw [if_pos c] at hr
        rw [e1, b1_at]
        simp only [n_le (show cntN (alN s j t) 6 < 2 ^ 31 by omega) (show gpM s j t < 2 ^ 31 by omega), nI_1]
        by_cases c2 : cntN (alN s j t) 6 ≤ gpM s j t
        · rw [Nat.max_eq_left c2] at hr
          rw [if_pos c2]
          exact hr
        · rw [Nat.max_eq_right (by omega)] at hr
          rw [if_neg c2]
          exact hr
      · have e1 : mA (nI s) (nI j) (nI t) FU 0 0 = some (nI 0) := m_al0 hs q c FU 0 (by decide) (by omega)
        rw [if_neg c] at hr
        rw [e1, b1_at]
        simp only [n_le (show 0 < 2 ^ 31 by omega) (show gpM s j t < 2 ^ 31 by omega), nI_1]
        rw [if_pos (Nat.zero_le _)]
        exact hr
    · have e : t = 6 := by omega
      subst e
      rw [if_pos (Int32.le_refl _)]
theorem c_gp {s j : Nat} (hs : s < 64) (hj : j < 100) : f3_greatestPart (nI s) (nI j) = some (nI (gpM s j 6)) := c_gp4 (by omega) hj FU 0 (by decide) (by omega)
theorem m_gp {s j : Nat} (hs : s < 64) (hj : j < 100) : mB (nI s) (nI j) FU 0 0 = some (nI (gpM s j 6)) := m_gp4 (by omega) hj FU 0 (by decide) (by omega)
theorem test_loop {S T : Mem} {s : Nat} (hs : s < 64) : ∀ (n v b f : Nat), 100 - v < n → v ≤ 100 → b ≤ 6 → ∃ r w, f3_test_b48 n S (nI s) (nI b) (nI f) (nI v) = some (r, ui S 0 9 w) ∧ f4_test_b38 n T (nI s) (nI f) (nI b) (nI v) = some (r, ui T 0 2 w)
  | 0, v, b, f, h, _, _ => by omega
  | n + 1, v, b, f, h, hv, hb => by
    rw [f3_test_b48, f4_test_b38, n_99, n_100]
    rcases Nat.lt_or_ge v 100 with q | q
    · have hg := gpM_le s v 6
      have e1 : ¬ nI 99 < nI v := by rw [n_lt (by decide) (by omega)]; omega
      have e2 : ¬ nI 100 ≤ nI v := by rw [n_le (by decide) (by omega)]; omega
      have e0 : mB (nI s) (nI v) FU 0 0 = _ := m_gp hs q
      rw [if_neg e1, if_neg e2, c_gp hs q, b1_at, mB_eq, e0, b1_at]
      unfold f3_test_b79
      by_cases c : b ≤ gpM s v 6
      · have e3 : nI b ≤ nI (gpM s v 6) := by rw [n_le (by omega) (by omega)]; exact c
        rw [if_pos e3, if_pos e3, nmE, nI_1]
        exact test_loop hs n (v + 1) b f (by omega) (by omega) hb
      · have e3 : ¬ nI b ≤ nI (gpM s v 6) := by rw [n_le (by omega) (by omega)]; exact c
        rw [if_neg e3, if_neg e3, nmE, nI_1]
        exact test_loop hs n (v + 1) (gpM s v 6) v (by omega) (by omega) hg
    · have e : v = 100 := by omega
      subst e
      rw [if_pos (by decide), if_pos (by decide), nmE, m_tells, b2_at]
      exact ⟨_, _, rfl, rfl⟩
theorem c_test1 {S : Mem} {s : Nat} (hs : s < 64) (n : Nat) : f3_test_b48 (n + 1) S (nI s) 7 0 0 = f3_test_b48 n S (nI s) (nI (gpM s 0 6)) (nI 0) (nI 1) := by
  have hg := gpM_le s 0 6
  have e : f3_greatestPart (nI s) 0 = _ := c_gp hs (show 0 < 100 by decide)
  rw [f3_test_b48, if_neg (by decide), e, b1_at]
  have e4 : ¬ (7 : Int32) ≤ nI (gpM s 0 6) := by rw [n_7, n_le (by decide) (by omega)]; omega
  rw [if_neg e4]
  rfl
theorem m_test1 {T : Mem} {s : Nat} (hs : s < 64) (n : Nat) : f4_test_b38 (n + 1) T (nI s) 0 99 0 = f4_test_b38 n T (nI s) (nI 0) (nI (gpM s 0 6)) (nI 1) := by
  have hg := gpM_le s 0 6
  have e : mB (nI s) 0 FU 0 0 = _ := m_gp hs (show 0 < 100 by decide)
  rw [f4_test_b38, if_neg (by decide), mB_eq, e, b1_at]
  have e4 : ¬ (99 : Int32) ≤ nI (gpM s 0 6) := by rw [n_99, n_le (by decide) (by omega)]; omega
  rw [if_neg e4]
  rfl
theorem p_test {S T : Mem} (R : Rel S T) (x y : Int32) : ∃ r S' T', f3_test S x y = some (r, S') ∧ f4_test T x y = some (r, T') ∧ Rel S' T' := by
  unfold f3_test f4_test
  rcases p_pairs R x y with ⟨r, S', T', h1, h2, h3, h4, h5⟩ | ⟨h1, h2, k, m, hk, rfl, hm, hs, ht, ho⟩
  · rw [h3, h4, b2_at, b2_at, if_neg h1, if_neg h2]
    exact ⟨_, _, _, rfl, rfl, h5⟩
  · obtain ⟨s, hs64, e1, e2⟩ := p_kindsby R hk hm hs ht ho
    have g0 : inb (nI k) 6 = true := inb_nI hk (by decide)
    simp only [h1, h2, b2_at, if_true, Int32.le_refl, gd_t g0, ix_k (show k < 2 ^ 31 by omega), e1, e2, b1_at]
    by_cases z : s = 0
    · subst z
      rw [if_pos (show nI 0 = 0 from rfl), if_pos (show nI 0 = 0 from rfl)]
      exact ⟨_, _, _, rfl, rfl, R⟩
    · have e3 : ¬ nI s = 0 := nI_ne0 (by omega) (by omega)
      rw [if_neg e3, if_neg e3]
      obtain ⟨r, w, q1, q2⟩ := test_loop (S := S) (T := T) hs64 1999 1 (gpM s 0 6) 0 (by decide) (by decide) (gpM_le s 0 6)
      have f1 : f3_test_b48 FU S (nI s) 7 0 0 = _ := c_test1 hs64 1999
      have f2 : f4_test_b38 FU T (nI s) 0 99 0 = _ := m_test1 hs64 1999
      rw [f1, f2]
      exact ⟨_, _, _, q1, q2, R.told w⟩
