/-! COUNT, JARS -/
def smN (f : Nat → Nat) : Nat → Nat
  | 0 => 0
  | n + 1 => smN f n + f n
theorem smN_le {f : Nat → Nat} {c : Nat} : ∀ {n : Nat}, (∀ i, i < n → f i ≤ c) → smN f n ≤ n * c
  | 0, _ => by simp [smN]
  | n + 1, h => by
    have h1 := smN_le (n := n) (fun i hi => h i (by omega))
    have h2 := h n (by omega)
    rw [smN, Nat.succ_mul]
    omega
theorem smN_cg {f g : Nat → Nat} : ∀ {n : Nat}, (∀ i, i < n → f i = g i) → smN f n = smN g n
  | 0, _ => rfl
  | n + 1, h => by rw [smN, smN, smN_cg (fun i hi => h i (by omega)), h n (by omega)]
theorem cnt_sm (p : Nat → Bool) : ∀ n, cntN p n = smN (fun i => if p i = true then 1 else 0) n
  | 0 => rfl
  | n + 1 => by rw [cntN, smN, cnt_sm p n]
theorem c_inJars {S : Mem} {h q dy qy : Nat} {jr kd fi ha : Nat → Nat} (H : HC S h kd fi ha) (M : MC S h q dy qy jr) : ∀ (n i : Nat), h - i < n → i ≤ h → f1_inJars_b4 S n q (nI (smN jr i)) (nI i) = some (nI (smN jr h))
  | 0, i, hn, _ => by omega
  | n + 1, i, hn, hi => by
    have h2 := H.2.1
    rw [f1_inJars_b4, H.1]
    rcases Nat.lt_or_ge i h with u | u
    · rw [if_neg (by rw [n_le (by omega) (by omega)]; omega)]
      simp only [gd_t (i7 h2 u), ix_k (show i < 2 ^ 31 by omega), M.2.2 i u, nmE, nI_add, nI_1]
      exact c_inJars H M n (i + 1) (by omega) (by omega)
    · have e : i = h := by omega
      subst e
      rw [if_pos (Int32.le_refl _)]
theorem c_brought4 {S : Mem} {h q dy qy : Nat} {jr kd fi ha : Nat → Nat} (H : HC S h kd fi ha) (M : MC S h q dy qy jr) (hd : dy < 2 ^ 31) (hj : ∀ i, i < h → jr i ≤ 99) : ∀ (n i : Nat), h - i < n → i ≤ h → f1_brought_b4 S n q (nI (smN (fun k => bringN (kd k) (jr k) dy) i)) (nI i) = some (nI (smN (fun k => bringN (kd k) (jr k) dy) h))
  | 0, i, hn, _ => by omega
  | n + 1, i, hn, hi => by
    have h2 := H.2.1
    rw [f1_brought_b4, H.1]
    rcases Nat.lt_or_ge i h with u | u
    · rw [if_neg (by rw [n_le (by omega) (by omega)]; omega)]
      simp only [c_brings (q := q) H u (hj i u) hd M.1 (M.2.2 i u), b1_at, nmE, nI_add, nI_1]
      exact c_brought4 H M hd hj n (i + 1) (by omega) (by omega)
    · have e : i = h := by omega
      subst e
      rw [if_pos (Int32.le_refl _)]
theorem c_brought_all {S : Mem} {h q dy qy : Nat} {jr kd fi ha : Nat → Nat} (H : HC S h kd fi ha) (M : MC S h q dy qy jr) (hd : dy < 2 ^ 31) (hj : ∀ i, i < h → jr i ≤ 99) : f1_brought S q = some (nI (smN (fun k => bringN (kd k) (jr k) dy) h)) := c_brought4 H M hd hj FU 0 (Nat.lt_of_le_of_lt (show h - 0 ≤ 7 from H.2.1) (by decide)) (by omega)
theorem m_sumOf4 {T : Mem} {h dy qy : Nat} {jr kd fi ha : Nat → Nat} (H : HM T h kd fi ha) (M : MM T h 11 0 dy qy jr) (hd : dy < 2 ^ 31) (hj : ∀ i, i < h → jr i ≤ 99) {w : Nat} (hw : w < 7) : ∀ (n i : Nat), h - i < n → i ≤ h → f4_sumOf_b4 T n (nI w) (nI (smN (toldN kd fi ha jr dy w) i)) (nI i) = some (nI (smN (toldN kd fi ha jr dy w) h))
  | 0, i, hn, _ => by omega
  | n + 1, i, hn, hi => by
    have h2 := H.2.1
    rw [f4_sumOf_b4, H.1]
    rcases Nat.lt_or_ge i h with u | u
    · rw [if_neg (by rw [n_le (by omega) (by omega)]; omega)]
      simp only [m_told H M hd u (hj i u) w hw, b1_at, nmE, nI_add, nI_1]
      exact m_sumOf4 H M hd hj hw n (i + 1) (by omega) (by omega)
    · have e : i = h := by omega
      subst e
      rw [if_pos (Int32.le_refl _)]
theorem m_sumOf {T : Mem} {h dy qy : Nat} {jr kd fi ha : Nat → Nat} (H : HM T h kd fi ha) (M : MM T h 11 0 dy qy jr) (hd : dy < 2 ^ 31) (hj : ∀ i, i < h → jr i ≤ 99) {w : Nat} (hw : w < 7) : f4_sumOf T (nI w) = some (nI (smN (toldN kd fi ha jr dy w) h)) := m_sumOf4 H M hd hj hw FU 0 (Nat.lt_of_le_of_lt (show h - 0 ≤ 7 from H.2.1) (by decide)) (by omega)
theorem c_ofKind4 {S : Mem} {h : Nat} {kd fi ha : Nat → Nat} (H : HC S h kd fi ha) {o : Nat} (ho : o < 6) : ∀ (n i : Nat), h - i < n → i ≤ h → f0_ofKind_b4 S n (nI o) (nI (cntN (fun k => isaN (kd k) o) i)) (nI i) = some (nI (cntN (fun k => isaN (kd k) o) h))
  | 0, i, hn, _ => by omega
  | n + 1, i, hn, hi => by
    have h2 := H.2.1
    rw [f0_ofKind_b4, H.1]
    rcases Nat.lt_or_ge i h with u | u
    · have hr := c_ofKind4 H ho n (i + 1) (by omega) (by omega)
      rw [cntN] at hr
      obtain ⟨⟨a1, a2⟩, -, -⟩ := H.2.2 i u
      rw [if_neg (by rw [n_le (by omega) (by omega)]; omega)]
      simp only [gd_t (i7 h2 u), ix_k (show i < 2 ^ 31 by omega), a1, c_isa _ a2 o ho, b1_at]
      unfold f0_ofKind_b28
      by_cases c : isaN (kd i) o = true
      · rw [if_pos c] at hr
        simp only [if_pos c, i10, if_false, nmE, nI_1]
        exact hr
      · rw [if_neg c, Nat.add_zero] at hr
        simp only [if_neg c, if_true, nmE, nI_1]
        exact hr
    · have e : i = h := by omega
      subst e
      rw [if_pos (Int32.le_refl _)]
theorem m_ofKind4 {T : Mem} {h : Nat} {kd fi ha : Nat → Nat} (H : HM T h kd fi ha) {o : Nat} (ho : o < 6) : ∀ (n i : Nat), h - i < n → i ≤ h → f4_ofKind_b4 T n (nI o) (nI (cntN (fun k => isaN (kd k) o) i)) (nI i) = some (nI (cntN (fun k => isaN (kd k) o) h))
  | 0, i, hn, _ => by omega
  | n + 1, i, hn, hi => by
    have h2 := H.2.1
    rw [f4_ofKind_b4, H.1]
    rcases Nat.lt_or_ge i h with u | u
    · have hr := m_ofKind4 H ho n (i + 1) (by omega) (by omega)
      rw [cntN] at hr
      obtain ⟨⟨a1, a2⟩, -, -⟩ := H.2.2 i u
      rw [if_neg (by rw [n_le (by omega) (by omega)]; omega)]
      simp only [gd_t (i7 h2 u), ix_k (show i < 2 ^ 31 by omega), a1, m_isa _ a2 o ho, b1_at]
      unfold f4_ofKind_b31
      by_cases c : isaN (kd i) o = true
      · rw [if_pos c] at hr
        simp only [if_pos c, i10, if_false, nmE, nI_1]
        exact hr
      · rw [if_neg c, Nat.add_zero] at hr
        simp only [if_neg c, if_true, nmE, nI_1, Int32.add_zero]
        exact hr
    · have e : i = h := by omega
      subst e
      rw [if_pos (Int32.le_refl _)]
theorem c_ofKind {S : Mem} {h : Nat} {kd fi ha : Nat → Nat} (H : HC S h kd fi ha) {o : Nat} (ho : o < 6) : f0_ofKind S (nI o) = some (nI (cntN (fun k => isaN (kd k) o) h)) := c_ofKind4 H ho FU 0 (Nat.lt_of_le_of_lt (show h - 0 ≤ 7 from H.2.1) (by decide)) (by omega)
theorem m_ofKind {T : Mem} {h : Nat} {kd fi ha : Nat → Nat} (H : HM T h kd fi ha) {o : Nat} (ho : o < 6) : f4_ofKind T (nI o) = some (nI (cntN (fun k => isaN (kd k) o) h)) := m_ofKind4 H ho FU 0 (Nat.lt_of_le_of_lt (show h - 0 ≤ 7 from H.2.1) (by decide)) (by omega)
/-- sizes: how many are there -/
theorem c_there4 (S : Mem) (a z : Nat) (hz : z < 2 ^ 31) (p : Nat → Bool) (hp : ∀ i, i < z → p i = decide (¬ gi S a i = -1)) : ∀ (n i : Nat), z - i < n → i ≤ z → f3_thoseThere_b4 S n a z (nI (cntN p i)) (nI i) = some (nI (cntN p z))
  | 0, i, hn, _ => by omega
  | n + 1, i, hn, hi => by
    rw [f3_thoseThere_b4]
    rcases Nat.lt_or_ge i z with u | u
    · have hr := c_there4 S a z hz p hp n (i + 1) (by omega) (by omega)
      rw [cntN, hp i u] at hr
      rw [if_neg (by rw [n_le (by omega) (by omega)]; omega), gd_ix u hz, ix_k (by omega)]
      unfold f3_thoseThere_b20
      by_cases c : gi S a i = -1
      · rw [if_neg (by simp [c]), Nat.add_zero] at hr
        simp only [if_pos c, nmE, nI_1]
        exact hr
      · rw [if_pos (by simp [c])] at hr
        simp only [if_neg c, nmE, nI_1]
        exact hr
    · have e : i = z := by omega
      subst e
      rw [if_pos (Int32.le_refl _)]
theorem c_kept4 (S : Mem) (p : Nat → Bool) (hp : ∀ i, i < 3 → p i = decide (¬ gi S (22 + (1 + i)) 1 = -1)) : ∀ (n i : Nat), 3 - i < n → i ≤ 3 → f3_keptThere_b4 S n (nI (cntN p i)) (nI i) = some (nI (cntN p 3))
  | 0, i, hn, _ => by omega
  | n + 1, i, hn, hi => by
    rw [f3_keptThere_b4, n_3]
    rcases Nat.lt_or_ge i 3 with u | u
    · have hr := c_kept4 S p hp n (i + 1) (by omega) (by omega)
      rw [cntN, hp i u] at hr
      rw [if_neg (by rw [n_le (by omega) (by omega)]; omega), gd_ix u (by decide), ix_k (by omega)]
      unfold f3_keptThere_b25
      by_cases c : gi S (22 + (1 + i)) 1 = -1
      · rw [if_neg (by simp [c]), Nat.add_zero] at hr
        simp only [if_pos c, nmE, nI_1]
        exact hr
      · rw [if_pos (by simp [c])] at hr
        simp only [if_neg c, nmE, nI_1]
        exact hr
    · have e : i = 3 := by omega
      subst e
      rw [if_pos (by decide)]
theorem m_there4 (T : Mem) (a z : Nat) (hz : z < 2 ^ 31) (p : Nat → Bool) (hp : ∀ i, i < z → p i = decide (0 ≤ gi T a i)) : ∀ (n i : Nat), z - i < n → i ≤ z → f4_there_b4 T n a z (nI z) (nI (cntN p i)) (nI i) = some (nI (cntN p z))
  | 0, i, hn, _ => by omega
  | n + 1, i, hn, hi => by
    rw [f4_there_b4]
    rcases Nat.lt_or_ge i z with u | u
    · have hr := m_there4 T a z hz p hp n (i + 1) (by omega) (by omega)
      rw [cntN, hp i u] at hr
      rw [if_neg (by rw [n_le (by omega) (by omega)]; omega), gd_ix u hz, ix_k (by omega)]
      unfold f4_there_b21
      by_cases c : 0 ≤ gi T a i
      · rw [if_pos (by simp [c])] at hr
        simp only [if_pos c, nmE, nI_1]
        exact hr
      · rw [if_neg (by simp [c]), Nat.add_zero] at hr
        simp only [if_neg c, nmE, nI_1, Int32.add_zero]
        exact hr
    · have e : i = z := by omega
      subst e
      rw [if_pos (Int32.le_refl _)]
theorem sz_flag {x : Int32} {n : Nat} (h : SZ x n) (hn : n < 2 ^ 31) : decide (¬ x = -1) = decide (0 ≤ x) := by
  rcases sz_2 h hn with ⟨a, b, -⟩ | ⟨z, -, -, b, c, -⟩
  · rw [decide_eq_false (fun q => q a), decide_eq_false b]
  · rw [decide_eq_true b, decide_eq_true c]
/-- what count() tells, w a number below 12; the same of both -/
theorem p_cnt {S T : Mem} (R : Rel S T) : ∀ w, w < 12 → ∃ r, f3_count S (nI w) = some r ∧ f4_count T (nI w) = some r := by
  intro w hw
  obtain ⟨h, kd, fi, ha, d, dy, qy, jr, H1, H2, H3, H4, H5⟩ := R.2
  obtain ⟨M1, O1⟩ := H4.2.2.1 d (Nat.le_refl d)
  have hd := H4.1
  have gq : 41 * 0 + d < 165 := by omega
  have hdy : dy d < 2 ^ 31 := by have := O1.1; omega
  have M2 := H4.2.2.2.1
  unfold f3_count f4_count
  simp only [c_now H4, b1_at, gd_d gq]
  rcases (show w = 0 ∨ w = 1 ∨ w = 2 ∨ w = 3 ∨ w = 4 ∨ w = 5 ∨ w = 6 ∨ w = 7 ∨ w = 8 ∨ w = 9 ∨ w = 10 ∨ w = 11 by omega) with rfl | rfl | rfl | rfl | rfl | rfl | rfl | rfl | rfl | rfl | rfl | rfl
  · simp only [if_pos (show nI 0 = 0 from rfl)]
    rw [H1.1, H2.1]
    exact ⟨_, rfl, rfl⟩
  · simp only [if_neg (show ¬ nI 1 = 0 by decide), if_pos (show nI 1 = 1 from rfl)]
    rw [M1.1, gd_t (by decide)]
    rw [show ix 0 = 0 from rfl, M2.1]
    exact ⟨_, rfl, rfl⟩
  · simp only [if_neg (show ¬ nI 2 = 0 by decide), if_neg (show ¬ nI 2 = 1 by decide), if_pos (show nI 2 = 2 from rfl)]
    rw [H3, show (22 : Nat) + 0 = 22 + 0 from rfl, H4.2.1]
    exact ⟨_, rfl, rfl⟩
  · simp only [if_neg (show ¬ nI 3 = 0 by decide), if_neg (show ¬ nI 3 = 1 by decide), if_neg (show ¬ nI 3 = 2 by decide), if_pos (show nI 3 = 3 from rfl)]
    rw [M1.2.1, gd_t (by decide)]
    rw [show ix 1 = 0 + 1 from rfl, M2.2.1]
    exact ⟨_, rfl, rfl⟩
  · simp only [if_neg (show ¬ nI 4 = 0 by decide), if_neg (show ¬ nI 4 = 1 by decide), if_neg (show ¬ nI 4 = 2 by decide), if_neg (show ¬ nI 4 = 3 by decide), if_pos (show nI 4 = 4 from rfl)]
    have e : f1_inJars S (41 * 0 + d) = some (nI (smN (jr d) h)) := c_inJars H1 M1 FU 0 (Nat.lt_of_le_of_lt (show h - 0 ≤ 7 from H1.2.1) (by decide)) (by omega)
    have e2 : f4_sumOf T 3 = _ := m_sumOf H2 M2 hdy O1.2.2 (w := 3) (by decide)
    simp only [e, e2, b1_at]
    exact ⟨_, rfl, rfl⟩
  · simp only [if_neg (show ¬ nI 5 = 0 by decide), if_neg (show ¬ nI 5 = 1 by decide), if_neg (show ¬ nI 5 = 2 by decide), if_neg (show ¬ nI 5 = 3 by decide), if_neg (show ¬ nI 5 = 4 by decide), if_pos (show nI 5 = 5 from rfl)]
    have e2 : f4_sumOf T 6 = _ := m_sumOf H2 M2 hdy O1.2.2 (w := 6) (by decide)
    rw [c_worksOff H1 M1 O1.2.2, e2, b1_at, b1_at, c_pop _ (set128 H1.2.1), b1_at, pop_set _ _ H1.2.1, cnt_sm]
    refine ⟨_, rfl, ?_⟩
    congr 2
    exact smN_cg (fun i hi => by
      show (if 5 * ha i ≤ worthN (kd i) (jr d i) then 1 else 0) = if offP kd ha (jr d) i = true then 1 else 0
      unfold offP
      simp only [decide_eq_true_eq])
  · simp only [if_neg (show ¬ nI 6 = 0 by decide), if_neg (show ¬ nI 6 = 1 by decide), if_neg (show ¬ nI 6 = 2 by decide), if_neg (show ¬ nI 6 = 3 by decide), if_neg (show ¬ nI 6 = 4 by decide), if_neg (show ¬ nI 6 = 5 by decide), if_pos (show nI 6 = 6 from rfl)]
    have e2 : f4_sumOf T 4 = _ := m_sumOf H2 M2 hdy O1.2.2 (w := 4) (by decide)
    rw [c_brought_all H1 M1 hdy O1.2.2, e2, b1_at, b1_at]
    exact ⟨_, rfl, rfl⟩
  · simp only [if_neg (show ¬ nI 7 = 0 by decide), if_neg (show ¬ nI 7 = 1 by decide), if_neg (show ¬ nI 7 = 2 by decide), if_neg (show ¬ nI 7 = 3 by decide), if_neg (show ¬ nI 7 = 4 by decide), if_neg (show ¬ nI 7 = 5 by decide), if_neg (show ¬ nI 7 = 6 by decide), if_pos (show nI 7 = 7 from rfl)]
    have e : f3_thoseThere S 8 6 = _ := c_there4 S 8 6 (by decide) (fun i => decide (¬ gi S 8 i = -1)) (fun _ _ => rfl) FU 0 (by decide) (by decide)
    have e2 : f4_there T 2 6 6 = _ := m_there4 T 2 6 (by decide) (fun i => decide (¬ gi S 8 i = -1)) (fun i hi => by
      obtain ⟨q1, q2⟩ := R.1.2.2.2.2.2.1 i hi
      rw [← q1]
      exact sz_flag q2 (by decide)) FU 0 (by decide) (by decide)
    simp only [e, e2, b1_at]
    exact ⟨_, rfl, rfl⟩
  · simp only [if_neg (show ¬ nI 8 = 0 by decide), if_neg (show ¬ nI 8 = 1 by decide), if_neg (show ¬ nI 8 = 2 by decide), if_neg (show ¬ nI 8 = 3 by decide), if_neg (show ¬ nI 8 = 4 by decide), if_neg (show ¬ nI 8 = 5 by decide), if_neg (show ¬ nI 8 = 6 by decide), if_neg (show ¬ nI 8 = 7 by decide), if_pos (show nI 8 = 8 from rfl)]
    have e : f3_thoseThere S 14 4 = _ := c_there4 S 14 4 (by decide) (fun i => decide (¬ gi S 14 i = -1)) (fun _ _ => rfl) FU 0 (by decide) (by decide)
    have e2 : f4_there T 4 4 4 = _ := m_there4 T 4 4 (by decide) (fun i => decide (¬ gi S 14 i = -1)) (fun i hi => by
      obtain ⟨q1, q2⟩ := R.1.2.2.2.2.2.2.2.1 i hi
      rw [← q1]
      exact sz_flag q2 (by decide)) FU 0 (by decide) (by decide)
    simp only [e, e2, b1_at]
    exact ⟨_, rfl, rfl⟩
  · simp only [if_neg (show ¬ nI 9 = 0 by decide), if_neg (show ¬ nI 9 = 1 by decide), if_neg (show ¬ nI 9 = 2 by decide), if_neg (show ¬ nI 9 = 3 by decide), if_neg (show ¬ nI 9 = 4 by decide), if_neg (show ¬ nI 9 = 5 by decide), if_neg (show ¬ nI 9 = 6 by decide), if_neg (show ¬ nI 9 = 7 by decide), if_neg (show ¬ nI 9 = 8 by decide), if_pos (show nI 9 = 9 from rfl)]
    have e : f3_keptThere S = _ := c_kept4 S (fun i => decide (¬ gi S (22 + (1 + i)) 1 = -1)) (fun _ _ => rfl) FU 0 (by decide) (by decide)
    have e2 : f4_there T 13 3 3 = _ := m_there4 T 13 3 (by decide) (fun i => decide (¬ gi S (22 + (1 + i)) 1 = -1)) (fun i hi => by
      rcases H5 i hi with ⟨q1, q2⟩ | ⟨d', _, _, _, q1, q2, -⟩
      · rw [q1, q2]
        rfl
      · rw [q2.2.1, q1]
        exact sz_flag (Or.inr ⟨d', q2.1, rfl⟩) (by decide)) FU 0 (by decide) (by decide)
    simp only [e, e2, b1_at]
    exact ⟨_, rfl, rfl⟩
  · simp only [if_neg (show ¬ nI 10 = 0 by decide), if_neg (show ¬ nI 10 = 1 by decide), if_neg (show ¬ nI 10 = 2 by decide), if_neg (show ¬ nI 10 = 3 by decide), if_neg (show ¬ nI 10 = 4 by decide), if_neg (show ¬ nI 10 = 5 by decide), if_neg (show ¬ nI 10 = 6 by decide), if_neg (show ¬ nI 10 = 7 by decide), if_neg (show ¬ nI 10 = 8 by decide), if_neg (show ¬ nI 10 = 9 by decide), if_pos (show nI 10 = 10 from rfl)]
    have e : f0_ofKind S 1 = _ := c_ofKind H1 (o := 1) (by decide)
    have e2 : f4_ofKind T 1 = _ := m_ofKind H2 (o := 1) (by decide)
    simp only [e, e2, b1_at]
    exact ⟨_, rfl, rfl⟩
  · simp only [if_neg (show ¬ nI 11 = 0 by decide), if_neg (show ¬ nI 11 = 1 by decide), if_neg (show ¬ nI 11 = 2 by decide), if_neg (show ¬ nI 11 = 3 by decide), if_neg (show ¬ nI 11 = 4 by decide), if_neg (show ¬ nI 11 = 5 by decide), if_neg (show ¬ nI 11 = 6 by decide), if_neg (show ¬ nI 11 = 7 by decide), if_neg (show ¬ nI 11 = 8 by decide), if_neg (show ¬ nI 11 = 9 by decide), if_neg (show ¬ nI 11 = 10 by decide), if_pos (show nI 11 = 11 from rfl)]
    have e : f0_ofKind S 2 = _ := c_ofKind H1 (o := 2) (by decide)
    have e2 : f4_ofKind T 2 = _ := m_ofKind H2 (o := 2) (by decide)
    simp only [e, e2, b1_at]
    exact ⟨_, rfl, rfl⟩
