/-! CHANCES: the fraction in its lowest terms -/
theorem lg_0 {b : Nat} (hb : b < 2 ^ 63) : (lg_cmp (lN b) 0 = 0) = (b = 0) := by
  apply propext
  rw [show (0 : Int64) = lN 0 from rfl]
  unfold lg_cmp
  by_cases c : b = 0
  · subst c
    exact ⟨fun _ => rfl, fun _ => by decide⟩
  · have e : lN b > lN 0 := (pk_lLT (by decide) hb).mpr (by omega)
    rw [if_pos e]
    exact ⟨fun q => absurd q (by decide), fun q => absurd q c⟩
theorem gcd_step (a b : Nat) : Nat.gcd b (a % b) = Nat.gcd a b := by
  rw [Nat.gcd_comm b, ← Nat.gcd_rec, Nat.gcd_comm]
theorem half_step {a b m : Nat} (h : a * b < 2 ^ (m + 1)) (hb : b ≤ a) (h0 : 0 < b) : b * (a % b) < 2 ^ m := by
  have m1 := Nat.mod_lt a h0
  have m2 := Nat.div_add_mod a b
  have m3 : 1 ≤ a / b := (Nat.one_le_div_iff h0).mpr hb
  have m4 : b * 1 ≤ b * (a / b) := Nat.mul_le_mul_left b m3
  have m5 : 2 * (a % b) ≤ a := by omega
  have m6 : b * (2 * (a % b)) ≤ b * a := Nat.mul_le_mul_left b m5
  rw [Nat.mul_left_comm, Nat.mul_comm b a] at m6
  rw [Nat.pow_succ] at h
  omega
theorem ne_l {b : Nat} (h : ¬ b = 0) (hb : b < 2 ^ 63) : ¬ lN b = 0 := by
  rw [show (0 : Int64) = lN 0 from rfl, pk_lEQ hb (by decide)]
  exact h
theorem c_gc : ∀ (n m a b k : Nat), a * b < 2 ^ m → b ≤ a → a < 2 ^ 31 → m < n → k + m < 100 → f3_greatestCommon_b9 n (lN a) (lN b) (nI k) = some (lN (Nat.gcd a b)) := by
  intro n
  induction n with
  | zero =>
    intro m a b k _ _ _ h
    omega
  | succ n ih =>
    intro m a b k h1 h2 h3 h4 h5
    have e1 : ¬ (100 : Int32) ≤ nI k := by rw [n_100, n_le (by decide) (by omega)]; omega
    rw [f3_greatestCommon_b9, if_neg e1]
    simp only [lg_0 (show b < 2 ^ 63 by omega)]
    by_cases c : b = 0
    · subst c
      rw [if_pos rfl, Nat.gcd_zero_right]
    · rw [if_neg c, gd_t (decide_eq_true (ne_l c (by omega))), pk_lRem (by omega) (by omega) (by omega), nmE, nmE, nI_1]
      have ml := Nat.mod_lt a (show 0 < b by omega)
      cases m with
      | zero =>
        have := Nat.mul_pos (show 0 < a by omega) (show 0 < b by omega)
        omega
      | succ m =>
        rw [ih m b (a % b) (k + 1) (half_step h1 h2 (by omega)) (by omega) (by omega) (by omega) (by omega), gcd_step]
theorem c_gc1 {u w : Nat} (hu : u < 2 ^ 31) (hw : w < 2 ^ 31) (h0 : ¬ w = 0) : ∀ n, 63 < n → f3_greatestCommon_b9 n (lN u) (lN w) 0 = some (lN (Nat.gcd u w)) := by
  intro n hn
  cases n with
  | zero => omega
  | succ n =>
    have ml := Nat.mod_lt u (show 0 < w by omega)
    have e : w * (u % w) < 2 ^ 62 := by
      have := Nat.mul_lt_mul'' hw (show u % w < 2 ^ 31 by omega)
      omega
    have r := c_gc n 62 w (u % w) 1 e (by omega) hw (by omega) (by decide)
    rw [f3_greatestCommon_b9, if_neg (by decide)]
    simp only [lg_0 (show w < 2 ^ 63 by omega)]
    rw [if_neg h0, gd_t (decide_eq_true (ne_l h0 (by omega))), pk_lRem (by omega) (by omega) (by omega), nmE, nmE]
    rw [gcd_step] at r
    exact r
theorem gcd_b {u w : Nat} (hw : w < 2 ^ 31) (h0 : ¬ w = 0) : ¬ Nat.gcd u w = 0 ∧ Nat.gcd u w < 2 ^ 31 := by
  have h1 := Nat.gcd_pos_of_pos_right u (show 0 < w by omega)
  have h2 := Nat.gcd_le_right u (show 0 < w by omega)
  omega
theorem c_chance {S : Mem} {u w : Nat} (hu : u < 2 ^ 31) (hw : w < 2 ^ 31) (h0 : ¬ w = 0) : f3_tellChance S (lN u) (lN w) = some (1, ul (ul S 0 (lN (u / Nat.gcd u w))) 1 (lN (w / Nat.gcd u w))) := by
  have g := gcd_b (u := u) hw h0
  unfold f3_tellChance f3_greatestCommon
  rw [c_gc1 hu hw h0 FU (by decide), b1_at]
  simp only [lg_0 (show Nat.gcd u w < 2 ^ 63 by omega)]
  rw [if_neg g.1, gd_t (decide_eq_true (ne_l g.1 (by omega))), nmE, gd_t (decide_eq_true (ne_l g.1 (by omega))), nmE, pk_lDiv (by omega) (by omega) (by omega), pk_lDiv (by omega) (by omega) (by omega)]
theorem m_fr (T : Mem) {u w : Nat} (hu : u < 2 ^ 31) (hw : w < 2 ^ 31) : ∀ (n m a b : Nat), a * b < 2 ^ m → b ≤ a → 0 < a → a < 2 ^ 31 → m < n → f4_fraction_b6 n T (lN u) (lN w) (lN a) (lN b) = some (1, ul (ul T 0 (lN (u / Nat.gcd a b))) 1 (lN (w / Nat.gcd a b))) := by
  intro n
  induction n with
  | zero =>
    intro m a b _ _ _ _ h
    omega
  | succ n ih =>
    intro m a b h1 h2 h0 h3 h4
    rw [f4_fraction_b6]
    simp only [lg_0 (show b < 2 ^ 63 by omega)]
    by_cases c : b = 0
    · subst c
      have ne := ne_l (show ¬ a = 0 by omega) (show a < 2 ^ 63 by omega)
      rw [if_pos rfl, Nat.gcd_zero_right, gd_t (decide_eq_true ne), nmE, gd_t (decide_eq_true ne), nmE, pk_lDiv (by omega) (by omega) (by omega), pk_lDiv (by omega) (by omega) (by omega)]
    · rw [if_neg c, gd_t (decide_eq_true (ne_l c (by omega))), pk_lRem (by omega) (by omega) (by omega), nmE]
      have ml := Nat.mod_lt a (show 0 < b by omega)
      cases m with
      | zero =>
        have := Nat.mul_pos (show 0 < a by omega) (show 0 < b by omega)
        omega
      | succ m =>
        rw [ih m b (a % b) (half_step h1 h2 (by omega)) (by omega) (by omega) (by omega) (by omega), gcd_step]
theorem m_fr1 (T : Mem) {u w : Nat} (hu : u < 2 ^ 31) (hw : w < 2 ^ 31) (h0 : ¬ w = 0) : ∀ n, 63 < n → f4_fraction_b6 n T (lN u) (lN w) (lN u) (lN w) = some (1, ul (ul T 0 (lN (u / Nat.gcd u w))) 1 (lN (w / Nat.gcd u w))) := by
  intro n hn
  cases n with
  | zero => omega
  | succ n =>
    have ml := Nat.mod_lt u (show 0 < w by omega)
    have e : w * (u % w) < 2 ^ 62 := by
      have := Nat.mul_lt_mul'' hw (show u % w < 2 ^ 31 by omega)
      omega
    have r := m_fr T hu hw n 62 w (u % w) e (by omega) (by omega) hw (by omega)
    rw [f4_fraction_b6]
    simp only [lg_0 (show w < 2 ^ 63 by omega)]
    rw [if_neg h0, gd_t (decide_eq_true (ne_l h0 (by omega))), pk_lRem (by omega) (by omega) (by omega), nmE]
    rw [gcd_step] at r
    exact r
theorem m_chance {T : Mem} {u w : Nat} (hu : u < 2 ^ 31) (hw : w < 2 ^ 31) (h0 : ¬ w = 0) : f4_fraction T (lN u) (lN w) = some (1, ul (ul T 0 (lN (u / Nat.gcd u w))) 1 (lN (w / Nat.gcd u w))) := m_fr1 T hu hw h0 FU (by decide)
/-! ODDS -/
def partN (p s : Nat) : Nat → Nat
  | 0 => 1
  | i + 1 => partN p s i * (if s.testBit i = true then p else 12 - p)
theorem all_12 : ∀ h, h < 8 → ∀ p, p < 13 → smN (fun s => partN p s h) (2 ^ h) = 12 ^ h := by decide +kernel
theorem sm_mono {f : Nat → Nat} : ∀ {a b : Nat}, a ≤ b → smN f a ≤ smN f b
  | a, 0, h => by
    have e : a = 0 := by omega
    rw [e]
    exact Nat.le_refl _
  | a, b + 1, h => by
    rcases Nat.lt_or_ge a (b + 1) with q | q
    · have := sm_mono (f := f) (show a ≤ b by omega)
      rw [smN]
      omega
    · have e : a = b + 1 := by omega
      rw [e]
      exact Nat.le_refl _
theorem sm_le {f g : Nat → Nat} (h : ∀ i, f i ≤ g i) : ∀ n, smN f n ≤ smN g n
  | 0 => Nat.le_refl _
  | n + 1 => by
    have := sm_le h n
    have := h n
    rw [smN, smN]
    omega
theorem tw_if {α : Type} (x : Int32) {b : Nat} (hb : b < 2 ^ 31) (A B : α) : (if x < 0 then A else if nI b < x then A else B) = if inb x (b + 1) = true then B else A := by
  simp only [i_lt, i_0, nI_toInt hb, inb_iff]
  split
  · rw [if_neg (by omega)]
  · split
    · rw [if_neg (by omega)]
    · rw [if_pos (by omega)]
theorem c_tw (x : Int32) : f3_isTwelfths x = some (if inb x 13 = true then 1 else 0) := by
  unfold f3_isTwelfths
  rw [n_12, tw_if x (by decide)]
  by_cases c : inb x 13 = true
  · rw [if_pos c, if_pos c]
  · rw [if_neg c, if_neg c]
theorem tw_l {p : Nat} (h : p ≤ 12) : Int32.toInt64 (12 - nI p) = lN (12 - p) := by rw [n_12, pk_sub h, nI_l (by omega)]
theorem c_part5 {S : Mem} {h s p : Nat} (h7 : h ≤ 7) (hs : s < 128) (hp : p ≤ 12) (hh : gi S 15 3 = nI h) : ∀ (n i : Nat), h - i < n → i ≤ h → f3_partOf_b5 S n (nI s) (nI p) (lN (partN p s i)) (nI i) = some (lN (partN p s h))
  | 0, i, h1, _ => by omega
  | n + 1, i, h1, h2 => by
    rw [f3_partOf_b5, hh]
    unfold f3_partOf_b37
    rcases Nat.lt_or_ge i h with u | u
    · have e : ¬ nI h ≤ nI i := by rw [n_le (by omega) (by omega)]; omega
      have r := c_part5 h7 hs hp hh n (i + 1) (by omega) (by omega)
      rw [partN] at r
      rw [if_neg e, c_has s hs i (by omega), b1_at, tw_l hp, nI_l (by omega), lN_mul, lN_mul, nmE, nmE, nmE, nmE, nI_1]
      by_cases c : s.testBit i = true
      · rw [if_pos c] at r
        rw [if_pos c, if_neg (by decide)]
        exact r
      · rw [if_neg c] at r
        rw [if_neg c, if_pos rfl]
        exact r
    · have e : i = h := by omega
      subst e
      rw [if_pos (Int32.le_refl _)]
theorem c_part {S : Mem} {h s p : Nat} (h7 : h ≤ 7) (hs : s < 128) (hp : p ≤ 12) (hh : gi S 15 3 = nI h) : f3_partOf S (nI s) (nI p) = some (lN (partN p s h)) :=
  c_part5 h7 hs hp hh FU 0 (Nat.lt_of_le_of_lt (show h - 0 ≤ 7 from h7) (by decide)) (Nat.zero_le _)
def odJ (fi jr : Nat → Nat) (s i : Nat) : Nat := min 99 (jr i + (if s.testBit i = true then 0 else 1) * fi i)
theorem c_wwi13 {S : Mem} {h q dy qy s : Nat} {kd fi ha jr : Nat → Nat} (H : HC S h kd fi ha) (M : MC S h q dy qy jr) (hs : s < 128) (hj : ∀ i, i < h → jr i ≤ 99) : ∀ (n i : Nat), h - i < n → i ≤ h → f3_worksWithIdle_b13 S n (nI s) q (nI (cntN (offP kd ha (odJ fi jr s)) i)) (nI i) = some (nI (cntN (offP kd ha (odJ fi jr s)) h))
  | 0, i, h1, _ => by omega
  | n + 1, i, h1, h2 => by
    have h7 := H.2.1
    rw [f3_worksWithIdle_b13, H.1]
    unfold f3_worksWithIdle_b39 f3_worksWithIdle_b74
    rcases Nat.lt_or_ge i h with u | u
    · have e : ¬ nI h ≤ nI i := by rw [n_le (by omega) (by omega)]; omega
      have r := c_wwi13 H M hs hj n (i + 1) (by omega) (by omega)
      rw [cntN] at r
      have z0 : nI 0 = 0 := rfl
      have z1 : nI 1 = 1 := rfl
      have k0 := c_behind (n := 0) H u (hj i u) (by decide)
      have k1 := c_behind (n := 1) H u (hj i u) (by decide)
      rw [z0] at k0
      rw [z1] at k1
      rw [if_neg e, c_has s hs i (by omega), b1_at, gd_t (i7 h7 u), ix_k (by omega), M.2.2 i u, k0, k1, b1_at, b1_at]
      have key : ∀ (y : Nat), odJ fi jr s i = min 99 y → (b1 (f0_comesOff S (nI i) (nI (min 99 y))) fun v5 => if v5 = 0 then nm (nI i + 1) fun v1 => f3_worksWithIdle_b13 S n (nI s) q (nI (cntN (offP kd ha (odJ fi jr s)) i)) v1 else nm (nI (cntN (offP kd ha (odJ fi jr s)) i) + 1) fun v7 => nm (nI i + 1) fun v1 => f3_worksWithIdle_b13 S n (nI s) q v7 v1) = some (nI (cntN (offP kd ha (odJ fi jr s)) h)) := by
        intro y hy
        rw [c_off H u (show min 99 y < 100 by omega), b1_at, ← hy, nmE, nmE, nmE, nI_1, nI_1]
        by_cases c : 5 * ha i ≤ worthN (kd i) (odJ fi jr s i)
        · have c2 : offP kd ha (odJ fi jr s) i = true := decide_eq_true c
          rw [if_pos c2] at r
          rw [if_pos c, if_neg (by decide)]
          exact r
        · have c2 : ¬ offP kd ha (odJ fi jr s) i = true := fun q => c (of_decide_eq_true q)
          rw [if_neg c2] at r
          rw [if_neg c, if_pos rfl]
          exact r
      by_cases c : s.testBit i = true
      · rw [if_pos c, if_neg (by decide), gd_t (i7 h7 u)]
        exact key _ (by unfold odJ; rw [if_pos c])
      · rw [if_neg c, if_pos rfl]
        exact key _ (by unfold odJ; rw [if_neg c])
    · have e : i = h := by omega
      subst e
      rw [if_pos (Int32.le_refl _)]
theorem c_wwi {S : Mem} {h d dy qy s : Nat} {kd fi ha jr : Nat → Nat} (H : HC S h kd fi ha) (M : MC S h (41 * 0 + d) dy qy jr) (hd : d ≤ 40) (hg : gi S 22 1 = nI d) (hs : s < 128) (hj : ∀ i, i < h → jr i ≤ 99) : f3_worksWithIdle S (nI s) = some (nI (cntN (offP kd ha (odJ fi jr s)) h)) := by
  unfold f3_worksWithIdle
  rw [c_now0 hg hd, b1_at, gd_t (dlt hd)]
  exact c_wwi13 H M hs hj FU 0 (Nat.lt_of_le_of_lt (show h - 0 ≤ 7 from H.2.1) (by decide)) (Nat.zero_le _)
def fitN (kd fi ha jr : Nat → Nat) (h v p s : Nat) : Nat := if v ≤ cntN (offP kd ha (odJ fi jr s)) h then partN p s h else 0
theorem c_odds40 {S : Mem} {h d dy qy v p : Nat} {kd fi ha jr : Nat → Nat} (H : HC S h kd fi ha) (M : MC S h (41 * 0 + d) dy qy jr) (hd : d ≤ 40) (hg : gi S 22 1 = nI d) (hv : v ≤ 7) (hp : p ≤ 12) (hj : ∀ i, i < h → jr i ≤ 99) : ∀ (n s : Nat), 2 ^ h - s < n → s ≤ 2 ^ h → f3_odds_b40 n S (nI v) (nI p) (lN (smN (fitN kd fi ha jr h v p) s)) (lN (smN (fun t => partN p t h) s)) (nI s) = b2 (f3_tellChance S (lN (smN (fitN kd fi ha jr h v p) (2 ^ h))) (lN (smN (fun t => partN p t h) (2 ^ h)))) fun v3 S4 => some (v3, S4)
  | 0, s, h1, _ => by omega
  | n + 1, s, h1, h2 => by
    have h7 := H.2.1
    have p7 := pow7 h7
    rw [f3_odds_b40, H.1, shl_h h (by omega)]
    unfold f3_odds_b85
    rcases Nat.lt_or_ge s (2 ^ h) with u | u
    · have e : ¬ nI (2 ^ h) ≤ nI s := by rw [n_le (by omega) (by omega)]; omega
      have r := c_odds40 H M hd hg hv hp hj n (s + 1) (by omega) (by omega)
      have cl := cntN_le (offP kd ha (odJ fi jr s)) h
      rw [smN, smN] at r
      rw [if_neg e, c_part h7 (by omega) hp H.1, b1_at, nmE, c_wwi H M hd hg (by omega) hj, b1_at, lN_add, lN_add, nmE, nmE, nI_1]
      simp only [n_lt (show cntN (offP kd ha (odJ fi jr s)) h < 2 ^ 31 by omega) (show v < 2 ^ 31 by omega)]
      unfold fitN at r ⊢
      by_cases c : v ≤ cntN (offP kd ha (odJ fi jr s)) h
      · rw [if_pos c] at r
        rw [if_neg (by omega)]
        exact r
      · rw [if_neg c, Nat.add_zero] at r
        rw [if_pos (by omega)]
        exact r
    · have e : s = 2 ^ h := by omega
      subst e
      rw [if_pos (Int32.le_refl _)]
def odEnd (k48 : Mem → Int32 → Int32 → Int64 → Int64 → Int32 → Option (Int32 × Mem)) (T : Mem) (x1 x2 : Int32) (x3 x5 : Int64) (x7 : Int32) (x8 : Int64) : Option (Int32 × Mem) :=
  nm ((x5 + x8) : Int64) fun v2 => b1 (f4_worksOff T) fun v4 => b1 (f4_many v4) fun v6 => if v6 < x1 then f4_odds_b191 k48 T x1 x2 v2 x7 x3 0 else f4_odds_b191 k48 T x1 x2 v2 x7 x3 x8
def odU (fi jr : Nat → Nat) (s k i : Nat) : Nat := if i < k then odJ fi jr s i else jr i
theorem m_od134 {T : Mem} (k48 : Mem → Int32 → Int32 → Int64 → Int64 → Int32 → Option (Int32 × Mem)) (k65 : Mem → Int32 → Int32 → Int64 → Int64 → Int32 → Int64 → Int32 → Option (Int32 × Mem)) (x1 x2 : Int32) (x3 x5 : Int64) (x7 : Int32) {i y a b : Nat} (hi : i < 7) (hy : y < 2 ^ 31) : f4_odds_b134 k48 k65 T x1 x2 x3 x5 x7 (nI i) (nI y) (lN a) (lN b) = k65 (ui T 11 (2 + i) (nI (min 99 y))) x1 x2 x3 x5 x7 (lN (a * b)) (nI (i + 1)) := by
  have g : inb (nI (2 + i)) 9 = true := inb_nI (by omega) (by decide)
  unfold f4_odds_b134 f4_odds_b159
  rw [lN_mul, nmE, n_99, n_2, nI_add, gd_t g, gd_t g, ix_k (by omega)]
  simp only [nmE, nI_1]
  simp only [n_le hy (show 99 < 2 ^ 31 by decide)]
  by_cases c : y ≤ 99
  · rw [if_pos c, Nat.min_eq_right c]
  · rw [if_neg c, Nat.min_eq_left (by omega)]
theorem m_od65 {h dy qy s p : Nat} {kd fi ha jr : Nat → Nat} (k48 : Mem → Int32 → Int32 → Int64 → Int64 → Int32 → Option (Int32 × Mem)) (x1 : Int32) (x3 x5 : Int64) (h7 : h ≤ 7) (hs : s < 128) (hp : p ≤ 12) (hj : ∀ i, i < h → jr i ≤ 99) : ∀ (m i : Nat) (T : Mem), h - i < m → i ≤ h → HM T h kd fi ha → MM T h 11 0 dy qy (odU fi jr s i) → ∃ T2, FT T T2 ∧ MM T2 h 11 0 dy qy (odJ fi jr s) ∧ f4_odds_b65 k48 m T x1 (nI p) x3 x5 (nI s) (lN (partN p s i)) (nI i) = odEnd k48 T2 x1 (nI p) x3 x5 (nI s) (lN (partN p s h)) := by
  intro m
  induction m with
  | zero =>
    intro i T h1
    omega
  | succ m ih =>
    intro i T h1 h2 H M
    rw [f4_odds_b65, H.1]
    rcases Nat.lt_or_ge i h with u | u
    · have e : ¬ nI h ≤ nI i := by rw [n_le (by omega) (by omega)]; omega
      have fb := (H.2.2 i u).2.1
      have ji := hj i u
      have eu : odU fi jr s i i = jr i := if_neg (Nat.lt_irrefl i)
      have mj := m_jar h7 M u
      rw [eu] at mj
      have F : FT T (ui T 11 (2 + i) (nI (odJ fi jr s i))) := FT.rf.u _ _
      have M' : MM (ui T 11 (2 + i) (nI (odJ fi jr s i))) h 11 0 dy qy (odU fi jr s (i + 1)) := by
        refine ⟨?_, ?_, fun k hk => ?_⟩
        · rw [gi_ui, if_neg (by omega)]
          exact M.1
        · rw [gi_ui, if_neg (by omega)]
          exact M.2.1
        · rw [gi_ui, Nat.zero_add]
          unfold odU
          by_cases c : k = i
          · subst c
            rw [if_pos ⟨rfl, rfl⟩, if_pos (Nat.lt_succ_self k)]
          · have mk := M.j hk
            unfold odU at mk
            rw [if_neg (by omega), mk]
            by_cases d : k < i
            · rw [if_pos d, if_pos (by omega)]
            · rw [if_neg d, if_neg (by omega)]
      obtain ⟨T2, a1, a2, a3⟩ := ih (i + 1) _ (by omega) (by omega) (H.ft F) M'
      rw [partN] at a3
      refine ⟨T2, F.tr a1, a2, ?_⟩
      rw [if_neg e, m_has s hs i (by omega)]
      unfold f4_odds_b90 f4_odds_b114
      rw [mj, b1_at, b1_at]
      by_cases c : s.testBit i = true
      · have eo : odJ fi jr s i = min 99 (jr i) := by
          unfold odJ
          rw [if_pos c, Nat.zero_mul, Nat.add_zero]
        rw [eo, if_pos c] at a3
        rw [if_pos c, if_pos rfl, if_neg (show ¬ (1 : Int32) = 0 by decide), nmE, if_neg (show ¬ (1 : Int32) = 0 by decide), Int32.add_zero, nI_l (by omega), m_od134 _ _ _ _ _ _ _ (by omega) (by omega)]
        exact a3
      · have eo : odJ fi jr s i = min 99 (jr i + fi i) := by
          unfold odJ
          rw [if_neg c, Nat.one_mul]
        rw [eo, if_neg c] at a3
        rw [if_neg c, if_neg (show ¬ (0 : Int32) = 1 by decide), if_pos rfl, gd_t (i7 h7 u), ix_k (by omega), fb.1, nI_add, nmE, if_pos rfl, tw_l hp, m_od134 _ _ _ _ _ _ _ (by omega) (by omega)]
        exact a3
    · have e : i = h := by omega
      subst e
      rw [if_pos (Int32.le_refl _)]
      exact ⟨T, FT.rf, M.cg (fun k hk => if_pos hk), rfl⟩
theorem od_le (fi jr : Nat → Nat) (s i : Nat) : odJ fi jr s i ≤ 99 := Nat.min_le_left _ _
theorem m_od48 {T0 : Mem} {h dy qy v p : Nat} {kd fi ha jr : Nat → Nat} (H : HM T0 h kd fi ha) (M : MM T0 h 11 0 dy qy jr) (hv : v ≤ 7) (hp : p ≤ 12) (hj : ∀ i, i < h → jr i ≤ 99) : ∀ (n s : Nat) (T : Mem), 2 ^ h - s < n → s ≤ 2 ^ h → AQ T0 T → ∃ T', AQ T0 T' ∧ f4_odds_b48 n T (nI v) (nI p) (lN (smN (fitN kd fi ha jr h v p) s)) (lN (smN (fun t => partN p t h) s)) (nI s) = b2 (f4_fraction T' (lN (smN (fitN kd fi ha jr h v p) (2 ^ h))) (lN (smN (fun t => partN p t h) (2 ^ h)))) fun v3 S4 => some (v3, S4) := by
  intro n
  induction n with
  | zero =>
    intro s T h1
    omega
  | succ n ih =>
    intro s T h1 h2 A
    have h7 := H.2.1
    have p7 := pow7 h7
    have HT := H.aq A
    rw [f4_odds_b48, HT.1, shl_h h (by omega)]
    rcases Nat.lt_or_ge s (2 ^ h) with u | u
    · have e : ¬ nI (2 ^ h) ≤ nI s := by rw [n_le (by omega) (by omega)]; omega
      obtain ⟨T2, a1, a2, a3⟩ := m_od65 (s := s) (p := p) (f4_odds_b48 n) (nI v) (lN (smN (fitN kd fi ha jr h v p) s)) (lN (smN (fun t => partN p t h) s)) h7 (by omega) hp hj FU 0 T (Nat.lt_of_le_of_lt (show h - 0 ≤ 7 from h7) (by decide)) (Nat.zero_le _) HT ((M.aq h7 A).cg fun i _ => (if_neg (Nat.not_lt_zero i)).symm)
      obtain ⟨T3, g1, g2⟩ := m_backs A a1
      obtain ⟨T', b1', b2'⟩ := ih (s + 1) T3 (by omega) (by omega) g2
      have z0 : nI 0 = 0 := rfl
      have z1 : lN (partN p s 0) = 1 := rfl
      have cl := cntN_le (offP kd ha (odJ fi jr s)) h
      have s128 := set128 (p := offP kd ha (odJ fi jr s)) h7
      rw [smN, smN] at b2'
      rw [z0, z1] at a3
      refine ⟨T', b1', ?_⟩
      rw [if_neg e, a3]
      unfold odEnd f4_odds_b191
      rw [lN_add, nmE, m_worksOff (HT.ft a1) a2 (fun i _ => od_le fi jr s i), b1_at, m_pop _ s128, b1_at, pop_set _ _ h7, g1]
      simp only [nmE, b1_at, lN_add, nI_1, Int64.add_zero]
      simp only [n_lt (show cntN (offP kd ha (odJ fi jr s)) h < 2 ^ 31 by omega) (show v < 2 ^ 31 by omega)]
      unfold fitN at b2' ⊢
      by_cases c : v ≤ cntN (offP kd ha (odJ fi jr s)) h
      · rw [if_pos c] at b2'
        rw [if_neg (by omega)]
        exact b2'
      · rw [if_neg c, Nat.add_zero] at b2'
        rw [if_pos (by omega)]
        exact b2'
    · have e : s = 2 ^ h := by omega
      subst e
      rw [if_pos (Int32.le_refl _)]
      exact ⟨T, A, rfl⟩
theorem p_odds {S T : Mem} (R : Rel S T) (x y : Int32) : ∃ r S' T', f3_odds S x y = some (r, S') ∧ f4_odds T x y = some (r, T') ∧ Rel S' T' := by
  obtain ⟨Rb, h, kd, fi, ha, d, dy, qy, jr, P⟩ := id R
  obtain ⟨H1, H2, H3, H4, H5⟩ := id P
  obtain ⟨M1, O1⟩ := H4.2.2.1 d (Nat.le_refl d)
  have hd := H4.1
  have h7 := H1.2.1
  unfold f3_odds f4_odds
  simp only [c_tw, b1_at, show (7 : Int64) = lN 7 from rfl, show (12 : Int64) = lN 12 from rfl, m_in0 x 7 (by decide), m_in0 y 12 (by decide)]
  rw [n_7, tw_if x (show 7 < 2 ^ 31 by decide)]
  by_cases hx : inb x (7 + 1) = true
  · simp only [if_pos hx, i10, if_false]
    obtain ⟨v, hv, rfl⟩ := inb_ex hx (by decide)
    by_cases hy : inb y (12 + 1) = true
    · have hy' : inb y 13 = true := hy
      simp only [if_pos hy, if_pos hy', i10, if_false]
      obtain ⟨p, hp, rfl⟩ := inb_ex hy (by decide)
      rw [H1.1, H2.1]
      by_cases h0 : h = 0
      · subst h0
        rw [if_pos (show nI 0 = 0 from rfl), if_pos (show nI 0 = 0 from rfl)]
        exact ⟨_, _, _, rfl, rfl, R⟩
      · have ne : ¬ nI h = 0 := nI_ne0 (by omega) (by omega)
        have p7 := pow7 h7
        have hp12 : p ≤ 12 := by omega
        obtain ⟨T1, c1, c2⟩ := m_asides T
        have a1 := c_odds40 (v := v) (p := p) H1 M1 hd H4.2.1 (by omega) hp12 O1.2.2 FU 0 (Nat.lt_of_le_of_lt (show 2 ^ h - 0 ≤ 128 from p7) (by decide)) (Nat.zero_le _)
        obtain ⟨T2, b1', b2'⟩ := m_od48 (v := v) (p := p) H2 H4.2.2.2.1 (by omega) hp12 O1.2.2 FU 0 T1 (Nat.lt_of_le_of_lt (show 2 ^ h - 0 ≤ 128 from p7) (by decide)) (Nat.zero_le _) c2
        have e12 := all_12 h (by omega) p (by omega)
        have p12 : 12 ^ h ≤ 12 ^ 7 := Nat.pow_le_pow_right (by decide) h7
        have q12 : 0 < 12 ^ h := Nat.pow_pos (by decide)
        have fl := sm_le (f := fitN kd fi ha (jr d) h v p) (g := fun t => partN p t h) (fun i => by
          unfold fitN
          split
          · exact Nat.le_refl _
          · exact Nat.zero_le _) (2 ^ h)
        have z0 : nI 0 = 0 := rfl
        have z1 : lN (smN (fitN kd fi ha (jr d) h v p) 0) = 0 := rfl
        have z2 : lN (smN (fun t => partN p t h) 0) = 0 := rfl
        rw [e12] at a1 b2' fl
        rw [z0, z1, z2] at a1 b2'
        rw [if_neg ne, if_neg ne, c1, b1_at, a1, b2', c_chance (by omega) (by omega) (by omega), m_chance (by omega) (by omega) (by omega), b2_at, b2_at]
        exact ⟨_, _, _, rfl, rfl, (R.aq b1').frac _ _⟩
    · have hy' : ¬ inb y 13 = true := hy
      simp only [if_neg hy, if_neg hy', if_true]
      exact ⟨_, _, _, rfl, rfl, R⟩
  · simp only [if_neg hx, if_true]
    exact ⟨_, _, _, rfl, rfl, R⟩
/-! MID -/
def mdN (kd fi ha jr : Nat → Nat) (p i : Nat) : Nat := (if offP kd ha jr i = true then p else 0) + (if offP kd ha (dayJ fi 1 jr) i = true then 12 - p else 0)
theorem md_le (kd fi ha jr : Nat → Nat) {p : Nat} (hp : p ≤ 12) (i : Nat) : mdN kd fi ha jr p i ≤ 12 := by
  unfold mdN
  split <;> split <;> omega
theorem c_mid26 {S : Mem} {h d dy qy p : Nat} {kd fi ha jr : Nat → Nat} (H : HC S h kd fi ha) (M : MC S h (41 * 0 + d) dy qy jr) (hd : d ≤ 40) (hg : gi S 22 1 = nI d) (hp : p ≤ 12) (hj : ∀ i, i < h → jr i ≤ 99) : ∀ (n i : Nat), h - i < n → i ≤ h → f3_mid_b26 n S (nI p) (nI (smN (mdN kd fi ha jr p) i)) (nI i) = b2 (f3_tellChance S (Int32.toInt64 (nI (smN (mdN kd fi ha jr p) h))) 12) fun v3 S4 => some (v3, S4)
  | 0, i, h1, _ => by omega
  | n + 1, i, h1, h2 => by
    have h7 := H.2.1
    rw [f3_mid_b26, H.1]
    unfold f3_mid_b68 f3_mid_b97
    rcases Nat.lt_or_ge i h with u | u
    · have e : ¬ nI h ≤ nI i := by rw [n_le (by omega) (by omega)]; omega
      have r := c_mid26 H M hd hg hp hj n (i + 1) (by omega) (by omega)
      have z1 : nI 1 = 1 := rfl
      have k1 := c_behind (n := 1) H u (hj i u) (by decide)
      have ji := hj i u
      have ed : min 99 (jr i + 1 * fi i) = dayJ fi 1 jr i := rfl
      have dl := day_le fi jr 1 i
      rw [z1, ed] at k1
      rw [smN] at r
      unfold mdN at r
      rw [if_neg e, c_now0 hg hd, b1_at, gd_t (dlt hd), gd_t (i7 h7 u), ix_k (by omega), M.2.2 i u, nmE, c_off H u (show jr i < 100 by omega), b1_at, k1, b1_at, n_12, pk_sub hp, nI_1]
      simp only [b1_at, nmE, nI_add]
      by_cases c1 : 5 * ha i ≤ worthN (kd i) (jr i)
      · have e1 : offP kd ha jr i = true := decide_eq_true c1
        by_cases c2 : 5 * ha i ≤ worthN (kd i) (dayJ fi 1 jr i)
        · have e2 : offP kd ha (dayJ fi 1 jr) i = true := decide_eq_true c2
          rw [if_pos e1, if_pos e2, ← Nat.add_assoc] at r
          rw [if_pos c1, if_neg (by decide), c_off H u (show dayJ fi 1 jr i < 100 by omega), b1_at, if_pos c2, if_neg (by decide)]
          exact r
        · have e2 : ¬ offP kd ha (dayJ fi 1 jr) i = true := fun q => c2 (of_decide_eq_true q)
          rw [if_pos e1, if_neg e2, Nat.add_zero] at r
          rw [if_pos c1, if_neg (by decide), c_off H u (show dayJ fi 1 jr i < 100 by omega), b1_at, if_neg c2, if_pos rfl]
          exact r
      · have e1 : ¬ offP kd ha jr i = true := fun q => c1 (of_decide_eq_true q)
        by_cases c2 : 5 * ha i ≤ worthN (kd i) (dayJ fi 1 jr i)
        · have e2 : offP kd ha (dayJ fi 1 jr) i = true := decide_eq_true c2
          rw [if_neg e1, if_pos e2, Nat.zero_add] at r
          rw [if_neg c1, if_pos rfl, c_off H u (show dayJ fi 1 jr i < 100 by omega), b1_at, if_pos c2, if_neg (by decide)]
          exact r
        · have e2 : ¬ offP kd ha (dayJ fi 1 jr) i = true := fun q => c2 (of_decide_eq_true q)
          rw [if_neg e1, if_neg e2, Nat.add_zero, Nat.add_zero] at r
          rw [if_neg c1, if_pos rfl, c_off H u (show dayJ fi 1 jr i < 100 by omega), b1_at, if_neg c2, if_pos rfl]
          exact r
    · have e : i = h := by omega
      subst e
      rw [if_pos (Int32.le_refl _)]
theorem m_mid53 {T : Mem} {h p : Nat} {kd fi ha jr : Nat → Nat} (h7 : h ≤ 7) (hh : gi T 0 12 = nI h) (hp : p ≤ 12) : ∀ (n i : Nat), h - i < n → i ≤ h → f4_mid_b53 n T (nI p) (lN (smN (mdN kd fi ha jr p) i)) (nI (setN (offP kd ha jr) h)) (nI (setN (offP kd ha (dayJ fi 1 jr)) h)) (nI i) = b2 (f4_fraction T (lN (smN (mdN kd fi ha jr p) h)) 12) fun v3 S4 => some (v3, S4)
  | 0, i, h1, _ => by omega
  | n + 1, i, h1, h2 => by
    rw [f4_mid_b53, hh]
    rcases Nat.lt_or_ge i h with u | u
    · have e : ¬ nI h ≤ nI i := by rw [n_le (by omega) (by omega)]; omega
      have r := m_mid53 (kd := kd) (fi := fi) (ha := ha) (jr := jr) h7 hh hp n (i + 1) (by omega) (by omega)
      have ml := md_le kd fi ha jr hp i
      have s1 := set128 (p := offP kd ha jr) h7
      have s2 := set128 (p := offP kd ha (dayJ fi 1 jr)) h7
      have ev : ((if offP kd ha jr i = true then (1 : Int32) else 0) * nI p + (if offP kd ha (dayJ fi 1 jr) i = true then (1 : Int32) else 0) * (12 - nI p)) = nI (mdN kd fi ha jr p i) := by
        unfold mdN
        rw [n_12, pk_sub hp]
        split <;> split <;> simp only [Int32.one_mul, Int32.zero_mul, Int32.zero_add, Int32.add_zero, Nat.zero_add, Nat.add_zero, nI_add]
        rfl
      rw [smN] at r
      rw [if_neg e, m_has _ s1 i (by omega), m_has _ s2 i (by omega), set_bit, set_bit, decide_eq_true u, Bool.true_and, Bool.true_and, ev, nI_l (by omega), lN_add, nmE, nmE, nI_1]
      exact r
    · have e : i = h := by omega
      subst e
      rw [if_pos (Int32.le_refl _)]
theorem p_mid {S T : Mem} (R : Rel S T) (y : Int32) : ∃ r S' T', f3_mid S y = some (r, S') ∧ f4_mid T y = some (r, T') ∧ Rel S' T' := by
  obtain ⟨Rb, h, kd, fi, ha, d, dy, qy, jr, P⟩ := id R
  obtain ⟨H1, H2, H3, H4, H5⟩ := id P
  obtain ⟨M1, O1⟩ := H4.2.2.1 d (Nat.le_refl d)
  have hd := H4.1
  have h7 := H1.2.1
  unfold f3_mid f4_mid
  rw [c_tw, b1_at, show (12 : Int64) = lN 12 from rfl, m_in0 y 12 (by decide), b1_at]
  by_cases hy : inb y (12 + 1) = true
  · obtain ⟨p, hp, rfl⟩ := inb_ex hy (by decide)
    rw [if_pos hy, if_neg (show ¬ (1 : Int32) = 0 by decide), if_neg (show ¬ (1 : Int32) = 0 by decide), H1.1, H2.1]
    by_cases h0 : h = 0
    · subst h0
      rw [if_pos (show nI 0 = 0 from rfl), if_pos (show nI 0 = 0 from rfl)]
      exact ⟨_, _, _, rfl, rfl, R⟩
    · have ne : ¬ nI h = 0 := nI_ne0 (by omega) (by omega)
      have hp12 : p ≤ 12 := by omega
      have sb := sm_b h7 (f := mdN kd fi ha (jr d) p) (c := 12) (fun i _ => md_le kd fi ha (jr d) hp12 i) (Nat.le_refl h)
      obtain ⟨T1, c1, c2⟩ := m_asides T
      obtain ⟨T2, d1, d2, d3⟩ := m_goesBy (H2.aq c2) (H4.2.2.2.1.aq h7 c2) O1.2.2
      obtain ⟨T3, g1, g2⟩ := m_backs c2 d2
      have w1 := m_worksOff H2 H4.2.2.2.1 O1.2.2
      have w2 := m_worksOff ((H2.aq c2).ft d2) d3 (fun i _ => day_le fi (jr d) 1 i)
      have a1 := c_mid26 (p := p) H1 M1 hd H4.2.1 hp12 O1.2.2 FU 0 (Nat.lt_of_le_of_lt (show h - 0 ≤ 7 from h7) (by decide)) (Nat.zero_le _)
      have a2 := m_mid53 (p := p) (kd := kd) (fi := fi) (ha := ha) (jr := jr d) h7 (H2.aq g2).1 hp12 FU 0 (Nat.lt_of_le_of_lt (show h - 0 ≤ 7 from h7) (by decide)) (Nat.zero_le _)
      have z0 : nI 0 = 0 := rfl
      have z1 : nI (smN (mdN kd fi ha (jr d) p) 0) = 0 := rfl
      have z2 : lN (smN (mdN kd fi ha (jr d) p) 0) = 0 := rfl
      rw [z0, z1, nI_l (by omega)] at a1
      rw [z0, z2] at a2
      rw [if_neg ne, if_neg ne, w1, b1_at, c1, b1_at, d1, b1_at, w2, b1_at, g1, b1_at, a1, a2, show (12 : Int64) = lN 12 from rfl, c_chance (by omega) (by decide) (by decide), m_chance (by omega) (by decide) (by decide), b2_at, b2_at]
      exact ⟨_, _, _, rfl, rfl, (R.aq g2).frac _ _⟩
  · have hy' : ¬ inb y 13 = true := hy
    rw [if_neg hy, if_pos rfl, if_pos rfl]
    exact ⟨_, _, _, rfl, rfl, R⟩
