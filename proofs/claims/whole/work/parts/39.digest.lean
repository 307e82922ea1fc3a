/-! DIGEST -/
theorem dig_texts {S T : Mem} (R : Rel S T) {t z : Nat} (ht : t < 4) (hz : z ≤ 60) (hs : gi S 14 t = nI z) (h2 : gi T 4 t = nI z) {kc km : Int64 → Int32 → Option Int64} : ∀ (n i : Nat) (a : Int64), z - i < n → i ≤ z → ∃ b, f3_digestTexts_b29 kc S n a (nI t) (nI i) = kc b (nI (t + 1)) ∧ f4_digest_b197 km T n a (nI t) (nI i) = km b (nI (t + 1))
  | 0, i, a, h, _ => by omega
  | n + 1, i, a, h, hi => by
    have g1 : inb (nI t) 4 = true := inb_nI ht (by decide)
    have gz : ix (nI t) = t := ix_k (by omega)
    rw [f3_digestTexts_b29, f4_digest_b197]
    simp only [gd_t g1, gz, hs, h2]
    rcases Nat.lt_or_ge i z with q | q
    · have e1 : ¬ nI z ≤ nI i := by rw [n_le (by omega) (by omega)]; omega
      have g2 : inb (nI i) 60 = true := inb_nI (by omega) (by decide)
      have e2 : (60 : Int32) * nI t + nI i = nI (60 * t + i) := by rw [n_60, pk_mul, nI_add]
      have g3 : inb (nI (60 * t + i)) 240 = true := inb_nI (by omega) (by decide)
      simp only [if_neg e1, gd_t g2, ix_k (show i < 2 ^ 31 by omega), e2, gd_t g3, ix_k (show 60 * t + i < 2 ^ 31 by omega), R.tv ht (show i < 60 by omega), nmE, nI_1]
      exact dig_texts R ht hz hs h2 n (i + 1) _ (by omega) (by omega)
    · have e : i = z := by omega
      subst e
      simp only [if_pos (Int32.le_refl _), nmE, nI_1]
      exact ⟨a, rfl, rfl⟩
theorem dig_rows {S T : Mem} (R : Rel S T) {t z : Nat} (ht : t < 6) (hz : z ≤ 40) (hs : gi S 8 t = nI z) (h2 : gi T 2 t = nI z) {kc km : Int64 → Int32 → Option Int64} : ∀ (n i : Nat) (a : Int64), z - i < n → i ≤ z → ∃ b, f3_digestRows_b30 kc S n a (nI t) (nI i) = kc b (nI (t + 1)) ∧ f4_digest_b130 km T n a (nI t) (nI i) = km b (nI (t + 1))
  | 0, i, a, h, _ => by omega
  | n + 1, i, a, h, hi => by
    have g1 : inb (nI t) 6 = true := inb_nI ht (by decide)
    have gz : ix (nI t) = t := ix_k (by omega)
    rw [f3_digestRows_b30, f4_digest_b130]
    simp only [gd_t g1, gz, hs, h2]
    rcases Nat.lt_or_ge i z with q | q
    · have e1 : ¬ nI z ≤ nI i := by rw [n_le (by omega) (by omega)]; omega
      have g2 : inb (nI i) 40 = true := inb_nI (by omega) (by decide)
      have e2 : (40 : Int32) * nI t + nI i = nI (40 * t + i) := by rw [n_40, pk_mul, nI_add]
      have g3 : inb (nI (40 * t + i)) 240 = true := inb_nI (by omega) (by decide)
      simp only [if_neg e1, gd_t g2, ix_k (show i < 2 ^ 31 by omega), e2, gd_t g3, ix_k (show 40 * t + i < 2 ^ 31 by omega), R.rv ht (show i < 40 by omega), nmE, nI_1]
      exact dig_rows R ht hz hs h2 n (i + 1) _ (by omega) (by omega)
    · have e : i = z := by omega
      subst e
      simp only [if_pos (Int32.le_refl _), nmE, nI_1]
      exact ⟨a, rfl, rfl⟩
theorem neg1_le (i : Nat) (h : i < 2 ^ 31) : (-1 : Int32) ≤ nI i := by
  rw [i_le, nI_toInt h, show (-1 : Int32).toInt = -1 from rfl]
  omega
theorem dig_t4 {S T : Mem} (R : Rel S T) : ∀ (n t : Nat) (a : Int64), 4 - t < n → t ≤ 4 → ∃ b, f3_digestTexts_b5 S n a (nI t) = some b ∧ f4_digest_b175 T n a (nI t) = some b
  | 0, i, a, h, _ => by omega
  | n + 1, t, a, h, hi => by
    rw [f3_digestTexts_b5, f4_digest_b175, n_4]
    rcases Nat.lt_or_ge t 4 with q | q
    · have e1 : ¬ nI 4 ≤ nI t := by rw [n_le (by omega) (by omega)]; omega
      have g1 : inb (nI t) 4 = true := inb_nI q (by decide)
      have gz : ix (nI t) = t := ix_k (by omega)
      simp only [if_neg e1, gd_t g1, gz, nmE]
      rcases R.tsz q with ⟨a1, a2, a3⟩ | ⟨z, hz, a1, a2, a3, a4, a5⟩
      · have e2 : gi T 4 t = -1 := by rw [← (R.1.2.2.2.2.2.2.2.1 t q).1]; exact a1
        have e3 : (-1 : Int32) ≤ 0 := by decide
        rw [show FU = 1999 + 1 from rfl, f3_digestTexts_b29, f4_digest_b197]
        simp only [gd_t g1, gz, a1, e2, if_pos e3, nmE, nI_1]
        exact dig_t4 R n (t + 1) _ (by omega) (by omega)
      · rw [a1, a2]
        obtain ⟨b, h1, h2⟩ := dig_texts R q hz a1 a2 (kc := f3_digestTexts_b5 S n) (km := f4_digest_b175 T n) FU 0 ((31 * a) + (Int32.toInt64 (nI z))) (Nat.lt_of_le_of_lt (show z - 0 ≤ 60 by omega) (by decide)) (by omega)
        have h1' : f3_digestTexts_b29 (f3_digestTexts_b5 S n) S FU ((31 * a) + (Int32.toInt64 (nI z))) (nI t) 0 = _ := h1
        have h2' : f4_digest_b197 (f4_digest_b175 T n) T FU ((31 * a) + (Int32.toInt64 (nI z))) (nI t) 0 = _ := h2
        rw [h1', h2']
        exact dig_t4 R n (t + 1) b (by omega) (by omega)
    · have e : t = 4 := by omega
      subst e
      simp only [if_pos (Int32.le_refl _)]
      exact ⟨a, rfl, rfl⟩
theorem dig_r4 {S T : Mem} (R : Rel S T) : ∀ (n t : Nat) (a : Int64), 6 - t < n → t ≤ 6 → ∃ b, f3_digestRows_b5 S n a (nI t) = some b ∧ f4_digest_b107 T n a (nI t) = f4_digest_b175 T FU b 0
  | 0, i, a, h, _ => by omega
  | n + 1, t, a, h, hi => by
    rw [f3_digestRows_b5, f4_digest_b107, n_6]
    rcases Nat.lt_or_ge t 6 with q | q
    · have e1 : ¬ nI 6 ≤ nI t := by rw [n_le (by omega) (by omega)]; omega
      have g1 : inb (nI t) 6 = true := inb_nI q (by decide)
      have gz : ix (nI t) = t := ix_k (by omega)
      simp only [if_neg e1, gd_t g1, gz, nmE]
      rcases R.rsz q with ⟨a1, a2, a3⟩ | ⟨z, hz, a1, a2, a3, a4, a5⟩
      · have e2 : gi T 2 t = -1 := by rw [← (R.1.2.2.2.2.2.1 t q).1]; exact a1
        have e3 : (-1 : Int32) ≤ 0 := by decide
        have h1' : f3_digestRows_b30 (f3_digestRows_b5 S n) S FU ((31 * a) + (Int32.toInt64 (gi S 8 t))) (nI t) 0 = f3_digestRows_b5 S n ((31 * a) + (Int32.toInt64 (gi S 8 t))) (nI t + 1) := by
          show f3_digestRows_b30 _ S (1999 + 1) _ _ _ = _
          rw [f3_digestRows_b30]
          simp only [gd_t g1, gz, a1, if_pos e3, nmE]
        have h2' : f4_digest_b130 (f4_digest_b107 T n) T FU ((31 * a) + (Int32.toInt64 (gi T 2 t))) (nI t) 0 = f4_digest_b107 T n ((31 * a) + (Int32.toInt64 (gi T 2 t))) (nI t + 1) := by
          show f4_digest_b130 _ T (1999 + 1) _ _ _ = _
          rw [f4_digest_b130]
          simp only [gd_t g1, gz, e2, if_pos e3, nmE]
        rw [h1', h2', a1, e2, nI_1]
        exact dig_r4 R n (t + 1) _ (by omega) (by omega)
      · rw [a1, a2]
        obtain ⟨b, h1, h2⟩ := dig_rows R q hz a1 a2 (kc := f3_digestRows_b5 S n) (km := f4_digest_b107 T n) FU 0 ((31 * a) + (Int32.toInt64 (nI z))) (Nat.lt_of_le_of_lt (show z - 0 ≤ 60 by omega) (by decide)) (by omega)
        have h1' : f3_digestRows_b30 (f3_digestRows_b5 S n) S FU ((31 * a) + (Int32.toInt64 (nI z))) (nI t) 0 = _ := h1
        have h2' : f4_digest_b130 (f4_digest_b107 T n) T FU ((31 * a) + (Int32.toInt64 (nI z))) (nI t) 0 = _ := h2
        rw [h1', h2']
        exact dig_r4 R n (t + 1) b (by omega) (by omega)
    · have e : t = 6 := by omega
      subst e
      simp only [if_pos (Int32.le_refl _)]
      exact ⟨a, rfl, rfl⟩
theorem Rel.ked {S T : Mem} (R : Rel S T) {k : Nat} (hk : k < 3) : gi S (22 + (1 + k)) 1 = gi T 13 k := by
  obtain ⟨-, h, kd, fi, ha, d, dy, qy, jr, h1, h2, h3, h4, h5⟩ := R
  rcases h5 k hk with ⟨a1, a2⟩ | ⟨d', dy', qy', jr', a1, a2, -, -⟩
  · rw [a1, a2]
  · rw [a1, a2.2.1]
theorem dig_k {S T : Mem} (R : Rel S T) : ∀ (n t : Nat) (a : Int64), 3 - t < n → t ≤ 3 → ∃ b, f3_digest_b83 S n a (nI t) = some b ∧ f4_digest_b80 T n a (nI t) = some b
  | 0, i, a, h, _ => by omega
  | n + 1, t, a, h, hi => by
    rw [f3_digest_b83, f4_digest_b80, n_3]
    rcases Nat.lt_or_ge t 3 with q | q
    · have e1 : ¬ nI 3 ≤ nI t := by rw [n_le (by omega) (by omega)]; omega
      have g1 : inb (nI t) 3 = true := inb_nI q (by decide)
      have gz : ix (nI t) = t := ix_k (by omega)
      simp only [if_neg e1, gd_t g1, gz, nmE, R.ked q, nI_1]
      exact dig_k R n (t + 1) _ (by omega) (by omega)
    · have e : t = 3 := by omega
      subst e
      simp only [if_pos (Int32.le_refl _)]
      obtain ⟨b, h1, h2⟩ := dig_r4 R FU 0 a (by decide) (by omega)
      obtain ⟨c, h3, h4⟩ := dig_t4 R FU 0 b (by decide) (by omega)
      have h1' : f3_digestRows S a = some b := h1
      have h2' : f4_digest_b107 T FU a 0 = _ := h2
      have h3' : f3_digestTexts S b = some c := h3
      have h4' : f4_digest_b175 T FU b 0 = some c := h4
      rw [h1', b1_at, h3', b1_at, h2', h4']
      exact ⟨c, rfl, rfl⟩
theorem dig_w {S T : Mem} {h d a2 b2 : Nat} {kd fi ha dy qy : Nat → Nat} {jr : Nat → Nat → Nat} (H : HC S h kd fi ha) (H2 : HM T h kd fi ha) (I : HI S T h 0 d 11 0 a2 b2 dy qy jr) {i : Nat} (hi : i < h) {kc km : Int64 → Int32 → Option Int64} : ∀ (n w : Nat) (a : Int64), 7 - w < n → w ≤ 7 → ∃ b, f3_digest_b47 kc S n a (nI i) (nI w) = kc b (nI (i + 1)) ∧ f4_digest_b44 km T n a (nI i) (nI w) = km b (nI (i + 1))
  | 0, i, a, h, _ => by omega
  | n + 1, w, a, hn, hw => by
    rw [f3_digest_b47, f4_digest_b44, n_7]
    rcases Nat.lt_or_ge w 7 with q | q
    · have e1 : ¬ nI 7 ≤ nI w := by rw [n_le (by omega) (by omega)]; omega
      have o := (I.2.2.1 d (Nat.le_refl _)).2
      have hd := I.1
      have c := c_told H I hi w q
      have m := m_told H2 I.2.2.2.1 (by have := o.1; omega) hi (o.2.2 i hi) w q
      simp only [if_neg e1, c, m, b1_at, nmE, nI_1]
      exact dig_w H H2 I hi n (w + 1) _ (by omega) (by omega)
    · have e : w = 7 := by omega
      subst e
      simp only [if_pos (Int32.le_refl _), nmE, nI_1]
      exact ⟨a, rfl, rfl⟩
theorem dig_h {S T : Mem} (R : Rel S T) {h d a2 b2 : Nat} {kd fi ha dy qy : Nat → Nat} {jr : Nat → Nat → Nat} (H : HC S h kd fi ha) (H2 : HM T h kd fi ha) (I : HI S T h 0 d 11 0 a2 b2 dy qy jr) : ∀ (n i : Nat) (a : Int64), h - i < n → i ≤ h → ∃ b, f3_digest_b33 S n a (nI i) = some b ∧ f4_digest_b33 T n a (nI i) = some b
  | 0, i, a, h, _ => by omega
  | n + 1, i, a, hn, hw => by
    have hh := H.2.1
    rw [f3_digest_b33, f4_digest_b33, H.1, H2.1]
    rcases Nat.lt_or_ge i h with q | q
    · have e1 : ¬ nI h ≤ nI i := by rw [n_le (by omega) (by omega)]; omega
      rw [if_neg e1, if_neg e1]
      obtain ⟨b, h1, h2⟩ := dig_w H H2 I q (kc := f3_digest_b33 S n) (km := f4_digest_b33 T n) FU 0 a (by decide) (by omega)
      have h1' : f3_digest_b47 (f3_digest_b33 S n) S FU a (nI i) 0 = _ := h1
      have h2' : f4_digest_b44 (f4_digest_b33 T n) T FU a (nI i) 0 = _ := h2
      rw [h1', h2']
      exact dig_h R H H2 I n (i + 1) b (by omega) (by omega)
    · have e : i = h := by omega
      subst e
      rw [if_pos (Int32.le_refl _), if_pos (Int32.le_refl _)]
      exact dig_k R FU 0 a (by decide) (by omega)
theorem dig_c {S T : Mem} (R : Rel S T) : ∀ (n w : Nat) (a : Int64), 12 - w < n → w ≤ 12 → ∃ b, f3_digest_b6 S n a (nI w) = some b ∧ f4_digest_b6 T n a (nI w) = some b
  | 0, i, a, h, _ => by omega
  | n + 1, w, a, hn, hw => by
    rw [f3_digest_b6, f4_digest_b6, n_12]
    rcases Nat.lt_or_ge w 12 with q | q
    · have e1 : ¬ nI 12 ≤ nI w := by rw [n_le (by omega) (by omega)]; omega
      obtain ⟨r, c, m⟩ := p_cnt R w q
      simp only [if_neg e1, c, m, b1_at, nmE, nI_1]
      exact dig_c R n (w + 1) _ (by omega) (by omega)
    · have e : w = 12 := by omega
      subst e
      rw [if_pos (Int32.le_refl _), if_pos (Int32.le_refl _)]
      obtain ⟨-, h, kd, fi, ha, d, dy, qy, jr, h1, h2, h3, h4, h5⟩ := id R
      exact dig_h R h1 h2 h4 FU 0 a (Nat.lt_of_le_of_lt (show h - 0 ≤ 7 from h1.2.1) (by decide)) (by omega)
theorem p_digest {S T : Mem} (R : Rel S T) : ∃ r, f3_digest S = some r ∧ f4_digest T = some r := dig_c R FU 0 17 (by decide) (by omega)
