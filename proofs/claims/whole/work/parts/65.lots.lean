/-! LOTS -/
theorem mod8 {d : Nat} (h : d < 2 ^ 31) : nI d - nI d / 8 * 8 = nI (d % 8) := by
  rw [n_8]
  exact pk_rem h (by decide) (by decide)
def lotM (k : Mem → Option (Int32 × Mem)) (T : Mem) (v4 v6 : Int32) : Option (Int32 × Mem) :=
  if v4 = 0 then b2 (f4_springs T) fun _ T' => k T'
  else if v4 = 1 then b1 (f4_leavesNine T v6) fun T' => k T'
  else if v4 = 2 then b1 (f4_takesNine T v6) fun T' => k T'
  else gd (inb 0 9) <| if 99 ≤ (gi T 11 (ix 0)) then k T else b1 (f4_goesBy T) fun T' => k T'
theorem lot_do {S T : Mem} {h d dy qy m : Nat} {kd fi ha jr : Nat → Nat} (h0 : 0 < h) (hd : d < 40) (hm : m < 2 ^ 31) (H : HC S h kd fi ha) (HM' : HM T h kd fi ha) (M : MC S h (41 * 0 + (d + 1)) dy qy jr) (N : MM T h 11 0 dy qy jr) (o : OKM h d dy qy jr) : ∃ S2 T2 dy1 qy1 jr1, f3_doByLot S (41 * 0 + (d + 1)) (nI m) = some S2 ∧ (∀ k, lotM k T (nI (m % 8)) (nI (m / 8 % h)) = k T2) ∧ FQ (41 * 0 + (d + 1)) S S2 ∧ FT T T2 ∧ MC S2 h (41 * 0 + (d + 1)) dy1 qy1 jr1 ∧ MM T2 h 11 0 dy1 qy1 jr1 ∧ OKM h (d + 1) dy1 qy1 jr1 := by
  have h7 := H.2.1
  obtain ⟨o1, o2, o3⟩ := id o
  have ne : ¬ nI h = 0 := nI_ne0 h0 (by omega)
  have hq : 41 * 0 + (d + 1) < 165 := by omega
  have hi : m / 8 % h < h := Nat.mod_lt _ h0
  have e8 : nI m / 8 = nI (m / 8) := by rw [n_8, pk_div hm (by decide) (by decide)]
  have eh : nI (m / 8) - nI (m / 8) / nI h * nI h = nI (m / 8 % h) := pk_rem (by omega) h0 (by omega)
  have em := mod8 hm
  have oS : okS h qy (jr, qy) := ⟨o3, Nat.le_refl _⟩
  have ji := o3 _ hi
  rw [e8] at em
  unfold f3_doByLot lotM
  rw [H.1, if_neg ne, gd_t (decide_eq_true ne), e8, eh, em, nmE]
  rcases (show m % 8 = 0 ∨ m % 8 = 1 ∨ m % 8 = 2 ∨ (3 ≤ m % 8 ∧ m % 8 < 8) by omega) with e | e | e | ⟨e, f⟩
  · obtain ⟨S2, b1', b2', b3'⟩ := c_share hq (by omega) h0 (by omega) H M o3
    obtain ⟨T2, c1, c2, c3⟩ := m_springs h0 (by omega) (by omega) HM' N o3
    rw [e, if_pos (show nI 0 = 0 from rfl), b1', b2_at]
    refine ⟨S2, T2, _, _, _, rfl, fun k => ?_, b2', c2, b3', c3, shr_ok h7 h0 o⟩
    rw [if_pos (show nI 0 = 0 from rfl), c1, b2_at]
  · have l := lv_b (jr (m / 8 % h))
    obtain ⟨S2, b1', b2', b3'⟩ := c_toQ (x := nI (lvN (jr (m / 8 % h)))) hq h7 hi (pk_sub l.2) (nI_add _ _) M
    obtain ⟨T2, c1, c2, c3⟩ := m_leave9 (s := (jr, qy)) h7 hi oS N
    rw [e, if_neg (show ¬ nI 1 = 0 by decide), if_pos (show nI 1 = 1 from rfl), gd_t (i7 h7 hi), ix_k (by omega), M.2.2 _ hi, c_left ji, b1_at, b1', b1_at]
    refine ⟨S2, T2, _, _, _, rfl, fun k => ?_, b2', c2, b3', c3, st_ok (by omega) (by omega) o⟩
    rw [if_neg (show ¬ nI 1 = 0 by decide), if_pos (show nI 1 = 1 from rfl), c1, b1_at]
  · have t := tk_b qy (jr (m / 8 % h))
    obtain ⟨S2, b1', b2', b3'⟩ := c_toQ (x := -nI (tkN qy (jr (m / 8 % h)))) hq h7 hi (sub_neg _ _) (add_neg t.2.1) M
    obtain ⟨T2, c1, c2, c3⟩ := m_take9 (s := (jr, qy)) h7 hi (by omega) oS N
    rw [e, if_neg (show ¬ nI 2 = 0 by decide), if_neg (show ¬ nI 2 = 1 by decide), if_pos (show nI 2 = 2 from rfl), gd_t (i7 h7 hi), ix_k (by omega), M.2.2 _ hi, M.2.1, c_taken ji (by omega), b1_at, b1', b1_at]
    refine ⟨S2, T2, _, _, _, rfl, fun k => ?_, b2', c2, b3', c3, st_ok (by omega) (by omega) o⟩
    rw [if_neg (show ¬ nI 2 = 0 by decide), if_neg (show ¬ nI 2 = 1 by decide), if_pos (show nI 2 = 2 from rfl), c1, b1_at]
  · obtain ⟨S2, b1', b2', b3'⟩ := c_days (n := 1) hq (by decide) H M o3
    obtain ⟨T2, c1, c2, c3⟩ := m_goesBy HM' N o3
    have n0 : ¬ nI (m % 8) = 0 := by rw [n_0, n_eq (by omega) (by decide)]; omega
    have n1 : ¬ nI (m % 8) = 1 := by rw [n_1, n_eq (by omega) (by decide)]; omega
    have n2 : ¬ nI (m % 8) = 2 := by rw [n_2, n_eq (by omega) (by decide)]; omega
    have n3 : ¬ (99 : Int32) ≤ nI dy := by rw [n_99, n_le (by decide) (by omega)]; omega
    have g0 : gi T 11 (ix 0) = nI dy := N.1
    have z1 : nI 1 = 1 := rfl
    rw [z1] at b1'
    rw [if_neg n0, if_neg n1, if_neg n2, M.1, if_neg n3, b1', b1_at]
    refine ⟨S2, T2, _, _, _, rfl, fun k => ?_, b2', c2, b3', c3, day_ok o⟩
    rw [if_neg n0, if_neg n1, if_neg n2, gd_t (show inb 0 9 = true from rfl), g0, if_neg n3, c1, b1_at]
def lotN (x : Nat) : Nat := x * 48271 % 2147483647
theorem lot_l {x : Nat} (h : x < 2147483647) : lN x * 48271 - lN x * 48271 / 2147483647 * 2147483647 = lN (lotN x) := by
  rw [show (48271 : Int64) = lN 48271 from rfl, show (2147483647 : Int64) = lN 2147483647 from rfl, lN_mul]
  exact pk_lRem (by omega) (by decide) (by decide)
theorem lot_b (x : Nat) : lotN x < 2147483647 := Nat.mod_lt _ (by decide)
theorem lots_loop {h N : Nat} {kd fi ha : Nat → Nat} (h0 : 0 < h) (hN : N ≤ 20) : ∀ (n m k d x : Nat) (S T : Mem) (dy qy : Nat → Nat) (jr : Nat → Nat → Nat), N - k < n → N - k < m → k ≤ N → d + (N - k) ≤ 40 → x < 2147483647 → RB S T → PLx S T h kd fi ha d dy qy jr → ∃ r S' T', f3_lots_b60 n S (nI N) (lN x) (nI k) = some (r, S') ∧ f4_lots_b56 m T (nI N) (lN x) (nI k) = some (r, T') ∧ Rel S' T' := by
  intro n
  induction n with
  | zero =>
    intro m k d x S T dy qy jr h1
    omega
  | succ n ih =>
    intro m k d x S T dy qy jr h1 h2 h3 h4 h5 Rb P
    cases m with
    | zero => omega
    | succ m =>
      obtain ⟨H1, H2, H3, H4, H5⟩ := id P
      obtain ⟨M1, O1⟩ := H4.2.2.1 d (Nat.le_refl d)
      have h7 := H1.2.1
      rw [f3_lots_b60, f4_lots_b56]
      unfold f4_lots_b156
      rcases Nat.lt_or_ge k N with u | u
      · have e : ¬ nI N ≤ nI k := by rw [n_le (by omega) (by omega)]; omega
        have lb := lot_b x
        have ne : ¬ Int32.toInt64 (nI h) = 0 := by
          rw [nI_l (by omega)]
          exact ne_l (by omega) (by omega)
        obtain ⟨S1, T1, a1, a2, a3, a4, a5, a6, a7, a8⟩ := deed Rb P (show d < 40 by omega)
        obtain ⟨S2, T2, dy1, qy1, jr1, c1, c2, c3, c4, c5, c6, c7⟩ := lot_do (m := lotN x) h0 (show d < 40 by omega) (by omega) a3 a4 a5 a6 a7
        obtain ⟨r1, dy', qy', jr', r2⟩ := a8 S2 T2 _ _ _ c3 c4 c5 c6 c7
        have e1 : Int64.toInt32 (lN (lotN x) - lN (lotN x) / 8 * 8) = nI (lotN x % 8) := by
          rw [show (8 : Int64) = lN 8 from rfl, pk_lRem (by omega) (by decide) (by decide), lN_i]
        have e2 : Int64.toInt32 (lN (lotN x) / 8 - lN (lotN x) / 8 / Int32.toInt64 (nI h) * Int32.toInt64 (nI h)) = nI (lotN x / 8 % h) := by
          rw [show (8 : Int64) = lN 8 from rfl, pk_lDiv (by omega) (by decide) (by decide), nI_l (by omega), pk_lRem (by omega) h0 (by omega), lN_i]
        obtain ⟨r, S', T', g1, g2, g3⟩ := ih m (k + 1) (d + 1) (lotN x) S2 T2 dy' qy' jr' (by omega) (by omega) (by omega) (by omega) lb r1 r2
        have q := c2 fun T' => f4_lots_b56 m T' (nI N) (lN (lotN x)) (nI (k + 1))
        unfold lotM at q
        rw [if_neg e, if_neg e, lot_l h5, nmE, nmE, nmE, H2.1, gd_t (decide_eq_true ne), e1, e2, nmE, a1, b2_at, gd_t (dlt (show d + 1 ≤ 40 by omega)), lN_i, c1, b1_at, nmE, nI_1, a2, b1_at]
        simp only [nmE]
        rw [g1]
        exact ⟨r, S', T', rfl, q.trans g2, g3⟩
      · have e : k = N := by omega
        subst e
        have m1 : gi T 11 (ix 1) = nI (qy d) := H4.2.2.2.1.2.1
        rw [if_pos (Int32.le_refl _), if_pos (Int32.le_refl _), c_now H4, b1_at, gd_t (dlt H4.1), gd_t (show inb 1 9 = true from rfl), m1, M1.2.1]
        exact ⟨_, _, _, rfl, rfl, PLx.rel Rb P⟩
theorem lo_if {α : Type} (x : Int32) {b : Nat} (hb : b < 2 ^ 31) (A B : α) : (if x < 1 then A else if nI b < x then A else B) = if rng x 1 b = true then B else A := by
  rw [n_1]
  simp only [i_lt, nI_toInt hb, nI_toInt (show 1 < 2 ^ 31 by decide), rng_iff]
  split
  · rw [if_neg (by omega)]
  · split
    · rw [if_neg (by omega)]
    · rw [if_pos (by omega)]
theorem up_if {α : Type} (x : Int32) (A B : α) : (if x < 1 then A else if x < 2147483647 then B else A) = if rng x 1 2147483646 = true then B else A := by
  rw [n_1, show (2147483647 : Int32) = nI 2147483647 from rfl]
  simp only [i_lt, nI_toInt (show 2147483647 < 2 ^ 31 by decide), nI_toInt (show 1 < 2 ^ 31 by decide), rng_iff]
  split
  · rw [if_neg (by omega)]
  · split
    · rw [if_pos (by omega)]
    · rw [if_neg (by omega)]
theorem p_lots {S T : Mem} (R : Rel S T) (x y : Int32) : ∃ r S' T', f3_lots S x y = some (r, S') ∧ f4_lots T x y = some (r, T') ∧ Rel S' T' := by
  obtain ⟨Rb, h, kd, fi, ha, d, dy, qy, jr, P⟩ := id R
  obtain ⟨H1, H2, H3, H4, H5⟩ := id P
  have hd := H4.1
  have h7 := H1.2.1
  have hg : gi S (22 + 0) 1 = nI d := H4.2.1
  unfold f3_lots f4_lots
  rw [show (1 : Int64) = lN 1 from rfl, show (20 : Int64) = lN 20 from rfl, show (2147483646 : Int64) = lN 2147483646 from rfl, in_rng x 1 20 (by decide) (by decide), in_rng y 1 2147483646 (by decide) (by decide), b1_at, b1_at, up_if, n_20, lo_if x (show 20 < 2 ^ 31 by decide)]
  by_cases hx : rng x 1 20 = true
  · rw [if_pos hx, if_pos hx, if_neg (show ¬ (1 : Int32) = 0 by decide)]
    by_cases hy : rng y 1 2147483646 = true
    · rw [if_pos hy, if_pos hy, if_neg (show ¬ (1 : Int32) = 0 by decide), H1.1, H2.1, hg, H3]
      by_cases h0 : h = 0
      · subst h0
        rw [if_pos (show nI 0 = 0 from rfl), if_pos (show nI 0 = 0 from rfl)]
        exact ⟨_, _, _, rfl, rfl, R⟩
      · have ne : ¬ nI h = 0 := nI_ne0 (by omega) (by omega)
        obtain ⟨N, n1, n2, rfl⟩ := rng_ex hx
        obtain ⟨z, z1, z2, rfl⟩ := rng_ex hy
        rw [if_neg ne, if_neg ne, nI_add, n_40, nI_l (by omega)]
        simp only [n_le (show d + N < 2 ^ 31 by omega) (show 40 < 2 ^ 31 by decide)]
        by_cases c : d + N ≤ 40
        · obtain ⟨r, S', T', g1, g2, g3⟩ := lots_loop (by omega) n2 FU FU 0 d z S T dy qy jr (Nat.lt_of_le_of_lt (show N - 0 ≤ 20 by omega) (by decide)) (Nat.lt_of_le_of_lt (show N - 0 ≤ 20 by omega) (by decide)) (Nat.zero_le _) (by omega) (by omega) Rb P
          have z0 : nI 0 = 0 := rfl
          rw [z0] at g1 g2
          rw [if_pos c, if_pos c, nmE, nmE, g1, g2]
          exact ⟨_, _, _, rfl, rfl, g3⟩
        · rw [if_neg c, if_neg c]
          exact ⟨_, _, _, rfl, rfl, R⟩
    · rw [if_neg hy, if_neg hy, if_pos rfl]
      exact ⟨_, _, _, rfl, rfl, R⟩
  · rw [if_neg hx, if_neg hx, if_pos rfl]
    exact ⟨_, _, _, rfl, rfl, R⟩
