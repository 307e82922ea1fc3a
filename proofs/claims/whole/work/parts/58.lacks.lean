/-! LACKS -/
def lkQ (p : Nat → Bool) (v w : Nat) : Bool := decide (v ≤ w) && p w
def lkV (p : Nat → Bool) (j v : Nat) : Int32 := if minN (lkQ p v) 100 < 100 then nI (minN (lkQ p v) 100 - j) else -9
theorem lk_yes {p : Nat → Bool} {j v : Nat} (hv : v < 100) (h : p v = true) : lkV p j v = nI (v - j) := by
  have e : minN (lkQ p v) 100 = v := minN_is hv (by unfold lkQ; rw [h, decide_eq_true (Nat.le_refl v)]; rfl) (fun w hw => by
    unfold lkQ
    rw [decide_eq_false (by omega)]
    rfl)
  unfold lkV
  rw [e, if_pos hv]
theorem lk_no {p : Nat → Bool} {j v : Nat} (h : ¬ p v = true) : lkV p j v = lkV p j (v + 1) := by
  have e : lkQ p v = lkQ p (v + 1) := by
    funext w
    unfold lkQ
    by_cases c : w = v
    · subst c
      rw [Bool.eq_false_iff.mpr h, Bool.and_false, Bool.and_false]
    · have e2 : decide (v ≤ w) = decide (v + 1 ≤ w) := by
        by_cases d : v ≤ w
        · rw [decide_eq_true d, decide_eq_true (by omega)]
        · rw [decide_eq_false d, decide_eq_false (by omega)]
      rw [e2]
  unfold lkV
  rw [e]
theorem lk_end {p : Nat → Bool} {j : Nat} : lkV p j 100 = -9 := by
  have e : minN (lkQ p 100) 100 = 100 := minN_none (fun w hw => by
    unfold lkQ
    rw [decide_eq_false (by omega)]
    rfl)
  unfold lkV
  rw [e, if_neg (by decide)]
theorem lk_cases (p : Nat → Bool) (j : Nat) : lkV p j j = -9 ∨ ∃ m, j + m ≤ 99 ∧ p (j + m) = true ∧ lkV p j j = nI m := by
  unfold lkV
  by_cases c : minN (lkQ p j) 100 < 100
  · rw [if_pos c]
    have y := minN_yes _ _ c
    have y2 : (decide (j ≤ minN (lkQ p j) 100) && p (minN (lkQ p j) 100)) = true := y
    rw [Bool.and_eq_true, decide_eq_true_eq] at y2
    refine Or.inr ⟨minN (lkQ p j) 100 - j, by omega, ?_, rfl⟩
    rw [Nat.add_sub_cancel' y2.1]
    exact y2.2
  · rw [if_neg c]
    exact Or.inl rfl
theorem n9 {a : Nat} (h : a < 2 ^ 31) : ¬ nI a = -9 := by
  rw [show (-9 : Int32) = -nI 9 from rfl, n_neg h (by decide) (by decide)]
  exact id
def okW (k hr v : Nat) : Bool := decide (5 * hr ≤ worthN k v)
theorem c_least2 {S : Mem} {h i j : Nat} {kd fi ha : Nat → Nat} (H : HC S h kd fi ha) (hi : i < h) : ∀ (n v : Nat), 100 - v < n → v ≤ 100 → j ≤ v → f0_leastMore_b2 S n (nI i) (nI j) (nI v) = some (lkV (okW (kd i) (ha i)) j v)
  | 0, v, h, _, _ => by omega
  | n + 1, v, hn, hv, hj => by
    rw [f0_leastMore_b2]
    rcases Nat.lt_or_ge v 100 with u | u
    · have e : ¬ (99 : Int32) < nI v := by rw [n_99, n_lt (by omega) (by omega)]; omega
      rw [if_neg e, c_off H hi u, b1_at]
      by_cases c : 5 * ha i ≤ worthN (kd i) v
      · rw [if_pos c, if_neg (by decide), pk_sub hj, lk_yes u (decide_eq_true c)]
      · rw [if_neg c, if_pos rfl, nmE, nI_1, c_least2 H hi n (v + 1) (by omega) (by omega) (by omega), ← lk_no (fun q => c (of_decide_eq_true q))]
    · have e : v = 100 := by omega
      subst e
      rw [if_pos (by decide), lk_end]
theorem c_least {S : Mem} {h i j : Nat} {kd fi ha : Nat → Nat} (H : HC S h kd fi ha) (hi : i < h) (hj : j ≤ 99) : f0_leastMore S (nI i) (nI j) = some (lkV (okW (kd i) (ha i)) j j) :=
  c_least2 H hi FU j (Nat.lt_of_le_of_lt (show 100 - j ≤ 100 by omega) (by decide)) (by omega) (Nat.le_refl j)
theorem m_lack6 {T : Mem} {h dy qy i : Nat} {kd fi ha jr : Nat → Nat} (H : HM T h kd fi ha) (M : MM T h 11 0 dy qy jr) (hi : i < h) (hj : jr i ≤ 99) : ∀ (n v : Nat), v < n → v ≤ 100 → jr i ≤ v → f4_lack_b6 T n (nI i) (lkV (okW (kd i) (ha i)) (jr i) v) (nI v - 1) = some (lkV (okW (kd i) (ha i)) (jr i) (jr i))
  | 0, v, h, _, _ => by omega
  | n + 1, v, hn, hv, hjv => by
    have h7 := H.2.1
    obtain ⟨⟨a1, a2⟩, -, c1, c2⟩ := H.2.2 i hi
    rw [f4_lack_b6, m_jar h7 M hi, b1_at]
    by_cases c : v = jr i
    · have e : nI v - 1 < nI (jr i) := by
        rw [c]
        rcases Nat.eq_zero_or_pos (jr i) with z | z
        · rw [z]
          decide
        · rw [n_1, pk_sub z, n_lt (by omega) (by omega)]
          omega
      rw [if_pos e, c]
    · have e1 : nI v - 1 = nI (v - 1) := by rw [n_1, pk_sub (by omega)]
      have e2 : ¬ nI (v - 1) < nI (jr i) := by rw [n_lt (by omega) (by omega)]; omega
      have e3 : nI (v - 1) + -1 = nI (v - 1) - 1 := by rw [Int32.sub_eq_add_neg]
      have wl := worth_le (kd i) a2 (v - 1) (by omega)
      have r := m_lack6 H M hi hj n (v - 1) (by omega) (by omega) (by omega)
      rw [e1, if_neg e2, gd_t (i7 h7 hi), ix_k (by omega), a1, m_worth _ a2 _ (by omega), b1_at, gd_t (i7 h7 hi), c1, n_5, pk_mul]
      unfold f4_lack_b47
      by_cases d : 5 * ha i ≤ worthN (kd i) (v - 1)
      · have e4 : ¬ nI (worthN (kd i) (v - 1)) < nI (5 * ha i) := by rw [n_lt (by omega) (by omega)]; omega
        rw [lk_yes (show v - 1 < 100 by omega) (decide_eq_true d)] at r
        rw [if_neg e4, b1_at, pk_sub (by omega), nmE, e3]
        exact r
      · have e4 : nI (worthN (kd i) (v - 1)) < nI (5 * ha i) := by rw [n_lt (by omega) (by omega)]; omega
        have e5 := lk_no (p := okW (kd i) (ha i)) (j := jr i) (v := v - 1) (fun q => d (of_decide_eq_true q))
        rw [Nat.sub_add_cancel (by omega)] at e5
        rw [e5] at r
        rw [if_pos e4, nmE, e3]
        exact r
theorem m_lack {T : Mem} {h dy qy i : Nat} {kd fi ha jr : Nat → Nat} (H : HM T h kd fi ha) (M : MM T h 11 0 dy qy jr) (hi : i < h) (hj : jr i ≤ 99) : f4_lack T (nI i) = some (lkV (okW (kd i) (ha i)) (jr i) (jr i)) := by
  have r := m_lack6 H M hi hj FU 100 (by decide) (by decide) (by omega)
  rw [lk_end, show nI 100 - 1 = 99 from rfl] at r
  exact r
theorem p_lacks {S T : Mem} (R : Rel S T) (x : Int32) : ∃ r S' T', f3_lacks S x = some (r, S') ∧ f4_lacks T x = some (r, T') ∧ Rel S' T' := by
  obtain ⟨Rb, h, kd, fi, ha, d, dy, qy, jr, P⟩ := id R
  obtain ⟨H1, H2, H3, H4, H5⟩ := id P
  obtain ⟨M1, O1⟩ := H4.2.2.1 d (Nat.le_refl d)
  have hd := H4.1
  have h7 := H1.2.1
  unfold f3_lacks f4_lacks
  simp only [c_isHouse H1, m_isHouse H2, b1_at]
  by_cases hx : inb x h = true
  · simp only [if_pos hx, i10, if_false]
    obtain ⟨i, hi, rfl⟩ := inb_ex hx (by omega)
    have oi := O1.2.2 i hi
    have kb := (H1.2.2 i hi).1.2
    rw [c_now H4, b1_at, gd_t (dlt hd), gd_t (i7 h7 hi), ix_k (by omega), M1.2.2 i hi, nmE, c_least H1 hi oi, b1_at, m_lack H2 H4.2.2.2.1 hi oi, b1_at]
    rcases lk_cases (okW (kd i) (ha i)) (jr d i) with e | ⟨m, m1, m2, e⟩
    · rw [e, if_pos rfl, if_pos rfl]
      exact ⟨_, _, _, rfl, rfl, R⟩
    · rw [e, if_neg (n9 (by omega)), if_neg (n9 (by omega)), gd_t (i7 h7 hi), (H1.2.2 i hi).1.1, nI_add, c_worth _ kb _ (by omega), b1_at, nmE, gd_t (i7 h7 hi), m_jar h7 H4.2.2.2.1 hi, b1_at, (H2.2.2 i hi).1.1, nI_add, m_worth _ kb _ (by omega), b1_at, m_tells, b2_at]
      exact ⟨_, _, _, rfl, rfl, R.told _⟩
  · simp only [if_neg hx, if_true]
    exact ⟨_, _, _, rfl, rfl, R⟩
/-! BEST -/
theorem c_now0 {S : Mem} {d : Nat} (h : gi S 22 1 = nI d) (hd : d ≤ 40) : f2_now S 0 = some (41 * 0 + d) := by
  have h' : gi S (22 + 0) 1 = nI d := h
  have g : inb (nI d) 41 = true := inb_nI (by omega) (by decide)
  unfold f2_now
  rw [h', gd_t g, ix_k (by omega)]
theorem best_loop {S0 T0 : Mem} {h d dy qy : Nat} {kd fi ha jr : Nat → Nat} (h0 : 0 < h) (hd : d ≤ 40) (hdy : dy ≤ 40) (hqy : qy ≤ 40000) (H1 : HC S0 h kd fi ha) (H2 : HM T0 h kd fi ha) (hs : gi S0 22 1 = nI d) (M : MC S0 h (41 * 0 + d) dy qy jr) (N : MM T0 h 11 0 dy qy jr) (hj : ∀ i, i < h → jr i ≤ 99) : ∀ (n m k : Nat) (S T : Mem) (x1 x2 : Int32), 21 - k < n → 21 - k < m → k ≤ 21 → FQ 164 S0 S → AQ T0 T → ∃ r v S' T', f3_best_b19 n S x1 x2 (nI k) = some (r, ui S' 0 9 v) ∧ f4_best_b20 m T x1 x2 (nI k) = some (r, ui T' 0 2 v) ∧ FQ 164 S0 S' ∧ AQ T0 T' := by
  intro n
  induction n with
  | zero =>
    intro m k S T x1 x2 h1
    omega
  | succ n ih =>
    intro m k S T x1 x2 h1 h2 h3 F A
    cases m with
    | zero => omega
    | succ m =>
      have h7 := H1.2.1
      rw [f3_best_b19, f4_best_b20]
      unfold f3_best_b90 f4_best_b60 f4_best_b73
      rcases Nat.lt_or_ge k 21 with u | u
      · have e1 : ¬ (20 : Int32) < nI k := by rw [n_20, n_lt (by omega) (by omega)]; omega
        have e2 : ¬ (21 : Int32) ≤ nI k := by rw [n_21, n_le (by omega) (by omega)]; omega
        have hs' : gi S 22 1 = nI d := by
          rw [F.1 _ _ (by omega) (by omega)]
          exact hs
        have M' : MC S h (41 * 0 + d) dy qy jr := M.same (fun p => F.1 _ _ (by omega) (by omega)) (fun p => F.1 _ _ (by omega) (by omega))
        have B := bcm_MC (q0 := 164) (by decide) (show 41 * 0 + d < 165 by omega) h7 M'
        have G := bcm_FQ (S := S) (q0 := 164) (q1 := 41 * 0 + d)
        have HS := H1.fq F
        obtain ⟨S1, a1, a2, a3⟩ := c_days (n := k) (by decide) (by omega) (HS.fq G) B hj
        obtain ⟨S2, b1', b2', b3'⟩ := c_share (by decide) (by omega) h0 (by omega) ((HS.fq G).fq a2) a3 (fun i _ => day_le fi jr k i)
        have hw : ∀ i, i < h → shrJ kd (dayJ fi k jr) (dy + k) (eachN h kd (dayJ fi k jr) (dy + k) qy) i ≤ 99 := fun i _ => Nat.min_le_left _ _
        have w1 := c_worksOff (((HS.fq G).fq a2).fq b2') b3' hw
        have HT := H2.aq A
        obtain ⟨T2, d1, d2, d3⟩ := m_goesOn (k0 := k) (by omega) HT (N.aq h7 A) hj
        obtain ⟨T3, e1', e2', e3'⟩ := m_springs h0 (by omega) (by omega) (HT.ft d2) d3 (fun i _ => day_le fi jr k i)
        have w2 := m_worksOff ((HT.ft d2).ft e2') e3' hw
        obtain ⟨T4, g1, g2⟩ := m_backs A (d2.tr e2')
        have s128 := set128 (p := offP kd ha (shrJ kd (dayJ fi k jr) (dy + k) (eachN h kd (dayJ fi k jr) (dy + k) qy))) h7
        rw [if_neg e1, if_neg e2, c_now0 hs' hd, b1_at, gd_t (dlt hd), c_become (by decide) (by omega), b1_at, a1, b1_at, b1', b2_at, w1, b1_at, c_pop _ s128, b1_at, d1, b1_at, e1', b2_at, w2, b1_at, m_pop _ s128, b1_at, g1, b1_at]
        by_cases c : nI (popN (setN (offP kd ha (shrJ kd (dayJ fi k jr) (dy + k) (eachN h kd (dayJ fi k jr) (dy + k) qy))) h)) ≤ x2
        · rw [if_pos c, if_pos c, if_pos c, nmE, nmE, nI_1]
          exact ih m (k + 1) S2 T4 x1 x2 (by omega) (by omega) (by omega) (F.tr (G.tr (a2.tr b2'))) g2
        · rw [if_neg c, if_neg c, if_neg c, nmE, nmE, nI_1]
          exact ih m (k + 1) S2 T4 _ _ (by omega) (by omega) (by omega) (F.tr (G.tr (a2.tr b2'))) g2
      · have e : k = 21 := by omega
        subst e
        rw [if_pos (by decide), if_pos (by decide), nmE, m_tells, b2_at]
        exact ⟨_, _, S, T, rfl, rfl, F, A⟩
theorem p_best {S T : Mem} (R : Rel S T) : ∃ r S' T', f3_best S = some (r, S') ∧ f4_best T = some (r, T') ∧ Rel S' T' := by
  obtain ⟨Rb, h, kd, fi, ha, d, dy, qy, jr, P⟩ := id R
  obtain ⟨H1, H2, H3, H4, H5⟩ := id P
  obtain ⟨M1, O1⟩ := H4.2.2.1 d (Nat.le_refl d)
  have hd := H4.1
  have h7 := H1.2.1
  have o1 := O1.1
  have o2 := O1.2.1
  unfold f3_best f4_best
  rw [H1.1, H2.1]
  by_cases h0 : h = 0
  · subst h0
    rw [if_pos (show nI 0 = 0 from rfl), if_pos (show nI 0 = 0 from rfl)]
    exact ⟨_, _, _, rfl, rfl, R⟩
  · have ne : ¬ nI h = 0 := nI_ne0 (by omega) (by omega)
    obtain ⟨T1, c1, c2⟩ := m_asides T
    obtain ⟨r, v, S', T', e1, e2, e3, e4⟩ := best_loop (by omega) hd (by omega) (by omega) H1 H2 H4.2.1 M1 H4.2.2.2.1 O1.2.2 FU FU 0 S T1 0 (-1) (by decide) (by decide) (by decide) FQ.rf c2
    have z0 : nI 0 = 0 := rfl
    rw [z0] at e1 e2
    rw [if_neg ne, if_neg ne, c1, b1_at, e1, e2]
    exact ⟨_, _, _, rfl, rfl, ((R.f164 e3).aq e4).told v⟩
