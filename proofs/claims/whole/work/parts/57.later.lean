/-! LATER, WHEN: what would be, aside -/
/-- T0 as it was, but aside is what now was -/
def AQ (T0 T : Mem) : Prop := (∀ a p, a ≠ 15 → (a = 11 → p < 9) → gi T a p = gi T0 a p) ∧ (∀ p, p < 9 → gi T 15 p = gi T0 11 p) ∧ ∀ p, gl T p = gl T0 p
theorem m_asides2 (G : Nat → Int32) : ∀ (n i : Nat) (T : Mem), 9 - i < n → i ≤ 9 → (∀ p, p < 9 → gi T 11 p = G p) → f4_asides_b2 n T (nI i) = some (upG T 15 i 9 G)
  | 0, i, T, h, _, _ => by omega
  | n + 1, i, T, hn, hi, h2 => by
    rw [f4_asides_b2, n_9]
    rcases Nat.lt_or_ge i 9 with q | q
    · have e : ¬ nI 9 ≤ nI i := by rw [n_le (by omega) (by omega)]; omega
      have g : inb (nI i) 9 = true := inb_nI q (by decide)
      rw [if_neg e, gd_t g, gd_t g, ix_k (by omega), h2 i q, nmE, nmE, nI_1, m_asides2 G n (i + 1) _ (by omega) (by omega) (fun p hp => by rw [gi_ui, if_neg (by omega)]; exact h2 p hp), upG_step (G := G) q]
    · have e : i = 9 := by omega
      subst e
      rw [if_pos (Int32.le_refl _), upG_nil (Nat.le_refl _)]
theorem m_backs2 (G : Nat → Int32) : ∀ (n i : Nat) (T : Mem), 9 - i < n → i ≤ 9 → (∀ p, p < 9 → gi T 15 p = G p) → f4_backs_b2 n T (nI i) = some (upG T 11 i 9 G)
  | 0, i, T, h, _, _ => by omega
  | n + 1, i, T, hn, hi, h2 => by
    rw [f4_backs_b2, n_9]
    rcases Nat.lt_or_ge i 9 with q | q
    · have e : ¬ nI 9 ≤ nI i := by rw [n_le (by omega) (by omega)]; omega
      have g : inb (nI i) 9 = true := inb_nI q (by decide)
      rw [if_neg e, gd_t g, gd_t g, ix_k (by omega), h2 i q, nmE, nmE, nI_1, m_backs2 G n (i + 1) _ (by omega) (by omega) (fun p hp => by rw [gi_ui, if_neg (by omega)]; exact h2 p hp), upG_step (G := G) q]
    · have e : i = 9 := by omega
      subst e
      rw [if_pos (Int32.le_refl _), upG_nil (Nat.le_refl _)]
theorem m_asides (T : Mem) : ∃ T1, f4_asides T = some T1 ∧ AQ T T1 := by
  refine ⟨_, m_asides2 (gi T 11) FU 0 T (by decide) (by decide) (fun p _ => rfl), fun a p x y => ?_, fun p hp => ?_, fun p => rfl⟩
  · rw [gi_upG, if_neg (fun u => x u.1)]
  · rw [gi_upG, if_pos ⟨rfl, Nat.zero_le p, hp⟩]
theorem m_backs {T0 T1 T : Mem} (a : AQ T0 T1) (f : FT T1 T) : ∃ T3, f4_backs T = some T3 ∧ AQ T0 T3 := by
  obtain ⟨a1, a2, a3⟩ := a
  refine ⟨_, m_backs2 (gi T 15) FU 0 T (by decide) (by decide) (fun p _ => rfl), fun b p x y => ?_, fun p hp => ?_, fun p => ?_⟩
  · rw [gi_upG]
    by_cases c : b = 11
    · subst c
      rw [if_pos ⟨rfl, Nat.zero_le p, y rfl⟩, f.1 15 p (by decide), a2 p (y rfl)]
    · rw [if_neg (fun u => c u.1), f.1 b p c, a1 b p x y]
  · rw [gi_upG, if_neg (by omega), f.1 15 p (by decide), a2 p hp]
  · rw [gl_upG, f.2, a3]
theorem HM.aq {T0 T : Mem} {h : Nat} {kd fi ha : Nat → Nat} (H : HM T0 h kd fi ha) (f : AQ T0 T) : HM T h kd fi ha := by
  obtain ⟨h1, h2, h3⟩ := H
  refine ⟨by rw [f.1 0 12 (by omega) (by omega)]; exact h1, h2, fun i hi => ?_⟩
  rw [f.1 8 i (by omega) (by omega), f.1 9 i (by omega) (by omega), f.1 10 i (by omega) (by omega)]
  exact h3 i hi
theorem MM.aq {T0 T : Mem} {h dy qy : Nat} {jr : Nat → Nat} (M : MM T0 h 11 0 dy qy jr) (hh : h ≤ 7) (f : AQ T0 T) : MM T h 11 0 dy qy jr :=
  M.same hh (fun k hk => f.1 _ _ (by decide) (by omega))
theorem Rel.aq {S T T' : Mem} (R : Rel S T) (f : AQ T T') : Rel S T' :=
  ⟨R.1.keep ⟨fun _ _ _ => rfl, fun _ => rfl⟩ ⟨f.1 _ _ (by decide) (by omega), f.1 _ _ (by decide) (by omega), fun a p x y => f.1 a p (by omega) (by omega), f.2.2⟩, R.2.keep PFc.rf ⟨f.1 _ _ (by decide) (by omega), f.1 _ _ (by decide) (by omega), fun a p x y z => f.1 a p (by omega) z⟩⟩
theorem Rel.f164 {S S' T : Mem} (R : Rel S T) (f : FQ 164 S S') : Rel S' T :=
  ⟨R.1.keep ⟨fun a p x => f.1 a p (by omega) (by omega), f.2⟩ ⟨rfl, rfl, fun _ _ _ _ => rfl, fun _ => rfl⟩, R.2.keep (fun a p x => f.1 a p (by omega) (by omega)) PFm.rf⟩
theorem MM.cg {T : Mem} {h a b dy qy : Nat} {jr jr' : Nat → Nat} (M : MM T h a b dy qy jr) (e : ∀ i, i < h → jr i = jr' i) : MM T h a b dy qy jr' := ⟨M.1, M.2.1, fun i hi => by rw [← e i hi]; exact M.2.2 i hi⟩
theorem MC.cg {S : Mem} {h q dy qy : Nat} {jr jr' : Nat → Nat} (M : MC S h q dy qy jr) (e : ∀ i, i < h → jr i = jr' i) : MC S h q dy qy jr' := ⟨M.1, M.2.1, fun i hi => by rw [← e i hi]; exact M.2.2 i hi⟩
theorem day0 {fi jr : Nat → Nat} {i : Nat} (h : jr i ≤ 99) : dayJ fi 0 jr i = jr i := by
  unfold dayJ
  rw [Nat.zero_mul]
  omega
theorem dayS (fi jr : Nat → Nat) (n : Nat) : dayJ fi 1 (dayJ fi n jr) = dayJ fi (n + 1) jr := by
  funext i
  unfold dayJ
  rw [Nat.one_mul, Nat.succ_mul]
  omega
theorem day_le (fi jr : Nat → Nat) (n i : Nat) : dayJ fi n jr i ≤ 99 := Nat.min_le_left _ _
theorem m_goesOn2 {h dy qy k0 : Nat} {kd fi ha jr : Nat → Nat} (hk : k0 ≤ 1000) : ∀ (m k : Nat) (T : Mem), k0 - k < m → k ≤ k0 → HM T h kd fi ha → MM T h 11 0 (dy + k) qy (dayJ fi k jr) → ∃ T', f4_goesOn_b2 m T (nI k0) (nI k) = some T' ∧ FT T T' ∧ MM T' h 11 0 (dy + k0) qy (dayJ fi k0 jr) := by
  intro m
  induction m with
  | zero =>
    intro k T h1
    omega
  | succ m ih =>
    intro k T h1 h2 H M
    rw [f4_goesOn_b2]
    rcases Nat.lt_or_ge k k0 with u | u
    · have e : ¬ nI k0 ≤ nI k := by rw [n_le (by omega) (by omega)]; omega
      obtain ⟨T1, a1, a2, a3⟩ := m_goesBy H M (fun i _ => day_le fi jr k i)
      rw [dayS] at a3
      rw [if_neg e, a1, b1_at, nmE, nI_1]
      obtain ⟨T', b1', b2', b3'⟩ := ih (k + 1) T1 (by omega) (by omega) (H.ft a2) a3
      exact ⟨T', b1', a2.tr b2', b3'⟩
    · have e : k = k0 := by omega
      subst e
      rw [if_pos (Int32.le_refl _)]
      exact ⟨T, rfl, FT.rf, M⟩
theorem m_goesOn {T : Mem} {h dy qy k0 : Nat} {kd fi ha jr : Nat → Nat} (hk : k0 ≤ 1000) (H : HM T h kd fi ha) (M : MM T h 11 0 dy qy jr) (hj : ∀ i, i < h → jr i ≤ 99) : ∃ T', f4_goesOn T (nI k0) = some T' ∧ FT T T' ∧ MM T' h 11 0 (dy + k0) qy (dayJ fi k0 jr) :=
  m_goesOn2 hk FU 0 T (Nat.lt_of_le_of_lt (show k0 - 0 ≤ 1000 by omega) (by decide)) (Nat.zero_le _) H (M.cg (fun i hi => (day0 (hj i hi)).symm))
theorem p_later {S T : Mem} (R : Rel S T) (x y : Int32) : ∃ r S' T', f3_later S x y = some (r, S') ∧ f4_later T x y = some (r, T') ∧ Rel S' T' := by
  obtain ⟨Rb, h, kd, fi, ha, d, dy, qy, jr, P⟩ := id R
  obtain ⟨H1, H2, H3, H4, H5⟩ := id P
  obtain ⟨M1, O1⟩ := H4.2.2.1 d (Nat.le_refl d)
  have hd := H4.1
  have h7 := H1.2.1
  have o1 := O1.1
  have o2 := O1.2.1
  unfold f3_later f4_later
  simp only [c_isHouse H1, m_isHouse H2, b1_at, show (60 : Int64) = lN 60 from rfl, m_in0 y 60 (by decide)]
  by_cases hx : inb x h = true
  · simp only [if_pos hx, i10, if_false]
    obtain ⟨i, hi, rfl⟩ := inb_ex hx (by omega)
    rw [n_60, rng0_if y (show 60 < 2 ^ 31 by decide)]
    by_cases hy : inb y 61 = true
    · rw [if_pos hy, if_pos hy, if_neg (by decide)]
      obtain ⟨n, hn, rfl⟩ := inb_ex hy (by decide)
      have B := bcm_MC (q0 := 164) (by decide) (show 41 * 0 + d < 165 by omega) h7 M1
      have F := bcm_FQ (S := S) (q0 := 164) (q1 := 41 * 0 + d)
      obtain ⟨S1, a1, a2, a3⟩ := c_days (n := n) (by decide) (by omega) (H1.fq F) B O1.2.2
      obtain ⟨S2, b1', b2', b3'⟩ := c_share (by decide) (by omega) (by omega) (by omega) ((H1.fq F).fq a2) a3 (fun i _ => day_le fi (jr d) n i)
      obtain ⟨T1, c1, c2⟩ := m_asides T
      obtain ⟨T2, d1, d2, d3⟩ := m_goesOn (k0 := n) (by omega) (H2.aq c2) (H4.2.2.2.1.aq h7 c2) O1.2.2
      obtain ⟨T3, e1, e2, e3⟩ := m_springs (by omega) (by omega) (by omega) ((H2.aq c2).ft d2) d3 (fun i _ => day_le fi (jr d) n i)
      obtain ⟨T4, g1, g2⟩ := m_backs c2 (d2.tr e2)
      rw [c_now H4, b1_at, gd_t (dlt hd), c_become (by decide) (by omega), b1_at, a1, b1_at, gd_t (i7 h7 hi), ix_k (by omega), nmE, b1', b2_at, gd_t (i7 h7 hi), nmE, c1, b1_at, d1, b1_at, m_jar h7 d3 hi, b1_at, e1, b2_at, m_jar h7 e3 hi, b1_at, g1, b1_at, m_tells, b2_at, a3.2.2 i hi, b3'.2.2 i hi]
      exact ⟨_, _, _, rfl, rfl, ((R.f164 (F.tr (a2.tr b2'))).aq g2).told _⟩
    · rw [if_neg hy, if_neg hy, if_pos rfl]
      exact ⟨_, _, _, rfl, rfl, R⟩
  · simp only [if_neg hx, if_true]
    exact ⟨_, _, _, rfl, rfl, R⟩
theorem when_loop {S T0 T1 : Mem} {h i dy qy : Nat} {kd fi ha jr : Nat → Nat} (H1 : HC S h kd fi ha) (H2 : HM T0 h kd fi ha) (hi : i < h) (hj : ∀ i, i < h → jr i ≤ 99) (A : AQ T0 T1) : ∀ (m m' k : Nat) (T : Mem), 61 - k < m → 61 - k < m' → k ≤ 61 → FT T1 T → MM T h 11 0 (dy + k) qy (dayJ fi k jr) → ∃ r S' T', f3_when_b25 m S (nI i) (nI (jr i)) (nI k) = some (r, S') ∧ f4_when_b16 m' T (nI i) (nI k) = some (r, T') ∧ ((S' = S ∧ AQ T0 T') ∨ ∃ v T3, S' = ui S 0 9 v ∧ AQ T0 T3 ∧ T' = ui T3 0 2 v) := by
  intro m
  induction m with
  | zero =>
    intro m' k T h1
    omega
  | succ m ih =>
    intro m' k T h1 h2 h3 F M
    cases m' with
    | zero => omega
    | succ m' =>
      have h7 := H1.2.1
      have HT := (H2.aq A).ft F
      have kb := (H2.2.2 i hi).1.2
      have jl := day_le fi jr k i
      have w := m_worthNow HT M hi jl
      obtain ⟨T3, g1, g2⟩ := m_backs A F
      rw [f3_when_b25, f4_when_b16]
      unfold f4_when_b40
      rcases Nat.lt_or_ge k 61 with u | u
      · have e1 : ¬ (60 : Int32) < nI k := by rw [n_60, n_lt (by omega) (by omega)]; omega
        have e2 : ¬ (61 : Int32) ≤ nI k := by rw [n_61, n_le (by omega) (by omega)]; omega
        have eb : f0_jarBehind S (nI i) (nI (jr i)) (nI k) = some (nI (dayJ fi k jr i)) := c_behind H1 hi (hj i hi) (by omega)
        rw [if_neg e1, if_neg e2, eb, b1_at, c_off H1 hi (by omega), b1_at, m_off HT M hi jl, b1_at]
        by_cases c : 5 * ha i ≤ worthN (kd i) (dayJ fi k jr i)
        · rw [if_pos c, if_neg (by decide), if_neg (by decide), gd_t (i7 h7 hi), ix_k (by omega), (H1.2.2 i hi).1.1, c_worth _ kb _ (by omega), b1_at, nmE, w, b1_at, g1, b1_at, if_neg e2, m_tells, b2_at]
          exact ⟨_, _, _, rfl, rfl, Or.inr ⟨_, T3, rfl, g2, rfl⟩⟩
        · obtain ⟨T2, a1, a2, a3⟩ := m_goesBy HT M (fun i _ => day_le fi jr k i)
          rw [dayS] at a3
          rw [if_neg c, if_pos rfl, if_pos rfl, a1, b1_at, nmE, nmE, nI_1]
          exact ih m' (k + 1) T2 (by omega) (by omega) (by omega) (F.tr a2) a3
      · have e : k = 61 := by omega
        subst e
        rw [if_pos (by decide), if_pos (by decide), w, b1_at, g1, b1_at, if_pos (by decide)]
        exact ⟨_, _, _, rfl, rfl, Or.inl ⟨rfl, g2⟩⟩
theorem p_when {S T : Mem} (R : Rel S T) (x : Int32) : ∃ r S' T', f3_when S x = some (r, S') ∧ f4_when T x = some (r, T') ∧ Rel S' T' := by
  obtain ⟨Rb, h, kd, fi, ha, d, dy, qy, jr, P⟩ := id R
  obtain ⟨H1, H2, H3, H4, H5⟩ := id P
  obtain ⟨M1, O1⟩ := H4.2.2.1 d (Nat.le_refl d)
  have hd := H4.1
  have h7 := H1.2.1
  unfold f3_when f4_when
  simp only [c_isHouse H1, m_isHouse H2, b1_at]
  by_cases hx : inb x h = true
  · simp only [if_pos hx, i10, if_false]
    obtain ⟨i, hi, rfl⟩ := inb_ex hx (by omega)
    obtain ⟨T1, c1, c2⟩ := m_asides T
    obtain ⟨r, S', T', e1, e2, e3⟩ := when_loop (dy := dy d) (qy := qy d) H1 H2 hi O1.2.2 c2 FU FU 0 T1 (by decide) (by decide) (by decide) FT.rf ((H4.2.2.2.1.aq h7 c2).cg (fun i hi => (day0 (O1.2.2 i hi)).symm))
    have z0 : nI 0 = 0 := rfl
    rw [z0] at e1 e2
    rw [c_now H4, b1_at, gd_t (dlt hd), gd_t (i7 h7 hi), ix_k (by omega), M1.2.2 i hi, nmE, e1, c1, b1_at, e2]
    rcases e3 with ⟨rfl, a⟩ | ⟨v, T3, rfl, a, rfl⟩
    · exact ⟨_, _, _, rfl, rfl, R.aq a⟩
    · exact ⟨_, _, _, rfl, rfl, (R.aq a).told v⟩
  · simp only [if_neg hx, if_true]
    exact ⟨_, _, _, rfl, rfl, R⟩
