/-! MOMENTS: what goes by, what is brought, what is shared out; of both -/
/-- only the moment q has changed -/
def FQ (q : Nat) (S S' : Mem) : Prop := (∀ a p, a ≠ 30 + q → a ≠ 195 + q → gi S' a p = gi S a p) ∧ ∀ p, gl S' p = gl S p
/-- only the reference's now has changed -/
def FT (T T' : Mem) : Prop := (∀ a p, a ≠ 11 → gi T' a p = gi T a p) ∧ ∀ p, gl T' p = gl T p
theorem FQ.rf {q : Nat} {S : Mem} : FQ q S S := ⟨fun _ _ _ _ => rfl, fun _ => rfl⟩
theorem FQ.tr {q : Nat} {S S1 S2 : Mem} (h : FQ q S S1) (h2 : FQ q S1 S2) : FQ q S S2 := ⟨fun a p x y => (h2.1 a p x y).trans (h.1 a p x y), fun p => (h2.2 p).trans (h.2 p)⟩
theorem FQ.u {q : Nat} {S S' : Mem} (h : FQ q S S') {a : Nat} (j : Nat) (v : Int32) (ha : a = 30 + q ∨ a = 195 + q) : FQ q S (ui S' a j v) := ⟨fun b p x y => by
  rw [gi_ui, if_neg (by omega)]
  exact h.1 b p x y, h.2⟩
theorem FQ.cp {q : Nat} {S S' : Mem} (h : FQ q S S') (a i j n : Nat) : FQ q S (ucp S' a i (195 + q) j n) := ⟨fun b p x y => by
  rw [gi_ucp, if_neg (by omega)]
  exact h.1 b p x y, h.2⟩
theorem FT.rf {T : Mem} : FT T T := ⟨fun _ _ _ => rfl, fun _ => rfl⟩
theorem FT.tr {T T1 T2 : Mem} (h : FT T T1) (h2 : FT T1 T2) : FT T T2 := ⟨fun a p x => (h2.1 a p x).trans (h.1 a p x), fun p => (h2.2 p).trans (h.2 p)⟩
theorem FT.u {T T' : Mem} (h : FT T T') (j : Nat) (v : Int32) : FT T (ui T' 11 j v) := ⟨fun b p x => by
  rw [gi_ui, if_neg (by omega)]
  exact h.1 b p x, h.2⟩
theorem HC.fq {S S' : Mem} {h q : Nat} {kd fi ha : Nat → Nat} (H : HC S h kd fi ha) (f : FQ q S S') : HC S' h kd fi ha := by
  obtain ⟨h1, h2, h3⟩ := H
  refine ⟨by rw [f.1 15 3 (by omega) (by omega)]; exact h1, h2, fun i hi => ?_⟩
  rw [f.1 16 i (by omega) (by omega), f.1 17 i (by omega) (by omega), f.1 18 i (by omega) (by omega)]
  exact h3 i hi
theorem HM.ft {T T' : Mem} {h : Nat} {kd fi ha : Nat → Nat} (H : HM T h kd fi ha) (f : FT T T') : HM T' h kd fi ha := by
  obtain ⟨h1, h2, h3⟩ := H
  refine ⟨by rw [f.1 0 12 (by omega)]; exact h1, h2, fun i hi => ?_⟩
  rw [f.1 8 i (by omega), f.1 9 i (by omega), f.1 10 i (by omega)]
  exact h3 i hi
/-! one moment comes to stand as another -/
def bcm (S : Mem) (q0 q1 : Nat) : Mem := ui (ui (ucp S (195 + q1) 0 (195 + q0) 0 7) (30 + q0) 1 (gi S (30 + q1) 1)) (30 + q0) 2 (gi S (30 + q1) 2)
theorem c_become {S : Mem} {q0 q1 : Nat} (h0 : q0 < 165) (h1 : q1 < 165) : f1_become S q0 q1 = some (bcm S q0 q1) := by
  unfold f1_become bcm
  rw [gd_t (by decide), nmE, nmE, nmE]
  have e1 : gi (ucp S (195 + q1) (ix 0) (195 + q0) (ix 0) (ix 7)) (30 + q1) 1 = gi S (30 + q1) 1 := by rw [gi_ucp, if_neg (by omega)]
  have e2 (v : Int32) : gi (ui (ucp S (195 + q1) (ix 0) (195 + q0) (ix 0) (ix 7)) (30 + q0) 1 v) (30 + q1) 2 = gi S (30 + q1) 2 := by rw [gi_ui, if_neg (by omega), gi_ucp, if_neg (by omega)]
  rw [e1, e2]
  rfl
theorem bcm_FQ {S : Mem} {q0 q1 : Nat} : FQ q0 S (bcm S q0 q1) := ((FQ.rf.cp _ _ _ _).u _ _ (Or.inl rfl)).u _ _ (Or.inl rfl)
theorem bcm_MC {S : Mem} {h q0 q1 dy qy : Nat} {jr : Nat → Nat} (h0 : q0 < 165) (h1 : q1 < 165) (hh : h ≤ 7) (M : MC S h q1 dy qy jr) : MC (bcm S q0 q1) h q0 dy qy jr := by
  obtain ⟨m1, m2, m3⟩ := M
  unfold bcm
  refine ⟨?_, ?_, fun i hi => ?_⟩
  · rw [gi_ui, if_neg (by omega), gi_ui, if_pos ⟨rfl, rfl⟩]
    exact m1
  · rw [gi_ui, if_pos ⟨rfl, rfl⟩]
    exact m2
  · rw [gi_ui, if_neg (by omega), gi_ui, if_neg (by omega), gi_ucp, if_pos ⟨rfl, by omega, by omega⟩, Nat.sub_zero, Nat.zero_add]
    exact m3 i hi
/-! days -/
def dayJ (fi : Nat → Nat) (n : Nat) (jr : Nat → Nat) (i : Nat) : Nat := min 99 (jr i + n * fi i)
theorem c_behind {S : Mem} {h i j n : Nat} {kd fi ha : Nat → Nat} (H : HC S h kd fi ha) (hi : i < h) (hj : j ≤ 99) (hn : n ≤ 60) : f0_jarBehind S (nI i) (nI j) (nI n) = some (nI (min 99 (j + n * fi i))) := by
  obtain ⟨h1, h2, h3⟩ := H
  obtain ⟨-, ⟨b1, b2⟩, -⟩ := h3 i hi
  unfold f0_jarBehind
  have e : n * fi i ≤ 60 * 9 := Nat.mul_le_mul hn b2
  have e2 : mn (nI 99) (nI (j + n * fi i)) = _ := mn_n (by decide) (by omega)
  rw [gd_t (i7 h2 hi), ix_k (by omega), b1, pk_mul, nI_add, n_99, e2]
/-- jars up to i have been filled up -/
def dayU (fi : Nat → Nat) (n : Nat) (jr : Nat → Nat) (k : Nat) (i : Nat) : Nat := if i < k then dayJ fi n jr i else jr i
theorem c_days2 {h q dy qy n : Nat} {kd fi ha jr : Nat → Nat} (hq : q < 165) (hn : n ≤ 60) (hj : ∀ i, i < h → jr i ≤ 99) : ∀ (m i : Nat) (S : Mem), h - i < m → i ≤ h → HC S h kd fi ha → MC S h q dy qy (dayU fi n jr i) → ∃ S', f1_passDays_b2 m S q (nI n) (nI i) = some S' ∧ FQ q S S' ∧ MC S' h q (dy + n) qy (dayJ fi n jr) := by
  intro m
  induction m with
  | zero =>
    intro i S h1
    omega
  | succ m ih =>
    intro i S h1 h2 H M
    have h7 := H.2.1
    rw [f1_passDays_b2, H.1]
    rcases Nat.lt_or_ge i h with u | u
    · have e : ¬ nI h ≤ nI i := by rw [n_le (by omega) (by omega)]; omega
      have ej : gi S (195 + q) i = nI (jr i) := by
        have := M.2.2 i u
        unfold dayU at this
        rw [if_neg (Nat.lt_irrefl i)] at this
        exact this
      rw [if_neg e, gd_t (i7 h7 u), ix_k (by omega), ej, c_behind H u (hj i u) hn, b1_at, gd_t (i7 h7 u), nmE, nmE, nI_1]
      obtain ⟨S', a, b, c⟩ := ih (i + 1) (ui S (195 + q) i (nI (min 99 (jr i + n * fi i)))) (by omega) (by omega) (H.fq (FQ.rf.u _ _ (Or.inr rfl))) ⟨by rw [gi_ui, if_neg (by omega)]; exact M.1, by rw [gi_ui, if_neg (by omega)]; exact M.2.1, fun p hp => by
        have := M.2.2 p hp
        unfold dayU at this ⊢
        rw [gi_ui]
        by_cases c : p = i
        · subst c
          rw [if_pos ⟨rfl, rfl⟩, if_pos (Nat.lt_succ_self p)]
          rfl
        · rw [if_neg (fun u => c u.2), this]
          by_cases d : p < i
          · rw [if_pos d, if_pos (by omega)]
          · rw [if_neg d, if_neg (by omega)]⟩
      exact ⟨S', a, (FQ.rf.u _ _ (Or.inr rfl)).tr b, c⟩
    · have e : i = h := by omega
      subst e
      rw [if_pos (Int32.le_refl _), nmE, M.1, nI_add]
      refine ⟨_, rfl, FQ.rf.u _ _ (Or.inl rfl), ?_, ?_, fun p hp => ?_⟩
      · rw [gi_ui, if_pos ⟨rfl, rfl⟩]
      · rw [gi_ui, if_neg (by omega)]
        exact M.2.1
      · rw [gi_ui, if_neg (by omega), M.2.2 p hp]
        unfold dayU
        rw [if_pos hp]
theorem c_days {S : Mem} {h q dy qy n : Nat} {kd fi ha jr : Nat → Nat} (hq : q < 165) (hn : n ≤ 60) (H : HC S h kd fi ha) (M : MC S h q dy qy jr) (hj : ∀ i, i < h → jr i ≤ 99) : ∃ S', f1_passDays S q (nI n) = some S' ∧ FQ q S S' ∧ MC S' h q (dy + n) qy (dayJ fi n jr) :=
  c_days2 hq hn hj FU 0 S (Nat.lt_of_le_of_lt (show h - 0 ≤ 7 from H.2.1) (by decide)) (Nat.zero_le _) H M
theorem m_goes2 {h dy qy : Nat} {kd fi ha jr : Nat → Nat} (hj : ∀ i, i < h → jr i ≤ 99) : ∀ (m i : Nat) (T : Mem), h - i < m → i ≤ h → HM T h kd fi ha → MM T h 11 0 dy qy (dayU fi 1 jr i) → ∃ T', f4_goesBy_b2 m T (nI i) = some T' ∧ FT T T' ∧ MM T' h 11 0 (dy + 1) qy (dayJ fi 1 jr) := by
  intro m
  induction m with
  | zero =>
    intro i S h1
    omega
  | succ m ih =>
    intro i T h1 h2 H M
    have h7 := H.2.1
    rw [f4_goesBy_b2, H.1]
    unfold f4_goesBy_b42
    rcases Nat.lt_or_ge i h with u | u
    · have e : ¬ nI h ≤ nI i := by rw [n_le (by omega) (by omega)]; omega
      obtain ⟨-, ⟨b1', b2'⟩, -⟩ := H.2.2 i u
      have hji := hj i u
      have ej : dayU fi 1 jr i i = jr i := if_neg (Nat.lt_irrefl i)
      have g9 : inb (nI (2 + i)) 9 = true := inb_nI (by omega) (by decide)
      have go : ∃ T', f4_goesBy_b2 m (ui T 11 (2 + i) (nI (dayJ fi 1 jr i))) (nI (i + 1)) = some T' ∧ FT T T' ∧ MM T' h 11 0 (dy + 1) qy (dayJ fi 1 jr) := by
        obtain ⟨T', a, b, c⟩ := ih (i + 1) (ui T 11 (2 + i) (nI (dayJ fi 1 jr i))) (by omega) (by omega) (H.ft (FT.rf.u _ _)) ⟨by rw [gi_ui, if_neg (by omega)]; exact M.1, by rw [gi_ui, if_neg (by omega)]; exact M.2.1, fun p hp => by
          have := M.2.2 p hp
          unfold dayU at this ⊢
          rw [gi_ui]
          by_cases c : p = i
          · subst c
            rw [if_pos (by omega), if_pos (Nat.lt_succ_self p)]
          · rw [if_neg (by omega), this]
            by_cases d : p < i
            · rw [if_pos d, if_pos (by omega)]
            · rw [if_neg d, if_neg (by omega)]⟩
        exact ⟨T', a, (FT.rf.u _ _).tr b, c⟩
      rw [if_neg e, m_jar h7 M u, ej, b1_at, gd_t (i7 h7 u), ix_k (by omega), b1', nI_add, nmE, n_2, nI_add]
      have ed : dayJ fi 1 jr i = min 99 (jr i + fi i) := by
        unfold dayJ
        rw [Nat.one_mul]
      by_cases c : jr i + fi i ≤ 99
      · have e2 : nI (jr i + fi i) ≤ 99 := by rw [n_99, n_le (by omega) (by omega)]; exact c
        rw [Nat.min_eq_right c] at ed
        rw [if_pos e2, gd_t g9, ix_k (by omega), nmE, nmE, nI_1, ← ed]
        exact go
      · have e2 : ¬ nI (jr i + fi i) ≤ 99 := by rw [n_99, n_le (by omega) (by omega)]; exact c
        rw [Nat.min_eq_left (by omega)] at ed
        rw [if_neg e2, gd_t g9, ix_k (by omega), nmE, nmE, nI_1, n_99, ← ed]
        exact go
    · have e : i = h := by omega
      subst e
      have m0 : gi T 11 (ix 0) = nI dy := M.1
      rw [if_pos (Int32.le_refl _), gd_t (show inb 0 9 = true from rfl), gd_t (show inb 0 9 = true from rfl), nmE, m0, nI_1]
      refine ⟨_, rfl, FT.rf.u _ _, ?_, ?_, fun p hp => ?_⟩
      · rw [gi_ui, if_pos ⟨rfl, rfl⟩]
      · rw [gi_ui, if_neg (by show ¬ (11 = 11 ∧ 0 + 1 = 0); omega)]
        exact M.2.1
      · rw [gi_ui, if_neg (by show ¬ (11 = 11 ∧ 0 + 2 + p = 0); omega), M.2.2 p hp]
        unfold dayU
        rw [if_pos hp]
theorem m_goesBy {T : Mem} {h dy qy : Nat} {kd fi ha jr : Nat → Nat} (H : HM T h kd fi ha) (M : MM T h 11 0 dy qy jr) (hj : ∀ i, i < h → jr i ≤ 99) : ∃ T', f4_goesBy T = some T' ∧ FT T T' ∧ MM T' h 11 0 (dy + 1) qy (dayJ fi 1 jr) :=
  m_goes2 hj FU 0 T (Nat.lt_of_le_of_lt (show h - 0 ≤ 7 from H.2.1) (by decide)) (Nat.zero_le _) H M
