/-! DUEL: small whole numbers, below 0 too -/
def zI (x : Int) : Int32 := Int32.ofInt x
theorem zI_T {x : Int} (h1 : -100000 ≤ x) (h2 : x ≤ 100000) : (zI x).toInt = x := Int32.toInt_ofInt_of_le (by omega) (by omega)
theorem zI_n (n : Nat) : zI (n : Int) = nI n := Int32.ofInt_eq_ofNat
theorem zI_sub (a b : Nat) : nI a - nI b = zI ((a : Int) - (b : Int)) := by
  rw [← zI_n, ← zI_n]
  exact (Int32.ofInt_sub _ _).symm
theorem zI_neg (x : Int) : -zI x = zI (-x) := (Int32.ofInt_neg x).symm
def smI (x : Int) : Prop := -204 ≤ x ∧ x ≤ 204
theorem z_le {x y : Int} (hx : smI x) (hy : smI y) : (zI x ≤ zI y) = (x ≤ y) := by
  unfold smI at hx hy
  apply propext
  rw [i_le, zI_T (by omega) (by omega), zI_T (by omega) (by omega)]
theorem z_lt {x y : Int} (hx : smI x) (hy : smI y) : (zI x < zI y) = (x < y) := by
  unfold smI at hx hy
  apply propext
  rw [i_lt, zI_T (by omega) (by omega), zI_T (by omega) (by omega)]
theorem smI.neg {x : Int} (h : smI x) : smI (-x) := by
  unfold smI at *
  omega
theorem smI.mx {x y : Int} (h : smI x) (k : smI y) : smI (max x y) := by
  unfold smI at *
  omega
theorem smI.mn {x y : Int} (h : smI x) (k : smI y) : smI (min x y) := by
  unfold smI at *
  omega
theorem mx_z {x y : Int} (h : smI x) (k : smI y) : mx (zI x) (zI y) = zI (max x y) := by
  unfold mx
  simp only [z_lt h k]
  split
  · rw [Int.max_eq_right (by omega)]
  · rw [Int.max_eq_left (by omega)]
theorem hi_z {x y : Int} (h : smI x) (k : smI y) : (if zI x ≤ zI y then zI y else zI x) = zI (max x y) := by
  simp only [z_le h k]
  split
  · rw [Int.max_eq_right (by omega)]
  · rw [Int.max_eq_left (by omega)]
theorem lo_z {x y : Int} (h : smI x) (k : smI y) : (if zI y ≤ zI x then zI y else zI x) = zI (min x y) := by
  simp only [z_le k h]
  split
  · rw [Int.min_eq_right (by omega)]
  · rw [Int.min_eq_left (by omega)]
/-! the class: what one leads by -/
def tkN (q a : Nat) : Nat := min 9 (min q (99 - a))
def lvN (a : Nat) : Nat := min 9 a
theorem tk_b (q a : Nat) : tkN q a ≤ 9 ∧ tkN q a ≤ q ∧ tkN q a ≤ 99 - a := by
  unfold tkN
  omega
theorem lv_b (a : Nat) : lvN a ≤ 9 ∧ lvN a ≤ a := by
  unfold lvN
  omega
theorem c_taken {q a : Nat} (ha : a ≤ 99) (hq : q < 2 ^ 31) : f3_takenByTurn (nI a) (nI q) = some (nI (tkN q a)) := by
  unfold f3_takenByTurn
  rw [n_9, n_99, pk_sub ha, mn_n hq (by omega), mn_n (by decide) (by omega)]
  rfl
theorem c_left {a : Nat} (ha : a ≤ 99) : f3_leftByTurn (nI a) = some (nI (lvN a)) := by
  unfold f3_leftByTurn
  rw [n_9, mn_n (by decide) (by omega)]
  rfl
def ldN : Nat → Nat → Nat → Nat → Nat → Nat → Int
  | 0, k, a, k2, b, _ => (worthN k a : Int) - (worthN k2 b : Int)
  | n + 1, k, a, k2, b, q => max (max (-(ldN n k2 b k a q)) (-(ldN n k2 b k (a + tkN q a) (q - tkN q a)))) (-(ldN n k2 b k (a - lvN a) (q + lvN a)))
theorem ld_sm : ∀ (n k a k2 b q : Nat), k < 6 → k2 < 6 → a ≤ 99 → b ≤ 99 → smI (ldN n k a k2 b q)
  | 0, k, a, k2, b, q, h1, h2, h3, h4 => by
    have w1 := worth_le k h1 a (by omega)
    have w2 := worth_le k2 h2 b (by omega)
    unfold smI ldN
    omega
  | n + 1, k, a, k2, b, q, h1, h2, h3, h4 => by
    have t := tk_b q a
    rw [ldN]
    exact (((ld_sm n k2 b k a q h2 h1 h4 h3).neg).mx ((ld_sm n k2 b k _ _ h2 h1 h4 (by omega)).neg)).mx ((ld_sm n k2 b k _ _ h2 h1 h4 (by omega)).neg)
theorem c_lead : ∀ (n0 m k a k2 b q : Nat), m < n0 → k < 6 → k2 < 6 → a ≤ 99 → b ≤ 99 → m ≤ 100 → q + 9 * m ≤ 100000 → f3_lead n0 (nI k) (nI a) (nI k2) (nI b) (nI q) (nI m) = some (zI (ldN m k a k2 b q)) := by
  intro n0
  induction n0 with
  | zero =>
    intro m k a k2 b q h
    omega
  | succ n0 ih =>
    intro m k a k2 b q h h1 h2 h3 h4 h5 h6
    rw [f3_lead]
    cases m with
    | zero =>
      rw [if_neg (by decide), c_worth k h1 a (by omega), b1_at, c_worth k2 h2 b (by omega), b1_at, zI_sub, ldN]
    | succ m =>
      have e : (0 : Int32) < nI (m + 1) := by rw [n_0, n_lt (by decide) (by omega)]; omega
      have em : nI (m + 1) - 1 = nI m := by
        rw [n_1, pk_sub (by omega), Nat.add_sub_cancel]
      have t := tk_b q a
      have l := lv_b a
      have s1 := ld_sm m k2 b k a q h2 h1 h4 h3
      have s2 := ld_sm m k2 b k (a + tkN q a) (q - tkN q a) h2 h1 h4 (by omega)
      have s3 := ld_sm m k2 b k (a - lvN a) (q + lvN a) h2 h1 h4 (by omega)
      rw [if_pos e, c_taken h3 (by omega), b1_at, c_left h3, b1_at, em, ih m k2 b k a q (by omega) h2 h1 h4 h3 (by omega) (by omega), b1_at, nmE, nI_add, pk_sub t.2.1, ih m k2 b k _ _ (by omega) h2 h1 h4 (by omega) (by omega) (by omega), b1_at, nmE, pk_sub l.2, nI_add, ih m k2 b k _ _ (by omega) h2 h1 h4 (by omega) (by omega) (by omega), b1_at, zI_neg, zI_neg, zI_neg, mx_z s1.neg s2.neg, mx_z (s1.neg.mx s2.neg) s3.neg, ldN]
/-! the ways through -/
def whN (i j t : Nat) : Nat := if t % 2 = 0 then i else j
def mvN (c k : Nat) (s : (Nat → Nat) × Nat) : (Nat → Nat) × Nat := if c = 0 then (st s.1 k (s.1 k + tkN s.2 (s.1 k)), s.2 - tkN s.2 (s.1 k)) else if c = 1 then (st s.1 k (s.1 k - lvN (s.1 k)), s.2 + lvN (s.1 k)) else s
def wyN (i j : Nat) (s0 : (Nat → Nat) × Nat) : Nat → Nat → (Nat → Nat) × Nat
  | 0, _ => s0
  | t + 1, w => mvN (w % 3) (whN i j t) (wyN i j s0 t (w / 3))
def pkI (t : Nat) (a b c : Int) : Int := if t % 2 = 0 then max (max a b) c else min (min a b) c
def vlN (kd : Nat → Nat) (i j : Nat) : Nat → Nat → (Nat → Nat) × Nat → Int
  | 0, _, s => (worthN (kd i) (s.1 i) : Int) - (worthN (kd j) (s.1 j) : Int)
  | r + 1, t, s => pkI t (vlN kd i j r (t + 1) (mvN 0 (whN i j t) s)) (vlN kd i j r (t + 1) (mvN 1 (whN i j t) s)) (vlN kd i j r (t + 1) (mvN 2 (whN i j t) s))
theorem st_same {α : Type} (f : Nat → α) (d : Nat) (x : α) : st f d x d = x := if_pos rfl
theorem st_else {α : Type} (f : Nat → α) {d e : Nat} (x : α) (h : ¬ e = d) : st f d x e = f e := if_neg h
theorem vl_ld {kd : Nat → Nat} {i j : Nat} (h : ¬ i = j) : ∀ (r t : Nat) (s : (Nat → Nat) × Nat), vlN kd i j r t s = if t % 2 = 0 then ldN r (kd i) (s.1 i) (kd j) (s.1 j) s.2 else -(ldN r (kd j) (s.1 j) (kd i) (s.1 i) s.2)
  | 0, t, s => by
    rw [vlN, ldN, ldN]
    split <;> omega
  | r + 1, t, s => by
    have h2 : ¬ j = i := fun q => h q.symm
    have m0 (k : Nat) : mvN 0 k s = (st s.1 k (s.1 k + tkN s.2 (s.1 k)), s.2 - tkN s.2 (s.1 k)) := rfl
    have m1 (k : Nat) : mvN 1 k s = (st s.1 k (s.1 k - lvN (s.1 k)), s.2 + lvN (s.1 k)) := rfl
    have m2 (k : Nat) : mvN 2 k s = s := rfl
    rw [vlN, vl_ld h r, vl_ld h r, vl_ld h r, m0, m1, m2]
    unfold pkI whN
    by_cases c : t % 2 = 0
    · have c2 : ¬ (t + 1) % 2 = 0 := by omega
      simp only [if_pos c, if_neg c2, st_same, st_else _ _ h2]
      rw [ldN]
      omega
    · have c2 : (t + 1) % 2 = 0 := by omega
      simp only [if_neg c, if_pos c2, st_same, st_else _ _ h]
      rw [ldN]
      omega
theorem vl_sm {kd : Nat → Nat} {i j r t : Nat} {s : (Nat → Nat) × Nat} (h : ¬ i = j) (h1 : kd i < 6) (h2 : kd j < 6) (h3 : s.1 i ≤ 99) (h4 : s.1 j ≤ 99) : smI (vlN kd i j r t s) := by
  rw [vl_ld h]
  split
  · exact ld_sm _ _ _ _ _ _ h1 h2 h3 h4
  · exact (ld_sm _ _ _ _ _ _ h2 h1 h4 h3).neg
def okS (h Q : Nat) (s : (Nat → Nat) × Nat) : Prop := (∀ k, k < h → s.1 k ≤ 99) ∧ s.2 ≤ Q
theorem okS.mv {h Q : Nat} {s : (Nat → Nat) × Nat} (o : okS h Q s) {c k : Nat} (hk : k < h) : okS h (Q + 9) (mvN c k s) := by
  obtain ⟨o1, o2⟩ := o
  have t := tk_b s.2 (s.1 k)
  have l := lv_b (s.1 k)
  have ok := o1 k hk
  unfold mvN
  split
  · refine ⟨fun p hp => ?_, by show s.2 - _ ≤ _; omega⟩
    have := o1 p hp
    show st s.1 k _ p ≤ 99
    unfold st
    split <;> omega
  · split
    · refine ⟨fun p hp => ?_, by show s.2 + _ ≤ _; omega⟩
      have := o1 p hp
      show st s.1 k _ p ≤ 99
      unfold st
      split <;> omega
    · exact ⟨o1, by omega⟩
theorem wy_ok {h Q i j : Nat} {s0 : (Nat → Nat) × Nat} (o : okS h Q s0) (hi : i < h) (hj : j < h) : ∀ (t w : Nat), okS h (Q + 9 * t) (wyN i j s0 t w)
  | 0, _ => o
  | t + 1, w => by
    have hw : whN i j t < h := by
      unfold whN
      split
      · exact hi
      · exact hj
    have := (wy_ok o hi hj t (w / 3)).mv (c := w % 3) hw
    rw [wyN]
    rw [show Q + 9 * (t + 1) = Q + 9 * t + 9 by omega]
    exact this
/-! the reference: one turn -/
theorem m_take9 {T : Mem} {h dy k Q : Nat} {s : (Nat → Nat) × Nat} (h7 : h ≤ 7) (hk : k < h) (hQ : Q < 100000) (o : okS h Q s) (M : MM T h 11 0 dy s.2 s.1) : ∃ T', f4_takesNine T (nI k) = some T' ∧ FT T T' ∧ MM T' h 11 0 dy (mvN 0 k s).2 (mvN 0 k s).1 := by
  obtain ⟨o1, o2⟩ := o
  have ok := o1 k hk
  have t := tk_b s.2 (s.1 k)
  have m1 : gi T 11 (ix 1) = nI s.2 := M.2.1
  have g1 : inb 1 9 = true := rfl
  have r := m_leaves (x := -nI (tkN s.2 (s.1 k))) h7 hk (sub_neg _ _) (add_neg t.2.1) M
  obtain ⟨T', a1, a2, a3⟩ := r
  refine ⟨T', ?_, a2, a3⟩
  have e (z : Nat) (hz : z ≤ 100000) (hm : min z (99 - s.1 k) = tkN s.2 (s.1 k)) : f4_takesNine_b22 T (nI k) (nI z) = some T' := by
    unfold f4_takesNine_b22 f4_takesNine_b47
    rw [m_jar h7 M hk, b1_at, nI_add, n_99]
    simp only [n_le (show s.1 k + z < 2 ^ 31 by omega) (show 99 < 2 ^ 31 by decide)]
    by_cases c : s.1 k + z ≤ 99
    · have em : tkN s.2 (s.1 k) = z := by omega
      rw [em] at a1
      rw [if_pos c, a1, b1_at]
    · have em : tkN s.2 (s.1 k) = 99 - s.1 k := by omega
      rw [em] at a1
      rw [if_neg c, b1_at, pk_sub ok, a1, b1_at]
  unfold f4_takesNine
  rw [gd_t g1, m1, gd_t g1, n_9]
  simp only [n_le (show 9 < 2 ^ 31 by decide) (show s.2 < 2 ^ 31 by omega)]
  by_cases c : 9 ≤ s.2
  · rw [if_pos c]
    exact e 9 (by decide) (by unfold tkN; omega)
  · rw [if_neg c]
    exact e s.2 (by omega) (by unfold tkN; omega)
theorem m_leave9 {T : Mem} {h dy k Q : Nat} {s : (Nat → Nat) × Nat} (h7 : h ≤ 7) (hk : k < h) (o : okS h Q s) (M : MM T h 11 0 dy s.2 s.1) : ∃ T', f4_leavesNine T (nI k) = some T' ∧ FT T T' ∧ MM T' h 11 0 dy (mvN 1 k s).2 (mvN 1 k s).1 := by
  obtain ⟨o1, o2⟩ := o
  have ok := o1 k hk
  have l := lv_b (s.1 k)
  obtain ⟨T', a1, a2, a3⟩ := m_leaves (x := nI (lvN (s.1 k))) h7 hk (pk_sub l.2) (nI_add _ _) M
  refine ⟨T', ?_, a2, a3⟩
  unfold f4_leavesNine f4_leavesNine_b22
  rw [m_jar h7 M hk, b1_at, n_9]
  simp only [n_le (show 9 < 2 ^ 31 by decide) (show s.1 k < 2 ^ 31 by omega)]
  by_cases c : 9 ≤ s.1 k
  · have em : lvN (s.1 k) = 9 := by unfold lvN; omega
    rw [em] at a1
    rw [if_pos c, a1, b1_at]
  · have em : lvN (s.1 k) = s.1 k := by unfold lvN; omega
    rw [em] at a1
    rw [if_neg c, b1_at, a1, b1_at]
theorem mod3 {d : Nat} (h : d < 2 ^ 31) : nI d - nI d / 3 * 3 = nI (d % 3) := by
  rw [n_3]
  exact pk_rem h (by decide) (by decide)
theorem m_du104 {T : Mem} {h dy k Q w u t : Nat} {s : (Nat → Nat) × Nat} (k66 : Mem → Int32 → Int32 → Int32 → Int32 → Int32 → Option (Int32 × Mem)) (k80 : Mem → Int32 → Int32 → Int32 → Int32 → Int32 → Int32 → Int32 → Option (Int32 × Mem)) (x1 x2 x3 x4 : Int32) (h7 : h ≤ 7) (hk : k < h) (hQ : Q < 100000) (hw : w < 2 ^ 31) (hu : u < 2 ^ 31) (hu0 : 0 < u) (o : okS h Q s) (M : MM T h 11 0 dy s.2 s.1) : ∃ T', FT T T' ∧ MM T' h 11 0 dy (mvN (w / u % 3) k s).2 (mvN (w / u % 3) k s).1 ∧ f4_duel_b104 k66 k80 T x1 x2 x3 x4 (nI w) (nI u) (nI t) (nI k) = k80 T' x1 x2 x3 x4 (nI w) (nI u) (nI (t + 1)) := by
  have ne : ¬ nI u = 0 := nI_ne0 (by omega) hu
  have q1 : w / u < 2 ^ 31 := Nat.lt_of_le_of_lt (Nat.div_le_self w u) hw
  unfold f4_duel_b104 f4_duel_b141
  rw [gd_t (decide_eq_true ne), pk_div hw hu0 hu, mod3 q1, nmE]
  rcases (show w / u % 3 = 0 ∨ w / u % 3 = 1 ∨ w / u % 3 = 2 by omega) with e | e | e
  · obtain ⟨T', a1, a2, a3⟩ := m_take9 h7 hk hQ o M
    rw [e, if_pos (show nI 0 = 0 from rfl), a1, b1_at, nmE, nI_1]
    exact ⟨T', a2, a3, rfl⟩
  · obtain ⟨T', a1, a2, a3⟩ := m_leave9 h7 hk o M
    rw [e, if_neg (show ¬ nI 1 = 0 by decide), if_pos (show nI 1 = 1 from rfl), a1, b1_at, nmE, nI_1]
    exact ⟨T', a2, a3, rfl⟩
  · rw [e, if_neg (show ¬ nI 2 = 0 by decide), if_neg (show ¬ nI 2 = 1 by decide), nmE, nI_1]
    exact ⟨T, FT.rf, M, rfl⟩
def duEnd (k66 : Mem → Int32 → Int32 → Int32 → Int32 → Int32 → Option (Int32 × Mem)) (S : Mem) (x1 x2 x3 x4 x5 : Int32) : Option (Int32 × Mem) :=
  b1 (f4_worthNow S x1) fun v3 => b1 (f4_worthNow S x2) fun v5 => gd (inb x5 729) <| nm (ui S 16 (ix x5) (v3 - v5)) fun S7 => b1 (f4_backs S7) fun S9 => nm (x5 + 1 : Int32) fun v10 => k66 S9 x1 x2 x3 x4 v10
theorem pow3 {n : Nat} (h : n ≤ 6) : 3 ^ n ≤ 729 ∧ 0 < 3 ^ n := ⟨Nat.pow_le_pow_right (by decide) h, Nat.pow_pos (by decide)⟩
theorem m_du80 {h dy i j n w all Q : Nat} {s0 : (Nat → Nat) × Nat} (k66 : Mem → Int32 → Int32 → Int32 → Int32 → Int32 → Option (Int32 × Mem)) (h7 : h ≤ 7) (hi : i < h) (hj : j < h) (hn : n ≤ 6) (hQ : Q < 90000) (hw : w < 2 ^ 31) (o : okS h Q s0) : ∀ (m t : Nat) (T : Mem), n - t < m → t ≤ n → MM T h 11 0 dy (wyN i j s0 t (w / 3 ^ (n - t))).2 (wyN i j s0 t (w / 3 ^ (n - t))).1 → ∃ T2, FT T T2 ∧ MM T2 h 11 0 dy (wyN i j s0 n w).2 (wyN i j s0 n w).1 ∧ f4_duel_b80 k66 m T (nI i) (nI j) (nI n) (nI all) (nI w) (nI (3 ^ (n - t))) (nI t) = duEnd k66 T2 (nI i) (nI j) (nI n) (nI all) (nI w) := by
  intro m
  induction m with
  | zero =>
    intro t T h1
    omega
  | succ m ih =>
    intro t T h1 h2 M
    rw [f4_duel_b80]
    rcases Nat.lt_or_ge t n with u | u
    · have e : ¬ nI n ≤ nI t := by rw [n_le (by omega) (by omega)]; omega
      have p1 := pow3 (show n - (t + 1) ≤ 6 by omega)
      have p2 := pow3 (show n - t ≤ 6 by omega)
      have pe : 3 ^ (n - t) = 3 ^ (n - (t + 1)) * 3 := by
        rw [show n - t = (n - (t + 1)) + 1 by omega, Nat.pow_succ]
      have d1 : 3 ^ (n - t) / 3 = 3 ^ (n - (t + 1)) := by
        rw [pe, Nat.mul_div_cancel _ (by decide)]
      have d2 : w / 3 ^ (n - t) = w / 3 ^ (n - (t + 1)) / 3 := by
        rw [pe, Nat.div_div_eq_div_mul]
      have hk : whN i j t < h := by
        unfold whN
        split
        · exact hi
        · exact hj
      rw [d2] at M
      obtain ⟨T1, a1, a2, a3⟩ := m_du104 (t := t) k66 (f4_duel_b80 k66 m) (nI i) (nI j) (nI n) (nI all) h7 hk (show Q + 9 * t < 100000 by omega) hw (show 3 ^ (n - (t + 1)) < 2 ^ 31 by omega) p1.2 (wy_ok o hi hj t _) M
      obtain ⟨T2, b1', b2', b3'⟩ := ih (t + 1) T1 (by omega) (by omega) (by rw [wyN]; exact a2)
      have ew : (if nI (t % 2) = 0 then f4_duel_b104 k66 (f4_duel_b80 k66 m) T (nI i) (nI j) (nI n) (nI all) (nI w) (nI (3 ^ (n - (t + 1)))) (nI t) (nI i) else f4_duel_b104 k66 (f4_duel_b80 k66 m) T (nI i) (nI j) (nI n) (nI all) (nI w) (nI (3 ^ (n - (t + 1)))) (nI t) (nI j)) = f4_duel_b104 k66 (f4_duel_b80 k66 m) T (nI i) (nI j) (nI n) (nI all) (nI w) (nI (3 ^ (n - (t + 1)))) (nI t) (nI (whN i j t)) := by
        unfold whN
        rcases (show t % 2 = 0 ∨ t % 2 = 1 by omega) with q | q
        · rw [q, if_pos (show nI 0 = 0 from rfl), if_pos rfl]
        · rw [q, if_neg (show ¬ nI 1 = 0 by decide), if_neg (by decide)]
      have ed : nI (3 ^ (n - t)) / 3 = nI (3 ^ (n - (t + 1))) := by
        rw [n_3, pk_div (by omega) (by decide) (by decide), d1]
      rw [if_neg e, ed, nmE, mod2 (by omega), ew, a3, b3']
      exact ⟨T2, a1.tr b1', b2', rfl⟩
    · have e : t = n := by omega
      subst e
      rw [Nat.sub_self, Nat.pow_zero, Nat.div_one] at M
      rw [if_pos (Int32.le_refl _)]
      exact ⟨T, FT.rf, M, rfl⟩
def N16 (T T' : Mem) : Prop := (∀ a p, a ≠ 16 → gi T' a p = gi T a p) ∧ ∀ p, gl T' p = gl T p
theorem N16.rf {T : Mem} : N16 T T := ⟨fun _ _ _ => rfl, fun _ => rfl⟩
theorem N16.tr {T T1 T2 : Mem} (h : N16 T T1) (h2 : N16 T1 T2) : N16 T T2 := ⟨fun a p x => (h2.1 a p x).trans (h.1 a p x), fun p => (h2.2 p).trans (h.2 p)⟩
theorem N16.u {T T' : Mem} (h : N16 T T') (j : Nat) (v : Int32) : N16 T (ui T' 16 j v) := ⟨fun b p x => by
  rw [gi_ui, if_neg (fun q => x q.1)]
  exact h.1 b p x, h.2⟩
theorem Rel.n16 {S T T' : Mem} (R : Rel S T) (f : N16 T T') : Rel S T' :=
  ⟨R.1.keep ⟨fun _ _ _ => rfl, fun _ => rfl⟩ ⟨f.1 _ _ (by decide), f.1 _ _ (by decide), fun a p x y => f.1 a p (by omega), f.2⟩, R.2.keep PFc.rf ⟨f.1 _ _ (by decide), f.1 _ _ (by decide), fun a p x y z => f.1 a p (by omega)⟩⟩
theorem AQ.u16 {B T : Mem} (h : AQ B T) (j : Nat) (v : Int32) : AQ (ui B 16 j v) (ui T 16 j v) := by
  obtain ⟨a1, a2, a3⟩ := h
  refine ⟨fun a p x y => ?_, fun p hp => ?_, a3⟩
  · rw [gi_ui, gi_ui]
    split
    · rfl
    · exact a1 a p x y
  · rw [gi_ui, if_neg (by omega), gi_ui, if_neg (by omega)]
    exact a2 p hp
theorem FT.u16 {T T1 : Mem} (h : FT T T1) (j : Nat) (v : Int32) : FT (ui T 16 j v) (ui T1 16 j v) := ⟨fun a p x => by
  rw [gi_ui, gi_ui]
  split
  · rfl
  · exact h.1 a p x, h.2⟩
theorem m_du66 {T0 : Mem} {h dy qy i j n Q : Nat} {kd fi ha jr : Nat → Nat} (h7 : h ≤ 7) (hi : i < h) (hj : j < h) (hn : n ≤ 6) (hQ : Q < 90000) (H : HM T0 h kd fi ha) (M : MM T0 h 11 0 dy qy jr) (o : okS h Q (jr, qy)) : ∀ (m w : Nat) (T B : Mem), 3 ^ n - w < m → w ≤ 3 ^ n → N16 T0 B → AQ B T → (∀ v, v < w → gi B 16 v = zI (vlN kd i j 0 n (wyN i j (jr, qy) n v))) → ∃ T' B', N16 T0 B' ∧ AQ B' T' ∧ (∀ v, v < 3 ^ n → gi B' 16 v = zI (vlN kd i j 0 n (wyN i j (jr, qy) n v))) ∧ f4_duel_b66 m T (nI i) (nI j) (nI n) (nI (3 ^ n)) (nI w) = f4_duel_b180 FU T' (nI (3 ^ n)) (nI n - 1) := by
  intro m
  induction m with
  | zero =>
    intro w T B h1
    omega
  | succ m ih =>
    intro w T B h1 h2 F A I
    have p := pow3 hn
    rw [f4_duel_b66]
    rcases Nat.lt_or_ge w (3 ^ n) with u | u
    · have e : ¬ nI (3 ^ n) ≤ nI w := by rw [n_le (by omega) (by omega)]; omega
      have HB : HM B h kd fi ha := by
        obtain ⟨q1, q2, q3⟩ := H
        refine ⟨by rw [F.1 _ _ (by decide)]; exact q1, q2, fun i hi => ?_⟩
        rw [F.1 _ _ (by decide), F.1 _ _ (by decide), F.1 _ _ (by decide)]
        exact q3 i hi
      have MB : MM B h 11 0 dy qy jr := M.same h7 (fun k _ => F.1 _ _ (by decide))
      obtain ⟨T2, a1, a2, a3⟩ := m_du80 (n := n) (w := w) (all := 3 ^ n) (f4_duel_b66 m) h7 hi hj hn hQ (by omega) o FU 0 T (Nat.lt_of_le_of_lt (show n - 0 ≤ 6 from hn) (by decide)) (Nat.zero_le _) (MB.aq h7 A)
      have ok := wy_ok o hi hj n w
      have HT := (HB.aq A).ft a1
      obtain ⟨T4, g1, g2⟩ := m_backs (A.u16 w (zI (vlN kd i j 0 n (wyN i j (jr, qy) n w)))) (a1.u16 w (zI (vlN kd i j 0 n (wyN i j (jr, qy) n w))))
      have z0 : nI 0 = 0 := rfl
      rw [Nat.sub_zero, z0] at a3
      rw [if_neg e, a3]
      unfold duEnd
      rw [m_worthNow HT a2 hi (ok.1 i hi), b1_at, m_worthNow HT a2 hj (ok.1 j hj), b1_at, gd_ix (show w < 729 by omega) (by decide), ix_k (by omega), zI_sub, nmE]
      rw [vlN] at g1 g2
      rw [g1, b1_at, nmE, nI_1]
      exact ih (w + 1) T4 _ (by omega) (by omega) (F.u _ _) g2 (fun v hv => by
        rw [gi_ui]
        by_cases c : v = w
        · subst c
          rw [if_pos ⟨rfl, rfl⟩, vlN]
        · rw [if_neg (fun q => c q.2)]
          exact I v (by omega))
    · have e : w = 3 ^ n := by omega
      subst e
      rw [if_pos (Int32.le_refl _), nmE]
      exact ⟨T, B, F, A, I, rfl⟩
theorem m_pick {k : Mem → Int32 → Int32 → Option (Int32 × Mem)} {k' : Mem → Int32 → Int32 → Int32 → Option (Int32 × Mem)} {S : Mem} {x4 x6 : Int32} {t : Nat} {a b c : Int} (ht : t < 2 ^ 31) (ha : smI a) (hb : smI b) (hc : smI c) : (if zI a ≤ zI b then f4_duel_b252 k k' S x4 (nI t) x6 (zI a) (zI b) (zI c) (zI b) else f4_duel_b252 k k' S x4 (nI t) x6 (zI a) (zI b) (zI c) (zI a)) = f4_duel_b314 k k' S x4 (nI t) x6 16 729 x6 (zI (pkI t a b c)) := by
  unfold f4_duel_b252 f4_duel_b268
  rw [mod2 ht]
  unfold pkI
  rcases (show t % 2 = 0 ∨ t % 2 = 1 by omega) with q | q
  · rw [q]
    simp only [if_pos (show nI 0 = 0 from rfl), z_le ha hb, z_le hb ha, z_le ha hc, z_le hb hc, if_true]
    by_cases c1 : a ≤ b
    · rw [Int.max_eq_right c1]
      by_cases c2 : b ≤ c
      · rw [Int.max_eq_right c2]
        simp only [if_pos c1, if_pos c2, ite_self]
      · rw [Int.max_eq_left (by omega)]
        simp only [if_pos c1, if_neg c2, ite_self]
    · rw [Int.max_eq_left (show b ≤ a by omega)]
      by_cases c2 : a ≤ c
      · rw [Int.max_eq_right c2]
        simp only [if_neg c1, if_pos c2, ite_self]
      · rw [Int.max_eq_left (by omega)]
        simp only [if_neg c1, if_neg c2, ite_self]
  · rw [q]
    simp only [if_neg (show ¬ nI 1 = 0 by decide), z_le ha hb, z_le hb ha, z_le hc ha, z_le hc hb, if_neg (show ¬ (1 : Nat) = 0 by decide), ite_self]
    by_cases c1 : b ≤ a
    · rw [Int.min_eq_right c1]
      by_cases c2 : c ≤ b
      · rw [Int.min_eq_right c2]
        simp only [if_pos c1, if_pos c2]
      · rw [Int.min_eq_left (by omega)]
        simp only [if_pos c1, if_neg c2]
    · rw [Int.min_eq_left (show a ≤ b by omega)]
      by_cases c2 : c ≤ a
      · rw [Int.min_eq_right c2]
        simp only [if_neg c1, if_pos c2]
      · rw [Int.min_eq_left (by omega)]
        simp only [if_neg c1, if_neg c2]
theorem m_du194 {A t : Nat} {E : Nat → Int} (k180 : Mem → Int32 → Int32 → Option (Int32 × Mem)) (ht : t < 2 ^ 31) (hA : A ≤ 243) (hE : ∀ v, smI (E v)) : ∀ (m w : Nat) (T : Mem), A - w < m → w ≤ A → (∀ v, v < w → gi T 16 v = zI (pkI t (E (3 * v)) (E (3 * v + 1)) (E (3 * v + 2)))) → (∀ v, w ≤ v → v < 3 * A → gi T 16 v = zI (E v)) → ∃ T', N16 T T' ∧ (∀ v, v < A → gi T' 16 v = zI (pkI t (E (3 * v)) (E (3 * v + 1)) (E (3 * v + 2)))) ∧ f4_duel_b194 k180 m T (nI A) (nI t) (nI w) = k180 T' (nI A) (nI t - 1) := by
  intro m
  induction m with
  | zero =>
    intro w T h1
    omega
  | succ m ih =>
    intro w T h1 h2 I J
    rw [f4_duel_b194]
    rcases Nat.lt_or_ge w A with u | u
    · have e : ¬ nI A ≤ nI w := by rw [n_le (by omega) (by omega)]; omega
      have x0 : (3 : Int32) * nI w = nI (3 * w) := by rw [n_3, pk_mul]
      rw [if_neg e, x0, gd_ix (show 3 * w < 729 by omega) (by decide), ix_k (by omega), J (3 * w) (by omega) (by omega), nmE, nI_1, gd_ix (show 3 * w + 1 < 729 by omega) (by decide), ix_k (by omega), J (3 * w + 1) (by omega) (by omega), nmE, n_2, nI_add, gd_ix (show 3 * w + 2 < 729 by omega) (by decide), ix_k (by omega), J (3 * w + 2) (by omega) (by omega), nmE, m_pick ht (hE _) (hE _) (hE _)]
      unfold f4_duel_b314
      rw [gd_ix (show w < 729 by omega) (by decide), ix_k (by omega), nmE, nmE, nI_1]
      obtain ⟨T', a1, a2, a3⟩ := ih (w + 1) (ui T 16 w (zI (pkI t (E (3 * w)) (E (3 * w + 1)) (E (3 * w + 2))))) (by omega) (by omega) (fun v hv => by
        rw [gi_ui]
        by_cases c : v = w
        · subst c
          rw [if_pos ⟨rfl, rfl⟩]
        · rw [if_neg (fun q => c q.2)]
          exact I v (by omega)) (fun v h3 h4 => by
        rw [gi_ui, if_neg (by omega)]
        exact J v (by omega) h4)
      exact ⟨T', (N16.rf.u _ _).tr a1, a2, a3⟩
    · have e : w = A := by omega
      subst e
      rw [if_pos (Int32.le_refl _), nmE, ← Int32.sub_eq_add_neg]
      exact ⟨T, N16.rf, I, rfl⟩
theorem m_du180 {kd : Nat → Nat} {i j h n Q : Nat} {s0 : (Nat → Nat) × Nat} (hij : ¬ i = j) (hi : i < h) (hj : j < h) (k1 : kd i < 6) (k2 : kd j < 6) (hn : n ≤ 6) (o : okS h Q s0) : ∀ (m t : Nat) (T : Mem), t < m → t ≤ n → (∀ v, v < 3 ^ t → gi T 16 v = zI (vlN kd i j (n - t) t (wyN i j s0 t v))) → ∃ T', N16 T T' ∧ f4_duel_b180 m T (nI (3 ^ t)) (nI t - 1) = some (zI (vlN kd i j n 0 s0) + 500, T') := by
  intro m
  induction m with
  | zero =>
    intro t T h1
    omega
  | succ m ih =>
    intro t T h1 h2 I
    rw [f4_duel_b180]
    cases t with
    | zero =>
      have e0 : gi T 16 (ix 0) = zI (vlN kd i j n 0 s0) := I 0 (by decide)
      rw [if_pos (by decide), gd_t (by decide), e0]
      exact ⟨T, N16.rf, rfl⟩
    | succ t =>
      have em : nI (t + 1) - 1 = nI t := by
        rw [n_1, pk_sub (by omega), Nat.add_sub_cancel]
      have en : ¬ nI t < 0 := by rw [n_0, n_lt (by omega) (by decide)]; omega
      have p := pow3 (show t + 1 ≤ 6 by omega)
      have p2 := Nat.pow_le_pow_right (show 0 < 3 by decide) (show t ≤ 5 by omega)
      have ed : nI (3 ^ (t + 1)) / 3 = nI (3 ^ t) := by
        rw [n_3, pk_div (by omega) (by decide) (by decide), Nat.pow_succ, Nat.mul_div_cancel _ (by decide)]
      have ev (w c : Nat) (hc : c < 3) : wyN i j s0 (t + 1) (3 * w + c) = mvN c (whN i j t) (wyN i j s0 t w) := by
        rw [wyN, show (3 * w + c) % 3 = c by omega, show (3 * w + c) / 3 = w by omega]
      obtain ⟨T1, a1, a2, a3⟩ := m_du194 (A := 3 ^ t) (t := t) (E := fun v => vlN kd i j (n - (t + 1)) (t + 1) (wyN i j s0 (t + 1) v)) (f4_duel_b180 m) (by omega) (by omega) (fun v => vl_sm hij k1 k2 ((wy_ok o hi hj (t + 1) v).1 i hi) ((wy_ok o hi hj (t + 1) v).1 j hj)) FU 0 T (Nat.lt_of_le_of_lt (show 3 ^ t - 0 ≤ 243 from p2) (by decide)) (Nat.zero_le _) (fun v hv => absurd hv (Nat.not_lt_zero v)) (fun v _ hv => I v (by rw [Nat.pow_succ]; omega))
      obtain ⟨T', b1', b2'⟩ := ih t T1 (by omega) (by omega) (fun v hv => by
        have e0 := ev v 0 (by decide)
        rw [a2 v hv, show n - t = (n - (t + 1)) + 1 by omega, vlN, ← e0, ← ev v 1 (by decide), ← ev v 2 (by decide)]
        rfl)
      have z0 : nI 0 = 0 := rfl
      rw [z0] at a3
      rw [em, if_neg en, ed, nmE, a3, b2']
      exact ⟨T', a1.tr b1', rfl⟩
theorem m_du41 (T T1 : Mem) (x1 x2 : Int32) (n : Nat) (hn : n ≤ 6) (ha : f4_asides T = some T1) : ∀ (m t : Nat), n - t < m → t ≤ n → f4_duel_b41 m T x1 x2 (nI n) (nI (3 ^ t)) (nI t) = f4_duel_b66 FU T1 x1 x2 (nI n) (nI (3 ^ n)) 0
  | 0, t, h1, _ => by omega
  | m + 1, t, h1, h2 => by
    rw [f4_duel_b41]
    rcases Nat.lt_or_ge t n with u | u
    · have e : ¬ nI n ≤ nI t := by rw [n_le (by omega) (by omega)]; omega
      rw [if_neg e, n_3, pk_mul, nmE, nmE, nI_1, ← Nat.pow_succ]
      exact m_du41 T T1 x1 x2 n hn ha m (t + 1) (by omega) (by omega)
    · have e : t = n := by omega
      subst e
      rw [if_pos (Int32.le_refl _), ha, b1_at]
theorem p_duel {S T : Mem} (R : Rel S T) (x y z : Int32) : ∃ r T', f3_duel S x y z = some r ∧ f4_duel T x y z = some (r, T') ∧ Rel S T' := by
  obtain ⟨Rb, h, kd, fi, ha, d, dy, qy, jr, P⟩ := id R
  obtain ⟨H1, H2, H3, H4, H5⟩ := id P
  obtain ⟨M1, O1⟩ := H4.2.2.1 d (Nat.le_refl d)
  have hd := H4.1
  have h7 := H1.2.1
  have o2 := O1.2.1
  unfold f3_duel f4_duel
  simp only [c_isHouse H1, m_isHouse H2, b1_at, show (6 : Int64) = lN 6 from rfl, m_in0 z 6 (by decide)]
  by_cases hx : inb x h = true
  · obtain ⟨i, hi, rfl⟩ := inb_ex hx (by omega)
    simp only [if_pos hx, i10, if_false]
    by_cases hy : inb y h = true
    · obtain ⟨j, hj, rfl⟩ := inb_ex hy (by omega)
      simp only [if_pos hy, i10, if_false, n_eq (show i < 2 ^ 31 by omega) (show j < 2 ^ 31 by omega)]
      by_cases c : i = j
      · rw [if_pos c, if_pos c]
        exact ⟨_, _, rfl, rfl, R⟩
      · rw [if_neg c, if_neg c, n_6, rng0_if z (show 6 < 2 ^ 31 by decide)]
        by_cases hz : inb z 7 = true
        · obtain ⟨n, hn, rfl⟩ := inb_ex hz (by decide)
          have k1 := (H1.2.2 i hi).1
          have k2 := (H1.2.2 j hj).1
          have o : okS h (qy d) (jr d, qy d) := ⟨O1.2.2, Nat.le_refl _⟩
          obtain ⟨T1, c1, c2⟩ := m_asides T
          obtain ⟨T2, B, e1, e2, e3, e4⟩ := m_du66 (n := n) h7 hi hj (by omega) (show qy d < 90000 by omega) H2 H4.2.2.2.1 o FU 0 T1 T (Nat.lt_of_le_of_lt (show 3 ^ n - 0 ≤ 729 from (pow3 (by omega)).1) (by decide)) (Nat.zero_le _) N16.rf c2 (fun v hv => absurd hv (Nat.not_lt_zero v))
          obtain ⟨T3, g1, g2⟩ := m_du180 c hi hj k1.2 k2.2 (show n ≤ 6 by omega) o FU n T2 (Nat.lt_of_le_of_lt (show n ≤ 6 by omega) (by decide)) (Nat.le_refl _) (fun v hv => by
            rw [e2.1 16 v (by decide) (fun q => absurd q (by decide)), e3 v hv, Nat.sub_self])
          have z0 : nI 0 = 0 := rfl
          rw [z0] at e4
          have f1 := m_du41 T T1 (nI i) (nI j) n (by omega) c1 FU 0 (Nat.lt_of_le_of_lt (show n - 0 ≤ 6 by omega) (by decide)) (Nat.zero_le _)
          rw [z0, Nat.pow_zero, show nI 1 = 1 from rfl] at f1
          have l := c_lead 8 n (kd i) (jr d i) (kd j) (jr d j) (qy d) (by omega) k1.2 k2.2 (O1.2.2 i hi) (O1.2.2 j hj) (by omega) (by omega)
          have v := vl_ld (kd := kd) c n 0 (jr d, qy d)
          rw [if_pos (show 0 % 2 = 0 from rfl)] at v
          rw [if_pos hz, if_pos hz, if_neg (show ¬ (1 : Int32) = 0 by decide), c_now H4, b1_at, gd_t (dlt hd), gd_t (i7 h7 hi), gd_t (i7 h7 hi), gd_t (i7 h7 hj), gd_t (i7 h7 hj), ix_k (by omega), ix_k (by omega), k1.1, k2.1, M1.2.2 i hi, M1.2.2 j hj, M1.2.1, l, b1_at, f1, e4, g2, v, Int32.add_comm]
          exact ⟨_, _, rfl, rfl, ((R.n16 e1).aq e2).n16 g1⟩
        · rw [if_neg hz, if_neg hz, if_pos rfl]
          exact ⟨_, _, rfl, rfl, R⟩
    · simp only [if_neg hy, if_true]
      exact ⟨_, _, rfl, rfl, R⟩
  · simp only [if_neg hx, if_true]
    exact ⟨_, _, rfl, rfl, R⟩
