/-! KINDS: what a jar is worth, what is brought, in plain numbers -/
def worthN (k j : Nat) : Nat := match k with
  | 0 => j
  | 1 => j + 3
  | 2 => 2 * j
  | 3 => if j ≤ 20 then j else 0
  | 4 => 2 * (j + 3)
  | _ => 2 * j - 5
def bringN (k j dy : Nat) : Nat := match k with
  | 0 => j
  | 1 => j / 2
  | 2 => j
  | 3 => j - 7
  | 4 => 0
  | _ => if dy % 2 = 0 then j else 0
theorem c_worth : ∀ k, k < 6 → ∀ j, j < 100 → f3_worthTo (nI k) (nI j) = some (nI (worthN k j)) := by decide +kernel
theorem m_worth : ∀ k, k < 6 → ∀ j, j < 100 → f4_worthTo (nI k) (nI j) = some (nI (worthN k j)) := by decide +kernel
theorem worth_le : ∀ k, k < 6 → ∀ j, j < 100 → worthN k j ≤ 204 := by decide +kernel
theorem bring_le (k j dy : Nat) : bringN k j dy ≤ j := by
  unfold bringN
  split <;> (try split) <;> omega
theorem bring_mod (k j dy : Nat) : bringN k j (dy % 2) = bringN k j dy := by
  unfold bringN
  split <;> simp
theorem mod2 {d : Nat} (h : d < 2 ^ 31) : nI d - nI d / 2 * 2 = nI (d % 2) := by
  rw [n_2]
  exact pk_rem h (by decide) (by decide)
theorem c_brought2 : ∀ k, k < 6 → ∀ j, j < 100 → ∀ e, e < 2 → f3_broughtBy (nI k) (nI j) (nI e) = some (nI (bringN k j e)) := by decide +kernel
theorem c_brought {k j d : Nat} (hk : k < 6) (hj : j < 100) (hd : d < 2 ^ 31) : f3_broughtBy (nI k) (nI j) (nI d) = some (nI (bringN k j d)) := by
  have h := c_brought2 k hk j hj (d % 2) (Nat.mod_lt _ (by decide))
  rw [bring_mod] at h
  rw [← h]
  unfold f3_broughtBy
  rw [mod2 hd, mod2 (Nat.lt_of_le_of_lt (Nat.mod_le _ _) hd), Nat.mod_mod]
def bbM (x1 x2 dy : Int32) : Option Int32 := f4_broughtBy (fun _ _ => dy, fun _ => 0) x1 x2
theorem bbM_eq (T : Mem) (x1 x2 : Int32) : f4_broughtBy T x1 x2 = bbM x1 x2 (gi T 11 0) := rfl
theorem m_brought2 : ∀ k, k < 6 → ∀ j, j < 100 → ∀ e, e < 2 → bbM (nI k) (nI j) (nI e) = some (nI (bringN k j e)) := by decide +kernel
theorem m_brought {T : Mem} {k j d : Nat} (hk : k < 6) (hj : j < 100) (hd : d < 2 ^ 31) (ht : gi T 11 0 = nI d) : f4_broughtBy T (nI k) (nI j) = some (nI (bringN k j d)) := by
  have h := m_brought2 k hk j hj (d % 2) (Nat.mod_lt _ (by decide))
  rw [bring_mod] at h
  rw [bbM_eq, ht, ← h]
  unfold bbM f4_broughtBy
  have hg : ∀ x : Int32, gi ((fun _ _ => x, fun _ => 0) : Mem) 11 (ix 0) = x := fun _ => rfl
  simp only [hg]
  rw [mod2 hd, mod2 (Nat.lt_of_le_of_lt (Nat.mod_le _ _) hd), Nat.mod_mod]
theorem c_isA : ∀ k, k < 6 → ∀ o, o < 6 → f3_isA (nI k) (nI o) = f4_isOf (nI k) (nI o) := by decide +kernel
def isaN (k o : Nat) : Bool := decide (k = o ∨ k = 4 ∧ o = 1 ∨ k = 5 ∧ o = 2)
theorem c_isa : ∀ k, k < 6 → ∀ o, o < 6 → f3_isA (nI k) (nI o) = some (if isaN k o = true then 1 else 0) := by decide +kernel
theorem m_isa : ∀ k, k < 6 → ∀ o, o < 6 → f4_isOf (nI k) (nI o) = some (if isaN k o = true then 1 else 0) := by decide +kernel
/-! bits -/
def setN (p : Nat → Bool) : Nat → Nat
  | 0 => 0
  | n + 1 => setN p n + if p n = true then 2 ^ n else 0
def cntN (p : Nat → Bool) : Nat → Nat
  | 0 => 0
  | n + 1 => cntN p n + if p n = true then 1 else 0
def popN (s : Nat) : Nat := cntN (fun i => s.testBit i) 7
theorem setN_lt (p : Nat → Bool) : ∀ n, setN p n < 2 ^ n
  | 0 => Nat.one_pos
  | n + 1 => by
    have h := setN_lt p n
    rw [setN, Nat.pow_succ]
    split <;> omega
theorem setN_cg {p q : Nat → Bool} : ∀ {n : Nat}, (∀ i, i < n → p i = q i) → setN p n = setN q n
  | 0, _ => rfl
  | n + 1, h => by rw [setN, setN, setN_cg (fun i hi => h i (by omega)), h n (by omega)]
theorem cntN_cg {p q : Nat → Bool} : ∀ {n : Nat}, (∀ i, i < n → p i = q i) → cntN p n = cntN q n
  | 0, _ => rfl
  | n + 1, h => by rw [cntN, cntN, cntN_cg (fun i hi => h i (by omega)), h n (by omega)]
theorem cntN_le (p : Nat → Bool) : ∀ n, cntN p n ≤ n
  | 0 => Nat.le_refl _
  | n + 1 => by
    have h := cntN_le p n
    rw [cntN]
    split <;> omega
theorem pow7 {n : Nat} (h : n ≤ 7) : 2 ^ n ≤ 128 := Nat.pow_le_pow_right (by decide) h
theorem or_bit : ∀ i, i < 7 → ∀ s, s < 128 → s < 2 ^ i → nI s ||| (1 <<< (nI i &&& 31)) = nI (s + 2 ^ i) := by decide +kernel
theorem or_0 : ∀ s, s < 128 → nI s ||| 0 = nI s := by decide +kernel
theorem shl_h : ∀ h, h < 8 → (1 : Int32) <<< (nI h &&& 31) = nI (2 ^ h) := by decide +kernel
theorem c_pop : ∀ s, s < 128 → f6_bitCount (nI s) = some (nI (popN s)) := by decide +kernel
theorem m_pop : ∀ s, s < 128 → f4_many (nI s) = some (nI (popN s)) := by decide +kernel
theorem pop_bit : ∀ i, i < 7 → ∀ s, s < 128 → s < 2 ^ i → popN (s + 2 ^ i) = popN s + 1 := by decide +kernel
theorem pop_le (s : Nat) : popN s ≤ 7 := cntN_le _ 7
theorem pop_set (p : Nat → Bool) : ∀ n, n ≤ 7 → popN (setN p n) = cntN p n
  | 0, _ => (by decide : popN 0 = 0)
  | n + 1, h => by
    have h1 := setN_lt p n
    have h2 := pow7 (show n ≤ 7 by omega)
    rw [setN, cntN, ← pop_set p n (by omega)]
    split
    · rw [pop_bit n (by omega) _ (by omega) h1]
    · rw [Nat.add_zero, Nat.add_zero]
theorem c_has : ∀ s, s < 128 → ∀ i, i < 7 → f3_has (nI s) (nI i) = some (if s.testBit i = true then 1 else 0) := by decide +kernel
theorem m_has : ∀ s, s < 128 → ∀ i, i < 7 → ((nI s >>> (nI i &&& 31)) &&& 1) = (if s.testBit i = true then 1 else 0) := by decide +kernel
/-! a house's own -/
def offP (kd ha jr : Nat → Nat) (i : Nat) : Bool := decide (5 * ha i ≤ worthN (kd i) (jr i))
theorem i7 {h i : Nat} (hh : h ≤ 7) (hi : i < h) : inb (nI i) 7 = true := inb_nI (by omega) (by decide)
theorem HC.n {S : Mem} {h : Nat} {kd fi ha : Nat → Nat} (H : HC S h kd fi ha) : gi S 15 3 = nI h := H.1
theorem c_isHouse {S : Mem} {h : Nat} {kd fi ha : Nat → Nat} (H : HC S h kd fi ha) (x : Int32) : f3_isHouse S x = some (if inb x h = true then 1 else 0) := by
  unfold f3_isHouse
  rw [H.1]
  exact two_if x (by have := H.2.1; omega)
theorem m_isHouse {T : Mem} {h : Nat} {kd fi ha : Nat → Nat} (H : HM T h kd fi ha) (x : Int32) : f4_isHouse T x = some (if inb x h = true then 1 else 0) := by
  unfold f4_isHouse
  rw [H.1, in_inb x h (by have := H.2.1; omega), b1_at]
  exact zo _
theorem c_off {S : Mem} {h : Nat} {kd fi ha : Nat → Nat} (H : HC S h kd fi ha) {i j : Nat} (hi : i < h) (hj : j < 100) : f0_comesOff S (nI i) (nI j) = some (if 5 * ha i ≤ worthN (kd i) j then 1 else 0) := by
  obtain ⟨h1, h2, h3⟩ := H
  obtain ⟨⟨a1, a2⟩, -, c1, c2⟩ := h3 i hi
  unfold f0_comesOff
  have w := worth_le _ a2 j hj
  simp only [gd_t (i7 h2 hi), ix_k (show i < 2 ^ 31 by omega), a1, c1, c_worth _ a2 j hj, b1_at, n_5, pk_mul, n_lt (show worthN (kd i) j < 2 ^ 31 by omega) (show 5 * ha i < 2 ^ 31 by omega)]
  by_cases q : 5 * ha i ≤ worthN (kd i) j
  · rw [if_neg (by omega), if_pos q]
  · rw [if_pos (by omega), if_neg q]
theorem m_jar {T : Mem} {h dy qy i : Nat} {jr : Nat → Nat} (hh : h ≤ 7) (M : MM T h 11 0 dy qy jr) (hi : i < h) : f4_jar T (nI i) = some (nI (jr i)) := by
  unfold f4_jar
  rw [n_2, nI_add, gd_ix (by omega) (by decide), ix_k (by omega)]
  have := M.2.2 i hi
  rw [show 0 + 2 + i = 2 + i by omega] at this
  rw [this]
theorem m_worthNow {T : Mem} {h dy qy i : Nat} {jr kd fi ha : Nat → Nat} (H : HM T h kd fi ha) (M : MM T h 11 0 dy qy jr) (hi : i < h) (hj : jr i ≤ 99) : f4_worthNow T (nI i) = some (nI (worthN (kd i) (jr i))) := by
  obtain ⟨h1, h2, h3⟩ := H
  obtain ⟨⟨a1, a2⟩, -, -⟩ := h3 i hi
  unfold f4_worthNow
  simp only [gd_t (i7 h2 hi), ix_k (show i < 2 ^ 31 by omega), a1, m_jar h2 M hi, b1_at, m_worth _ a2 _ (show jr i < 100 by omega)]
theorem m_off {T : Mem} {h dy qy i : Nat} {jr kd fi ha : Nat → Nat} (H : HM T h kd fi ha) (M : MM T h 11 0 dy qy jr) (hi : i < h) (hj : jr i ≤ 99) : f4_comesOff T (nI i) = some (if 5 * ha i ≤ worthN (kd i) (jr i) then 1 else 0) := by
  have h2 := H.2.1
  obtain ⟨⟨a1, a2⟩, -, c1, c2⟩ := H.2.2 i hi
  have w := worth_le _ a2 (jr i) (by omega)
  unfold f4_comesOff
  simp only [m_worthNow H M hi hj, b1_at, gd_t (i7 h2 hi), ix_k (show i < 2 ^ 31 by omega), c1, n_5, pk_mul, n_lt (show worthN (kd i) (jr i) < 2 ^ 31 by omega) (show 5 * ha i < 2 ^ 31 by omega)]
  by_cases q : 5 * ha i ≤ worthN (kd i) (jr i)
  · rw [if_neg (by omega), if_pos q]
  · rw [if_pos (by omega), if_neg q]
theorem c_brings {S : Mem} {h q dy i : Nat} {jr kd fi ha : Nat → Nat} (H : HC S h kd fi ha) (hi : i < h) (hj : jr i ≤ 99) (hd : dy < 2 ^ 31) (m1 : gi S (30 + q) 1 = nI dy) (m2 : gi S (195 + q) i = nI (jr i)) : f1_bringsOf S q (nI i) = some (nI (bringN (kd i) (jr i) dy)) := by
  obtain ⟨h1, h2, h3⟩ := H
  obtain ⟨⟨a1, a2⟩, -, -⟩ := h3 i hi
  unfold f1_bringsOf
  simp only [gd_t (i7 h2 hi), ix_k (show i < 2 ^ 31 by omega), a1, m1, m2, c_brought a2 (show jr i < 100 by omega) hd, b1_at]
theorem m_brings {T : Mem} {h dy i : Nat} {kd fi ha : Nat → Nat} {j : Nat} (H : HM T h kd fi ha) (hi : i < h) (hj : j ≤ 99) (hd : dy < 2 ^ 31) (m1 : gi T 11 0 = nI dy) (m2 : f4_jar T (nI i) = some (nI j)) : f4_brings T (nI i) = some (nI (bringN (kd i) j dy)) := by
  obtain ⟨h1, h2, h3⟩ := H
  obtain ⟨⟨a1, a2⟩, -, -⟩ := h3 i hi
  unfold f4_brings
  simp only [gd_t (i7 h2 hi), ix_k (show i < 2 ^ 31 by omega), a1, m2, b1_at, m_brought a2 (show j < 100 by omega) hd m1]
/-! which works come off -/
theorem c_off4 {S : Mem} {h q dy qy : Nat} {jr kd fi ha : Nat → Nat} (H : HC S h kd fi ha) (M : MC S h q dy qy jr) (hj : ∀ i, i < h → jr i ≤ 99) : ∀ (n i : Nat), h - i < n → i ≤ h → f1_worksOff_b4 S n q (nI (setN (offP kd ha jr) i)) (nI i) = some (nI (setN (offP kd ha jr) h))
  | 0, i, hn, _ => by omega
  | n + 1, i, hn, hi => by
    have h2 := H.2.1
    rw [f1_worksOff_b4, H.1]
    rcases Nat.lt_or_ge i h with u | u
    · rw [if_neg (by rw [n_le (by omega) (by omega)]; omega)]
      have w := setN_lt (offP kd ha jr) i
      have w2 := pow7 (show i ≤ 7 by omega)
      have hr := c_off4 H M hj n (i + 1) (by omega) (by omega)
      rw [setN] at hr
      simp only [gd_t (i7 h2 u), ix_k (show i < 2 ^ 31 by omega), M.2.2 i u, c_off H u (show jr i < 100 from Nat.lt_succ_of_le (hj i u)), b1_at]
      unfold f1_worksOff_b32
      by_cases c : 5 * ha i ≤ worthN (kd i) (jr i)
      · rw [if_pos (show offP kd ha jr i = true from decide_eq_true c)] at hr
        simp only [if_pos c, i10, if_false, nmE, or_bit i (by omega) _ (show setN (offP kd ha jr) i < 128 by omega) w, nI_1]
        exact hr
      · rw [if_neg (show ¬ offP kd ha jr i = true from fun e => c (of_decide_eq_true e)), Nat.add_zero] at hr
        simp only [if_neg c, if_true, nmE, nI_1]
        exact hr
    · have e : i = h := by omega
      subst e
      rw [if_pos (Int32.le_refl _)]
theorem c_worksOff {S : Mem} {h q dy qy : Nat} {jr kd fi ha : Nat → Nat} (H : HC S h kd fi ha) (M : MC S h q dy qy jr) (hj : ∀ i, i < h → jr i ≤ 99) : f1_worksOff S q = some (nI (setN (offP kd ha jr) h)) := c_off4 H M hj FU 0 (Nat.lt_of_le_of_lt (show h - 0 ≤ 7 from H.2.1) (by decide)) (by omega)
theorem m_off4 {T : Mem} {h dy qy : Nat} {jr kd fi ha : Nat → Nat} (H : HM T h kd fi ha) (M : MM T h 11 0 dy qy jr) (hj : ∀ i, i < h → jr i ≤ 99) : ∀ (n i : Nat), h - i < n → i ≤ h → f4_worksOff_b4 T n (nI (setN (offP kd ha jr) i)) (nI i) = some (nI (setN (offP kd ha jr) h))
  | 0, i, hn, _ => by omega
  | n + 1, i, hn, hi => by
    have h2 := H.2.1
    rw [f4_worksOff_b4, H.1]
    rcases Nat.lt_or_ge i h with u | u
    · rw [if_neg (by rw [n_le (by omega) (by omega)]; omega)]
      have w := setN_lt (offP kd ha jr) i
      have w2 := pow7 (show i ≤ 7 by omega)
      have hr := m_off4 H M hj n (i + 1) (by omega) (by omega)
      rw [setN] at hr
      simp only [m_off H M u (hj i u), b1_at]
      unfold f4_worksOff_b28
      by_cases c : 5 * ha i ≤ worthN (kd i) (jr i)
      · rw [if_pos (show offP kd ha jr i = true from decide_eq_true c)] at hr
        simp only [if_pos c, i10, if_false, nmE, or_bit i (by omega) _ (show setN (offP kd ha jr) i < 128 by omega) w, nI_1]
        exact hr
      · rw [if_neg (show ¬ offP kd ha jr i = true from fun e => c (of_decide_eq_true e)), Nat.add_zero] at hr
        simp only [if_neg c, if_true, nmE, nI_1, or_0 _ (show setN (offP kd ha jr) i < 128 by omega)]
        exact hr
    · have e : i = h := by omega
      subst e
      rw [if_pos (Int32.le_refl _)]
theorem m_worksOff {T : Mem} {h dy qy : Nat} {jr kd fi ha : Nat → Nat} (H : HM T h kd fi ha) (M : MM T h 11 0 dy qy jr) (hj : ∀ i, i < h → jr i ≤ 99) : f4_worksOff T = some (nI (setN (offP kd ha jr) h)) := m_off4 H M hj FU 0 (Nat.lt_of_le_of_lt (show h - 0 ≤ 7 from H.2.1) (by decide)) (by omega)
theorem set128 {p : Nat → Bool} {h : Nat} (hh : h ≤ 7) : setN p h < 128 := Nat.lt_of_lt_of_le (setN_lt p h) (pow7 hh)
theorem c_now {S T : Mem} {h s d a b a2 b2 : Nat} {dy qy : Nat → Nat} {jr : Nat → Nat → Nat} (H : HI S T h s d a b a2 b2 dy qy jr) : f2_now S s = some (41 * s + d) := by
  unfold f2_now
  rw [H.2.1, gd_ix (by have := H.1; omega) (by decide), ix_k (by have := H.1; omega)]
theorem p_works {S T : Mem} (R : Rel S T) : ∃ r S' T', f3_works S = some (r, S') ∧ f4_works T = some (r, T') ∧ Rel S' T' := by
  obtain ⟨h, kd, fi, ha, d, dy, qy, jr, H1, H2, H3, H4, H5⟩ := R.2
  obtain ⟨M1, O1⟩ := H4.2.2.1 d (Nat.le_refl d)
  have hd := H4.1
  unfold f3_works f4_works
  simp only [c_now H4, b1_at, gd_d (show 41 * 0 + d < 165 by omega), c_worksOff H1 M1 O1.2.2, m_worksOff H2 H4.2.2.2.1 O1.2.2, c_pop _ (set128 H1.2.1), m_pop _ (set128 H1.2.1), nmE, m_tells, b2_at]
  exact ⟨_, _, _, rfl, rfl, R.told _⟩
theorem rng0_if {α : Type} (x : Int32) {b : Nat} (hb : b < 2 ^ 31) (A B : α) : (if x < 0 then A else if x ≤ nI b then B else A) = if inb x (b + 1) = true then B else A := by
  simp only [i_lt, i_le, i_0, nI_toInt hb, inb_iff]
  split
  · rw [if_neg (by omega)]
  · split
    · rw [if_pos (by omega)]
    · rw [if_neg (by omega)]
