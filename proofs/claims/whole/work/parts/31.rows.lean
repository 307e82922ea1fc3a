/-! ROWS AND TEXTS -/
theorem i10 : ((1 : Int32) = 0) = False := eq_false (by decide)
theorem i00 : ((0 : Int32) = 0) = True := eq_self 0
def upG (T : Mem) (a lo hi : Nat) (G : Nat → Int32) : Mem := (fun b p => if b = a ∧ lo ≤ p ∧ p < hi then G p else T.1 b p, T.2)
theorem gi_upG (T : Mem) (a lo hi : Nat) (G : Nat → Int32) (b p : Nat) : gi (upG T a lo hi G) b p = if b = a ∧ lo ≤ p ∧ p < hi then G p else gi T b p := rfl
theorem gl_upG (T : Mem) (a lo hi : Nat) (G : Nat → Int32) (k : Nat) : gl (upG T a lo hi G) k = gl T k := rfl
theorem mem_ext {S T : Mem} (h : ∀ a k, gi S a k = gi T a k) (h2 : ∀ k, gl S k = gl T k) : S = T := Prod.ext (funext fun a => funext fun k => h a k) (funext fun k => h2 k)
theorem upG_nil {T : Mem} {a lo hi : Nat} {G : Nat → Int32} (h : hi ≤ lo) : upG T a lo hi G = T := mem_ext (fun b p => by rw [gi_upG, if_neg (by omega)]) (fun _ => rfl)
theorem upG_step {T : Mem} {a lo hi : Nat} {G : Nat → Int32} (h : lo < hi) : upG (ui T a lo (G lo)) a (lo + 1) hi G = upG T a lo hi G := mem_ext (fun b p => by
  rw [gi_upG, gi_upG, gi_ui]
  by_cases h1 : b = a
  · by_cases h2 : p = lo
    · subst h2
      rw [if_neg (by omega), if_pos ⟨h1, rfl⟩, if_pos (by omega)]
    · by_cases h3 : lo ≤ p ∧ p < hi
      · rw [if_pos (by omega), if_pos ⟨h1, h3⟩]
      · rw [if_neg (by omega), if_neg (by omega), if_neg (by omega)]
  · rw [if_neg (by simp [h1]), if_neg (by simp [h1]), if_neg (by simp [h1])]) (fun _ => rfl)
/-! frames of single writes -/
theorem PFc.rf {S : Mem} : PFc S S := fun _ _ _ => rfl
theorem PFc.tr {S S' S2 : Mem} (h : PFc S S') (h2 : PFc S' S2) : PFc S S2 := fun a k q => (h2 a k q).trans (h a k q)
theorem PFc.ui {S S' : Mem} (h : PFc S S') {a : Nat} (j : Nat) (v : Int32) (ha : ¬((15 ≤ a ∧ a ≤ 18) ∨ (22 ≤ a ∧ a ≠ 194 ∧ a ≠ 359))) : PFc S (ui S' a j v) := fun b k q => by
  rw [gi_ui, if_neg (by intro e; have e1 := e.1; subst e1; exact ha q)]
  exact h b k q
theorem PFc.up {S S' : Mem} (h : PFc S S') {a : Nat} (lo hi : Nat) (G : Nat → Int32) (ha : ¬((15 ≤ a ∧ a ≤ 18) ∨ (22 ≤ a ∧ a ≠ 194 ∧ a ≠ 359))) : PFc S (upG S' a lo hi G) := fun b k q => by
  rw [gi_upG, if_neg (by intro e; have e1 := e.1; subst e1; exact ha q)]
  exact h b k q
theorem PFc.fl {S S' : Mem} (h : PFc S S') {a : Nat} (n : Nat) (v : Int32) (ha : ¬((15 ≤ a ∧ a ≤ 18) ∨ (22 ≤ a ∧ a ≠ 194 ∧ a ≠ 359))) : PFc S (ufl S' a n v) := fun b k q => by
  rw [gi_ufl, if_neg (by intro e; have e1 := e.1; subst e1; exact ha q)]
  exact h b k q
theorem PFc.cp {S S' : Mem} (h : PFc S S') {b : Nat} (a i j n : Nat) (ha : ¬((15 ≤ b ∧ b ≤ 18) ∨ (22 ≤ b ∧ b ≠ 194 ∧ b ≠ 359))) : PFc S (ucp S' a i b j n) := fun c k q => by
  rw [gi_ucp, if_neg (by intro e; have e1 := e.1; subst e1; exact ha q)]
  exact h c k q
theorem PFc.ul {S S' : Mem} (h : PFc S S') (k : Nat) (v : Int64) : PFc S (ul S' k v) := fun a j q => h a j q
theorem PFm.rf {T : Mem} : PFm T T := ⟨rfl, rfl, fun _ _ _ _ _ => rfl⟩
theorem PFm.ui {T T' : Mem} (h : PFm T T') {a j : Nat} (v : Int32) (ha : (a = 0 → j ≠ 12 ∧ j ≠ 18) ∧ ¬(8 ≤ a ∧ a ≤ 14)) : PFm T (ui T' a j v) := ⟨by
  rw [gi_ui, if_neg (by intro e; exact (ha.1 e.1.symm).1 e.2.symm)]
  exact h.1, by
  rw [gi_ui, if_neg (by intro e; exact (ha.1 e.1.symm).2 e.2.symm)]
  exact h.2.1, fun b k h1 h2 h3 => by
  rw [gi_ui, if_neg (by intro e; exact ha.2 (by rw [← e.1]; exact ⟨h1, h2⟩))]
  exact h.2.2 b k h1 h2 h3⟩
theorem PFm.up {T T' : Mem} (h : PFm T T') {a : Nat} (lo hi : Nat) (G : Nat → Int32) (ha : ¬ a = 0 ∧ ¬(8 ≤ a ∧ a ≤ 14)) : PFm T (upG T' a lo hi G) := ⟨by
  rw [gi_upG, if_neg (by intro e; exact ha.1 e.1.symm)]
  exact h.1, by
  rw [gi_upG, if_neg (by intro e; exact ha.1 e.1.symm)]
  exact h.2.1, fun b k h1 h2 h3 => by
  rw [gi_upG, if_neg (by intro e; exact ha.2 (by rw [← e.1]; exact ⟨h1, h2⟩))]
  exact h.2.2 b k h1 h2 h3⟩
theorem PFm.ul {T T' : Mem} (h : PFm T T') (k : Nat) (v : Int64) : PFm T (ul T' k v) := h
/-! what is told, what is found -/
theorem Rel.told {S T : Mem} (R : Rel S T) (v : Int32) : Rel (ui S 0 9 v) (ui T 0 2 v) := by
  obtain ⟨⟨h1, h2, h3, h4, h5, h6, h7, h8, h9⟩, P⟩ := R
  refine ⟨⟨?_, ?_, h3, h4, fun f hf => ?_, fun r hr => ?_, fun r i hr hi => ?_, fun t ht => ?_, fun t i ht hi => ?_⟩, P.keep (PFc.rf.ui _ _ (by omega)) (PFm.rf.ui _ (by omega))⟩
  · simp [gi_ui]
  · simpa [gi_ui] using h2
  · simpa [gi_ui] using h5 f hf
  · simpa [gi_ui] using h6 r hr
  · simpa [gi_ui] using h7 r i hr hi
  · simpa [gi_ui] using h8 t ht
  · simpa [gi_ui] using h9 t i ht hi
theorem Rel.frac {S T : Mem} (R : Rel S T) (u w : Int64) : Rel (ul (ul S 0 u) 1 w) (ul (ul T 0 u) 1 w) := by
  obtain ⟨⟨h1, h2, h3, h4, h5, h6, h7, h8, h9⟩, P⟩ := R
  refine ⟨⟨h1, h2, ?_, ?_, h5, h6, h7, h8, h9⟩, P.keep ((PFc.rf.ul _ _).ul _ _) ((PFm.rf.ul _ _).ul _ _)⟩
  · simp [gl_ul]
  · simp [gl_ul]
def fndC (S : Mem) (f : Nat) : Mem := ui (ui S 0 12 (nI f)) 21 f (gi S 21 f + 1)
def fndM (T : Mem) (f : Nat) : Mem := ui (ui T 0 0 (nI f)) 1 f (gi T 1 f + 1)
theorem c_found (S : Mem) {f : Nat} (h : f < 6) : f3_foundThat S (nI f) = some (-3, fndC S f) := by
  unfold f3_foundThat fndC
  simp only [nmE, gd_ix h (by decide : 6 < 2 ^ 31), ix_k (Nat.lt_trans h (by decide : 6 < 2 ^ 31)), gi_ui]
  rw [if_neg (by omega)]
theorem m_found (T : Mem) {f : Nat} (h : f < 6) : f4_finds T (nI f) = some (-3, fndM T f) := by
  unfold f4_finds fndM
  simp only [nmE, gd_ix h (by decide : 6 < 2 ^ 31), ix_k (Nat.lt_trans h (by decide : 6 < 2 ^ 31)), gi_ui]
  rw [if_neg (by omega)]
theorem c_f1 (S : Mem) : f3_foundThat S 1 = some (-3, fndC S 1) := c_found S (by decide)
theorem c_f2 (S : Mem) : f3_foundThat S 2 = some (-3, fndC S 2) := c_found S (by decide)
theorem c_f3 (S : Mem) : f3_foundThat S 3 = some (-3, fndC S 3) := c_found S (by decide)
theorem c_f4 (S : Mem) : f3_foundThat S 4 = some (-3, fndC S 4) := c_found S (by decide)
theorem c_f5 (S : Mem) : f3_foundThat S 5 = some (-3, fndC S 5) := c_found S (by decide)
theorem m_f1 (S : Mem) : f4_finds S 1 = some (-3, fndM S 1) := m_found S (by decide)
theorem m_f2 (S : Mem) : f4_finds S 2 = some (-3, fndM S 2) := m_found S (by decide)
theorem m_f3 (S : Mem) : f4_finds S 3 = some (-3, fndM S 3) := m_found S (by decide)
theorem m_f4 (S : Mem) : f4_finds S 4 = some (-3, fndM S 4) := m_found S (by decide)
theorem m_f5 (S : Mem) : f4_finds S 5 = some (-3, fndM S 5) := m_found S (by decide)
theorem Rel.find {S T : Mem} (R : Rel S T) {f : Nat} (hf : f < 6) : Rel (fndC S f) (fndM T f) := by
  obtain ⟨⟨h1, h2, h3, h4, h5, h6, h7, h8, h9⟩, P⟩ := R
  unfold fndC fndM
  refine ⟨⟨?_, ?_, h3, h4, fun g hg => ?_, fun r hr => ?_, fun r i hr hi => ?_, fun t ht => ?_, fun t i ht hi => ?_⟩, P.keep ((PFc.rf.ui _ _ (by omega)).ui _ _ (by omega)) ((PFm.rf.ui _ (by omega)).ui _ (by omega))⟩
  · simpa [gi_ui] using h1
  · simp [gi_ui]
  · simp only [gi_ui]
    by_cases e : g = f
    · subst e
      simp [h5 g hg]
    · simpa [e] using h5 g hg
  · simpa [gi_ui] using h6 r hr
  · have e1 : ¬ 2 + r = 21 := by omega
    simpa [gi_ui, e1] using h7 r i hr hi
  · simpa [gi_ui] using h8 t ht
  · have e1 : ¬ 10 + t = 21 := by omega
    simpa [gi_ui, e1] using h9 t i ht hi
theorem m_tells (T : Mem) (x v : Int32) : f4_tells T x v = some (x, ui T 0 2 v) := rfl
/-! which -/
theorem c_isRow (x : Int32) : f3_isRow x = some (if inb x 6 = true then 1 else 0) := two_if x (n := 6) (by decide)
theorem c_isText (x : Int32) : f3_isText x = some (if inb x 4 = true then 1 else 0) := two_if x (n := 4) (by decide)
theorem c_isKeeping (x : Int32) : f3_isKeeping x = some (if inb x 3 = true then 1 else 0) := two_if x (n := 3) (by decide)
theorem rng_inb (x : Int32) (n : Nat) : rng x 0 n = inb x (n + 1) := by
  rw [Bool.eq_iff_iff, rng_iff, inb_iff]
  omega
theorem m_in0 (x : Int32) (b : Nat) (hb : b < 2 ^ 31) : f4_in x.toInt64 0 (lN b) = some (if inb x (b + 1) = true then 1 else 0) := by
  rw [← rng_inb]
  exact in_rng x 0 b (by decide) hb
theorem zo (c : Prop) [Decidable c] : gd (decide ((if c then (1 : Int32) else 0) = 0 ∨ (if c then (1 : Int32) else 0) = 1)) (some (if c then (1 : Int32) else 0)) = some (if c then 1 else 0) := by
  by_cases h : c
  · simp only [if_pos h]; rfl
  · simp only [if_neg h]; rfl
theorem m_isRow (x : Int32) : f4_isRow x = some (if inb x 6 = true then 1 else 0) := by
  unfold f4_isRow
  rw [show (5 : Int64) = lN 5 from rfl, m_in0 x 5 (by decide), b1_at]
  exact zo _
theorem m_isText (x : Int32) : f4_isText x = some (if inb x 4 = true then 1 else 0) := by
  unfold f4_isText
  rw [show (3 : Int64) = lN 3 from rfl, m_in0 x 3 (by decide), b1_at]
  exact zo _
/-! loops over rows and texts -/
theorem fillI_b5 (v : Int32) (a z : Nat) (hz : z < 2 ^ 31) : ∀ (n i : Nat) (S : Mem), z - i < n → i ≤ z → f7_fillI_b5 n S a z v (nI i) (nI z) = some (upG S a i z (fun _ => v))
  | 0, i, S, h, _ => by omega
  | n + 1, i, S, h, hi => by
    rw [f7_fillI_b5]
    rcases Nat.lt_or_ge i z with q | q
    · rw [if_neg (by rw [n_le hz (by omega)]; omega), gd_ix q hz]
      simp only [nmE, nI_1, ix_k (Nat.lt_trans q hz)]
      rw [fillI_b5 v a z hz n (i + 1) _ (by omega) (by omega), upG_step (G := fun _ => v) q]
    · rw [if_pos (by rw [n_le hz (by omega)]; exact q), upG_nil q]
theorem fillB_b5 (v : Int32) (a z : Nat) (hz : z < 2 ^ 31) : ∀ (n i : Nat) (S : Mem), z - i < n → i ≤ z → f7_fillB_b5 n S a z v (nI i) (nI z) = some (upG S a i z (fun _ => i2b v))
  | 0, i, S, h, _ => by omega
  | n + 1, i, S, h, hi => by
    rw [f7_fillB_b5]
    rcases Nat.lt_or_ge i z with q | q
    · rw [if_neg (by rw [n_le hz (by omega)]; omega), gd_ix q hz]
      simp only [nmE, nI_1, ix_k (Nat.lt_trans q hz)]
      rw [fillB_b5 v a z hz n (i + 1) _ (by omega) (by omega), upG_step (G := fun _ => i2b v) q]
    · rw [if_pos (by rw [n_le hz (by omega)]; exact q), upG_nil q]
theorem c_fillI (S : Mem) (a : Nat) (v : Int32) : f7_fillI S a 40 v = some (upG S a 0 40 (fun _ => v)) := by
  unfold f7_fillI
  rw [nmE, n_0, fillI_b5 v a 40 (by decide) FU 0 S (by decide) (by decide)]
theorem c_fillB (S : Mem) (a : Nat) (v : Int32) : f7_fillB S a 60 v = some (upG S a 0 60 (fun _ => i2b v)) := by
  unfold f7_fillB
  rw [nmE, n_0, fillB_b5 v a 60 (by decide) FU 0 S (by decide) (by decide)]
theorem m_row34 (k : Nat) (hk : k < 6) (y : Int32) : ∀ (n i : Nat) (T : Mem), 40 - i < n → i ≤ 40 → f4_row_b34 n T (nI k) y (nI i) = some (y, upG T 3 (40 * k + i) (40 * k + 40) (fun _ => 0))
  | 0, i, T, h, _ => by omega
  | n + 1, i, T, h, hi => by
    rw [f4_row_b34, n_40]
    rcases Nat.lt_or_ge i 40 with q | q
    · rw [if_neg (by rw [n_le (by decide) (by omega)]; omega)]
      simp only [pk_mul, nI_add, nI_1, nmE]
      rw [gd_ix (by omega) (by decide), ix_k (by omega), m_row34 k hk y n (i + 1) _ (by omega) (by omega), ← Nat.add_assoc, upG_step (G := fun _ => 0) (by omega)]
    · rw [if_pos (by rw [n_le (by decide) (by omega)]; exact q), upG_nil (by omega)]
theorem m_text34 (k : Nat) (hk : k < 4) (y : Int32) : ∀ (n i : Nat) (T : Mem), 60 - i < n → i ≤ 60 → f4_text_b34 n T (nI k) y (nI i) = some (y, upG T 5 (60 * k + i) (60 * k + 60) (fun _ => 32))
  | 0, i, T, h, _ => by omega
  | n + 1, i, T, h, hi => by
    rw [f4_text_b34, n_60]
    rcases Nat.lt_or_ge i 60 with q | q
    · rw [if_neg (by rw [n_le (by decide) (by omega)]; omega)]
      simp only [pk_mul, nI_add, nI_1, nmE]
      rw [gd_ix (by omega) (by decide), ix_k (by omega), m_text34 k hk y n (i + 1) _ (by omega) (by omega), ← Nat.add_assoc, upG_step (G := fun _ => 32) (by omega)]
    · rw [if_pos (by rw [n_le (by decide) (by omega)]; exact q), upG_nil (by omega)]
theorem sz_of {y : Int32} {n : Nat} (hn : n < 2 ^ 31) (h1 : y ≤ nI n) (h2 : 0 ≤ y) : SZ y n := by
  rw [i_le, nI_toInt hn] at h1
  rw [i_le, i_0] at h2
  refine Or.inr ⟨y.toInt.toNat, by omega, ?_⟩
  rw [i_eq, nI_toInt (by omega)]
  omega
theorem Rel.row {S T : Mem} (R : Rel S T) {k : Nat} (hk : k < 6) {y : Int32} (hy : SZ y 40) : Rel (ui (upG S (2 + k) 0 40 (fun _ => 0)) 8 k y) (upG (ui T 2 k y) 3 (40 * k) (40 * k + 40) (fun _ => 0)) := by
  obtain ⟨⟨h1, h2, h3, h4, h5, h6, h7, h8, h9⟩, P⟩ := R
  have e0 : ∀ a, a < 6 → ¬ 0 = 2 + a := fun a _ => by omega
  refine ⟨⟨?_, ?_, h3, h4, fun f hf => ?_, fun r hr => ?_, fun r i hr hi => ?_, fun t ht => ?_, fun t i ht hi => ?_⟩, P.keep ((PFc.rf.up _ _ _ (by omega)).ui _ _ (by omega)) ((PFm.rf.ui _ (by omega)).up _ _ _ (by omega))⟩
  · have e1 : ¬ 0 = 2 + k := by omega
    simpa [gi_ui, gi_upG, e1] using h1
  · have e1 : ¬ 0 = 2 + k := by omega
    simpa [gi_ui, gi_upG, e1] using h2
  · have e1 : ¬ 21 = 2 + k := by omega
    simpa [gi_ui, gi_upG, e1] using h5 f hf
  · have e1 : ¬ 8 = 2 + k := by omega
    by_cases e : r = k
    · subst e
      simpa [gi_ui, gi_upG, e1] using hy
    · simpa [gi_ui, gi_upG, e1, e] using h6 r hr
  · rw [gi_ui, if_neg (by omega), gi_upG, gi_upG]
    by_cases e : r = k
    · subst e
      rw [if_pos (by omega), if_pos (by omega)]
    · rw [if_neg (by omega), if_neg (by omega), gi_ui, if_neg (by omega)]
      exact h7 r i hr hi
  · have e1 : ¬ 14 = 2 + k := by omega
    simpa [gi_ui, gi_upG, e1] using h8 t ht
  · have e1 : ¬ 10 + t = 2 + k := by omega
    have e2 : ¬ 10 + t = 8 := by omega
    simpa [gi_ui, gi_upG, e1, e2] using h9 t i ht hi
theorem p_row {S T : Mem} (R : Rel S T) (x y : Int32) : ∃ r S' T', f3_row S x y = some (r, S') ∧ f4_row T x y = some (r, T') ∧ Rel S' T' := by
  unfold f3_row f4_row
  rw [c_isRow, m_isRow, b1_at, b1_at]
  by_cases hx : inb x 6 = true
  · obtain ⟨k, hk, rfl⟩ := inb_ex hx (by decide)
    simp only [if_pos hx, i10, if_false]
    by_cases h1 : y ≤ 40
    · simp only [if_pos h1]
      by_cases h2 : 0 ≤ y
      · simp only [if_pos h2]
        simp only [gd_t hx, ix_k (Nat.lt_trans hk (by decide : 6 < 2 ^ 31)), c_fillI, b1_at, nmE]
        rw [show (0 : Int32) = nI 0 from rfl, m_row34 k hk y FU 0 _ (by decide) (by decide)]
        exact ⟨y, _, _, rfl, rfl, R.row hk (sz_of (by decide) h1 h2)⟩
      · simp only [if_neg h2, c_f5, m_f5, b2_at]
        exact ⟨_, _, _, rfl, rfl, R.find (by decide)⟩
    · simp only [if_neg h1]
      exact ⟨_, _, _, rfl, rfl, R⟩
  · simp only [if_neg hx, if_true]
    exact ⟨_, _, _, rfl, rfl, R⟩
theorem ui_comm (S : Mem) {a b : Nat} (j k : Nat) (v w : Int32) (h : a ≠ b) : ui (ui S a j v) b k w = ui (ui S b k w) a j v := mem_ext (fun c p => by
  simp only [gi_ui]
  by_cases h1 : c = b ∧ p = k
  · rw [if_pos h1, if_neg (by rintro ⟨e, -⟩; exact h (e.symm.trans h1.1)), if_pos h1]
  · rw [if_neg h1, if_neg h1]) (fun _ => rfl)
theorem sz_2 {x : Int32} {n : Nat} (h : SZ x n) (hn : n < 2 ^ 31) : (x = -1 ∧ ¬ 0 ≤ x ∧ x < 0) ∨ ∃ z, z ≤ n ∧ x = nI z ∧ ¬ x = -1 ∧ 0 ≤ x ∧ ¬ x < 0 := by
  rcases h with h | ⟨z, hz, h⟩
  · subst h
    exact Or.inl ⟨rfl, by decide, by decide⟩
  · subst h
    refine Or.inr ⟨z, hz, rfl, ?_, nI_pos' (by omega), nI_pos (by omega)⟩
    rw [n_1, n_neg (by omega) (by decide) (by decide)]
    exact fun q => q
theorem two_if2 {α : Type} (y : Int32) {z : Nat} (hz : z < 2 ^ 31) (A B : α) : (if y < 0 then A else if y < nI z then B else A) = if inb y z = true then B else A := by
  simp only [i_lt, i_0, nI_toInt hz, inb_iff]
  split
  · rw [if_neg (by omega)]
  · split
    · rw [if_pos (by omega)]
    · rw [if_neg (by omega)]
theorem c_rowRef (S : Mem) {k : Nat} (hk : k < 6) : f3_rowRefusal S (nI k) = if gi S 8 k = -1 then some (-3, fndC S 1) else some (0, S) := by
  unfold f3_rowRefusal
  have hx : inb (nI k) 6 = true := inb_nI hk (by decide)
  simp only [c_isRow, b1_at, if_pos hx, i10, if_false, gd_t hx, ix_k (Nat.lt_trans hk (by decide : 6 < 2 ^ 31)), c_f1, b2_at]
theorem c_rowRef0 (S : Mem) {x : Int32} (hx : ¬ inb x 6 = true) : f3_rowRefusal S x = some (-1, S) := by
  unfold f3_rowRefusal
  simp only [c_isRow, b1_at, if_neg hx, if_true]
theorem c_place0 (S : Mem) {x : Int32} (hx : ¬ inb x 6 = true) (y : Int32) : f3_placeRefusal S x y = some (-1, S) := by
  unfold f3_placeRefusal
  rw [c_rowRef0 S hx, b2_at, if_neg (by decide)]
theorem c_place1 (S : Mem) {k : Nat} (hk : k < 6) (h : gi S 8 k = -1) (y : Int32) : f3_placeRefusal S (nI k) y = some (-3, fndC S 1) := by
  unfold f3_placeRefusal
  rw [c_rowRef S hk, if_pos h, b2_at, if_neg (by decide)]
theorem c_place2 (S : Mem) {k z : Nat} (hk : k < 6) (hz : z ≤ 40) (h : gi S 8 k = nI z) (h1 : ¬ gi S 8 k = -1) (y : Int32) : f3_placeRefusal S (nI k) y = if inb y z = true then some (0, S) else some (-3, fndC S 2) := by
  unfold f3_placeRefusal
  have hx : inb (nI k) 6 = true := inb_nI hk (by decide)
  rw [c_rowRef S hk, if_neg h1, b2_at, if_pos rfl, gd_t hx, ix_k (Nat.lt_trans hk (by decide : 6 < 2 ^ 31)), h, two_if2 y (by omega)]
  rfl
theorem m_why0 (S : Mem) {x : Int32} (hx : ¬ inb x 6 = true) (y : Int32) : f4_why S x y = some (-1, S) := by
  unfold f4_why
  simp only [m_isRow, b1_at, if_neg hx, if_true]
theorem m_why1 (S : Mem) {k : Nat} (hk : k < 6) (h : ¬ 0 ≤ gi S 2 k) (y : Int32) : f4_why S (nI k) y = some (-3, fndM S 1) := by
  unfold f4_why
  have hx : inb (nI k) 6 = true := inb_nI hk (by decide)
  simp only [m_isRow, b1_at, if_pos hx, i10, if_false, gd_t hx, ix_k (Nat.lt_trans hk (by decide : 6 < 2 ^ 31)), if_neg h, m_f1, b2_at]
theorem m_why2 (S : Mem) {k z : Nat} (hk : k < 6) (hz : z ≤ 40) (h : gi S 2 k = nI z) (y : Int32) : f4_why S (nI k) y = if inb y z = true then some (0, S) else some (-3, fndM S 2) := by
  unfold f4_why
  have hx : inb (nI k) 6 = true := inb_nI hk (by decide)
  simp only [m_isRow, b1_at, if_pos hx, i10, if_false, gd_t hx, ix_k (Nat.lt_trans hk (by decide : 6 < 2 ^ 31)), h, if_pos (nI_pos' (show z < 2 ^ 31 by omega)), in_inb y z (by omega)]
  by_cases hy : inb y z = true
  · simp only [if_pos hy, i10, if_false]
  · simp only [if_neg hy, if_true, m_f2, b2_at]
/-- a row: there, or missing -/
theorem Rel.rsz {S T : Mem} (R : Rel S T) {k : Nat} (hk : k < 6) : (gi S 8 k = -1 ∧ ¬ 0 ≤ gi T 2 k ∧ gi T 2 k < 0) ∨ ∃ z, z ≤ 40 ∧ gi S 8 k = nI z ∧ gi T 2 k = nI z ∧ ¬ gi S 8 k = -1 ∧ 0 ≤ gi T 2 k ∧ ¬ gi T 2 k < 0 := by
  obtain ⟨e, h⟩ := R.1.2.2.2.2.2.1 k hk
  rcases sz_2 h (by decide) with ⟨a, b, c⟩ | ⟨z, hz, a, b, c, d⟩
  · exact Or.inl ⟨a, e ▸ b, e ▸ c⟩
  · exact Or.inr ⟨z, hz, a, e ▸ a, b, e ▸ c, e ▸ d⟩
theorem Rel.tsz {S T : Mem} (R : Rel S T) {k : Nat} (hk : k < 4) : (gi S 14 k = -1 ∧ ¬ 0 ≤ gi T 4 k ∧ gi T 4 k < 0) ∨ ∃ z, z ≤ 60 ∧ gi S 14 k = nI z ∧ gi T 4 k = nI z ∧ ¬ gi S 14 k = -1 ∧ 0 ≤ gi T 4 k ∧ ¬ gi T 4 k < 0 := by
  obtain ⟨e, h⟩ := R.1.2.2.2.2.2.2.2.1 k hk
  rcases sz_2 h (by decide) with ⟨a, b, c⟩ | ⟨z, hz, a, b, c, d⟩
  · exact Or.inl ⟨a, e ▸ b, e ▸ c⟩
  · exact Or.inr ⟨z, hz, a, e ▸ a, b, e ▸ c, e ▸ d⟩
theorem Rel.rv {S T : Mem} (R : Rel S T) {k i : Nat} (hk : k < 6) (hi : i < 40) : gi S (2 + k) i = gi T 3 (40 * k + i) := R.1.2.2.2.2.2.2.1 k i hk hi
theorem Rel.tv {S T : Mem} (R : Rel S T) {k i : Nat} (hk : k < 4) (hi : i < 60) : gi S (10 + k) i = gi T 5 (60 * k + i) := R.1.2.2.2.2.2.2.2.2 k i hk hi
/-- rows alone have changed, alike -/
theorem Rel.rows {S T S' T' : Mem} (R : Rel S T) (hc : ∀ a p, ¬(2 ≤ a ∧ a ≤ 7) → gi S' a p = gi S a p) (hl : ∀ p, gl S' p = gl S p) (hm : ∀ a p, a ≠ 3 → a ≠ 6 → gi T' a p = gi T a p) (hn : ∀ p, gl T' p = gl T p) (hv : ∀ k i, k < 6 → i < 40 → gi S' (2 + k) i = gi T' 3 (40 * k + i)) : Rel S' T' := by
  obtain ⟨⟨h1, h2, h3, h4, h5, h6, h7, h8, h9⟩, P⟩ := R
  refine ⟨⟨?_, ?_, ?_, ?_, fun f hf => ?_, fun r hr => ?_, hv, fun t ht => ?_, fun t i ht hi => ?_⟩, P.keep (fun a k q => hc a k (by omega)) ⟨hm _ _ (by decide) (by decide), hm _ _ (by decide) (by decide), fun a k _ _ _ => hm _ _ (by omega) (by omega)⟩⟩
  · rw [hc _ _ (by omega), hm _ _ (by decide) (by decide), h1]
  · rw [hc _ _ (by omega), hm _ _ (by decide) (by decide), h2]
  · rw [hl, hn, h3]
  · rw [hl, hn, h4]
  · rw [hc _ _ (by omega), hm _ _ (by decide) (by decide), h5 f hf]
  · rw [hc _ _ (by omega), hm _ _ (by decide) (by decide)]
    exact h6 r hr
  · rw [hc _ _ (by omega), hm _ _ (by decide) (by decide)]
    exact h8 t ht
  · rw [hc _ _ (by omega), hm _ _ (by decide) (by decide)]
    exact h9 t i ht hi
theorem Rel.setrow {S T : Mem} (R : Rel S T) {k j : Nat} (hk : k < 6) (hj : j < 40) (v : Int32) : Rel (ui S (2 + k) j v) (ui T 3 (40 * k + j) v) := by
  refine R.rows (fun a p h => by rw [gi_ui, if_neg (by omega)]) (fun _ => rfl) (fun a p h _ => by rw [gi_ui, if_neg (by omega)]) (fun _ => rfl) (fun r i hr hi => ?_)
  rw [gi_ui, gi_ui]
  by_cases e : r = k ∧ i = j
  · rw [if_pos (by omega), if_pos (by omega)]
  · rw [if_neg (by omega), if_neg (by omega)]
    exact R.rv hr hi
theorem p_lay {S T : Mem} (R : Rel S T) (x y v : Int32) : ∃ r S' T', f3_lay S x y v = some (r, S') ∧ f4_lay T x y v = some (r, T') ∧ Rel S' T' := by
  unfold f3_lay f4_lay
  by_cases hx : inb x 6 = true
  · obtain ⟨k, hk, rfl⟩ := inb_ex hx (by decide)
    rcases R.rsz hk with ⟨a, b, -⟩ | ⟨z, hz, a, a2, b, c, -⟩
    · rw [c_place1 S hk a, m_why1 T hk b, b2_at, b2_at, if_neg (by decide), if_neg (by decide)]
      exact ⟨_, _, _, rfl, rfl, R.find (by decide)⟩
    · rw [c_place2 S hk hz a b, m_why2 T hk hz a2]
      by_cases hy : inb y z = true
      · obtain ⟨j, hj, rfl⟩ := inb_ex hy (by omega)
        have g1 : inb (nI j) 40 = true := inb_nI (by omega) (by decide)
        have g2 : inb (nI (40 * k + j)) 240 = true := inb_nI (by omega) (by decide)
        simp only [if_pos hy, b2_at, if_true, gd_t hx, gd_t g1, ix_k (show k < 2 ^ 31 by omega), ix_k (show j < 2 ^ 31 by omega), nmE, n_40, pk_mul, nI_add, gd_t g2, ix_k (show 40 * k + j < 2 ^ 31 by omega), m_tells, Int32.le_refl]
        refine ⟨_, _, _, rfl, rfl, ?_⟩
        rw [← R.rv hk (by omega), ui_comm _ _ _ _ _ (by omega)]
        exact (R.setrow hk (by omega) v).told _
      · rw [if_neg hy, if_neg hy, b2_at, b2_at, if_neg (by decide), if_neg (by decide)]
        exact ⟨_, _, _, rfl, rfl, R.find (by decide)⟩
  · rw [c_place0 S hx, m_why0 T hx, b2_at, b2_at, if_neg (by decide), if_neg (by decide)]
    exact ⟨_, _, _, rfl, rfl, R⟩
theorem p_at {S T : Mem} (R : Rel S T) (x y : Int32) : ∃ r S' T', f3_at S x y = some (r, S') ∧ f4_at T x y = some (r, T') ∧ Rel S' T' := by
  unfold f3_at f4_at
  by_cases hx : inb x 6 = true
  · obtain ⟨k, hk, rfl⟩ := inb_ex hx (by decide)
    rcases R.rsz hk with ⟨a, b, -⟩ | ⟨z, hz, a, a2, b, c, -⟩
    · rw [c_place1 S hk a, m_why1 T hk b, b2_at, b2_at, if_neg (by decide), if_neg (by decide)]
      exact ⟨_, _, _, rfl, rfl, R.find (by decide)⟩
    · rw [c_place2 S hk hz a b, m_why2 T hk hz a2]
      by_cases hy : inb y z = true
      · obtain ⟨j, hj, rfl⟩ := inb_ex hy (by omega)
        have g1 : inb (nI j) 40 = true := inb_nI (by omega) (by decide)
        have g2 : inb (nI (40 * k + j)) 240 = true := inb_nI (by omega) (by decide)
        simp only [if_pos hy, b2_at, if_true, gd_t hx, gd_t g1, ix_k (show k < 2 ^ 31 by omega), ix_k (show j < 2 ^ 31 by omega), nmE, n_40, pk_mul, nI_add, gd_t g2, ix_k (show 40 * k + j < 2 ^ 31 by omega), m_tells, Int32.le_refl]
        refine ⟨_, _, _, rfl, rfl, ?_⟩
        rw [← R.rv hk (by omega)]
        exact R.told _
      · rw [if_neg hy, if_neg hy, b2_at, b2_at, if_neg (by decide), if_neg (by decide)]
        exact ⟨_, _, _, rfl, rfl, R.find (by decide)⟩
  · rw [c_place0 S hx, m_why0 T hx, b2_at, b2_at, if_neg (by decide), if_neg (by decide)]
    exact ⟨_, _, _, rfl, rfl, R⟩
/-- a row's size alone has changed, alike -/
theorem Rel.setsz {S T : Mem} (R : Rel S T) {k : Nat} (hk : k < 6) {v : Int32} (hv : SZ v 40) : Rel (ui S 8 k v) (ui T 2 k v) := by
  obtain ⟨⟨h1, h2, h3, h4, h5, h6, h7, h8, h9⟩, P⟩ := R
  refine ⟨⟨?_, ?_, h3, h4, fun f hf => ?_, fun r hr => ?_, fun r i hr hi => ?_, fun t ht => ?_, fun t i ht hi => ?_⟩, P.keep (PFc.rf.ui _ _ (by omega)) (PFm.rf.ui _ (by omega))⟩
  · simpa [gi_ui] using h1
  · simpa [gi_ui] using h2
  · simpa [gi_ui] using h5 f hf
  · by_cases e : r = k
    · subst e
      simpa [gi_ui] using hv
    · simpa [gi_ui, e] using h6 r hr
  · rw [gi_ui, if_neg (by omega), gi_ui, if_neg (by omega)]
    exact h7 r i hr hi
  · simpa [gi_ui] using h8 t ht
  · rw [gi_ui, if_neg (by omega), gi_ui, if_neg (by omega)]
    exact h9 t i ht hi
theorem p_tear {S T : Mem} (R : Rel S T) (x : Int32) : ∃ r S' T', f3_tear S x = some (r, S') ∧ f4_tear T x = some (r, T') ∧ Rel S' T' := by
  unfold f3_tear f4_tear
  rw [m_isRow, b1_at]
  by_cases hx : inb x 6 = true
  · obtain ⟨k, hk, rfl⟩ := inb_ex hx (by decide)
    simp only [if_pos hx, i10, if_false, gd_t hx, ix_k (show k < 2 ^ 31 by omega), c_rowRef S hk]
    rcases R.rsz hk with ⟨a, b, -⟩ | ⟨z, hz, a, a2, b, c, -⟩
    · simp only [if_pos a, if_neg b, b2_at, m_f1]
      exact ⟨_, _, _, rfl, rfl, R.find (by decide)⟩
    · simp only [if_neg b, if_pos c, b2_at, if_true, nmE]
      exact ⟨_, _, _, rfl, rfl, R.setsz hk (Or.inl rfl)⟩
  · rw [c_rowRef0 S hx, b2_at, if_neg (by decide), if_neg hx, if_pos rfl]
    exact ⟨_, _, _, rfl, rfl, R⟩
