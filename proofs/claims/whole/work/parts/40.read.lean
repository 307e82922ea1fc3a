/-! THE SMALL LANGUAGE: the first fault, the houses read -/
def klN (x : Int32) : Nat := if x = 104 then 0 else if x = 119 then 1 else if x = 103 then 2 else if x = 107 then 3 else if x = 111 then 4 else if x = 99 then 5 else 6
theorem m_let (x : Int32) : f4_kindBy x = some (if klN x < 6 then nI (klN x) else -1) := by
  unfold f4_kindBy klN
  by_cases h0 : x = 104
  · subst h0; rfl
  by_cases h1 : x = 119
  · subst h1; rfl
  by_cases h2 : x = 103
  · subst h2; rfl
  by_cases h3 : x = 107
  · subst h3; rfl
  by_cases h4 : x = 111
  · subst h4; rfl
  by_cases h5 : x = 99
  · subst h5; rfl
  simp only [if_neg h0, if_neg h1, if_neg h2, if_neg h3, if_neg h4, if_neg h5]
  rfl
theorem c_let_step (S : Mem) (x : Int32) (n k : Nat) (hk : k < 6) : f3_kindByLetter_b2 S (n + 1) x (nI k) = if lets k = x then some (nI k) else f3_kindByLetter_b2 S n x (nI (k + 1)) := by
  have e : ¬ (6 : Int32) ≤ nI k := by rw [n_6, n_le (by omega) (by omega)]; omega
  rw [f3_kindByLetter_b2, if_neg e, gd_t (inb_nI hk (by decide)), ix_k (by omega), nmE, nI_1]
theorem c_let (S : Mem) (x : Int32) : f3_kindByLetter S x = some (if klN x < 6 then nI (klN x) else -9) := by
  have e0 : f3_kindByLetter S x = _ := c_let_step S x 1999 0 (by decide)
  have e1 : f3_kindByLetter_b2 S 1999 x (nI (0 + 1)) = _ := c_let_step S x 1998 1 (by decide)
  have e2 : f3_kindByLetter_b2 S 1998 x (nI (1 + 1)) = _ := c_let_step S x 1997 2 (by decide)
  have e3 : f3_kindByLetter_b2 S 1997 x (nI (2 + 1)) = _ := c_let_step S x 1996 3 (by decide)
  have e4 : f3_kindByLetter_b2 S 1996 x (nI (3 + 1)) = _ := c_let_step S x 1995 4 (by decide)
  have e5 : f3_kindByLetter_b2 S 1995 x (nI (4 + 1)) = _ := c_let_step S x 1994 5 (by decide)
  have e6 : f3_kindByLetter_b2 S (1993 + 1) x (nI (5 + 1)) = some (-9) := by
    rw [f3_kindByLetter_b2, if_pos (by decide)]
  have e6' : f3_kindByLetter_b2 S 1994 x (nI (5 + 1)) = some (-9) := e6
  rw [e0, e1, e2, e3, e4, e5, e6']
  simp only [show (lets 0 = x) = (x = 104) from propext eq_comm, show (lets 1 = x) = (x = 119) from propext eq_comm, show (lets 2 = x) = (x = 103) from propext eq_comm, show (lets 3 = x) = (x = 107) from propext eq_comm, show (lets 4 = x) = (x = 111) from propext eq_comm, show (lets 5 = x) = (x = 99) from propext eq_comm]
  unfold klN
  by_cases h0 : x = 104
  · subst h0; rfl
  by_cases h1 : x = 119
  · subst h1; rfl
  by_cases h2 : x = 103
  · subst h2; rfl
  by_cases h3 : x = 107
  · subst h3; rfl
  by_cases h4 : x = 111
  · subst h4; rfl
  by_cases h5 : x = 99
  · subst h5; rfl
  simp only [if_neg h0, if_neg h1, if_neg h2, if_neg h3, if_neg h4, if_neg h5]
  rfl
theorem c_fig (x : Int32) : f3_isFigure x = some (if rng x 48 57 = true then 1 else 0) := by
  unfold f3_isFigure
  rw [n_48, n_57, rng_if2 x (by decide) (by decide)]
  split <;> rfl
theorem m_fig (x : Int32) : f4_in (Int32.toInt64 x) 48 57 = some (if rng x 48 57 = true then 1 else 0) := in_rng x 48 57 (by decide) (by decide)
def dN (x : Int32) : Nat := x.toInt.toNat - 48
theorem fg_ex {x : Int32} (h : rng x 48 57 = true) : dN x ≤ 9 ∧ x = nI (48 + dN x) := by
  obtain ⟨k, h1, h2, rfl⟩ := rng_ex h
  have e : dN (nI k) = k - 48 := by
    unfold dN
    rw [nI_toInt (by omega)]
    omega
  rw [e]
  exact ⟨by omega, by rw [Nat.add_sub_cancel' h1]⟩
theorem fg_let0 : ∀ d, d < 10 → klN (nI (48 + d)) = 6 := by decide +kernel
theorem fg_let {x : Int32} (h : rng x 48 57 = true) : klN x = 6 := by
  obtain ⟨h1, h2⟩ := fg_ex h
  rw [h2]
  exact fg_let0 _ (by omega)
def LB (tx : Nat → Int32) (p : Nat) : Bool := decide (klN (tx p) < 6)
def fgs (tx : Nat → Int32) (q : Nat) : Prop := ∀ j, 1 ≤ j → j ≤ 4 → rng (tx (q + j)) 48 57 = true
def RV (tx G : Nat → Int32) (q e : Nat) : Prop := G (4 * e) = nI (klN (tx q)) ∧ G (4 * e + 1) = nI (dN (tx (q + 1))) ∧ G (4 * e + 2) = nI (dN (tx (q + 2))) ∧ G (4 * e + 3) = nI (10 * dN (tx (q + 3)) + dN (tx (q + 4)))
def RO (tx : Nat → Int32) (T : Mem) (p : Nat) : Prop := ∀ q, q < p → LB tx q = true → q + 5 ≤ p ∧ fgs tx q ∧ RV tx (gi T 7) q (cntN (LB tx) q)
def RD (tx : Nat → Int32) (T : Mem) (p : Nat) : Prop := gi T 0 11 = nI (cntN (LB tx) p) ∧ cntN (LB tx) p ≤ 7 ∧ RO tx T p
def FR (T T' : Mem) : Prop := (∀ a p, a ≠ 7 → (a = 0 → p ≠ 11) → gi T' a p = gi T a p) ∧ ∀ p, gl T' p = gl T p
def AG (tx : Nat → Int32) (z : Nat) (T : Mem) (oc : Option Int32) (om : Option (Int32 × Mem)) : Prop := (∃ r T', r ≤ 60 ∧ oc = some (nI r) ∧ om = some (nI r, T') ∧ FR T T') ∨ (∃ T', oc = some (-9) ∧ om = some (-1, T') ∧ FR T T' ∧ RD tx T' z ∧ 2 ≤ cntN (LB tx) z)
theorem FR.rf {T : Mem} : FR T T := ⟨fun _ _ _ _ => rfl, fun _ => rfl⟩
theorem FR.tr {T T1 T2 : Mem} (h : FR T T1) (h2 : FR T1 T2) : FR T T2 := ⟨fun a p x y => (h2.1 a p x y).trans (h.1 a p x y), fun p => (h2.2 p).trans (h.2 p)⟩
theorem FR.u7 {T T' : Mem} (h : FR T T') (j : Nat) (v : Int32) : FR T (ui T' 7 j v) := ⟨fun a p x y => by
  rw [gi_ui, if_neg (by omega)]
  exact h.1 a p x y, h.2⟩
theorem FR.u11 {T T' : Mem} (h : FR T T') (v : Int32) : FR T (ui T' 0 11 v) := ⟨fun a p x y => by
  rw [gi_ui, if_neg (by omega)]
  exact h.1 a p x y, h.2⟩
theorem AG.tr {tx : Nat → Int32} {z : Nat} {T T1 : Mem} {oc : Option Int32} {om : Option (Int32 × Mem)} (h : FR T T1) (a : AG tx z T1 oc om) : AG tx z T oc om := by
  rcases a with ⟨r, T', h1, h2, h3, h4⟩ | ⟨T', h1, h2, h3, h4⟩
  · exact Or.inl ⟨r, T', h1, h2, h3, h.tr h4⟩
  · exact Or.inr ⟨T', h1, h2, h.tr h3, h4⟩
theorem cnt_mono (p : Nat → Bool) : ∀ {a b : Nat}, a ≤ b → cntN p a ≤ cntN p b
  | a, 0, h => by
    have e : a = 0 := by omega
    subst e
    exact Nat.le_refl _
  | a, b + 1, h => by
    rcases Nat.lt_or_ge a (b + 1) with q | q
    · have := cnt_mono p (show a ≤ b by omega)
      rw [cntN]
      omega
    · have e : a = b + 1 := by omega
      subst e
      exact Nat.le_refl _
theorem cnt_lt {p : Nat → Bool} {a b : Nat} (h : a < b) (ha : p a = true) : cntN p a < cntN p b := by
  have := cnt_mono p (show a + 1 ≤ b from h)
  rw [cntN, if_pos ha] at this
  omega
theorem cnt_at {p : Nat → Bool} : ∀ {n e : Nat}, e < cntN p n → ∃ q, q < n ∧ p q = true ∧ cntN p q = e
  | 0, e, h => by
    rw [cntN] at h
    omega
  | n + 1, e, h => by
    by_cases c : e < cntN p n
    · obtain ⟨q, h1, h2, h3⟩ := cnt_at c
      exact ⟨q, by omega, h2, h3⟩
    · rw [cntN] at h
      by_cases d : p n = true
      · rw [if_pos d] at h
        exact ⟨n, by omega, d, by omega⟩
      · rw [if_neg d] at h
        omega
/-- within a house that began at i, w signs of it read -/
def RI (tx : Nat → Int32) (T : Mem) (i w : Nat) : Prop := LB tx i = true ∧ cntN (LB tx) i < 7 ∧ RO tx T i ∧ gi T 7 (4 * cntN (LB tx) i) = nI (klN (tx i)) ∧ gi T 7 (4 * cntN (LB tx) i + 1) = nI (if 1 < w then dN (tx (i + 1)) else 0) ∧ gi T 7 (4 * cntN (LB tx) i + 2) = nI (if 2 < w then dN (tx (i + 2)) else 0) ∧ gi T 7 (4 * cntN (LB tx) i + 3) = nI (if w ≤ 3 then 0 else if w = 4 then dN (tx (i + 3)) else 10 * dN (tx (i + 3)) + dN (tx (i + 4))) ∧ (∀ j, 1 ≤ j → j < w → rng (tx (i + j)) 48 57 = true) ∧ gi T 0 11 = nI (cntN (LB tx) i + if w = 5 then 1 else 0)
theorem RI.hl {tx : Nat → Int32} {T : Mem} {i w : Nat} (h : RI tx T i w) : LB tx i = true := h.1
theorem RI.he {tx : Nat → Int32} {T : Mem} {i w : Nat} (h : RI tx T i w) : cntN (LB tx) i < 7 := h.2.1
theorem RI.ro {tx : Nat → Int32} {T : Mem} {i w : Nat} (h : RI tx T i w) : RO tx T i := h.2.2.1
theorem RI.g0 {tx : Nat → Int32} {T : Mem} {i w : Nat} (h : RI tx T i w) : gi T 7 (4 * cntN (LB tx) i) = nI (klN (tx i)) := h.2.2.2.1
theorem RI.g1 {tx : Nat → Int32} {T : Mem} {i w : Nat} (h : RI tx T i w) : gi T 7 (4 * cntN (LB tx) i + 1) = nI (if 1 < w then dN (tx (i + 1)) else 0) := h.2.2.2.2.1
theorem RI.g2 {tx : Nat → Int32} {T : Mem} {i w : Nat} (h : RI tx T i w) : gi T 7 (4 * cntN (LB tx) i + 2) = nI (if 2 < w then dN (tx (i + 2)) else 0) := h.2.2.2.2.2.1
theorem RI.g3 {tx : Nat → Int32} {T : Mem} {i w : Nat} (h : RI tx T i w) : gi T 7 (4 * cntN (LB tx) i + 3) = nI (if w ≤ 3 then 0 else if w = 4 then dN (tx (i + 3)) else 10 * dN (tx (i + 3)) + dN (tx (i + 4))) := h.2.2.2.2.2.2.1
theorem RI.fg {tx : Nat → Int32} {T : Mem} {i w : Nat} (h : RI tx T i w) : ∀ j, 1 ≤ j → j < w → rng (tx (i + j)) 48 57 = true := h.2.2.2.2.2.2.2.1
theorem RI.nh {tx : Nat → Int32} {T : Mem} {i w : Nat} (h : RI tx T i w) : gi T 0 11 = nI (cntN (LB tx) i + if w = 5 then 1 else 0) := h.2.2.2.2.2.2.2.2
theorem RO.keep {tx : Nat → Int32} {T T' : Mem} {i : Nat} (h : RO tx T i) (f : ∀ j, j < 4 * cntN (LB tx) i → gi T' 7 j = gi T 7 j) : RO tx T' i := fun q hq hl => by
  obtain ⟨a, b, c⟩ := h q hq hl
  have := cnt_lt hq hl
  refine ⟨a, b, ?_⟩
  unfold RV at c ⊢
  rw [f _ (by omega), f _ (by omega), f _ (by omega), f _ (by omega)]
  exact c
theorem RI.cnt5 {tx : Nat → Int32} {T : Mem} {i : Nat} (h : RI tx T i 5) : cntN (LB tx) (i + 5) = cntN (LB tx) i + 1 := by
  have f (j : Nat) (h1 : 1 ≤ j) (h2 : j < 5) : LB tx (i + j) = false := by
    unfold LB
    rw [fg_let (h.fg j h1 h2)]
    rfl
  have e1 := f 1 (by decide) (by decide)
  have e2 := f 2 (by decide) (by decide)
  have e3 := f 3 (by decide) (by decide)
  have e4 := f 4 (by decide) (by decide)
  rw [show i + 5 = i + 1 + 1 + 1 + 1 + 1 from rfl, cntN, cntN, cntN, cntN, cntN]
  rw [show i + 1 + 1 + 1 + 1 = i + 4 from rfl, show i + 1 + 1 + 1 = i + 3 from rfl, show i + 1 + 1 = i + 2 from rfl, e1, e2, e3, e4, h.hl]
  rfl
theorem RI.done {tx : Nat → Int32} {T : Mem} {i : Nat} (h : RI tx T i 5) : RD tx T (i + 5) := by
  have c5 := h.cnt5
  have he := h.he
  refine ⟨by rw [c5]; exact h.nh, by omega, fun q hq hl => ?_⟩
  rcases Nat.lt_or_ge q i with u | u
  · obtain ⟨a, b, c⟩ := h.ro q u hl
    exact ⟨by omega, b, c⟩
  · rcases Nat.lt_or_ge i q with v | v
    · exfalso
      have := fg_let (h.fg (q - i) (by omega) (by omega))
      rw [Nat.add_sub_cancel' u] at this
      unfold LB at hl
      rw [this] at hl
      exact absurd hl (by decide)
    · have e : q = i := by omega
      subst e
      exact ⟨by omega, fun j h1 h2 => h.fg j h1 (by omega), h.g0, h.g1, h.g2, h.g3⟩
