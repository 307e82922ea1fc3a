/-! PLACE -/
theorem cnt_none {p : Nat → Bool} {i : Nat} : ∀ {z : Nat}, i ≤ z → (∀ q, i ≤ q → q < z → ¬ p q = true) → cntN p z = cntN p i
  | 0, h, _ => by
    have e : i = 0 := by omega
    rw [e]
  | z + 1, h, f => by
    rcases Nat.lt_or_ge i (z + 1) with q | q
    · rw [cntN, if_neg (f z (by omega) (by omega)), Nat.add_zero]
      exact cnt_none (by omega) (fun q a b => f q a (by omega))
    · have e : i = z + 1 := by omega
      rw [e]
theorem c_figure {x : Int32} (h : rng x 48 57 = true) : f3_figure x = some (nI (dN x)) := by
  obtain ⟨h1, h2⟩ := fg_ex h
  unfold f3_figure
  rw [h2, n_48, n_sub (by omega), ← h2, Nat.add_sub_cancel_left]
/-- what the class has of the house that begins at q -/
def SV (tx : Nat → Int32) (S : Mem) (q e : Nat) : Prop := gi S 16 e = nI (klN (tx q)) ∧ gi S 17 e = nI (dN (tx (q + 1))) ∧ gi S 18 e = nI (dN (tx (q + 2))) ∧ gi S 195 e = nI (10 * dN (tx (q + 3)) + dN (tx (q + 4)))
def SI (tx : Nat → Int32) (S : Mem) (p : Nat) : Prop := ∀ q, q < p → LB tx q = true → SV tx S q (cntN (LB tx) q)
/-- settling changes the houses and the first moment's jars alone -/
def FS (S S' : Mem) : Prop := (∀ a p, ¬ (15 ≤ a ∧ a ≤ 18) → a ≠ 195 → gi S' a p = gi S a p) ∧ ∀ p, gl S' p = gl S p
theorem FS.rf {S : Mem} : FS S S := ⟨fun _ _ _ _ => rfl, fun _ => rfl⟩
theorem FS.tr {S S1 S2 : Mem} (h : FS S S1) (h2 : FS S1 S2) : FS S S2 := ⟨fun a p x y => (h2.1 a p x y).trans (h.1 a p x y), fun p => (h2.2 p).trans (h.2 p)⟩
theorem FS.u {S S' : Mem} (h : FS S S') {a : Nat} (j : Nat) (v : Int32) (ha : (15 ≤ a ∧ a ≤ 18) ∨ a = 195) : FS S (ui S' a j v) := ⟨fun b p x y => by
  rw [gi_ui, if_neg (by omega)]
  exact h.1 b p x y, h.2⟩
/-- a house is settled -/
def stH (tx : Nat → Int32) (S : Mem) (c i : Nat) : Mem := ui (ui (ui (ui S 16 c (nI (klN (tx i)))) 17 c (nI (dN (tx (i + 1))))) 18 c (nI (dN (tx (i + 2))))) 195 c (nI (10 * dN (tx (i + 3)) + dN (tx (i + 4))))
theorem w_ui {k a j : Nat} {v : Int32} {X : Mem} {p : Nat} (ha : a ≠ 10 + k) : gi (ui X a j v) (10 + k) p = gi X (10 + k) p := by
  rw [gi_ui, if_neg (fun h => ha h.1.symm)]
theorem c_set_go {tx : Nat → Int32} {z k c i n : Nat} {S : Mem} (hk : k < 4) (hz : z ≤ 60) (hi : i + 5 ≤ z) (hc : c < 7) (hs : ∀ p, p < 60 → gi S (10 + k) p = tx p) (cl : klN (tx i) < 6) (hf : fgs tx i) : f3_settle_b14 (n + 1) S (10 + k) 60 (nI z) 0 (nI c) (nI i) = f3_settle_b14 n (stH tx S c i) (10 + k) 60 (nI z) 0 (nI (c + 1)) (nI (i + 1)) := by
  have e : ¬ nI z < nI (i + 5) := by rw [n_lt (by omega) (by omega)]; omega
  have e7 : ¬ nI 7 ≤ nI c := by rw [n_le (by omega) (by omega)]; omega
  have g : inb (nI i) 60 = true := inb_nI (by omega) (by decide)
  have e9 : ¬ nI (klN (tx i)) = -9 := by rw [show (-9 : Int32) = -nI 9 from rfl, n_neg (by omega) (by decide) (by decide)]; exact id
  have f1 := c_figure (hf 1 (by decide) (by decide))
  have f2 := c_figure (hf 2 (by decide) (by decide))
  have f3 := c_figure (hf 3 (by decide) (by decide))
  have f4 := c_figure (hf 4 (by decide) (by decide))
  have q1 : inb (nI (i + 1)) 60 = true := inb_nI (by omega) (by decide)
  have q2 : inb (nI (i + 2)) 60 = true := inb_nI (by omega) (by decide)
  have q3 : inb (nI (i + 3)) 60 = true := inb_nI (by omega) (by decide)
  have q4 : inb (nI (i + 4)) 60 = true := inb_nI (by omega) (by decide)
  have g7 : inb (nI c) 7 = true := inb_nI (by omega) (by decide)
  rw [f3_settle_b14, n_5, nI_add, n_7, if_neg e, if_neg e7, gd_t g, ix_k (by omega), hs i (by omega), c_let, b1_at, if_pos cl, if_neg e9]
  simp only [gd_t g7, n_1, n_2, n_3, n_4, nI_add, gd_t q1, gd_t q2, gd_t q3, gd_t q4, nmE, ix_k (show i + 1 < 2 ^ 31 by omega), ix_k (show i + 2 < 2 ^ 31 by omega), ix_k (show i + 3 < 2 ^ 31 by omega), ix_k (show i + 4 < 2 ^ 31 by omega), ix_k (show c < 2 ^ 31 by omega)]
  rw [w_ui (by omega), hs _ (by omega), f1, b1_at, w_ui (by omega), w_ui (by omega), hs _ (by omega), f2, b1_at, w_ui (by omega), w_ui (by omega), w_ui (by omega), hs _ (by omega), f3, b1_at, w_ui (by omega), w_ui (by omega), w_ui (by omega), hs _ (by omega), f4, b1_at, n_10, pk_mul, nI_add]
  unfold f3_settle_b127 stH
  rw [nmE, n_1, nI_add, Nat.add_zero]
theorem c_set_no {tx : Nat → Int32} {z k c i n : Nat} {S : Mem} (hk : k < 4) (hz : z ≤ 60) (hi : i + 5 ≤ z) (hc : c < 7) (hs : ∀ p, p < 60 → gi S (10 + k) p = tx p) (cl : ¬ klN (tx i) < 6) : f3_settle_b14 (n + 1) S (10 + k) 60 (nI z) 0 (nI c) (nI i) = f3_settle_b14 n S (10 + k) 60 (nI z) 0 (nI c) (nI (i + 1)) := by
  have e : ¬ nI z < nI (i + 5) := by rw [n_lt (by omega) (by omega)]; omega
  have e7 : ¬ nI 7 ≤ nI c := by rw [n_le (by omega) (by omega)]; omega
  have g : inb (nI i) 60 = true := inb_nI (by omega) (by decide)
  rw [f3_settle_b14, n_5, nI_add, n_7, if_neg e, if_neg e7, gd_t g, ix_k (by omega), hs i (by omega), c_let, b1_at, if_neg cl, if_pos rfl]
  unfold f3_settle_b127
  rw [nmE, nI_1]
theorem c_set_end {z k c i n : Nat} {S : Mem} (hz : z ≤ 60) (hi : i ≤ z) (hc : c ≤ 7) (h : z < i + 5 ∨ c = 7) : f3_settle_b14 (n + 1) S (10 + k) 60 (nI z) 0 (nI c) (nI i) = some (ui S 15 3 (nI c)) := by
  rw [f3_settle_b14, n_5, nI_add, n_7]
  unfold f3_settle_b133
  simp only [n_lt (show z < 2 ^ 31 by omega) (show i + 5 < 2 ^ 31 by omega), n_le (show 7 < 2 ^ 31 by omega) (show c < 2 ^ 31 by omega), nmE]
  by_cases u : z < i + 5
  · rw [if_pos u]
  · rw [if_neg u, if_pos (by omega)]
theorem stH_tx {tx : Nat → Int32} {S : Mem} {c i k : Nat} (hk : k < 4) (hs : ∀ p, p < 60 → gi S (10 + k) p = tx p) : ∀ p, p < 60 → gi (stH tx S c i) (10 + k) p = tx p := fun p hp => by
  unfold stH
  rw [w_ui (by omega), w_ui (by omega), w_ui (by omega), w_ui (by omega)]
  exact hs p hp
theorem stH_FS {tx : Nat → Int32} {S : Mem} {c i : Nat} : FS S (stH tx S c i) := (((FS.rf.u _ _ (by omega)).u _ _ (by omega)).u _ _ (by omega)).u _ _ (by omega)
theorem stH_SI {tx : Nat → Int32} {S : Mem} {i : Nat} (I : SI tx S i) (lb : LB tx i = true) : SI tx (stH tx S (cntN (LB tx) i) i) (i + 1) := fun q hq hl => by
  rcases Nat.lt_or_ge q i with u | u
  · obtain ⟨a1, a2, a3, a4⟩ := I q u hl
    have b := cnt_lt u hl
    have w (a j : Nat) (v : Int32) (X : Mem) (x : Nat) (hj : cntN (LB tx) q ≠ j) : gi (ui X a j v) x (cntN (LB tx) q) = gi X x (cntN (LB tx) q) := by
      rw [gi_ui, if_neg (fun h => hj h.2)]
    have s (x : Nat) : gi (stH tx S (cntN (LB tx) i) i) x (cntN (LB tx) q) = gi S x (cntN (LB tx) q) := by
      unfold stH
      rw [w _ _ _ _ _ (by omega), w _ _ _ _ _ (by omega), w _ _ _ _ _ (by omega), w _ _ _ _ _ (by omega)]
    exact ⟨(s 16).trans a1, (s 17).trans a2, (s 18).trans a3, (s 195).trans a4⟩
  · have e : q = i := by omega
    subst e
    unfold stH
    refine ⟨?_, ?_, ?_, ?_⟩
    · rw [gi_ui, if_neg (by omega), gi_ui, if_neg (by omega), gi_ui, if_neg (by omega), gi_ui, if_pos ⟨rfl, rfl⟩]
    · rw [gi_ui, if_neg (by omega), gi_ui, if_neg (by omega), gi_ui, if_pos ⟨rfl, rfl⟩]
    · rw [gi_ui, if_neg (by omega), gi_ui, if_pos ⟨rfl, rfl⟩]
    · rw [gi_ui, if_pos ⟨rfl, rfl⟩]
theorem set_fin {tx : Nat → Int32} {S : Mem} {i z : Nat} (hi : i ≤ z) (I : SI tx S i) (hno : ∀ q, i ≤ q → q < z → ¬ LB tx q = true) : FS S (ui S 15 3 (nI (cntN (LB tx) i))) ∧ SI tx (ui S 15 3 (nI (cntN (LB tx) i))) z ∧ gi (ui S 15 3 (nI (cntN (LB tx) i))) 15 3 = nI (cntN (LB tx) z) := by
  refine ⟨FS.rf.u _ _ (by omega), fun q hq hl => ?_, ?_⟩
  · have u : q < i := by
      rcases Nat.lt_or_ge q i with u | u
      · exact u
      · exact absurd hl (hno q u hq)
    have := I q u hl
    unfold SV at this ⊢
    rw [gi_ui, if_neg (by omega), gi_ui, if_neg (by omega), gi_ui, if_neg (by omega), gi_ui, if_neg (by omega)]
    exact this
  · rw [gi_ui, if_pos ⟨rfl, rfl⟩, cnt_none hi hno]
theorem c_settle14 {tx : Nat → Int32} {z k : Nat} (hk : k < 4) (hz : z ≤ 60) (h7 : cntN (LB tx) z ≤ 7) (hg : ∀ q, q < z → LB tx q = true → q + 5 ≤ z ∧ fgs tx q) : ∀ (n i : Nat) (S : Mem), z - i < n → i ≤ z → (∀ p, p < 60 → gi S (10 + k) p = tx p) → SI tx S i → ∃ S', f3_settle_b14 n S (10 + k) 60 (nI z) 0 (nI (cntN (LB tx) i)) (nI i) = some S' ∧ FS S S' ∧ SI tx S' z ∧ gi S' 15 3 = nI (cntN (LB tx) z) := by
  intro n
  induction n with
  | zero =>
    intro i S h
    omega
  | succ n ih =>
    intro i S hn hi hs I
    have h8 := cnt_mono (LB tx) hi
    by_cases c : z < i + 5
    · exact ⟨_, c_set_end hz hi (by omega) (Or.inl c), set_fin hi I (fun q a b l => by have := (hg q b l).1; omega)⟩
    · by_cases c7 : cntN (LB tx) i = 7
      · exact ⟨_, c_set_end hz hi (by omega) (Or.inr c7), set_fin hi I (fun q a b l => by
          have := cnt_lt b l
          have := cnt_mono (LB tx) a
          omega)⟩
      · by_cases lb : LB tx i = true
        · have ec : cntN (LB tx) (i + 1) = cntN (LB tx) i + 1 := by rw [cntN, if_pos lb]
          obtain ⟨S', h1, h2, h3, h4⟩ := ih (i + 1) (stH tx S (cntN (LB tx) i) i) (by omega) (by omega) (stH_tx hk hs) (stH_SI I lb)
          rw [ec] at h1
          exact ⟨S', (c_set_go hk hz (by omega) (by omega) hs (of_decide_eq_true lb) (hg i (by omega) lb).2).trans h1, stH_FS.tr h2, h3, h4⟩
        · have ec : cntN (LB tx) (i + 1) = cntN (LB tx) i := by rw [cntN, if_neg lb, Nat.add_zero]
          obtain ⟨S', h1, h2, h3, h4⟩ := ih (i + 1) S (by omega) (by omega) hs (fun q hq hl => by
            rcases Nat.lt_or_ge q i with u | u
            · exact I q u hl
            · have e : q = i := by omega
              subst e
              exact absurd hl lb)
          rw [ec] at h1
          exact ⟨S', (c_set_no hk hz (by omega) (by omega) hs (fun u => lb (decide_eq_true u))).trans h1, h2, h3, h4⟩
theorem m_place50 : ∀ (n i : Nat) (T : Mem), 9 - i < n → i ≤ 9 → f4_place_b50 n T (nI i) = f4_place_b71 FU (upG T 11 i 9 (fun _ => 0)) 0
  | 0, i, T, h, _ => by omega
  | n + 1, i, T, hn, hi => by
    rw [f4_place_b50, n_9]
    rcases Nat.lt_or_ge i 9 with q | q
    · have e : ¬ nI 9 ≤ nI i := by rw [n_le (by omega) (by omega)]; omega
      rw [if_neg e, gd_ix q (by decide), ix_k (by omega), nmE, nmE, nI_1, m_place50 n (i + 1) _ (by omega) (by omega)]
      rw [upG_step (G := fun _ => (0 : Int32)) q]
    · have e : i = 9 := by omega
      subst e
      rw [if_pos (Int32.le_refl _), upG_nil (Nat.le_refl _)]
theorem m_place151 : ∀ (n i : Nat) (T : Mem), 3 - i < n → i ≤ 3 → f4_place_b151 n T (nI i) = some (gi T 0 12, upG T 13 i 3 (fun _ => -1))
  | 0, i, T, h, _ => by omega
  | n + 1, i, T, hn, hi => by
    rw [f4_place_b151, n_3]
    rcases Nat.lt_or_ge i 3 with q | q
    · have e : ¬ nI 3 ≤ nI i := by rw [n_le (by omega) (by omega)]; omega
      rw [if_neg e, gd_ix q (by decide), ix_k (by omega), nmE, nmE, nI_1, m_place151 n (i + 1) _ (by omega) (by omega)]
      rw [upG_step (G := fun _ => (-1 : Int32)) q, gi_ui, if_neg (by omega)]
    · have e : i = 3 := by omega
      subst e
      rw [if_pos (Int32.le_refl _), upG_nil (Nat.le_refl _)]
theorem m_place71 {h : Nat} (hh : h ≤ 7) : ∀ (n i : Nat) (T : Mem), h - i < n → i ≤ h → gi T 0 12 = nI h → ∃ T', f4_place_b71 n T (nI i) = f4_place_b151 FU T' 0 ∧ (∀ a p, ¬ (8 ≤ a ∧ a ≤ 11) → gi T' a p = gi T a p) ∧ (∀ p, gl T' p = gl T p) ∧ (∀ p, p < 2 ∨ 2 + h ≤ p → gi T' 11 p = gi T 11 p) ∧ (∀ a p, 8 ≤ a → a ≤ 10 → p < i → gi T' a p = gi T a p) ∧ (∀ p, p < i → gi T' 11 (2 + p) = gi T 11 (2 + p)) ∧ ∀ p, i ≤ p → p < h → gi T' 8 p = gi T 7 (4 * p) ∧ gi T' 9 p = gi T 7 (4 * p + 1) ∧ gi T' 10 p = gi T 7 (4 * p + 2) ∧ gi T' 11 (2 + p) = gi T 7 (4 * p + 3)
  | 0, i, T, h, _, _ => by omega
  | n + 1, i, T, hn, hi, ht => by
    rw [f4_place_b71, ht]
    rcases Nat.lt_or_ge i h with q | q
    · have e : ¬ nI h ≤ nI i := by rw [n_le (by omega) (by omega)]; omega
      have g7 : inb (nI i) 7 = true := inb_nI (by omega) (by decide)
      have q0 : inb (nI (4 * i)) 28 = true := inb_nI (by omega) (by decide)
      have q1 : inb (nI (4 * i + 1)) 28 = true := inb_nI (by omega) (by decide)
      have q2 : inb (nI (4 * i + 2)) 28 = true := inb_nI (by omega) (by decide)
      have q3 : inb (nI (4 * i + 3)) 28 = true := inb_nI (by omega) (by decide)
      have q9 : inb (nI (2 + i)) 9 = true := inb_nI (by omega) (by decide)
      rw [if_neg e]
      simp only [n_4, n_1, n_2, n_3, pk_mul, nI_add, gd_t g7, gd_t q0, gd_t q1, gd_t q2, gd_t q3, gd_t q9, ix_k (show i < 2 ^ 31 by omega), ix_k (show 4 * i < 2 ^ 31 by omega), ix_k (show 4 * i + 1 < 2 ^ 31 by omega), ix_k (show 4 * i + 2 < 2 ^ 31 by omega), ix_k (show 4 * i + 3 < 2 ^ 31 by omega), ix_k (show 2 + i < 2 ^ 31 by omega), nmE]
      have w (a j : Nat) (v : Int32) (X : Mem) (p : Nat) (ha : a ≠ 7) : gi (ui X a j v) 7 p = gi X 7 p := by
        rw [gi_ui, if_neg (by omega)]
      simp only [w _ _ _ _ _ (show 8 ≠ 7 by decide), w _ _ _ _ _ (show 9 ≠ 7 by decide), w _ _ _ _ _ (show 10 ≠ 7 by decide)]
      obtain ⟨T', h1, h2, h3, h4, h5, h6, h7⟩ := m_place71 hh n (i + 1) (ui (ui (ui (ui T 8 i (gi T 7 (4 * i))) 9 i (gi T 7 (4 * i + 1))) 10 i (gi T 7 (4 * i + 2))) 11 (2 + i) (gi T 7 (4 * i + 3))) (by omega) (by omega) (by
        rw [gi_ui, if_neg (by omega), gi_ui, if_neg (by omega), gi_ui, if_neg (by omega), gi_ui, if_neg (by omega)]
        exact ht)
      refine ⟨T', h1, fun a p ha => ?_, h3, fun p hp => ?_, fun a p x y hp => ?_, fun p hp => ?_, fun p x y => ?_⟩
      · rw [h2 a p ha, gi_ui, if_neg (by omega), gi_ui, if_neg (by omega), gi_ui, if_neg (by omega), gi_ui, if_neg (by omega)]
      · rw [h4 p (by omega), gi_ui, if_neg (by omega), gi_ui, if_neg (by omega), gi_ui, if_neg (by omega), gi_ui, if_neg (by omega)]
      · rw [h5 a p x y (by omega), gi_ui, if_neg (by omega), gi_ui, if_neg (by omega), gi_ui, if_neg (by omega), gi_ui, if_neg (by omega)]
      · rw [h6 p (by omega), gi_ui, if_neg (by omega), gi_ui, if_neg (by omega), gi_ui, if_neg (by omega), gi_ui, if_neg (by omega)]
      · rcases Nat.lt_or_ge i p with u | u
        · have := h7 p u y
          rw [w _ _ _ _ _ (by decide), w _ _ _ _ _ (by decide), w _ _ _ _ _ (by decide), w _ _ _ _ _ (by decide), w _ _ _ _ _ (by decide), w _ _ _ _ _ (by decide), w _ _ _ _ _ (by decide), w _ _ _ _ _ (by decide), w _ _ _ _ _ (by decide), w _ _ _ _ _ (by decide), w _ _ _ _ _ (by decide), w _ _ _ _ _ (by decide), w _ _ _ _ _ (by decide), w _ _ _ _ _ (by decide), w _ _ _ _ _ (by decide), w _ _ _ _ _ (by decide)] at this
          exact this
        · have e : p = i := by omega
          subst e
          refine ⟨?_, ?_, ?_, ?_⟩
          · rw [h5 8 p (by decide) (by decide) (by omega), gi_ui, if_neg (by omega), gi_ui, if_neg (by omega), gi_ui, if_neg (by omega), gi_ui, if_pos ⟨rfl, rfl⟩]
          · rw [h5 9 p (by decide) (by decide) (by omega), gi_ui, if_neg (by omega), gi_ui, if_neg (by omega), gi_ui, if_pos ⟨rfl, rfl⟩]
          · rw [h5 10 p (by decide) (by decide) (by omega), gi_ui, if_neg (by omega), gi_ui, if_pos ⟨rfl, rfl⟩]
          · rw [h6 p (by omega), gi_ui, if_pos ⟨rfl, rfl⟩]
    · have e : i = h := by omega
      subst e
      rw [if_pos (Int32.le_refl _)]
      exact ⟨T, rfl, fun _ _ _ => rfl, fun _ => rfl, fun _ _ => rfl, fun _ _ _ _ _ => rfl, fun _ _ => rfl, fun p x y => by omega⟩
theorem c_place37 (S : Mem) {k : Nat} (hk : k < 4) : f3_place_b37 FU S (nI k) 0 = b1 (f3_settle (ui (ui (ui S 23 1 (-1)) 24 1 (-1)) 25 1 (-1)) (10 + k) 60 (gi S 14 k)) (fun S5 => some (gi S5 15 3, S5)) := by
  have g1 : inb (nI k) 4 = true := inb_nI hk (by decide)
  have st (n i : Nat) (X : Mem) (hi : i < 3) : f3_place_b37 (n + 1) X (nI k) (nI i) = f3_place_b37 n (ui X (22 + (1 + i)) 1 (-1)) (nI k) (nI (i + 1)) := by
    have e : ¬ (3 : Int32) ≤ nI i := by rw [n_3, n_le (by omega) (by omega)]; omega
    rw [f3_place_b37, if_neg e, gd_ix hi (by decide), ix_k (by omega), nmE, nmE, nI_1]
  have e0 : f3_place_b37 FU S (nI k) 0 = _ := st 1999 0 S (by decide)
  have e1 (X : Mem) : f3_place_b37 1999 X (nI k) (nI (0 + 1)) = _ := st 1998 1 X (by decide)
  have e2 (X : Mem) : f3_place_b37 1998 X (nI k) (nI (1 + 1)) = _ := st 1997 2 X (by decide)
  have e3 (X : Mem) : f3_place_b37 (1996 + 1) X (nI k) (nI (2 + 1)) = b1 (f3_settle X (10 + k) 60 (gi X 14 k)) (fun S5 => some (gi S5 15 3, S5)) := by
    rw [f3_place_b37, if_pos (by decide), gd_t g1, gd_t g1, ix_k (by omega)]
  have e3' (X : Mem) : f3_place_b37 1997 X (nI k) (nI (2 + 1)) = _ := e3 X
  rw [e0, e1, e2, e3', gi_ui, if_neg (by omega), gi_ui, if_neg (by omega), gi_ui, if_neg (by omega)]
