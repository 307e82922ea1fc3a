/-! FAULT -/
theorem in_step {tx : Nat → Int32} {T : Mem} {i w : Nat} (h1 : 1 ≤ w) (h4 : w < 5) (I : RI tx T i w) (f : rng (tx (i + w)) 48 57 = true) : ∃ v, gi T 7 (4 * cntN (LB tx) i + min w 3) = nI v ∧ v ≤ 9 ∧ RI tx (ui (ui T 7 (4 * cntN (LB tx) i + min w 3) (nI (10 * v + dN (tx (i + w))))) 0 11 (nI (cntN (LB tx) i + if w = 4 then 1 else 0))) i (w + 1) := by
  have hf := (fg_ex f).1
  have fg' : ∀ j, 1 ≤ j → j < w + 1 → rng (tx (i + j)) 48 57 = true := fun j a b => by
    rcases Nat.lt_or_ge j w with q | q
    · exact I.fg j a q
    · have e : j = w := by omega
      subst e
      exact f
  have ro (x y : Int32) (j : Nat) (hj : 4 * cntN (LB tx) i ≤ j) : RO tx (ui (ui T 7 j x) 0 11 y) i := I.ro.keep (fun p hp => by
    rw [gi_ui, if_neg (by omega), gi_ui, if_neg (by omega)])
  have G (j : Nat) (x y : Int32) (p : Nat) : gi (ui (ui T 7 j x) 0 11 y) 7 p = if p = j then x else gi T 7 p := by
    rw [gi_ui, if_neg (by omega), gi_ui]
    simp only [true_and]
  have a0 := I.g0
  have a1 := I.g1
  have a2 := I.g2
  have a3 := I.g3
  have hw : w = 1 ∨ w = 2 ∨ w = 3 ∨ w = 4 := by omega
  rcases hw with rfl | rfl | rfl | rfl
  · refine ⟨0, a1, by decide, I.hl, I.he, ro _ _ _ (by omega), ?_, ?_, ?_, ?_, fg', rfl⟩
    · rw [G, if_neg (by omega)]; exact a0
    · rw [G, if_pos (by omega)]; simp
    · rw [G, if_neg (by omega)]; exact a2
    · rw [G, if_neg (by omega)]; exact a3
  · refine ⟨0, a2, by decide, I.hl, I.he, ro _ _ _ (by omega), ?_, ?_, ?_, ?_, fg', rfl⟩
    · rw [G, if_neg (by omega)]; exact a0
    · rw [G, if_neg (by omega)]; exact a1
    · rw [G, if_pos (by omega)]; simp
    · rw [G, if_neg (by omega)]; exact a3
  · refine ⟨0, a3, by decide, I.hl, I.he, ro _ _ _ (by omega), ?_, ?_, ?_, ?_, fg', rfl⟩
    · rw [G, if_neg (by omega)]; exact a0
    · rw [G, if_neg (by omega)]; exact a1
    · rw [G, if_neg (by omega)]; exact a2
    · rw [G, if_pos (by omega)]; simp
  · refine ⟨dN (tx (i + 3)), a3, (fg_ex (I.fg 3 (by decide) (by decide))).1, I.hl, I.he, ro _ _ _ (by omega), ?_, ?_, ?_, ?_, fg', rfl⟩
    · rw [G, if_neg (by omega)]; exact a0
    · rw [G, if_neg (by omega)]; exact a1
    · rw [G, if_neg (by omega)]; exact a2
    · rw [G, if_pos (by omega)]; simp
theorem m_fstep {tx : Nat → Int32} {T : Mem} {i w z k n : Nat} (hk : k < 4) (hz : z ≤ 60) (h1 : 1 ≤ w) (h4 : w < 5) (hp : i + w < z) (ht : ∀ p, p < 60 → gi T 5 (60 * k + p) = tx p) (I : RI tx T i w) : f4_reads_b17 (n + 1) T (nI k) (nI z) (nI (i + w)) (nI w) = if rng (tx (i + w)) 48 57 = true then (f4_reads_b17 n (ui (ui T 7 (4 * cntN (LB tx) i + min w 3) ((10 * gi T 7 (4 * cntN (LB tx) i + min w 3) + tx (i + w)) - 48)) 0 11 (nI (cntN (LB tx) i + if w = 4 then 1 else 0))) (nI k) (nI z) (nI (i + (w + 1))) (if w + 1 = 5 then 0 else nI (w + 1))) else some (nI (i + w), T) := by
  have hn : gi T 0 11 = nI (cntN (LB tx) i) := by
    rw [I.nh, if_neg (by omega), Nat.add_zero]
  have he := I.he
  have e1 : ¬ nI z ≤ nI (i + w) := by rw [n_le (by omega) (by omega)]; omega
  have e2 : (60 : Int32) * nI k + nI (i + w) = nI (60 * k + (i + w)) := by rw [n_60, pk_mul, nI_add]
  have g2 : inb (nI (60 * k + (i + w))) 240 = true := inb_nI (by omega) (by decide)
  have e3 : ¬ nI w = 0 := nI_ne0 (by omega) (by omega)
  have e4 : ¬ nI w ≤ 0 := by rw [n_0, n_le (by omega) (by omega)]; omega
  rw [f4_reads_b17, if_neg e1]
  simp only [e2, gd_t g2, ix_k (show 60 * k + (i + w) < 2 ^ 31 by omega), ht (i + w) (by omega), nmE, m_fig, b1_at, if_neg e3]
  unfold f4_reads_b136
  rw [if_neg e4]
  by_cases c : rng (tx (i + w)) 48 57 = true
  · have e5 : (4 : Int32) * nI (cntN (LB tx) i) + nI (min w 3) = nI (4 * cntN (LB tx) i + min w 3) := by rw [n_4, pk_mul, nI_add]
    have g3 : inb (nI (4 * cntN (LB tx) i + min w 3)) 28 = true := inb_nI (by omega) (by decide)
    have key : f4_reads_b160 (f4_reads_b17 n) T (nI k) (nI z) (nI (i + w)) (nI w) (tx (i + w)) (4 * nI (cntN (LB tx) i)) (nI (min w 3)) = f4_reads_b17 n (ui (ui T 7 (4 * cntN (LB tx) i + min w 3) ((10 * gi T 7 (4 * cntN (LB tx) i + min w 3) + tx (i + w)) - 48)) 0 11 (nI (cntN (LB tx) i + if w = 4 then 1 else 0))) (nI k) (nI z) (nI (i + (w + 1))) (if w + 1 = 5 then 0 else nI (w + 1)) := by
      unfold f4_reads_b160 f4_reads_b205 f4_reads_b222 f4_reads_b226
      have hh (v : Int32) : gi (ui T 7 (4 * cntN (LB tx) i + min w 3) v) 0 11 = nI (cntN (LB tx) i) := by
        rw [gi_ui, if_neg (by omega)]
        exact hn
      simp only [e5, gd_t g3, ix_k (show 4 * cntN (LB tx) i + min w 3 < 2 ^ 31 by omega), nmE, hh, nI_1]
      by_cases d : w = 4
      · subst d
        simp only [show (nI 4 = 4) = True from eq_true rfl, if_true, n_1, nI_add, Nat.add_assoc]
      · have d2 : ¬ nI w = 4 := by rw [n_4, n_eq (by omega) (by omega)]; exact d
        have d3 : ¬ nI (w + 1) = 0 := nI_ne0 (by omega) (by omega)
        simp only [if_neg d2, if_neg d3, if_neg d, if_neg (show ¬ w + 1 = 5 by omega), Nat.add_assoc, Nat.add_zero, Int32.add_zero]
    rw [if_pos c, if_pos c, if_neg (by decide), hn, ← key]
    by_cases d : 3 ≤ w
    · have d2 : (3 : Int32) ≤ nI w := by rw [n_3, n_le (by omega) (by omega)]; exact d
      rw [if_pos d2, Nat.min_eq_right d]
      rfl
    · have d2 : ¬ (3 : Int32) ≤ nI w := by rw [n_3, n_le (by omega) (by omega)]; exact d
      rw [if_neg d2, Nat.min_eq_left (by omega)]
  · rw [if_neg c, if_neg c, if_pos rfl]
theorem in4 {tx : Nat → Int32} {S : Mem} {i z k n : Nat} (hk : k < 4) (hz : z ≤ 60) (hs : ∀ p, p < 60 → gi S (10 + k) p = tx p)
    (cont : ∀ mm T', z - (i + 5) < mm → i + 5 ≤ z → RD tx T' (i + 5) → (∀ p, p < 60 → gi T' 5 (60 * k + p) = tx p) → AG tx z T' (f3_firstFault_b4 S n (10 + k) 60 (nI z) (nI (cntN (LB tx) (i + 5))) (nI (i + 5))) (f4_reads_b17 mm T' (nI k) (nI z) (nI (i + 5)) 0)) :
    ∀ (d w nn mm : Nat) (T : Mem), w + d = 5 → 1 ≤ w → d < nn → i + w ≤ z → z - (i + w) < mm → RI tx T i w → (∀ p, p < 60 → gi T 5 (60 * k + p) = tx p) → AG tx z T (f3_firstFault_b45 (f3_firstFault_b4 S n) S nn (10 + k) 60 (nI z) (nI (cntN (LB tx) i)) (nI i) (nI w)) (f4_reads_b17 mm T (nI k) (nI z) (nI (i + w)) (if w = 5 then 0 else nI w))
  | d, w, 0, mm, T, _, _, h, _, _, _, _ => by omega
  | d, w, nn + 1, 0, T, _, _, _, _, h, _, _ => by omega
  | d, w, nn + 1, mm + 1, T, hd, h1, hn, hp, hm, I, ht => by
    rw [f3_firstFault_b45, n_5]
    by_cases c5 : w = 5
    · subst c5
      have e := I.cnt5
      rw [if_pos (Int32.le_refl _), if_pos rfl, nmE, nmE, nI_1, nI_add, ← e]
      exact cont (mm + 1) T hm hp I.done ht
    · have e5 : ¬ nI 5 ≤ nI w := by rw [n_le (by omega) (by omega)]; omega
      rw [if_neg e5, if_neg c5, nI_add]
      by_cases cz : i + w = z
      · rw [cz, if_pos (Int32.le_refl _), f4_reads_b17, if_pos (Int32.le_refl _)]
        have e6 : (0 : Int32) < nI w := by rw [n_0, n_lt (by omega) (by omega)]; omega
        rw [if_pos e6]
        exact Or.inl ⟨z, T, hz, rfl, rfl, FR.rf⟩
      · have e7 : ¬ nI z ≤ nI (i + w) := by rw [n_le (by omega) (by omega)]; omega
        have g : inb (nI (i + w)) 60 = true := inb_nI (by omega) (by decide)
        rw [if_neg e7, gd_t g, ix_k (by omega), hs _ (by omega), c_fig, b1_at, m_fstep hk hz h1 (by omega) (by omega) ht I]
        by_cases f : rng (tx (i + w)) 48 57 = true
        · rw [if_pos f, if_pos f, if_neg (by decide), nmE, nI_1]
          obtain ⟨v, v1, v2, v3⟩ := in_step h1 (by omega) I f
          have ev : (10 * gi T 7 (4 * cntN (LB tx) i + min w 3) + tx (i + w)) - 48 = nI (10 * v + dN (tx (i + w))) := by
            obtain ⟨f1, f2⟩ := fg_ex f
            rw [v1, n_10, pk_mul, f2, nI_add, n_48, n_sub (by omega)]
            rw [← f2]
            congr 1
            omega
          rw [ev]
          refine AG.tr ((FR.rf.u7 _ _).u11 _) (in4 hk hz hs cont (d - 1) (w + 1) nn mm _ (by omega) (by omega) (by omega) (by omega) (by omega) v3 (fun p hp => ?_))
          rw [gi_ui, if_neg (by omega), gi_ui, if_neg (by omega)]
          exact ht p hp
        · rw [if_neg f, if_neg f, if_pos rfl]
          exact Or.inl ⟨i + w, T, by omega, rfl, rfl, FR.rf⟩
theorem read_loop {tx : Nat → Int32} {S : Mem} {z k : Nat} (hk : k < 4) (hz : z ≤ 60) (hs : ∀ p, p < 60 → gi S (10 + k) p = tx p) : ∀ (n mm i : Nat) (T : Mem), z - i < n → z - i < mm → i ≤ z → RD tx T i → (∀ p, p < 60 → gi T 5 (60 * k + p) = tx p) → AG tx z T (f3_firstFault_b4 S n (10 + k) 60 (nI z) (nI (cntN (LB tx) i)) (nI i)) (f4_reads_b17 mm T (nI k) (nI z) (nI i) 0)
  | 0, _, i, _, h, _, _, _, _ => by omega
  | n + 1, 0, i, _, _, h, _, _, _ => by omega
  | n + 1, mm + 1, i, T, hn, hm, hi, D, ht => by
    obtain ⟨d1, d2, d3⟩ := D
    rw [f3_firstFault_b4, f4_reads_b17]
    rcases Nat.lt_or_ge i z with q | q
    · have e1 : ¬ nI z ≤ nI i := by rw [n_le (by omega) (by omega)]; omega
      have g : inb (nI i) 60 = true := inb_nI (by omega) (by decide)
      have e2 : (60 : Int32) * nI k + nI i = nI (60 * k + i) := by rw [n_60, pk_mul, nI_add]
      have g2 : inb (nI (60 * k + i)) 240 = true := inb_nI (by omega) (by decide)
      simp only [if_neg e1, gd_t g, ix_k (show i < 2 ^ 31 by omega), hs i (by omega), e2, gd_t g2, ix_k (show 60 * k + i < 2 ^ 31 by omega), ht i (by omega), nmE, m_fig, b1_at, if_true, d1]
      by_cases c : tx i = 32
      · have lb : LB tx i = false := by
          unfold LB
          rw [c]
          rfl
        have ec : cntN (LB tx) (i + 1) = cntN (LB tx) i := by rw [cntN, lb]; rfl
        have D' : RD tx T (i + 1) := ⟨by rw [ec]; exact d1, by rw [ec]; exact d2, fun p hp hl => by
          rcases Nat.lt_or_ge p i with u | u
          · obtain ⟨x, y⟩ := d3 p u hl
            exact ⟨by omega, y⟩
          · have e : p = i := by omega
            subst e
            rw [lb] at hl
            exact absurd hl (by decide)⟩
        have r := read_loop hk hz hs n mm (i + 1) T (by omega) (by omega) (by omega) D' ht
        rw [ec] at r
        unfold f4_reads_b136 f4_reads_b226
        simp only [if_pos c, Int32.le_refl, if_true, nmE, nI_1]
        exact r
      · simp only [if_neg c, c_let, m_let, b1_at]
        by_cases c7 : cntN (LB tx) i = 7
        · rw [c7, if_pos (show nI 7 = 7 from rfl)]
          refine Or.inl ⟨i, T, by omega, rfl, ?_, FR.rf⟩
          by_cases cl : klN (tx i) < 6
          · have e8 : ¬ nI (klN (tx i)) < 0 := by rw [n_0, n_lt (by omega) (by omega)]; omega
            rw [if_pos cl, if_neg e8, if_pos (show nI 7 = 7 from rfl)]
          · rw [if_neg cl, if_pos (by decide)]
        · have e7 : ¬ nI (cntN (LB tx) i) = 7 := by rw [n_7, n_eq (by omega) (by omega)]; exact c7
          rw [if_neg e7]
          by_cases cl : klN (tx i) < 6
          · have e8 : ¬ nI (klN (tx i)) < 0 := by rw [n_0, n_lt (by omega) (by omega)]; omega
            have e9 : ¬ nI (klN (tx i)) = -9 := by rw [show (-9 : Int32) = -nI 9 from rfl, n_neg (by omega) (by decide) (by decide)]; exact id
            rw [if_pos cl, if_pos cl, if_neg e8, if_neg e7, if_neg e9]
            have b0 : (4 : Int32) * nI (cntN (LB tx) i) = nI (4 * cntN (LB tx) i) := by rw [n_4, pk_mul]
            have b1' : nI (4 * cntN (LB tx) i) + 1 = nI (4 * cntN (LB tx) i + 1) := by rw [n_1, nI_add]
            have b2' : nI (4 * cntN (LB tx) i) + 2 = nI (4 * cntN (LB tx) i + 2) := by rw [n_2, nI_add]
            have b3' : nI (4 * cntN (LB tx) i) + 3 = nI (4 * cntN (LB tx) i + 3) := by rw [n_3, nI_add]
            have k0 : inb (nI (4 * cntN (LB tx) i)) 28 = true := inb_nI (by omega) (by decide)
            have k1 : inb (nI (4 * cntN (LB tx) i + 1)) 28 = true := inb_nI (by omega) (by decide)
            have k2 : inb (nI (4 * cntN (LB tx) i + 2)) 28 = true := inb_nI (by omega) (by decide)
            have k3 : inb (nI (4 * cntN (LB tx) i + 3)) 28 = true := inb_nI (by omega) (by decide)
            unfold f4_reads_b226
            simp only [b0, b1', b2', b3', gd_t k0, gd_t k1, gd_t k2, gd_t k3, ix_k (show 4 * cntN (LB tx) i < 2 ^ 31 by omega), ix_k (show 4 * cntN (LB tx) i + 1 < 2 ^ 31 by omega), ix_k (show 4 * cntN (LB tx) i + 2 < 2 ^ 31 by omega), ix_k (show 4 * cntN (LB tx) i + 3 < 2 ^ 31 by omega), nmE, nI_1]
            have lb : LB tx i = true := by
              unfold LB
              exact decide_eq_true cl
            refine AG.tr ((((FR.rf.u7 _ _).u7 _ _).u7 _ _).u7 _ _) (in4 hk hz hs (fun mm' T' a b c d => read_loop hk hz hs n mm' (i + 5) T' (by omega) a b c d) 4 1 FU mm _ rfl (by decide) (by decide) (by omega) (by omega) ⟨lb, by omega, d3.keep (fun j hj => ?_), ?_, ?_, ?_, ?_, fun j a b => by omega, ?_⟩ (fun p hp => ?_))
            · rw [gi_ui, if_neg (by omega), gi_ui, if_neg (by omega), gi_ui, if_neg (by omega), gi_ui, if_neg (by omega)]
            · rw [gi_ui, if_neg (by omega), gi_ui, if_neg (by omega), gi_ui, if_neg (by omega), gi_ui, if_pos (by omega)]
            · rw [gi_ui, if_neg (by omega), gi_ui, if_neg (by omega), gi_ui, if_pos (by omega)]
              rfl
            · rw [gi_ui, if_neg (by omega), gi_ui, if_pos (by omega)]
              rfl
            · rw [gi_ui, if_pos (by omega)]
              rfl
            · rw [gi_ui, if_neg (by omega), gi_ui, if_neg (by omega), gi_ui, if_neg (by omega), gi_ui, if_neg (by omega)]
              exact d1
            · rw [gi_ui, if_neg (by omega), gi_ui, if_neg (by omega), gi_ui, if_neg (by omega), gi_ui, if_neg (by omega)]
              exact ht p hp
          · rw [if_neg cl, if_neg cl, if_pos (show (-9 : Int32) = -9 from rfl), if_pos (show (-1 : Int32) < 0 by decide)]
            exact Or.inl ⟨i, T, by omega, rfl, rfl, FR.rf⟩
    · have e : i = z := by omega
      subst e
      simp only [if_pos (Int32.le_refl _), if_neg (show ¬ (0 : Int32) < 0 by decide), d1]
      by_cases c : 2 ≤ cntN (LB tx) i
      · have e2 : (2 : Int32) ≤ nI (cntN (LB tx) i) := by rw [n_2, n_le (by omega) (by omega)]; exact c
        rw [if_pos e2, if_pos e2]
        exact Or.inr ⟨T, rfl, rfl, FR.rf, ⟨d1, d2, d3⟩, c⟩
      · have e2 : ¬ (2 : Int32) ≤ nI (cntN (LB tx) i) := by rw [n_2, n_le (by omega) (by omega)]; exact c
        rw [if_neg e2, if_neg e2]
        exact Or.inl ⟨i, T, hz, rfl, rfl, FR.rf⟩
termination_by n => n
theorem p_reads {S T : Mem} (R : Rel S T) {k z : Nat} (hk : k < 4) (hz : z ≤ 60) (h2 : gi T 4 k = nI z) : AG (fun p => gi S (10 + k) p) z T (f3_firstFault S (10 + k) 60 (nI z)) (f4_reads T (nI k)) := by
  have g1 : inb (nI k) 4 = true := inb_nI hk (by decide)
  unfold f4_reads
  rw [gd_t g1, ix_k (by omega), h2, nmE, nmE]
  have r := read_loop (tx := fun p => gi S (10 + k) p) (S := S) hk hz (fun _ _ => rfl) FU FU 0 (ui T 0 11 0) (Nat.lt_of_le_of_lt (show z - 0 ≤ 60 by omega) (by decide)) (Nat.lt_of_le_of_lt (show z - 0 ≤ 60 by omega) (by decide)) (by omega) ⟨by rw [gi_ui, if_pos (by omega)]; rfl, Nat.zero_le _, fun q h => absurd h (by omega)⟩ (fun p hp => by
    rw [gi_ui, if_neg (by omega)]
    exact (R.tv hk hp).symm)
  exact AG.tr (FR.rf.u11 _) r
theorem FR.rel {S T T' : Mem} (R : Rel S T) (f : FR T T') : Rel S T' := by
  refine ⟨R.1.keep ⟨fun _ _ _ => rfl, fun _ => rfl⟩ ⟨f.1 _ _ (by decide) (by decide), f.1 _ _ (by decide) (by decide), fun a k _ _ => f.1 _ _ (by omega) (by omega), f.2⟩, R.2.keep PFc.rf ⟨f.1 _ _ (by decide) (by decide), f.1 _ _ (by decide) (by decide), fun a k _ _ _ => f.1 _ _ (by omega) (by omega)⟩⟩
theorem p_fault {S T : Mem} (R : Rel S T) (x : Int32) : ∃ r S' T', f3_fault S x = some (r, S') ∧ f4_fault T x = some (r, T') ∧ Rel S' T' := by
  unfold f3_fault f4_fault
  by_cases hx : inb x 4 = true
  · obtain ⟨k, hk, rfl⟩ := inb_ex hx (by decide)
    rw [c_textRef S hk]
    simp only [m_isText, b1_at, if_pos hx, i10, if_false, gd_t hx, ix_k (show k < 2 ^ 31 by omega)]
    rcases R.tsz hk with ⟨a1, a2, a3⟩ | ⟨z, hz, a1, a2, a3, a4, a5⟩
    · simp only [if_pos a1, if_neg a2, b2_at, m_f1, show ((-3 : Int32) = 0) = False from eq_false (by decide), if_false]
      exact ⟨_, _, _, rfl, rfl, R.find (by decide)⟩
    · rw [a1] at a3
      simp only [a1, if_neg a3, if_pos a4, b2_at, if_true]
      rcases p_reads R hk hz a2 with ⟨r, T', h1, h2, h3, h4⟩ | ⟨T', h1, h2, h3, h4⟩
      · have e : (0 : Int32) ≤ nI r := by rw [n_0, n_le (by omega) (by omega)]; omega
        simp only [h2, h3, b1_at, b2_at, if_pos e]
        refine ⟨_, _, _, rfl, rfl, ?_⟩
        exact h4.rel R
      · have e : ¬ (0 : Int32) ≤ -1 := by decide
        simp only [h1, h2, b1_at, b2_at, if_neg e]
        refine ⟨_, _, _, rfl, rfl, ?_⟩
        exact h3.rel R
  · rw [c_textRef0 S hx]
    simp only [m_isText, b1_at, if_neg hx, if_true, b2_at, show ((-1 : Int32) = 0) = False from eq_false (by decide), if_false]
    exact ⟨_, _, _, rfl, rfl, R⟩
