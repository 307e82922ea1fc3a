theorem p_keep {S T : Mem} (R : Rel S T) (x : Int32) : ∃ r S' T', f3_keep S x = some (r, S') ∧ f4_keep T x = some (r, T') ∧ Rel S' T' := by
  obtain ⟨Rb, h, kd, fi, ha, d, dy, qy, jr, P⟩ := id R
  obtain ⟨H1, H2, H3, H4, H5⟩ := id P
  have hd := H4.1
  have h7 := H1.2.1
  unfold f3_keep f4_keep
  simp only [c_isKeeping, b1_at, show (2 : Int64) = lN 2 from rfl, m_in0 x 2 (by decide)]
  by_cases hx : inb x 3 = true
  · simp only [if_pos hx, i10, if_false]
    obtain ⟨k, hk, rfl⟩ := inb_ex hx (by decide)
    rw [H1.1, H2.1]
    by_cases h0 : h = 0
    · subst h0
      rw [if_pos (show nI 0 = 0 from rfl), if_pos (show nI 0 = 0 from rfl)]
      exact ⟨_, _, _, rfl, rfl, R⟩
    · have ne : ¬ nI h = 0 := nI_ne0 (by omega) (by omega)
      have g : inb (nI (391 * k)) 1173 = true := inb_nI (by omega) (by decide)
      rw [if_neg ne, if_neg ne, gd_t hx, ix_k (by omega), n_391, pk_mul, nmE, gd_t g, ix_k (by omega), nmE]
      obtain ⟨S', a1, a2, a3, a4, a5⟩ := c_story (s0 := 1 + k) (s1 := 0) (d := d) (by omega) (by decide) (by omega) hd FU 0 S (Nat.lt_of_le_of_lt (show d + 1 - 0 ≤ 41 by omega) (by decide)) (by omega) H4.2.1
      obtain ⟨T', c1, c2, c3, c4, c5, c6, c7, c8⟩ := m_keepAll (T := T) hk
      have a1' : f2_become S (1 + k) 0 = some S' := a1
      rw [H2.1] at c1 c5
      rw [H3] at c1 c4
      have s0 : gi S' (22 + 0) 1 = nI d := by
        rw [a2 _ _ (by omega) (by omega)]
        exact H4.2.1
      rw [a1', b1_at, s0, c1]
      refine ⟨_, _, _, rfl, rfl, Rb.keep ⟨fun a p ha => a2 a p (by omega) (by omega), a3⟩ ⟨c2 _ _ (by omega) (by omega), c2 _ _ (by omega) (by omega), fun a p x y => c2 a p (by omega) (by omega), c3⟩, h, kd, fi, ha, d, dy, qy, jr, ⟨?_, h7, fun i hi => ?_⟩, ⟨?_, h7, fun i hi => ?_⟩, ?_, H4.gen h7 ?_ (fun e p he => ⟨?_, ?_⟩) (fun i hi => c2 _ _ (by omega) (by omega)) (fun e i he hi => c2 _ _ (by omega) (by omega)), fun j hj => ?_⟩
      · rw [a2 _ _ (by omega) (by omega)]
        exact H1.1
      · rw [a2 _ _ (by omega) (by omega), a2 _ _ (by omega) (by omega), a2 _ _ (by omega) (by omega)]
        exact H1.2.2 i hi
      · rw [c2 _ _ (by omega) (by omega)]
        exact H2.1
      · rw [c2 _ _ (by omega) (by omega), c2 _ _ (by omega) (by omega), c2 _ _ (by omega) (by omega)]
        exact H2.2.2 i hi
      · rw [c2 _ _ (by omega) (by omega)]
        exact H3
      · exact a2 _ _ (by omega) (by omega)
      · exact a2 _ _ (by omega) (by omega)
      · exact a2 _ _ (by omega) (by omega)
      · by_cases c : j = k
        · subst c
          refine Or.inr ⟨d, dy, qy, jr, c4, ⟨hd, a4, fun e he => ⟨?_, (H4.2.2.1 e he).2⟩, ?_, fun e he => ?_⟩, c5, fun i hi => ?_⟩
          · exact a5 e h _ _ _ (Nat.zero_le e) he h7 (H4.2.2.1 e he).1
          · exact H4.2.2.2.1.same h7 (fun p hp => by rw [c7 p hp, Nat.zero_add])
          · exact (H4.2.2.2.2 e he).same h7 (fun p hp => by
              rw [show 391 * j + 31 + 9 * e + p = 391 * j + 31 + (9 * e + p) by omega, c8 (9 * e + p) (by omega), Nat.zero_add])
          · obtain ⟨x1, x2, x3⟩ := c6 i (by omega)
            obtain ⟨⟨y1, -⟩, ⟨y2, -⟩, y3, -⟩ := H2.2.2 i hi
            exact ⟨x1.trans y1, x2.trans y2, x3.trans y3⟩
        · rcases H5 j hj with ⟨b1', b2'⟩ | ⟨d', dy', qy', jr', b1', b2', b3', b4'⟩
          · exact Or.inl ⟨by rw [a2 _ _ (by omega) (by omega)]; exact b1', by rw [c2 _ _ (by omega) (by omega)]; exact b2'⟩
          · have hd' := b2'.1
            refine Or.inr ⟨d', dy', qy', jr', by rw [c2 _ _ (by omega) (by omega)]; exact b1', b2'.gen h7 (a2 _ _ (by omega) (by omega)) (fun e p he => ⟨a2 _ _ (by omega) (by omega), a2 _ _ (by omega) (by omega)⟩) (fun i hi => c2 _ _ (by omega) (by omega)) (fun e i he hi => c2 _ _ (by omega) (by omega)), by rw [c2 _ _ (by omega) (by omega)]; exact b3', fun i hi => ?_⟩
            rw [c2 _ _ (by omega) (by omega), c2 _ _ (by omega) (by omega), c2 _ _ (by omega) (by omega)]
            exact b4' i hi
  · simp only [if_neg hx, if_true]
    exact ⟨_, _, _, rfl, rfl, R⟩
theorem m_on142 {k : Nat} (hk : k < 3) (G : Nat → Int32) : ∀ (n i : Nat) (T : Mem), 360 - i < n → i ≤ 360 → (∀ p, p < 360 → gi T 14 (391 * k + 31 + p) = G p) → f4_on_b142 n T (nI k) (nI (391 * k)) (nI i) = some (gi T 13 k, ui (upG T 12 i 360 G) 0 18 (gi T 13 k))
  | 0, i, T, h, _, _ => by omega
  | n + 1, i, T, hn, hi, h2 => by
    rw [f4_on_b142, n_360]
    rcases Nat.lt_or_ge i 360 with q | q
    · have e : ¬ nI 360 ≤ nI i := by rw [n_le (by omega) (by omega)]; omega
      have g : inb (nI (391 * k + 31 + i)) 1173 = true := inb_nI (by omega) (by decide)
      rw [if_neg e, n_31, nI_add, nI_add, gd_t g, gd_ix q (by decide), ix_k (by omega), ix_k (by omega), h2 i q, nmE, nmE, nI_1, m_on142 hk G n (i + 1) _ (by omega) (by omega) (fun p hp => by rw [gi_ui, if_neg (by omega)]; exact h2 p hp)]
      rw [upG_step (G := G) q, gi_ui, if_neg (by omega)]
    · have e : i = 360 := by omega
      subst e
      rw [if_pos (Int32.le_refl _), upG_nil (Nat.le_refl _), gd_ix hk (by decide), ix_k (by omega), nmE, gi_ui, if_pos ⟨rfl, rfl⟩]
theorem m_on111 {k : Nat} (hk : k < 3) (G : Nat → Int32) : ∀ (n i : Nat) (T : Mem), 9 - i < n → i ≤ 9 → (∀ p, p < 9 → gi T 14 (391 * k + 22 + p) = G p) → f4_on_b111 n T (nI k) (nI (391 * k)) (nI i) = f4_on_b142 FU (upG T 11 i 9 G) (nI k) (nI (391 * k)) 0
  | 0, i, T, h, _, _ => by omega
  | n + 1, i, T, hn, hi, h2 => by
    rw [f4_on_b111, n_9]
    rcases Nat.lt_or_ge i 9 with q | q
    · have e : ¬ nI 9 ≤ nI i := by rw [n_le (by omega) (by omega)]; omega
      have g : inb (nI (391 * k + 22 + i)) 1173 = true := inb_nI (by omega) (by decide)
      rw [if_neg e, n_22, nI_add, nI_add, gd_t g, gd_ix q (by decide), ix_k (by omega), ix_k (by omega), h2 i q, nmE, nmE, nI_1, m_on111 hk G n (i + 1) _ (by omega) (by omega) (fun p hp => by rw [gi_ui, if_neg (by omega)]; exact h2 p hp)]
      rw [upG_step (G := G) q]
    · have e : i = 9 := by omega
      subst e
      rw [if_pos (Int32.le_refl _), upG_nil (Nat.le_refl _)]
theorem m_on47 {k : Nat} (hk : k < 3) : ∀ (n i : Nat) (T : Mem), 7 - i < n → i ≤ 7 → ∃ T', f4_on_b47 n T (nI k) (nI (391 * k)) (nI i) = f4_on_b111 FU T' (nI k) (nI (391 * k)) 0 ∧ (∀ a p, ¬ (8 ≤ a ∧ a ≤ 10) → gi T' a p = gi T a p) ∧ (∀ p, gl T' p = gl T p) ∧ (∀ a p, p < i → gi T' a p = gi T a p) ∧ ∀ p, i ≤ p → p < 7 → gi T' 8 p = gi T 14 (391 * k + 1 + p) ∧ gi T' 9 p = gi T 14 (391 * k + 8 + p) ∧ gi T' 10 p = gi T 14 (391 * k + 15 + p) := by
  intro n
  induction n with
  | zero =>
    intro i T h
    omega
  | succ n ih =>
    intro i T hn hi
    rw [f4_on_b47, n_7]
    rcases Nat.lt_or_ge i 7 with q | q
    · have e : ¬ nI 7 ≤ nI i := by rw [n_le (by omega) (by omega)]; omega
      have g1 : inb (nI (391 * k + 1 + i)) 1173 = true := inb_nI (by omega) (by decide)
      have g8 : inb (nI (391 * k + 8 + i)) 1173 = true := inb_nI (by omega) (by decide)
      have g15 : inb (nI (391 * k + 15 + i)) 1173 = true := inb_nI (by omega) (by decide)
      have g7 : inb (nI i) 7 = true := inb_nI q (by decide)
      have w (a j : Nat) (v : Int32) (X : Mem) (b p : Nat) (hb : b ≠ a) : gi (ui X a j v) b p = gi X b p := by
        rw [gi_ui, if_neg (fun u => hb u.1)]
      rw [if_neg e, n_8, n_15, n_1, nI_add, nI_add, nI_add, nI_add, nI_add, nI_add, gd_t g1, gd_t g7, ix_k (by omega), ix_k (by omega), nmE, gd_t g8, gd_t g7, ix_k (by omega), w _ _ _ _ _ _ (by decide), nmE, gd_t g15, gd_t g7, ix_k (by omega), w _ _ _ _ _ _ (by decide), w _ _ _ _ _ _ (by decide), nmE, nI_add, nmE]
      obtain ⟨T', a1, a2, a3, a4, a5⟩ := ih (i + 1) (ui (ui (ui T 8 i (gi T 14 (391 * k + 1 + i))) 9 i (gi T 14 (391 * k + 8 + i))) 10 i (gi T 14 (391 * k + 15 + i))) (by omega) (by omega)
      refine ⟨T', a1, fun a p x => ?_, a3, fun a p hp => ?_, fun p x y => ?_⟩
      · rw [a2 a p x, gi_ui, if_neg (by omega), gi_ui, if_neg (by omega), gi_ui, if_neg (by omega)]
      · rw [a4 a p (by omega), gi_ui, if_neg (by omega), gi_ui, if_neg (by omega), gi_ui, if_neg (by omega)]
      · by_cases c : p = i
        · subst c
          rw [a4 8 p (by omega), a4 9 p (by omega), a4 10 p (by omega)]
          refine ⟨?_, ?_, ?_⟩
          · rw [gi_ui, if_neg (by omega), gi_ui, if_neg (by omega), gi_ui, if_pos ⟨rfl, rfl⟩]
          · rw [gi_ui, if_neg (by omega), gi_ui, if_pos ⟨rfl, rfl⟩]
          · rw [gi_ui, if_pos ⟨rfl, rfl⟩]
        · obtain ⟨b1', b2', b3'⟩ := a5 p (by omega) y
          rw [b1', b2', b3']
          refine ⟨?_, ?_, ?_⟩
          · rw [w _ _ _ _ _ _ (by decide), w _ _ _ _ _ _ (by decide), w _ _ _ _ _ _ (by decide)]
          · rw [w _ _ _ _ _ _ (by decide), w _ _ _ _ _ _ (by decide), w _ _ _ _ _ _ (by decide)]
          · rw [w _ _ _ _ _ _ (by decide), w _ _ _ _ _ _ (by decide), w _ _ _ _ _ _ (by decide)]
    · have e : i = 7 := by omega
      subst e
      rw [if_pos (Int32.le_refl _)]
      exact ⟨T, rfl, fun _ _ _ => rfl, fun _ => rfl, fun _ _ _ => rfl, fun p x y => by omega⟩
theorem m_onAll {T : Mem} {k : Nat} (hk : k < 3) : ∃ T', f4_on_b47 FU (ui T 0 12 (gi T 14 (391 * k))) (nI k) (nI (391 * k)) 0 = some (gi T 13 k, T') ∧ (∀ a p, ¬ (8 ≤ a ∧ a ≤ 12) → (a = 0 → p ≠ 12 ∧ p ≠ 18) → gi T' a p = gi T a p) ∧ (∀ p, gl T' p = gl T p) ∧ gi T' 0 12 = gi T 14 (391 * k) ∧ gi T' 0 18 = gi T 13 k ∧ (∀ p, p < 7 → gi T' 8 p = gi T 14 (391 * k + 1 + p) ∧ gi T' 9 p = gi T 14 (391 * k + 8 + p) ∧ gi T' 10 p = gi T 14 (391 * k + 15 + p)) ∧ (∀ p, p < 9 → gi T' 11 p = gi T 14 (391 * k + 22 + p)) ∧ ∀ p, p < 360 → gi T' 12 p = gi T 14 (391 * k + 31 + p) := by
  obtain ⟨T1, a1, a2, a3, a4, a5⟩ := m_on47 hk FU 0 (ui T 0 12 (gi T 14 (391 * k))) (by decide) (by decide)
  have t1 (a p : Nat) (x : ¬ (8 ≤ a ∧ a ≤ 10)) (y : a = 0 → p ≠ 12) : gi T1 a p = gi T a p := by
    rw [a2 a p x, gi_ui, if_neg (fun u => y u.1 u.2)]
  have b1' := m_on111 hk (fun p => gi T 14 (391 * k + 22 + p)) FU 0 T1 (by decide) (by decide) (fun p hp => by rw [t1 _ _ (by omega) (by omega)])
  generalize hT2 : upG T1 11 0 9 (fun p => gi T 14 (391 * k + 22 + p)) = T2 at b1'
  have t2 (a p : Nat) (x : a ≠ 11) : gi T2 a p = gi T1 a p := by
    rw [← hT2, gi_upG, if_neg (fun u => x u.1)]
  have c1 := m_on142 hk (fun p => gi T 14 (391 * k + 31 + p)) FU 0 T2 (by decide) (by decide) (fun p hp => by rw [t2 _ _ (by omega), t1 _ _ (by omega) (by omega)])
  have z18 : gi T2 13 k = gi T 13 k := by rw [t2 _ _ (by omega), t1 _ _ (by omega) (by omega)]
  rw [z18] at c1
  have z0 : nI 0 = 0 := rfl
  rw [z0] at a1 b1' c1
  refine ⟨_, a1.trans (b1'.trans c1), fun a p x y => ?_, fun p => ?_, ?_, ?_, fun p hp => ?_, fun p hp => ?_, fun p hp => ?_⟩
  · rw [gi_ui, if_neg (fun u => (y u.1).2 u.2), gi_upG, if_neg (by omega), t2 a p (by omega), t1 a p (by omega) (fun u => (y u).1)]
  · rw [gl_ui, gl_upG, ← hT2, gl_upG, a3, gl_ui]
  · rw [gi_ui, if_neg (by omega), gi_upG, if_neg (by omega), t2 _ _ (by omega), a2 _ _ (by omega), gi_ui, if_pos ⟨rfl, rfl⟩]
  · rw [gi_ui, if_pos ⟨rfl, rfl⟩]
  · obtain ⟨x1, x2, x3⟩ := a5 p (Nat.zero_le p) hp
    have w (a j : Nat) (v : Int32) (X : Mem) (b p : Nat) (hb : b ≠ a) : gi (ui X a j v) b p = gi X b p := by
      rw [gi_ui, if_neg (fun u => hb u.1)]
    rw [w _ _ _ _ _ _ (by decide)] at x1 x2 x3
    refine ⟨?_, ?_, ?_⟩
    · rw [gi_ui, if_neg (by omega), gi_upG, if_neg (by omega), t2 _ _ (by omega), x1]
    · rw [gi_ui, if_neg (by omega), gi_upG, if_neg (by omega), t2 _ _ (by omega), x2]
    · rw [gi_ui, if_neg (by omega), gi_upG, if_neg (by omega), t2 _ _ (by omega), x3]
  · rw [gi_ui, if_neg (by omega), gi_upG, if_neg (by omega), ← hT2, gi_upG, if_pos (by omega)]
  · rw [gi_ui, if_neg (by omega), gi_upG, if_pos (by omega)]
theorem p_on {S T : Mem} (R : Rel S T) (x : Int32) : ∃ r S' T', f3_on S x = some (r, S') ∧ f4_on T x = some (r, T') ∧ Rel S' T' := by
  obtain ⟨Rb, h, kd, fi, ha, d, dy, qy, jr, P⟩ := id R
  obtain ⟨H1, H2, H3, H4, H5⟩ := id P
  have h7 := H1.2.1
  unfold f3_on f4_on
  simp only [c_isKeeping, b1_at, show (2 : Int64) = lN 2 from rfl, m_in0 x 2 (by decide)]
  by_cases hx : inb x 3 = true
  · simp only [if_pos hx, i10, if_false]
    obtain ⟨k, hk, rfl⟩ := inb_ex hx (by decide)
    have g : inb (nI (391 * k)) 1173 = true := inb_nI (by omega) (by decide)
    rw [gd_t hx, gd_t hx, gd_t hx, ix_k (by omega), n_391, pk_mul, nmE, gd_t g, ix_k (by omega), nmE]
    rcases H5 k hk with ⟨b1', b2'⟩ | ⟨d', dy', qy', jr', b1', b2', b3', b4'⟩
    · rw [if_pos b1', b2', if_neg (by decide), c_f1, b2_at, m_f1, b2_at]
      exact ⟨_, _, _, rfl, rfl, R.find (by decide)⟩
    · have hd' := b2'.1
      have e1 : ¬ nI d' = -1 := by rw [show (-1 : Int32) = -nI 1 from rfl, n_neg (by omega) (by decide) (by decide)]; exact id
      have e2 : (0 : Int32) ≤ nI d' := by rw [n_0, n_le (by omega) (by omega)]; omega
      obtain ⟨S', a1, a2, a3, a4, a5⟩ := c_story (s0 := 0) (s1 := 1 + k) (d := d') (by omega) (by omega) (by omega) hd' FU 0 S (Nat.lt_of_le_of_lt (show d' + 1 - 0 ≤ 41 by omega) (by decide)) (by omega) b2'.2.1
      obtain ⟨T', c1, c2, c3, c4, c5, c6, c7, c8⟩ := m_onAll (T := T) hk
      have a1' : f2_become S 0 (1 + k) = some S' := a1
      rw [b1'] at c1 c5
      rw [b2'.2.1, if_neg e1, b1', if_pos e2, a1', b1_at, a4, c1]
      refine ⟨_, _, _, rfl, rfl, Rb.keep ⟨fun a p ha => a2 a p (by omega) (by omega), a3⟩ ⟨c2 _ _ (by omega) (by omega), c2 _ _ (by omega) (by omega), fun a p x y => c2 a p (by omega) (by omega), c3⟩, h, kd, fi, ha, d', dy', qy', jr', ⟨?_, h7, fun i hi => ?_⟩, ⟨?_, h7, fun i hi => ?_⟩, c5, ⟨hd', a4, fun e he => ⟨?_, (b2'.2.2.1 e he).2⟩, ?_, fun e he => ?_⟩, fun j hj => (H5 j hj).gen h7 hj ?_ (fun e p he => ⟨?_, ?_⟩) (fun a i x y => c2 _ _ (by omega) (by omega))⟩
      · rw [a2 _ _ (by omega) (by omega)]
        exact H1.1
      · rw [a2 _ _ (by omega) (by omega), a2 _ _ (by omega) (by omega), a2 _ _ (by omega) (by omega)]
        exact H1.2.2 i hi
      · rw [c4]
        exact b3'
      · obtain ⟨x1, x2, x3⟩ := c6 i (by omega)
        obtain ⟨y1, y2, y3⟩ := b4' i hi
        obtain ⟨⟨-, z1⟩, ⟨-, z2⟩, -, z3⟩ := H2.2.2 i hi
        exact ⟨⟨x1.trans y1, z1⟩, ⟨x2.trans y2, z2⟩, x3.trans y3, z3⟩
      · exact a5 e h _ _ _ (Nat.zero_le e) he h7 (b2'.2.2.1 e he).1
      · exact b2'.2.2.2.1.same h7 (fun p hp => by rw [Nat.zero_add, c7 p hp])
      · exact (b2'.2.2.2.2 e he).same h7 (fun p hp => by
          rw [show 0 + 9 * e + p = 9 * e + p by omega, c8 (9 * e + p) (by omega), show 391 * k + 31 + 9 * e + p = 391 * k + 31 + (9 * e + p) by omega])
      · exact a2 _ _ (by omega) (by omega)
      · exact a2 _ _ (by omega) (by omega)
      · exact a2 _ _ (by omega) (by omega)
  · simp only [if_neg hx, if_true]
    exact ⟨_, _, _, rfl, rfl, R⟩
