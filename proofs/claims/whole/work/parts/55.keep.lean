/-! KEEP, ON -/
/-- a story comes to stand as another: its moments from i to d are copied -/
theorem c_story {s0 s1 d : Nat} (h0 : s0 < 4) (h1 : s1 < 4) (hs : s0 ≠ s1) (hd : d ≤ 40) : ∀ (n i : Nat) (S : Mem), d + 1 - i < n → i ≤ d + 1 → gi S (22 + s1) 1 = nI d → ∃ S', f2_become_b2 n S s0 s1 (nI i) = some S' ∧ (∀ a p, (∀ e, i ≤ e → e ≤ d → a ≠ 30 + (41 * s0 + e) ∧ a ≠ 195 + (41 * s0 + e)) → (a = 22 + s0 → p ≠ 1) → gi S' a p = gi S a p) ∧ (∀ p, gl S' p = gl S p) ∧ gi S' (22 + s0) 1 = nI d ∧ ∀ e h dy qy jr, i ≤ e → e ≤ d → h ≤ 7 → MC S h (41 * s1 + e) dy qy jr → MC S' h (41 * s0 + e) dy qy jr := by
  intro n
  induction n with
  | zero =>
    intro i S h
    omega
  | succ n ih =>
    intro i S hn hi he
    rw [f2_become_b2, he]
    rcases Nat.lt_or_ge d i with u | u
    · have c : nI d < nI i := by rw [n_lt (by omega) (by omega)]; exact u
      rw [if_pos c, nmE]
      refine ⟨_, rfl, fun a p x y => ?_, fun _ => rfl, ?_, fun e h dy qy jr x y => by omega⟩
      · rw [gi_ui, if_neg (fun u => y u.1 u.2)]
      · rw [gi_ui, if_pos ⟨rfl, rfl⟩]
    · have c : ¬ nI d < nI i := by rw [n_lt (by omega) (by omega)]; omega
      have g : inb (nI i) 41 = true := inb_nI (by omega) (by decide)
      rw [if_neg c, gd_t g, gd_t g, ix_k (by omega), c_become (by omega) (by omega), b1_at, nmE, nI_1]
      have f := bcm_FQ (S := S) (q0 := 41 * s0 + i) (q1 := 41 * s1 + i)
      obtain ⟨S', a1, a2, a3, a4, a5⟩ := ih (i + 1) (bcm S (41 * s0 + i) (41 * s1 + i)) (by omega) (by omega) (by rw [f.1 _ _ (by omega) (by omega)]; exact he)
      refine ⟨S', a1, fun a p x y => ?_, fun p => (a3 p).trans (f.2 p), a4, fun e h dy qy jr x y z M => ?_⟩
      · rw [a2 a p (fun e k1 k2 => x e (by omega) k2) y]
        exact f.1 a p (x i (Nat.le_refl i) u).1 (x i (Nat.le_refl i) u).2
      · by_cases c2 : e = i
        · subst c2
          refine (bcm_MC (q0 := 41 * s0 + e) (by omega) (by omega) z M).same (fun p => ?_) (fun p => ?_)
          · exact a2 _ p (fun e' k1 k2 => by omega) (by omega)
          · exact a2 _ p (fun e' k1 k2 => by omega) (by omega)
        · refine a5 e h dy qy jr (by omega) y z (M.same (fun p => ?_) (fun p => ?_))
          · exact f.1 _ p (by omega) (by omega)
          · exact f.1 _ p (by omega) (by omega)
theorem m_keep137 {k : Nat} (hk : k < 3) (G : Nat → Int32) : ∀ (n i : Nat) (T : Mem), 360 - i < n → i ≤ 360 → (∀ p, p < 360 → gi T 12 p = G (391 * k + 31 + p)) → f4_keep_b137 n T (nI k) (nI (391 * k)) (nI i) = some (gi T 0 18, ui (upG T 14 (391 * k + 31 + i) (391 * k + 31 + 360) G) 13 k (gi T 0 18))
  | 0, i, T, h, _, _ => by omega
  | n + 1, i, T, hn, hi, h2 => by
    rw [f4_keep_b137, n_360]
    rcases Nat.lt_or_ge i 360 with q | q
    · have e : ¬ nI 360 ≤ nI i := by rw [n_le (by omega) (by omega)]; omega
      have g : inb (nI (391 * k + 31 + i)) 1173 = true := inb_nI (by omega) (by decide)
      rw [if_neg e, gd_ix q (by decide), n_31, nI_add, nI_add, gd_t g, ix_k (by omega), ix_k (by omega), h2 i q, nmE, nmE, nI_1, m_keep137 hk G n (i + 1) _ (by omega) (by omega) (fun p hp => by rw [gi_ui, if_neg (by omega)]; exact h2 p hp)]
      rw [show 391 * k + 31 + (i + 1) = 391 * k + 31 + i + 1 by omega, upG_step (G := G) (by omega), gi_ui, if_neg (by omega)]
    · have e : i = 360 := by omega
      subst e
      rw [if_pos (Int32.le_refl _), upG_nil (Nat.le_refl _), gd_ix hk (by decide), ix_k (by omega), nmE, gi_ui, if_neg (by omega)]
theorem m_keep106 {k : Nat} (hk : k < 3) (G : Nat → Int32) : ∀ (n i : Nat) (T : Mem), 9 - i < n → i ≤ 9 → (∀ p, p < 9 → gi T 11 p = G (391 * k + 22 + p)) → f4_keep_b106 n T (nI k) (nI (391 * k)) (nI i) = f4_keep_b137 FU (upG T 14 (391 * k + 22 + i) (391 * k + 22 + 9) G) (nI k) (nI (391 * k)) 0
  | 0, i, T, h, _, _ => by omega
  | n + 1, i, T, hn, hi, h2 => by
    rw [f4_keep_b106, n_9]
    rcases Nat.lt_or_ge i 9 with q | q
    · have e : ¬ nI 9 ≤ nI i := by rw [n_le (by omega) (by omega)]; omega
      have g : inb (nI (391 * k + 22 + i)) 1173 = true := inb_nI (by omega) (by decide)
      rw [if_neg e, gd_ix q (by decide), n_22, nI_add, nI_add, gd_t g, ix_k (by omega), ix_k (by omega), h2 i q, nmE, nmE, nI_1, m_keep106 hk G n (i + 1) _ (by omega) (by omega) (fun p hp => by rw [gi_ui, if_neg (by omega)]; exact h2 p hp)]
      rw [show 391 * k + 22 + (i + 1) = 391 * k + 22 + i + 1 by omega, upG_step (G := G) (by omega)]
    · have e : i = 9 := by omega
      subst e
      rw [if_pos (Int32.le_refl _), upG_nil (Nat.le_refl _)]
theorem m_keep42 {k : Nat} (hk : k < 3) : ∀ (n i : Nat) (T : Mem), 7 - i < n → i ≤ 7 → ∃ T', f4_keep_b42 n T (nI k) (nI (391 * k)) (nI i) = f4_keep_b106 FU T' (nI k) (nI (391 * k)) 0 ∧ (∀ a p, (a = 14 → p < 391 * k + 1 ∨ 391 * k + 22 ≤ p) → gi T' a p = gi T a p) ∧ (∀ p, gl T' p = gl T p) ∧ (∀ p, p < i → gi T' 14 (391 * k + 1 + p) = gi T 14 (391 * k + 1 + p) ∧ gi T' 14 (391 * k + 8 + p) = gi T 14 (391 * k + 8 + p) ∧ gi T' 14 (391 * k + 15 + p) = gi T 14 (391 * k + 15 + p)) ∧ ∀ p, i ≤ p → p < 7 → gi T' 14 (391 * k + 1 + p) = gi T 8 p ∧ gi T' 14 (391 * k + 8 + p) = gi T 9 p ∧ gi T' 14 (391 * k + 15 + p) = gi T 10 p := by
  intro n
  induction n with
  | zero =>
    intro i T h
    omega
  | succ n ih =>
    intro i T hn hi
    rw [f4_keep_b42, n_7]
    rcases Nat.lt_or_ge i 7 with q | q
    · have e : ¬ nI 7 ≤ nI i := by rw [n_le (by omega) (by omega)]; omega
      have g1 : inb (nI (391 * k + 1 + i)) 1173 = true := inb_nI (by omega) (by decide)
      have g8 : inb (nI (391 * k + 8 + i)) 1173 = true := inb_nI (by omega) (by decide)
      have g15 : inb (nI (391 * k + 15 + i)) 1173 = true := inb_nI (by omega) (by decide)
      have g7 : inb (nI i) 7 = true := inb_nI q (by decide)
      have w (a j : Nat) (v : Int32) (X : Mem) (b p : Nat) (hb : b ≠ a) : gi (ui X a j v) b p = gi X b p := by
        rw [gi_ui, if_neg (fun u => hb u.1)]
      rw [if_neg e, gd_t g7, n_8, n_15, n_1, nI_add, nI_add, nI_add, nI_add, nI_add, nI_add, gd_t g1, ix_k (by omega), ix_k (by omega), nmE, gd_t g7, gd_t g8, ix_k (by omega), w _ _ _ _ _ _ (by decide), nmE, gd_t g7, gd_t g15, ix_k (by omega), w _ _ _ _ _ _ (by decide), w _ _ _ _ _ _ (by decide), nmE, nI_add, nmE]
      obtain ⟨T', a1, a2, a3, a4, a5⟩ := ih (i + 1) (ui (ui (ui T 14 (391 * k + 1 + i) (gi T 8 i)) 14 (391 * k + 8 + i) (gi T 9 i)) 14 (391 * k + 15 + i) (gi T 10 i)) (by omega) (by omega)
      refine ⟨T', a1, fun a p x => ?_, a3, fun p hp => ?_, fun p x y => ?_⟩
      · rw [a2 a p x, gi_ui, if_neg (by omega), gi_ui, if_neg (by omega), gi_ui, if_neg (by omega)]
      · obtain ⟨b1', b2', b3'⟩ := a4 p (by omega)
        rw [b1', b2', b3']
        refine ⟨?_, ?_, ?_⟩
        · rw [gi_ui, if_neg (by omega), gi_ui, if_neg (by omega), gi_ui, if_neg (by omega)]
        · rw [gi_ui, if_neg (by omega), gi_ui, if_neg (by omega), gi_ui, if_neg (by omega)]
        · rw [gi_ui, if_neg (by omega), gi_ui, if_neg (by omega), gi_ui, if_neg (by omega)]
      · by_cases c : p = i
        · subst c
          obtain ⟨b1', b2', b3'⟩ := a4 p (by omega)
          rw [b1', b2', b3']
          refine ⟨?_, ?_, ?_⟩
          · rw [gi_ui, if_neg (by omega), gi_ui, if_neg (by omega), gi_ui, if_pos ⟨rfl, rfl⟩]
          · rw [gi_ui, if_neg (by omega), gi_ui, if_pos ⟨rfl, rfl⟩]
          · rw [gi_ui, if_pos ⟨rfl, rfl⟩]
        · obtain ⟨b1', b2', b3'⟩ := a5 p (by omega) y
          rw [b1', b2', b3']
          refine ⟨?_, ?_, ?_⟩
          · rw [w _ _ _ _ _ _ (by decide), w _ _ _ _ _ _ (by decide), w _ _ _ _ _ _ (by decide)]
          · rw [w _ _ _ _ _ _ (by decide), w _ _ _ _ _ _ (by decide), w _ _ _ _ _ _ (by decide)]
          · rw [w _ _ _ _ _ _ (by decide), w _ _ _ _ _ _ (by decide), w _ _ _ _ _ _ (by decide)]
    · have e : i = 7 := by omega
      subst e
      rw [if_pos (Int32.le_refl _)]
      exact ⟨T, rfl, fun _ _ _ => rfl, fun _ => rfl, fun _ _ => ⟨rfl, rfl, rfl⟩, fun p x y => by omega⟩
/-- what the reference keeps -/
theorem m_keepAll {T : Mem} {k : Nat} (hk : k < 3) : ∃ T', f4_keep_b42 FU (ui T 14 (391 * k) (gi T 0 12)) (nI k) (nI (391 * k)) 0 = some (gi T 0 18, T') ∧ (∀ a p, (a = 13 → p ≠ k) → (a = 14 → p < 391 * k ∨ 391 * k + 391 ≤ p) → gi T' a p = gi T a p) ∧ (∀ p, gl T' p = gl T p) ∧ gi T' 13 k = gi T 0 18 ∧ gi T' 14 (391 * k) = gi T 0 12 ∧ (∀ p, p < 7 → gi T' 14 (391 * k + 1 + p) = gi T 8 p ∧ gi T' 14 (391 * k + 8 + p) = gi T 9 p ∧ gi T' 14 (391 * k + 15 + p) = gi T 10 p) ∧ (∀ p, p < 9 → gi T' 14 (391 * k + 22 + p) = gi T 11 p) ∧ ∀ p, p < 360 → gi T' 14 (391 * k + 31 + p) = gi T 12 p := by
  obtain ⟨T1, a1, a2, a3, a4, a5⟩ := m_keep42 hk FU 0 (ui T 14 (391 * k) (gi T 0 12)) (by decide) (by decide)
  have t1 (a p : Nat) (x : a = 14 → p < 391 * k ∨ 391 * k + 22 ≤ p) : gi T1 a p = gi T a p := by
    rw [a2 a p (by omega), gi_ui, if_neg (by omega)]
  have b1' := m_keep106 hk (fun p => gi T 11 (p - (391 * k + 22))) FU 0 T1 (by decide) (by decide) (fun p hp => by rw [t1 _ _ (by omega), Nat.add_sub_cancel_left])
  generalize hT2 : upG T1 14 (391 * k + 22 + 0) (391 * k + 22 + 9) (fun p => gi T 11 (p - (391 * k + 22))) = T2 at b1'
  have t2 (a p : Nat) (x : a = 14 → p < 391 * k + 22 ∨ 391 * k + 31 ≤ p) : gi T2 a p = gi T1 a p := by
    rw [← hT2, gi_upG, if_neg (by omega)]
  have c1 := m_keep137 hk (fun p => gi T 12 (p - (391 * k + 31))) FU 0 T2 (by decide) (by decide) (fun p hp => by rw [t2 _ _ (by omega), t1 _ _ (by omega), Nat.add_sub_cancel_left])
  have z18 : gi T2 0 18 = gi T 0 18 := by rw [t2 _ _ (by omega), t1 _ _ (by omega)]
  rw [z18] at c1
  have z0 : nI 0 = 0 := rfl
  rw [z0] at a1 b1' c1
  refine ⟨_, a1.trans (b1'.trans c1), fun a p x y => ?_, fun p => ?_, ?_, ?_, fun p hp => ?_, fun p hp => ?_, fun p hp => ?_⟩
  · rw [gi_ui, if_neg (fun u => x u.1 u.2), gi_upG, if_neg (by omega), t2 a p (by omega), t1 a p (by omega)]
  · rw [gl_ui, gl_upG, ← hT2, gl_upG, a3, gl_ui]
  · rw [gi_ui, if_pos ⟨rfl, rfl⟩]
  · rw [gi_ui, if_neg (by omega), gi_upG, if_neg (by omega), t2 _ _ (by omega), a2 _ _ (by omega), gi_ui, if_pos ⟨rfl, rfl⟩]
  · obtain ⟨x1, x2, x3⟩ := a5 p (Nat.zero_le p) hp
    have w (a j : Nat) (v : Int32) (X : Mem) (b p : Nat) (hb : b ≠ a) : gi (ui X a j v) b p = gi X b p := by
      rw [gi_ui, if_neg (fun u => hb u.1)]
    rw [w _ _ _ _ _ _ (by decide)] at x1 x2 x3
    refine ⟨?_, ?_, ?_⟩
    · rw [gi_ui, if_neg (by omega), gi_upG, if_neg (by omega), t2 _ _ (by omega), x1]
    · rw [gi_ui, if_neg (by omega), gi_upG, if_neg (by omega), t2 _ _ (by omega), x2]
    · rw [gi_ui, if_neg (by omega), gi_upG, if_neg (by omega), t2 _ _ (by omega), x3]
  · rw [gi_ui, if_neg (by omega), gi_upG, if_neg (by omega), ← hT2, gi_upG, if_pos (by omega), Nat.add_sub_cancel_left]
  · rw [gi_ui, if_neg (by omega), gi_upG, if_pos (by omega), Nat.add_sub_cancel_left]
