/-! LEAVE, TAKE, UNDO -/
theorem c_toQ {S : Mem} {h q dy qy i j' q' : Nat} {jr : Nat → Nat} {x : Int32} (hq : q < 165) (h7 : h ≤ 7) (hi : i < h) (e1 : nI (jr i) - x = nI j') (e2 : nI qy + x = nI q') (M : MC S h q dy qy jr) : ∃ S', f1_toQuay S q (nI i) x = some S' ∧ FQ q S S' ∧ MC S' h q dy q' (st jr i j') := by
  have w (y : Int32) : gi (ui S (195 + q) i y) (30 + q) 2 = nI qy := by
    rw [gi_ui, if_neg (by omega)]
    exact M.2.1
  unfold f1_toQuay
  rw [gd_t (i7 h7 hi), gd_t (i7 h7 hi), ix_k (by omega), M.2.2 i hi, e1, nmE, w, e2, nmE]
  refine ⟨_, rfl, (FQ.rf.u _ _ (Or.inr rfl)).u _ _ (Or.inl rfl), ?_, ?_, fun p hp => ?_⟩
  · rw [gi_ui, if_neg (by omega), gi_ui, if_neg (by omega)]
    exact M.1
  · rw [gi_ui, if_pos ⟨rfl, rfl⟩]
  · rw [gi_ui, if_neg (by omega), gi_ui]
    unfold st
    by_cases c : p = i
    · subst c
      rw [if_pos ⟨rfl, rfl⟩, if_pos rfl]
    · rw [if_neg (fun u => c u.2), if_neg c]
      exact M.2.2 p hp
theorem m_leaves {T : Mem} {h dy qy i j' q' : Nat} {jr : Nat → Nat} {x : Int32} (h7 : h ≤ 7) (hi : i < h) (e1 : nI (jr i) - x = nI j') (e2 : nI qy + x = nI q') (M : MM T h 11 0 dy qy jr) : ∃ T', f4_leaves T (nI i) x = some T' ∧ FT T T' ∧ MM T' h 11 0 dy q' (st jr i j') := by
  have gi9 : inb (nI (2 + i)) 9 = true := inb_nI (by omega) (by decide)
  have g1 : inb 1 9 = true := rfl
  have x1 : ix 1 = 1 := rfl
  have w (y : Int32) : gi (ui T 11 (2 + i) y) 11 1 = nI qy := by
    rw [gi_ui, if_neg (by omega)]
    exact M.2.1
  unfold f4_leaves
  rw [n_2, nI_add, gd_t gi9, gd_t gi9, ix_k (by omega), M.j hi, e1, nmE, gd_t g1, gd_t g1, x1, w, e2, nmE]
  refine ⟨_, rfl, (FT.rf.u _ _).u _ _, ?_, ?_, fun p hp => ?_⟩
  · rw [gi_ui, if_neg (by omega), gi_ui, if_neg (by omega)]
    exact M.1
  · rw [gi_ui, if_pos ⟨rfl, rfl⟩]
  · rw [gi_ui, if_neg (by omega), gi_ui, Nat.zero_add]
    unfold st
    by_cases c : p = i
    · subst c
      rw [if_pos ⟨rfl, rfl⟩, if_pos rfl]
    · rw [if_neg (by omega), if_neg c]
      exact M.j hp
theorem st_ok {h d dy qy q' i j' : Nat} {jr : Nat → Nat} (hq : q' ≤ qy + 99) (hj : j' ≤ 99) (o : OKM h d dy qy jr) : OKM h (d + 1) dy q' (st jr i j') := by
  obtain ⟨a, b, c⟩ := o
  refine ⟨by omega, by omega, fun p hp => ?_⟩
  have := c p hp
  unfold st
  split
  · omega
  · omega
theorem p_leave {S T : Mem} (R : Rel S T) (x w : Int32) : ∃ r S' T', f3_leave S x w = some (r, S') ∧ f4_leave T x w = some (r, T') ∧ Rel S' T' := by
  obtain ⟨Rb, h, kd, fi, ha, d, dy, qy, jr, P⟩ := id R
  obtain ⟨H1, H2, H3, H4, H5⟩ := id P
  obtain ⟨M1, O1⟩ := H4.2.2.1 d (Nat.le_refl d)
  have hd := H4.1
  have h7 := H1.2.1
  unfold f3_leave f4_leave
  simp only [c_isHouse H1, m_isHouse H2, b1_at, c_isCup, m_isCup]
  by_cases hx : inb x h = true
  · simp only [if_pos hx, i10, if_false]
    obtain ⟨i, hi, rfl⟩ := inb_ex hx (by omega)
    by_cases hw : rng w 1 99 = true
    · simp only [if_pos hw, i10, if_false]
      obtain ⟨v, v1, v2, rfl⟩ := rng_ex hw
      have oi := O1.2.2 i hi
      have oq := O1.2.1
      rw [c_now H4, b1_at, gd_t (dlt hd), gd_t (i7 h7 hi), ix_k (by omega), M1.2.2 i hi, m_jar h7 H4.2.2.2.1 hi, b1_at, c_full H4.2.1 hd, b1_at, H3]
      by_cases cv : v ≤ jr d i
      · have e1 : nI v ≤ nI (jr d i) := by rw [n_le (by omega) (by omega)]; exact cv
        rw [if_pos e1, if_pos e1]
        by_cases c : d < 40
        · have e3 : ¬ nI d = 40 := by rw [n_40, n_eq (by omega) (by omega)]; omega
          rw [if_pos c, if_pos rfl, if_neg e3]
          obtain ⟨S1, T1, a1, a2, a3, a4, a5, a6, a7, a8⟩ := deed Rb P c
          obtain ⟨S2, b1', b2', b3'⟩ := c_toQ (x := nI v) (show 41 * 0 + (d + 1) < 165 by omega) h7 hi (pk_sub cv) (nI_add _ _) a5
          obtain ⟨T2, c1, c2, c3⟩ := m_leaves (x := nI v) h7 hi (pk_sub cv) (nI_add _ _) a6
          obtain ⟨r1, dy', qy', jr', r2⟩ := a8 S2 T2 _ _ _ b2' c2 b3' c3 (st_ok (by omega) (by omega) a7)
          have n1' : gi T2 11 (ix 1) = nI (qy d + v) := c3.2.1
          rw [a1, b2_at, gd_t (dlt (show d + 1 ≤ 40 by omega)), b1', b1_at, a2, b1_at, c1, b1_at, gd_t (show inb 1 9 = true from rfl), n1', b3'.2.1]
          exact ⟨_, _, _, rfl, rfl, PLx.rel r1 r2⟩
        · have e3 : nI d = 40 := by rw [n_40, n_eq (by omega) (by omega)]; omega
          rw [if_neg c, if_neg (show ¬ (1 : Int32) = 0 by decide), if_pos e3]
          exact ⟨_, _, _, rfl, rfl, R⟩
      · have e1 : ¬ nI v ≤ nI (jr d i) := by rw [n_le (by omega) (by omega)]; exact cv
        rw [if_neg e1, if_neg e1]
        exact ⟨_, _, _, rfl, rfl, R⟩
    · simp only [if_neg hw, if_true]
      exact ⟨_, _, _, rfl, rfl, R⟩
  · simp only [if_neg hx, if_true]
    exact ⟨_, _, _, rfl, rfl, R⟩
theorem sub_neg (a b : Nat) : nI a - -nI b = nI (a + b) := by rw [Int32.sub_neg, nI_add]
theorem add_neg {a b : Nat} (h : b ≤ a) : nI a + -nI b = nI (a - b) := by rw [← Int32.sub_eq_add_neg, pk_sub h]
theorem p_take {S T : Mem} (R : Rel S T) (x w : Int32) : ∃ r S' T', f3_take S x w = some (r, S') ∧ f4_take T x w = some (r, T') ∧ Rel S' T' := by
  obtain ⟨Rb, h, kd, fi, ha, d, dy, qy, jr, P⟩ := id R
  obtain ⟨H1, H2, H3, H4, H5⟩ := id P
  obtain ⟨M1, O1⟩ := H4.2.2.1 d (Nat.le_refl d)
  have hd := H4.1
  have h7 := H1.2.1
  unfold f3_take f4_take
  simp only [c_isHouse H1, m_isHouse H2, b1_at, c_isCup, m_isCup]
  by_cases hx : inb x h = true
  · simp only [if_pos hx, i10, if_false]
    obtain ⟨i, hi, rfl⟩ := inb_ex hx (by omega)
    by_cases hw : rng w 1 99 = true
    · simp only [if_pos hw, i10, if_false]
      obtain ⟨v, v1, v2, rfl⟩ := rng_ex hw
      have oi := O1.2.2 i hi
      have oq := O1.2.1
      have m1 : gi T 11 (ix 1) = nI (qy d) := H4.2.2.2.1.2.1
      rw [c_now H4, b1_at, gd_t (dlt hd), M1.2.1, gd_t (i7 h7 hi), ix_k (by omega), M1.2.2 i hi, nI_add, m_jar h7 H4.2.2.2.1 hi, b1_at, nI_add, c_full H4.2.1 hd, b1_at, H3, gd_t (show inb 1 9 = true from rfl), m1]
      by_cases cq : qy d < v
      · have e1 : nI (qy d) < nI v := by rw [n_lt (by omega) (by omega)]; exact cq
        rw [if_pos e1, if_pos e1]
        exact ⟨_, _, _, rfl, rfl, R⟩
      · have e1 : ¬ nI (qy d) < nI v := by rw [n_lt (by omega) (by omega)]; exact cq
        rw [if_neg e1, if_neg e1]
        by_cases cv : jr d i + v ≤ 99
        · have e2 : nI (jr d i + v) ≤ 99 := by rw [n_99, n_le (by omega) (by omega)]; exact cv
          rw [if_pos e2, if_pos e2]
          by_cases c : d < 40
          · have e3 : ¬ nI d = 40 := by rw [n_40, n_eq (by omega) (by omega)]; omega
            rw [if_pos c, if_pos rfl, if_neg e3]
            obtain ⟨S1, T1, a1, a2, a3, a4, a5, a6, a7, a8⟩ := deed Rb P c
            obtain ⟨S2, b1', b2', b3'⟩ := c_toQ (x := -nI v) (show 41 * 0 + (d + 1) < 165 by omega) h7 hi (sub_neg _ _) (add_neg (by omega)) a5
            obtain ⟨T2, c1, c2, c3⟩ := m_leaves (x := -nI v) h7 hi (sub_neg _ _) (add_neg (by omega)) a6
            obtain ⟨r1, dy', qy', jr', r2⟩ := a8 S2 T2 _ _ _ b2' c2 b3' c3 (st_ok (by omega) cv a7)
            rw [a1, b2_at, gd_t (dlt (show d + 1 ≤ 40 by omega)), b1', b1_at, a2, b1_at, c1, b1_at, m_jar h7 c3 hi, b1_at, gd_t (i7 h7 hi), b3'.2.2 i hi]
            exact ⟨_, _, _, rfl, rfl, PLx.rel r1 r2⟩
          · have e3 : nI d = 40 := by rw [n_40, n_eq (by omega) (by omega)]; omega
            rw [if_neg c, if_neg (show ¬ (1 : Int32) = 0 by decide), if_pos e3]
            exact ⟨_, _, _, rfl, rfl, R⟩
        · have e2 : ¬ nI (jr d i + v) ≤ 99 := by rw [n_99, n_le (by omega) (by omega)]; exact cv
          rw [if_neg e2, if_neg e2]
          exact ⟨_, _, _, rfl, rfl, R⟩
    · simp only [if_neg hw, if_true]
      exact ⟨_, _, _, rfl, rfl, R⟩
  · simp only [if_neg hx, if_true]
    exact ⟨_, _, _, rfl, rfl, R⟩
theorem m_undo25 {m u : Nat} (hm : m < 40) (hu : 0 < u) (hu2 : u ≤ 40) (G : Nat → Int32) : ∀ (n i : Nat) (T : Mem), 9 - i < n → i ≤ 9 → (∀ k, k < 9 → gi T 12 (9 * m + k) = G k) → f4_undo_b25 n T (nI m) (nI u) (nI i) = some (nI u, ui (upG T 11 i 9 G) 0 18 (nI m))
  | 0, i, T, h, _, _ => by omega
  | n + 1, i, T, hn, hi, h2 => by
    rw [f4_undo_b25, n_9]
    unfold f4_undo_b58
    rcases Nat.lt_or_ge i 9 with q | q
    · have e : ¬ nI 9 ≤ nI i := by rw [n_le (by omega) (by omega)]; omega
      have e2 : ¬ nI u ≤ 0 := by rw [n_0, n_le (by omega) (by omega)]; omega
      have g : inb (nI (9 * m + i)) 360 = true := inb_nI (by omega) (by decide)
      rw [if_neg e, if_neg e2, pk_mul, nI_add, gd_t g, gd_ix q (by decide), ix_k (by omega), ix_k (by omega), h2 i q, nmE, nmE, nI_1, m_undo25 hm hu hu2 G n (i + 1) _ (by omega) (by omega) (fun k hk => by rw [gi_ui, if_neg (by omega)]; exact h2 k hk)]
      rw [upG_step (G := G) q]
    · have e : i = 9 := by omega
      subst e
      rw [if_pos (Int32.le_refl _), upG_nil (Nat.le_refl _), nmE]
theorem p_undo {S T : Mem} (R : Rel S T) (x : Int32) : ∃ r S' T', f3_undo S x = some (r, S') ∧ f4_undo T x = some (r, T') ∧ Rel S' T' := by
  obtain ⟨Rb, h, kd, fi, ha, d, dy, qy, jr, P⟩ := id R
  obtain ⟨H1, H2, H3, H4, H5⟩ := id P
  have hd := H4.1
  have h7 := H1.2.1
  have e0 : gi S (22 + 0) 1 = nI d := H4.2.1
  unfold f3_undo f4_undo
  rw [e0, rng0_if x (show d < 2 ^ 31 by omega), H3, nI_l (by omega), m_in0 x d (by omega), b1_at]
  by_cases hx : inb x (d + 1) = true
  · rw [if_pos hx, if_pos hx, if_neg (by decide)]
    obtain ⟨m, hm, rfl⟩ := inb_ex hx (by omega)
    rw [pk_sub (by omega), nmE, nmE, nmE]
    have cell : PLx (ui S (22 + 0) 1 (nI m)) (ui (if m < d then upG T 11 0 9 (fun k => gi T 12 (9 * m + k)) else T) 0 18 (nI m)) h kd fi ha m dy qy jr := by
      have sf (a p : Nat) (z : a = 22 → p ≠ 1) : gi (ui S (22 + 0) 1 (nI m)) a p = gi S a p := by
        rw [gi_ui, if_neg (fun u => z u.1 u.2)]
      have tf (a p : Nat) (x : a = 0 → p ≠ 18) (y : a ≠ 11) : gi (ui (if m < d then upG T 11 0 9 (fun k => gi T 12 (9 * m + k)) else T) 0 18 (nI m)) a p = gi T a p := by
        rw [gi_ui, if_neg (fun u => x u.1 u.2)]
        split
        · rw [gi_upG, if_neg (fun u => y u.1)]
        · rfl
      refine ⟨⟨?_, h7, fun i hi => ?_⟩, ⟨?_, h7, fun i hi => ?_⟩, ?_, ⟨by omega, ?_, fun e he => ?_, ?_, fun e he => ?_⟩, fun k hk => (H5 k hk).gen h7 hk ?_ (fun e p he => ⟨?_, ?_⟩) (fun a i x y => tf a i (by omega) (by omega))⟩
      · rw [sf _ _ (by omega)]
        exact H1.1
      · rw [sf _ _ (by omega), sf _ _ (by omega), sf _ _ (by omega)]
        exact H1.2.2 i hi
      · rw [tf _ _ (by omega) (by omega)]
        exact H2.1
      · rw [tf _ _ (by omega) (by omega), tf _ _ (by omega) (by omega), tf _ _ (by omega) (by omega)]
        exact H2.2.2 i hi
      · rw [gi_ui, if_pos ⟨rfl, rfl⟩]
      · rw [gi_ui, if_pos ⟨rfl, rfl⟩]
      · have := H4.2.2.1 e (by omega)
        exact ⟨this.1.same (fun p => sf _ _ (by omega)) (fun p => sf _ _ (by omega)), this.2⟩
      · by_cases c : m < d
        · refine (H4.2.2.2.2 m c).same h7 (fun k hk => ?_)
          rw [gi_ui, if_neg (by omega), if_pos c, gi_upG, if_pos (by omega), Nat.zero_add, Nat.zero_add]
        · have e : m = d := by omega
          subst e
          refine H4.2.2.2.1.same h7 (fun k hk => ?_)
          rw [gi_ui, if_neg (by omega), if_neg c]
      · exact (H4.2.2.2.2 e (by omega)).same h7 (fun k hk => tf _ _ (by omega) (by omega))
      · exact sf _ _ (by omega)
      · exact sf _ _ (by omega)
      · exact sf _ _ (by omega)
    have rb : RB (ui S (22 + 0) 1 (nI m)) (ui (if m < d then upG T 11 0 9 (fun k => gi T 12 (9 * m + k)) else T) 0 18 (nI m)) := by
      refine Rb.keep ⟨fun a p ha => ?_, fun p => rfl⟩ ⟨?_, ?_, fun a p x y => ?_, fun p => ?_⟩
      · rw [gi_ui, if_neg (by omega)]
      · rw [gi_ui, if_neg (by omega)]
        split
        · rw [gi_upG, if_neg (by omega)]
        · rfl
      · rw [gi_ui, if_neg (by omega)]
        split
        · rw [gi_upG, if_neg (by omega)]
        · rfl
      · rw [gi_ui, if_neg (by omega)]
        split
        · rw [gi_upG, if_neg (by omega)]
        · rfl
      · rw [gl_ui]
        split
        · rw [gl_upG]
        · rfl
    by_cases c : m < d
    · have e25 := m_undo25 (m := m) (u := d - m) (by omega) (by omega) (by omega) (fun k => gi T 12 (9 * m + k)) FU 0 T (by decide) (by decide) (fun k hk => rfl)
      have z0 : nI 0 = 0 := rfl
      rw [z0] at e25
      rw [if_pos c] at cell rb
      rw [e25]
      exact ⟨_, _, _, rfl, rfl, PLx.rel rb cell⟩
    · have e : m = d := by omega
      have e25 : f4_undo_b25 (1999 + 1) T (nI m) (nI (d - m)) 0 = some (nI (d - m), ui T 0 18 (nI m)) := by
        rw [f4_undo_b25, if_neg (by decide), if_pos (by rw [e, Nat.sub_self]; decide)]
        unfold f4_undo_b58
        rw [nmE]
      have e25' : f4_undo_b25 FU T (nI m) (nI (d - m)) 0 = some (nI (d - m), ui T 0 18 (nI m)) := e25
      rw [if_neg c] at cell rb
      rw [e25']
      exact ⟨_, _, _, rfl, rfl, PLx.rel rb cell⟩
  · rw [if_neg hx, if_neg hx, if_pos rfl]
    exact ⟨_, _, _, rfl, rfl, R⟩
