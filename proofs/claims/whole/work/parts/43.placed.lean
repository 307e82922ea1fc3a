/-! PLACE, as a whole -/
theorem ixv {v : Int32} {a : Nat} (h : v = nI a) (ha : a < 2 ^ 31) : v = nI (ix v) ∧ ix v = a := by
  have e : ix v = a := by rw [h, ix_k ha]
  exact ⟨by rw [e]; exact h, e⟩
theorem place_rel {S T S' T' : Mem} (R : Rel S T) {h : Nat} (hh : h ≤ 7)
    (vals : ∀ e, e < h → ∃ a b c d, (a < 6 ∧ b ≤ 9 ∧ c ≤ 9 ∧ d ≤ 99) ∧ (gi S' 16 e = nI a ∧ gi S' 17 e = nI b ∧ gi S' 18 e = nI c ∧ gi S' 195 e = nI d) ∧ gi T' 8 e = nI a ∧ gi T' 9 e = nI b ∧ gi T' 10 e = nI c ∧ gi T' 11 (2 + e) = nI d)
    (sh : gi S' 15 3 = nI h) (th : gi T' 0 12 = nI h) (td : gi T' 0 18 = 0) (sd : gi S' 22 1 = 0) (t0 : gi T' 11 0 = 0) (t1 : gi T' 11 1 = 0)
    (ks : ∀ k, k < 3 → gi S' (22 + (1 + k)) 1 = -1 ∧ gi T' 13 k = -1)
    (sf : ∀ a p, ¬ (15 ≤ a ∧ a ≤ 18) → a ≠ 195 → (p = 1 → ¬ (22 ≤ a ∧ a ≤ 25)) → gi S' a p = gi S a p) (sl : ∀ p, gl S' p = gl S p)
    (tf : ∀ a p, ¬ (8 ≤ a ∧ a ≤ 13) → (a = 0 → p ≠ 11 ∧ p ≠ 12 ∧ p ≠ 18) → a ≠ 7 → gi T' a p = gi T a p) (tl : ∀ p, gl T' p = gl T p) : Rel S' T' := by
  obtain ⟨Rb, ho, kdo, fio, hao, od, ody, oqy, ojr, o1, o2, o3, o4, o5⟩ := R
  obtain ⟨m1, m2⟩ := o4.2.2.1 0 (Nat.zero_le _)
  have z1 : ody 0 = 0 := by have := m2.1; omega
  have z2 : oqy 0 = 0 := by have := m2.2.1; omega
  refine ⟨Rb.keep ⟨fun a p ha => sf a p (by omega) (by omega) (by omega), sl⟩ ⟨tf _ _ (by decide) (by decide) (by decide), tf _ _ (by decide) (by decide) (by decide), fun a p x y => tf _ _ (by omega) (by omega) (by omega), tl⟩, h, fun e => ix (gi S' 16 e), fun e => ix (gi S' 17 e), fun e => ix (gi S' 18 e), 0, fun _ => 0, fun _ => 0, fun _ e => ix (gi S' 195 e), ⟨sh, hh, fun e he => ?_⟩, ⟨th, hh, fun e he => ?_⟩, td, ⟨Nat.zero_le _, sd, fun e he => ?_, ⟨t0, t1, fun e he => ?_⟩, fun e he => absurd he (Nat.not_lt_zero e)⟩, fun j hj => Or.inl (ks j hj)⟩
  · obtain ⟨a, b, c, d, ⟨k1, k2, k3, k4⟩, ⟨l1, l2, l3, l4⟩, n1, n2, n3, n4⟩ := vals e he
    obtain ⟨x1, y1⟩ := ixv l1 (by omega)
    obtain ⟨x2, y2⟩ := ixv l2 (by omega)
    obtain ⟨x3, y3⟩ := ixv l3 (by omega)
    exact ⟨⟨x1, by show ix (gi S' 16 e) < 6; omega⟩, ⟨x2, by show ix (gi S' 17 e) ≤ 9; omega⟩, x3, by show ix (gi S' 18 e) ≤ 9; omega⟩
  · obtain ⟨a, b, c, d, ⟨k1, k2, k3, k4⟩, ⟨l1, l2, l3, l4⟩, n1, n2, n3, n4⟩ := vals e he
    obtain ⟨x1, y1⟩ := ixv l1 (by omega)
    obtain ⟨x2, y2⟩ := ixv l2 (by omega)
    obtain ⟨x3, y3⟩ := ixv l3 (by omega)
    exact ⟨⟨(n1.trans l1.symm).trans x1, by show ix (gi S' 16 e) < 6; omega⟩, ⟨(n2.trans l2.symm).trans x2, by show ix (gi S' 17 e) ≤ 9; omega⟩, (n3.trans l3.symm).trans x3, by show ix (gi S' 18 e) ≤ 9; omega⟩
  · have e0 : e = 0 := by omega
    subst e0
    refine ⟨⟨?_, ?_, fun e he => ?_⟩, Nat.le_refl _, Nat.le_refl _, fun e he => ?_⟩
    · rw [sf _ _ (by omega) (by omega) (by omega), m1.1, z1]
    · rw [sf _ _ (by omega) (by omega) (by omega), m1.2.1, z2]
    · obtain ⟨a, b, c, d, ⟨k1, k2, k3, k4⟩, ⟨l1, l2, l3, l4⟩, n1, n2, n3, n4⟩ := vals e he
      exact (ixv l4 (by omega)).1
    · obtain ⟨a, b, c, d, ⟨k1, k2, k3, k4⟩, ⟨l1, l2, l3, l4⟩, n1, n2, n3, n4⟩ := vals e he
      have := (ixv l4 (by omega)).2
      show ix (gi S' 195 e) ≤ 99
      omega
  · obtain ⟨a, b, c, d, ⟨k1, k2, k3, k4⟩, ⟨l1, l2, l3, l4⟩, n1, n2, n3, n4⟩ := vals e he
    rw [Nat.zero_add]
    exact (n4.trans l4.symm).trans (ixv l4 (by omega)).1
theorem place_c {S : Mem} {k z : Nat} (hk : k < 4) (hz : z ≤ 60) (a1 : gi S 14 k = nI z) (h7 : cntN (LB fun p => gi S (10 + k) p) z ≤ 7) (hg : ∀ q, q < z → LB (fun p => gi S (10 + k) p) q = true → q + 5 ≤ z ∧ fgs (fun p => gi S (10 + k) p) q) : ∃ S', f3_place_b37 FU S (nI k) 0 = some (nI (cntN (LB fun p => gi S (10 + k) p) z), S') ∧ gi S' 15 3 = nI (cntN (LB fun p => gi S (10 + k) p) z) ∧ SI (fun p => gi S (10 + k) p) S' z ∧ gi S' 22 1 = 0 ∧ (∀ j, j < 3 → gi S' (22 + (1 + j)) 1 = -1) ∧ (∀ a p, ¬ (15 ≤ a ∧ a ≤ 18) → a ≠ 195 → (p = 1 → ¬ (22 ≤ a ∧ a ≤ 25)) → gi S' a p = gi S a p) ∧ ∀ p, gl S' p = gl S p := by
  obtain ⟨S', s1, s2, s3, s4⟩ := c_settle14 (tx := fun p => gi S (10 + k) p) hk hz h7 hg FU 0 (ui (ui (ui (ui S 23 1 (-1)) 24 1 (-1)) 25 1 (-1)) (22 + 0) 1 0) (Nat.lt_of_le_of_lt (show z - 0 ≤ 60 by omega) (by decide)) (by omega) (fun p hp => by
    rw [w_ui (by omega), w_ui (by omega), w_ui (by omega), w_ui (by omega)]) (fun q hq => absurd hq (by omega))
  refine ⟨S', ?_, s4, s3, ?_, fun j hj => ?_, fun a p ha hb hc => ?_, s2.2⟩
  · have e0 : nI (cntN (LB fun p => gi S (10 + k) p) 0) = 0 := rfl
    rw [e0] at s1
    have e1 : f3_settle (ui (ui (ui S 23 1 (-1)) 24 1 (-1)) 25 1 (-1)) (10 + k) 60 (nI z) = f3_settle_b14 FU (ui (ui (ui (ui S 23 1 (-1)) 24 1 (-1)) 25 1 (-1)) (22 + 0) 1 0) (10 + k) 60 (nI z) 0 0 (nI 0) := by
      unfold f3_settle f2_startAnew
      rw [nmE, gd_t (show inb 0 41 = true from rfl), b2_at, gd_t (show decide (41 * 0 + ix 0 < 165) = true from rfl)]
      have z0 : 41 * 0 + ix 0 = 0 := rfl
      rw [z0]
      rfl
    rw [c_place37 S hk, a1, e1, s1, b1_at, s4]
  · rw [s2.1 _ _ (by omega) (by omega), gi_ui, if_pos ⟨rfl, rfl⟩]
  · rw [s2.1 _ _ (by omega) (by omega), gi_ui, if_neg (by omega)]
    have hj' : j = 0 ∨ j = 1 ∨ j = 2 := by omega
    rcases hj' with rfl | rfl | rfl
    · rw [gi_ui, if_neg (by omega), gi_ui, if_neg (by omega), gi_ui, if_pos ⟨rfl, rfl⟩]
    · rw [gi_ui, if_neg (by omega), gi_ui, if_pos ⟨rfl, rfl⟩]
    · rw [gi_ui, if_pos ⟨rfl, rfl⟩]
  · rw [s2.1 a p ha hb, gi_ui, if_neg (by omega), gi_ui, if_neg (by omega), gi_ui, if_neg (by omega), gi_ui, if_neg (by omega)]
theorem place_m {T : Mem} {h : Nat} (hh : h ≤ 7) : ∃ T', f4_place_b50 FU (ui (ui T 0 12 (nI h)) 0 18 0) 0 = some (nI h, T') ∧ gi T' 0 12 = nI h ∧ gi T' 0 18 = 0 ∧ gi T' 11 0 = 0 ∧ gi T' 11 1 = 0 ∧ (∀ j, j < 3 → gi T' 13 j = -1) ∧ (∀ p, p < h → gi T' 8 p = gi T 7 (4 * p) ∧ gi T' 9 p = gi T 7 (4 * p + 1) ∧ gi T' 10 p = gi T 7 (4 * p + 2) ∧ gi T' 11 (2 + p) = gi T 7 (4 * p + 3)) ∧ (∀ a p, ¬ (8 ≤ a ∧ a ≤ 13) → (a = 0 → p ≠ 12 ∧ p ≠ 18) → gi T' a p = gi T a p) ∧ ∀ p, gl T' p = gl T p := by
  obtain ⟨T3, t1, t2, t3, t4, t5, t6, t7⟩ := m_place71 hh FU 0 (upG (ui (ui T 0 12 (nI h)) 0 18 0) 11 0 9 (fun _ => 0)) (Nat.lt_of_le_of_lt (show h - 0 ≤ 7 by omega) (by decide)) (Nat.zero_le _) (by
    rw [gi_upG, if_neg (by omega), gi_ui, if_neg (by omega), gi_ui, if_pos ⟨rfl, rfl⟩])
  have t12 : gi T3 0 12 = nI h := by
    rw [t2 0 12 (by omega), gi_upG, if_neg (by omega), gi_ui, if_neg (by omega), gi_ui, if_pos ⟨rfl, rfl⟩]
  have e50 := m_place50 FU 0 (ui (ui T 0 12 (nI h)) 0 18 0) (by decide) (by decide)
  have e151 := m_place151 FU 0 T3 (by decide) (by decide)
  have z0 : nI 0 = 0 := rfl
  rw [z0] at t1 e50 e151
  rw [t12] at e151
  refine ⟨upG T3 13 0 3 (fun _ => -1), e50.trans (t1.trans e151), ?_, ?_, ?_, ?_, fun j hj => ?_, fun p hp => ?_, fun a p ha h0 => ?_, t3⟩
  · rw [gi_upG, if_neg (by omega), t12]
  · rw [gi_upG, if_neg (by omega), t2 0 18 (by omega), gi_upG, if_neg (by omega), gi_ui, if_pos ⟨rfl, rfl⟩]
  · rw [gi_upG, if_neg (by omega), t4 0 (by omega), gi_upG, if_pos (by omega)]
  · rw [gi_upG, if_neg (by omega), t4 1 (by omega), gi_upG, if_pos (by omega)]
  · rw [gi_upG, if_pos (by omega)]
  · have r7 (p : Nat) : gi (upG (ui (ui T 0 12 (nI h)) 0 18 0) 11 0 9 (fun _ => 0)) 7 p = gi T 7 p := by
      rw [gi_upG, if_neg (by omega), gi_ui, if_neg (by omega), gi_ui, if_neg (by omega)]
    obtain ⟨y1, y2, y3, y4⟩ := t7 p (Nat.zero_le _) hp
    rw [gi_upG, if_neg (by omega), gi_upG, if_neg (by omega), gi_upG, if_neg (by omega), gi_upG, if_neg (by omega), y1, y2, y3, y4, r7, r7, r7, r7]
    exact ⟨rfl, rfl, rfl, rfl⟩
  · rw [gi_upG, if_neg (by omega), t2 a p (by omega), gi_upG, if_neg (by omega), gi_ui, if_neg (by omega), gi_ui, if_neg (by omega)]
theorem place_go {S T T' : Mem} (R : Rel S T) {k z : Nat} (hk : k < 4) (hz : z ≤ 60) (a1 : gi S 14 k = nI z) (h3 : FR T T') (h4 : RD (fun p => gi S (10 + k) p) T' z) : ∃ r S2 T2, f3_place_b37 FU S (nI k) 0 = some (r, S2) ∧ f4_place_b50 FU (ui (ui T' 0 12 (gi T' 0 11)) 0 18 0) 0 = some (r, T2) ∧ Rel S2 T2 := by
  obtain ⟨d1, d2, d3⟩ := h4
  obtain ⟨S2, s1, s2, s3, s4, s5, s6, s7⟩ := place_c hk hz a1 d2 (fun q hq hl => ⟨(d3 q hq hl).1, (d3 q hq hl).2.1⟩)
  obtain ⟨T2, t1, t2, t3, t4, t5, t6, t7, t8, t9⟩ := place_m (T := T') d2
  rw [d1]
  refine ⟨_, S2, T2, s1, t1, ?_⟩
  refine place_rel R d2 (fun e he => ?_) s2 t2 t3 s4 t4 t5 (fun j hj => ⟨s5 j hj, t6 j hj⟩) s6 s7 (fun a p x y w => (t8 a p x (fun u => (y u).2)).trans (h3.1 a p w (fun u => (y u).1))) (fun p => (t9 p).trans (h3.2 p))
  · obtain ⟨q, q1, q2, q3⟩ := cnt_at he
    obtain ⟨u1, u2, u3⟩ := d3 q q1 q2
    have v := s3 q q1 q2
    have f1 := (fg_ex (u2 1 (by decide) (by decide))).1
    have f2 := (fg_ex (u2 2 (by decide) (by decide))).1
    have f3 := (fg_ex (u2 3 (by decide) (by decide))).1
    have f4 := (fg_ex (u2 4 (by decide) (by decide))).1
    obtain ⟨y1, y2, y3, y4⟩ := t7 e he
    rw [q3] at u3 v
    obtain ⟨c1, c2, c3, c4⟩ := u3
    exact ⟨_, _, _, _, ⟨of_decide_eq_true q2, f1, f2, by clear y1 y2 y3 y4 c1 c2 c3 c4 v; omega⟩, v, y1.trans c1, y2.trans c2, y3.trans c3, y4.trans c4⟩
theorem p_place {S T : Mem} (R : Rel S T) (x : Int32) : ∃ r S' T', f3_place S x = some (r, S') ∧ f4_place T x = some (r, T') ∧ Rel S' T' := by
  unfold f3_place f4_place
  by_cases hx : inb x 4 = true
  · obtain ⟨k, hk, rfl⟩ := inb_ex hx (by decide)
    rw [c_textRef S hk]
    simp only [m_isText, b1_at, if_pos hx, i10, if_false, gd_t hx, ix_k (show k < 2 ^ 31 by omega)]
    rcases R.tsz hk with ⟨a1, a2, a3⟩ | ⟨z, hz, a1, a2, a3, a4, a5⟩
    · simp only [if_pos a1, if_neg a2, b2_at, m_f1, show ((-3 : Int32) = 0) = False from eq_false (by decide), if_false]
      exact ⟨_, _, _, rfl, rfl, R.find (by decide)⟩
    · have a3' := a3
      rw [a1] at a3'
      simp only [a1, if_neg a3', if_pos a4, b2_at, if_true]
      rcases p_reads R hk hz a2 with ⟨r, T', h1, h2, h3, h4⟩ | ⟨T', h1, h2, h3, h4, h5⟩
      · have e : ¬ nI r < 0 := by rw [n_0, n_lt (by omega) (by omega)]; omega
        have e9 : ¬ nI r = -9 := by rw [show (-9 : Int32) = -nI 9 from rfl, n_neg (by omega) (by decide) (by decide)]; exact id
        simp only [h2, h3, b1_at, b2_at, if_neg e, if_neg e9]
        exact ⟨_, _, _, rfl, rfl, h4.rel R⟩
      · rw [h1, h2, b1_at, b2_at, if_pos (show (-9 : Int32) = -9 from rfl), if_pos (show (-1 : Int32) < 0 by decide), nmE, nmE]
        exact place_go R hk hz a1 h3 h4
  · rw [c_textRef0 S hx]
    simp only [m_isText, b1_at, if_neg hx, if_true, b2_at, show ((-1 : Int32) = 0) = False from eq_false (by decide), if_false]
    exact ⟨_, _, _, rfl, rfl, R⟩
