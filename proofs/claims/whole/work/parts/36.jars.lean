/-! COUNT OF ANY NUMBER, JARS, DIGEST -/
theorem p_count {S T : Mem} (R : Rel S T) (x : Int32) : ∃ r, f3_count S x = some r ∧ f4_count T x = some r := by
  by_cases hx : inb x 12 = true
  · obtain ⟨w, hw, rfl⟩ := inb_ex hx (by decide)
    exact p_cnt R w hw
  · obtain ⟨h, kd, fi, ha, d, dy, qy, jr, H1, H2, H3, H4, H5⟩ := R.2
    have hd := H4.1
    have gq : 41 * 0 + d < 165 := by omega
    have hne : ∀ k, k < 12 → ¬ x = nI k := by
      intro k hk e
      subst e
      exact hx (inb_nI hk (by decide))
    unfold f3_count f4_count
    simp only [c_now H4, b1_at, gd_d gq, if_neg (show ¬ x = 0 from hne 0 (by decide)), if_neg (show ¬ x = 1 from hne 1 (by decide)), if_neg (show ¬ x = 2 from hne 2 (by decide)), if_neg (show ¬ x = 3 from hne 3 (by decide)), if_neg (show ¬ x = 4 from hne 4 (by decide)), if_neg (show ¬ x = 5 from hne 5 (by decide)), if_neg (show ¬ x = 6 from hne 6 (by decide)), if_neg (show ¬ x = 7 from hne 7 (by decide)), if_neg (show ¬ x = 8 from hne 8 (by decide)), if_neg (show ¬ x = 9 from hne 9 (by decide)), if_neg (show ¬ x = 10 from hne 10 (by decide)), if_neg (show ¬ x = 11 from hne 11 (by decide))]
    exact ⟨_, rfl, rfl⟩
/-! jars -/
def minN (p : Nat → Bool) : Nat → Nat
  | 0 => 0
  | n + 1 => if minN p n < n then minN p n else if p n = true then n else n + 1
theorem minN_le (p : Nat → Bool) : ∀ n, minN p n ≤ n
  | 0 => Nat.le_refl _
  | n + 1 => by
    have h := minN_le p n
    rw [minN]
    split
    · omega
    · split <;> omega
theorem minN_no (p : Nat → Bool) : ∀ n k, k < minN p n → p k = false
  | 0, k, h => absurd h (Nat.not_lt_zero k)
  | n + 1, k, h => by
    have ih := minN_no p n
    have hl := minN_le p n
    rw [minN] at h
    split at h
    · exact ih k h
    · split at h
      · exact ih k (by omega)
      · rename_i q1 q2
        by_cases e : k = n
        · subst e
          exact Bool.eq_false_iff.mpr q2
        · exact ih k (by omega)
theorem minN_yes (p : Nat → Bool) : ∀ n, minN p n < n → p (minN p n) = true
  | 0, h => absurd h (Nat.not_lt_zero _)
  | n + 1, h => by
    have ih := minN_yes p n
    have hl := minN_le p n
    rw [minN] at h ⊢
    split at h
    · rename_i q
      rw [if_pos q]
      exact ih q
    · rename_i q
      rw [if_neg q]
      split at h
      · rename_i q2
        rw [if_pos q2]
        exact q2
      · omega
theorem minN_is {p : Nat → Bool} {n m : Nat} (hm : m < n) (h1 : p m = true) (h2 : ∀ j, j < m → p j = false) : minN p n = m := by
  have a := minN_no p n
  rcases Nat.lt_trichotomy (minN p n) m with q | q | q
  · have h3 := minN_yes p n (by omega)
    rw [h2 _ q] at h3
    cases h3
  · exact q
  · have h3 := a m q
    rw [h1] at h3
    cases h3
theorem minN_none {p : Nat → Bool} {n : Nat} (h : ∀ j, j < n → p j = false) : minN p n = n := by
  rcases Nat.lt_or_ge (minN p n) n with q | q
  · have h3 := minN_yes p n q
    rw [h _ q] at h3
    cases h3
  · have := minN_le p n
    omega
theorem cnt_min (p : Nat → Bool) : ∀ n, cntN p n = 0 ↔ minN p n = n
  | 0 => by simp [cntN, minN]
  | n + 1 => by
    have ih := cnt_min p n
    have hl := minN_le p n
    rw [cntN, minN]
    split <;> split <;> (try split) <;> omega
def lstC (p : Nat → Bool) (v : Nat) : Int32 := if minN p v < v then nI (minN p v) else -9
theorem c_jars30 {S : Mem} {h : Nat} {kd fi ha : Nat → Nat} (H : HC S h kd fi ha) {i : Nat} (hi : i < h) {w : Nat} (hw : w < 2 ^ 31) : ∀ (n v : Nat), 100 - v < n → v ≤ 100 → f3_jars_b30 n S (nI i) (nI w) (nI (cntN (fun j => decide (worthN (kd i) j = w)) v)) (lstC (fun j => decide (worthN (kd i) j = w)) v) (nI v) = f3_tellLeast S (nI (cntN (fun j => decide (worthN (kd i) j = w)) 100)) (lstC (fun j => decide (worthN (kd i) j = w)) 100)
  | 0, v, hn, _ => by omega
  | n + 1, v, hn, hv => by
    have h2 := H.2.1
    obtain ⟨⟨a1, a2⟩, -, -⟩ := H.2.2 i hi
    rw [f3_jars_b30, n_99]
    rcases Nat.lt_or_ge v 100 with u | u
    · have hr := c_jars30 H hi hw n (v + 1) (by omega) (by omega)
      have wl := worth_le _ a2 v u
      have hm := minN_le (fun j => decide (worthN (kd i) j = w)) v
      rw [if_neg (by rw [n_lt (by decide) (by omega)]; omega)]
      simp only [gd_t (i7 h2 hi), ix_k (show i < 2 ^ 31 by omega), a1, c_worth _ a2 v u, b1_at, n_eq (show worthN (kd i) v < 2 ^ 31 by omega) hw]
      unfold f3_jars_b74 f3_jars_b72
      rw [cntN] at hr
      by_cases c : worthN (kd i) v = w
      · rw [if_pos (show decide (worthN (kd i) v = w) = true from decide_eq_true c)] at hr
        simp only [if_pos c, nmE, nI_1]
        by_cases e : minN (fun j => decide (worthN (kd i) j = w)) v < v
        · have e1 : lstC (fun j => decide (worthN (kd i) j = w)) v = nI (minN (fun j => decide (worthN (kd i) j = w)) v) := if_pos e
          have e2 : lstC (fun j => decide (worthN (kd i) j = w)) (v + 1) = nI (minN (fun j => decide (worthN (kd i) j = w)) v) := by
            unfold lstC
            rw [minN, if_pos e, if_pos (by omega)]
          rw [e2] at hr
          rw [e1, if_neg (show ¬ nI (minN (fun j => decide (worthN (kd i) j = w)) v) = -9 by rw [n_9, n_neg (by omega) (by decide) (by decide)]; exact fun q => q)]
          unfold f3_jars_b74
          simp only [nmE, nI_1]
          exact hr
        · have e1 : lstC (fun j => decide (worthN (kd i) j = w)) v = -9 := if_neg e
          have e2 : lstC (fun j => decide (worthN (kd i) j = w)) (v + 1) = nI v := by
            unfold lstC
            rw [minN, if_neg e, if_pos (decide_eq_true c), if_pos (by omega)]
          rw [e2] at hr
          rw [e1, if_pos rfl]
          unfold f3_jars_b74
          simp only [nmE, nI_1]
          exact hr
      · rw [if_neg (show ¬ decide (worthN (kd i) v = w) = true from fun q => c (of_decide_eq_true q)), Nat.add_zero] at hr
        have e2 : lstC (fun j => decide (worthN (kd i) j = w)) (v + 1) = lstC (fun j => decide (worthN (kd i) j = w)) v := by
          unfold lstC
          rw [minN]
          by_cases e : minN (fun j => decide (worthN (kd i) j = w)) v < v
          · rw [if_pos e, if_pos e, if_pos (by omega)]
          · rw [if_neg e, if_neg e, if_neg (show ¬ decide (worthN (kd i) v = w) = true from fun q => c (of_decide_eq_true q)), if_neg (by omega)]
        rw [e2] at hr
        simp only [if_neg c, nmE, nI_1]
        exact hr
    · have e : v = 100 := by omega
      subst e
      rw [if_pos (by decide)]
      unfold f3_tellLeast
      split <;> rfl
/-- from above: what is counted from v on -/
theorem m_jars31 {T : Mem} {h : Nat} {kd fi ha : Nat → Nat} (H : HM T h kd fi ha) {i : Nat} (hi : i < h) {w : Nat} (hw : w < 2 ^ 31) : ∀ (n v c m : Nat), v < n → v ≤ 100 → c + cntN (fun j => decide (worthN (kd i) j = w)) v = cntN (fun j => decide (worthN (kd i) j = w)) 100 → ((c = 0 ∧ ∀ j, v ≤ j → j < 100 → ¬ worthN (kd i) j = w) ∨ (v ≤ m ∧ m < 100 ∧ worthN (kd i) m = w ∧ ∀ j, v ≤ j → j < m → ¬ worthN (kd i) j = w)) → f4_jars_b31 n T (nI i) (nI w) (nI c) (nI m) (nI v - 1) = if cntN (fun j => decide (worthN (kd i) j = w)) 100 = 0 then some (-9, T) else some (nI (cntN (fun j => decide (worthN (kd i) j = w)) 100), ui T 0 2 (nI (minN (fun j => decide (worthN (kd i) j = w)) 100)))
  | 0, v, c, m, hn, _, _, _ => by omega
  | n + 1, v, c, m, hn, hv, hc, hm => by
    have h2 := H.2.1
    obtain ⟨⟨a1, a2⟩, -, -⟩ := H.2.2 i hi
    have hcl := cntN_le (fun j => decide (worthN (kd i) j = w)) 100
    rw [f4_jars_b31]
    cases v with
    | zero =>
      rw [if_pos (by decide)]
      have hc2 : c = cntN (fun j => decide (worthN (kd i) j = w)) 100 := hc
      by_cases z : c = 0
      · rw [if_pos (by rw [z]; rfl), if_pos (by omega)]
      · rw [if_neg (nI_ne0 (by omega) (by omega)), if_neg (by omega), m_tells, b2_at, hc2]
        rcases hm with ⟨q, -⟩ | ⟨q1, q2, q3, q4⟩
        · exact absurd q z
        · rw [minN_is (p := fun j => decide (worthN (kd i) j = w)) q2 (decide_eq_true q3) (fun j hj => decide_eq_false (q4 j (by omega) hj))]
    | succ v =>
      have wl := worth_le _ a2 v (by omega)
      rw [n_1, n_sub (by omega), Nat.add_sub_cancel, if_neg (nI_pos (by omega))]
      have hc' := hc
      rw [cntN] at hc'
      simp only [gd_t (i7 h2 hi), ix_k (show i < 2 ^ 31 by omega), a1, m_worth _ a2 v (by omega), b1_at, n_eq (show worthN (kd i) v < 2 ^ 31 by omega) hw]
      unfold f4_jars_b56 f4_jars_b69 f4_jars_b83
      by_cases q : worthN (kd i) v = w
      · rw [if_pos (show decide (worthN (kd i) v = w) = true from decide_eq_true q)] at hc'
        have hr := m_jars31 H hi hw n v (c + 1) v (by omega) (by omega) (by omega) (Or.inr ⟨by omega, by omega, q, fun j h1 h2 => by omega⟩)
        rw [Int32.sub_eq_add_neg] at hr
        simp only [if_pos q, i10, if_false, nmE, nI_1]
        exact hr
      · rw [if_neg (show ¬ decide (worthN (kd i) v = w) = true from fun z => q (of_decide_eq_true z)), Nat.add_zero] at hc'
        have hr := m_jars31 H hi hw n v c m (by omega) (by omega) hc' (by
          rcases hm with ⟨z1, z2⟩ | ⟨z1, z2, z3, z4⟩
          · exact Or.inl ⟨z1, fun j h1 h3 => by
              by_cases e : j = v
              · subst e
                exact q
              · exact z2 j (by omega) h3⟩
          · exact Or.inr ⟨by omega, z2, z3, fun j h1 h3 => by
              by_cases e : j = v
              · subst e
                exact q
              · exact z4 j (by omega) h3⟩)
        rw [Int32.sub_eq_add_neg] at hr
        simp only [if_neg q, if_true, nmE, Int32.add_zero]
        exact hr
theorem p_jars {S T : Mem} (R : Rel S T) (x y : Int32) : ∃ r S' T', f3_jars S x y = some (r, S') ∧ f4_jars T x y = some (r, T') ∧ Rel S' T' := by
  obtain ⟨h, kd, fi, ha, d, dy, qy, jr, H1, H2, H3, H4, H5⟩ := R.2
  unfold f3_jars f4_jars
  simp only [c_isHouse H1, m_isHouse H2, b1_at, show (300 : Int64) = lN 300 from rfl, m_in0 y 300 (by decide)]
  by_cases hx : inb x h = true
  · obtain ⟨i, hi, rfl⟩ := inb_ex hx (by have := H1.2.1; omega)
    simp only [if_pos hx, i10, if_false]
    rw [n_300, rng0_if y (by decide)]
    by_cases hy : inb y (300 + 1) = true
    · obtain ⟨w, hw, rfl⟩ := inb_ex hy (by decide)
      have hcl := cntN_le (fun j => decide (worthN (kd i) j = w)) 100
      have e1 : f3_jars_b30 FU S (nI i) (nI w) 0 (-9) 0 = _ := c_jars30 H1 hi (show w < 2 ^ 31 by omega) FU 0 (by decide) (by decide)
      have e2 : f4_jars_b31 FU T (nI i) (nI w) 0 0 99 = _ := m_jars31 H2 hi (show w < 2 ^ 31 by omega) FU 100 0 0 (by decide) (by decide) (Nat.zero_add _) (Or.inl ⟨rfl, fun j h1 h3 => by omega⟩)
      simp only [if_pos hy, i10, if_false]
      rw [e1, e2]
      unfold f3_tellLeast
      have hz := cnt_min (fun j => decide (worthN (kd i) j = w)) 100
      by_cases z : cntN (fun j => decide (worthN (kd i) j = w)) 100 = 0
      · rw [z, if_pos rfl, if_pos (show nI 0 = 0 from rfl)]
        exact ⟨_, _, _, rfl, rfl, R⟩
      · have hm := minN_le (fun j => decide (worthN (kd i) j = w)) 100
        rw [if_neg z, if_neg (nI_ne0 (by omega) (by omega)), nmE]
        unfold lstC
        rw [if_pos (by omega)]
        exact ⟨_, _, _, rfl, rfl, R.told _⟩
    · simp only [if_neg hy, if_true]
      exact ⟨_, _, _, rfl, rfl, R⟩
  · simp only [if_neg hx, if_true]
    exact ⟨_, _, _, rfl, rfl, R⟩
