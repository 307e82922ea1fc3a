/-! DAY, SPRING, LEND, LEAVE, TAKE -/
theorem c_full {S : Mem} {d : Nat} (h : gi S 22 1 = nI d) (hd : d ≤ 40) : f2_isFull S 0 = some (if d < 40 then 0 else 1) := by
  have h' : gi S (22 + 0) 1 = nI d := h
  unfold f2_isFull
  rw [h', n_40]
  simp only [n_lt (show d < 2 ^ 31 by omega) (show 40 < 2 ^ 31 by decide)]
  by_cases c : d < 40
  · rw [if_pos c, if_pos c]
  · rw [if_neg c, if_neg c]
theorem PLx.rel {S T : Mem} {h d : Nat} {kd fi ha dy qy : Nat → Nat} {jr : Nat → Nat → Nat} (R : RB S T) (P : PLx S T h kd fi ha d dy qy jr) : Rel S T := ⟨R, _, _, _, _, _, _, _, _, P⟩
theorem dlt {d : Nat} (h : d ≤ 40) : decide (41 * 0 + d < 165) = true := decide_eq_true (by omega)
theorem day_ok {h d dy qy : Nat} {fi jr : Nat → Nat} (o : OKM h d dy qy jr) : OKM h (d + 1) (dy + 1) qy (dayJ fi 1 jr) := by
  obtain ⟨a, b, c⟩ := o
  refine ⟨by omega, by omega, fun i _ => ?_⟩
  unfold dayJ
  omega
theorem p_day {S T : Mem} (R : Rel S T) : ∃ r S' T', f3_day S = some (r, S') ∧ f4_day T = some (r, T') ∧ Rel S' T' := by
  obtain ⟨Rb, h, kd, fi, ha, d, dy, qy, jr, P⟩ := id R
  obtain ⟨H1, H2, H3, H4, H5⟩ := id P
  obtain ⟨M1, O1⟩ := H4.2.2.1 d (Nat.le_refl d)
  have hd := H4.1
  have h7 := H1.2.1
  unfold f3_day f4_day
  rw [H1.1, H2.1]
  by_cases h0 : h = 0
  · subst h0
    rw [if_pos (show nI 0 = 0 from rfl), if_pos (show nI 0 = 0 from rfl)]
    exact ⟨_, _, _, rfl, rfl, R⟩
  · have ne : ¬ nI h = 0 := nI_ne0 (by omega) (by omega)
    have o1 := O1.1
    have e1 : nI (dy d) < 99 := by rw [n_99, n_lt (by omega) (by omega)]; omega
    have e2 : ¬ nI (dy d) = 99 := by rw [n_99, n_eq (by omega) (by omega)]; omega
    have m0 : gi T 11 (ix 0) = nI (dy d) := H4.2.2.2.1.1
    rw [if_neg ne, if_neg ne, c_now H4, b1_at, gd_t (dlt hd), M1.1, if_pos e1, c_full H4.2.1 hd, b1_at, gd_t (show inb 0 9 = true from rfl), m0, if_neg e2, H3]
    by_cases c : d < 40
    · have e3 : ¬ nI d = 40 := by rw [n_40, n_eq (by omega) (by omega)]; omega
      rw [if_pos c, if_pos rfl, if_neg e3]
      obtain ⟨S1, T1, a1, a2, a3, a4, a5, a6, a7, a8⟩ := deed Rb P c
      obtain ⟨S2, b1', b2', b3'⟩ := c_days (n := 1) (show 41 * 0 + (d + 1) < 165 by omega) (by decide) a3 a5 a7.2.2
      obtain ⟨T2, c1, c2, c3⟩ := m_goesBy a4 a6 a7.2.2
      obtain ⟨r1, dy', qy', jr', r2⟩ := a8 S2 T2 _ _ _ b2' c2 b3' c3 (day_ok a7)
      have b1'' : f1_passDays S1 (41 * 0 + (d + 1)) 1 = some S2 := b1'
      have n0 : gi T2 11 (ix 0) = nI (dy d + 1) := c3.1
      rw [a1, b2_at, gd_t (dlt (show d + 1 ≤ 40 by omega)), b1'', b1_at, a2, b1_at, c1, b1_at, gd_t (show inb 0 9 = true from rfl), n0, b3'.1]
      exact ⟨_, _, _, rfl, rfl, PLx.rel r1 r2⟩
    · have e3 : nI d = 40 := by rw [n_40, n_eq (by omega) (by omega)]; omega
      rw [if_neg c, if_neg (show ¬ (1 : Int32) = 0 by decide), if_pos e3]
      exact ⟨_, _, _, rfl, rfl, R⟩
theorem shr_ok {h d dy qy : Nat} {kd jr : Nat → Nat} (h7 : h ≤ 7) (h0 : 0 < h) (o : OKM h d dy qy jr) : OKM h (d + 1) dy (shrQ h kd jr dy qy) (shrJ kd jr dy (eachN h kd jr dy qy)) := by
  obtain ⟨a, b, c⟩ := o
  have := shrQ_le h kd jr dy qy h7 h0 c
  refine ⟨by omega, by omega, fun i _ => ?_⟩
  unfold shrJ
  omega
theorem p_spring {S T : Mem} (R : Rel S T) : ∃ r S' T', f3_spring S = some (r, S') ∧ f4_spring T = some (r, T') ∧ Rel S' T' := by
  obtain ⟨Rb, h, kd, fi, ha, d, dy, qy, jr, P⟩ := id R
  obtain ⟨H1, H2, H3, H4, H5⟩ := id P
  obtain ⟨M1, O1⟩ := H4.2.2.1 d (Nat.le_refl d)
  have hd := H4.1
  have h7 := H1.2.1
  unfold f3_spring f4_spring
  rw [H1.1, H2.1]
  by_cases h0 : h = 0
  · subst h0
    rw [if_pos (show nI 0 = 0 from rfl), if_pos (show nI 0 = 0 from rfl)]
    exact ⟨_, _, _, rfl, rfl, R⟩
  · have ne : ¬ nI h = 0 := nI_ne0 (by omega) (by omega)
    rw [if_neg ne, if_neg ne, c_full H4.2.1 hd, b1_at, H3]
    by_cases c : d < 40
    · have e3 : ¬ nI d = 40 := by rw [n_40, n_eq (by omega) (by omega)]; omega
      rw [if_pos c, if_pos rfl, if_neg e3]
      obtain ⟨S1, T1, a1, a2, a3, a4, a5, a6, a7, a8⟩ := deed Rb P c
      have o1 := a7.1
      have o2 := a7.2.1
      obtain ⟨S2, b1', b2', b3'⟩ := c_share (show 41 * 0 + (d + 1) < 165 by omega) (by omega) (by omega) (by omega) a3 a5 a7.2.2
      obtain ⟨T2, c1, c2, c3⟩ := m_springs (by omega) (by omega) (by omega) a4 a6 a7.2.2
      obtain ⟨r1, dy', qy', jr', r2⟩ := a8 S2 T2 _ _ _ b2' c2 b3' c3 (shr_ok h7 (by omega) a7)
      have n1' : gi T2 11 (ix 1) = nI (shrQ h kd (jr d) (dy d) (qy d)) := c3.2.1
      rw [a1, b2_at, gd_t (dlt (show d + 1 ≤ 40 by omega)), b1', b2_at, a2, b1_at, c1, b2_at, gd_t (show inb 1 9 = true from rfl), n1', b3'.2.1, m_tells, b2_at, nmE]
      exact ⟨_, _, _, rfl, rfl, (PLx.rel r1 r2).told _⟩
    · have e3 : nI d = 40 := by rw [n_40, n_eq (by omega) (by omega)]; omega
      rw [if_neg c, if_neg (show ¬ (1 : Int32) = 0 by decide), if_pos e3]
      exact ⟨_, _, _, rfl, rfl, R⟩
/-! cups from one to another -/
def lndJ (i j v : Nat) (jr : Nat → Nat) (p : Nat) : Nat := if p = j then min 99 (jr j + v) else if p = i then jr i - v else jr p
theorem c_pass {S : Mem} {h q dy qy i j v : Nat} {jr : Nat → Nat} (hq : q < 165) (h7 : h ≤ 7) (hi : i < h) (hj : j < h) (hij : i ≠ j) (hv : v ≤ jr i) (hb : ∀ i, i < h → jr i ≤ 99) (hqy : qy ≤ 100000) (M : MC S h q dy qy jr) : ∃ S', f1_pass S q (nI i) (nI j) (nI v) = some S' ∧ FQ q S S' ∧ MC S' h q dy (qy + (jr j + v - 99)) (lndJ i j v jr) := by
  have hbi := hb i hi
  have hbj := hb j hj
  have e1 : gi S (195 + q) i = nI (jr i) := M.2.2 i hi
  have e2 (x : Int32) : gi (ui S (195 + q) i x) (195 + q) j = nI (jr j) := by
    rw [gi_ui, if_neg (by omega)]
    exact M.2.2 j hj
  have e3 (x y : Int32) : gi (ui (ui S (195 + q) i x) (195 + q) j y) (30 + q) 2 = nI qy := by
    rw [gi_ui, if_neg (by omega), gi_ui, if_neg (by omega)]
    exact M.2.1
  have w3 : (99 : Int32) - nI (jr j) = nI (99 - jr j) := by rw [n_99, pk_sub (by omega)]
  have w4 : mn (nI v) (nI (99 - jr j)) = nI (min v (99 - jr j)) := mn_n (by omega) (by omega)
  have w5 : nI (jr j) + nI (min v (99 - jr j)) = nI (min 99 (jr j + v)) := by
    rw [nI_add]
    congr 1
    omega
  have w6 : nI qy + (nI v - nI (min v (99 - jr j))) = nI (qy + (jr j + v - 99)) := by
    rw [pk_sub (by omega), nI_add]
    congr 1
    omega
  unfold f1_pass f1_receive
  rw [gd_t (i7 h7 hi), gd_t (i7 h7 hi), ix_k (by omega), e1, pk_sub hv, nmE, gd_t (i7 h7 hj), ix_k (by omega), e2, w3, w4, nmE, gd_t (i7 h7 hj), gd_t (i7 h7 hj), w5, nmE, e3, w6, nmE, b1_at]
  refine ⟨_, rfl, ((FQ.rf.u _ _ (Or.inr rfl)).u _ _ (Or.inr rfl)).u _ _ (Or.inl rfl), ?_, ?_, fun p hp => ?_⟩
  · rw [gi_ui, if_neg (by omega), gi_ui, if_neg (by omega), gi_ui, if_neg (by omega)]
    exact M.1
  · rw [gi_ui, if_pos ⟨rfl, rfl⟩]
  · rw [gi_ui, if_neg (by omega), gi_ui]
    unfold lndJ
    by_cases c : p = j
    · subst c
      rw [if_pos ⟨rfl, rfl⟩, if_pos rfl]
    · rw [if_neg (fun u => c u.2), if_neg c, gi_ui]
      by_cases c2 : p = i
      · subst c2
        rw [if_pos ⟨rfl, rfl⟩, if_pos rfl]
      · rw [if_neg (fun u => c2 u.2), if_neg c2]
        exact M.2.2 p hp
theorem MM.j {T : Mem} {h dy qy i : Nat} {jr : Nat → Nat} (M : MM T h 11 0 dy qy jr) (hi : i < h) : gi T 11 (2 + i) = nI (jr i) := by
  have := M.2.2 i hi
  rw [Nat.zero_add] at this
  exact this
theorem m_lends {T : Mem} {h dy qy i j v : Nat} {jr : Nat → Nat} (h7 : h ≤ 7) (hi : i < h) (hj : j < h) (hij : i ≠ j) (hv : v ≤ jr i) (hb : ∀ i, i < h → jr i ≤ 99) (hqy : qy ≤ 100000) (M : MM T h 11 0 dy qy jr) : ∃ T', f4_lends T (nI i) (nI j) (nI v) = some T' ∧ FT T T' ∧ MM T' h 11 0 dy (qy + (jr j + v - 99)) (lndJ i j v jr) := by
  have hbi := hb i hi
  have hbj := hb j hj
  have gi9 : inb (nI (2 + i)) 9 = true := inb_nI (by omega) (by decide)
  have gj9 : inb (nI (2 + j)) 9 = true := inb_nI (by omega) (by decide)
  have g1 : inb 1 9 = true := rfl
  have x1 : ix 1 = 1 := rfl
  have M1 : MM (ui T 11 (2 + i) (nI (jr i - v))) h 11 0 dy qy (fun p => if p = i then jr i - v else jr p) := ⟨by rw [gi_ui, if_neg (by omega)]; exact M.1, by rw [gi_ui, if_neg (by omega)]; exact M.2.1, fun p hp => by
    rw [gi_ui, Nat.zero_add]
    by_cases c : p = i
    · subst c
      rw [if_pos ⟨rfl, rfl⟩]
      simp only [if_true]
    · rw [if_neg (by omega)]
      simp only [if_neg c]
      exact M.j hp⟩
  have ej : f4_jar (ui T 11 (2 + i) (nI (jr i - v))) (nI j) = some (nI (jr j)) := by
    rw [m_jar h7 M1 hj]
    simp only [if_neg (Ne.symm hij)]
  have eq : gi (ui T 11 (2 + i) (nI (jr i - v))) 11 1 = nI qy := M1.2.1
  have fin : FT T (ui (ui (ui T 11 (2 + i) (nI (jr i - v))) 11 1 (nI (qy + (jr j + v - 99)))) 11 (2 + j) (nI (min 99 (jr j + v)))) ∧ MM (ui (ui (ui T 11 (2 + i) (nI (jr i - v))) 11 1 (nI (qy + (jr j + v - 99)))) 11 (2 + j) (nI (min 99 (jr j + v)))) h 11 0 dy (qy + (jr j + v - 99)) (lndJ i j v jr) := by
    refine ⟨((FT.rf.u _ _).u _ _).u _ _, ?_, ?_, fun p hp => ?_⟩
    · rw [gi_ui, if_neg (by omega), gi_ui, if_neg (by omega), gi_ui, if_neg (by omega)]
      exact M.1
    · rw [gi_ui, if_neg (by omega), gi_ui, if_pos ⟨rfl, rfl⟩]
    · rw [Nat.zero_add, gi_ui]
      unfold lndJ
      by_cases c : p = j
      · subst c
        rw [if_pos ⟨rfl, rfl⟩, if_pos rfl]
      · rw [if_neg (by omega), if_neg c, gi_ui, if_neg (by omega), gi_ui]
        by_cases c2 : p = i
        · subst c2
          rw [if_pos ⟨rfl, rfl⟩, if_pos rfl]
        · rw [if_neg (by omega), if_neg c2]
          exact M.j hp
  unfold f4_lends f4_lends_b44
  rw [n_2, nI_add, gd_t gi9, gd_t gi9, ix_k (by omega), M.j hi, pk_sub hv, nmE, ej, b1_at, nI_add, nmE, gd_t g1, x1, eq]
  by_cases c : jr j + v ≤ 99
  · have e2 : nI (jr j + v) ≤ 99 := by rw [n_99, n_le (by omega) (by omega)]; exact c
    have e3 : nI qy + 0 = nI (qy + (jr j + v - 99)) := by
      rw [Int32.add_zero]
      congr 1
      omega
    have e4 : jr j + v = min 99 (jr j + v) := by omega
    rw [if_pos e2, gd_t g1, nmE, if_pos e2, nI_add, gd_t gj9, ix_k (by omega), nmE, e3]
    rw [← e4] at fin
    exact ⟨_, rfl, fin⟩
  · have e2 : ¬ nI (jr j + v) ≤ 99 := by rw [n_99, n_le (by omega) (by omega)]; exact c
    have e3 : nI qy + (nI (jr j + v) - 99) = nI (qy + (jr j + v - 99)) := by rw [n_99, pk_sub (by omega), nI_add]
    have e4 : 99 = min 99 (jr j + v) := by omega
    rw [if_neg e2, gd_t g1, nmE, if_neg e2, nI_add, gd_t gj9, ix_k (by omega), nmE, e3, n_99]
    rw [← e4] at fin
    exact ⟨_, rfl, fin⟩
theorem lnd_ok {h d dy qy i j v : Nat} {jr : Nat → Nat} (hj : j < h) (hv : v ≤ 99) (o : OKM h d dy qy jr) : OKM h (d + 1) dy (qy + (jr j + v - 99)) (lndJ i j v jr) := by
  obtain ⟨a, b, c⟩ := o
  have := c j hj
  refine ⟨by omega, by omega, fun p hp => ?_⟩
  have := c p hp
  unfold lndJ
  split
  · omega
  · split
    · rename_i u
      subst u
      omega
    · omega
theorem rng1_if {α : Type} (x : Int32) (A B : α) : (if x < 1 then A else if 99 < x then A else B) = if rng x 1 99 = true then B else A := by
  rw [n_1, n_99, rng_if2 x (by decide) (by decide)]
theorem c_isCup (x : Int32) : f3_isCup x = some (if rng x 1 99 = true then 1 else 0) := by
  unfold f3_isCup
  rw [rng1_if]
  split <;> rfl
theorem m_isCup (x : Int32) : f4_in (Int32.toInt64 x) 1 99 = some (if rng x 1 99 = true then 1 else 0) := in_rng x 1 99 (by decide) (by decide)
theorem p_lend {S T : Mem} (R : Rel S T) (x y w : Int32) : ∃ r S' T', f3_lend S x y w = some (r, S') ∧ f4_lend T x y w = some (r, T') ∧ Rel S' T' := by
  obtain ⟨Rb, h, kd, fi, ha, d, dy, qy, jr, P⟩ := id R
  obtain ⟨H1, H2, H3, H4, H5⟩ := id P
  obtain ⟨M1, O1⟩ := H4.2.2.1 d (Nat.le_refl d)
  have hd := H4.1
  have h7 := H1.2.1
  unfold f3_lend f4_lend
  simp only [c_isHouse H1, m_isHouse H2, b1_at, c_isCup, m_isCup]
  by_cases hx : inb x h = true
  · simp only [if_pos hx, i10, if_false]
    obtain ⟨i, hi, rfl⟩ := inb_ex hx (by omega)
    by_cases hy : inb y h = true
    · simp only [if_pos hy, i10, if_false]
      obtain ⟨j, hj, rfl⟩ := inb_ex hy (by omega)
      by_cases hij : nI i = nI j
      · simp only [if_pos hij]
        exact ⟨_, _, _, rfl, rfl, R⟩
      · simp only [if_neg hij]
        by_cases hw : rng w 1 99 = true
        · simp only [if_pos hw, i10, if_false]
          obtain ⟨v, v1, v2, rfl⟩ := rng_ex hw
          have oi := O1.2.2 i hi
          have ne : i ≠ j := fun u => hij (by rw [u])
          rw [c_now H4, b1_at, gd_t (dlt hd), gd_t (i7 h7 hi), ix_k (by omega), M1.2.2 i hi, m_jar h7 H4.2.2.2.1 hi, b1_at, c_full H4.2.1 hd, b1_at, H3]
          by_cases cv : v ≤ jr d i
          · have e1 : nI v ≤ nI (jr d i) := by rw [n_le (by omega) (by omega)]; exact cv
            rw [if_pos e1, if_pos e1]
            by_cases c : d < 40
            · have e3 : ¬ nI d = 40 := by rw [n_40, n_eq (by omega) (by omega)]; omega
              rw [if_pos c, if_pos rfl, if_neg e3]
              obtain ⟨S1, T1, a1, a2, a3, a4, a5, a6, a7, a8⟩ := deed Rb P c
              have o2 := a7.2.1
              obtain ⟨S2, b1', b2', b3'⟩ := c_pass (show 41 * 0 + (d + 1) < 165 by omega) h7 hi hj ne cv a7.2.2 (by omega) a5
              obtain ⟨T2, c1, c2, c3⟩ := m_lends h7 hi hj ne cv a7.2.2 (by omega) a6
              obtain ⟨r1, dy', qy', jr', r2⟩ := a8 S2 T2 _ _ _ b2' c2 b3' c3 (lnd_ok hj v2 a7)
              rw [a1, b2_at, gd_t (dlt (show d + 1 ≤ 40 by omega)), b1', b1_at, a2, b1_at, c1, b1_at, m_jar h7 c3 hj, b1_at, gd_t (i7 h7 hj), ix_k (by omega), b3'.2.2 j hj]
              exact ⟨_, _, _, rfl, rfl, PLx.rel r1 r2⟩
            · have e3 : nI d = 40 := by rw [n_40, n_eq (by omega) (by omega)]; omega
              rw [if_neg c, if_neg (show ¬ (1 : Int32) = 0 by decide), if_pos e3]
              exact ⟨_, _, _, rfl, rfl, R⟩
          · have e1 : ¬ nI v ≤ nI (jr d i) := by rw [n_le (by omega) (by omega)]; exact cv
            rw [if_neg e1, if_neg e1]
            exact ⟨_, _, _, rfl, rfl, R⟩
        · simp only [if_neg hw, if_true]
          exact ⟨_, _, _, rfl, rfl, R⟩
    · simp only [if_neg hy, if_true]
      exact ⟨_, _, _, rfl, rfl, R⟩
  · simp only [if_neg hx, if_true]
    exact ⟨_, _, _, rfl, rfl, R⟩
