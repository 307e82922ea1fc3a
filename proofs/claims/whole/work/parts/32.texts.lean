/-! COPY, MEAN, TEXTS -/
theorem c_reaches {z i n : Nat} (hz : z ≤ 40) (x2 : Int32) : f3_reaches (nI z) x2 (nI n) = if (0 ≤ x2.toInt ∧ x2.toInt ≤ (nI z - nI n).toInt) then some 1 else some 0 := by
  unfold f3_reaches
  simp only [i_lt, i_0]
  split
  · rw [if_neg (by omega)]
  · split
    · rw [if_neg (by omega)]
    · rw [if_pos (by omega)]
theorem i_sub {z n : Nat} (hz : z ≤ 40) (x : Int32) (hx : 0 ≤ x) : (nI z - x).toInt = (z : Int) - x.toInt := by
  rw [i_le, i_0] at hx
  have h := i_rng x
  rw [Int32.toInt_sub, nI_toInt (by omega), Int.bmod_eq_of_le (by omega) (by omega)]
/-- n places from i on are among z -/
def rch (z : Nat) (i n : Int32) : Bool := decide (0 ≤ i.toInt) && decide (i.toInt + n.toInt ≤ (z : Int))
theorem c_reach {z : Nat} (hz : z ≤ 40) (i n : Int32) (hn : 0 ≤ n) : f3_reaches (nI z) i n = some (if rch z i n = true then 1 else 0) := by
  unfold f3_reaches
  simp only [i_lt, i_0, i_sub (n := 0) hz n hn, rch, Bool.and_eq_true, decide_eq_true_eq]
  split
  · rw [if_neg (by omega)]
  · split
    · rw [if_neg (by omega)]
    · rw [if_pos (by omega)]
theorem rch_ex {z : Nat} (hz : z ≤ 40) {i n : Int32} (hn : 0 ≤ n) (h : rch z i n = true) : ∃ a b, i = nI a ∧ n = nI b ∧ a + b ≤ z := by
  simp only [rch, Bool.and_eq_true, decide_eq_true_eq] at h
  rw [i_le, i_0] at hn
  refine ⟨i.toInt.toNat, n.toInt.toNat, ?_, ?_, by omega⟩
  · rw [i_eq, nI_toInt (by omega)]
    omega
  · rw [i_eq, nI_toInt (by omega)]
    omega
theorem l_add (x y : Int32) : (x.toInt64 + y.toInt64).toInt = x.toInt + y.toInt := by
  have h1 := i_rng x
  have h2 := i_rng y
  rw [Int64.toInt_add, Int32.toInt_toInt64, Int32.toInt_toInt64, Int.bmod_eq_of_le (by omega) (by omega)]
theorem m_copy141 {k j z : Nat} (hk : k < 6) (hz : j + z ≤ 40) : ∀ (n i : Nat) (T : Mem), z - i < n → i ≤ z → f4_copy_b141 n T (nI k) (nI j) (nI z) (nI i) = some (1, upG T 3 (40 * k + j + i) (40 * k + j + z) (fun p => gi T 6 (p - (40 * k + j))))
  | 0, i, T, h, _ => by omega
  | n + 1, i, T, h, hi => by
    rw [f4_copy_b141, n_40]
    rcases Nat.lt_or_ge i z with q | q
    · rw [if_neg (by rw [n_le (by omega) (by omega)]; omega)]
      simp only [pk_mul, nI_add, nI_1, nmE]
      rw [gd_ix (by omega) (by decide), gd_ix (by omega) (by decide), ix_k (by omega), ix_k (by omega), m_copy141 hk hz n (i + 1) _ (by omega) (by omega), ← Nat.add_assoc]
      have e : (fun p => gi (ui T 3 (40 * k + j + i) (gi T 6 i)) 6 (p - (40 * k + j))) = (fun p => gi T 6 (p - (40 * k + j))) := funext fun p => by rw [gi_ui, if_neg (by omega)]
      rw [e]
      have h2 := upG_step (T := T) (a := 3) (lo := 40 * k + j + i) (hi := 40 * k + j + z) (G := fun p => gi T 6 (p - (40 * k + j))) (by omega)
      rw [Nat.add_sub_cancel_left] at h2
      rw [h2]
    · rw [if_pos (by rw [n_le (by omega) (by omega)]; exact q), upG_nil (by omega)]
theorem m_copy104 {k a t j z : Nat} (hk : k < 6) (ht : t < 6) (hz : a + z ≤ 40) (hz2 : j + z ≤ 40) : ∀ (n i : Nat) (T : Mem), z - i < n → i ≤ z → f4_copy_b104 n T (nI k) (nI a) (nI t) (nI j) (nI z) (nI i) = some (1, upG (upG T 6 i z (fun p => gi T 3 (40 * k + a + p))) 3 (40 * t + j) (40 * t + j + z) (fun p => gi (upG T 6 i z (fun p => gi T 3 (40 * k + a + p))) 6 (p - (40 * t + j))))
  | 0, i, T, h, _ => by omega
  | n + 1, i, T, h, hi => by
    rw [f4_copy_b104, n_40]
    rcases Nat.lt_or_ge i z with q | q
    · rw [if_neg (by rw [n_le (by omega) (by omega)]; omega)]
      simp only [pk_mul, nI_add, nI_1, nmE]
      rw [gd_ix (by omega) (by decide), gd_ix (by omega) (by decide), ix_k (by omega), ix_k (by omega), m_copy104 hk ht hz hz2 n (i + 1) _ (by omega) (by omega)]
      have e : (fun p => gi (ui T 6 i (gi T 3 (40 * k + a + i))) 3 (40 * k + a + p)) = (fun p => gi T 3 (40 * k + a + p)) := funext fun p => by rw [gi_ui, if_neg (by omega)]
      rw [e, upG_step (G := fun p => gi T 3 (40 * k + a + p)) q]
    · rw [if_pos (by rw [n_le (by omega) (by omega)]; exact q), upG_nil (show z ≤ i from q), n_0, m_copy141 ht hz2 FU 0 _ (Nat.lt_of_le_of_lt (show z - 0 ≤ 40 by omega) (by decide)) (by omega), Nat.add_zero]
theorem p_copy {S T : Mem} (R : Rel S T) (x i w j n : Int32) : ∃ r S' T', f3_copy S x i w j n = some (r, S') ∧ f4_copy T x i w j n = some (r, T') ∧ Rel S' T' := by
  unfold f3_copy f4_copy
  simp only [c_isRow, m_isRow, b1_at]
  by_cases hx : inb x 6 = true
  · obtain ⟨k, hk, rfl⟩ := inb_ex hx (by decide)
    simp only [if_pos hx, i10, if_false]
    by_cases hw : inb w 6 = true
    · obtain ⟨t, ht, rfl⟩ := inb_ex hw (by decide)
      simp only [if_pos hw, i10, if_false]
      by_cases hn : 0 ≤ n
      · simp only [if_pos hn, gd_t hx, gd_t hw, ix_k (show k < 2 ^ 31 by omega), ix_k (show t < 2 ^ 31 by omega)]
        rcases R.rsz hk with ⟨a1, a2, a3⟩ | ⟨z, hz, b1', b2', b3, b4, b5⟩
        · simp only [if_pos a1, if_pos a3]
          unfold f3_copy_b47 f4_copy_b45
          rw [c_f1, m_f1, b2_at, b2_at]
          exact ⟨_, _, _, rfl, rfl, R.find (by decide)⟩
        · simp only [if_neg b3, if_neg b5]
          rcases R.rsz ht with ⟨a1, a2, a3⟩ | ⟨y, hy, d1, d2, d3, d4, d5⟩
          · simp only [if_pos a1, if_neg a2]
            unfold f3_copy_b47 f4_copy_b45
            rw [c_f1, m_f1, b2_at, b2_at]
            exact ⟨_, _, _, rfl, rfl, R.find (by decide)⟩
          · simp only [if_neg d3, if_pos d4, b1', b2', d1, d2, if_pos (nI_pos' (show y < 2 ^ 31 by omega)), if_neg (show ¬ nI y = -1 from d1 ▸ d3), c_reach hz i n hn, c_reach hy j n hn, b1_at]
            have hcond : ∀ {A B : Option (Int32 × Mem)}, (if i < 0 then A else if j < 0 then A else if 0 < lg_cmp (i.toInt64 + n.toInt64) (Int32.toInt64 (nI z)) then A else if lg_cmp (j.toInt64 + n.toInt64) (Int32.toInt64 (nI y)) ≤ 0 then B else A) = if rch z i n = true ∧ rch y j n = true then B else A := by
              intro A B
              simp only [lg_cmp_gt, lg_cmp_le]
              simp only [l_lt, l_le, l_add, Int32.toInt_toInt64, nI_toInt (show z < 2 ^ 31 by omega), nI_toInt (show y < 2 ^ 31 by omega), i_lt, i_0, rch, Bool.and_eq_true, decide_eq_true_eq]
              by_cases c1 : i.toInt < 0
              · rw [if_pos c1, if_neg (by omega)]
              · rw [if_neg c1]
                by_cases c2 : j.toInt < 0
                · rw [if_pos c2, if_neg (by omega)]
                · rw [if_neg c2]
                  by_cases c3 : (z : Int) < i.toInt + n.toInt
                  · rw [if_pos c3, if_neg (by omega)]
                  · rw [if_neg c3]
                    by_cases c4 : j.toInt + n.toInt ≤ (y : Int)
                    · rw [if_pos c4, if_pos (by omega)]
                    · rw [if_neg c4, if_neg (by omega)]
            rw [hcond]
            by_cases r1 : rch z i n = true
            · by_cases r2 : rch y j n = true
              · obtain ⟨a, b, rfl, rfl, hab⟩ := rch_ex hz hn r1
                obtain ⟨a', b', rfl, e, hab2⟩ := rch_ex hy hn r2
                have e2 : b' = b := by
                  have := (nI_eq (by omega) (by omega)).mp e
                  exact this.symm
                subst e2
                simp only [if_pos (show rch z (nI a) (nI b') = true ∧ rch y (nI a') (nI b') = true from ⟨r1, r2⟩), if_pos r1, if_pos r2, i10, if_false]
                rw [gd_t (by
                  simp only [Bool.and_eq_true, Bool.not_eq_true', decide_eq_false_iff_not, decide_eq_true_eq, ix_k (show a < 2 ^ 31 by omega), ix_k (show a' < 2 ^ 31 by omega), ix_k (show b' < 2 ^ 31 by omega)]
                  exact ⟨⟨⟨⟨nI_pos (by omega), nI_pos (by omega)⟩, nI_pos (by omega)⟩, by omega⟩, by omega⟩), nmE, ix_k (show a < 2 ^ 31 by omega), ix_k (show a' < 2 ^ 31 by omega), ix_k (show b' < 2 ^ 31 by omega), n_0, m_copy104 hk ht (by omega) (by omega) FU 0 T (Nat.lt_of_le_of_lt (show b' - 0 ≤ 40 by omega) (by decide)) (by omega)]
                refine ⟨_, _, _, rfl, rfl, ?_⟩
                refine R.rows (fun a p h => by rw [gi_ucp, if_neg (by omega)]) (fun _ => rfl) (fun a p h h2 => by rw [gi_upG, if_neg (by omega), gi_upG, if_neg (by omega)]) (fun _ => rfl) (fun r q hr hq => ?_)
                rw [gi_ucp, gi_upG]
                by_cases e3 : r = t ∧ a' ≤ q ∧ q < a' + b'
                · rw [if_pos (by omega), if_pos (by omega), gi_upG, if_pos (by omega), R.rv hk (by omega)]
                  congr 1
                  omega
                · rw [if_neg (by omega), if_neg (by omega), gi_upG, if_neg (by omega)]
                  exact R.rv hr hq
              · simp only [if_neg (show ¬(rch z i n = true ∧ rch y j n = true) from fun q => r2 q.2), if_pos r1, if_neg r2, i10, if_false, if_true]
                unfold f3_copy_b84 f4_copy_b95
                rw [c_f2, m_f2, b2_at, b2_at]
                exact ⟨_, _, _, rfl, rfl, R.find (by decide)⟩
            · simp only [if_neg (show ¬(rch z i n = true ∧ rch y j n = true) from fun q => r1 q.1), if_neg r1, if_true]
              unfold f3_copy_b84 f4_copy_b95
              rw [c_f2, m_f2, b2_at, b2_at]
              exact ⟨_, _, _, rfl, rfl, R.find (by decide)⟩
      · simp only [if_neg hn, c_f5, m_f5, b2_at]
        exact ⟨_, _, _, rfl, rfl, R.find (by decide)⟩
    · simp only [if_neg hw, if_true]
      exact ⟨_, _, _, rfl, rfl, R⟩
  · simp only [if_neg hx, if_true]
    exact ⟨_, _, _, rfl, rfl, R⟩
/-! mean -/
theorem mean_loop {S T : Mem} (R : Rel S T) {k z : Nat} (hk : k < 6) (hz : z ≤ 40) (h0 : 0 < z) (hs : gi T 2 k = nI z) : ∀ (n i : Nat) (acc : Int64), z - i < n → i ≤ z → ∃ v, f3_mean_b35 n S (nI k) (nI z) acc (nI i) = some (1, ui S 0 9 v) ∧ f4_mean_b44 n T (nI k) acc (nI i) = some (1, ui T 0 2 v)
  | 0, i, acc, h, _ => by omega
  | n + 1, i, acc, h, hi => by
    have g0 : inb (nI k) 6 = true := inb_nI hk (by decide)
    rw [f3_mean_b35, f4_mean_b44]
    simp only [gd_t g0, ix_k (show k < 2 ^ 31 by omega), hs]
    rcases Nat.lt_or_ge i z with q | q
    · have e : ¬ nI z ≤ nI i := by rw [n_le (by omega) (by omega)]; omega
      rw [if_neg e, if_neg e]
      have g1 : inb (nI i) 40 = true := inb_nI (by omega) (by decide)
      have g2 : inb (nI (40 * k + i)) 240 = true := inb_nI (by omega) (by decide)
      simp only [gd_t g1, n_40, pk_mul, nI_add, gd_t g2, nI_1, nmE, ix_k (show i < 2 ^ 31 by omega), ix_k (show 40 * k + i < 2 ^ 31 by omega), R.rv hk (show i < 40 by omega)]
      exact mean_loop R hk hz h0 hs n (i + 1) _ (by omega) (by omega)
    · have e : nI z ≤ nI i := by rw [n_le (by omega) (by omega)]; exact q
      have e2 : ¬ (nI z).toInt64 = 0 := by
        rw [nI_l (by omega)]
        intro h
        have := congrArg Int64.toInt h
        rw [lN_toInt (by omega)] at this
        simp at this
        omega
      rw [if_pos e, if_pos e]
      simp only [gd_d e2]
      exact ⟨_, rfl, rfl⟩
theorem p_mean {S T : Mem} (R : Rel S T) (x : Int32) : ∃ r S' T', f3_mean S x = some (r, S') ∧ f4_mean T x = some (r, T') ∧ Rel S' T' := by
  unfold f3_mean f4_mean
  rw [m_isRow, b1_at]
  by_cases hx : inb x 6 = true
  · obtain ⟨k, hk, rfl⟩ := inb_ex hx (by decide)
    simp only [if_pos hx, i10, if_false, gd_t hx, ix_k (show k < 2 ^ 31 by omega), c_rowRef S hk]
    rcases R.rsz hk with ⟨a, b, -⟩ | ⟨z, hz, a, a2, b, c, -⟩
    · simp only [if_pos a, if_neg b, b2_at, m_f1]
      exact ⟨_, _, _, rfl, rfl, R.find (by decide)⟩
    · have b' : ¬ nI z = -1 := a ▸ b
      have c' : 0 ≤ nI z := a2 ▸ c
      simp only [a, a2, if_neg b', if_pos c', b2_at, if_true, nmE]
      by_cases h0 : z = 0
      · subst h0
        rw [if_pos (show nI 0 = 0 from rfl), if_pos (show nI 0 = 0 from rfl), c_f4, m_f4, b2_at, b2_at]
        exact ⟨_, _, _, rfl, rfl, R.find (by decide)⟩
      · have e : ¬ nI z = 0 := nI_ne0 (by omega) (by omega)
        rw [if_neg e, if_neg e]
        obtain ⟨v, h1, h2⟩ := mean_loop R hk hz (by omega) a2 FU 0 0 (Nat.lt_of_le_of_lt (show z - 0 ≤ 40 by omega) (by decide)) (by omega)
        exact ⟨_, _, _, h1, h2, R.told v⟩
  · rw [c_rowRef0 S hx, b2_at, if_neg (by decide), if_neg hx, if_pos rfl]
    exact ⟨_, _, _, rfl, rfl, R⟩
/-! texts -/
theorem c_textRef (S : Mem) {k : Nat} (hk : k < 4) : f3_textRefusal S (nI k) = if gi S 14 k = -1 then some (-3, fndC S 1) else some (0, S) := by
  unfold f3_textRefusal
  have hx : inb (nI k) 4 = true := inb_nI hk (by decide)
  simp only [c_isText, b1_at, if_pos hx, i10, if_false, gd_t hx, ix_k (Nat.lt_trans hk (by decide : 4 < 2 ^ 31)), c_f1, b2_at]
theorem c_textRef0 (S : Mem) {x : Int32} (hx : ¬ inb x 4 = true) : f3_textRefusal S x = some (-1, S) := by
  unfold f3_textRefusal
  simp only [c_isText, b1_at, if_neg hx, if_true]
/-- texts alone have changed, alike -/
theorem Rel.texts {S T S' T' : Mem} (R : Rel S T) (hc : ∀ a p, ¬(10 ≤ a ∧ a ≤ 14) → gi S' a p = gi S a p) (hl : ∀ p, gl S' p = gl S p) (hm : ∀ a p, a ≠ 4 → a ≠ 5 → gi T' a p = gi T a p) (hn : ∀ p, gl T' p = gl T p) (hv : ∀ k i, k < 4 → i < 60 → gi S' (10 + k) i = gi T' 5 (60 * k + i)) (hs : ∀ t, t < 4 → gi S' 14 t = gi T' 4 t ∧ SZ (gi S' 14 t) 60) : Rel S' T' := by
  obtain ⟨⟨h1, h2, h3, h4, h5, h6, h7, h8, h9⟩, P⟩ := R
  refine ⟨⟨?_, ?_, ?_, ?_, fun f hf => ?_, fun r hr => ?_, fun r i hr hi => ?_, hs, hv⟩, P.keep (fun a k q => hc a k (by omega)) ⟨hm _ _ (by decide) (by decide), hm _ _ (by decide) (by decide), fun a k _ _ _ => hm _ _ (by omega) (by omega)⟩⟩
  · rw [hc _ _ (by omega), hm _ _ (by decide) (by decide), h1]
  · rw [hc _ _ (by omega), hm _ _ (by decide) (by decide), h2]
  · rw [hl, hn, h3]
  · rw [hl, hn, h4]
  · rw [hc _ _ (by omega), hm _ _ (by decide) (by decide), h5 f hf]
  · rw [hc _ _ (by omega), hm _ _ (by decide) (by decide)]
    exact h6 r hr
  · rw [hc _ _ (by omega), hm _ _ (by decide) (by decide)]
    exact h7 r i hr hi
theorem p_text {S T : Mem} (R : Rel S T) (x y : Int32) : ∃ r S' T', f3_text S x y = some (r, S') ∧ f4_text T x y = some (r, T') ∧ Rel S' T' := by
  unfold f3_text f4_text
  rw [c_isText, m_isText, b1_at, b1_at]
  by_cases hx : inb x 4 = true
  · obtain ⟨k, hk, rfl⟩ := inb_ex hx (by decide)
    simp only [if_pos hx, i10, if_false]
    by_cases h1 : y ≤ 60
    · simp only [if_pos h1]
      by_cases h2 : 0 ≤ y
      · simp only [if_pos h2]
        simp only [gd_t hx, ix_k (Nat.lt_trans hk (by decide : 4 < 2 ^ 31)), c_fillB, b1_at, nmE]
        rw [show (0 : Int32) = nI 0 from rfl, m_text34 k hk y FU 0 _ (by decide) (by decide)]
        refine ⟨y, _, _, rfl, rfl, ?_⟩
        refine R.texts (fun a p h => by rw [gi_ui, if_neg (by omega), gi_upG, if_neg (by omega)]) (fun _ => rfl) (fun a p h h2 => by rw [gi_upG, if_neg (by omega), gi_ui, if_neg (by omega)]) (fun _ => rfl) (fun r i hr hi => ?_) (fun t ht => ?_)
        · rw [gi_ui, if_neg (by omega), gi_upG, gi_upG]
          by_cases e : r = k
          · subst e
            rw [if_pos (by omega), if_pos (by omega)]
            rfl
          · rw [if_neg (by omega), if_neg (by omega), gi_ui, if_neg (by omega)]
            exact R.tv hr hi
        · rw [gi_upG, if_neg (by omega), gi_ui, gi_ui]
          by_cases e : t = k
          · subst e
            rw [if_pos (by omega), if_pos (by omega)]
            exact ⟨rfl, sz_of (by decide) h1 h2⟩
          · rw [if_neg (by omega), if_neg (by omega), gi_upG, if_neg (by omega)]
            exact R.1.2.2.2.2.2.2.2.1 t ht
      · simp only [if_neg h2, c_f5, m_f5, b2_at]
        exact ⟨_, _, _, rfl, rfl, R.find (by decide)⟩
    · simp only [if_neg h1]
      exact ⟨_, _, _, rfl, rfl, R⟩
  · simp only [if_neg hx, if_true]
    exact ⟨_, _, _, rfl, rfl, R⟩
theorem i2b_i2b (x : Int32) : i2b (i2b x) = i2b x := by
  show x.toInt8.toInt32.toInt8.toInt32 = x.toInt8.toInt32
  rw [Int8.toInt8_toInt32]
theorem p_put {S T : Mem} (R : Rel S T) (x y v : Int32) : ∃ r S' T', f3_put S x y v = some (r, S') ∧ f4_put T x y v = some (r, T') ∧ Rel S' T' := by
  unfold f3_put f4_put
  rw [m_isText, b1_at]
  by_cases hx : inb x 4 = true
  · obtain ⟨k, hk, rfl⟩ := inb_ex hx (by decide)
    simp only [if_pos hx, i10, if_false, gd_t hx, ix_k (show k < 2 ^ 31 by omega), c_textRef S hk]
    rcases R.tsz hk with ⟨a, b, -⟩ | ⟨z, hz, a, a2, b, c, -⟩
    · simp only [if_pos a, if_neg b, b2_at, m_f1]
      exact ⟨_, _, _, rfl, rfl, R.find (by decide)⟩
    · have b' : ¬ nI z = -1 := a ▸ b
      have c' : 0 ≤ nI z := a2 ▸ c
      simp only [a, a2, if_neg b', if_pos c', b2_at, if_true, nmE, in_inb y z (show z < 2 ^ 31 by omega), b1_at, two_if2 y (show z < 2 ^ 31 by omega)]
      by_cases hy : inb y z = true
      · obtain ⟨j, hj, rfl⟩ := inb_ex hy (by omega)
        have g1 : inb (nI j) 60 = true := inb_nI (by omega) (by decide)
        have g2 : inb (nI (60 * k + j)) 240 = true := inb_nI (by omega) (by decide)
        simp only [if_pos hy, i10, if_false, gd_t g1, n_60, pk_mul, nI_add, gd_t g2, ix_k (show j < 2 ^ 31 by omega), ix_k (show 60 * k + j < 2 ^ 31 by omega), i2b_i2b]
        refine ⟨_, _, ui T 5 (60 * k + j) (i2b v), rfl, ?_, ?_⟩
        · rw [R.tv hk (by omega), Int32.add_comm]
        · refine R.texts (fun a p h => by rw [gi_ui, if_neg (by omega)]) (fun _ => rfl) (fun a p h h2 => by rw [gi_ui, if_neg (by omega)]) (fun _ => rfl) (fun r i hr hi => ?_) (fun t ht => ?_)
          · rw [gi_ui, gi_ui]
            by_cases e : r = k ∧ i = j
            · rw [if_pos (by omega), if_pos (by omega)]
            · rw [if_neg (by omega), if_neg (by omega)]
              exact R.tv hr hi
          · rw [gi_ui, if_neg (by omega), gi_ui, if_neg (by omega)]
            exact R.1.2.2.2.2.2.2.2.1 t ht
      · simp only [if_neg hy, if_true]
        unfold f3_put_b29
        rw [c_f2, m_f2, b2_at, b2_at]
        exact ⟨_, _, _, rfl, rfl, R.find (by decide)⟩
  · rw [c_textRef0 S hx, b2_at, if_neg (by decide), if_neg hx, if_pos rfl]
    exact ⟨_, _, _, rfl, rfl, R⟩
/-! what is told -/
theorem p_asked {S T : Mem} (R : Rel S T) : ∃ r, f3_asked S = some r ∧ f4_asked T = some r := ⟨_, rfl, by unfold f4_asked; rw [R.1.1]⟩
theorem p_upper {S T : Mem} (R : Rel S T) : ∃ r, f3_upper S = some r ∧ f4_upper T = some r := ⟨_, rfl, by unfold f4_upper; rw [R.1.2.2.1]⟩
theorem p_lower {S T : Mem} (R : Rel S T) : ∃ r, f3_lower S = some r ∧ f4_lower T = some r := ⟨_, rfl, by unfold f4_lower; rw [R.1.2.2.2.1]⟩
theorem p_finding {S T : Mem} (R : Rel S T) : ∃ r, f3_finding S = some r ∧ f4_finding T = some r := ⟨_, rfl, by unfold f4_finding; rw [R.1.2.1]⟩
theorem rng_if {α : Type} (x : Int32) {a b : Nat} (ha : a < 2 ^ 31) (hb : b < 2 ^ 31) (A B : α) : (if x < nI a then A else if x ≤ nI b then B else A) = if rng x a b = true then B else A := by
  simp only [i_lt, i_le, nI_toInt ha, nI_toInt hb, rng_iff]
  split
  · rw [if_neg (by omega)]
  · split
    · rw [if_pos (by omega)]
    · rw [if_neg (by omega)]
theorem rng_if2 {α : Type} (x : Int32) {a b : Nat} (ha : a < 2 ^ 31) (hb : b < 2 ^ 31) (A B : α) : (if x < nI a then A else if nI b < x then A else B) = if rng x a b = true then B else A := by
  simp only [i_lt, nI_toInt ha, nI_toInt hb, rng_iff]
  split
  · rw [if_neg (by omega)]
  · split
    · rw [if_neg (by omega)]
    · rw [if_pos (by omega)]
theorem p_findings {S T : Mem} (R : Rel S T) (x : Int32) : ∃ r, f3_findings S x = some r ∧ f4_findings T x = some r := by
  unfold f3_findings f4_findings
  rw [show (1 : Int64) = lN 1 from rfl, show (5 : Int64) = lN 5 from rfl, in_rng x 1 5 (by decide) (by decide), b1_at, n_1, n_5, rng_if x (by decide) (by decide)]
  by_cases h : rng x 1 5 = true
  · obtain ⟨k, h1, h2, rfl⟩ := rng_ex h
    simp only [if_pos h]
    rw [if_neg (by decide), gd_ix (by omega) (by decide), gd_ix (by omega) (by decide), ix_k (by omega), R.1.2.2.2.2.1 k (by omega)]
    exact ⟨_, rfl, rfl⟩
  · simp only [if_neg h]
    exact ⟨_, rfl, rfl⟩
