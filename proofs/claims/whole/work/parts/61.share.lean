/-! SHARE -/
theorem set_bit (p : Nat → Bool) : ∀ (n i : Nat), (setN p n).testBit i = (decide (i < n) && p i)
  | 0, i => by
    rw [setN, Nat.zero_testBit, decide_eq_false (Nat.not_lt_zero i)]
    rfl
  | n + 1, i => by
    have ih := set_bit p n
    have l := setN_lt p n
    rw [setN]
    rcases Nat.lt_trichotomy i n with q | q | q
    · rw [decide_eq_true (show i < n + 1 by omega), Bool.true_and]
      have e := ih i
      rw [decide_eq_true q, Bool.true_and] at e
      split
      · rw [Nat.add_comm, Nat.testBit_two_pow_add_gt q, e]
      · rw [Nat.add_zero, e]
    · subst q
      rw [decide_eq_true (Nat.lt_succ_self i), Bool.true_and]
      have e := Nat.testBit_lt_two_pow l
      split
      · rename_i c
        rw [Nat.add_comm, Nat.testBit_two_pow_add_eq, e, c]
        rfl
      · rename_i c
        rw [Nat.add_zero, e, Bool.eq_false_iff.mpr c]
    · rw [decide_eq_false (by omega), Bool.false_and]
      have l2 := setN_lt p (n + 1)
      rw [setN] at l2
      have l3 : 2 ^ (n + 1) ≤ 2 ^ i := Nat.pow_le_pow_right (by decide) (by omega)
      exact Nat.testBit_lt_two_pow (Nat.lt_of_lt_of_le l2 l3)
theorem or_pop : ∀ s, s < 128 → ∀ o, o < 128 → popN (s ||| o) ≤ popN s → s &&& o = o := by decide +kernel
theorem and_eq : ∀ s, s < 128 → ∀ o, o < 128 → s &&& o = o → popN s = popN o → s = o := by decide +kernel
theorem or_lt : ∀ s, s < 128 → ∀ o, o < 128 → s ||| o < 128 := by decide +kernel
theorem and_n : ∀ s, s < 128 → ∀ o, o < 128 → (nI s &&& nI o = nI o) = (s &&& o = o) := by
  intro s hs o ho
  have e : nI s &&& nI o = nI (s &&& o) := by
    apply Int32.toBitVec_inj.mp
    rw [Int32.toBitVec_and]
    apply BitVec.eq_of_toNat_eq
    have l := Nat.and_le_left (n := s) (m := o)
    rw [BitVec.toNat_and, pk_tn (by omega), pk_tn (by omega), pk_tn (by omega)]
  have l := Nat.and_le_left (n := s) (m := o)
  rw [e, n_eq (by omega) (by omega)]
/-- may all of the set's works come off; what they lack together -/
def alB (L : Nat → Int32) (s : Nat) : Nat → Bool
  | 0 => true
  | n + 1 => alB L s n && !(s.testBit n && decide (L n = -9))
def lnN (L : Nat → Int32) (i : Nat) : Nat := if L i = -9 then 0 else ix (L i)
def cosN (L : Nat → Int32) (s i : Nat) : Nat := if s.testBit i = true then lnN L i else 0
def LK (L : Nat → Int32) (h : Nat) : Prop := ∀ i, i < h → L i = -9 ∨ ∃ m, m ≤ 99 ∧ L i = nI m
theorem LK.ln {L : Nat → Int32} {h i : Nat} (k : LK L h) (hi : i < h) : lnN L i ≤ 99 ∧ (¬ L i = -9 → L i = nI (lnN L i)) := by
  unfold lnN
  rcases k i hi with e | ⟨m, m1, e⟩
  · rw [if_pos e]
    exact ⟨by decide, fun q => absurd e q⟩
  · have n := n9 (show m < 2 ^ 31 by omega)
    rw [e, if_neg n, ix_k (by omega)]
    exact ⟨m1, fun _ => rfl⟩
theorem cos_le {L : Nat → Int32} {h i s : Nat} (k : LK L h) (h7 : h ≤ 7) (hi : i ≤ h) : smN (cosN L s) i ≤ 693 := by
  have := sm_b h7 (f := cosN L s) (c := 99) (fun j hj => by
    unfold cosN
    split
    · exact (k.ln hj).1
    · decide) hi
  omega
theorem al_iff {L : Nat → Int32} {s : Nat} : ∀ {n : Nat}, alB L s n = true ↔ ∀ i, i < n → s.testBit i = true → ¬ L i = -9
  | 0 => by
    rw [alB]
    exact ⟨fun _ i hi => absurd hi (Nat.not_lt_zero i), fun _ => rfl⟩
  | n + 1 => by
    rw [alB, Bool.and_eq_true, al_iff (n := n)]
    constructor
    · rintro ⟨a, b⟩ i hi c d
      rcases Nat.lt_or_ge i n with q | q
      · exact a i q c d
      · have e : i = n := by omega
        subst e
        rw [c, decide_eq_true d] at b
        exact absurd b (by decide)
    · intro a
      refine ⟨fun i hi => a i (by omega), ?_⟩
      by_cases c : s.testBit n = true
      · rw [c, decide_eq_false (a n (Nat.lt_succ_self n) c)]
        rfl
      · rw [Bool.eq_false_iff.mpr c]
        rfl
/-! the class: what each lacks, what a set lacks -/
def FN (S S' : Mem) : Prop := (∀ a p, a ≠ 20 → gi S' a p = gi S a p) ∧ ∀ p, gl S' p = gl S p
theorem c_needs {S0 : Mem} {h q dy qy : Nat} {kd fi ha jr : Nat → Nat} (hq : q < 165) (H : HC S0 h kd fi ha) (M : MC S0 h q dy qy jr) (hj : ∀ i, i < h → jr i ≤ 99) : ∀ (n i : Nat) (S : Mem), h - i < n → i ≤ h → FN S0 S → (∀ k, k < i → gi S 20 k = lkV (okW (kd k) (ha k)) (jr k) (jr k)) → ∃ S', f3_share_b23 n S q (nI i) = f3_share_b67 FU S' q 0 0 1 ∧ FN S0 S' ∧ ∀ k, k < h → gi S' 20 k = lkV (okW (kd k) (ha k)) (jr k) (jr k) := by
  intro n
  induction n with
  | zero =>
    intro i S h1
    omega
  | succ n ih =>
    intro i S h1 h2 F I
    have h7 := H.2.1
    have HS : HC S h kd fi ha := by
      obtain ⟨a1, a2, a3⟩ := H
      refine ⟨by rw [F.1 _ _ (by decide)]; exact a1, a2, fun i hi => ?_⟩
      rw [F.1 _ _ (by decide), F.1 _ _ (by decide), F.1 _ _ (by decide)]
      exact a3 i hi
    have MS : MC S h q dy qy jr := M.same (fun p => F.1 _ _ (by omega)) (fun p => F.1 _ _ (by omega))
    rw [f3_share_b23, HS.1]
    rcases Nat.lt_or_ge i h with u | u
    · have e : ¬ nI h ≤ nI i := by rw [n_le (by omega) (by omega)]; omega
      rw [if_neg e, gd_t (i7 h7 u), ix_k (by omega), MS.2.2 i u, c_least HS u (hj i u), b1_at, gd_t (i7 h7 u), nmE, nmE, nI_1]
      exact ih (i + 1) _ (by omega) (by omega) ⟨fun a p x => by rw [gi_ui, if_neg (fun y => x y.1)]; exact F.1 a p x, F.2⟩ (fun k hk => by
        rw [gi_ui]
        by_cases c : k = i
        · subst c
          rw [if_pos ⟨rfl, rfl⟩]
        · rw [if_neg (fun y => c y.2)]
          exact I k (by omega))
    · have e : i = h := by omega
      subst e
      rw [if_pos (Int32.le_refl _)]
      exact ⟨S, rfl, F, I⟩
theorem c_need4 {S : Mem} {h s : Nat} {L : Nat → Int32} (h7 : h ≤ 7) (hs : s < 128) (hh : gi S 15 3 = nI h) (k : LK L h) (hL : ∀ i, i < h → gi S 20 i = L i) : ∀ (n i : Nat), h - i < n → i ≤ h → alB L s i = true → f3_needOf_b4 S n (nI s) (nI (smN (cosN L s) i)) (nI i) = some (if alB L s h = true then nI (smN (cosN L s) h) else -9)
  | 0, i, h1, _, _ => by omega
  | n + 1, i, h1, h2, hal => by
    rw [f3_needOf_b4, hh]
    unfold f3_needOf_b46
    rcases Nat.lt_or_ge i h with u | u
    · have e : ¬ nI h ≤ nI i := by rw [n_le (by omega) (by omega)]; omega
      have l := k.ln u
      have r := c_need4 h7 hs hh k hL n (i + 1) (by omega) (by omega)
      rw [smN, alB] at r
      unfold cosN at r
      rw [if_neg e, c_has s hs i (by omega), b1_at]
      by_cases c : s.testBit i = true
      · rw [if_pos c, if_neg (by decide), gd_t (i7 h7 u), gd_t (i7 h7 u), ix_k (by omega), hL i u]
        by_cases d : L i = -9
        · have na : ¬ alB L s h = true := by
            rw [al_iff]
            exact fun q => q i u c d
          rw [if_pos d, if_neg na]
        · rw [if_pos c, ← nI_add, ← l.2 d, hal, decide_eq_false d] at r
          rw [if_neg d, nmE, nmE, nI_1]
          refine Eq.trans ?_ (r (by rw [Bool.and_false]; rfl))
          rfl
      · rw [if_neg c, Nat.add_zero, hal, Bool.eq_false_iff.mpr c] at r
        rw [if_neg c, if_pos rfl, nmE, nI_1]
        exact r (by rfl)
    · have e : i = h := by omega
      subst e
      rw [if_pos (Int32.le_refl _), if_pos hal]
theorem c_need {S : Mem} {h s : Nat} {L : Nat → Int32} (h7 : h ≤ 7) (hs : s < 128) (hh : gi S 15 3 = nI h) (k : LK L h) (hL : ∀ i, i < h → gi S 20 i = L i) : f3_needOf S (nI s) = some (if alB L s h = true then nI (smN (cosN L s) h) else -9) :=
  c_need4 h7 hs hh k hL FU 0 (Nat.lt_of_le_of_lt (show h - 0 ≤ 7 from h7) (by decide)) (Nat.zero_le _) rfl
