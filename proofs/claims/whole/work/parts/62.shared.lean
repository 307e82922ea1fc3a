/-! SHARE: the best set -/
def gdS (L : Nat → Int32) (h qy s : Nat) : Bool := alB L s h && decide (smN (cosN L s) h ≤ qy)
def BS (P : Nat → Bool) (N n b : Nat) : Prop := b < N ∧ P b = true ∧ (∀ s, s < n → P s = true → popN s ≤ popN b) ∧ ∀ s, s < b → P s = true → popN s < popN b
theorem BS.new {P : Nat → Bool} {N n b : Nat} (B : BS P N n b) (hn : n < N) (hp : P n = true) (hc : popN b < popN n) : BS P N (n + 1) n := by
  obtain ⟨b1, b2, b3, b4⟩ := B
  refine ⟨hn, hp, fun s hs p => ?_, fun s hs p => Nat.lt_of_le_of_lt (b3 s hs p) hc⟩
  rcases Nat.lt_or_ge s n with q | q
  · exact Nat.le_of_lt (Nat.lt_of_le_of_lt (b3 s q p) hc)
  · have e : s = n := by omega
    rw [e]
    exact Nat.le_refl _
theorem BS.old {P : Nat → Bool} {N n b : Nat} (B : BS P N n b) (hp : P n = true → popN n ≤ popN b) : BS P N (n + 1) b := by
  obtain ⟨b1, b2, b3, b4⟩ := B
  refine ⟨b1, b2, fun s hs p => ?_, b4⟩
  rcases Nat.lt_or_ge s n with q | q
  · exact b3 s q p
  · have e : s = n := by omega
    subst e
    exact hp p
def BT (P : Nat → Bool) (N o n b : Nat) : Prop := b < N ∧ P b = true ∧ (∀ s, s < n → P s = true → popN s ≤ popN b) ∧ popN o ≤ popN b ∧ (b = o ∨ ∀ s, s < b → P s = true → popN s < popN b)
theorem BT.new {P : Nat → Bool} {N o n b : Nat} (B : BT P N o n b) (hn : n < N) (hp : P n = true) (hc : popN b < popN n) : BT P N o (n + 1) n := by
  obtain ⟨b1, b2, b3, b4, b5⟩ := B
  refine ⟨hn, hp, fun s hs p => ?_, by omega, Or.inr fun s hs p => Nat.lt_of_le_of_lt (b3 s hs p) hc⟩
  rcases Nat.lt_or_ge s n with q | q
  · exact Nat.le_of_lt (Nat.lt_of_le_of_lt (b3 s q p) hc)
  · have e : s = n := by omega
    rw [e]
    exact Nat.le_refl _
theorem BT.old {P : Nat → Bool} {N o n b : Nat} (B : BT P N o n b) (hp : P n = true → popN n ≤ popN b) : BT P N o (n + 1) b := by
  obtain ⟨b1, b2, b3, b4⟩ := B
  refine ⟨b1, b2, fun s hs p => ?_, b4⟩
  rcases Nat.lt_or_ge s n with q | q
  · exact b3 s q p
  · have e : s = n := by omega
    subst e
    exact hp p
theorem c_sh67 {S : Mem} {h q qy : Nat} {L : Nat → Int32} (h7 : h ≤ 7) (hh : gi S 15 3 = nI h) (hq : gi S (30 + q) 2 = nI qy) (hqy : qy < 2 ^ 31) (k : LK L h) (hL : ∀ i, i < h → gi S 20 i = L i) : ∀ (n s b : Nat), 2 ^ h - s < n → s ≤ 2 ^ h → BS (gdS L h qy) (2 ^ h) s b → ∃ b', BS (gdS L h qy) (2 ^ h) (2 ^ h) b' ∧ f3_share_b67 n S q (nI b) (nI (smN (cosN L b) h)) (nI s) = some (nI b', ui S 0 9 (nI (smN (cosN L b') h)))
  | 0, s, b, h1, _, _ => by omega
  | n + 1, s, b, h1, h2, B => by
    have p7 := pow7 h7
    rw [f3_share_b67, hh, shl_h h (by omega)]
    rcases Nat.lt_or_ge s (2 ^ h) with u | u
    · have e : ¬ nI (2 ^ h) ≤ nI s := by rw [n_le (by omega) (by omega)]; omega
      have cl := cos_le (s := s) k h7 (Nat.le_refl h)
      have b1 := B.1
      rw [if_neg e, c_need h7 (by omega) hh k hL, b1_at]
      unfold f3_share_b123
      by_cases c : alB L s h = true
      · rw [if_pos c, if_neg (n9 (by omega)), hq]
        simp only [n_lt hqy (show smN (cosN L s) h < 2 ^ 31 by omega)]
        by_cases d : qy < smN (cosN L s) h
        · rw [if_pos d, nmE, nI_1]
          exact c_sh67 h7 hh hq hqy k hL n (s + 1) b (by omega) (by omega) (B.old fun x => by
            unfold gdS at x
            rw [Bool.and_eq_true, decide_eq_true_eq] at x
            omega)
        · have g : gdS L h qy s = true := by
            unfold gdS
            rw [c, decide_eq_true (by omega)]
            rfl
          have l1 := pop_le s
          have l2 := pop_le b
          rw [if_neg d, c_pop s (by omega), b1_at, c_pop b (by omega), b1_at]
          simp only [n_le (show popN s < 2 ^ 31 by omega) (show popN b < 2 ^ 31 by omega)]
          by_cases f : popN s ≤ popN b
          · rw [if_pos f, nmE, nI_1]
            exact c_sh67 h7 hh hq hqy k hL n (s + 1) b (by omega) (by omega) (B.old fun _ => f)
          · rw [if_neg f, nmE, nI_1]
            exact c_sh67 h7 hh hq hqy k hL n (s + 1) s (by omega) (by omega) (B.new u g (by omega))
      · rw [if_neg c, if_pos rfl, nmE, nI_1]
        exact c_sh67 h7 hh hq hqy k hL n (s + 1) b (by omega) (by omega) (B.old fun x => by
          unfold gdS at x
          rw [Bool.and_eq_true] at x
          exact absurd x.1 c)
    · have e : s = 2 ^ h := by omega
      subst e
      rw [if_pos (Int32.le_refl _), nmE]
      exact ⟨b, B, rfl⟩
/-! the reference -/
def shEnd (k22 : Mem → Int32 → Int32 → Int32 → Int32 → Option (Int32 × Mem)) (T : Mem) (x1 x2 x3 x4 x5 x6 : Int32) : Option (Int32 × Mem) :=
  if x6 = 0 then f4_share_b169 k22 T x1 x2 x3 x4
  else gd (inb 1 9) <| if (gi T 11 (ix 1)) < x5 then f4_share_b169 k22 T x1 x2 x3 x4 else b1 (f4_many x4) fun v6 => b1 (f4_many x2) fun v8 => if v6 ≤ v8 then f4_share_b169 k22 T x1 x2 x3 x4 else f4_share_b169 k22 T x1 x4 x5 x4
theorem m_sh54 {T : Mem} {h s : Nat} {L : Nat → Int32} (k22 : Mem → Int32 → Int32 → Int32 → Int32 → Option (Int32 × Mem)) (h7 : h ≤ 7) (hs : s < 128) (hh : gi T 0 12 = nI h) (k : LK L h) (hl : ∀ i, i < h → f4_lack T (nI i) = some (L i)) (x1 x2 x3 : Int32) (mb : Bool) : ∀ (n i : Nat) (x5 : Int32), h - i < n → i ≤ h → ((mb && alB L s i) = true → x5 = nI (smN (cosN L s) i)) → ∃ x5', ((mb && alB L s h) = true → x5' = nI (smN (cosN L s) h)) ∧ f4_share_b54 k22 n T x1 x2 x3 (nI s) x5 (if (mb && alB L s i) = true then 1 else 0) (nI i) = shEnd k22 T x1 x2 x3 (nI s) x5' (if (mb && alB L s h) = true then 1 else 0)
  | 0, i, x5, h1, _, _ => by omega
  | n + 1, i, x5, h1, h2, I => by
    rw [f4_share_b54, hh]
    unfold f4_share_b79 f4_share_b102 f4_share_b106 f4_share_b107 f4_share_b126
    rcases Nat.lt_or_ge i h with u | u
    · have e : ¬ nI h ≤ nI i := by rw [n_le (by omega) (by omega)]; omega
      have l := k.ln u
      have a1 : alB L s (i + 1) = (alB L s i && !(s.testBit i && decide (L i = -9))) := rfl
      have s1 : smN (cosN L s) (i + 1) = smN (cosN L s) i + cosN L s i := rfl
      have R := fun y q => m_sh54 k22 h7 hs hh k hl x1 x2 x3 mb n (i + 1) y (by omega) (by omega) q
      unfold cosN at s1
      rw [if_neg e, m_has s hs i (by omega)]
      by_cases c : s.testBit i = true
      · rw [if_pos c, if_pos rfl]
        rw [c, Bool.true_and] at a1
        rw [if_pos c] at s1
        by_cases m : (mb && alB L s i) = true
        · rw [if_pos m, if_neg (show ¬ (1 : Int32) = 0 by decide), if_neg (show ¬ (1 : Int32) = 0 by decide), hl i u, b1_at]
          rw [Bool.and_eq_true] at m
          by_cases d : L i = -9
          · have a2 : ¬ (mb && alB L s (i + 1)) = true := by
              rw [a1, decide_eq_true d]
              simp
            have r := R (x5 + L i) (fun q => absurd q a2)
            rw [if_neg a2] at r
            rw [if_pos d, if_neg (show ¬ (1 : Int32) = 0 by decide), b1_at, nmE, nmE, nI_1]
            exact r
          · have a2 : (mb && alB L s (i + 1)) = true := by
              rw [a1, decide_eq_false d, m.1, m.2]
              rfl
            have r := R (x5 + L i) (fun _ => by
              rw [I (by rw [m.1, m.2]; rfl), l.2 d, nI_add]
              exact congrArg nI s1.symm)
            rw [if_pos a2] at r
            rw [if_neg d, if_neg (show ¬ (1 : Int32) = 0 by decide), b1_at, nmE, nmE, nI_1]
            exact r
        · have a2 : ¬ (mb && alB L s (i + 1)) = true := by
            rw [a1]
            intro q
            rw [Bool.and_eq_true, Bool.and_eq_true] at q
            exact m (by rw [q.1, q.2.1]; rfl)
          have r := R (x5 + L i) (fun q => absurd q a2)
          rw [if_neg a2] at r
          rw [if_neg m, if_pos rfl, if_neg (show ¬ (1 : Int32) = 0 by decide), hl i u, b1_at, nmE, nmE, nI_1]
          exact r
      · have a2 : alB L s (i + 1) = alB L s i := by
          rw [a1, Bool.eq_false_iff.mpr c]
          simp
        have r := R (x5 + 0) (fun q => by
          rw [a2] at q
          rw [I q, Int32.add_zero]
          rw [if_neg c] at s1
          exact congrArg nI s1.symm)
        rw [a2] at r
        rw [if_neg c, if_neg (show ¬ (0 : Int32) = 1 by decide)]
        by_cases m : (mb && alB L s i) = true
        · rw [if_pos m] at r
          rw [if_pos m, if_neg (show ¬ (1 : Int32) = 0 by decide), if_pos rfl, if_pos rfl, nmE, nmE, nI_1]
          exact r
        · rw [if_neg m] at r
          rw [if_neg m, if_pos rfl, if_pos rfl, nmE, nmE, nI_1]
          exact r
    · have e : i = h := by omega
      subst e
      rw [if_pos (Int32.le_refl _)]
      exact ⟨x5, I, rfl⟩
def gdO (L : Nat → Int32) (h qy o s : Nat) : Bool := decide (s &&& o = o) && gdS L h qy s
theorem m_shEnd {T : Mem} {h qy o s b : Nat} {L : Nat → Int32} (k22 : Mem → Int32 → Int32 → Int32 → Int32 → Option (Int32 × Mem)) (h7 : h ≤ 7) (hs : s < 128) (hb : b < 128) (hq : gi T 11 1 = nI qy) (hqy : qy < 2 ^ 31) (k : LK L h) (x5 : Int32) (I : (decide (s &&& o = o) && alB L s h) = true → x5 = nI (smN (cosN L s) h)) : shEnd k22 T (nI o) (nI b) (nI (smN (cosN L b) h)) (nI s) x5 (if (decide (s &&& o = o) && alB L s h) = true then 1 else 0) = if gdO L h qy o s = true ∧ popN b < popN s then k22 T (nI o) (nI s) (nI (smN (cosN L s) h)) (nI (s + 1)) else k22 T (nI o) (nI b) (nI (smN (cosN L b) h)) (nI (s + 1)) := by
  have cl := cos_le (s := s) k h7 (Nat.le_refl h)
  have l1 := pop_le s
  have l2 := pop_le b
  unfold shEnd f4_share_b169
  by_cases m : (decide (s &&& o = o) && alB L s h) = true
  · have g : gdO L h qy o s = decide (smN (cosN L s) h ≤ qy) := by
      unfold gdO gdS
      rw [← Bool.and_assoc, m, Bool.true_and]
    rw [if_pos m, if_neg (show ¬ (1 : Int32) = 0 by decide), gd_t (by decide), show ix 1 = 1 from rfl, hq, I m, m_pop s hs, m_pop b hb, b1_at, b1_at, g]
    simp only [n_lt hqy (show smN (cosN L s) h < 2 ^ 31 by omega), n_le (show popN s < 2 ^ 31 by omega) (show popN b < 2 ^ 31 by omega), nmE, nI_1, decide_eq_true_eq]
    by_cases d : qy < smN (cosN L s) h
    · rw [if_pos d, if_neg (by omega)]
    · by_cases f : popN s ≤ popN b
      · rw [if_neg d, if_pos f, if_neg (by omega)]
      · rw [if_neg d, if_neg f, if_pos (by omega)]
  · have g : ¬ gdO L h qy o s = true := by
      unfold gdO gdS
      rw [← Bool.and_assoc, Bool.and_eq_true]
      exact fun q => m q.1
    rw [if_neg m, if_pos rfl, if_neg (fun q => g q.1), nmE, nI_1]
theorem m_sh22 {T : Mem} {h qy o : Nat} {L : Nat → Int32} (h7 : h ≤ 7) (ho : o < 128) (hh : gi T 0 12 = nI h) (hq : gi T 11 1 = nI qy) (hqy : qy < 2 ^ 31) (k : LK L h) (hl : ∀ i, i < h → f4_lack T (nI i) = some (L i)) : ∀ (n s b : Nat), 2 ^ h - s < n → s ≤ 2 ^ h → BT (gdO L h qy o) (2 ^ h) o s b → ∃ b', BT (gdO L h qy o) (2 ^ h) o (2 ^ h) b' ∧ f4_share_b22 n T (nI o) (nI b) (nI (smN (cosN L b) h)) (nI s) = some (nI b', ui T 0 2 (nI (smN (cosN L b') h)))
  | 0, s, b, h1, _, _ => by omega
  | n + 1, s, b, h1, h2, B => by
    have p7 := pow7 h7
    rw [f4_share_b22, hh, shl_h h (by omega)]
    unfold f4_share_b49
    rcases Nat.lt_or_ge s (2 ^ h) with u | u
    · have e : ¬ nI (2 ^ h) ≤ nI s := by rw [n_le (by omega) (by omega)]; omega
      have b1 := B.1
      obtain ⟨x5, a1, a2⟩ := m_sh54 (f4_share_b22 n) h7 (show s < 128 by omega) hh k hl (nI o) (nI b) (nI (smN (cosN L b) h)) (decide (s &&& o = o)) FU 0 0 (Nat.lt_of_le_of_lt (show h - 0 ≤ 7 from h7) (by decide)) (Nat.zero_le _) (fun _ => rfl)
      have z0 : nI 0 = 0 := rfl
      have a3 : alB L s 0 = true := rfl
      rw [z0, a3, Bool.and_true, m_shEnd (f4_share_b22 n) h7 (by omega) (by omega) hq hqy k x5 a1] at a2
      rw [if_neg e]
      simp only [and_n s (by omega) o ho]
      have e3 : (if s &&& o = o then f4_share_b54 (f4_share_b22 n) FU T (nI o) (nI b) (nI (smN (cosN L b) h)) (nI s) 0 1 0 else f4_share_b54 (f4_share_b22 n) FU T (nI o) (nI b) (nI (smN (cosN L b) h)) (nI s) 0 0 0) = f4_share_b54 (f4_share_b22 n) FU T (nI o) (nI b) (nI (smN (cosN L b) h)) (nI s) 0 (if decide (s &&& o = o) = true then 1 else 0) 0 := by
        by_cases c : s &&& o = o
        · rw [if_pos c, if_pos (decide_eq_true c)]
        · rw [if_neg c, if_neg (fun q => c (of_decide_eq_true q))]
      rw [e3, a2]
      by_cases c : gdO L h qy o s = true ∧ popN b < popN s
      · rw [if_pos c]
        exact m_sh22 h7 ho hh hq hqy k hl n (s + 1) s (by omega) (by omega) (B.new u c.1 c.2)
      · rw [if_neg c]
        exact m_sh22 h7 ho hh hq hqy k hl n (s + 1) b (by omega) (by omega) (B.old fun q => by
          rcases Nat.lt_or_ge (popN b) (popN s) with x | x
          · exact absurd ⟨q, x⟩ c
          · exact x)
    · have e : s = 2 ^ h := by omega
      subst e
      rw [if_pos (Int32.le_refl _), m_tells, b2_at]
      exact ⟨b, B, rfl⟩
/-- the two bests are one -/
theorem best_eq {h qy bc bm : Nat} {L : Nat → Int32} {p : Nat → Bool} (h7 : h ≤ 7) (hp : ∀ i, i < h → p i = true → L i = nI 0) (B : BS (gdS L h qy) (2 ^ h) (2 ^ h) bc) (C : BT (gdO L h qy (setN p h)) (2 ^ h) (setN p h) (2 ^ h) bm) : bc = bm := by
  have p7 := pow7 h7
  obtain ⟨b1, b2, b3, b4⟩ := B
  obtain ⟨c1, c2, c3, c4, c5⟩ := C
  have o1 := setN_lt p h
  unfold gdS at b2
  rw [Bool.and_eq_true, decide_eq_true_eq] at b2
  have ob : ∀ i, i < h → (setN p h).testBit i = true → L i = nI 0 := fun i hi q => by
    rw [set_bit, decide_eq_true hi, Bool.true_and] at q
    exact hp i hi q
  have u2 : alB L (bc ||| setN p h) h = true := by
    rw [al_iff]
    intro i hi q
    rw [Nat.testBit_or, Bool.or_eq_true] at q
    rcases q with q | q
    · exact (al_iff.mp b2.1) i hi q
    · rw [ob i hi q]
      exact n9 (by decide)
  have u3 : smN (cosN L (bc ||| setN p h)) h = smN (cosN L bc) h := smN_cg fun i hi => by
    unfold cosN
    rw [Nat.testBit_or]
    by_cases q : bc.testBit i = true
    · rw [q, Bool.true_or]
    · rw [Bool.eq_false_iff.mpr q, Bool.false_or]
      by_cases r : (setN p h).testBit i = true
      · rw [if_pos r, if_neg (by decide)]
        unfold lnN
        rw [ob i hi r, if_neg (n9 (by decide))]
        rfl
      · rw [if_neg r, if_neg (by decide)]
  have g : gdS L h qy (bc ||| setN p h) = true := by
    unfold gdS
    rw [u2, u3, decide_eq_true b2.2]
    rfl
  have v1 := or_pop bc (by omega) (setN p h) (by omega) (b3 _ (Nat.or_lt_two_pow b1 o1) g)
  have v2 : gdO L h qy (setN p h) bc = true := by
    unfold gdO gdS
    rw [decide_eq_true v1, b2.1, decide_eq_true b2.2]
    rfl
  have w1 := c3 bc b1 v2
  unfold gdO at c2
  rw [Bool.and_eq_true] at c2
  have w2 := b3 bm c1 c2.2
  rcases c5 with e | f
  · rw [e] at w1 w2 ⊢
    exact and_eq bc (by omega) (setN p h) (by omega) v1 (by omega)
  · rcases Nat.lt_trichotomy bc bm with q | q | q
    · have := f bc q v2
      omega
    · exact q
    · have := b4 bm q c2.2
      omega
theorem Rel.fn {S S' T : Mem} (R : Rel S T) (F : FN S S') : Rel S' T := ⟨R.1.keep ⟨fun a k h => F.1 a k (by omega), F.2⟩ ⟨rfl, rfl, fun _ _ _ _ => rfl, fun _ => rfl⟩, R.2.keep (fun a k h => F.1 a k (by omega)) PFm.rf⟩
def lkL (kd ha jr : Nat → Nat) (i : Nat) : Int32 := lkV (okW (kd i) (ha i)) (jr i) (jr i)
theorem LK.of (kd ha jr : Nat → Nat) (h : Nat) : LK (lkL kd ha jr) h := fun i _ => by
  rcases lk_cases (okW (kd i) (ha i)) (jr i) with e | ⟨m, m1, m2, e⟩
  · exact Or.inl e
  · exact Or.inr ⟨m, by omega, e⟩
theorem p_share {S T : Mem} (R : Rel S T) : ∃ r S' T', f3_share S = some (r, S') ∧ f4_share T = some (r, T') ∧ Rel S' T' := by
  obtain ⟨Rb, h, kd, fi, ha, d, dy, qy, jr, P⟩ := id R
  obtain ⟨H1, H2, H3, H4, H5⟩ := id P
  obtain ⟨M1, O1⟩ := H4.2.2.1 d (Nat.le_refl d)
  have hd := H4.1
  have h7 := H1.2.1
  have o2 := O1.2.1
  unfold f3_share f4_share
  rw [H1.1, H2.1]
  by_cases h0 : h = 0
  · subst h0
    rw [if_pos (show nI 0 = 0 from rfl), if_pos (show nI 0 = 0 from rfl)]
    exact ⟨_, _, _, rfl, rfl, R⟩
  · have ne : ¬ nI h = 0 := nI_ne0 (by omega) (by omega)
    have z0 : nI 0 = 0 := rfl
    have p1 : 0 < 2 ^ h := Nat.two_pow_pos h
    have sl := set128 (p := offP kd ha (jr d)) h7
    have k := LK.of kd ha (jr d) h
    obtain ⟨S1, a1, a2, a3⟩ := c_needs (show 41 * 0 + d < 165 by omega) H1 M1 O1.2.2 FU 0 S (Nat.lt_of_le_of_lt (show h - 0 ≤ 7 from h7) (by decide)) (Nat.zero_le _) ⟨fun _ _ _ => rfl, fun _ => rfl⟩ (fun i hi => absurd hi (Nat.not_lt_zero i))
    have c0 : gdS (lkL kd ha (jr d)) h (qy d) 0 = true := by
      unfold gdS
      have e1 : alB (lkL kd ha (jr d)) 0 h = true := al_iff.mpr fun i _ q => by
        rw [Nat.zero_testBit] at q
        exact absurd q (by decide)
      have e2 : smN (cosN (lkL kd ha (jr d)) 0) h = 0 := by
        have := smN_le (f := cosN (lkL kd ha (jr d)) 0) (c := 0) (n := h) (fun i _ => by
          unfold cosN
          rw [Nat.zero_testBit]
          exact Nat.le_refl 0)
        omega
      rw [e1, e2, decide_eq_true (Nat.zero_le _)]
      rfl
    have s0 : smN (cosN (lkL kd ha (jr d)) 0) h = 0 := by
      have := smN_le (f := cosN (lkL kd ha (jr d)) 0) (c := 0) (n := h) (fun i _ => by
        unfold cosN
        rw [Nat.zero_testBit]
        exact Nat.le_refl 0)
      omega
    have pw : ∀ i, i < h → offP kd ha (jr d) i = true → lkL kd ha (jr d) i = nI 0 := fun i hi q => by
      have := O1.2.2 i hi
      unfold lkL
      rw [lk_yes (by omega) (show okW (kd i) (ha i) (jr d i) = true from q), Nat.sub_self]
    have so : smN (cosN (lkL kd ha (jr d)) (setN (offP kd ha (jr d)) h)) h = 0 := by
      have := smN_le (f := cosN (lkL kd ha (jr d)) (setN (offP kd ha (jr d)) h)) (c := 0) (n := h) (fun i hi => by
        unfold cosN
        split
        · rename_i c
          rw [set_bit, decide_eq_true hi, Bool.true_and] at c
          unfold lnN
          rw [pw i hi c, if_neg (n9 (by decide))]
          exact Nat.le_refl 0
        · exact Nat.le_refl 0)
      omega
    have B0 : BS (gdS (lkL kd ha (jr d)) h (qy d)) (2 ^ h) 1 0 := ⟨p1, c0, fun s hs _ => by
      have e : s = 0 := by omega
      rw [e]
      exact Nat.le_refl _, fun s hs => absurd hs (Nat.not_lt_zero s)⟩
    obtain ⟨bc, B1, B2⟩ := c_sh67 (S := S1) (q := 41 * 0 + d) h7 (by rw [a2.1 _ _ (by decide)]; exact H1.1) (by rw [a2.1 _ _ (by omega)]; exact M1.2.1) (by omega) k a3 FU 1 0 (Nat.lt_of_le_of_lt (show 2 ^ h - 1 ≤ 128 by have := pow7 h7; omega) (by decide)) p1 B0
    have co : gdO (lkL kd ha (jr d)) h (qy d) (setN (offP kd ha (jr d)) h) (setN (offP kd ha (jr d)) h) = true := by
      unfold gdO gdS
      rw [decide_eq_true (Nat.and_self _), so, decide_eq_true (Nat.zero_le _), al_iff.mpr fun i hi q => by
        rw [set_bit, decide_eq_true hi, Bool.true_and] at q
        rw [pw i hi q]
        exact n9 (by decide)]
      rfl
    have C0 : BT (gdO (lkL kd ha (jr d)) h (qy d) (setN (offP kd ha (jr d)) h)) (2 ^ h) (setN (offP kd ha (jr d)) h) 0 (setN (offP kd ha (jr d)) h) := ⟨setN_lt _ h, co, fun s hs => absurd hs (Nat.not_lt_zero s), Nat.le_refl _, Or.inl rfl⟩
    obtain ⟨bm, C1, C2⟩ := m_sh22 (T := T) h7 sl H2.1 H4.2.2.2.1.2.1 (show qy d < 2 ^ 31 by omega) k (fun i hi => m_lack H2 H4.2.2.2.1 hi (O1.2.2 i hi)) FU 0 _ (Nat.lt_of_le_of_lt (show 2 ^ h - 0 ≤ 128 by have := pow7 h7; omega) (by decide)) (Nat.zero_le _) C0
    have e := best_eq h7 pw B1 C1
    subst e
    rw [s0, z0] at B2
    rw [so, z0] at C2
    rw [z0] at a1
    rw [if_neg ne, if_neg ne, c_now H4, b1_at, gd_t (dlt hd), a1, m_worksOff H2 H4.2.2.2.1 O1.2.2, b1_at, C2]
    rw [show nI 1 = 1 from rfl] at B2
    rw [B2]
    exact ⟨_, _, _, rfl, rfl, (R.fn a2).told _⟩
