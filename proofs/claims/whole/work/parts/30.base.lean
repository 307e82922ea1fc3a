/-! NUMBERS: what small whole numbers do -/
theorem i_lt (a b : Int32) : a < b ↔ a.toInt < b.toInt := Int32.lt_iff_toInt_lt
theorem i_le (a b : Int32) : a ≤ b ↔ a.toInt ≤ b.toInt := Int32.le_iff_toInt_le
theorem i_eq (a b : Int32) : a = b ↔ a.toInt = b.toInt := Int32.toInt_inj.symm
theorem l_lt (a b : Int64) : a < b ↔ a.toInt < b.toInt := Int64.lt_iff_toInt_lt
theorem l_le (a b : Int64) : a ≤ b ↔ a.toInt ≤ b.toInt := Int64.le_iff_toInt_le
theorem i_0 : (0 : Int32).toInt = 0 := rfl
theorem i_rng (x : Int32) : -2147483648 ≤ x.toInt ∧ x.toInt < 2147483648 := ⟨Int32.le_toInt x, Int32.toInt_lt x⟩
theorem inb_iff {x : Int32} {n : Nat} : inb x n = true ↔ 0 ≤ x.toInt ∧ x.toInt < n := by
  constructor
  · intro h
    exact vp_in_iff.mp (inb_vp h)
  · intro h
    have h2 : vp_in x n := vp_in_iff.mpr h
    unfold vp_in at h2
    simp only [not_or, Nat.not_le] at h2
    simp only [inb, Bool.and_eq_true, Bool.not_eq_true', decide_eq_false_iff_not, decide_eq_true_eq]
    exact h2
theorem inb_ex {x : Int32} {n : Nat} (h : inb x n = true) (hn : n < 2 ^ 31) : ∃ k, k < n ∧ x = nI k := vp_in_of (inb_vp h) hn
theorem inb_k {k n : Nat} (hk : k < 2 ^ 31) : inb (nI k) n = decide (k < n) := by
  by_cases h : k < n
  · rw [decide_eq_true h, inb_iff, nI_toInt hk]
    omega
  · rw [decide_eq_false h, Bool.eq_false_iff]
    intro q
    rw [inb_iff, nI_toInt hk] at q
    omega
theorem ix_k {k : Nat} (h : k < 2 ^ 31) : ix (nI k) = k := nI_clamp h
theorem two_if (x : Int32) {n : Nat} (hn : n < 2 ^ 31) : (if x < 0 then some (0 : Int32) else if nI n ≤ x then some 0 else some 1) = some (if inb x n = true then 1 else 0) := by
  simp only [i_lt, i_le, i_0, nI_toInt hn, inb_iff]
  split
  · rw [if_neg (by omega)]
  · split
    · rw [if_neg (by omega)]
    · rw [if_pos (by omega)]
/-- a number between two small ones -/
def rng (x : Int32) (a b : Nat) : Bool := decide ((a : Int) ≤ x.toInt) && decide (x.toInt ≤ (b : Int))
theorem rng_iff {x : Int32} {a b : Nat} : rng x a b = true ↔ (a : Int) ≤ x.toInt ∧ x.toInt ≤ (b : Int) := by simp [rng]
theorem rng_ex {x : Int32} {a b : Nat} (h : rng x a b = true) : ∃ k, a ≤ k ∧ k ≤ b ∧ x = nI k := by
  rw [rng_iff] at h
  refine ⟨x.toInt.toNat, by omega, by omega, ?_⟩
  rw [i_eq, nI_toInt (by have := i_rng x; omega)]
  omega
theorem rng_k {k a b : Nat} (hk : k < 2 ^ 31) : rng (nI k) a b = (decide (a ≤ k) && decide (k ≤ b)) := by
  unfold rng
  rw [nI_toInt hk]
  congr 1 <;> simp
theorem lN_T {n : Nat} (h : n < 2 ^ 31) : (lN n).toInt = (n : Int) := lN_toInt h
theorem in_64 (x lo hi : Int64) : f4_in x lo hi = some (if lo.toInt ≤ x.toInt ∧ x.toInt ≤ hi.toInt then 1 else 0) := by
  unfold f4_in
  simp only [lg_cmp_lt, lg_cmp_gt, l_lt]
  split
  · rw [if_neg (by omega)]
  · split
    · rw [if_neg (by omega)]
    · rw [if_pos (by omega)]
theorem in_rng (x : Int32) (a b : Nat) (ha : a < 2 ^ 31) (hb : b < 2 ^ 31) : f4_in x.toInt64 (lN a) (lN b) = some (if rng x a b = true then 1 else 0) := by
  rw [in_64, lN_T ha, lN_T hb, Int32.toInt_toInt64]
  simp only [rng_iff]
/-- in(x, 0, n - 1), n a number of things -/
theorem in_inb (x : Int32) (n : Nat) (hn : n < 2 ^ 31) : f4_in x.toInt64 0 (Int32.toInt64 (nI n - 1)) = some (if inb x n = true then 1 else 0) := by
  rw [in_64, Int32.toInt_toInt64, Int32.toInt_toInt64]
  have e : (nI n - 1).toInt = (n : Int) - 1 := by
    rw [show (1 : Int32) = nI 1 from rfl]
    rcases Nat.eq_zero_or_pos n with h | h
    · subst h; rfl
    · rw [pk_sub h, nI_toInt (by omega)]
      omega
  rw [e, show (0 : Int64).toInt = 0 from rfl]
  simp only [inb_iff]
  congr 1
  have h : (0 ≤ x.toInt ∧ x.toInt ≤ (n : Int) - 1) = (0 ≤ x.toInt ∧ x.toInt < (n : Int)) := by
    apply propext
    omega
  simp only [h]
theorem n_lt {a b : Nat} (ha : a < 2 ^ 31) (hb : b < 2 ^ 31) : (nI a < nI b) = (a < b) := propext (nI_ltI ha hb)
theorem n_le {a b : Nat} (ha : a < 2 ^ 31) (hb : b < 2 ^ 31) : (nI a ≤ nI b) = (a ≤ b) := propext (nI_leI ha hb)
theorem n_eq {a b : Nat} (ha : a < 2 ^ 31) (hb : b < 2 ^ 31) : (nI a = nI b) = (a = b) := propext (nI_eq ha hb)
theorem n_neg {a b : Nat} (ha : a < 2 ^ 31) (hb : b < 2 ^ 31) (h0 : 0 < b) : (nI a = -nI b) = False := by
  apply propext
  refine ⟨fun h => ?_, False.elim⟩
  have h2 := congrArg Int32.toInt h
  rw [nI_toInt ha, sb_negT hb] at h2
  omega
theorem n_sub {a b : Nat} (h : b ≤ a) : nI a - nI b = nI (a - b) := pk_sub h
theorem n_0 : (0 : Int32) = nI 0 := rfl
theorem n_1 : (1 : Int32) = nI 1 := rfl
theorem n_2 : (2 : Int32) = nI 2 := rfl
theorem n_3 : (3 : Int32) = nI 3 := rfl
theorem n_4 : (4 : Int32) = nI 4 := rfl
theorem n_5 : (5 : Int32) = nI 5 := rfl
theorem n_6 : (6 : Int32) = nI 6 := rfl
theorem n_7 : (7 : Int32) = nI 7 := rfl
theorem n_8 : (8 : Int32) = nI 8 := rfl
theorem n_9 : (9 : Int32) = nI 9 := rfl
theorem n_10 : (10 : Int32) = nI 10 := rfl
theorem n_11 : (11 : Int32) = nI 11 := rfl
theorem n_12 : (12 : Int32) = nI 12 := rfl
theorem n_15 : (15 : Int32) = nI 15 := rfl
theorem n_20 : (20 : Int32) = nI 20 := rfl
theorem n_21 : (21 : Int32) = nI 21 := rfl
theorem n_22 : (22 : Int32) = nI 22 := rfl
theorem n_31 : (31 : Int32) = nI 31 := rfl
theorem n_32 : (32 : Int32) = nI 32 := rfl
theorem n_40 : (40 : Int32) = nI 40 := rfl
theorem n_48 : (48 : Int32) = nI 48 := rfl
theorem n_57 : (57 : Int32) = nI 57 := rfl
theorem n_60 : (60 : Int32) = nI 60 := rfl
theorem n_61 : (61 : Int32) = nI 61 := rfl
theorem n_99 : (99 : Int32) = nI 99 := rfl
theorem n_100 : (100 : Int32) = nI 100 := rfl
theorem n_300 : (300 : Int32) = nI 300 := rfl
theorem n_360 : (360 : Int32) = nI 360 := rfl
theorem n_391 : (391 : Int32) = nI 391 := rfl
theorem n_500 : (500 : Int32) = nI 500 := rfl
theorem n_999 : (999 : Int32) = nI 999 := rfl
theorem n_1000 : (1000 : Int32) = nI 1000 := rfl
theorem gd_t {α : Type} {c : Bool} {k : Option α} (h : c = true) : gd c k = k := if_pos h
theorem gd_ix {α : Type} {k n : Nat} {x : Option α} (h : k < n) (hn : n < 2 ^ 31) : gd (inb (nI k) n) x = x := gd_t (inb_nI h hn)
theorem gd_d {α : Type} {c : Prop} {d : Decidable c} {x : Option α} (h : c) : gd (@decide c d) x = x := gd_t (decide_eq_true h)
theorem nmE {α β : Type} (a : α) (f : α → β) : nm a f = f a := rfl
/-! THE TWO MEMORIES TELL THE SAME: rows, texts, what is told -/
def SZ (x : Int32) (n : Nat) : Prop := x = -1 ∨ ∃ k, k ≤ n ∧ x = nI k
def RB (S T : Mem) : Prop :=
  gi S 0 9 = gi T 0 2 ∧ gi S 0 12 = gi T 0 0 ∧ gl S 0 = gl T 0 ∧ gl S 1 = gl T 1 ∧ (∀ f, f < 6 → gi S 21 f = gi T 1 f) ∧ (∀ r, r < 6 → gi S 8 r = gi T 2 r ∧ SZ (gi S 8 r) 40) ∧ (∀ r i, r < 6 → i < 40 → gi S (2 + r) i = gi T 3 (40 * r + i)) ∧ (∀ t, t < 4 → gi S 14 t = gi T 4 t ∧ SZ (gi S 14 t) 60) ∧ (∀ t i, t < 4 → i < 60 → gi S (10 + t) i = gi T 5 (60 * t + i))
/-- the static place: how many houses, of what kinds, what they find, how hard their works are -/
def HC (S : Mem) (h : Nat) (kd fi ha : Nat → Nat) : Prop := gi S 15 3 = nI h ∧ h ≤ 7 ∧ ∀ i, i < h → (gi S 16 i = nI (kd i) ∧ kd i < 6) ∧ (gi S 17 i = nI (fi i) ∧ fi i ≤ 9) ∧ (gi S 18 i = nI (ha i) ∧ ha i ≤ 9)
def HM (T : Mem) (h : Nat) (kd fi ha : Nat → Nat) : Prop := gi T 0 12 = nI h ∧ h ≤ 7 ∧ ∀ i, i < h → (gi T 8 i = nI (kd i) ∧ kd i < 6) ∧ (gi T 9 i = nI (fi i) ∧ fi i ≤ 9) ∧ (gi T 10 i = nI (ha i) ∧ ha i ≤ 9)
/-- a moment: day, quay, jars -/
def MC (S : Mem) (h q dy qy : Nat) (jr : Nat → Nat) : Prop := gi S (30 + q) 1 = nI dy ∧ gi S (30 + q) 2 = nI qy ∧ ∀ i, i < h → gi S (195 + q) i = nI (jr i)
def MM (T : Mem) (h a b dy qy : Nat) (jr : Nat → Nat) : Prop := gi T a b = nI dy ∧ gi T a (b + 1) = nI qy ∧ ∀ i, i < h → gi T a (b + 2 + i) = nI (jr i)
/-- what a moment's numbers can be, d deeds after the start -/
def OKM (h d dy qy : Nat) (jr : Nat → Nat) : Prop := dy ≤ d ∧ qy ≤ 800 * d ∧ ∀ i, i < h → jr i ≤ 99
/-- a history: moments 0 .. d, those of the story s in the class; in the reference the last at (a, b), the others from (a2, b2) on -/
def HI (S T : Mem) (h s d a b a2 b2 : Nat) (dy qy : Nat → Nat) (jr : Nat → Nat → Nat) : Prop := d ≤ 40 ∧ gi S (22 + s) 1 = nI d ∧ (∀ e, e ≤ d → MC S h (41 * s + e) (dy e) (qy e) (jr e) ∧ OKM h e (dy e) (qy e) (jr e)) ∧ MM T h a b (dy d) (qy d) (jr d) ∧ ∀ e, e < d → MM T h a2 (b2 + 9 * e) (dy e) (qy e) (jr e)
def KE (S T : Mem) (h : Nat) (kd fi ha : Nat → Nat) (k : Nat) : Prop := (gi S (22 + (1 + k)) 1 = -1 ∧ gi T 13 k = -1) ∨ ∃ (d : Nat) (dy qy : Nat → Nat) (jr : Nat → Nat → Nat), gi T 13 k = nI d ∧ HI S T h (1 + k) d 14 (391 * k + 22) 14 (391 * k + 31) dy qy jr ∧ gi T 14 (391 * k) = nI h ∧ ∀ i, i < h → gi T 14 (391 * k + 1 + i) = nI (kd i) ∧ gi T 14 (391 * k + 8 + i) = nI (fi i) ∧ gi T 14 (391 * k + 15 + i) = nI (ha i)
def PLx (S T : Mem) (h : Nat) (kd fi ha : Nat → Nat) (d : Nat) (dy qy : Nat → Nat) (jr : Nat → Nat → Nat) : Prop := HC S h kd fi ha ∧ HM T h kd fi ha ∧ gi T 0 18 = nI d ∧ HI S T h 0 d 11 0 12 0 dy qy jr ∧ ∀ k, k < 3 → KE S T h kd fi ha k
def PL (S T : Mem) : Prop := ∃ (h : Nat) (kd fi ha : Nat → Nat) (d : Nat) (dy qy : Nat → Nat) (jr : Nat → Nat → Nat), PLx S T h kd fi ha d dy qy jr
def Rel (S T : Mem) : Prop := RB S T ∧ PL S T
/-! what leaves a part as it was -/
def PFc (S S' : Mem) : Prop := ∀ a k, (15 ≤ a ∧ a ≤ 18) ∨ (22 ≤ a ∧ a ≠ 194 ∧ a ≠ 359) → gi S' a k = gi S a k
def PFm (T T' : Mem) : Prop := gi T' 0 12 = gi T 0 12 ∧ gi T' 0 18 = gi T 0 18 ∧ ∀ a k, 8 ≤ a → a ≤ 14 → (a = 11 → k < 9) → gi T' a k = gi T a k
def BFc (S S' : Mem) : Prop := (∀ a k, a = 0 ∨ (2 ≤ a ∧ a ≤ 14) ∨ a = 21 → gi S' a k = gi S a k) ∧ ∀ k, gl S' k = gl S k
def BFm (T T' : Mem) : Prop := gi T' 0 0 = gi T 0 0 ∧ gi T' 0 2 = gi T 0 2 ∧ (∀ a k, 1 ≤ a → a ≤ 5 → gi T' a k = gi T a k) ∧ ∀ k, gl T' k = gl T k
theorem RB.keep {S T S' T' : Mem} (h : RB S T) (hc : BFc S S') (hm : BFm T T') : RB S' T' := by
  obtain ⟨c1, c2⟩ := hc
  obtain ⟨m1, m2, m3, m4⟩ := hm
  obtain ⟨h1, h2, h3, h4, h5, h6, h7, h8, h9⟩ := h
  refine ⟨?_, ?_, ?_, ?_, fun f hf => ?_, fun r hr => ?_, fun r i hr hi => ?_, fun t ht => ?_, fun t i ht hi => ?_⟩
  · rw [c1 0 9 (by omega), m2, h1]
  · rw [c1 0 12 (by omega), m1, h2]
  · rw [c2, m4, h3]
  · rw [c2, m4, h4]
  · rw [c1 21 f (by omega), m3 1 f (by omega) (by omega), h5 f hf]
  · rw [c1 8 r (by omega), m3 2 r (by omega) (by omega)]
    exact h6 r hr
  · rw [c1 (2 + r) i (by omega), m3 3 _ (by omega) (by omega)]
    exact h7 r i hr hi
  · rw [c1 14 t (by omega), m3 4 t (by omega) (by omega)]
    exact h8 t ht
  · rw [c1 (10 + t) i (by omega), m3 5 _ (by omega) (by omega)]
    exact h9 t i ht hi
theorem HC.keep {S S' : Mem} {h : Nat} {kd fi ha : Nat → Nat} (H : HC S h kd fi ha) (f : PFc S S') : HC S' h kd fi ha := by
  obtain ⟨h1, h2, h3⟩ := H
  refine ⟨by rw [f 15 3 (by omega)]; exact h1, h2, fun i hi => ?_⟩
  rw [f 16 i (by omega), f 17 i (by omega), f 18 i (by omega)]
  exact h3 i hi
theorem HM.keep {T T' : Mem} {h : Nat} {kd fi ha : Nat → Nat} (H : HM T h kd fi ha) (f : PFm T T') : HM T' h kd fi ha := by
  obtain ⟨h1, h2, h3⟩ := H
  refine ⟨by rw [f.1]; exact h1, h2, fun i hi => ?_⟩
  rw [f.2.2 8 i (by omega) (by omega) (by omega), f.2.2 9 i (by omega) (by omega) (by omega), f.2.2 10 i (by omega) (by omega) (by omega)]
  exact h3 i hi
theorem MC.same {S S' : Mem} {h q dy qy : Nat} {jr : Nat → Nat} (H : MC S h q dy qy jr) (f1 : ∀ k, gi S' (30 + q) k = gi S (30 + q) k) (f2 : ∀ k, gi S' (195 + q) k = gi S (195 + q) k) : MC S' h q dy qy jr := by
  obtain ⟨h1, h2, h3⟩ := H
  exact ⟨by rw [f1]; exact h1, by rw [f1]; exact h2, fun i hi => by rw [f2]; exact h3 i hi⟩
theorem MC.keep {S S' : Mem} {h q dy qy : Nat} {jr : Nat → Nat} (H : MC S h q dy qy jr) (hq : q < 164) (f : PFc S S') : MC S' h q dy qy jr := H.same (fun k => f _ _ (by omega)) (fun k => f _ _ (by omega))
theorem MM.same {T T' : Mem} {h a b a' b' dy qy : Nat} {jr : Nat → Nat} (H : MM T h a b dy qy jr) (hh : h ≤ 7) (f : ∀ k, k < 9 → gi T' a' (b' + k) = gi T a (b + k)) : MM T' h a' b' dy qy jr := by
  obtain ⟨h1, h2, h3⟩ := H
  refine ⟨(f 0 (by omega)).trans h1, (f 1 (by omega)).trans h2, fun i hi => ?_⟩
  rw [Nat.add_assoc, f (2 + i) (by omega), ← Nat.add_assoc]
  exact h3 i hi
theorem HI.keep {S T S' T' : Mem} {h s d a b a2 b2 : Nat} {dy qy : Nat → Nat} {jr : Nat → Nat → Nat} (H : HI S T h s d a b a2 b2 dy qy jr) (hh : h ≤ 7) (hs : s < 4) (fc : PFc S S') (f1 : ∀ k, k < 9 → gi T' a (b + k) = gi T a (b + k)) (f2 : ∀ e k, e < d → k < 9 → gi T' a2 (b2 + 9 * e + k) = gi T a2 (b2 + 9 * e + k)) : HI S' T' h s d a b a2 b2 dy qy jr := by
  obtain ⟨h1, h2, h3, h4, h5⟩ := H
  refine ⟨h1, by rw [fc (22 + s) 1 (by omega)]; exact h2, fun e he => ⟨(h3 e he).1.keep (by omega) fc, (h3 e he).2⟩, h4.same hh f1, fun e he => (h5 e he).same hh (fun k hk => f2 e k he hk)⟩
theorem KE.keep {S T S' T' : Mem} {h : Nat} {kd fi ha : Nat → Nat} {k : Nat} (H : KE S T h kd fi ha k) (hh : h ≤ 7) (hk : k < 3) (fc : PFc S S') (fm : ∀ a i, 13 ≤ a → a ≤ 14 → gi T' a i = gi T a i) : KE S' T' h kd fi ha k := by
  rcases H with ⟨h1, h2⟩ | ⟨d, dy, qy, jr, h1, h2, h3, h4⟩
  · exact Or.inl ⟨by rw [fc _ _ (by omega)]; exact h1, by rw [fm 13 k (by omega) (by omega)]; exact h2⟩
  · refine Or.inr ⟨d, dy, qy, jr, by rw [fm 13 k (by omega) (by omega)]; exact h1, h2.keep hh (by omega) fc (fun i _ => fm _ _ (by omega) (by omega)) (fun e i _ _ => fm _ _ (by omega) (by omega)), by rw [fm 14 _ (by omega) (by omega)]; exact h3, fun i hi => ?_⟩
    rw [fm 14 _ (by omega) (by omega), fm 14 _ (by omega) (by omega), fm 14 _ (by omega) (by omega)]
    exact h4 i hi
theorem PLx.keep {S T S' T' : Mem} {h : Nat} {kd fi ha : Nat → Nat} {d : Nat} {dy qy : Nat → Nat} {jr : Nat → Nat → Nat} (H : PLx S T h kd fi ha d dy qy jr) (hc : PFc S S') (hm : PFm T T') : PLx S' T' h kd fi ha d dy qy jr := by
  obtain ⟨h1, h2, h3, h4, h5⟩ := H
  refine ⟨h1.keep hc, h2.keep hm, by rw [hm.2.1]; exact h3, h4.keep h1.2.1 (by omega) hc (fun k hk => hm.2.2 _ _ (by omega) (by omega) (by omega)) (fun e k _ _ => hm.2.2 _ _ (by omega) (by omega) (by omega)), fun k hk => (h5 k hk).keep h1.2.1 hk hc (fun a i h1 h2 => hm.2.2 _ _ (by omega) h2 (by omega))⟩
theorem PL.keep {S T S' T' : Mem} (H : PL S T) (hc : PFc S S') (hm : PFm T T') : PL S' T' := by
  obtain ⟨h, kd, fi, ha, d, dy, qy, jr, H⟩ := H
  exact ⟨h, kd, fi, ha, d, dy, qy, jr, H.keep hc hm⟩
