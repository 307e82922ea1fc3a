/-! SHARING OUT -/
def bsN (kd jr : Nat → Nat) (dy i : Nat) : Nat := bringN (kd i) (jr i) dy
def eachN (h : Nat) (kd jr : Nat → Nat) (dy qy : Nat) : Nat := (qy + smN (bsN kd jr dy) h) / h
def getN (kd jr : Nat → Nat) (dy each i : Nat) : Nat := jr i - bsN kd jr dy i + each
def shrJ (kd jr : Nat → Nat) (dy each i : Nat) : Nat := min 99 (getN kd jr dy each i)
def overN (kd jr : Nat → Nat) (dy each i : Nat) : Nat := getN kd jr dy each i - 99
def shrQ (h : Nat) (kd jr : Nat → Nat) (dy qy : Nat) : Nat := (qy + smN (bsN kd jr dy) h) % h + smN (overN kd jr dy (eachN h kd jr dy qy)) h
def shrU (kd jr : Nat → Nat) (dy each k i : Nat) : Nat := if i < k then shrJ kd jr dy each i else jr i
theorem bs_le (kd jr : Nat → Nat) (dy i : Nat) : bsN kd jr dy i ≤ jr i := bring_le _ _ _
theorem sm_b {f : Nat → Nat} {h c : Nat} (hh : h ≤ 7) (hf : ∀ i, i < h → f i ≤ c) {k : Nat} (hk : k ≤ h) : smN f k ≤ 7 * c := by
  have h1 := smN_le (f := f) (c := c) (n := k) (fun i hi => hf i (by omega))
  have h2 : k * c ≤ 7 * c := Nat.mul_le_mul_right c (by omega)
  omega
theorem over_le {kd jr : Nat → Nat} {dy e i : Nat} (hj : jr i ≤ 99) : overN kd jr dy e i ≤ e := by
  have := bs_le kd jr dy i
  unfold overN getN
  omega
theorem each_le (h : Nat) (kd jr : Nat → Nat) (dy qy : Nat) (hh : h ≤ 7) (hj : ∀ i, i < h → jr i ≤ 99) : eachN h kd jr dy qy ≤ qy + 693 := by
  have h1 := sm_b hh (fun i hi => Nat.le_trans (bs_le kd jr dy i) (hj i hi)) (Nat.le_refl h)
  unfold eachN
  have := Nat.div_le_self (qy + smN (bsN kd jr dy) h) h
  omega
theorem shrQ_le (h : Nat) (kd jr : Nat → Nat) (dy qy : Nat) (hh : h ≤ 7) (h0 : 0 < h) (hj : ∀ i, i < h → jr i ≤ 99) : shrQ h kd jr dy qy ≤ qy + 693 := by
  have h1 := sm_b hh (fun i hi => Nat.le_trans (bs_le kd jr dy i) (hj i hi)) (Nat.le_refl h)
  have h2 := smN_le (f := overN kd jr dy (eachN h kd jr dy qy)) (c := eachN h kd jr dy qy) (n := h) (fun i hi => over_le (hj i hi))
  have h3 := Nat.div_add_mod (qy + smN (bsN kd jr dy) h) h
  unfold shrQ
  unfold eachN at *
  omega
theorem c_share40 {h q dy qy e : Nat} {kd fi ha jr : Nat → Nat} (hq : q < 165) (hd : dy < 2 ^ 31) (hj : ∀ i, i < h → jr i ≤ 99) (he : e ≤ 100000) (hqy : qy ≤ 100000) : ∀ (m i : Nat) (S : Mem), h - i < m → i ≤ h → HC S h kd fi ha → MC S h q dy (qy + smN (overN kd jr dy e) i) (shrU kd jr dy e i) → ∃ S', f1_shareOut_b40 m S q (nI e) (nI i) = some (nI e, S') ∧ FQ q S S' ∧ MC S' h q dy (qy + smN (overN kd jr dy e) h) (shrJ kd jr dy e) := by
  intro m
  induction m with
  | zero =>
    intro i S h1
    omega
  | succ m ih =>
    intro i S h1 h2 H M
    have h7 := H.2.1
    rw [f1_shareOut_b40, H.1]
    rcases Nat.lt_or_ge i h with u | u
    · have c1 : ¬ nI h ≤ nI i := by rw [n_le (by omega) (by omega)]; omega
      have hji := hj i u
      have ej : gi S (195 + q) i = nI (jr i) := by
        have := M.2.2 i u
        unfold shrU at this
        rw [if_neg (Nat.lt_irrefl i)] at this
        exact this
      have eb := c_brings H u (jr := jr) hji hd M.1 ej
      have bl := bs_le kd jr dy i
      have bo := sm_b h7 (fun i hi => over_le (kd := kd) (dy := dy) (e := e) (hj i hi)) (show i ≤ h by omega)
      rw [if_neg c1, gd_t (i7 h7 u), ix_k (by omega), eb, b1_at, gd_t (i7 h7 u), nmE, ej]
      have es : nI (jr i) - nI (bringN (kd i) (jr i) dy) = nI (jr i - bsN kd jr dy i) := pk_sub bl
      rw [es]
      have er : f1_receive (ui S (195 + q) i (nI (jr i - bsN kd jr dy i))) q (nI i) (nI e) = some (ui (ui (ui S (195 + q) i (nI (jr i - bsN kd jr dy i))) (195 + q) i (nI (shrJ kd jr dy e i))) (30 + q) 2 (nI (qy + smN (overN kd jr dy e) (i + 1)))) := by
        have w1 : gi (ui S (195 + q) i (nI (jr i - bsN kd jr dy i))) (195 + q) i = nI (jr i - bsN kd jr dy i) := by rw [gi_ui, if_pos ⟨rfl, rfl⟩]
        have w2 (v : Int32) : gi (ui (ui S (195 + q) i (nI (jr i - bsN kd jr dy i))) (195 + q) i v) (30 + q) 2 = nI (qy + smN (overN kd jr dy e) i) := by
          rw [gi_ui, if_neg (by omega), gi_ui, if_neg (by omega)]
          exact M.2.1
        have w3 : (99 : Int32) - nI (jr i - bsN kd jr dy i) = nI (99 - (jr i - bsN kd jr dy i)) := by rw [n_99, pk_sub (by omega)]
        have w4 : mn (nI e) (nI (99 - (jr i - bsN kd jr dy i))) = nI (min e (99 - (jr i - bsN kd jr dy i))) := mn_n (by omega) (by omega)
        have w5 : nI (jr i - bsN kd jr dy i) + nI (min e (99 - (jr i - bsN kd jr dy i))) = nI (shrJ kd jr dy e i) := by
          rw [nI_add]
          congr 1
          unfold shrJ getN
          omega
        have w6 : nI (qy + smN (overN kd jr dy e) i) + (nI e - nI (min e (99 - (jr i - bsN kd jr dy i)))) = nI (qy + smN (overN kd jr dy e) (i + 1)) := by
          rw [pk_sub (by omega), nI_add, smN]
          congr 1
          unfold overN getN
          omega
        unfold f1_receive
        rw [gd_t (i7 h7 u), ix_k (by omega), w1, w3, w4, nmE, gd_t (i7 h7 u), gd_t (i7 h7 u), nmE, nmE, w5, w2, w6]
      rw [er, b1_at, nmE, nI_1]
      obtain ⟨S', a, b, c⟩ := ih (i + 1) (ui (ui (ui S (195 + q) i (nI (jr i - bsN kd jr dy i))) (195 + q) i (nI (shrJ kd jr dy e i))) (30 + q) 2 (nI (qy + smN (overN kd jr dy e) (i + 1)))) (by omega) (by omega) (H.fq (((FQ.rf.u _ _ (Or.inr rfl)).u _ _ (Or.inr rfl)).u _ _ (Or.inl rfl))) ⟨by rw [gi_ui, if_neg (by omega), gi_ui, if_neg (by omega), gi_ui, if_neg (by omega)]; exact M.1, by rw [gi_ui, if_pos ⟨rfl, rfl⟩], fun p hp => by
        have := M.2.2 p hp
        unfold shrU at this ⊢
        rw [gi_ui, if_neg (by omega), gi_ui]
        by_cases c : p = i
        · subst c
          rw [if_pos ⟨rfl, rfl⟩, if_pos (Nat.lt_succ_self p)]
        · rw [if_neg (fun u => c u.2), gi_ui, if_neg (fun u => c u.2), this]
          by_cases d : p < i
          · rw [if_pos d, if_pos (by omega)]
          · rw [if_neg d, if_neg (by omega)]⟩
      exact ⟨S', a, (((FQ.rf.u _ _ (Or.inr rfl)).u _ _ (Or.inr rfl)).u _ _ (Or.inl rfl)).tr b, c⟩
    · have e1 : i = h := by omega
      subst e1
      rw [if_pos (Int32.le_refl _)]
      refine ⟨S, rfl, FQ.rf, M.1, M.2.1, fun p hp => ?_⟩
      rw [M.2.2 p hp]
      unfold shrU
      rw [if_pos hp]
theorem c_share {S : Mem} {h q dy qy : Nat} {kd fi ha jr : Nat → Nat} (hq : q < 165) (hd : dy < 2 ^ 31) (h0 : 0 < h) (hqy : qy ≤ 50000) (H : HC S h kd fi ha) (M : MC S h q dy qy jr) (hj : ∀ i, i < h → jr i ≤ 99) : ∃ S', f1_shareOut S q = some (nI (eachN h kd jr dy qy), S') ∧ FQ q S S' ∧ MC S' h q dy (shrQ h kd jr dy qy) (shrJ kd jr dy (eachN h kd jr dy qy)) := by
  have h7 := H.2.1
  have ne : ¬ nI h = 0 := nI_ne0 h0 (by omega)
  have b1' := sm_b h7 (fun i hi => Nat.le_trans (bs_le kd jr dy i) (hj i hi)) (Nat.le_refl h)
  have b2' := each_le h kd jr dy qy h7 hj
  have b3' := Nat.mod_lt (qy + smN (bsN kd jr dy) h) h0
  unfold f1_shareOut
  have e1 : f1_brought S q = some (nI (smN (bsN kd jr dy) h)) := c_brought_all H M hd hj
  rw [H.1, if_neg ne, e1, b1_at, M.2.1, nI_add, nmE, gd_t (decide_eq_true ne), nmE, gd_t (decide_eq_true ne), nmE, pk_rem (by omega) h0 (by omega), pk_div (by omega) h0 (by omega)]
  obtain ⟨S', a, b, c⟩ := c_share40 (q := q) (dy := dy) (qy := (qy + smN (bsN kd jr dy) h) % h) (e := eachN h kd jr dy qy) (kd := kd) (fi := fi) (ha := ha) (jr := jr) hq hd hj (by omega) (by omega) FU 0 (ui S (30 + q) 2 (nI ((qy + smN (bsN kd jr dy) h) % h))) (Nat.lt_of_le_of_lt (show h - 0 ≤ 7 from h7) (by decide)) (Nat.zero_le _) (H.fq (FQ.rf.u _ _ (Or.inl rfl))) ⟨by rw [gi_ui, if_neg (by omega)]; exact M.1, by rw [gi_ui, if_pos ⟨rfl, rfl⟩]; rfl, fun p hp => by
    rw [gi_ui, if_neg (by omega), M.2.2 p hp]
    unfold shrU
    rw [if_neg (Nat.not_lt_zero p)]⟩
  exact ⟨S', a, (FQ.rf.u _ _ (Or.inl rfl)).tr b, c⟩
/-! the reference's springs: first all bring, then each gets -/
def shrV (kd jr : Nat → Nat) (dy e k i : Nat) : Nat := if i < k then shrJ kd jr dy e i else jr i - bsN kd jr dy i
def brtU (kd jr : Nat → Nat) (dy k i : Nat) : Nat := if i < k then jr i - bsN kd jr dy i else jr i
theorem m_share66 {h dy qy e : Nat} {kd fi ha jr : Nat → Nat} (hj : ∀ i, i < h → jr i ≤ 99) (he : e ≤ 100000) (hqy : qy ≤ 100000) : ∀ (m i : Nat) (T : Mem), h - i < m → i ≤ h → HM T h kd fi ha → MM T h 11 0 dy (qy + smN (overN kd jr dy e) i) (shrV kd jr dy e i) → ∃ T', f4_springs_b66 m T (nI e) (nI i) = some (nI e, T') ∧ FT T T' ∧ MM T' h 11 0 dy (qy + smN (overN kd jr dy e) h) (shrJ kd jr dy e) := by
  intro m
  induction m with
  | zero =>
    intro i T h1
    omega
  | succ m ih =>
    intro i T h1 h2 H M
    have h7 := H.2.1
    rw [f4_springs_b66, H.1]
    unfold f4_springs_b106 f4_springs_b129
    rcases Nat.lt_or_ge i h with u | u
    · have c1 : ¬ nI h ≤ nI i := by rw [n_le (by omega) (by omega)]; omega
      have hji := hj i u
      have ej : f4_jar T (nI i) = some (nI (jr i - bsN kd jr dy i)) := by
        rw [m_jar h7 M u]
        unfold shrV
        rw [if_neg (Nat.lt_irrefl i)]
      have bl := bs_le kd jr dy i
      have bo := sm_b h7 (fun i hi => over_le (kd := kd) (dy := dy) (e := e) (hj i hi)) (show i ≤ h by omega)
      have m1 : gi T 11 (ix 1) = nI (qy + smN (overN kd jr dy e) i) := M.2.1
      have g9 : inb (nI (2 + i)) 9 = true := inb_nI (by omega) (by decide)
      have g1 : inb 1 9 = true := rfl
      have x1 : ix 1 = 1 := rfl
      have go : ∃ T', f4_springs_b66 m (ui (ui T 11 1 (nI (qy + smN (overN kd jr dy e) (i + 1)))) 11 (2 + i) (nI (shrJ kd jr dy e i))) (nI e) (nI (i + 1)) = some (nI e, T') ∧ FT T T' ∧ MM T' h 11 0 dy (qy + smN (overN kd jr dy e) h) (shrJ kd jr dy e) := by
        obtain ⟨T', a, b, c⟩ := ih (i + 1) (ui (ui T 11 1 (nI (qy + smN (overN kd jr dy e) (i + 1)))) 11 (2 + i) (nI (shrJ kd jr dy e i))) (by omega) (by omega) (H.ft ((FT.rf.u _ _).u _ _)) ⟨by rw [gi_ui, if_neg (by omega), gi_ui, if_neg (by omega)]; exact M.1, by rw [gi_ui, if_neg (by omega), gi_ui, if_pos ⟨rfl, rfl⟩], fun p hp => by
          have := M.2.2 p hp
          unfold shrV at this ⊢
          rw [gi_ui]
          by_cases c : p = i
          · subst c
            rw [if_pos ⟨rfl, by omega⟩, if_pos (Nat.lt_succ_self p)]
          · rw [if_neg (by omega), gi_ui, if_neg (by omega), this]
            by_cases d : p < i
            · rw [if_pos d, if_pos (by omega)]
            · rw [if_neg d, if_neg (by omega)]⟩
        exact ⟨T', a, ((FT.rf.u _ _).u _ _).tr b, c⟩
      rw [if_neg c1, ej, b1_at, nI_add, nmE, gd_t g1, m1, x1]
      by_cases c : getN kd jr dy e i ≤ 99
      · have e2 : nI (jr i - bsN kd jr dy i + e) ≤ 99 := by rw [n_99, n_le (by omega) (by omega)]; exact c
        have e3 : nI (qy + smN (overN kd jr dy e) i) + 0 = nI (qy + smN (overN kd jr dy e) (i + 1)) := by
          rw [Int32.add_zero, smN]
          congr 1
          unfold overN
          omega
        have e4 : jr i - bsN kd jr dy i + e = shrJ kd jr dy e i := by
          unfold shrJ
          unfold getN at *
          omega
        rw [if_pos e2, gd_t g1, nmE, if_pos e2, n_2, nI_add, gd_t g9, nmE, nmE, nI_1, ix_k (by omega), e3, e4]
        exact go
      · have e2 : ¬ nI (jr i - bsN kd jr dy i + e) ≤ 99 := by rw [n_99, n_le (by omega) (by omega)]; exact c
        have e3 : nI (qy + smN (overN kd jr dy e) i) + (nI (jr i - bsN kd jr dy i + e) - 99) = nI (qy + smN (overN kd jr dy e) (i + 1)) := by
          have e5 : 99 ≤ jr i - bsN kd jr dy i + e := by
            unfold getN at c
            omega
          rw [n_99, pk_sub e5, nI_add, smN]
          congr 1
          unfold overN getN
          omega
        have e4 : 99 = shrJ kd jr dy e i := by
          unfold shrJ
          omega
        rw [if_neg e2, gd_t g1, nmE, if_neg e2, e3, n_2, nI_add, gd_t g9, nmE, nmE, nI_1, ix_k (by omega), n_99]
        rw [e4]
        exact go
    · have e1 : i = h := by omega
      subst e1
      rw [if_pos (Int32.le_refl _)]
      refine ⟨T, rfl, FT.rf, M.1, M.2.1, fun p hp => ?_⟩
      rw [M.2.2 p hp]
      unfold shrV
      rw [if_pos hp]
theorem m_share9 {h dy qy : Nat} {kd fi ha jr : Nat → Nat} (h0 : 0 < h) (hd : dy < 2 ^ 31) (hj : ∀ i, i < h → jr i ≤ 99) (hqy : qy ≤ 50000) : ∀ (m i : Nat) (T : Mem), h - i < m → i ≤ h → HM T h kd fi ha → MM T h 11 0 dy qy (brtU kd jr dy i) → ∃ T', f4_springs_b9 m T (nI (qy + smN (bsN kd jr dy) i)) (nI i) = some (nI (eachN h kd jr dy qy), T') ∧ FT T T' ∧ MM T' h 11 0 dy (shrQ h kd jr dy qy) (shrJ kd jr dy (eachN h kd jr dy qy)) := by
  intro m
  induction m with
  | zero =>
    intro i T h1
    omega
  | succ m ih =>
    intro i T h1 h2 H M
    have h7 := H.2.1
    rw [f4_springs_b9, H.1]
    rcases Nat.lt_or_ge i h with u | u
    · have c1 : ¬ nI h ≤ nI i := by rw [n_le (by omega) (by omega)]; omega
      have hji := hj i u
      have ej : f4_jar T (nI i) = some (nI (jr i)) := by
        rw [m_jar h7 M u]
        unfold brtU
        rw [if_neg (Nat.lt_irrefl i)]
      have eb := m_brings H u hji hd M.1 ej
      have bl := bs_le kd jr dy i
      have mj : gi T 11 (2 + i) = nI (jr i) := by
        have := M.2.2 i u
        unfold brtU at this
        rw [if_neg (Nat.lt_irrefl i), Nat.zero_add] at this
        exact this
      have g9 : inb (nI (2 + i)) 9 = true := inb_nI (by omega) (by decide)
      have es : nI (jr i) - nI (bringN (kd i) (jr i) dy) = nI (jr i - bsN kd jr dy i) := pk_sub bl
      have ea : qy + smN (bsN kd jr dy) i + bringN (kd i) (jr i) dy = qy + smN (bsN kd jr dy) (i + 1) := by
        rw [smN, Nat.add_assoc]
        rfl
      rw [if_neg c1, eb, b1_at, nI_add, nmE, n_2, nI_add, gd_t g9, gd_t g9, ix_k (by omega), mj, es, nmE, nmE, nI_1, ea]
      obtain ⟨T', a, b, c⟩ := ih (i + 1) (ui T 11 (2 + i) (nI (jr i - bsN kd jr dy i))) (by omega) (by omega) (H.ft (FT.rf.u _ _)) ⟨by rw [gi_ui, if_neg (by omega)]; exact M.1, by rw [gi_ui, if_neg (by omega)]; exact M.2.1, fun p hp => by
        have := M.2.2 p hp
        unfold brtU at this ⊢
        rw [gi_ui]
        by_cases c : p = i
        · subst c
          rw [if_pos ⟨rfl, by omega⟩, if_pos (Nat.lt_succ_self p)]
        · rw [if_neg (by omega), this]
          by_cases d : p < i
          · rw [if_pos d, if_pos (by omega)]
          · rw [if_neg d, if_neg (by omega)]⟩
      exact ⟨T', a, (FT.rf.u _ _).tr b, c⟩
    · have e1 : i = h := by omega
      subst e1
      have ne : ¬ nI i = 0 := nI_ne0 h0 (by omega)
      have b1' := sm_b h7 (fun i hi => Nat.le_trans (bs_le kd jr dy i) (hj i hi)) (Nat.le_refl i)
      have b2' := each_le i kd jr dy qy h7 hj
      have b3' := Nat.mod_lt (qy + smN (bsN kd jr dy) i) h0
      have g1 : inb 1 9 = true := rfl
      have x1 : ix 1 = 1 := rfl
      rw [if_pos (Int32.le_refl _), gd_t (decide_eq_true ne), nmE, gd_t (decide_eq_true ne), gd_t g1, nmE, pk_rem (by omega) h0 (by omega), pk_div (by omega) h0 (by omega), x1]
      obtain ⟨T', a, b, c⟩ := m_share66 (dy := dy) (qy := (qy + smN (bsN kd jr dy) i) % i) (e := eachN i kd jr dy qy) (kd := kd) (fi := fi) (ha := ha) (jr := jr) hj (by omega) (by omega) FU 0 (ui T 11 1 (nI ((qy + smN (bsN kd jr dy) i) % i))) (Nat.lt_of_le_of_lt (show i - 0 ≤ 7 from h7) (by decide)) (Nat.zero_le _) (H.ft (FT.rf.u _ _)) ⟨by rw [gi_ui, if_neg (by omega)]; exact M.1, by rw [gi_ui, if_pos ⟨rfl, rfl⟩]; rfl, fun p hp => by
        rw [gi_ui, if_neg (by omega), M.2.2 p hp]
        unfold brtU shrV
        rw [if_pos hp, if_neg (Nat.not_lt_zero p)]⟩
      exact ⟨T', a, (FT.rf.u _ _).tr b, c⟩
theorem m_springs {T : Mem} {h dy qy : Nat} {kd fi ha jr : Nat → Nat} (h0 : 0 < h) (hd : dy < 2 ^ 31) (hqy : qy ≤ 50000) (H : HM T h kd fi ha) (M : MM T h 11 0 dy qy jr) (hj : ∀ i, i < h → jr i ≤ 99) : ∃ T', f4_springs T = some (nI (eachN h kd jr dy qy), T') ∧ FT T T' ∧ MM T' h 11 0 dy (shrQ h kd jr dy qy) (shrJ kd jr dy (eachN h kd jr dy qy)) := by
  have g1 : inb 1 9 = true := rfl
  have m1 : gi T 11 (ix 1) = nI qy := M.2.1
  unfold f4_springs
  rw [gd_t g1, nmE, m1]
  exact m_share9 h0 hd hj hqy FU 0 T (Nat.lt_of_le_of_lt (show h - 0 ≤ 7 from H.2.1) (by decide)) (Nat.zero_le _) H ⟨M.1, M.2.1, fun p hp => by
    unfold brtU
    rw [if_neg (Nat.not_lt_zero p)]
    exact M.2.2 p hp⟩
