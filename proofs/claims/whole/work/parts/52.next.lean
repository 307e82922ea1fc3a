/-! A DEED: the last moment stays, a new one begins as it is -/
theorem HI.gen {S T S' T' : Mem} {h s d a b a2 b2 : Nat} {dy qy : Nat → Nat} {jr : Nat → Nat → Nat} (H : HI S T h s d a b a2 b2 dy qy jr) (hh : h ≤ 7) (f0 : gi S' (22 + s) 1 = gi S (22 + s) 1) (fc : ∀ e p, e ≤ d → gi S' (30 + (41 * s + e)) p = gi S (30 + (41 * s + e)) p ∧ gi S' (195 + (41 * s + e)) p = gi S (195 + (41 * s + e)) p) (f1 : ∀ k, k < 9 → gi T' a (b + k) = gi T a (b + k)) (f2 : ∀ e k, e < d → k < 9 → gi T' a2 (b2 + 9 * e + k) = gi T a2 (b2 + 9 * e + k)) : HI S' T' h s d a b a2 b2 dy qy jr := by
  obtain ⟨h1, h2, h3, h4, h5⟩ := H
  exact ⟨h1, by rw [f0]; exact h2, fun e he => ⟨(h3 e he).1.same (fun k => (fc e k he).1) (fun k => (fc e k he).2), (h3 e he).2⟩, h4.same hh f1, fun e he => (h5 e he).same hh (fun k hk => f2 e k he hk)⟩
theorem KE.gen {S T S' T' : Mem} {h : Nat} {kd fi ha : Nat → Nat} {k : Nat} (H : KE S T h kd fi ha k) (hh : h ≤ 7) (hk : k < 3) (f0 : gi S' (22 + (1 + k)) 1 = gi S (22 + (1 + k)) 1) (fc : ∀ e p, e ≤ 40 → gi S' (30 + (41 * (1 + k) + e)) p = gi S (30 + (41 * (1 + k) + e)) p ∧ gi S' (195 + (41 * (1 + k) + e)) p = gi S (195 + (41 * (1 + k) + e)) p) (fm : ∀ a i, 13 ≤ a → a ≤ 14 → gi T' a i = gi T a i) : KE S' T' h kd fi ha k := by
  rcases H with ⟨h1, h2⟩ | ⟨d, dy, qy, jr, h1, h2, h3, h4⟩
  · exact Or.inl ⟨by rw [f0]; exact h1, by rw [fm 13 k (by omega) (by omega)]; exact h2⟩
  · have hd := h2.1
    refine Or.inr ⟨d, dy, qy, jr, by rw [fm 13 k (by omega) (by omega)]; exact h1, h2.gen hh f0 (fun e p he => fc e p (by omega)) (fun i _ => fm _ _ (by omega) (by omega)) (fun e i _ _ => fm _ _ (by omega) (by omega)), by rw [fm 14 _ (by omega) (by omega)]; exact h3, fun i hi => ?_⟩
    rw [fm 14 _ (by omega) (by omega), fm 14 _ (by omega) (by omega), fm 14 _ (by omega) (by omega)]
    exact h4 i hi
def cl {α : Type} (f : Nat → α) (d e : Nat) : α := f (min e d)
def st {α : Type} (f : Nat → α) (d : Nat) (x : α) (e : Nat) : α := if e = d then x else f e
theorem OKM.up {h d d' dy qy : Nat} {jr : Nat → Nat} (o : OKM h d dy qy jr) (hd : d ≤ d') : OKM h d' dy qy jr := by
  obtain ⟨a, b, c⟩ := o
  exact ⟨by omega, by omega, c⟩
theorem upd_now {S T S' T' : Mem} {h d : Nat} {kd fi ha dy qy : Nat → Nat} {jr : Nat → Nat → Nat} (P : PLx S T h kd fi ha d dy qy jr) (fc : FQ (41 * 0 + d) S S') (fm : FT T T') {dy1 qy1 : Nat} {jr1 : Nat → Nat} (M : MC S' h (41 * 0 + d) dy1 qy1 jr1) (N : MM T' h 11 0 dy1 qy1 jr1) (O : OKM h d dy1 qy1 jr1) : PLx S' T' h kd fi ha d (st dy d dy1) (st qy d qy1) (st jr d jr1) := by
  obtain ⟨h1, h2, h3, ⟨i1, i2, i3, i4, i5⟩, h5⟩ := P
  have sd {α : Type} (f : Nat → α) (x : α) : st f d x d = x := if_pos rfl
  have sn {α : Type} (f : Nat → α) (x : α) {e : Nat} (he : e ≠ d) : st f d x e = f e := if_neg he
  refine ⟨h1.fq fc, h2.ft fm, by rw [fm.1 0 18 (by decide)]; exact h3, ⟨i1, ?_, fun e he => ?_, ?_, fun e he => ?_⟩, fun k hk => (h5 k hk).gen h1.2.1 hk ?_ (fun e p he => ⟨?_, ?_⟩) (fun a i x y => fm.1 a i (by omega))⟩
  · rw [fc.1 _ _ (by omega) (by omega)]
    exact i2
  · by_cases c : e = d
    · subst c
      rw [sd, sd, sd]
      exact ⟨M, O⟩
    · rw [sn _ _ c, sn _ _ c, sn _ _ c]
      exact ⟨(i3 e he).1.same (fun p => fc.1 _ _ (by omega) (by omega)) (fun p => fc.1 _ _ (by omega) (by omega)), (i3 e he).2⟩
  · rw [sd, sd, sd]
    exact N
  · rw [sn _ _ (by omega), sn _ _ (by omega), sn _ _ (by omega)]
    exact (i5 e he).same h1.2.1 (fun k _ => fm.1 _ _ (by decide))
  · exact fc.1 _ _ (by omega) (by omega)
  · exact fc.1 _ _ (by omega) (by omega)
  · exact fc.1 _ _ (by omega) (by omega)
theorem RB.fq {S T S' T' : Mem} {q : Nat} (R : RB S T) (fc : FQ q S S') (fm : FT T T') : RB S' T' :=
  R.keep ⟨fun a p ha => fc.1 a p (by omega) (by omega), fc.2⟩ ⟨fm.1 _ _ (by decide), fm.1 _ _ (by decide), fun a p x y => fm.1 a p (by omega), fm.2⟩
theorem c_next {S : Mem} {d : Nat} (hd : d < 40) (h : gi S 22 1 = nI d) : f2_next S 0 = some (41 * 0 + (d + 1), ui (bcm S (41 * 0 + (d + 1)) (41 * 0 + d)) 22 1 (nI (d + 1))) := by
  have h' : gi S (22 + 0) 1 = nI d := h
  have g1 : inb (nI (d + 1)) 41 = true := inb_nI (by omega) (by decide)
  have g0 : inb (nI d) 41 = true := inb_nI (by omega) (by decide)
  have e : gi (bcm S (41 * 0 + (d + 1)) (41 * 0 + d)) (22 + 0) 1 = nI d := by rw [(bcm_FQ).1 _ _ (by omega) (by omega)]; exact h
  unfold f2_next
  rw [h', nI_1, gd_t g1, gd_t g0, ix_k (by omega), ix_k (by omega), c_become (by omega) (by omega), b1_at, e, nI_1, nmE]
  have e2 (X : Mem) : gi (ui X (22 + 0) 1 (nI (d + 1))) (22 + 0) 1 = nI (d + 1) := by rw [gi_ui, if_pos ⟨rfl, rfl⟩]
  rw [e2, gd_t g1, ix_k (by omega)]
theorem m_notes2 {d : Nat} (hd : d < 40) (G : Nat → Int32) : ∀ (n i : Nat) (T : Mem), 9 - i < n → i ≤ 9 → gi T 0 18 = nI d → (∀ k, k < 9 → gi T 11 k = G (9 * d + k)) → f4_notes_b2 n T (nI i) = some (ui (upG T 12 (9 * d + i) (9 * d + 9) G) 0 18 (nI (d + 1)))
  | 0, i, T, h, _, _, _ => by omega
  | n + 1, i, T, hn, hi, h1, h2 => by
    rw [f4_notes_b2, n_9]
    rcases Nat.lt_or_ge i 9 with q | q
    · have e : ¬ nI 9 ≤ nI i := by rw [n_le (by omega) (by omega)]; omega
      have g : inb (nI (9 * d + i)) 360 = true := inb_nI (by omega) (by decide)
      rw [if_neg e, gd_ix q (by decide), h1, pk_mul, nI_add, gd_t g, ix_k (by omega), ix_k (by omega), h2 i q, nmE, nmE, nI_1, m_notes2 hd G n (i + 1) _ (by omega) (by omega) (by rw [gi_ui, if_neg (by omega)]; exact h1) (fun k hk => by rw [gi_ui, if_neg (by omega)]; exact h2 k hk)]
      rw [show 9 * d + (i + 1) = 9 * d + i + 1 by omega, upG_step (G := G) (show 9 * d + i < 9 * d + 9 by omega)]
    · have e : i = 9 := by omega
      subst e
      rw [if_pos (Int32.le_refl _), upG_nil (Nat.le_refl _), h1, nI_1, nmE]
theorem m_notes {T : Mem} {d : Nat} (hd : d < 40) (h : gi T 0 18 = nI d) : f4_notes T = some (ui (upG T 12 (9 * d) (9 * d + 9) (fun p => gi T 11 (p - 9 * d))) 0 18 (nI (d + 1))) :=
  m_notes2 hd (fun p => gi T 11 (p - 9 * d)) FU 0 T (by decide) (by decide) h (fun k hk => by rw [Nat.add_sub_cancel_left])
theorem p_next {S T : Mem} {h d : Nat} {kd fi ha dy qy : Nat → Nat} {jr : Nat → Nat → Nat} (R : RB S T) (P : PLx S T h kd fi ha d dy qy jr) (hd : d < 40) : ∃ S1 T1, f2_next S 0 = some (41 * 0 + (d + 1), S1) ∧ f4_notes T = some T1 ∧ RB S1 T1 ∧ PLx S1 T1 h kd fi ha (d + 1) (cl dy d) (cl qy d) (cl jr d) := by
  obtain ⟨h1, h2, h3, ⟨i1, i2, i3, i4, i5⟩, h5⟩ := P
  refine ⟨_, _, c_next hd i2, m_notes hd h3, ?_⟩
  generalize hS : ui (bcm S (41 * 0 + (d + 1)) (41 * 0 + d)) 22 1 (nI (d + 1)) = S1
  generalize hT : ui (upG T 12 (9 * d) (9 * d + 9) (fun p => gi T 11 (p - 9 * d))) 0 18 (nI (d + 1)) = T1
  have sf (a p : Nat) (x : a ≠ 30 + (41 * 0 + (d + 1))) (y : a ≠ 195 + (41 * 0 + (d + 1))) (z : a = 22 → p ≠ 1) : gi S1 a p = gi S a p := by
    rw [← hS, gi_ui, if_neg (fun u => z u.1 u.2), bcm_FQ.1 a p x y]
  have tf (a p : Nat) (x : a = 0 → p ≠ 18) (y : a = 12 → p < 9 * d ∨ 9 * d + 9 ≤ p) : gi T1 a p = gi T a p := by
    rw [← hT, gi_ui, if_neg (fun u => x u.1 u.2), gi_upG, if_neg (by omega)]
  have sl (p : Nat) : gl S1 p = gl S p := by
    rw [← hS, gl_ui]
    exact bcm_FQ.2 p
  have tl (p : Nat) : gl T1 p = gl T p := by
    rw [← hT, gl_ui, gl_upG]
  have c0 {α : Type} (f : Nat → α) {e : Nat} (he : e ≤ d) : cl f d e = f e := by
    unfold cl
    rw [Nat.min_eq_left he]
  have c1 {α : Type} (f : Nat → α) : cl f d (d + 1) = f d := by
    unfold cl
    rw [Nat.min_eq_right (Nat.le_succ d)]
  have h7 := h1.2.1
  refine ⟨R.keep ⟨fun a p ha => sf a p (by omega) (by omega) (by omega), sl⟩ ⟨tf _ _ (by decide) (by omega), tf _ _ (by decide) (by omega), fun a p x y => tf a p (by omega) (by omega), tl⟩, ⟨?_, h7, fun i hi => ?_⟩, ⟨?_, h7, fun i hi => ?_⟩, ?_, ⟨by omega, ?_, fun e he => ?_, ?_, fun e he => ?_⟩, fun k hk => (h5 k hk).gen h7 hk ?_ (fun e p he => ⟨?_, ?_⟩) (fun a i x y => tf a i (by omega) (by omega))⟩
  · rw [sf _ _ (by omega) (by omega) (by omega)]
    exact h1.1
  · rw [sf _ _ (by omega) (by omega) (by omega), sf _ _ (by omega) (by omega) (by omega), sf _ _ (by omega) (by omega) (by omega)]
    exact h1.2.2 i hi
  · rw [tf _ _ (by omega) (by omega)]
    exact h2.1
  · rw [tf _ _ (by omega) (by omega), tf _ _ (by omega) (by omega), tf _ _ (by omega) (by omega)]
    exact h2.2.2 i hi
  · rw [← hT, gi_ui, if_pos ⟨rfl, rfl⟩]
  · rw [← hS, gi_ui, if_pos ⟨rfl, rfl⟩]
  · by_cases c : e ≤ d
    · rw [c0 _ c, c0 _ c, c0 _ c]
      exact ⟨(i3 e c).1.same (fun p => sf _ _ (by omega) (by omega) (by omega)) (fun p => sf _ _ (by omega) (by omega) (by omega)), (i3 e c).2⟩
    · have ee : e = d + 1 := by omega
      subst ee
      rw [c1, c1, c1]
      refine ⟨(bcm_MC (q0 := 41 * 0 + (d + 1)) (by omega) (by omega) h7 (i3 d (Nat.le_refl d)).1).same (fun p => ?_) (fun p => ?_), (i3 d (Nat.le_refl d)).2.up (by omega)⟩
      · rw [← hS, gi_ui, if_neg (by omega)]
      · rw [← hS, gi_ui, if_neg (by omega)]
  · rw [c1, c1, c1]
    exact i4.same h7 (fun k _ => tf _ _ (by omega) (by omega))
  · by_cases c : e < d
    · rw [c0 _ (Nat.le_of_lt c), c0 _ (Nat.le_of_lt c), c0 _ (Nat.le_of_lt c)]
      exact (i5 e c).same h7 (fun k hk => tf _ _ (by omega) (by omega))
    · have ee : e = d := by omega
      subst ee
      rw [c0 _ (Nat.le_refl e), c0 _ (Nat.le_refl e), c0 _ (Nat.le_refl e)]
      refine i4.same h7 (fun k hk => ?_)
      rw [← hT, gi_ui, if_neg (by omega), gi_upG, if_pos (by omega)]
      congr 1
      omega
  · exact sf _ _ (by omega) (by omega) (by omega)
  · exact sf _ _ (by omega) (by omega) (by omega)
  · exact sf _ _ (by omega) (by omega) (by omega)
/-- a deed that can be done -/
theorem deed {S T : Mem} {h d : Nat} {kd fi ha dy qy : Nat → Nat} {jr : Nat → Nat → Nat} (R : RB S T) (P : PLx S T h kd fi ha d dy qy jr) (hd : d < 40) : ∃ S1 T1, f2_next S 0 = some (41 * 0 + (d + 1), S1) ∧ f4_notes T = some T1 ∧ HC S1 h kd fi ha ∧ HM T1 h kd fi ha ∧ MC S1 h (41 * 0 + (d + 1)) (dy d) (qy d) (jr d) ∧ MM T1 h 11 0 (dy d) (qy d) (jr d) ∧ OKM h d (dy d) (qy d) (jr d) ∧ ∀ S2 T2 dy1 qy1 jr1, FQ (41 * 0 + (d + 1)) S1 S2 → FT T1 T2 → MC S2 h (41 * 0 + (d + 1)) dy1 qy1 jr1 → MM T2 h 11 0 dy1 qy1 jr1 → OKM h (d + 1) dy1 qy1 jr1 → RB S2 T2 ∧ ∃ dy' qy' jr', PLx S2 T2 h kd fi ha (d + 1) dy' qy' jr' := by
  obtain ⟨S1, T1, a, b, c, p⟩ := p_next R P hd
  have m := (p.2.2.2.1.2.2.1 (d + 1) (Nat.le_refl _)).1
  have n := p.2.2.2.1.2.2.2.1
  have c1 {α : Type} (f : Nat → α) : cl f d (d + 1) = f d := by
    unfold cl
    rw [Nat.min_eq_right (Nat.le_succ d)]
  rw [c1, c1, c1] at m n
  exact ⟨S1, T1, a, b, p.1, p.2.1, m, n, (P.2.2.2.1.2.2.1 d (Nat.le_refl d)).2, fun S2 T2 dy1 qy1 jr1 f1 f2 m' n' o => ⟨c.fq f1 f2, _, _, _, upd_now p f1 f2 m' n' o⟩⟩
