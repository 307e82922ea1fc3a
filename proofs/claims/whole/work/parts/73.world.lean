/-! CONSTRUCTORS: the class's world while it is being made; n fields of the object are set, m of the kept stories are there -/
def fld (n : Nat) (ad : Nat → Nat) (S : Mem) : List Value := [if 1 ≤ n then .ref (ad 1) else .null, if 2 ≤ n then .ref (ad 8) else .null, if 3 ≤ n then .ref (ad 9) else .null, if 4 ≤ n then .ref (ad 14) else .null, if 5 ≤ n then .ref (ad 15) else .null, if 6 ≤ n then .ref (ad 22) else .null, if 7 ≤ n then .ref (ad 19) else .null, if 8 ≤ n then .ref (ad 194) else .null, if 9 ≤ n then .ref (ad 20) else .null, .int (gi S 0 9), .long (gl S 0), .long (if 10 ≤ n then gl S 1 else 0), .int (gi S 0 12), if 11 ≤ n then .ref (ad 21) else .null]
def kpt (m : Nat) (ad : Nat → Nat) (j : Nat) : Option Nat := if j < m then some (ad (22 + (1 + j))) else none
def WE (K : Nat → ClassId) (ad : Nat → Nat) (S : Mem) (n m i : Nat) : va_E :=
  if i = 0 then .inr (3, fld n ad S) else if i = 19 then .inl (K 3, 3, .inr (.inr (.inr (.inr (kpt m ad))))) else EC K ad S i
def refsW (n m i : Nat) : List Nat :=
  if i = 0 then (if 1 ≤ n then [1] else []) ++ ((if 2 ≤ n then [8] else []) ++ ((if 3 ≤ n then [9] else []) ++ ((if 4 ≤ n then [14] else []) ++ ((if 5 ≤ n then [15] else []) ++ ((if 6 ≤ n then [22] else []) ++ ((if 7 ≤ n then [19] else []) ++ ((if 8 ≤ n then [194] else []) ++ ((if 9 ≤ n then [20] else []) ++ (if 11 ≤ n then [21] else [])))))))))
  else if i = 19 then (List.range m).map (fun j => 22 + (1 + j))
  else if i = 1 then (List.range 6).map (fun j => 2 + j)
  else if i = 9 then (List.range 4).map (fun j => 10 + j)
  else if i = 15 then [16, 17, 18]
  else if i < 22 then []
  else if i < 26 then [26 + (i - 22)]
  else if i < 30 then (List.range 41).map (fun j => 30 + (41 * (i - 26) + j))
  else if i < 195 then [195 + (i - 30)]
  else []
abbrev CLW (ids : List Nat) (n m : Nat) : Prop := ∀ i ∈ ids, ∀ r ∈ refsW n m i, r ∈ ids
theorem EC_same {K : Nat → ClassId} {ad ad' : Nat → Nat} {S : Mem} {i : Nat} (h0 : i ≠ 0) (h1 : i ≠ 1) (h2 : i ≠ 9) (h3 : i ≠ 15) (h4 : i ≠ 19) (h5 : i < 22 ∨ 195 ≤ i) : EC K ad' S i = EC K ad S i := by
  unfold EC ECf
  rw [if_neg h0, if_neg h0, if_neg h1, if_neg h1]
  by_cases c1 : i < 8
  · rw [if_pos c1, if_pos c1]
  rw [if_neg c1, if_neg c1]
  by_cases c2 : i = 8
  · rw [if_pos c2, if_pos c2]
  rw [if_neg c2, if_neg c2, if_neg h2, if_neg h2]
  by_cases c3 : i < 14
  · rw [if_pos c3, if_pos c3]
  rw [if_neg c3, if_neg c3]
  by_cases c4 : i = 14
  · rw [if_pos c4, if_pos c4]
  rw [if_neg c4, if_neg c4, if_neg h3, if_neg h3]
  by_cases c5 : i < 19
  · rw [if_pos c5, if_pos c5]
  rw [if_neg c5, if_neg c5, if_neg h4, if_neg h4]
  by_cases c6 : i = 20
  · rw [if_pos c6, if_pos c6]
  rw [if_neg c6, if_neg c6]
  by_cases c7 : i = 21
  · rw [if_pos c7, if_pos c7]
  rw [if_neg c7, if_neg c7, if_neg (by omega), if_neg (by omega), if_neg (by omega), if_neg (by omega), if_neg (by omega), if_neg (by omega)]
theorem WE_cg {D : va_G} {K : Nat → ClassId} {ad ad' : Nat → Nat} {S : Mem} {n m i a : Nat} {H : Heap} (hr : ∀ r ∈ refsW n m i, ad' r = ad r) (h : va_at D vwCl (a, WE K ad S n m i) H) : va_at D vwCl (a, WE K ad' S n m i) H := by
  unfold refsW at hr
  unfold WE at h ⊢
  by_cases c0 : i = 0
  · rw [if_pos c0] at hr h
    rw [if_pos c0]
    have e : ∀ (t x : Nat), (t ≤ n → ad' x = ad x) → (if t ≤ n then Value.ref (ad' x) else .null) = (if t ≤ n then Value.ref (ad x) else .null) := fun t x q => by
      by_cases c : t ≤ n
      · rw [if_pos c, if_pos c, q c]
      · rw [if_neg c, if_neg c]
    have ef : fld n ad' S = fld n ad S := by
      unfold fld
      rw [e 1 1 (fun q => hr 1 (by simp [q])), e 2 8 (fun q => hr 8 (by simp [q])), e 3 9 (fun q => hr 9 (by simp [q])), e 4 14 (fun q => hr 14 (by simp [q])), e 5 15 (fun q => hr 15 (by simp [q])), e 6 22 (fun q => hr 22 (by simp [q])), e 7 19 (fun q => hr 19 (by simp [q])), e 8 194 (fun q => hr 194 (by simp [q])), e 9 20 (fun q => hr 20 (by simp [q])), e 11 21 (fun q => hr 21 (by simp [q]))]
    rw [ef]
    exact h
  rw [if_neg c0] at hr h
  rw [if_neg c0]
  by_cases c19 : i = 19
  · rw [if_pos c19] at hr h
    rw [if_pos c19]
    refine at_q h (fun j _ => ?_)
    unfold kpt
    by_cases c : j < m
    · rw [if_pos c, if_pos c, hr _ (List.mem_map.mpr ⟨j, List.mem_range.mpr c, rfl⟩)]
    · rw [if_neg c, if_neg c]
  rw [if_neg c19] at hr h
  rw [if_neg c19]
  by_cases c1 : i = 1
  · subst c1
    rw [if_pos rfl] at hr
    exact at_q h (fun j hj => by
      show some (ad (2 + j)) = some (ad' (2 + j))
      rw [hr _ (List.mem_map.mpr ⟨j, List.mem_range.mpr hj, rfl⟩)])
  rw [if_neg c1] at hr
  by_cases c9 : i = 9
  · subst c9
    rw [if_pos rfl] at hr
    exact at_q h (fun j hj => by
      show some (ad (10 + j)) = some (ad' (10 + j))
      rw [hr _ (List.mem_map.mpr ⟨j, List.mem_range.mpr hj, rfl⟩)])
  rw [if_neg c9] at hr
  by_cases c15 : i = 15
  · subst c15
    rw [if_pos rfl] at hr
    rw [EC_H] at h ⊢
    rw [hr 16 (by decide), hr 17 (by decide), hr 18 (by decide)]
    exact h
  rw [if_neg c15] at hr
  by_cases c22 : i < 22
  · rw [EC_same c0 c1 c9 c15 c19 (Or.inl c22)]
    exact h
  rw [if_neg c22] at hr
  by_cases c26 : i < 26
  · rw [if_pos c26] at hr
    obtain ⟨z, rfl⟩ : ∃ z, i = 22 + z := ⟨i - 22, by omega⟩
    rw [Nat.add_sub_cancel_left] at hr
    rw [EC_S K ad S (by omega)] at h
    rw [EC_S K ad' S (by omega), hr _ List.mem_cons_self]
    exact h
  rw [if_neg c26] at hr
  by_cases c30 : i < 30
  · rw [if_pos c30] at hr
    obtain ⟨z, rfl⟩ : ∃ z, i = 26 + z := ⟨i - 26, by omega⟩
    rw [Nat.add_sub_cancel_left] at hr
    rw [EC_MA K ad S (by omega)] at h
    rw [EC_MA K ad' S (by omega)]
    exact at_q h (fun j hj => by
      show some (ad (30 + (41 * z + j))) = some (ad' (30 + (41 * z + j)))
      rw [hr _ (List.mem_map.mpr ⟨j, List.mem_range.mpr hj, rfl⟩)])
  rw [if_neg c30] at hr
  by_cases c195 : i < 195
  · rw [if_pos c195] at hr
    obtain ⟨z, rfl⟩ : ∃ z, i = 30 + z := ⟨i - 30, by omega⟩
    rw [Nat.add_sub_cancel_left] at hr
    rw [EC_M K ad S (by omega)] at h
    rw [EC_M K ad' S (by omega), hr _ List.mem_cons_self]
    exact h
  rw [EC_same c0 c1 c9 c15 c19 (Or.inr (by omega))]
  exact h
section WEs
variable {D : va_G} {K : Nat → ClassId} {ids : List Nat} {ad : Nat → Nat} {S : Mem} {n m : Nat} {A : Nat → Prop} {H : Heap}
/-- one cell has changed -/
theorem we_to {k n' m' : Nat} {S' : Mem} {x : va_E} (g : GI D ids ad (st (WE K ad S n m) k x) A H) (hx : x = WE K ad S' n' m' k) (ho : ∀ i, i ≠ k → WE K ad S' n' m' i = WE K ad S n m i) : GI D ids ad (WE K ad S' n' m') A H :=
  g.to (fun _ _ => rfl) (fun i _ h => by
    by_cases c : i = k
    · subst c
      rw [st_same, hx] at h
      exact h
    · rw [st_else _ _ c] at h
      rw [ho i c]
      exact h)
theorem we_putn {n' : Nat} {x : va_E} (g : GI D ids ad (st (WE K ad S n m) 0 x) A H) (hx : x = WE K ad S n' m 0) : GI D ids ad (WE K ad S n' m) A H :=
  we_to g hx (fun i hi => by
    unfold WE
    rw [if_neg hi, if_neg hi])
theorem we_S {k : Nat} {S' : Mem} {x : va_E} (h0 : k ≠ 0) (g : GI D ids ad (st (WE K ad S n m) k x) A H) (hx : x = WE K ad S' n m k) (h1 : ∀ i, i ≠ k → S'.1 i = S.1 i) (h2 : S'.2 = S.2) : GI D ids ad (WE K ad S' n m) A H :=
  we_to g hx (fun i hi => by
    have e : gi S' 0 = gi S 0 := h1 0 (Ne.symm h0)
    have e2 : gl S' = gl S := h2
    unfold WE fld EC
    rw [h1 i hi, h2, e, e2])
/-- a new cell -/
theorem we_new {k q : Nat} {x : va_E} (g : GI D (ids ++ [k]) (st ad k q) (st (WE K ad S n m) k x) A H) (hk : k ∉ ids) (hc : CLW ids n m) (hx : va_at D vwCl (q, x) H → va_at D vwCl (q, WE K (st ad k q) S n m k) H) : GI D (ids ++ [k]) (st ad k q) (WE K (st ad k q) S n m) A H :=
  g.to (fun _ _ => rfl) (fun i hi h => by
    by_cases c : i = k
    · subst c
      rw [st_same, st_same] at h
      rw [st_same]
      exact hx h
    · rw [st_else _ _ c, st_else _ _ c] at h
      rw [st_else _ _ c]
      have hi2 : i ∈ ids := by
        rcases List.mem_append.mp hi with q | q
        · exact q
        · exact absurd (List.mem_singleton.mp q) c
      exact WE_cg (fun r hr => st_else _ _ (fun e => hk (e ▸ hc i hi2 r hr))) h)
/-- an object and what its constructor has made -/
theorem we_join {k q M : Nat} {x0 : va_E} {ad' : Nat → Nat} {E' : Nat → va_E} {u : Nat → Nat} {EF : Nat → va_E} {gl' : Nat → Nat} (g : GI D ((ids ++ [k]) ++ (List.range (M - 1)).map (fun j => gl' (j + 1))) ad' E' A H) (hk : k ∉ ids) (hc : CLW ids n m) (a1 : ∀ i ∈ ids ++ [k], ad' i = st ad k q i) (a2 : ∀ i ∈ ids ++ [k], i ≠ k → E' i = st (WE K ad S n m) k x0 i) (a3 : ∀ j, j < M → ad' (gl' j) = u j ∧ E' (gl' j) = EF j) (h0 : gl' 0 = k) (hM : 0 < M) (hE : ∀ j, j < M → va_at D vwCl (u j, EF j) H → va_at D vwCl (u j, WE K ad' S n m (gl' j)) H) : GI D ((ids ++ [k]) ++ (List.range (M - 1)).map (fun j => gl' (j + 1))) ad' (WE K ad' S n m) A H ∧ (∀ i ∈ ids, ad' i = ad i) ∧ ad' k = q := by
  have b1 : ∀ i ∈ ids, ad' i = ad i := fun i hi => by
    have ne : ¬ i = k := fun e => hk (e ▸ hi)
    rw [a1 i (List.mem_append_left _ hi), st_else _ _ ne]
  refine ⟨g.to (fun _ _ => rfl) (fun i hi h => ?_), b1, ?_⟩
  · have viaG : ∀ j, j < M → i = gl' j → va_at D vwCl (ad' i, WE K ad' S n m i) H := fun j hj e => by
      subst e
      obtain ⟨c1, c2⟩ := a3 j hj
      rw [c1, c2] at h
      rw [c1]
      exact hE j hj h
    rcases List.mem_append.mp hi with h1 | h1
    · rcases List.mem_append.mp h1 with h2 | h2
      · have ne : ¬ i = k := fun e => hk (e ▸ h2)
        rw [a2 i h1 ne, st_else _ _ ne] at h
        exact WE_cg (fun r hr => b1 r (hc i h2 r hr)) h
      · rw [List.mem_singleton] at h2
        exact viaG 0 hM (h2.trans h0.symm)
    · obtain ⟨j, hj, e⟩ := List.mem_map.mp h1
      rw [List.mem_range] at hj
      exact viaG (j + 1) (by omega) e.symm
  · rw [a1 k (List.mem_append_right _ List.mem_cons_self), st_same]
end WEs
/-! what the constructors' cells are among the class's -/
theorem ho_we {D : va_G} {K : Nat → ClassId} {ad' u : Nat → Nat} {S : Mem} {n m : Nat} {H : Heap} (hz : S.1 16 = fun _ => 0) (hz1 : S.1 17 = fun _ => 0) (hz2 : S.1 18 = fun _ => 0) (hz3 : gi S 15 3 = 0) (a3 : ∀ j, j < 4 → ad' (15 + j) = u j) : ∀ j, j < 4 → va_at D vwCl (u j, EHo K u j) H → va_at D vwCl (u j, WE K ad' S n m (15 + j)) H := by
  intro j hj h
  have e1 := a3 1 (by decide)
  have e2 := a3 2 (by decide)
  have e3 := a3 3 (by decide)
  rcases (show j = 0 ∨ j = 1 ∨ j = 2 ∨ j = 3 by omega) with rfl | rfl | rfl | rfl
  · show va_at D vwCl (u 0, EC K ad' S 15) H
    rw [EC_H, hz3]
    rw [show ad' 16 = u 1 from e1, show ad' 17 = u 2 from e2, show ad' 18 = u 3 from e3]
    exact h
  · show va_at D vwCl (u 1, .inl (K 0, 7, .inl (S.1 16))) H
    rw [hz]
    exact h
  · show va_at D vwCl (u 2, .inl (K 0, 7, .inl (S.1 17))) H
    rw [hz1]
    exact h
  · show va_at D vwCl (u 3, .inl (K 0, 7, .inl (S.1 18))) H
    rw [hz2]
    exact h
def glS (i j : Nat) : Nat := if j = 0 then 22 + i else if j = 1 then 26 + i else if j % 2 = 0 then 30 + (41 * i + (j - 2) / 2) else 195 + (41 * i + (j - 3) / 2)
def ivS (i g : Nat) : Nat := if g = 22 + i then 0 else if g = 26 + i then 1 else if g < 195 then 2 + 2 * (g - (30 + 41 * i)) else 3 + 2 * (g - (195 + 41 * i))
theorem iv_S : ∀ i, i < 4 → ∀ j, j < 84 → ivS i (glS i j) = j := by decide +kernel
theorem EC_J {K : Nat → ClassId} {ad : Nat → Nat} {S : Mem} {q : Nat} (h : q < 165) : EC K ad S (195 + q) = .inl (K 0, 7, .inl (S.1 (195 + q))) := (IC_jar K ad h).2 S
theorem st_we {D : va_G} {K : Nat → ClassId} {ad' u : Nat → Nat} {S : Mem} {n m i : Nat} {H : Heap} (hi : i < 4) (hz : gi S (22 + i) 1 = 0) (hm : ∀ q, q < 165 → S.1 (30 + q) = fun _ => 0) (hj : ∀ q, q < 165 → S.1 (195 + q) = fun _ => 0) (a3 : ∀ j, j < 84 → ad' (glS i j) = u j) : ∀ j, j < 84 → va_at D vwCl (u j, ESt K u j) H → va_at D vwCl (u j, WE K ad' S n m (glS i j)) H := by
  intro j h84 h
  unfold ESt at h
  unfold WE glS
  by_cases c0 : j = 0
  · subst c0
    rw [if_pos rfl] at h
    have e := a3 1 (by decide)
    rw [if_pos rfl, if_neg (by omega), if_neg (by omega), EC_S K ad' S hi, hz, show ad' (26 + i) = u 1 from e]
    exact h
  rw [if_neg c0] at h
  rw [if_neg c0]
  by_cases c1 : j = 1
  · subst c1
    rw [if_pos rfl] at h
    rw [if_pos rfl, if_neg (by omega), if_neg (by omega), EC_MA K ad' S hi]
    refine at_q h (fun z hz' => ?_)
    have e := a3 (2 + 2 * z) (by omega)
    have eg : glS i (2 + 2 * z) = 30 + (41 * i + z) := by
      unfold glS
      rw [if_neg (by omega), if_neg (by omega), if_pos (by omega), show (2 + 2 * z - 2) / 2 = z by omega]
    rw [eg] at e
    show some (u (2 + 2 * z)) = some (ad' (30 + (41 * i + z)))
    rw [e]
  rw [if_neg c1] at h
  rw [if_neg c1]
  by_cases c2 : j % 2 = 0
  · rw [if_pos c2] at h
    have hq : 41 * i + (j - 2) / 2 < 165 := by omega
    have e := a3 (j + 1) (by omega)
    have eg : glS i (j + 1) = 195 + (41 * i + (j - 2) / 2) := by
      unfold glS
      rw [if_neg (by omega), if_neg (by omega), if_neg (by omega), show (j + 1 - 3) / 2 = (j - 2) / 2 by omega]
    rw [eg] at e
    have z1 : gi S (30 + (41 * i + (j - 2) / 2)) 1 = 0 := congrFun (hm _ hq) 1
    have z2 : gi S (30 + (41 * i + (j - 2) / 2)) 2 = 0 := congrFun (hm _ hq) 2
    rw [if_pos c2, if_neg (by omega), if_neg (by omega), EC_M K ad' S hq, e, z1, z2]
    exact h
  · rw [if_neg c2] at h
    have hq : 41 * i + (j - 3) / 2 < 165 := by omega
    rw [if_neg c2, if_neg (by omega), if_neg (by omega), EC_J hq, hj _ hq]
    exact h
theorem mo_we {D : va_G} {K : Nat → ClassId} {ad' u : Nat → Nat} {S : Mem} {n m : Nat} {H : Heap} (hm : S.1 194 = fun _ => 0) (hj : S.1 359 = fun _ => 0) (a3 : ∀ j, j < 2 → ad' (194 + 165 * j) = u j) : ∀ j, j < 2 → va_at D vwCl (u j, EMo K u j) H → va_at D vwCl (u j, WE K ad' S n m (194 + 165 * j)) H := by
  intro j h2 h
  rcases (show j = 0 ∨ j = 1 by omega) with rfl | rfl
  · have e := a3 1 (by decide)
    have z1 : gi S 194 1 = 0 := congrFun hm 1
    have z2 : gi S 194 2 = 0 := congrFun hm 2
    show va_at D vwCl (u 0, EC K ad' S (30 + 164)) H
    rw [EC_M K ad' S (by decide)]
    rw [show ad' (195 + 164) = u 1 from e]
    rw [show gi S (30 + 164) 1 = 0 from z1, show gi S (30 + 164) 2 = 0 from z2]
    exact h
  · show va_at D vwCl (u 1, .inl (K 0, 7, .inl (S.1 359))) H
    rw [hj]
    exact h
