/-! CONSTRUCTORS: a story -/
def ESt (K : Nat → ClassId) (u : Nat → Nat) (k : Nat) : va_E :=
  if k = 0 then .inr (2, [.ref (u 1), .int 0])
  else if k = 1 then .inl (K 2, 41, va_q (fun j => 2 + 2 * j) u)
  else if k % 2 = 0 then .inr (1, [.ref (u (k + 1)), .int 0, .int 0])
  else .inl (K 0, 7, .inl (fun _ => 0))
/-- of an array of references only the places that it has are looked at -/
theorem at_q {D : va_G} {a n : Nat} {c : ClassId} {f g : Nat → Option Nat} {H : Heap} (h : va_at D vwCl (a, .inl (c, n, .inr (.inr (.inr (.inr f))))) H) (e : ∀ j, j < n → f j = g j) : va_at D vwCl (a, .inl (c, n, .inr (.inr (.inr (.inr g))))) H := by
  have h1 : H[a]? = some (vp_cell c (n, .inr (.inr (.inr (.inr f))))) := h
  show H[a]? = some (vp_cell c (n, .inr (.inr (.inr (.inr g)))))
  rw [h1, vp_cell_q, vp_cell_q]
  unfold arrV
  have e2 : (fun j : Fin n => va_rf (f j.val)) = fun j : Fin n => va_rf (g j.val) := funext fun j => by rw [e j.val j.isLt]
  rw [e2]
abbrev rmSt : Room := { frames := 2, cells := 83, slots := 451, locals := 32 }
abbrev QF (D : va_G) (below : List Frame) (args : Array Value) (s : State) (h0 M : Nat) (EF : (Nat → Nat) → Nat → va_E) (mc ms : Nat) : State → Prop := MQ below (va_Qv (fun u : Nat → Nat => u 0 = h0 ∧ ∀ k, 0 < k → k < M → s.heap.size ≤ u k) (fun u t => GI D (List.range M) u (EF u) (fun _ => True) t.heap) (AF h0 s.heap.size)) args s mc ms (AF h0 s.heap.size)
def StI (K : Nat → ClassId) (h0 k : Nat) (ad : Nat → Nat) (E : Nat → va_E) : Prop := ad 0 = h0 ∧ E 0 = .inr (2, [.ref (ad 1), .int 0]) ∧ (∃ f, E 1 = .inl (K 2, 41, .inr (.inr (.inr (.inr f)))) ∧ ∀ j, j < k → f j = some (ad (2 + 2 * j))) ∧ ∀ j, j < k → E (2 + 2 * j) = .inr (1, [.ref (ad (3 + 2 * j)), .int 0, .int 0]) ∧ E (3 + 2 * j) = .inl (K 0, 7, .inl (fun _ => 0))
set_option maxHeartbeats 4000000 in
set_option maxRecDepth 100000 in
theorem w_story {p : Program} {l : Launch} {e : Env} {s : State} {m : MethodId} {args : Array Value} {below : List Frame} {meth : Method} {c : Code} {D : va_G} {K : Nat → ClassId} {h0 : Nat} (C0 : Cx p s m args meth c RX2 wsX2_init cX2_init 2 none (KN D K)) : ∀ (n k cells slots : Nat) (ad : Nat → Nat) (E : Nat → va_E) (H : Heap) (locs : List Loc) (ls : Array Slot), 41 - k < n → k ≤ 41 → cells = 1 + 2 * k → slots = 41 + 10 * k → GI D (List.range (2 + 2 * k)) ad E (AF h0 s.heap.size) H → va_S (AF h0 s.heap.size) s.heap H locs → StI K h0 k ad E → lv_has ls 2 [(0, .ref h0), (1, .int (nI k))] → W p l e rmSt s m args below meth c H locs cells slots (QF D below args s h0 84 (ESt K) 83 451) (F0 m 15 ls []) := by
  have hx := C0.1
  have hb := C0.2.1
  have hts := C0.2.2.2.2.1
  have hown := C0.2.2.2.1
  have hKN := C0.2.2.2.2.2.2.2
  have hK := hKN.1
  have hA : ∀ q, s.heap.size ≤ q → AF h0 s.heap.size q := fun q h => Or.inr h
  have hin2 : ∀ w ∈ wsX20, w ∈ wsX2_init := fun _ h => List.mem_cons_of_mem _ (List.mem_append_left _ (List.mem_append_right _ h))
  have hin1 : ∀ w ∈ wsX10, w ∈ wsX2_init := fun _ h => List.mem_cons_of_mem _ (List.mem_append_right _ h)
  intro n
  induction n with
  | zero =>
    intro k cells slots ad E H locs ls h1
    omega
  | succ n ih =>
    intro k cells slots ad E H locs ls h1 h2 hc1 hc2 g hS I hl
    obtain ⟨i0, i1, ⟨f, i2, i3⟩, i4⟩ := I
    refine lv_iload_n hx hb dX2_init_15 rfl (lv_at hl 1 rfl) ?_
    refine lv_bipush (v := 40) hx hb dX2_init_16 (by decide) ?_
    refine lv_icmp_gt (tgt := 40) hx hb dX2_init_18 (by decide) (fun c1 => ?_) (fun c1 => ?_)
    · rw [n_40, n_lt (by decide) (by omega)] at c1
      have ek : k = 41 := by omega
      subst ek
      subst hc1
      subst hc2
      refine g_ret C0 g hS i0 (by decide) (fun j hj => List.mem_range.mpr hj) (fun j hj h => ?_) dX2_init_40
      unfold ESt
      by_cases c0 : j = 0
      · subst c0
        rw [i1] at h
        exact h
      · rw [if_neg c0]
        by_cases c1 : j = 1
        · subst c1
          rw [i2] at h
          exact at_q h i3
        · rw [if_neg c1]
          by_cases c2 : j % 2 = 0
          · obtain ⟨z, rfl⟩ : ∃ z, j = 2 + 2 * z := ⟨(j - 2) / 2, by omega⟩
            rw [(i4 z (by omega)).1, show 3 + 2 * z = 2 + 2 * z + 1 by omega] at h
            rw [if_pos c2]
            exact h
          · obtain ⟨z, rfl⟩ : ∃ z, j = 3 + 2 * z := ⟨(j - 3) / 2, by omega⟩
            rw [(i4 z (by omega)).2] at h
            rw [if_neg c2]
            exact h
    · rw [n_40, n_lt (by decide) (by omega)] at c1
      refine lv_aload_n hx hb dX2_init_21 rfl (lv_at hl 0 rfl) ?_
      refine g_get C0 hK g 0 (List.mem_range.mpr (by omega)) i0 i1 (C := RX2) (T := TX2) (NN := 2) rfl hin2 0 (by decide) (by decide +kernel) rfl dX2_init_22 ?_
      refine lv_iload_n hx hb dX2_init_25 rfl (lv_at hl 1 rfl) ?_
      refine g_new C0 hK g hS hA (2 + 2 * k) (by rw [List.mem_range]; omega) (C := RX1) (T := TX1) (NN := 3) hin1 tyX1 tyX1_ok (by decide +kernel) (by decide +kernel) (by decide +kernel) (ci := 1) rfl [.null, .int 0, .int 0] (fun j hj => by rcases (show j = 0 ∨ j = 1 ∨ j = 2 by omega) with rfl | rfl | rfl <;> rfl) (by show cells + 1 ≤ 83; omega) (by show slots + 3 ≤ 451; omega) dX2_init_26 (fun q H g hS => ?_)
      refine lv_dup hx hb dX2_init_29 rfl ?_
      refine g_initN C0 g hS hA (2 + 2 * k) (List.mem_append_right _ List.mem_cons_self) (st_same _ _ _) (st_same _ _ _) (by decide) (i_moment l D K q H.size) gX2_init_X1_init_n17 rfl ⟨rfl, rfl⟩ (by decide +kernel) hKN.2.1.2.2.2.2.1 (by decide +kernel) rfl (by decide +kernel) ⟨Nat.le_of_ble_eq_true rfl, Nat.le_of_ble_eq_true rfl⟩ (fun j => 2 + 2 * k + j) (fun i => i - (2 + 2 * k)) rfl (fun j _ => by show 2 + 2 * k + j - (2 + 2 * k) = j; omega) (fun j j1 j2 h => ?_) hl.1 rfl (Nat.le_of_ble_eq_true rfl) dX2_init_30 ⟨by show cells + 1 + 1 ≤ 83; omega, by show slots + 3 + 7 ≤ 451; omega⟩ (fun ad' E' u H locs g a1 a2 a3 hS => ?_)
      · rcases List.mem_append.mp h with h | h
        · rw [List.mem_range] at h
          omega
        · rw [List.mem_singleton] at h
          omega
      · have m1 : ∀ i, i < 2 + 2 * k → i ∈ List.range (2 + 2 * k) ++ [2 + 2 * k] := fun i hi => List.mem_append_left _ (List.mem_range.mpr hi)
        have m2 : 2 + 2 * k ∈ List.range (2 + 2 * k) ++ [2 + 2 * k] := List.mem_append_right _ List.mem_cons_self
        have e1 : ∀ i, i < 2 + 2 * k → ad' i = ad i := fun i hi => by
          rw [a1 i (m1 i hi), st_else _ _ (by omega)]
        have e2 : ∀ i, i < 2 + 2 * k → E' i = E i := fun i hi => by
          rw [a2 i (m1 i hi) (by omega), st_else _ _ (by omega)]
        have e3 : ad' (2 + 2 * k) = q := by
          rw [a1 _ m2, st_same]
        have b0 := a3 0 (by decide)
        have b1 := a3 1 (by decide)
        have e4 : E' (2 + 2 * k) = .inr (1, [.ref (ad' (3 + 2 * k)), .int 0, .int 0]) := by
          have := b0.2
          rw [show 3 + 2 * k = 2 + 2 * k + 1 by omega, b1.1]
          exact this
        have e5 : E' (3 + 2 * k) = .inl (K 0, 7, .inl (fun _ => 0)) := by
          have := b1.2
          rw [show 3 + 2 * k = 2 + 2 * k + 1 by omega]
          exact this
        have g := g.perm (ids' := List.range (2 + 2 * (k + 1))) List.nodup_range (fun i hi => by
          rw [List.mem_range] at hi
          by_cases c1 : i < 2 + 2 * k
          · exact List.mem_append_left _ (m1 i c1)
          · by_cases c2 : i = 2 + 2 * k
            · subst c2
              exact List.mem_append_left _ m2
            · refine List.mem_append_right _ (List.mem_map.mpr ⟨0, by decide, ?_⟩)
              show 2 + 2 * k + (0 + 1) = i
              omega)
        have hin : inb (nI k) 41 = true := inb_nI (by omega) (by decide)
        refine g_ast C0 hK g hS 1 (2 + 2 * k) (List.mem_range.mpr (by omega)) (List.mem_range.mpr (by omega)) (e1 1 (by omega)) e3 2 ((e2 1 (by omega)).trans i2) (r := (RX1, TX1, 3)) rfl e4 rfl hin dX2_init_33 (fun H locs g hS => ?_)
        refine lv_iinc (v := nI (k + 1)) (lv' := [(1, .int (nI (k + 1))), (0, .ref h0)]) hx hb dX2_init_34 hl (k := 1) rfl (by rw [← nI_1]; rfl) (by decide) rfl (fun ls hl => ?_)
        refine lv_goto (tgt := 15) hx hb dX2_init_37 (by decide) ?_
        refine ih (k + 1) _ _ ad' _ H locs ls (by omega) (by omega) (by show cells + 1 + 1 = _; omega) (by show slots + 3 + 7 = _; omega) g hS ⟨(e1 0 (by omega)).trans i0, ?_, ?_, fun j hj => ?_⟩ (lv_sub hl [1, 0] rfl)
        · rw [st_else _ _ (by decide), e2 0 (by omega), i1, e1 1 (by omega)]
        · refine ⟨va_up f (nI k).toNatClampNeg (some q), st_same _ _ _, fun j hj => ?_⟩
          rw [nI_clamp (by omega)]
          unfold va_up
          by_cases c : j = k
          · subst c
            rw [if_pos rfl, e3]
          · rw [if_neg c, i3 j (by omega), e1 _ (by omega)]
        · rw [st_else _ _ (by omega), st_else _ _ (by omega)]
          by_cases c : j = k
          · subst c
            exact ⟨e4, e5⟩
          · rw [e2 _ (by omega), e2 _ (by omega), e1 _ (by omega)]
            exact i4 j (by omega)
set_option maxHeartbeats 4000000 in
set_option maxRecDepth 100000 in
theorem i_story (l : Launch) (D : va_G) (K : Nat → ClassId) (h0 sz : Nat) : MkC l yX2_init wsX2_init rmSt D K h0 sz (.inr (2, [.null, .int 0])) 84 (ESt K) 83 451 := by
  refine met_of (own := RX2) (PP := fun Hp => Hp.size = sz ∧ va_at D vwCl (h0, .inr (2, [.null, .int 0])) Hp) (KK := KN D K) (by decide) rfl rfl (Nat.le_of_ble_eq_true rfl) (fun p e s m below meth c ls C0 hn hP hl => ?_)
  obtain ⟨rfl, hx0⟩ := hP
  have hn : meth.name = "<init>" := hn
  have hA : ∀ q, s.heap.size ≤ q → AF h0 s.heap.size q := fun q h => Or.inr h
  have g := gi_start hx0
  have hS : va_S (AF h0 s.heap.size) s.heap s.heap [] := va_S.rf
  have hx := C0.1
  have hb := C0.2.1
  have hts := C0.2.2.2.2.1
  have hown := C0.2.2.2.1
  have hKN := C0.2.2.2.2.2.2.2
  have hK := hKN.1
  have hin2 : ∀ w ∈ wsX20, w ∈ wsX2_init := fun _ h => List.mem_cons_of_mem _ (List.mem_append_left _ (List.mem_append_right _ h))
  refine lv_aload_n hx hb dX2_init_0 rfl (lv_at hl 0 rfl) ?_
  refine W.objInit hx hb hown (hts (.methodLink RX2 3 objectInit) (by decide +kernel)) (hts (.instanceMethod objectInit) (by decide +kernel)) (hts _ (List.mem_cons_of_mem _ (List.mem_of_getElem? (i := 2) rfl))) rfl (by rw [C0.2.2.1]; exact hl.1) rfl dX2_init_1 (Nat.le_of_ble_eq_true rfl) (Nat.le_of_ble_eq_true rfl) ?_
  refine W.eq (g2 := F0 m 4 ls []) rfl ?_
  refine lv_aload_n hx hb dX2_init_4 rfl (lv_at hl 0 rfl) ?_
  refine lv_bipush (v := 41) hx hb dX2_init_5 (by decide) ?_
  refine g_newq C0 hK g hS hA 1 (by decide) (C := "LuckJars$Moment") (by decide +kernel) hKN.2.2.1 2 rfl (N' := 41) (by decide) rfl (Nat.le_of_ble_eq_true rfl) (Nat.le_of_ble_eq_true rfl) (Nat.le_of_ble_eq_true rfl) dX2_init_7 (fun q H g hS => ?_)
  refine g_putF C0 hK g hS 0 (by decide) rfl rfl (C := RX2) (T := TX2) (NN := 2) rfl tyX2 tyX2_ok nmX2 hin2 hn 0 (by decide) (by decide +kernel) rfl rfl (ty := .array (.object "LuckJars$Moment")) (by decide +kernel) rfl rfl (Nat.le_of_ble_eq_true rfl) dX2_init_10 (fun H locs g hS => ?_)
  refine lv_iconst (v := 0) hx hb dX2_init_13 (by decide) ?_
  refine lv_istore_n (lv' := [(1, .int 0), (0, .ref h0)]) hx hb dX2_init_14 rfl hl (by decide) rfl (fun ls hl => ?_)
  exact w_story C0 42 0 _ _ _ _ H locs ls (by decide) (by decide) rfl rfl g hS ⟨rfl, rfl, ⟨fun _ => none, rfl, fun j hj => absurd hj (Nat.not_lt_zero j)⟩, fun j hj => absurd hj (Nat.not_lt_zero j)⟩ (lv_sub hl [1, 0] rfl)
