theorem in_X4_notes_X4 : ∀ w ∈ wsX40, w ∈ wsX4_notes := fun _ h => List.mem_cons_of_mem _ (List.mem_append_right _ h)
theorem hd_X4_notes : yX4_notes.cls = RX4 ∧ yX4_notes.cls ≠ "java/lang/invoke/MethodHandle" ∧ yX4_notes.cls ≠ "java/lang/invoke/VarHandle" ∧ (parseMethodDescriptor yX4_notes.desc).map (fun d => d.parameters.length) = some 0 := by decide +kernel
abbrev rm4_notes : Room := { frames := 0, cells := 0, slots := 0, locals := 0 }
set_option maxHeartbeats 4000000 in
set_option maxRecDepth 100000 in
theorem w4_notes_b2 {p : Program} {l : Launch} {e : Env} {s : State} {m : MethodId} {args : Array Value} {below : List Frame} {meth : Method} {c : Code} {D : va_G} {K : Nat → ClassId} {ad : Nat → Nat} (hI : INJ NM ad) (C0 : Cx p s m args meth c RX4 wsX4_notes cX4_notes 2 none (KM D K)) {T : Mem} : ∀ (n : Nat), ∀ (S : Mem) (x1 : Int32), f4_notes_b2 n S x1 = some T → ∀ (H : Heap) (locs : List Loc) (ls : Array Slot), va_P D vwCl (wl NM ad (EM K ad S)) H → va_S (IW NM ad) s.heap H locs → lv_has ls 2 [(0, .ref (ad 0)), (1, .int x1)] → W p l e rm4_notes s m args below meth c H locs 0 0 (MQ below (va_Qv (fun (u : Mem) => u = T) (fun u t => va_P D vwCl (wl NM ad (EM K ad u)) t.heap) (IW NM ad)) args s 0 0 (IW NM ad)) (F0 m 2 ls []) := by
  have hx := C0.1
  have hb := C0.2.1
  have hts := C0.2.2.2.2.1
  have hown := C0.2.2.2.1
  have hKC := C0.2.2.2.2.2.2.2
  intro n
  induction n with
  | zero =>
    intro S x1 hf
    rw [f4_notes_b2] at hf
    cases hf
  | succ n ih =>
    intro S x1 hf H locs ls hP hS hl
    rw [f4_notes_b2] at hf
    refine lv_iload_n hx hb dX4_notes_2 rfl (lv_at hl 1 rfl) ?_
    refine lv_bipush (v := 9) hx hb dX4_notes_3 (by decide) ?_
    refine lv_icmp_ge (tgt := 34) hx hb dX4_notes_5 (by decide) (fun c1 => ?_) (fun c1 => ?_)
    · have hf := ite_t hf c1
      refine lv_aload_n hx hb dX4_notes_34 rfl (lv_at hl 0 rfl) ?_
      refine lv_dup hx hb dX4_notes_35 rfl ?_
      refine x_get C0 hKC hP (by decide) (EM_0 K ad S) rfl in_X4_notes_X4 18 (by decide) (List.mem_of_getElem? (i := 2) rfl) rfl dX4_notes_36 ?_
      refine lv_iconst (v := 1) hx hb dX4_notes_39 (by decide) ?_
      refine lv_iadd hx hb dX4_notes_40 ?_
      refine x_puti C0 hKC hI (EM_loc K ad) hP hS (by decide) (EM_0 K ad S) rfl tyX4 tyX4_ok nmX4 in_X4_notes_X4 18 (by decide) (List.mem_of_getElem? (i := 2) rfl) rfl (tyX4_ok 18 (by decide)) (Nat.le_of_ble_eq_true rfl) (EM_p18 K ad S _) dX4_notes_41 (fun S2 eS2 H locs hP hS => ?_)
      have hf := nm_at eS2 hf
      exact ret_v C0 hP hS (Option.some.inj hf) dX4_notes_44
    · have hf := ite_f hf c1
      refine lv_aload_n hx hb dX4_notes_8 rfl (lv_at hl 0 rfl) ?_
      refine x_get C0 hKC hP (by decide) (EM_0 K ad S) rfl in_X4_notes_X4 17 (by decide) (List.mem_of_getElem? (i := 1) rfl) rfl dX4_notes_9 ?_
      refine lv_bipush (v := 9) hx hb dX4_notes_12 (by decide) ?_
      refine lv_aload_n hx hb dX4_notes_14 rfl (lv_at hl 0 rfl) ?_
      refine x_get C0 hKC hP (by decide) (EM_0 K ad S) rfl in_X4_notes_X4 18 (by decide) (List.mem_of_getElem? (i := 2) rfl) rfl dX4_notes_15 ?_
      refine lv_imul hx hb dX4_notes_18 ?_
      refine lv_iload_n hx hb dX4_notes_19 rfl (lv_at hl 1 rfl) ?_
      refine lv_iadd hx hb dX4_notes_20 ?_
      refine lv_aload_n hx hb dX4_notes_21 rfl (lv_at hl 0 rfl) ?_
      refine x_get C0 hKC hP (by decide) (EM_0 K ad S) rfl in_X4_notes_X4 16 (by decide) (List.mem_of_getElem? (i := 3) rfl) rfl dX4_notes_22 ?_
      refine lv_iload_n hx hb dX4_notes_25 rfl (lv_at hl 1 rfl) ?_
      obtain ⟨g3, hf⟩ := gd_some hf
      refine x_iald C0 hKC hP (IM_11 K ad) (t0 := 0) rfl g3 dX4_notes_26 ?_
      obtain ⟨g4, hf⟩ := gd_some hf
      refine x_iast C0 hKC hI (EM_loc K ad) hP hS (IM_12 K ad) (t0 := 0) rfl g4 dX4_notes_27 (fun S5 eS5 H locs hP hS => ?_)
      have hf := nm_at eS5 hf
      obtain ⟨v6, ev6⟩ : ∃ y : Int32, y = x1 + 1 := ⟨_, rfl⟩
      have hf := nm_at ev6 hf
      refine lv_iinc (v := v6) (lv' := [(1, .int v6), (0, .ref (ad 0))]) hx hb dX4_notes_28 hl (k := 1) rfl (by rw [ev6]; rfl) (by decide) rfl (fun ls hl => ?_)
      refine lv_goto (tgt := 2) hx hb dX4_notes_31 (by decide) ?_
      exact ih S5 v6 hf H locs ls hP hS (lv_sub hl [1, 0] rfl)
set_option maxHeartbeats 4000000 in
set_option maxRecDepth 100000 in
theorem w4_notes {p : Program} {l : Launch} {e : Env} {s : State} {m : MethodId} {args : Array Value} {below : List Frame} {meth : Method} {c : Code} {D : va_G} {K : Nat → ClassId} {ad : Nat → Nat} (hI : INJ NM ad) (C0 : Cx p s m args meth c RX4 wsX4_notes cX4_notes 2 none (KM D K)) {T : Mem} : ∀ (S : Mem), f4_notes S = some T → ∀ (H : Heap) (locs : List Loc) (ls : Array Slot), va_P D vwCl (wl NM ad (EM K ad S)) H → va_S (IW NM ad) s.heap H locs → lv_has ls 2 [(0, .ref (ad 0))] → W p l e rm4_notes s m args below meth c H locs 0 0 (MQ below (va_Qv (fun (u : Mem) => u = T) (fun u t => va_P D vwCl (wl NM ad (EM K ad u)) t.heap) (IW NM ad)) args s 0 0 (IW NM ad)) (F0 m 0 ls []) := by
  have hx := C0.1
  have hb := C0.2.1
  have hts := C0.2.2.2.2.1
  have hown := C0.2.2.2.1
  have hKC := C0.2.2.2.2.2.2.2
  intro S hf H locs ls hP hS hl
  rw [f4_notes] at hf
  refine lv_iconst (v := 0) hx hb dX4_notes_0 (by decide) ?_
  refine lv_istore_n (lv' := [(1, .int 0), (0, .ref (ad 0))]) hx hb dX4_notes_1 rfl hl (by decide) rfl (fun ls hl => ?_)
  exact w4_notes_b2 hI C0 FU S 0 hf H locs ls hP hS (lv_sub hl [1, 0] rfl)
theorem m4_notes (l : Launch) (D : va_G) (K : Nat → ClassId) (ad : Nat → Nat) (hI : INJ NM ad) (S : Mem) {T : Mem} (hf : f4_notes S = some T) : SysV l yX4_notes wsX4_notes rm4_notes D NM ad (EM K ad) (KM D K) [.ref (ad 0)] S T :=
  met_of (own := RX4) (by decide) rfl rfl (Nat.le_of_ble_eq_true rfl) (fun _ _ s _ _ _ _ ls C0 _ hP hl => w4_notes hI C0 S hf s.heap [] ls hP va_S.rf hl)
theorem in_X4_goesBy_X4 : ∀ w ∈ wsX40, w ∈ wsX4_goesBy := fun _ h => List.mem_cons_of_mem _ (List.mem_append_right _ h)
theorem hd_X4_goesBy : yX4_goesBy.cls = RX4 ∧ yX4_goesBy.cls ≠ "java/lang/invoke/MethodHandle" ∧ yX4_goesBy.cls ≠ "java/lang/invoke/VarHandle" ∧ (parseMethodDescriptor yX4_goesBy.desc).map (fun d => d.parameters.length) = some 0 := by decide +kernel
abbrev rm4_goesBy : Room := { frames := 1, cells := 0, slots := 0, locals := 21 }
set_option maxHeartbeats 4000000 in
set_option maxRecDepth 100000 in
theorem w4_goesBy_b42 {p : Program} {l : Launch} {e : Env} {s : State} {m : MethodId} {args : Array Value} {below : List Frame} {meth : Method} {c : Code} {D : va_G} {K : Nat → ClassId} {ad : Nat → Nat} (hI : INJ NM ad) (C0 : Cx p s m args meth c RX4 wsX4_goesBy cX4_goesBy 3 none (KM D K)) {T : Mem} (k2 : Mem → Int32 → Option Mem) (hk2 : ∀ (S : Mem) (x1 : Int32), k2 S x1 = some T → ∀ (H : Heap) (locs : List Loc) (ls : Array Slot), va_P D vwCl (wl NM ad (EM K ad S)) H → va_S (IW NM ad) s.heap H locs → lv_has ls 3 [(0, .ref (ad 0)), (1, .int x1)] → W p l e rm4_goesBy s m args below meth c H locs 0 0 (MQ below (va_Qv (fun (u : Mem) => u = T) (fun u t => va_P D vwCl (wl NM ad (EM K ad u)) t.heap) (IW NM ad)) args s 0 0 (IW NM ad)) (F0 m 2 ls [])) : ∀ (S : Mem) (x1 : Int32) (t0 : Nat) (t0n : Nat) (t1 : Int32) (t2 : Int32), IM K ad t0 t0n → f4_goesBy_b42 k2 S x1 t0 t0n t1 t2 = some T → ∀ (H : Heap) (locs : List Loc) (ls : Array Slot), va_P D vwCl (wl NM ad (EM K ad S)) H → va_S (IW NM ad) s.heap H locs → lv_has ls 3 [(0, .ref (ad 0)), (1, .int x1)] → W p l e rm4_goesBy s m args below meth c H locs 0 0 (MQ below (va_Qv (fun (u : Mem) => u = T) (fun u t => va_P D vwCl (wl NM ad (EM K ad u)) t.heap) (IW NM ad)) args s 0 0 (IW NM ad)) (F0 m 42 ls [.int t2, .int t1, .ref (ad t0)]) := by
  have hx := C0.1
  have hb := C0.2.1
  have hts := C0.2.2.2.2.1
  have hown := C0.2.2.2.1
  have hKC := C0.2.2.2.2.2.2.2
  intro S x1 t0 t0n t1 t2 ht0 hf H locs ls hP hS hl
  rw [f4_goesBy_b42] at hf
  obtain ⟨g1, hf⟩ := gd_some hf
  refine x_iast C0 hKC hI (EM_loc K ad) hP hS ht0 (t0 := 0) rfl g1 dX4_goesBy_42 (fun S2 eS2 H locs hP hS => ?_)
  have hf := nm_at eS2 hf
  obtain ⟨v3, ev3⟩ : ∃ y : Int32, y = x1 + 1 := ⟨_, rfl⟩
  have hf := nm_at ev3 hf
  refine lv_iinc (v := v3) (lv' := [(1, .int v3), (0, .ref (ad 0))]) hx hb dX4_goesBy_43 hl (k := 1) rfl (by rw [ev3]; rfl) (by decide) rfl (fun ls hl => ?_)
  refine lv_goto (tgt := 2) hx hb dX4_goesBy_46 (by decide) ?_
  exact hk2 S2 v3 hf H locs ls hP hS (lv_sub hl [1, 0] rfl)
set_option maxHeartbeats 4000000 in
set_option maxRecDepth 100000 in
theorem w4_goesBy_b2 {p : Program} {l : Launch} {e : Env} {s : State} {m : MethodId} {args : Array Value} {below : List Frame} {meth : Method} {c : Code} {D : va_G} {K : Nat → ClassId} {ad : Nat → Nat} (hI : INJ NM ad) (C0 : Cx p s m args meth c RX4 wsX4_goesBy cX4_goesBy 3 none (KM D K)) {T : Mem} : ∀ (n : Nat), ∀ (S : Mem) (x1 : Int32), f4_goesBy_b2 n S x1 = some T → ∀ (H : Heap) (locs : List Loc) (ls : Array Slot), va_P D vwCl (wl NM ad (EM K ad S)) H → va_S (IW NM ad) s.heap H locs → lv_has ls 3 [(0, .ref (ad 0)), (1, .int x1)] → W p l e rm4_goesBy s m args below meth c H locs 0 0 (MQ below (va_Qv (fun (u : Mem) => u = T) (fun u t => va_P D vwCl (wl NM ad (EM K ad u)) t.heap) (IW NM ad)) args s 0 0 (IW NM ad)) (F0 m 2 ls []) := by
  have hx := C0.1
  have hb := C0.2.1
  have hts := C0.2.2.2.2.1
  have hown := C0.2.2.2.1
  have hKC := C0.2.2.2.2.2.2.2
  intro n
  induction n with
  | zero =>
    intro S x1 hf
    rw [f4_goesBy_b2] at hf
    cases hf
  | succ n ih =>
    intro S x1 hf H locs ls hP hS hl
    rw [f4_goesBy_b2] at hf
    refine lv_iload_n hx hb dX4_goesBy_2 rfl (lv_at hl 1 rfl) ?_
    refine lv_aload_n hx hb dX4_goesBy_3 rfl (lv_at hl 0 rfl) ?_
    refine x_get C0 hKC hP (by decide) (EM_0 K ad S) rfl in_X4_goesBy_X4 12 (by decide) (List.mem_of_getElem? (i := 1) rfl) rfl dX4_goesBy_4 ?_
    refine lv_icmp_ge (tgt := 49) hx hb dX4_goesBy_7 (by decide) (fun c1 => ?_) (fun c1 => ?_)
    · have hf := ite_t hf c1
      refine lv_aload_n hx hb dX4_goesBy_49 rfl (lv_at hl 0 rfl) ?_
      refine x_get C0 hKC hP (by decide) (EM_0 K ad S) rfl in_X4_goesBy_X4 16 (by decide) (List.mem_of_getElem? (i := 3) rfl) rfl dX4_goesBy_50 ?_
      refine lv_iconst (v := 0) hx hb dX4_goesBy_53 (by decide) ?_
      refine lv_dup2_11 hx hb dX4_goesBy_54 rfl rfl ?_
      obtain ⟨g2, hf⟩ := gd_some hf
      refine x_iald C0 hKC hP (IM_11 K ad) (t0 := 0) rfl g2 dX4_goesBy_55 ?_
      refine lv_iconst (v := 1) hx hb dX4_goesBy_56 (by decide) ?_
      refine lv_iadd hx hb dX4_goesBy_57 ?_
      obtain ⟨g3, hf⟩ := gd_some hf
      refine x_iast C0 hKC hI (EM_loc K ad) hP hS (IM_11 K ad) (t0 := 0) rfl g3 dX4_goesBy_58 (fun S4 eS4 H locs hP hS => ?_)
      have hf := nm_at eS4 hf
      exact ret_v C0 hP hS (Option.some.inj hf) dX4_goesBy_59
    · have hf := ite_f hf c1
      refine lv_aload_n hx hb dX4_goesBy_10 rfl (lv_at hl 0 rfl) ?_
      refine lv_iload_n hx hb dX4_goesBy_11 rfl (lv_at hl 1 rfl) ?_
      obtain ⟨v6, h5, hf⟩ := b1_some hf
      refine sys_i hS (sys_runV (As := [.int x1]) (rest := []) C0 KM_ok hKC hP hS (by decide) (EM_0 K ad S) rfl (m4_jar l D K ad hI S x1 h5) gX4_goesBy_X4_jar rfl ⟨rfl, rfl⟩ hd_X4_jar ⟨Nat.le_of_ble_eq_true rfl, Nat.le_of_ble_eq_true rfl⟩ hl.1 rfl (Nat.le_of_ble_eq_true rfl) dX4_goesBy_12 ⟨Nat.le_refl _, Nat.le_refl _⟩) (fun H locs hP hS => ?_)
      refine lv_aload_n hx hb dX4_goesBy_15 rfl (lv_at hl 0 rfl) ?_
      refine x_get C0 hKC hP (by decide) (EM_0 K ad S) rfl in_X4_goesBy_X4 14 (by decide) (List.mem_of_getElem? (i := 2) rfl) rfl dX4_goesBy_16 ?_
      refine lv_iload_n hx hb dX4_goesBy_19 rfl (lv_at hl 1 rfl) ?_
      obtain ⟨g7, hf⟩ := gd_some hf
      refine x_iald C0 hKC hP (IM_9 K ad) (t0 := 0) rfl g7 dX4_goesBy_20 ?_
      refine lv_iadd hx hb dX4_goesBy_21 ?_
      refine lv_topi (fun v8 ev8 => ?_)
      have hf := nm_at ev8 hf
      refine lv_istore_n (lv' := [(2, .int v8), (0, .ref (ad 0)), (1, .int x1)]) hx hb dX4_goesBy_22 rfl hl (by decide) rfl (fun ls hl => ?_)
      refine lv_aload_n hx hb dX4_goesBy_23 rfl (lv_at hl 1 rfl) ?_
      refine x_get C0 hKC hP (by decide) (EM_0 K ad S) rfl in_X4_goesBy_X4 16 (by decide) (List.mem_of_getElem? (i := 3) rfl) rfl dX4_goesBy_24 ?_
      refine lv_iconst (v := 2) hx hb dX4_goesBy_27 (by decide) ?_
      refine lv_iload_n hx hb dX4_goesBy_28 rfl (lv_at hl 2 rfl) ?_
      refine lv_iadd hx hb dX4_goesBy_29 ?_
      refine lv_iload_n hx hb dX4_goesBy_30 rfl (lv_at hl 0 rfl) ?_
      refine lv_bipush (v := 99) hx hb dX4_goesBy_31 (by decide) ?_
      refine lv_icmp_le (tgt := 41) hx hb dX4_goesBy_33 (by decide) (fun c9 => ?_) (fun c9 => ?_)
      · have hf := ite_t hf c9
        refine lv_iload_n hx hb dX4_goesBy_41 rfl (lv_at hl 0 rfl) ?_
        exact w4_goesBy_b42 hI C0 (f4_goesBy_b2 n) ih S x1 11 9 (2 + x1) v8 (IM_11 K ad) hf H locs ls hP hS (lv_sub hl [1, 2] rfl)
      · have hf := ite_f hf c9
        refine lv_bipush (v := 99) hx hb dX4_goesBy_36 (by decide) ?_
        refine lv_goto (tgt := 42) hx hb dX4_goesBy_38 (by decide) ?_
        exact w4_goesBy_b42 hI C0 (f4_goesBy_b2 n) ih S x1 11 9 (2 + x1) 99 (IM_11 K ad) hf H locs ls hP hS (lv_sub hl [1, 2] rfl)
set_option maxHeartbeats 4000000 in
set_option maxRecDepth 100000 in
theorem w4_goesBy {p : Program} {l : Launch} {e : Env} {s : State} {m : MethodId} {args : Array Value} {below : List Frame} {meth : Method} {c : Code} {D : va_G} {K : Nat → ClassId} {ad : Nat → Nat} (hI : INJ NM ad) (C0 : Cx p s m args meth c RX4 wsX4_goesBy cX4_goesBy 3 none (KM D K)) {T : Mem} : ∀ (S : Mem), f4_goesBy S = some T → ∀ (H : Heap) (locs : List Loc) (ls : Array Slot), va_P D vwCl (wl NM ad (EM K ad S)) H → va_S (IW NM ad) s.heap H locs → lv_has ls 3 [(0, .ref (ad 0))] → W p l e rm4_goesBy s m args below meth c H locs 0 0 (MQ below (va_Qv (fun (u : Mem) => u = T) (fun u t => va_P D vwCl (wl NM ad (EM K ad u)) t.heap) (IW NM ad)) args s 0 0 (IW NM ad)) (F0 m 0 ls []) := by
  have hx := C0.1
  have hb := C0.2.1
  have hts := C0.2.2.2.2.1
  have hown := C0.2.2.2.1
  have hKC := C0.2.2.2.2.2.2.2
  intro S hf H locs ls hP hS hl
  rw [f4_goesBy] at hf
  refine lv_iconst (v := 0) hx hb dX4_goesBy_0 (by decide) ?_
  refine lv_istore_n (lv' := [(1, .int 0), (0, .ref (ad 0))]) hx hb dX4_goesBy_1 rfl hl (by decide) rfl (fun ls hl => ?_)
  exact w4_goesBy_b2 hI C0 FU S 0 hf H locs ls hP hS (lv_sub hl [1, 0] rfl)
theorem m4_goesBy (l : Launch) (D : va_G) (K : Nat → ClassId) (ad : Nat → Nat) (hI : INJ NM ad) (S : Mem) {T : Mem} (hf : f4_goesBy S = some T) : SysV l yX4_goesBy wsX4_goesBy rm4_goesBy D NM ad (EM K ad) (KM D K) [.ref (ad 0)] S T :=
  met_of (own := RX4) (by decide) rfl rfl (Nat.le_of_ble_eq_true rfl) (fun _ _ s _ _ _ _ ls C0 _ hP hl => w4_goesBy hI C0 S hf s.heap [] ls hP va_S.rf hl)
theorem in_X4_springs_X4 : ∀ w ∈ wsX40, w ∈ wsX4_springs := fun _ h => List.mem_cons_of_mem _ (List.mem_append_right _ h)
theorem hd_X4_springs : yX4_springs.cls = RX4 ∧ yX4_springs.cls ≠ "java/lang/invoke/MethodHandle" ∧ yX4_springs.cls ≠ "java/lang/invoke/VarHandle" ∧ (parseMethodDescriptor yX4_springs.desc).map (fun d => d.parameters.length) = some 0 := by decide +kernel
abbrev rm4_springs : Room := { frames := 2, cells := 0, slots := 0, locals := 43 }
set_option maxHeartbeats 4000000 in
set_option maxRecDepth 100000 in
theorem w4_springs_b129 {p : Program} {l : Launch} {e : Env} {s : State} {m : MethodId} {args : Array Value} {below : List Frame} {meth : Method} {c : Code} {D : va_G} {K : Nat → ClassId} {ad : Nat → Nat} (hI : INJ NM ad) (C0 : Cx p s m args meth c RX4 wsX4_springs cX4_springs 5 (some .int) (KM D K)) {r : Int32} {T : Mem} (k66 : Mem → Int32 → Int32 → Option (Int32 × Mem)) (hk66 : ∀ (S : Mem) (x2 : Int32) (x3 : Int32), k66 S x2 x3 = some (r, T) → ∀ (H : Heap) (locs : List Loc) (ls : Array Slot), va_P D vwCl (wl NM ad (EM K ad S)) H → va_S (IW NM ad) s.heap H locs → lv_has ls 5 [(0, .ref (ad 0)), (2, .int x2), (3, .int x3)] → W p l e rm4_springs s m args below meth c H locs 0 0 (MQ below (va_Qi (fun (x : Int32) (u : Mem) => x = r ∧ u = T) (fun u t => va_P D vwCl (wl NM ad (EM K ad u)) t.heap) (IW NM ad)) args s 0 0 (IW NM ad)) (F0 m 66 ls [])) : ∀ (S : Mem) (x2 : Int32) (x3 : Int32) (t0 : Nat) (t0n : Nat) (t1 : Int32) (t2 : Int32), IM K ad t0 t0n → f4_springs_b129 k66 S x2 x3 t0 t0n t1 t2 = some (r, T) → ∀ (H : Heap) (locs : List Loc) (ls : Array Slot), va_P D vwCl (wl NM ad (EM K ad S)) H → va_S (IW NM ad) s.heap H locs → lv_has ls 5 [(0, .ref (ad 0)), (2, .int x2), (3, .int x3)] → W p l e rm4_springs s m args below meth c H locs 0 0 (MQ below (va_Qi (fun (x : Int32) (u : Mem) => x = r ∧ u = T) (fun u t => va_P D vwCl (wl NM ad (EM K ad u)) t.heap) (IW NM ad)) args s 0 0 (IW NM ad)) (F0 m 129 ls [.int t2, .int t1, .ref (ad t0)]) := by
  have hx := C0.1
  have hb := C0.2.1
  have hts := C0.2.2.2.2.1
  have hown := C0.2.2.2.1
  have hKC := C0.2.2.2.2.2.2.2
  intro S x2 x3 t0 t0n t1 t2 ht0 hf H locs ls hP hS hl
  rw [f4_springs_b129] at hf
  obtain ⟨g1, hf⟩ := gd_some hf
  refine x_iast C0 hKC hI (EM_loc K ad) hP hS ht0 (t0 := 0) rfl g1 dX4_springs_129 (fun S2 eS2 H locs hP hS => ?_)
  have hf := nm_at eS2 hf
  obtain ⟨v3, ev3⟩ : ∃ y : Int32, y = x3 + 1 := ⟨_, rfl⟩
  have hf := nm_at ev3 hf
  refine lv_iinc (v := v3) (lv' := [(3, .int v3), (0, .ref (ad 0)), (2, .int x2)]) hx hb dX4_springs_130 hl (k := 2) rfl (by rw [ev3]; rfl) (by decide) rfl (fun ls hl => ?_)
  refine lv_goto (tgt := 66) hx hb dX4_springs_133 (by decide) ?_
  exact hk66 S2 x2 v3 hf H locs ls hP hS (lv_sub hl [1, 2, 0] rfl)
set_option maxHeartbeats 4000000 in
set_option maxRecDepth 100000 in
theorem w4_springs_b106 {p : Program} {l : Launch} {e : Env} {s : State} {m : MethodId} {args : Array Value} {below : List Frame} {meth : Method} {c : Code} {D : va_G} {K : Nat → ClassId} {ad : Nat → Nat} (hI : INJ NM ad) (C0 : Cx p s m args meth c RX4 wsX4_springs cX4_springs 5 (some .int) (KM D K)) {r : Int32} {T : Mem} (k66 : Mem → Int32 → Int32 → Option (Int32 × Mem)) (hk66 : ∀ (S : Mem) (x2 : Int32) (x3 : Int32), k66 S x2 x3 = some (r, T) → ∀ (H : Heap) (locs : List Loc) (ls : Array Slot), va_P D vwCl (wl NM ad (EM K ad S)) H → va_S (IW NM ad) s.heap H locs → lv_has ls 5 [(0, .ref (ad 0)), (2, .int x2), (3, .int x3)] → W p l e rm4_springs s m args below meth c H locs 0 0 (MQ below (va_Qi (fun (x : Int32) (u : Mem) => x = r ∧ u = T) (fun u t => va_P D vwCl (wl NM ad (EM K ad u)) t.heap) (IW NM ad)) args s 0 0 (IW NM ad)) (F0 m 66 ls [])) : ∀ (S : Mem) (x2 : Int32) (x3 : Int32) (x4 : Int32) (t0 : Nat) (t0n : Nat) (t1 : Int32) (t2 : Int32) (t3 : Int32), IM K ad t0 t0n → f4_springs_b106 k66 S x2 x3 x4 t0 t0n t1 t2 t3 = some (r, T) → ∀ (H : Heap) (locs : List Loc) (ls : Array Slot), va_P D vwCl (wl NM ad (EM K ad S)) H → va_S (IW NM ad) s.heap H locs → lv_has ls 5 [(0, .ref (ad 0)), (2, .int x2), (3, .int x3), (4, .int x4)] → W p l e rm4_springs s m args below meth c H locs 0 0 (MQ below (va_Qi (fun (x : Int32) (u : Mem) => x = r ∧ u = T) (fun u t => va_P D vwCl (wl NM ad (EM K ad u)) t.heap) (IW NM ad)) args s 0 0 (IW NM ad)) (F0 m 106 ls [.int t3, .int t2, .int t1, .ref (ad t0)]) := by
  have hx := C0.1
  have hb := C0.2.1
  have hts := C0.2.2.2.2.1
  have hown := C0.2.2.2.1
  have hKC := C0.2.2.2.2.2.2.2
  intro S x2 x3 x4 t0 t0n t1 t2 t3 ht0 hf H locs ls hP hS hl
  rw [f4_springs_b106] at hf
  refine lv_iadd hx hb dX4_springs_106 ?_
  obtain ⟨g1, hf⟩ := gd_some hf
  refine x_iast C0 hKC hI (EM_loc K ad) hP hS ht0 (t0 := 0) rfl g1 dX4_springs_107 (fun S2 eS2 H locs hP hS => ?_)
  have hf := nm_at eS2 hf
  refine lv_aload_n hx hb dX4_springs_108 rfl (lv_at hl 0 rfl) ?_
  refine x_get C0 hKC hP (by decide) (EM_0 K ad S2) rfl in_X4_springs_X4 16 (by decide) (List.mem_of_getElem? (i := 1) rfl) rfl dX4_springs_109 ?_
  refine lv_iconst (v := 2) hx hb dX4_springs_112 (by decide) ?_
  refine lv_iload_n hx hb dX4_springs_113 rfl (lv_at hl 2 rfl) ?_
  refine lv_iadd hx hb dX4_springs_114 ?_
  refine lv_iload hx hb dX4_springs_115 (lv_at hl 3 rfl) ?_
  refine lv_bipush (v := 99) hx hb dX4_springs_117 (by decide) ?_
  refine lv_icmp_le (tgt := 127) hx hb dX4_springs_119 (by decide) (fun c3 => ?_) (fun c3 => ?_)
  · have hf := ite_t hf c3
    refine lv_iload hx hb dX4_springs_127 (lv_at hl 3 rfl) ?_
    exact w4_springs_b129 hI C0 k66 hk66 S2 x2 x3 11 9 (2 + x3) x4 (IM_11 K ad) hf H locs ls hP hS (lv_sub hl [0, 1, 2] rfl)
  · have hf := ite_f hf c3
    refine lv_bipush (v := 99) hx hb dX4_springs_122 (by decide) ?_
    refine lv_goto (tgt := 129) hx hb dX4_springs_124 (by decide) ?_
    exact w4_springs_b129 hI C0 k66 hk66 S2 x2 x3 11 9 (2 + x3) 99 (IM_11 K ad) hf H locs ls hP hS (lv_sub hl [0, 1, 2] rfl)
set_option maxHeartbeats 4000000 in
set_option maxRecDepth 100000 in
theorem w4_springs_b66 {p : Program} {l : Launch} {e : Env} {s : State} {m : MethodId} {args : Array Value} {below : List Frame} {meth : Method} {c : Code} {D : va_G} {K : Nat → ClassId} {ad : Nat → Nat} (hI : INJ NM ad) (C0 : Cx p s m args meth c RX4 wsX4_springs cX4_springs 5 (some .int) (KM D K)) {r : Int32} {T : Mem} : ∀ (n : Nat), ∀ (S : Mem) (x2 : Int32) (x3 : Int32), f4_springs_b66 n S x2 x3 = some (r, T) → ∀ (H : Heap) (locs : List Loc) (ls : Array Slot), va_P D vwCl (wl NM ad (EM K ad S)) H → va_S (IW NM ad) s.heap H locs → lv_has ls 5 [(0, .ref (ad 0)), (2, .int x2), (3, .int x3)] → W p l e rm4_springs s m args below meth c H locs 0 0 (MQ below (va_Qi (fun (x : Int32) (u : Mem) => x = r ∧ u = T) (fun u t => va_P D vwCl (wl NM ad (EM K ad u)) t.heap) (IW NM ad)) args s 0 0 (IW NM ad)) (F0 m 66 ls []) := by
  have hx := C0.1
  have hb := C0.2.1
  have hts := C0.2.2.2.2.1
  have hown := C0.2.2.2.1
  have hKC := C0.2.2.2.2.2.2.2
  intro n
  induction n with
  | zero =>
    intro S x2 x3 hf
    rw [f4_springs_b66] at hf
    cases hf
  | succ n ih =>
    intro S x2 x3 hf H locs ls hP hS hl
    rw [f4_springs_b66] at hf
    refine lv_iload_n hx hb dX4_springs_66 rfl (lv_at hl 2 rfl) ?_
    refine lv_aload_n hx hb dX4_springs_67 rfl (lv_at hl 0 rfl) ?_
    refine x_get C0 hKC hP (by decide) (EM_0 K ad S) rfl in_X4_springs_X4 12 (by decide) (List.mem_of_getElem? (i := 2) rfl) rfl dX4_springs_68 ?_
    refine lv_icmp_ge (tgt := 136) hx hb dX4_springs_71 (by decide) (fun c1 => ?_) (fun c1 => ?_)
    · have hf := ite_t hf c1
      refine lv_iload_n hx hb dX4_springs_136 rfl (lv_at hl 1 rfl) ?_
      exact ret_i C0 hP hS (congrArg Prod.fst (Option.some.inj hf)) (congrArg Prod.snd (Option.some.inj hf)) dX4_springs_137
    · have hf := ite_f hf c1
      refine lv_aload_n hx hb dX4_springs_74 rfl (lv_at hl 0 rfl) ?_
      refine lv_iload_n hx hb dX4_springs_75 rfl (lv_at hl 2 rfl) ?_
      obtain ⟨v3, h2, hf⟩ := b1_some hf
      refine sys_i hS (sys_runV (As := [.int x3]) (rest := []) C0 KM_ok hKC hP hS (by decide) (EM_0 K ad S) rfl (m4_jar l D K ad hI S x3 h2) gX4_springs_X4_jar rfl ⟨rfl, rfl⟩ hd_X4_jar ⟨Nat.le_of_ble_eq_true rfl, Nat.le_of_ble_eq_true rfl⟩ hl.1 rfl (Nat.le_of_ble_eq_true rfl) dX4_springs_76 ⟨Nat.le_refl _, Nat.le_refl _⟩) (fun H locs hP hS => ?_)
      refine lv_iload_n hx hb dX4_springs_79 rfl (lv_at hl 1 rfl) ?_
      refine lv_iadd hx hb dX4_springs_80 ?_
      refine lv_topi (fun v4 ev4 => ?_)
      have hf := nm_at ev4 hf
      refine lv_istore (lv' := [(4, .int v4), (0, .ref (ad 0)), (2, .int x2), (3, .int x3)]) hx hb dX4_springs_81 hl (by decide) rfl (fun ls hl => ?_)
      refine lv_aload_n hx hb dX4_springs_83 rfl (lv_at hl 1 rfl) ?_
      refine x_get C0 hKC hP (by decide) (EM_0 K ad S) rfl in_X4_springs_X4 16 (by decide) (List.mem_of_getElem? (i := 1) rfl) rfl dX4_springs_84 ?_
      refine lv_iconst (v := 1) hx hb dX4_springs_87 (by decide) ?_
      refine lv_dup2_11 hx hb dX4_springs_88 rfl rfl ?_
      obtain ⟨g5, hf⟩ := gd_some hf
      refine x_iald C0 hKC hP (IM_11 K ad) (t0 := 0) rfl g5 dX4_springs_89 ?_
      refine lv_iload hx hb dX4_springs_90 (lv_at hl 0 rfl) ?_
      refine lv_bipush (v := 99) hx hb dX4_springs_92 (by decide) ?_
      refine lv_icmp_le (tgt := 105) hx hb dX4_springs_94 (by decide) (fun c6 => ?_) (fun c6 => ?_)
      · have hf := ite_t hf c6
        refine lv_iconst (v := 0) hx hb dX4_springs_105 (by decide) ?_
        exact w4_springs_b106 hI C0 (f4_springs_b66 n) ih S x2 x3 v4 11 9 1 (gi S 11 (ix 1)) 0 (IM_11 K ad) hf H locs ls hP hS (lv_sub hl [1, 2, 3, 0] rfl)
      · have hf := ite_f hf c6
        refine lv_iload hx hb dX4_springs_97 (lv_at hl 0 rfl) ?_
        refine lv_bipush (v := 99) hx hb dX4_springs_99 (by decide) ?_
        refine lv_isub hx hb dX4_springs_101 ?_
        refine lv_goto (tgt := 106) hx hb dX4_springs_102 (by decide) ?_
        exact w4_springs_b106 hI C0 (f4_springs_b66 n) ih S x2 x3 v4 11 9 1 (gi S 11 (ix 1)) (v4 - 99) (IM_11 K ad) hf H locs ls hP hS (lv_sub hl [1, 2, 3, 0] rfl)
set_option maxHeartbeats 4000000 in
set_option maxRecDepth 100000 in
theorem w4_springs_b9 {p : Program} {l : Launch} {e : Env} {s : State} {m : MethodId} {args : Array Value} {below : List Frame} {meth : Method} {c : Code} {D : va_G} {K : Nat → ClassId} {ad : Nat → Nat} (hI : INJ NM ad) (C0 : Cx p s m args meth c RX4 wsX4_springs cX4_springs 5 (some .int) (KM D K)) {r : Int32} {T : Mem} : ∀ (n : Nat), ∀ (S : Mem) (x1 : Int32) (x2 : Int32), f4_springs_b9 n S x1 x2 = some (r, T) → ∀ (H : Heap) (locs : List Loc) (ls : Array Slot), va_P D vwCl (wl NM ad (EM K ad S)) H → va_S (IW NM ad) s.heap H locs → lv_has ls 5 [(0, .ref (ad 0)), (1, .int x1), (2, .int x2)] → W p l e rm4_springs s m args below meth c H locs 0 0 (MQ below (va_Qi (fun (x : Int32) (u : Mem) => x = r ∧ u = T) (fun u t => va_P D vwCl (wl NM ad (EM K ad u)) t.heap) (IW NM ad)) args s 0 0 (IW NM ad)) (F0 m 9 ls []) := by
  have hx := C0.1
  have hb := C0.2.1
  have hts := C0.2.2.2.2.1
  have hown := C0.2.2.2.1
  have hKC := C0.2.2.2.2.2.2.2
  intro n
  induction n with
  | zero =>
    intro S x1 x2 hf
    rw [f4_springs_b9] at hf
    cases hf
  | succ n ih =>
    intro S x1 x2 hf H locs ls hP hS hl
    rw [f4_springs_b9] at hf
    refine lv_iload_n hx hb dX4_springs_9 rfl (lv_at hl 2 rfl) ?_
    refine lv_aload_n hx hb dX4_springs_10 rfl (lv_at hl 0 rfl) ?_
    refine x_get C0 hKC hP (by decide) (EM_0 K ad S) rfl in_X4_springs_X4 12 (by decide) (List.mem_of_getElem? (i := 2) rfl) rfl dX4_springs_11 ?_
    refine lv_icmp_ge (tgt := 45) hx hb dX4_springs_14 (by decide) (fun c1 => ?_) (fun c1 => ?_)
    · have hf := ite_t hf c1
      refine lv_iload_n hx hb dX4_springs_45 rfl (lv_at hl 1 rfl) ?_
      refine lv_aload_n hx hb dX4_springs_46 rfl (lv_at hl 0 rfl) ?_
      refine x_get C0 hKC hP (by decide) (EM_0 K ad S) rfl in_X4_springs_X4 12 (by decide) (List.mem_of_getElem? (i := 2) rfl) rfl dX4_springs_47 ?_
      obtain ⟨g2, hf⟩ := gd_some hf
      refine lv_idiv hx hb dX4_springs_50 (of_decide_eq_true g2) ?_
      refine lv_topi (fun v3 ev3 => ?_)
      have hf := nm_at ev3 hf
      refine lv_istore_n (lv' := [(2, .int v3), (0, .ref (ad 0)), (1, .int x1)]) hx hb dX4_springs_51 rfl hl (by decide) rfl (fun ls hl => ?_)
      refine lv_aload_n hx hb dX4_springs_52 rfl (lv_at hl 1 rfl) ?_
      refine x_get C0 hKC hP (by decide) (EM_0 K ad S) rfl in_X4_springs_X4 16 (by decide) (List.mem_of_getElem? (i := 1) rfl) rfl dX4_springs_53 ?_
      refine lv_iconst (v := 1) hx hb dX4_springs_56 (by decide) ?_
      refine lv_iload_n hx hb dX4_springs_57 rfl (lv_at hl 2 rfl) ?_
      refine lv_aload_n hx hb dX4_springs_58 rfl (lv_at hl 1 rfl) ?_
      refine x_get C0 hKC hP (by decide) (EM_0 K ad S) rfl in_X4_springs_X4 12 (by decide) (List.mem_of_getElem? (i := 2) rfl) rfl dX4_springs_59 ?_
      obtain ⟨g4, hf⟩ := gd_some hf
      refine lv_irem hx hb dX4_springs_62 (of_decide_eq_true g4) ?_
      obtain ⟨g5, hf⟩ := gd_some hf
      refine x_iast C0 hKC hI (EM_loc K ad) hP hS (IM_11 K ad) (t0 := 0) rfl g5 dX4_springs_63 (fun S6 eS6 H locs hP hS => ?_)
      have hf := nm_at eS6 hf
      refine lv_iconst (v := 0) hx hb dX4_springs_64 (by decide) ?_
      refine lv_istore_n (lv' := [(3, .int 0), (2, .int v3), (0, .ref (ad 0)), (1, .int x1)]) hx hb dX4_springs_65 rfl hl (by decide) rfl (fun ls hl => ?_)
      exact w4_springs_b66 hI C0 FU S6 v3 0 hf H locs ls hP hS (lv_sub hl [2, 1, 0] rfl)
    · have hf := ite_f hf c1
      refine lv_aload_n hx hb dX4_springs_17 rfl (lv_at hl 0 rfl) ?_
      refine lv_iload_n hx hb dX4_springs_18 rfl (lv_at hl 2 rfl) ?_
      obtain ⟨v8, h7, hf⟩ := b1_some hf
      refine sys_i hS (sys_runV (As := [.int x2]) (rest := []) C0 KM_ok hKC hP hS (by decide) (EM_0 K ad S) rfl (m4_brings l D K ad hI S x2 h7) gX4_springs_X4_brings rfl ⟨rfl, rfl⟩ hd_X4_brings ⟨Nat.le_of_ble_eq_true rfl, Nat.le_of_ble_eq_true rfl⟩ hl.1 rfl (Nat.le_of_ble_eq_true rfl) dX4_springs_19 ⟨Nat.le_refl _, Nat.le_refl _⟩) (fun H locs hP hS => ?_)
      refine lv_istore_n (lv' := [(3, .int v8), (0, .ref (ad 0)), (1, .int x1), (2, .int x2)]) hx hb dX4_springs_22 rfl hl (by decide) rfl (fun ls hl => ?_)
      refine lv_iload_n hx hb dX4_springs_23 rfl (lv_at hl 2 rfl) ?_
      refine lv_iload_n hx hb dX4_springs_24 rfl (lv_at hl 0 rfl) ?_
      refine lv_iadd hx hb dX4_springs_25 ?_
      refine lv_topi (fun v9 ev9 => ?_)
      have hf := nm_at ev9 hf
      refine lv_istore_n (lv' := [(1, .int v9), (3, .int v8), (0, .ref (ad 0)), (2, .int x2)]) hx hb dX4_springs_26 rfl hl (by decide) rfl (fun ls hl => ?_)
      refine lv_aload_n hx hb dX4_springs_27 rfl (lv_at hl 2 rfl) ?_
      refine x_get C0 hKC hP (by decide) (EM_0 K ad S) rfl in_X4_springs_X4 16 (by decide) (List.mem_of_getElem? (i := 1) rfl) rfl dX4_springs_28 ?_
      refine lv_iconst (v := 2) hx hb dX4_springs_31 (by decide) ?_
      refine lv_iload_n hx hb dX4_springs_32 rfl (lv_at hl 3 rfl) ?_
      refine lv_iadd hx hb dX4_springs_33 ?_
      refine lv_dup2_11 hx hb dX4_springs_34 rfl rfl ?_
      obtain ⟨g10, hf⟩ := gd_some hf
      refine x_iald C0 hKC hP (IM_11 K ad) (t0 := 0) rfl g10 dX4_springs_35 ?_
      refine lv_iload_n hx hb dX4_springs_36 rfl (lv_at hl 1 rfl) ?_
      refine lv_isub hx hb dX4_springs_37 ?_
      obtain ⟨g11, hf⟩ := gd_some hf
      refine x_iast C0 hKC hI (EM_loc K ad) hP hS (IM_11 K ad) (t0 := 0) rfl g11 dX4_springs_38 (fun S12 eS12 H locs hP hS => ?_)
      have hf := nm_at eS12 hf
      obtain ⟨v13, ev13⟩ : ∃ y : Int32, y = x2 + 1 := ⟨_, rfl⟩
      have hf := nm_at ev13 hf
      refine lv_iinc (v := v13) (lv' := [(2, .int v13), (1, .int v9), (3, .int v8), (0, .ref (ad 0))]) hx hb dX4_springs_39 hl (k := 3) rfl (by rw [ev13]; rfl) (by decide) rfl (fun ls hl => ?_)
      refine lv_goto (tgt := 9) hx hb dX4_springs_42 (by decide) ?_
      exact ih S12 v9 v13 hf H locs ls hP hS (lv_sub hl [3, 1, 0] rfl)
set_option maxHeartbeats 4000000 in
set_option maxRecDepth 100000 in
theorem w4_springs {p : Program} {l : Launch} {e : Env} {s : State} {m : MethodId} {args : Array Value} {below : List Frame} {meth : Method} {c : Code} {D : va_G} {K : Nat → ClassId} {ad : Nat → Nat} (hI : INJ NM ad) (C0 : Cx p s m args meth c RX4 wsX4_springs cX4_springs 5 (some .int) (KM D K)) {r : Int32} {T : Mem} : ∀ (S : Mem), f4_springs S = some (r, T) → ∀ (H : Heap) (locs : List Loc) (ls : Array Slot), va_P D vwCl (wl NM ad (EM K ad S)) H → va_S (IW NM ad) s.heap H locs → lv_has ls 5 [(0, .ref (ad 0))] → W p l e rm4_springs s m args below meth c H locs 0 0 (MQ below (va_Qi (fun (x : Int32) (u : Mem) => x = r ∧ u = T) (fun u t => va_P D vwCl (wl NM ad (EM K ad u)) t.heap) (IW NM ad)) args s 0 0 (IW NM ad)) (F0 m 0 ls []) := by
  have hx := C0.1
  have hb := C0.2.1
  have hts := C0.2.2.2.2.1
  have hown := C0.2.2.2.1
  have hKC := C0.2.2.2.2.2.2.2
  intro S hf H locs ls hP hS hl
  rw [f4_springs] at hf
  refine lv_aload_n hx hb dX4_springs_0 rfl (lv_at hl 0 rfl) ?_
  refine x_get C0 hKC hP (by decide) (EM_0 K ad S) rfl in_X4_springs_X4 16 (by decide) (List.mem_of_getElem? (i := 1) rfl) rfl dX4_springs_1 ?_
  refine lv_iconst (v := 1) hx hb dX4_springs_4 (by decide) ?_
  obtain ⟨g1, hf⟩ := gd_some hf
  refine x_iald C0 hKC hP (IM_11 K ad) (t0 := 0) rfl g1 dX4_springs_5 ?_
  refine lv_topi (fun v2 ev2 => ?_)
  have hf := nm_at ev2 hf
  refine lv_istore_n (lv' := [(1, .int v2), (0, .ref (ad 0))]) hx hb dX4_springs_6 rfl hl (by decide) rfl (fun ls hl => ?_)
  refine lv_iconst (v := 0) hx hb dX4_springs_7 (by decide) ?_
  refine lv_istore_n (lv' := [(2, .int 0), (1, .int v2), (0, .ref (ad 0))]) hx hb dX4_springs_8 rfl hl (by decide) rfl (fun ls hl => ?_)
  exact w4_springs_b9 hI C0 FU S v2 0 hf H locs ls hP hS (lv_sub hl [2, 1, 0] rfl)
theorem m4_springs (l : Launch) (D : va_G) (K : Nat → ClassId) (ad : Nat → Nat) (hI : INJ NM ad) (S : Mem) {r : Int32} {T : Mem} (hf : f4_springs S = some (r, T)) : SysI l yX4_springs wsX4_springs rm4_springs D NM ad (EM K ad) (KM D K) [.ref (ad 0)] S r T :=
  met_of (own := RX4) (by decide) rfl rfl (Nat.le_of_ble_eq_true rfl) (fun _ _ s _ _ _ _ ls C0 _ hP hl => w4_springs hI C0 S hf s.heap [] ls hP va_S.rf hl)
theorem in_X4_day_X4 : ∀ w ∈ wsX40, w ∈ wsX4_day := fun _ h => List.mem_cons_of_mem _ (List.mem_append_right _ h)
theorem hd_X4_day : yX4_day.cls = RX4 ∧ yX4_day.cls ≠ "java/lang/invoke/MethodHandle" ∧ yX4_day.cls ≠ "java/lang/invoke/VarHandle" ∧ (parseMethodDescriptor yX4_day.desc).map (fun d => d.parameters.length) = some 0 := by decide +kernel
abbrev rm4_day : Room := { frames := 2, cells := 0, slots := 0, locals := 43 }
set_option maxHeartbeats 4000000 in
set_option maxRecDepth 100000 in
theorem w4_day {p : Program} {l : Launch} {e : Env} {s : State} {m : MethodId} {args : Array Value} {below : List Frame} {meth : Method} {c : Code} {D : va_G} {K : Nat → ClassId} {ad : Nat → Nat} (hI : INJ NM ad) (C0 : Cx p s m args meth c RX4 wsX4_day cX4_day 1 (some .int) (KM D K)) {r : Int32} {T : Mem} : ∀ (S : Mem), f4_day S = some (r, T) → ∀ (H : Heap) (locs : List Loc) (ls : Array Slot), va_P D vwCl (wl NM ad (EM K ad S)) H → va_S (IW NM ad) s.heap H locs → lv_has ls 1 [(0, .ref (ad 0))] → W p l e rm4_day s m args below meth c H locs 0 0 (MQ below (va_Qi (fun (x : Int32) (u : Mem) => x = r ∧ u = T) (fun u t => va_P D vwCl (wl NM ad (EM K ad u)) t.heap) (IW NM ad)) args s 0 0 (IW NM ad)) (F0 m 0 ls []) := by
  have hx := C0.1
  have hb := C0.2.1
  have hts := C0.2.2.2.2.1
  have hown := C0.2.2.2.1
  have hKC := C0.2.2.2.2.2.2.2
  intro S hf H locs ls hP hS hl
  rw [f4_day] at hf
  refine lv_aload_n hx hb dX4_day_0 rfl (lv_at hl 0 rfl) ?_
  refine x_get C0 hKC hP (by decide) (EM_0 K ad S) rfl in_X4_day_X4 12 (by decide) (List.mem_of_getElem? (i := 1) rfl) rfl dX4_day_1 ?_
  refine lv_if_eq (tgt := 18) hx hb dX4_day_4 (by decide) (fun c1 => ?_) (fun c1 => ?_)
  · have hf := ite_t hf c1
    refine lv_bipush (v := (-4)) hx hb dX4_day_18 (by decide) ?_
    exact ret_i C0 hP hS (congrArg Prod.fst (Option.some.inj hf)) (congrArg Prod.snd (Option.some.inj hf)) dX4_day_20
  · have hf := ite_f hf c1
    refine lv_aload_n hx hb dX4_day_7 rfl (lv_at hl 0 rfl) ?_
    refine x_get C0 hKC hP (by decide) (EM_0 K ad S) rfl in_X4_day_X4 16 (by decide) (List.mem_of_getElem? (i := 2) rfl) rfl dX4_day_8 ?_
    refine lv_iconst (v := 0) hx hb dX4_day_11 (by decide) ?_
    obtain ⟨g2, hf⟩ := gd_some hf
    refine x_iald C0 hKC hP (IM_11 K ad) (t0 := 0) rfl g2 dX4_day_12 ?_
    refine lv_bipush (v := 99) hx hb dX4_day_13 (by decide) ?_
    refine lv_icmp_ne (tgt := 21) hx hb dX4_day_15 (by decide) (fun c3 => ?_) (fun c3 => ?_)
    · have hf := ite_f hf c3
      refine lv_aload_n hx hb dX4_day_21 rfl (lv_at hl 0 rfl) ?_
      refine x_get C0 hKC hP (by decide) (EM_0 K ad S) rfl in_X4_day_X4 18 (by decide) (List.mem_of_getElem? (i := 3) rfl) rfl dX4_day_22 ?_
      refine lv_bipush (v := 40) hx hb dX4_day_25 (by decide) ?_
      refine lv_icmp_ne (tgt := 33) hx hb dX4_day_27 (by decide) (fun c4 => ?_) (fun c4 => ?_)
      · have hf := ite_f hf c4
        refine lv_aload_n hx hb dX4_day_33 rfl (lv_at hl 0 rfl) ?_
        obtain ⟨S6, h5, hf⟩ := b1_some hf
        refine sys_v hS (sys_runV (As := []) (rest := []) C0 KM_ok hKC hP hS (by decide) (EM_0 K ad S) rfl (m4_notes l D K ad hI S h5) gX4_day_X4_notes rfl ⟨rfl, rfl⟩ hd_X4_notes ⟨Nat.le_of_ble_eq_true rfl, Nat.le_of_ble_eq_true rfl⟩ hl.1 rfl (Nat.le_of_ble_eq_true rfl) dX4_day_34 ⟨Nat.le_refl _, Nat.le_refl _⟩) (fun H locs hP hS => ?_)
        refine lv_aload_n hx hb dX4_day_37 rfl (lv_at hl 0 rfl) ?_
        obtain ⟨S8, h7, hf⟩ := b1_some hf
        refine sys_v hS (sys_runV (As := []) (rest := []) C0 KM_ok hKC hP hS (by decide) (EM_0 K ad S6) rfl (m4_goesBy l D K ad hI S6 h7) gX4_day_X4_goesBy rfl ⟨rfl, rfl⟩ hd_X4_goesBy ⟨Nat.le_of_ble_eq_true rfl, Nat.le_of_ble_eq_true rfl⟩ hl.1 rfl (Nat.le_of_ble_eq_true rfl) dX4_day_38 ⟨Nat.le_refl _, Nat.le_refl _⟩) (fun H locs hP hS => ?_)
        refine lv_aload_n hx hb dX4_day_41 rfl (lv_at hl 0 rfl) ?_
        refine x_get C0 hKC hP (by decide) (EM_0 K ad S8) rfl in_X4_day_X4 16 (by decide) (List.mem_of_getElem? (i := 2) rfl) rfl dX4_day_42 ?_
        refine lv_iconst (v := 0) hx hb dX4_day_45 (by decide) ?_
        obtain ⟨g9, hf⟩ := gd_some hf
        refine x_iald C0 hKC hP (IM_11 K ad) (t0 := 0) rfl g9 dX4_day_46 ?_
        exact ret_i C0 hP hS (congrArg Prod.fst (Option.some.inj hf)) (congrArg Prod.snd (Option.some.inj hf)) dX4_day_47
      · have hf := ite_t hf c4
        refine lv_bipush (v := (-2)) hx hb dX4_day_30 (by decide) ?_
        exact ret_i C0 hP hS (congrArg Prod.fst (Option.some.inj hf)) (congrArg Prod.snd (Option.some.inj hf)) dX4_day_32
    · have hf := ite_t hf c3
      refine lv_bipush (v := (-4)) hx hb dX4_day_18 (by decide) ?_
      exact ret_i C0 hP hS (congrArg Prod.fst (Option.some.inj hf)) (congrArg Prod.snd (Option.some.inj hf)) dX4_day_20
theorem m4_day (l : Launch) (D : va_G) (K : Nat → ClassId) (ad : Nat → Nat) (hI : INJ NM ad) (S : Mem) {r : Int32} {T : Mem} (hf : f4_day S = some (r, T)) : SysI l yX4_day wsX4_day rm4_day D NM ad (EM K ad) (KM D K) [.ref (ad 0)] S r T :=
  met_of (own := RX4) (by decide) rfl rfl (Nat.le_of_ble_eq_true rfl) (fun _ _ s _ _ _ _ ls C0 _ hP hl => w4_day hI C0 S hf s.heap [] ls hP va_S.rf hl)
theorem in_X4_spring_X4 : ∀ w ∈ wsX40, w ∈ wsX4_spring := fun _ h => List.mem_cons_of_mem _ (List.mem_append_right _ h)
theorem hd_X4_spring : yX4_spring.cls = RX4 ∧ yX4_spring.cls ≠ "java/lang/invoke/MethodHandle" ∧ yX4_spring.cls ≠ "java/lang/invoke/VarHandle" ∧ (parseMethodDescriptor yX4_spring.desc).map (fun d => d.parameters.length) = some 0 := by decide +kernel
abbrev rm4_spring : Room := { frames := 3, cells := 0, slots := 0, locals := 67 }
set_option maxHeartbeats 4000000 in
set_option maxRecDepth 100000 in
theorem w4_spring {p : Program} {l : Launch} {e : Env} {s : State} {m : MethodId} {args : Array Value} {below : List Frame} {meth : Method} {c : Code} {D : va_G} {K : Nat → ClassId} {ad : Nat → Nat} (hI : INJ NM ad) (C0 : Cx p s m args meth c RX4 wsX4_spring cX4_spring 2 (some .int) (KM D K)) {r : Int32} {T : Mem} : ∀ (S : Mem), f4_spring S = some (r, T) → ∀ (H : Heap) (locs : List Loc) (ls : Array Slot), va_P D vwCl (wl NM ad (EM K ad S)) H → va_S (IW NM ad) s.heap H locs → lv_has ls 2 [(0, .ref (ad 0))] → W p l e rm4_spring s m args below meth c H locs 0 0 (MQ below (va_Qi (fun (x : Int32) (u : Mem) => x = r ∧ u = T) (fun u t => va_P D vwCl (wl NM ad (EM K ad u)) t.heap) (IW NM ad)) args s 0 0 (IW NM ad)) (F0 m 0 ls []) := by
  have hx := C0.1
  have hb := C0.2.1
  have hts := C0.2.2.2.2.1
  have hown := C0.2.2.2.1
  have hKC := C0.2.2.2.2.2.2.2
  intro S hf H locs ls hP hS hl
  rw [f4_spring] at hf
  refine lv_aload_n hx hb dX4_spring_0 rfl (lv_at hl 0 rfl) ?_
  refine x_get C0 hKC hP (by decide) (EM_0 K ad S) rfl in_X4_spring_X4 12 (by decide) (List.mem_of_getElem? (i := 1) rfl) rfl dX4_spring_1 ?_
  refine lv_if_ne (tgt := 10) hx hb dX4_spring_4 (by decide) (fun c1 => ?_) (fun c1 => ?_)
  · have hf := ite_f hf c1
    refine lv_aload_n hx hb dX4_spring_10 rfl (lv_at hl 0 rfl) ?_
    refine x_get C0 hKC hP (by decide) (EM_0 K ad S) rfl in_X4_spring_X4 18 (by decide) (List.mem_of_getElem? (i := 2) rfl) rfl dX4_spring_11 ?_
    refine lv_bipush (v := 40) hx hb dX4_spring_14 (by decide) ?_
    refine lv_icmp_ne (tgt := 22) hx hb dX4_spring_16 (by decide) (fun c2 => ?_) (fun c2 => ?_)
    · have hf := ite_f hf c2
      refine lv_aload_n hx hb dX4_spring_22 rfl (lv_at hl 0 rfl) ?_
      obtain ⟨S4, h3, hf⟩ := b1_some hf
      refine sys_v hS (sys_runV (As := []) (rest := []) C0 KM_ok hKC hP hS (by decide) (EM_0 K ad S) rfl (m4_notes l D K ad hI S h3) gX4_spring_X4_notes rfl ⟨rfl, rfl⟩ hd_X4_notes ⟨Nat.le_of_ble_eq_true rfl, Nat.le_of_ble_eq_true rfl⟩ hl.1 rfl (Nat.le_of_ble_eq_true rfl) dX4_spring_23 ⟨Nat.le_refl _, Nat.le_refl _⟩) (fun H locs hP hS => ?_)
      refine lv_aload_n hx hb dX4_spring_26 rfl (lv_at hl 0 rfl) ?_
      obtain ⟨v6, S7, h5, hf⟩ := b2_some hf
      refine sys_i hS (sys_runV (As := []) (rest := []) C0 KM_ok hKC hP hS (by decide) (EM_0 K ad S4) rfl (m4_springs l D K ad hI S4 h5) gX4_spring_X4_springs rfl ⟨rfl, rfl⟩ hd_X4_springs ⟨Nat.le_of_ble_eq_true rfl, Nat.le_of_ble_eq_true rfl⟩ hl.1 rfl (Nat.le_of_ble_eq_true rfl) dX4_spring_27 ⟨Nat.le_refl _, Nat.le_refl _⟩) (fun H locs hP hS => ?_)
      refine lv_istore_n (lv' := [(1, .int v6), (0, .ref (ad 0))]) hx hb dX4_spring_30 rfl hl (by decide) rfl (fun ls hl => ?_)
      refine lv_aload_n hx hb dX4_spring_31 rfl (lv_at hl 1 rfl) ?_
      refine lv_iload_n hx hb dX4_spring_32 rfl (lv_at hl 0 rfl) ?_
      refine lv_aload_n hx hb dX4_spring_33 rfl (lv_at hl 1 rfl) ?_
      refine x_get C0 hKC hP (by decide) (EM_0 K ad S7) rfl in_X4_spring_X4 16 (by decide) (List.mem_of_getElem? (i := 3) rfl) rfl dX4_spring_34 ?_
      refine lv_iconst (v := 1) hx hb dX4_spring_37 (by decide) ?_
      obtain ⟨g8, hf⟩ := gd_some hf
      refine x_iald C0 hKC hP (IM_11 K ad) (t0 := 0) rfl g8 dX4_spring_38 ?_
      obtain ⟨v10, S11, h9, hf⟩ := b2_some hf
      refine sys_i hS (sys_runV (As := [.int v6, .int (gi S7 11 (ix 1))]) (rest := []) C0 KM_ok hKC hP hS (by decide) (EM_0 K ad S7) rfl (m4_tells l D K ad hI S7 v6 (gi S7 11 (ix 1)) h9) gX4_spring_X4_tells rfl ⟨rfl, rfl⟩ hd_X4_tells ⟨Nat.le_of_ble_eq_true rfl, Nat.le_of_ble_eq_true rfl⟩ hl.1 rfl (Nat.le_of_ble_eq_true rfl) dX4_spring_39 ⟨Nat.le_refl _, Nat.le_refl _⟩) (fun H locs hP hS => ?_)
      exact ret_i C0 hP hS (congrArg Prod.fst (Option.some.inj hf)) (congrArg Prod.snd (Option.some.inj hf)) dX4_spring_42
    · have hf := ite_t hf c2
      refine lv_bipush (v := (-2)) hx hb dX4_spring_19 (by decide) ?_
      exact ret_i C0 hP hS (congrArg Prod.fst (Option.some.inj hf)) (congrArg Prod.snd (Option.some.inj hf)) dX4_spring_21
  · have hf := ite_t hf c1
    refine lv_bipush (v := (-4)) hx hb dX4_spring_7 (by decide) ?_
    exact ret_i C0 hP hS (congrArg Prod.fst (Option.some.inj hf)) (congrArg Prod.snd (Option.some.inj hf)) dX4_spring_9
theorem m4_spring (l : Launch) (D : va_G) (K : Nat → ClassId) (ad : Nat → Nat) (hI : INJ NM ad) (S : Mem) {r : Int32} {T : Mem} (hf : f4_spring S = some (r, T)) : SysI l yX4_spring wsX4_spring rm4_spring D NM ad (EM K ad) (KM D K) [.ref (ad 0)] S r T :=
  met_of (own := RX4) (by decide) rfl rfl (Nat.le_of_ble_eq_true rfl) (fun _ _ s _ _ _ _ ls C0 _ hP hl => w4_spring hI C0 S hf s.heap [] ls hP va_S.rf hl)
theorem in_X4_lends_X4 : ∀ w ∈ wsX40, w ∈ wsX4_lends := fun _ h => List.mem_cons_of_mem _ (List.mem_append_right _ h)
theorem hd_X4_lends : yX4_lends.cls = RX4 ∧ yX4_lends.cls ≠ "java/lang/invoke/MethodHandle" ∧ yX4_lends.cls ≠ "java/lang/invoke/VarHandle" ∧ (parseMethodDescriptor yX4_lends.desc).map (fun d => d.parameters.length) = some 3 := by decide +kernel
abbrev rm4_lends : Room := { frames := 1, cells := 0, slots := 0, locals := 21 }
set_option maxHeartbeats 4000000 in
set_option maxRecDepth 100000 in
theorem w4_lends_b44 {p : Program} {l : Launch} {e : Env} {s : State} {m : MethodId} {args : Array Value} {below : List Frame} {meth : Method} {c : Code} {D : va_G} {K : Nat → ClassId} {ad : Nat → Nat} (hI : INJ NM ad) (C0 : Cx p s m args meth c RX4 wsX4_lends cX4_lends 5 none (KM D K)) {T : Mem} : ∀ (S : Mem) (x2 : Int32) (x4 : Int32) (t0 : Nat) (t0n : Nat) (t1 : Int32) (t2 : Int32) (t3 : Int32), IM K ad t0 t0n → f4_lends_b44 S x2 x4 t0 t0n t1 t2 t3 = some T → ∀ (H : Heap) (locs : List Loc) (ls : Array Slot), va_P D vwCl (wl NM ad (EM K ad S)) H → va_S (IW NM ad) s.heap H locs → lv_has ls 5 [(0, .ref (ad 0)), (2, .int x2), (4, .int x4)] → W p l e rm4_lends s m args below meth c H locs 0 0 (MQ below (va_Qv (fun (u : Mem) => u = T) (fun u t => va_P D vwCl (wl NM ad (EM K ad u)) t.heap) (IW NM ad)) args s 0 0 (IW NM ad)) (F0 m 44 ls [.int t3, .int t2, .int t1, .ref (ad t0)]) := by
  have hx := C0.1
  have hb := C0.2.1
  have hts := C0.2.2.2.2.1
  have hown := C0.2.2.2.1
  have hKC := C0.2.2.2.2.2.2.2
  intro S x2 x4 t0 t0n t1 t2 t3 ht0 hf H locs ls hP hS hl
  rw [f4_lends_b44] at hf
  refine lv_iadd hx hb dX4_lends_44 ?_
  obtain ⟨g1, hf⟩ := gd_some hf
  refine x_iast C0 hKC hI (EM_loc K ad) hP hS ht0 (t0 := 0) rfl g1 dX4_lends_45 (fun S2 eS2 H locs hP hS => ?_)
  have hf := nm_at eS2 hf
  refine lv_aload_n hx hb dX4_lends_46 rfl (lv_at hl 0 rfl) ?_
  refine x_get C0 hKC hP (by decide) (EM_0 K ad S2) rfl in_X4_lends_X4 16 (by decide) (List.mem_of_getElem? (i := 1) rfl) rfl dX4_lends_47 ?_
  refine lv_iconst (v := 2) hx hb dX4_lends_50 (by decide) ?_
  refine lv_iload_n hx hb dX4_lends_51 rfl (lv_at hl 1 rfl) ?_
  refine lv_iadd hx hb dX4_lends_52 ?_
  refine lv_iload hx hb dX4_lends_53 (lv_at hl 2 rfl) ?_
  refine lv_bipush (v := 99) hx hb dX4_lends_55 (by decide) ?_
  refine lv_icmp_le (tgt := 65) hx hb dX4_lends_57 (by decide) (fun c3 => ?_) (fun c3 => ?_)
  · have hf := ite_t hf c3
    refine lv_iload hx hb dX4_lends_65 (lv_at hl 2 rfl) ?_
    obtain ⟨g4, hf⟩ := gd_some hf
    refine x_iast C0 hKC hI (EM_loc K ad) hP hS (IM_11 K ad) (t0 := 0) rfl g4 dX4_lends_67 (fun S5 eS5 H locs hP hS => ?_)
    have hf := nm_at eS5 hf
    exact ret_v C0 hP hS (Option.some.inj hf) dX4_lends_68
  · have hf := ite_f hf c3
    refine lv_bipush (v := 99) hx hb dX4_lends_60 (by decide) ?_
    refine lv_goto (tgt := 67) hx hb dX4_lends_62 (by decide) ?_
    obtain ⟨g6, hf⟩ := gd_some hf
    refine x_iast C0 hKC hI (EM_loc K ad) hP hS (IM_11 K ad) (t0 := 0) rfl g6 dX4_lends_67 (fun S7 eS7 H locs hP hS => ?_)
    have hf := nm_at eS7 hf
    exact ret_v C0 hP hS (Option.some.inj hf) dX4_lends_68
set_option maxHeartbeats 4000000 in
set_option maxRecDepth 100000 in
theorem w4_lends {p : Program} {l : Launch} {e : Env} {s : State} {m : MethodId} {args : Array Value} {below : List Frame} {meth : Method} {c : Code} {D : va_G} {K : Nat → ClassId} {ad : Nat → Nat} (hI : INJ NM ad) (C0 : Cx p s m args meth c RX4 wsX4_lends cX4_lends 5 none (KM D K)) {T : Mem} : ∀ (S : Mem) (x1 : Int32) (x2 : Int32) (x3 : Int32), f4_lends S x1 x2 x3 = some T → ∀ (H : Heap) (locs : List Loc) (ls : Array Slot), va_P D vwCl (wl NM ad (EM K ad S)) H → va_S (IW NM ad) s.heap H locs → lv_has ls 5 [(0, .ref (ad 0)), (1, .int x1), (2, .int x2), (3, .int x3)] → W p l e rm4_lends s m args below meth c H locs 0 0 (MQ below (va_Qv (fun (u : Mem) => u = T) (fun u t => va_P D vwCl (wl NM ad (EM K ad u)) t.heap) (IW NM ad)) args s 0 0 (IW NM ad)) (F0 m 0 ls []) := by
  have hx := C0.1
  have hb := C0.2.1
  have hts := C0.2.2.2.2.1
  have hown := C0.2.2.2.1
  have hKC := C0.2.2.2.2.2.2.2
  intro S x1 x2 x3 hf H locs ls hP hS hl
  rw [f4_lends] at hf
  refine lv_aload_n hx hb dX4_lends_0 rfl (lv_at hl 0 rfl) ?_
  refine x_get C0 hKC hP (by decide) (EM_0 K ad S) rfl in_X4_lends_X4 16 (by decide) (List.mem_of_getElem? (i := 1) rfl) rfl dX4_lends_1 ?_
  refine lv_iconst (v := 2) hx hb dX4_lends_4 (by decide) ?_
  refine lv_iload_n hx hb dX4_lends_5 rfl (lv_at hl 1 rfl) ?_
  refine lv_iadd hx hb dX4_lends_6 ?_
  refine lv_dup2_11 hx hb dX4_lends_7 rfl rfl ?_
  obtain ⟨g1, hf⟩ := gd_some hf
  refine x_iald C0 hKC hP (IM_11 K ad) (t0 := 0) rfl g1 dX4_lends_8 ?_
  refine lv_iload_n hx hb dX4_lends_9 rfl (lv_at hl 3 rfl) ?_
  refine lv_isub hx hb dX4_lends_10 ?_
  obtain ⟨g2, hf⟩ := gd_some hf
  refine x_iast C0 hKC hI (EM_loc K ad) hP hS (IM_11 K ad) (t0 := 0) rfl g2 dX4_lends_11 (fun S3 eS3 H locs hP hS => ?_)
  have hf := nm_at eS3 hf
  refine lv_aload_n hx hb dX4_lends_12 rfl (lv_at hl 0 rfl) ?_
  refine lv_iload_n hx hb dX4_lends_13 rfl (lv_at hl 2 rfl) ?_
  obtain ⟨v5, h4, hf⟩ := b1_some hf
  refine sys_i hS (sys_runV (As := [.int x2]) (rest := []) C0 KM_ok hKC hP hS (by decide) (EM_0 K ad S3) rfl (m4_jar l D K ad hI S3 x2 h4) gX4_lends_X4_jar rfl ⟨rfl, rfl⟩ hd_X4_jar ⟨Nat.le_of_ble_eq_true rfl, Nat.le_of_ble_eq_true rfl⟩ hl.1 rfl (Nat.le_of_ble_eq_true rfl) dX4_lends_14 ⟨Nat.le_refl _, Nat.le_refl _⟩) (fun H locs hP hS => ?_)
  refine lv_iload_n hx hb dX4_lends_17 rfl (lv_at hl 3 rfl) ?_
  refine lv_iadd hx hb dX4_lends_18 ?_
  refine lv_topi (fun v6 ev6 => ?_)
  have hf := nm_at ev6 hf
  refine lv_istore (lv' := [(4, .int v6), (0, .ref (ad 0)), (1, .int x1), (2, .int x2), (3, .int x3)]) hx hb dX4_lends_19 hl (by decide) rfl (fun ls hl => ?_)
  refine lv_aload_n hx hb dX4_lends_21 rfl (lv_at hl 1 rfl) ?_
  refine x_get C0 hKC hP (by decide) (EM_0 K ad S3) rfl in_X4_lends_X4 16 (by decide) (List.mem_of_getElem? (i := 1) rfl) rfl dX4_lends_22 ?_
  refine lv_iconst (v := 1) hx hb dX4_lends_25 (by decide) ?_
  refine lv_dup2_11 hx hb dX4_lends_26 rfl rfl ?_
  obtain ⟨g7, hf⟩ := gd_some hf
  refine x_iald C0 hKC hP (IM_11 K ad) (t0 := 0) rfl g7 dX4_lends_27 ?_
  refine lv_iload hx hb dX4_lends_28 (lv_at hl 0 rfl) ?_
  refine lv_bipush (v := 99) hx hb dX4_lends_30 (by decide) ?_
  refine lv_icmp_le (tgt := 43) hx hb dX4_lends_32 (by decide) (fun c8 => ?_) (fun c8 => ?_)
  · have hf := ite_t hf c8
    refine lv_iconst (v := 0) hx hb dX4_lends_43 (by decide) ?_
    exact w4_lends_b44 hI C0 S3 x2 v6 11 9 1 (gi S3 11 (ix 1)) 0 (IM_11 K ad) hf H locs ls hP hS (lv_sub hl [1, 3, 0] rfl)
  · have hf := ite_f hf c8
    refine lv_iload hx hb dX4_lends_35 (lv_at hl 0 rfl) ?_
    refine lv_bipush (v := 99) hx hb dX4_lends_37 (by decide) ?_
    refine lv_isub hx hb dX4_lends_39 ?_
    refine lv_goto (tgt := 44) hx hb dX4_lends_40 (by decide) ?_
    exact w4_lends_b44 hI C0 S3 x2 v6 11 9 1 (gi S3 11 (ix 1)) (v6 - 99) (IM_11 K ad) hf H locs ls hP hS (lv_sub hl [1, 3, 0] rfl)
theorem m4_lends (l : Launch) (D : va_G) (K : Nat → ClassId) (ad : Nat → Nat) (hI : INJ NM ad) (S : Mem) (x1 : Int32) (x2 : Int32) (x3 : Int32) {T : Mem} (hf : f4_lends S x1 x2 x3 = some T) : SysV l yX4_lends wsX4_lends rm4_lends D NM ad (EM K ad) (KM D K) [.ref (ad 0), .int x1, .int x2, .int x3] S T :=
  met_of (own := RX4) (by decide) rfl rfl (Nat.le_of_ble_eq_true rfl) (fun _ _ s _ _ _ _ ls C0 _ hP hl => w4_lends hI C0 S x1 x2 x3 hf s.heap [] ls hP va_S.rf hl)
theorem in_X4_lend_X4 : ∀ w ∈ wsX40, w ∈ wsX4_lend := fun _ h => List.mem_cons_of_mem _ (List.mem_append_right _ h)
theorem hd_X4_lend : yX4_lend.cls = RX4 ∧ yX4_lend.cls ≠ "java/lang/invoke/MethodHandle" ∧ yX4_lend.cls ≠ "java/lang/invoke/VarHandle" ∧ (parseMethodDescriptor yX4_lend.desc).map (fun d => d.parameters.length) = some 3 := by decide +kernel
abbrev rm4_lend : Room := { frames := 2, cells := 0, slots := 0, locals := 46 }
set_option maxHeartbeats 4000000 in
set_option maxRecDepth 100000 in
theorem w4_lend {p : Program} {l : Launch} {e : Env} {s : State} {m : MethodId} {args : Array Value} {below : List Frame} {meth : Method} {c : Code} {D : va_G} {K : Nat → ClassId} {ad : Nat → Nat} (hI : INJ NM ad) (C0 : Cx p s m args meth c RX4 wsX4_lend cX4_lend 4 (some .int) (KM D K)) {r : Int32} {T : Mem} : ∀ (S : Mem) (x1 : Int32) (x2 : Int32) (x3 : Int32), f4_lend S x1 x2 x3 = some (r, T) → ∀ (H : Heap) (locs : List Loc) (ls : Array Slot), va_P D vwCl (wl NM ad (EM K ad S)) H → va_S (IW NM ad) s.heap H locs → lv_has ls 4 [(0, .ref (ad 0)), (1, .int x1), (2, .int x2), (3, .int x3)] → W p l e rm4_lend s m args below meth c H locs 0 0 (MQ below (va_Qi (fun (x : Int32) (u : Mem) => x = r ∧ u = T) (fun u t => va_P D vwCl (wl NM ad (EM K ad u)) t.heap) (IW NM ad)) args s 0 0 (IW NM ad)) (F0 m 0 ls []) := by
  have hx := C0.1
  have hb := C0.2.1
  have hts := C0.2.2.2.2.1
  have hown := C0.2.2.2.1
  have hKC := C0.2.2.2.2.2.2.2
  intro S x1 x2 x3 hf H locs ls hP hS hl
  rw [f4_lend] at hf
  refine lv_aload_n hx hb dX4_lend_0 rfl (lv_at hl 0 rfl) ?_
  refine lv_iload_n hx hb dX4_lend_1 rfl (lv_at hl 1 rfl) ?_
  obtain ⟨v2, h1, hf⟩ := b1_some hf
  refine sys_i hS (sys_runV (As := [.int x1]) (rest := []) C0 KM_ok hKC hP hS (by decide) (EM_0 K ad S) rfl (m4_isHouse l D K ad hI S x1 h1) gX4_lend_X4_isHouse rfl ⟨rfl, rfl⟩ hd_X4_isHouse ⟨Nat.le_of_ble_eq_true rfl, Nat.le_of_ble_eq_true rfl⟩ hl.1 rfl (Nat.le_of_ble_eq_true rfl) dX4_lend_2 ⟨Nat.le_refl _, Nat.le_refl _⟩) (fun H locs hP hS => ?_)
  refine lv_if_eq (tgt := 33) hx hb dX4_lend_5 (by decide) (fun c3 => ?_) (fun c3 => ?_)
  · have hf := ite_t hf c3
    refine lv_iconst (v := (-1)) hx hb dX4_lend_33 (by decide) ?_
    exact ret_i C0 hP hS (congrArg Prod.fst (Option.some.inj hf)) (congrArg Prod.snd (Option.some.inj hf)) dX4_lend_34
  · have hf := ite_f hf c3
    refine lv_aload_n hx hb dX4_lend_8 rfl (lv_at hl 0 rfl) ?_
    refine lv_iload_n hx hb dX4_lend_9 rfl (lv_at hl 2 rfl) ?_
    obtain ⟨v5, h4, hf⟩ := b1_some hf
    refine sys_i hS (sys_runV (As := [.int x2]) (rest := []) C0 KM_ok hKC hP hS (by decide) (EM_0 K ad S) rfl (m4_isHouse l D K ad hI S x2 h4) gX4_lend_X4_isHouse rfl ⟨rfl, rfl⟩ hd_X4_isHouse ⟨Nat.le_of_ble_eq_true rfl, Nat.le_of_ble_eq_true rfl⟩ hl.1 rfl (Nat.le_of_ble_eq_true rfl) dX4_lend_10 ⟨Nat.le_refl _, Nat.le_refl _⟩) (fun H locs hP hS => ?_)
    refine lv_if_eq (tgt := 33) hx hb dX4_lend_13 (by decide) (fun c6 => ?_) (fun c6 => ?_)
    · have hf := ite_t hf c6
      refine lv_iconst (v := (-1)) hx hb dX4_lend_33 (by decide) ?_
      exact ret_i C0 hP hS (congrArg Prod.fst (Option.some.inj hf)) (congrArg Prod.snd (Option.some.inj hf)) dX4_lend_34
    · have hf := ite_f hf c6
      refine lv_iload_n hx hb dX4_lend_16 rfl (lv_at hl 1 rfl) ?_
      refine lv_iload_n hx hb dX4_lend_17 rfl (lv_at hl 2 rfl) ?_
      refine lv_icmp_eq (tgt := 33) hx hb dX4_lend_18 (by decide) (fun c7 => ?_) (fun c7 => ?_)
      · have hf := ite_t hf c7
        refine lv_iconst (v := (-1)) hx hb dX4_lend_33 (by decide) ?_
        exact ret_i C0 hP hS (congrArg Prod.fst (Option.some.inj hf)) (congrArg Prod.snd (Option.some.inj hf)) dX4_lend_34
      · have hf := ite_f hf c7
        refine lv_iload_n hx hb dX4_lend_21 rfl (lv_at hl 3 rfl) ?_
        refine lv_i2l (v := (Int32.toInt64 x3)) hx hb dX4_lend_22 rfl ?_
        refine lv_lconst (v := 1) hx hb dX4_lend_23 (by decide) ?_
        refine lv_ldc2 (v := 99) hx hb hown (hts _ (List.mem_of_getElem? (i := 1) rfl)) dX4_lend_24 ?_
        obtain ⟨v9, h8, hf⟩ := b1_some hf
        refine sys_i hS (sys_runS (As := [.long (Int32.toInt64 x3), .long 1, .long 99]) (rest := []) C0 KM_ok hP hS (m4_in l D K ad hI S (Int32.toInt64 x3) 1 99 h8) gX4_lend_X4_in rfl ⟨rfl, rfl⟩ hd_X4_in ⟨Nat.le_of_ble_eq_true rfl, Nat.le_of_ble_eq_true rfl⟩ hl.1 rfl (Nat.le_of_ble_eq_true rfl) dX4_lend_27 ⟨Nat.le_refl _, Nat.le_refl _⟩) (fun H locs hP hS => ?_)
        refine lv_if_ne (tgt := 35) hx hb dX4_lend_30 (by decide) (fun c10 => ?_) (fun c10 => ?_)
        · have hf := ite_f hf c10
          refine lv_aload_n hx hb dX4_lend_35 rfl (lv_at hl 0 rfl) ?_
          refine lv_iload_n hx hb dX4_lend_36 rfl (lv_at hl 1 rfl) ?_
          obtain ⟨v12, h11, hf⟩ := b1_some hf
          refine sys_i hS (sys_runV (As := [.int x1]) (rest := []) C0 KM_ok hKC hP hS (by decide) (EM_0 K ad S) rfl (m4_jar l D K ad hI S x1 h11) gX4_lend_X4_jar rfl ⟨rfl, rfl⟩ hd_X4_jar ⟨Nat.le_of_ble_eq_true rfl, Nat.le_of_ble_eq_true rfl⟩ hl.1 rfl (Nat.le_of_ble_eq_true rfl) dX4_lend_37 ⟨Nat.le_refl _, Nat.le_refl _⟩) (fun H locs hP hS => ?_)
          refine lv_iload_n hx hb dX4_lend_40 rfl (lv_at hl 3 rfl) ?_
          refine lv_icmp_ge (tgt := 47) hx hb dX4_lend_41 (by decide) (fun c13 => ?_) (fun c13 => ?_)
          · have hf := ite_t hf c13
            refine lv_aload_n hx hb dX4_lend_47 rfl (lv_at hl 0 rfl) ?_
            refine x_get C0 hKC hP (by decide) (EM_0 K ad S) rfl in_X4_lend_X4 18 (by decide) (List.mem_of_getElem? (i := 2) rfl) rfl dX4_lend_48 ?_
            refine lv_bipush (v := 40) hx hb dX4_lend_51 (by decide) ?_
            refine lv_icmp_ne (tgt := 59) hx hb dX4_lend_53 (by decide) (fun c14 => ?_) (fun c14 => ?_)
            · have hf := ite_f hf c14
              refine lv_aload_n hx hb dX4_lend_59 rfl (lv_at hl 0 rfl) ?_
              obtain ⟨S16, h15, hf⟩ := b1_some hf
              refine sys_v hS (sys_runV (As := []) (rest := []) C0 KM_ok hKC hP hS (by decide) (EM_0 K ad S) rfl (m4_notes l D K ad hI S h15) gX4_lend_X4_notes rfl ⟨rfl, rfl⟩ hd_X4_notes ⟨Nat.le_of_ble_eq_true rfl, Nat.le_of_ble_eq_true rfl⟩ hl.1 rfl (Nat.le_of_ble_eq_true rfl) dX4_lend_60 ⟨Nat.le_refl _, Nat.le_refl _⟩) (fun H locs hP hS => ?_)
              refine lv_aload_n hx hb dX4_lend_63 rfl (lv_at hl 0 rfl) ?_
              refine lv_iload_n hx hb dX4_lend_64 rfl (lv_at hl 1 rfl) ?_
              refine lv_iload_n hx hb dX4_lend_65 rfl (lv_at hl 2 rfl) ?_
              refine lv_iload_n hx hb dX4_lend_66 rfl (lv_at hl 3 rfl) ?_
              obtain ⟨S18, h17, hf⟩ := b1_some hf
              refine sys_v hS (sys_runV (As := [.int x1, .int x2, .int x3]) (rest := []) C0 KM_ok hKC hP hS (by decide) (EM_0 K ad S16) rfl (m4_lends l D K ad hI S16 x1 x2 x3 h17) gX4_lend_X4_lends rfl ⟨rfl, rfl⟩ hd_X4_lends ⟨Nat.le_of_ble_eq_true rfl, Nat.le_of_ble_eq_true rfl⟩ hl.1 rfl (Nat.le_of_ble_eq_true rfl) dX4_lend_67 ⟨Nat.le_refl _, Nat.le_refl _⟩) (fun H locs hP hS => ?_)
              refine lv_aload_n hx hb dX4_lend_70 rfl (lv_at hl 0 rfl) ?_
              refine lv_iload_n hx hb dX4_lend_71 rfl (lv_at hl 2 rfl) ?_
              obtain ⟨v20, h19, hf⟩ := b1_some hf
              refine sys_i hS (sys_runV (As := [.int x2]) (rest := []) C0 KM_ok hKC hP hS (by decide) (EM_0 K ad S18) rfl (m4_jar l D K ad hI S18 x2 h19) gX4_lend_X4_jar rfl ⟨rfl, rfl⟩ hd_X4_jar ⟨Nat.le_of_ble_eq_true rfl, Nat.le_of_ble_eq_true rfl⟩ hl.1 rfl (Nat.le_of_ble_eq_true rfl) dX4_lend_72 ⟨Nat.le_refl _, Nat.le_refl _⟩) (fun H locs hP hS => ?_)
              exact ret_i C0 hP hS (congrArg Prod.fst (Option.some.inj hf)) (congrArg Prod.snd (Option.some.inj hf)) dX4_lend_75
            · have hf := ite_t hf c14
              refine lv_bipush (v := (-2)) hx hb dX4_lend_56 (by decide) ?_
              exact ret_i C0 hP hS (congrArg Prod.fst (Option.some.inj hf)) (congrArg Prod.snd (Option.some.inj hf)) dX4_lend_58
          · have hf := ite_f hf c13
            refine lv_bipush (v := (-4)) hx hb dX4_lend_44 (by decide) ?_
            exact ret_i C0 hP hS (congrArg Prod.fst (Option.some.inj hf)) (congrArg Prod.snd (Option.some.inj hf)) dX4_lend_46
        · have hf := ite_t hf c10
          refine lv_iconst (v := (-1)) hx hb dX4_lend_33 (by decide) ?_
          exact ret_i C0 hP hS (congrArg Prod.fst (Option.some.inj hf)) (congrArg Prod.snd (Option.some.inj hf)) dX4_lend_34
theorem m4_lend (l : Launch) (D : va_G) (K : Nat → ClassId) (ad : Nat → Nat) (hI : INJ NM ad) (S : Mem) (x1 : Int32) (x2 : Int32) (x3 : Int32) {r : Int32} {T : Mem} (hf : f4_lend S x1 x2 x3 = some (r, T)) : SysI l yX4_lend wsX4_lend rm4_lend D NM ad (EM K ad) (KM D K) [.ref (ad 0), .int x1, .int x2, .int x3] S r T :=
  met_of (own := RX4) (by decide) rfl rfl (Nat.le_of_ble_eq_true rfl) (fun _ _ s _ _ _ _ ls C0 _ hP hl => w4_lend hI C0 S x1 x2 x3 hf s.heap [] ls hP va_S.rf hl)
theorem in_X4_leaves_X4 : ∀ w ∈ wsX40, w ∈ wsX4_leaves := fun _ h => List.mem_cons_of_mem _ (List.mem_append_right _ h)
theorem hd_X4_leaves : yX4_leaves.cls = RX4 ∧ yX4_leaves.cls ≠ "java/lang/invoke/MethodHandle" ∧ yX4_leaves.cls ≠ "java/lang/invoke/VarHandle" ∧ (parseMethodDescriptor yX4_leaves.desc).map (fun d => d.parameters.length) = some 2 := by decide +kernel
abbrev rm4_leaves : Room := { frames := 0, cells := 0, slots := 0, locals := 0 }
set_option maxHeartbeats 4000000 in
set_option maxRecDepth 100000 in
theorem w4_leaves {p : Program} {l : Launch} {e : Env} {s : State} {m : MethodId} {args : Array Value} {below : List Frame} {meth : Method} {c : Code} {D : va_G} {K : Nat → ClassId} {ad : Nat → Nat} (hI : INJ NM ad) (C0 : Cx p s m args meth c RX4 wsX4_leaves cX4_leaves 3 none (KM D K)) {T : Mem} : ∀ (S : Mem) (x1 : Int32) (x2 : Int32), f4_leaves S x1 x2 = some T → ∀ (H : Heap) (locs : List Loc) (ls : Array Slot), va_P D vwCl (wl NM ad (EM K ad S)) H → va_S (IW NM ad) s.heap H locs → lv_has ls 3 [(0, .ref (ad 0)), (1, .int x1), (2, .int x2)] → W p l e rm4_leaves s m args below meth c H locs 0 0 (MQ below (va_Qv (fun (u : Mem) => u = T) (fun u t => va_P D vwCl (wl NM ad (EM K ad u)) t.heap) (IW NM ad)) args s 0 0 (IW NM ad)) (F0 m 0 ls []) := by
  have hx := C0.1
  have hb := C0.2.1
  have hts := C0.2.2.2.2.1
  have hown := C0.2.2.2.1
  have hKC := C0.2.2.2.2.2.2.2
  intro S x1 x2 hf H locs ls hP hS hl
  rw [f4_leaves] at hf
  refine lv_aload_n hx hb dX4_leaves_0 rfl (lv_at hl 0 rfl) ?_
  refine x_get C0 hKC hP (by decide) (EM_0 K ad S) rfl in_X4_leaves_X4 16 (by decide) (List.mem_of_getElem? (i := 1) rfl) rfl dX4_leaves_1 ?_
  refine lv_iconst (v := 2) hx hb dX4_leaves_4 (by decide) ?_
  refine lv_iload_n hx hb dX4_leaves_5 rfl (lv_at hl 1 rfl) ?_
  refine lv_iadd hx hb dX4_leaves_6 ?_
  refine lv_dup2_11 hx hb dX4_leaves_7 rfl rfl ?_
  obtain ⟨g1, hf⟩ := gd_some hf
  refine x_iald C0 hKC hP (IM_11 K ad) (t0 := 0) rfl g1 dX4_leaves_8 ?_
  refine lv_iload_n hx hb dX4_leaves_9 rfl (lv_at hl 2 rfl) ?_
  refine lv_isub hx hb dX4_leaves_10 ?_
  obtain ⟨g2, hf⟩ := gd_some hf
  refine x_iast C0 hKC hI (EM_loc K ad) hP hS (IM_11 K ad) (t0 := 0) rfl g2 dX4_leaves_11 (fun S3 eS3 H locs hP hS => ?_)
  have hf := nm_at eS3 hf
  refine lv_aload_n hx hb dX4_leaves_12 rfl (lv_at hl 0 rfl) ?_
  refine x_get C0 hKC hP (by decide) (EM_0 K ad S3) rfl in_X4_leaves_X4 16 (by decide) (List.mem_of_getElem? (i := 1) rfl) rfl dX4_leaves_13 ?_
  refine lv_iconst (v := 1) hx hb dX4_leaves_16 (by decide) ?_
  refine lv_dup2_11 hx hb dX4_leaves_17 rfl rfl ?_
  obtain ⟨g4, hf⟩ := gd_some hf
  refine x_iald C0 hKC hP (IM_11 K ad) (t0 := 0) rfl g4 dX4_leaves_18 ?_
  refine lv_iload_n hx hb dX4_leaves_19 rfl (lv_at hl 2 rfl) ?_
  refine lv_iadd hx hb dX4_leaves_20 ?_
  obtain ⟨g5, hf⟩ := gd_some hf
  refine x_iast C0 hKC hI (EM_loc K ad) hP hS (IM_11 K ad) (t0 := 0) rfl g5 dX4_leaves_21 (fun S6 eS6 H locs hP hS => ?_)
  have hf := nm_at eS6 hf
  exact ret_v C0 hP hS (Option.some.inj hf) dX4_leaves_22
theorem m4_leaves (l : Launch) (D : va_G) (K : Nat → ClassId) (ad : Nat → Nat) (hI : INJ NM ad) (S : Mem) (x1 : Int32) (x2 : Int32) {T : Mem} (hf : f4_leaves S x1 x2 = some T) : SysV l yX4_leaves wsX4_leaves rm4_leaves D NM ad (EM K ad) (KM D K) [.ref (ad 0), .int x1, .int x2] S T :=
  met_of (own := RX4) (by decide) rfl rfl (Nat.le_of_ble_eq_true rfl) (fun _ _ s _ _ _ _ ls C0 _ hP hl => w4_leaves hI C0 S x1 x2 hf s.heap [] ls hP va_S.rf hl)
theorem in_X4_leave_X4 : ∀ w ∈ wsX40, w ∈ wsX4_leave := fun _ h => List.mem_cons_of_mem _ (List.mem_append_right _ h)
theorem hd_X4_leave : yX4_leave.cls = RX4 ∧ yX4_leave.cls ≠ "java/lang/invoke/MethodHandle" ∧ yX4_leave.cls ≠ "java/lang/invoke/VarHandle" ∧ (parseMethodDescriptor yX4_leave.desc).map (fun d => d.parameters.length) = some 2 := by decide +kernel
abbrev rm4_leave : Room := { frames := 2, cells := 0, slots := 0, locals := 46 }
set_option maxHeartbeats 4000000 in
set_option maxRecDepth 100000 in
theorem w4_leave {p : Program} {l : Launch} {e : Env} {s : State} {m : MethodId} {args : Array Value} {below : List Frame} {meth : Method} {c : Code} {D : va_G} {K : Nat → ClassId} {ad : Nat → Nat} (hI : INJ NM ad) (C0 : Cx p s m args meth c RX4 wsX4_leave cX4_leave 3 (some .int) (KM D K)) {r : Int32} {T : Mem} : ∀ (S : Mem) (x1 : Int32) (x2 : Int32), f4_leave S x1 x2 = some (r, T) → ∀ (H : Heap) (locs : List Loc) (ls : Array Slot), va_P D vwCl (wl NM ad (EM K ad S)) H → va_S (IW NM ad) s.heap H locs → lv_has ls 3 [(0, .ref (ad 0)), (1, .int x1), (2, .int x2)] → W p l e rm4_leave s m args below meth c H locs 0 0 (MQ below (va_Qi (fun (x : Int32) (u : Mem) => x = r ∧ u = T) (fun u t => va_P D vwCl (wl NM ad (EM K ad u)) t.heap) (IW NM ad)) args s 0 0 (IW NM ad)) (F0 m 0 ls []) := by
  have hx := C0.1
  have hb := C0.2.1
  have hts := C0.2.2.2.2.1
  have hown := C0.2.2.2.1
  have hKC := C0.2.2.2.2.2.2.2
  intro S x1 x2 hf H locs ls hP hS hl
  rw [f4_leave] at hf
  refine lv_aload_n hx hb dX4_leave_0 rfl (lv_at hl 0 rfl) ?_
  refine lv_iload_n hx hb dX4_leave_1 rfl (lv_at hl 1 rfl) ?_
  obtain ⟨v2, h1, hf⟩ := b1_some hf
  refine sys_i hS (sys_runV (As := [.int x1]) (rest := []) C0 KM_ok hKC hP hS (by decide) (EM_0 K ad S) rfl (m4_isHouse l D K ad hI S x1 h1) gX4_leave_X4_isHouse rfl ⟨rfl, rfl⟩ hd_X4_isHouse ⟨Nat.le_of_ble_eq_true rfl, Nat.le_of_ble_eq_true rfl⟩ hl.1 rfl (Nat.le_of_ble_eq_true rfl) dX4_leave_2 ⟨Nat.le_refl _, Nat.le_refl _⟩) (fun H locs hP hS => ?_)
  refine lv_if_eq (tgt := 20) hx hb dX4_leave_5 (by decide) (fun c3 => ?_) (fun c3 => ?_)
  · have hf := ite_t hf c3
    refine lv_iconst (v := (-1)) hx hb dX4_leave_20 (by decide) ?_
    exact ret_i C0 hP hS (congrArg Prod.fst (Option.some.inj hf)) (congrArg Prod.snd (Option.some.inj hf)) dX4_leave_21
  · have hf := ite_f hf c3
    refine lv_iload_n hx hb dX4_leave_8 rfl (lv_at hl 2 rfl) ?_
    refine lv_i2l (v := (Int32.toInt64 x2)) hx hb dX4_leave_9 rfl ?_
    refine lv_lconst (v := 1) hx hb dX4_leave_10 (by decide) ?_
    refine lv_ldc2 (v := 99) hx hb hown (hts _ (List.mem_of_getElem? (i := 1) rfl)) dX4_leave_11 ?_
    obtain ⟨v5, h4, hf⟩ := b1_some hf
    refine sys_i hS (sys_runS (As := [.long (Int32.toInt64 x2), .long 1, .long 99]) (rest := []) C0 KM_ok hP hS (m4_in l D K ad hI S (Int32.toInt64 x2) 1 99 h4) gX4_leave_X4_in rfl ⟨rfl, rfl⟩ hd_X4_in ⟨Nat.le_of_ble_eq_true rfl, Nat.le_of_ble_eq_true rfl⟩ hl.1 rfl (Nat.le_of_ble_eq_true rfl) dX4_leave_14 ⟨Nat.le_refl _, Nat.le_refl _⟩) (fun H locs hP hS => ?_)
    refine lv_if_ne (tgt := 22) hx hb dX4_leave_17 (by decide) (fun c6 => ?_) (fun c6 => ?_)
    · have hf := ite_f hf c6
      refine lv_aload_n hx hb dX4_leave_22 rfl (lv_at hl 0 rfl) ?_
      refine lv_iload_n hx hb dX4_leave_23 rfl (lv_at hl 1 rfl) ?_
      obtain ⟨v8, h7, hf⟩ := b1_some hf
      refine sys_i hS (sys_runV (As := [.int x1]) (rest := []) C0 KM_ok hKC hP hS (by decide) (EM_0 K ad S) rfl (m4_jar l D K ad hI S x1 h7) gX4_leave_X4_jar rfl ⟨rfl, rfl⟩ hd_X4_jar ⟨Nat.le_of_ble_eq_true rfl, Nat.le_of_ble_eq_true rfl⟩ hl.1 rfl (Nat.le_of_ble_eq_true rfl) dX4_leave_24 ⟨Nat.le_refl _, Nat.le_refl _⟩) (fun H locs hP hS => ?_)
      refine lv_iload_n hx hb dX4_leave_27 rfl (lv_at hl 2 rfl) ?_
      refine lv_icmp_ge (tgt := 34) hx hb dX4_leave_28 (by decide) (fun c9 => ?_) (fun c9 => ?_)
      · have hf := ite_t hf c9
        refine lv_aload_n hx hb dX4_leave_34 rfl (lv_at hl 0 rfl) ?_
        refine x_get C0 hKC hP (by decide) (EM_0 K ad S) rfl in_X4_leave_X4 18 (by decide) (List.mem_of_getElem? (i := 2) rfl) rfl dX4_leave_35 ?_
        refine lv_bipush (v := 40) hx hb dX4_leave_38 (by decide) ?_
        refine lv_icmp_ne (tgt := 46) hx hb dX4_leave_40 (by decide) (fun c10 => ?_) (fun c10 => ?_)
        · have hf := ite_f hf c10
          refine lv_aload_n hx hb dX4_leave_46 rfl (lv_at hl 0 rfl) ?_
          obtain ⟨S12, h11, hf⟩ := b1_some hf
          refine sys_v hS (sys_runV (As := []) (rest := []) C0 KM_ok hKC hP hS (by decide) (EM_0 K ad S) rfl (m4_notes l D K ad hI S h11) gX4_leave_X4_notes rfl ⟨rfl, rfl⟩ hd_X4_notes ⟨Nat.le_of_ble_eq_true rfl, Nat.le_of_ble_eq_true rfl⟩ hl.1 rfl (Nat.le_of_ble_eq_true rfl) dX4_leave_47 ⟨Nat.le_refl _, Nat.le_refl _⟩) (fun H locs hP hS => ?_)
          refine lv_aload_n hx hb dX4_leave_50 rfl (lv_at hl 0 rfl) ?_
          refine lv_iload_n hx hb dX4_leave_51 rfl (lv_at hl 1 rfl) ?_
          refine lv_iload_n hx hb dX4_leave_52 rfl (lv_at hl 2 rfl) ?_
          obtain ⟨S14, h13, hf⟩ := b1_some hf
          refine sys_v hS (sys_runV (As := [.int x1, .int x2]) (rest := []) C0 KM_ok hKC hP hS (by decide) (EM_0 K ad S12) rfl (m4_leaves l D K ad hI S12 x1 x2 h13) gX4_leave_X4_leaves rfl ⟨rfl, rfl⟩ hd_X4_leaves ⟨Nat.le_of_ble_eq_true rfl, Nat.le_of_ble_eq_true rfl⟩ hl.1 rfl (Nat.le_of_ble_eq_true rfl) dX4_leave_53 ⟨Nat.le_refl _, Nat.le_refl _⟩) (fun H locs hP hS => ?_)
          refine lv_aload_n hx hb dX4_leave_56 rfl (lv_at hl 0 rfl) ?_
          refine x_get C0 hKC hP (by decide) (EM_0 K ad S14) rfl in_X4_leave_X4 16 (by decide) (List.mem_of_getElem? (i := 3) rfl) rfl dX4_leave_57 ?_
          refine lv_iconst (v := 1) hx hb dX4_leave_60 (by decide) ?_
          obtain ⟨g15, hf⟩ := gd_some hf
          refine x_iald C0 hKC hP (IM_11 K ad) (t0 := 0) rfl g15 dX4_leave_61 ?_
          exact ret_i C0 hP hS (congrArg Prod.fst (Option.some.inj hf)) (congrArg Prod.snd (Option.some.inj hf)) dX4_leave_62
        · have hf := ite_t hf c10
          refine lv_bipush (v := (-2)) hx hb dX4_leave_43 (by decide) ?_
          exact ret_i C0 hP hS (congrArg Prod.fst (Option.some.inj hf)) (congrArg Prod.snd (Option.some.inj hf)) dX4_leave_45
      · have hf := ite_f hf c9
        refine lv_bipush (v := (-4)) hx hb dX4_leave_31 (by decide) ?_
        exact ret_i C0 hP hS (congrArg Prod.fst (Option.some.inj hf)) (congrArg Prod.snd (Option.some.inj hf)) dX4_leave_33
    · have hf := ite_t hf c6
      refine lv_iconst (v := (-1)) hx hb dX4_leave_20 (by decide) ?_
      exact ret_i C0 hP hS (congrArg Prod.fst (Option.some.inj hf)) (congrArg Prod.snd (Option.some.inj hf)) dX4_leave_21
theorem m4_leave (l : Launch) (D : va_G) (K : Nat → ClassId) (ad : Nat → Nat) (hI : INJ NM ad) (S : Mem) (x1 : Int32) (x2 : Int32) {r : Int32} {T : Mem} (hf : f4_leave S x1 x2 = some (r, T)) : SysI l yX4_leave wsX4_leave rm4_leave D NM ad (EM K ad) (KM D K) [.ref (ad 0), .int x1, .int x2] S r T :=
  met_of (own := RX4) (by decide) rfl rfl (Nat.le_of_ble_eq_true rfl) (fun _ _ s _ _ _ _ ls C0 _ hP hl => w4_leave hI C0 S x1 x2 hf s.heap [] ls hP va_S.rf hl)
theorem in_X4_take_X4 : ∀ w ∈ wsX40, w ∈ wsX4_take := fun _ h => List.mem_cons_of_mem _ (List.mem_append_right _ h)
theorem hd_X4_take : yX4_take.cls = RX4 ∧ yX4_take.cls ≠ "java/lang/invoke/MethodHandle" ∧ yX4_take.cls ≠ "java/lang/invoke/VarHandle" ∧ (parseMethodDescriptor yX4_take.desc).map (fun d => d.parameters.length) = some 2 := by decide +kernel
abbrev rm4_take : Room := { frames := 2, cells := 0, slots := 0, locals := 46 }
set_option maxHeartbeats 4000000 in
set_option maxRecDepth 100000 in
theorem w4_take {p : Program} {l : Launch} {e : Env} {s : State} {m : MethodId} {args : Array Value} {below : List Frame} {meth : Method} {c : Code} {D : va_G} {K : Nat → ClassId} {ad : Nat → Nat} (hI : INJ NM ad) (C0 : Cx p s m args meth c RX4 wsX4_take cX4_take 3 (some .int) (KM D K)) {r : Int32} {T : Mem} : ∀ (S : Mem) (x1 : Int32) (x2 : Int32), f4_take S x1 x2 = some (r, T) → ∀ (H : Heap) (locs : List Loc) (ls : Array Slot), va_P D vwCl (wl NM ad (EM K ad S)) H → va_S (IW NM ad) s.heap H locs → lv_has ls 3 [(0, .ref (ad 0)), (1, .int x1), (2, .int x2)] → W p l e rm4_take s m args below meth c H locs 0 0 (MQ below (va_Qi (fun (x : Int32) (u : Mem) => x = r ∧ u = T) (fun u t => va_P D vwCl (wl NM ad (EM K ad u)) t.heap) (IW NM ad)) args s 0 0 (IW NM ad)) (F0 m 0 ls []) := by
  have hx := C0.1
  have hb := C0.2.1
  have hts := C0.2.2.2.2.1
  have hown := C0.2.2.2.1
  have hKC := C0.2.2.2.2.2.2.2
  intro S x1 x2 hf H locs ls hP hS hl
  rw [f4_take] at hf
  refine lv_aload_n hx hb dX4_take_0 rfl (lv_at hl 0 rfl) ?_
  refine lv_iload_n hx hb dX4_take_1 rfl (lv_at hl 1 rfl) ?_
  obtain ⟨v2, h1, hf⟩ := b1_some hf
  refine sys_i hS (sys_runV (As := [.int x1]) (rest := []) C0 KM_ok hKC hP hS (by decide) (EM_0 K ad S) rfl (m4_isHouse l D K ad hI S x1 h1) gX4_take_X4_isHouse rfl ⟨rfl, rfl⟩ hd_X4_isHouse ⟨Nat.le_of_ble_eq_true rfl, Nat.le_of_ble_eq_true rfl⟩ hl.1 rfl (Nat.le_of_ble_eq_true rfl) dX4_take_2 ⟨Nat.le_refl _, Nat.le_refl _⟩) (fun H locs hP hS => ?_)
  refine lv_if_eq (tgt := 20) hx hb dX4_take_5 (by decide) (fun c3 => ?_) (fun c3 => ?_)
  · have hf := ite_t hf c3
    refine lv_iconst (v := (-1)) hx hb dX4_take_20 (by decide) ?_
    exact ret_i C0 hP hS (congrArg Prod.fst (Option.some.inj hf)) (congrArg Prod.snd (Option.some.inj hf)) dX4_take_21
  · have hf := ite_f hf c3
    refine lv_iload_n hx hb dX4_take_8 rfl (lv_at hl 2 rfl) ?_
    refine lv_i2l (v := (Int32.toInt64 x2)) hx hb dX4_take_9 rfl ?_
    refine lv_lconst (v := 1) hx hb dX4_take_10 (by decide) ?_
    refine lv_ldc2 (v := 99) hx hb hown (hts _ (List.mem_of_getElem? (i := 1) rfl)) dX4_take_11 ?_
    obtain ⟨v5, h4, hf⟩ := b1_some hf
    refine sys_i hS (sys_runS (As := [.long (Int32.toInt64 x2), .long 1, .long 99]) (rest := []) C0 KM_ok hP hS (m4_in l D K ad hI S (Int32.toInt64 x2) 1 99 h4) gX4_take_X4_in rfl ⟨rfl, rfl⟩ hd_X4_in ⟨Nat.le_of_ble_eq_true rfl, Nat.le_of_ble_eq_true rfl⟩ hl.1 rfl (Nat.le_of_ble_eq_true rfl) dX4_take_14 ⟨Nat.le_refl _, Nat.le_refl _⟩) (fun H locs hP hS => ?_)
    refine lv_if_ne (tgt := 22) hx hb dX4_take_17 (by decide) (fun c6 => ?_) (fun c6 => ?_)
    · have hf := ite_f hf c6
      refine lv_aload_n hx hb dX4_take_22 rfl (lv_at hl 0 rfl) ?_
      refine x_get C0 hKC hP (by decide) (EM_0 K ad S) rfl in_X4_take_X4 16 (by decide) (List.mem_of_getElem? (i := 2) rfl) rfl dX4_take_23 ?_
      refine lv_iconst (v := 1) hx hb dX4_take_26 (by decide) ?_
      obtain ⟨g7, hf⟩ := gd_some hf
      refine x_iald C0 hKC hP (IM_11 K ad) (t0 := 0) rfl g7 dX4_take_27 ?_
      refine lv_iload_n hx hb dX4_take_28 rfl (lv_at hl 2 rfl) ?_
      refine lv_icmp_lt (tgt := 44) hx hb dX4_take_29 (by decide) (fun c8 => ?_) (fun c8 => ?_)
      · have hf := ite_t hf c8
        refine lv_bipush (v := (-4)) hx hb dX4_take_44 (by decide) ?_
        exact ret_i C0 hP hS (congrArg Prod.fst (Option.some.inj hf)) (congrArg Prod.snd (Option.some.inj hf)) dX4_take_46
      · have hf := ite_f hf c8
        refine lv_aload_n hx hb dX4_take_32 rfl (lv_at hl 0 rfl) ?_
        refine lv_iload_n hx hb dX4_take_33 rfl (lv_at hl 1 rfl) ?_
        obtain ⟨v10, h9, hf⟩ := b1_some hf
        refine sys_i hS (sys_runV (As := [.int x1]) (rest := []) C0 KM_ok hKC hP hS (by decide) (EM_0 K ad S) rfl (m4_jar l D K ad hI S x1 h9) gX4_take_X4_jar rfl ⟨rfl, rfl⟩ hd_X4_jar ⟨Nat.le_of_ble_eq_true rfl, Nat.le_of_ble_eq_true rfl⟩ hl.1 rfl (Nat.le_of_ble_eq_true rfl) dX4_take_34 ⟨Nat.le_refl _, Nat.le_refl _⟩) (fun H locs hP hS => ?_)
        refine lv_iload_n hx hb dX4_take_37 rfl (lv_at hl 2 rfl) ?_
        refine lv_iadd hx hb dX4_take_38 ?_
        refine lv_bipush (v := 99) hx hb dX4_take_39 (by decide) ?_
        refine lv_icmp_le (tgt := 47) hx hb dX4_take_41 (by decide) (fun c11 => ?_) (fun c11 => ?_)
        · have hf := ite_t hf c11
          refine lv_aload_n hx hb dX4_take_47 rfl (lv_at hl 0 rfl) ?_
          refine x_get C0 hKC hP (by decide) (EM_0 K ad S) rfl in_X4_take_X4 18 (by decide) (List.mem_of_getElem? (i := 3) rfl) rfl dX4_take_48 ?_
          refine lv_bipush (v := 40) hx hb dX4_take_51 (by decide) ?_
          refine lv_icmp_ne (tgt := 59) hx hb dX4_take_53 (by decide) (fun c12 => ?_) (fun c12 => ?_)
          · have hf := ite_f hf c12
            refine lv_aload_n hx hb dX4_take_59 rfl (lv_at hl 0 rfl) ?_
            obtain ⟨S14, h13, hf⟩ := b1_some hf
            refine sys_v hS (sys_runV (As := []) (rest := []) C0 KM_ok hKC hP hS (by decide) (EM_0 K ad S) rfl (m4_notes l D K ad hI S h13) gX4_take_X4_notes rfl ⟨rfl, rfl⟩ hd_X4_notes ⟨Nat.le_of_ble_eq_true rfl, Nat.le_of_ble_eq_true rfl⟩ hl.1 rfl (Nat.le_of_ble_eq_true rfl) dX4_take_60 ⟨Nat.le_refl _, Nat.le_refl _⟩) (fun H locs hP hS => ?_)
            refine lv_aload_n hx hb dX4_take_63 rfl (lv_at hl 0 rfl) ?_
            refine lv_iload_n hx hb dX4_take_64 rfl (lv_at hl 1 rfl) ?_
            refine lv_iload_n hx hb dX4_take_65 rfl (lv_at hl 2 rfl) ?_
            refine lv_ineg hx hb dX4_take_66 ?_
            obtain ⟨S16, h15, hf⟩ := b1_some hf
            refine sys_v hS (sys_runV (As := [.int x1, .int (-x2)]) (rest := []) C0 KM_ok hKC hP hS (by decide) (EM_0 K ad S14) rfl (m4_leaves l D K ad hI S14 x1 (-x2) h15) gX4_take_X4_leaves rfl ⟨rfl, rfl⟩ hd_X4_leaves ⟨Nat.le_of_ble_eq_true rfl, Nat.le_of_ble_eq_true rfl⟩ hl.1 rfl (Nat.le_of_ble_eq_true rfl) dX4_take_67 ⟨Nat.le_refl _, Nat.le_refl _⟩) (fun H locs hP hS => ?_)
            refine lv_aload_n hx hb dX4_take_70 rfl (lv_at hl 0 rfl) ?_
            refine lv_iload_n hx hb dX4_take_71 rfl (lv_at hl 1 rfl) ?_
            obtain ⟨v18, h17, hf⟩ := b1_some hf
            refine sys_i hS (sys_runV (As := [.int x1]) (rest := []) C0 KM_ok hKC hP hS (by decide) (EM_0 K ad S16) rfl (m4_jar l D K ad hI S16 x1 h17) gX4_take_X4_jar rfl ⟨rfl, rfl⟩ hd_X4_jar ⟨Nat.le_of_ble_eq_true rfl, Nat.le_of_ble_eq_true rfl⟩ hl.1 rfl (Nat.le_of_ble_eq_true rfl) dX4_take_72 ⟨Nat.le_refl _, Nat.le_refl _⟩) (fun H locs hP hS => ?_)
            exact ret_i C0 hP hS (congrArg Prod.fst (Option.some.inj hf)) (congrArg Prod.snd (Option.some.inj hf)) dX4_take_75
          · have hf := ite_t hf c12
            refine lv_bipush (v := (-2)) hx hb dX4_take_56 (by decide) ?_
            exact ret_i C0 hP hS (congrArg Prod.fst (Option.some.inj hf)) (congrArg Prod.snd (Option.some.inj hf)) dX4_take_58
        · have hf := ite_f hf c11
          refine lv_bipush (v := (-4)) hx hb dX4_take_44 (by decide) ?_
          exact ret_i C0 hP hS (congrArg Prod.fst (Option.some.inj hf)) (congrArg Prod.snd (Option.some.inj hf)) dX4_take_46
    · have hf := ite_t hf c6
      refine lv_iconst (v := (-1)) hx hb dX4_take_20 (by decide) ?_
      exact ret_i C0 hP hS (congrArg Prod.fst (Option.some.inj hf)) (congrArg Prod.snd (Option.some.inj hf)) dX4_take_21
theorem m4_take (l : Launch) (D : va_G) (K : Nat → ClassId) (ad : Nat → Nat) (hI : INJ NM ad) (S : Mem) (x1 : Int32) (x2 : Int32) {r : Int32} {T : Mem} (hf : f4_take S x1 x2 = some (r, T)) : SysI l yX4_take wsX4_take rm4_take D NM ad (EM K ad) (KM D K) [.ref (ad 0), .int x1, .int x2] S r T :=
  met_of (own := RX4) (by decide) rfl rfl (Nat.le_of_ble_eq_true rfl) (fun _ _ s _ _ _ _ ls C0 _ hP hl => w4_take hI C0 S x1 x2 hf s.heap [] ls hP va_S.rf hl)
theorem in_X4_undo_X4 : ∀ w ∈ wsX40, w ∈ wsX4_undo := fun _ h => List.mem_cons_of_mem _ (List.mem_append_right _ h)
theorem hd_X4_undo : yX4_undo.cls = RX4 ∧ yX4_undo.cls ≠ "java/lang/invoke/MethodHandle" ∧ yX4_undo.cls ≠ "java/lang/invoke/VarHandle" ∧ (parseMethodDescriptor yX4_undo.desc).map (fun d => d.parameters.length) = some 1 := by decide +kernel
abbrev rm4_undo : Room := { frames := 1, cells := 0, slots := 0, locals := 25 }
set_option maxHeartbeats 4000000 in
set_option maxRecDepth 100000 in
theorem w4_undo_b58 {p : Program} {l : Launch} {e : Env} {s : State} {m : MethodId} {args : Array Value} {below : List Frame} {meth : Method} {c : Code} {D : va_G} {K : Nat → ClassId} {ad : Nat → Nat} (hI : INJ NM ad) (C0 : Cx p s m args meth c RX4 wsX4_undo cX4_undo 4 (some .int) (KM D K)) {r : Int32} {T : Mem} : ∀ (S : Mem) (x1 : Int32) (x2 : Int32), f4_undo_b58 S x1 x2 = some (r, T) → ∀ (H : Heap) (locs : List Loc) (ls : Array Slot), va_P D vwCl (wl NM ad (EM K ad S)) H → va_S (IW NM ad) s.heap H locs → lv_has ls 4 [(0, .ref (ad 0)), (1, .int x1), (2, .int x2)] → W p l e rm4_undo s m args below meth c H locs 0 0 (MQ below (va_Qi (fun (x : Int32) (u : Mem) => x = r ∧ u = T) (fun u t => va_P D vwCl (wl NM ad (EM K ad u)) t.heap) (IW NM ad)) args s 0 0 (IW NM ad)) (F0 m 58 ls []) := by
  have hx := C0.1
  have hb := C0.2.1
  have hts := C0.2.2.2.2.1
  have hown := C0.2.2.2.1
  have hKC := C0.2.2.2.2.2.2.2
  intro S x1 x2 hf H locs ls hP hS hl
  rw [f4_undo_b58] at hf
  refine lv_aload_n hx hb dX4_undo_58 rfl (lv_at hl 0 rfl) ?_
  refine lv_iload_n hx hb dX4_undo_59 rfl (lv_at hl 1 rfl) ?_
  refine x_puti C0 hKC hI (EM_loc K ad) hP hS (by decide) (EM_0 K ad S) rfl tyX4 tyX4_ok nmX4 in_X4_undo_X4 18 (by decide) (List.mem_of_getElem? (i := 1) rfl) rfl (tyX4_ok 18 (by decide)) (Nat.le_of_ble_eq_true rfl) (EM_p18 K ad S _) dX4_undo_60 (fun S1 eS1 H locs hP hS => ?_)
  have hf := nm_at eS1 hf
  refine lv_iload_n hx hb dX4_undo_63 rfl (lv_at hl 2 rfl) ?_
  exact ret_i C0 hP hS (congrArg Prod.fst (Option.some.inj hf)) (congrArg Prod.snd (Option.some.inj hf)) dX4_undo_64
set_option maxHeartbeats 4000000 in
set_option maxRecDepth 100000 in
theorem w4_undo_b25 {p : Program} {l : Launch} {e : Env} {s : State} {m : MethodId} {args : Array Value} {below : List Frame} {meth : Method} {c : Code} {D : va_G} {K : Nat → ClassId} {ad : Nat → Nat} (hI : INJ NM ad) (C0 : Cx p s m args meth c RX4 wsX4_undo cX4_undo 4 (some .int) (KM D K)) {r : Int32} {T : Mem} : ∀ (n : Nat), ∀ (S : Mem) (x1 : Int32) (x2 : Int32) (x3 : Int32), f4_undo_b25 n S x1 x2 x3 = some (r, T) → ∀ (H : Heap) (locs : List Loc) (ls : Array Slot), va_P D vwCl (wl NM ad (EM K ad S)) H → va_S (IW NM ad) s.heap H locs → lv_has ls 4 [(0, .ref (ad 0)), (1, .int x1), (2, .int x2), (3, .int x3)] → W p l e rm4_undo s m args below meth c H locs 0 0 (MQ below (va_Qi (fun (x : Int32) (u : Mem) => x = r ∧ u = T) (fun u t => va_P D vwCl (wl NM ad (EM K ad u)) t.heap) (IW NM ad)) args s 0 0 (IW NM ad)) (F0 m 25 ls []) := by
  have hx := C0.1
  have hb := C0.2.1
  have hts := C0.2.2.2.2.1
  have hown := C0.2.2.2.1
  have hKC := C0.2.2.2.2.2.2.2
  intro n
  induction n with
  | zero =>
    intro S x1 x2 x3 hf
    rw [f4_undo_b25] at hf
    cases hf
  | succ n ih =>
    intro S x1 x2 x3 hf H locs ls hP hS hl
    rw [f4_undo_b25] at hf
    refine lv_iload_n hx hb dX4_undo_25 rfl (lv_at hl 3 rfl) ?_
    refine lv_bipush (v := 9) hx hb dX4_undo_26 (by decide) ?_
    refine lv_icmp_ge (tgt := 58) hx hb dX4_undo_28 (by decide) (fun c1 => ?_) (fun c1 => ?_)
    · have hf := ite_t hf c1
      exact w4_undo_b58 hI C0 S x1 x2 hf H locs ls hP hS (lv_sub hl [0, 1, 2] rfl)
    · have hf := ite_f hf c1
      refine lv_iload_n hx hb dX4_undo_31 rfl (lv_at hl 2 rfl) ?_
      refine lv_if_le (tgt := 58) hx hb dX4_undo_32 (by decide) (fun c2 => ?_) (fun c2 => ?_)
      · have hf := ite_t hf c2
        exact w4_undo_b58 hI C0 S x1 x2 hf H locs ls hP hS (lv_sub hl [0, 1, 2] rfl)
      · have hf := ite_f hf c2
        refine lv_aload_n hx hb dX4_undo_35 rfl (lv_at hl 0 rfl) ?_
        refine x_get C0 hKC hP (by decide) (EM_0 K ad S) rfl in_X4_undo_X4 16 (by decide) (List.mem_of_getElem? (i := 2) rfl) rfl dX4_undo_36 ?_
        refine lv_iload_n hx hb dX4_undo_39 rfl (lv_at hl 3 rfl) ?_
        refine lv_aload_n hx hb dX4_undo_40 rfl (lv_at hl 0 rfl) ?_
        refine x_get C0 hKC hP (by decide) (EM_0 K ad S) rfl in_X4_undo_X4 17 (by decide) (List.mem_of_getElem? (i := 3) rfl) rfl dX4_undo_41 ?_
        refine lv_bipush (v := 9) hx hb dX4_undo_44 (by decide) ?_
        refine lv_iload_n hx hb dX4_undo_46 rfl (lv_at hl 1 rfl) ?_
        refine lv_imul hx hb dX4_undo_47 ?_
        refine lv_iload_n hx hb dX4_undo_48 rfl (lv_at hl 3 rfl) ?_
        refine lv_iadd hx hb dX4_undo_49 ?_
        obtain ⟨g3, hf⟩ := gd_some hf
        refine x_iald C0 hKC hP (IM_12 K ad) (t0 := 0) rfl g3 dX4_undo_50 ?_
        obtain ⟨g4, hf⟩ := gd_some hf
        refine x_iast C0 hKC hI (EM_loc K ad) hP hS (IM_11 K ad) (t0 := 0) rfl g4 dX4_undo_51 (fun S5 eS5 H locs hP hS => ?_)
        have hf := nm_at eS5 hf
        obtain ⟨v6, ev6⟩ : ∃ y : Int32, y = x3 + 1 := ⟨_, rfl⟩
        have hf := nm_at ev6 hf
        refine lv_iinc (v := v6) (lv' := [(3, .int v6), (0, .ref (ad 0)), (1, .int x1), (2, .int x2)]) hx hb dX4_undo_52 hl (k := 3) rfl (by rw [ev6]; rfl) (by decide) rfl (fun ls hl => ?_)
        refine lv_goto (tgt := 25) hx hb dX4_undo_55 (by decide) ?_
        exact ih S5 x1 x2 v6 hf H locs ls hP hS (lv_sub hl [1, 2, 3, 0] rfl)
set_option maxHeartbeats 4000000 in
set_option maxRecDepth 100000 in
theorem w4_undo {p : Program} {l : Launch} {e : Env} {s : State} {m : MethodId} {args : Array Value} {below : List Frame} {meth : Method} {c : Code} {D : va_G} {K : Nat → ClassId} {ad : Nat → Nat} (hI : INJ NM ad) (C0 : Cx p s m args meth c RX4 wsX4_undo cX4_undo 4 (some .int) (KM D K)) {r : Int32} {T : Mem} : ∀ (S : Mem) (x1 : Int32), f4_undo S x1 = some (r, T) → ∀ (H : Heap) (locs : List Loc) (ls : Array Slot), va_P D vwCl (wl NM ad (EM K ad S)) H → va_S (IW NM ad) s.heap H locs → lv_has ls 4 [(0, .ref (ad 0)), (1, .int x1)] → W p l e rm4_undo s m args below meth c H locs 0 0 (MQ below (va_Qi (fun (x : Int32) (u : Mem) => x = r ∧ u = T) (fun u t => va_P D vwCl (wl NM ad (EM K ad u)) t.heap) (IW NM ad)) args s 0 0 (IW NM ad)) (F0 m 0 ls []) := by
  have hx := C0.1
  have hb := C0.2.1
  have hts := C0.2.2.2.2.1
  have hown := C0.2.2.2.1
  have hKC := C0.2.2.2.2.2.2.2
  intro S x1 hf H locs ls hP hS hl
  rw [f4_undo] at hf
  refine lv_iload_n hx hb dX4_undo_0 rfl (lv_at hl 1 rfl) ?_
  refine lv_i2l (v := (Int32.toInt64 x1)) hx hb dX4_undo_1 rfl ?_
  refine lv_lconst (v := 0) hx hb dX4_undo_2 (by decide) ?_
  refine lv_aload_n hx hb dX4_undo_3 rfl (lv_at hl 0 rfl) ?_
  refine x_get C0 hKC hP (by decide) (EM_0 K ad S) rfl in_X4_undo_X4 18 (by decide) (List.mem_of_getElem? (i := 1) rfl) rfl dX4_undo_4 ?_
  refine lv_i2l (v := (Int32.toInt64 (gi S 0 18))) hx hb dX4_undo_7 rfl ?_
  obtain ⟨v2, h1, hf⟩ := b1_some hf
  refine sys_i hS (sys_runS (As := [.long (Int32.toInt64 x1), .long 0, .long (Int32.toInt64 (gi S 0 18))]) (rest := []) C0 KM_ok hP hS (m4_in l D K ad hI S (Int32.toInt64 x1) 0 (Int32.toInt64 (gi S 0 18)) h1) gX4_undo_X4_in rfl ⟨rfl, rfl⟩ hd_X4_in ⟨Nat.le_of_ble_eq_true rfl, Nat.le_of_ble_eq_true rfl⟩ hl.1 rfl (Nat.le_of_ble_eq_true rfl) dX4_undo_8 ⟨Nat.le_refl _, Nat.le_refl _⟩) (fun H locs hP hS => ?_)
  refine lv_if_ne (tgt := 16) hx hb dX4_undo_11 (by decide) (fun c3 => ?_) (fun c3 => ?_)
  · have hf := ite_f hf c3
    refine lv_aload_n hx hb dX4_undo_16 rfl (lv_at hl 0 rfl) ?_
    refine x_get C0 hKC hP (by decide) (EM_0 K ad S) rfl in_X4_undo_X4 18 (by decide) (List.mem_of_getElem? (i := 1) rfl) rfl dX4_undo_17 ?_
    refine lv_iload_n hx hb dX4_undo_20 rfl (lv_at hl 1 rfl) ?_
    refine lv_isub hx hb dX4_undo_21 ?_
    refine lv_topi (fun v4 ev4 => ?_)
    have hf := nm_at ev4 hf
    refine lv_istore_n (lv' := [(2, .int v4), (0, .ref (ad 0)), (1, .int x1)]) hx hb dX4_undo_22 rfl hl (by decide) rfl (fun ls hl => ?_)
    refine lv_iconst (v := 0) hx hb dX4_undo_23 (by decide) ?_
    refine lv_istore_n (lv' := [(3, .int 0), (2, .int v4), (0, .ref (ad 0)), (1, .int x1)]) hx hb dX4_undo_24 rfl hl (by decide) rfl (fun ls hl => ?_)
    exact w4_undo_b25 hI C0 FU S x1 v4 0 hf H locs ls hP hS (lv_sub hl [2, 3, 1, 0] rfl)
  · have hf := ite_t hf c3
    refine lv_iconst (v := (-1)) hx hb dX4_undo_14 (by decide) ?_
    exact ret_i C0 hP hS (congrArg Prod.fst (Option.some.inj hf)) (congrArg Prod.snd (Option.some.inj hf)) dX4_undo_15
theorem m4_undo (l : Launch) (D : va_G) (K : Nat → ClassId) (ad : Nat → Nat) (hI : INJ NM ad) (S : Mem) (x1 : Int32) {r : Int32} {T : Mem} (hf : f4_undo S x1 = some (r, T)) : SysI l yX4_undo wsX4_undo rm4_undo D NM ad (EM K ad) (KM D K) [.ref (ad 0), .int x1] S r T :=
  met_of (own := RX4) (by decide) rfl rfl (Nat.le_of_ble_eq_true rfl) (fun _ _ s _ _ _ _ ls C0 _ hP hl => w4_undo hI C0 S x1 hf s.heap [] ls hP va_S.rf hl)
theorem in_X4_keep_X4 : ∀ w ∈ wsX40, w ∈ wsX4_keep := fun _ h => List.mem_cons_of_mem _ (List.mem_append_right _ h)
theorem hd_X4_keep : yX4_keep.cls = RX4 ∧ yX4_keep.cls ≠ "java/lang/invoke/MethodHandle" ∧ yX4_keep.cls ≠ "java/lang/invoke/VarHandle" ∧ (parseMethodDescriptor yX4_keep.desc).map (fun d => d.parameters.length) = some 1 := by decide +kernel
abbrev rm4_keep : Room := { frames := 1, cells := 0, slots := 0, locals := 25 }
set_option maxHeartbeats 4000000 in
set_option maxRecDepth 100000 in
theorem w4_keep_b137 {p : Program} {l : Launch} {e : Env} {s : State} {m : MethodId} {args : Array Value} {below : List Frame} {meth : Method} {c : Code} {D : va_G} {K : Nat → ClassId} {ad : Nat → Nat} (hI : INJ NM ad) (C0 : Cx p s m args meth c RX4 wsX4_keep cX4_keep 4 (some .int) (KM D K)) {r : Int32} {T : Mem} : ∀ (n : Nat), ∀ (S : Mem) (x1 : Int32) (x2 : Int32) (x3 : Int32), f4_keep_b137 n S x1 x2 x3 = some (r, T) → ∀ (H : Heap) (locs : List Loc) (ls : Array Slot), va_P D vwCl (wl NM ad (EM K ad S)) H → va_S (IW NM ad) s.heap H locs → lv_has ls 4 [(0, .ref (ad 0)), (1, .int x1), (2, .int x2), (3, .int x3)] → W p l e rm4_keep s m args below meth c H locs 0 0 (MQ below (va_Qi (fun (x : Int32) (u : Mem) => x = r ∧ u = T) (fun u t => va_P D vwCl (wl NM ad (EM K ad u)) t.heap) (IW NM ad)) args s 0 0 (IW NM ad)) (F0 m 137 ls []) := by
  have hx := C0.1
  have hb := C0.2.1
  have hts := C0.2.2.2.2.1
  have hown := C0.2.2.2.1
  have hKC := C0.2.2.2.2.2.2.2
  intro n
  induction n with
  | zero =>
    intro S x1 x2 x3 hf
    rw [f4_keep_b137] at hf
    cases hf
  | succ n ih =>
    intro S x1 x2 x3 hf H locs ls hP hS hl
    rw [f4_keep_b137] at hf
    refine lv_iload_n hx hb dX4_keep_137 rfl (lv_at hl 3 rfl) ?_
    refine lv_sipush (v := 360) hx hb dX4_keep_138 (by decide) ?_
    refine lv_icmp_ge (tgt := 167) hx hb dX4_keep_141 (by decide) (fun c1 => ?_) (fun c1 => ?_)
    · have hf := ite_t hf c1
      refine lv_aload_n hx hb dX4_keep_167 rfl (lv_at hl 0 rfl) ?_
      refine x_get C0 hKC hP (by decide) (EM_0 K ad S) rfl in_X4_keep_X4 19 (by decide) (List.mem_of_getElem? (i := 9) rfl) rfl dX4_keep_168 ?_
      refine lv_iload_n hx hb dX4_keep_171 rfl (lv_at hl 1 rfl) ?_
      refine lv_aload_n hx hb dX4_keep_172 rfl (lv_at hl 0 rfl) ?_
      refine x_get C0 hKC hP (by decide) (EM_0 K ad S) rfl in_X4_keep_X4 18 (by decide) (List.mem_of_getElem? (i := 10) rfl) rfl dX4_keep_173 ?_
      obtain ⟨g2, hf⟩ := gd_some hf
      refine x_iast C0 hKC hI (EM_loc K ad) hP hS (IM_13 K ad) (t0 := 0) rfl g2 dX4_keep_176 (fun S3 eS3 H locs hP hS => ?_)
      have hf := nm_at eS3 hf
      refine lv_aload_n hx hb dX4_keep_177 rfl (lv_at hl 0 rfl) ?_
      refine x_get C0 hKC hP (by decide) (EM_0 K ad S3) rfl in_X4_keep_X4 18 (by decide) (List.mem_of_getElem? (i := 10) rfl) rfl dX4_keep_178 ?_
      exact ret_i C0 hP hS (congrArg Prod.fst (Option.some.inj hf)) (congrArg Prod.snd (Option.some.inj hf)) dX4_keep_181
    · have hf := ite_f hf c1
      refine lv_aload_n hx hb dX4_keep_144 rfl (lv_at hl 0 rfl) ?_
      refine x_get C0 hKC hP (by decide) (EM_0 K ad S) rfl in_X4_keep_X4 20 (by decide) (List.mem_of_getElem? (i := 3) rfl) rfl dX4_keep_145 ?_
      refine lv_iload_n hx hb dX4_keep_148 rfl (lv_at hl 2 rfl) ?_
      refine lv_bipush (v := 31) hx hb dX4_keep_149 (by decide) ?_
      refine lv_iadd hx hb dX4_keep_151 ?_
      refine lv_iload_n hx hb dX4_keep_152 rfl (lv_at hl 3 rfl) ?_
      refine lv_iadd hx hb dX4_keep_153 ?_
      refine lv_aload_n hx hb dX4_keep_154 rfl (lv_at hl 0 rfl) ?_
      refine x_get C0 hKC hP (by decide) (EM_0 K ad S) rfl in_X4_keep_X4 17 (by decide) (List.mem_of_getElem? (i := 8) rfl) rfl dX4_keep_155 ?_
      refine lv_iload_n hx hb dX4_keep_158 rfl (lv_at hl 3 rfl) ?_
      obtain ⟨g4, hf⟩ := gd_some hf
      refine x_iald C0 hKC hP (IM_12 K ad) (t0 := 0) rfl g4 dX4_keep_159 ?_
      obtain ⟨g5, hf⟩ := gd_some hf
      refine x_iast C0 hKC hI (EM_loc K ad) hP hS (IM_14 K ad) (t0 := 0) rfl g5 dX4_keep_160 (fun S6 eS6 H locs hP hS => ?_)
      have hf := nm_at eS6 hf
      obtain ⟨v7, ev7⟩ : ∃ y : Int32, y = x3 + 1 := ⟨_, rfl⟩
      have hf := nm_at ev7 hf
      refine lv_iinc (v := v7) (lv' := [(3, .int v7), (0, .ref (ad 0)), (1, .int x1), (2, .int x2)]) hx hb dX4_keep_161 hl (k := 3) rfl (by rw [ev7]; rfl) (by decide) rfl (fun ls hl => ?_)
      refine lv_goto (tgt := 137) hx hb dX4_keep_164 (by decide) ?_
      exact ih S6 x1 x2 v7 hf H locs ls hP hS (lv_sub hl [1, 2, 3, 0] rfl)
set_option maxHeartbeats 4000000 in
set_option maxRecDepth 100000 in
theorem w4_keep_b106 {p : Program} {l : Launch} {e : Env} {s : State} {m : MethodId} {args : Array Value} {below : List Frame} {meth : Method} {c : Code} {D : va_G} {K : Nat → ClassId} {ad : Nat → Nat} (hI : INJ NM ad) (C0 : Cx p s m args meth c RX4 wsX4_keep cX4_keep 4 (some .int) (KM D K)) {r : Int32} {T : Mem} : ∀ (n : Nat), ∀ (S : Mem) (x1 : Int32) (x2 : Int32) (x3 : Int32), f4_keep_b106 n S x1 x2 x3 = some (r, T) → ∀ (H : Heap) (locs : List Loc) (ls : Array Slot), va_P D vwCl (wl NM ad (EM K ad S)) H → va_S (IW NM ad) s.heap H locs → lv_has ls 4 [(0, .ref (ad 0)), (1, .int x1), (2, .int x2), (3, .int x3)] → W p l e rm4_keep s m args below meth c H locs 0 0 (MQ below (va_Qi (fun (x : Int32) (u : Mem) => x = r ∧ u = T) (fun u t => va_P D vwCl (wl NM ad (EM K ad u)) t.heap) (IW NM ad)) args s 0 0 (IW NM ad)) (F0 m 106 ls []) := by
  have hx := C0.1
  have hb := C0.2.1
  have hts := C0.2.2.2.2.1
  have hown := C0.2.2.2.1
  have hKC := C0.2.2.2.2.2.2.2
  intro n
  induction n with
  | zero =>
    intro S x1 x2 x3 hf
    rw [f4_keep_b106] at hf
    cases hf
  | succ n ih =>
    intro S x1 x2 x3 hf H locs ls hP hS hl
    rw [f4_keep_b106] at hf
    refine lv_iload_n hx hb dX4_keep_106 rfl (lv_at hl 3 rfl) ?_
    refine lv_bipush (v := 9) hx hb dX4_keep_107 (by decide) ?_
    refine lv_icmp_ge (tgt := 135) hx hb dX4_keep_109 (by decide) (fun c1 => ?_) (fun c1 => ?_)
    · have hf := ite_t hf c1
      refine lv_iconst (v := 0) hx hb dX4_keep_135 (by decide) ?_
      refine lv_istore_n (lv' := [(3, .int 0), (0, .ref (ad 0)), (1, .int x1), (2, .int x2)]) hx hb dX4_keep_136 rfl hl (by decide) rfl (fun ls hl => ?_)
      exact w4_keep_b137 hI C0 FU S x1 x2 0 hf H locs ls hP hS (lv_sub hl [1, 2, 3, 0] rfl)
    · have hf := ite_f hf c1
      refine lv_aload_n hx hb dX4_keep_112 rfl (lv_at hl 0 rfl) ?_
      refine x_get C0 hKC hP (by decide) (EM_0 K ad S) rfl in_X4_keep_X4 20 (by decide) (List.mem_of_getElem? (i := 3) rfl) rfl dX4_keep_113 ?_
      refine lv_iload_n hx hb dX4_keep_116 rfl (lv_at hl 2 rfl) ?_
      refine lv_bipush (v := 22) hx hb dX4_keep_117 (by decide) ?_
      refine lv_iadd hx hb dX4_keep_119 ?_
      refine lv_iload_n hx hb dX4_keep_120 rfl (lv_at hl 3 rfl) ?_
      refine lv_iadd hx hb dX4_keep_121 ?_
      refine lv_aload_n hx hb dX4_keep_122 rfl (lv_at hl 0 rfl) ?_
      refine x_get C0 hKC hP (by decide) (EM_0 K ad S) rfl in_X4_keep_X4 16 (by decide) (List.mem_of_getElem? (i := 7) rfl) rfl dX4_keep_123 ?_
      refine lv_iload_n hx hb dX4_keep_126 rfl (lv_at hl 3 rfl) ?_
      obtain ⟨g2, hf⟩ := gd_some hf
      refine x_iald C0 hKC hP (IM_11 K ad) (t0 := 0) rfl g2 dX4_keep_127 ?_
      obtain ⟨g3, hf⟩ := gd_some hf
      refine x_iast C0 hKC hI (EM_loc K ad) hP hS (IM_14 K ad) (t0 := 0) rfl g3 dX4_keep_128 (fun S4 eS4 H locs hP hS => ?_)
      have hf := nm_at eS4 hf
      obtain ⟨v5, ev5⟩ : ∃ y : Int32, y = x3 + 1 := ⟨_, rfl⟩
      have hf := nm_at ev5 hf
      refine lv_iinc (v := v5) (lv' := [(3, .int v5), (0, .ref (ad 0)), (1, .int x1), (2, .int x2)]) hx hb dX4_keep_129 hl (k := 3) rfl (by rw [ev5]; rfl) (by decide) rfl (fun ls hl => ?_)
      refine lv_goto (tgt := 106) hx hb dX4_keep_132 (by decide) ?_
      exact ih S4 x1 x2 v5 hf H locs ls hP hS (lv_sub hl [1, 2, 3, 0] rfl)
set_option maxHeartbeats 4000000 in
set_option maxRecDepth 100000 in
theorem w4_keep_b42 {p : Program} {l : Launch} {e : Env} {s : State} {m : MethodId} {args : Array Value} {below : List Frame} {meth : Method} {c : Code} {D : va_G} {K : Nat → ClassId} {ad : Nat → Nat} (hI : INJ NM ad) (C0 : Cx p s m args meth c RX4 wsX4_keep cX4_keep 4 (some .int) (KM D K)) {r : Int32} {T : Mem} : ∀ (n : Nat), ∀ (S : Mem) (x1 : Int32) (x2 : Int32) (x3 : Int32), f4_keep_b42 n S x1 x2 x3 = some (r, T) → ∀ (H : Heap) (locs : List Loc) (ls : Array Slot), va_P D vwCl (wl NM ad (EM K ad S)) H → va_S (IW NM ad) s.heap H locs → lv_has ls 4 [(0, .ref (ad 0)), (1, .int x1), (2, .int x2), (3, .int x3)] → W p l e rm4_keep s m args below meth c H locs 0 0 (MQ below (va_Qi (fun (x : Int32) (u : Mem) => x = r ∧ u = T) (fun u t => va_P D vwCl (wl NM ad (EM K ad u)) t.heap) (IW NM ad)) args s 0 0 (IW NM ad)) (F0 m 42 ls []) := by
  have hx := C0.1
  have hb := C0.2.1
  have hts := C0.2.2.2.2.1
  have hown := C0.2.2.2.1
  have hKC := C0.2.2.2.2.2.2.2
  intro n
  induction n with
  | zero =>
    intro S x1 x2 x3 hf
    rw [f4_keep_b42] at hf
    cases hf
  | succ n ih =>
    intro S x1 x2 x3 hf H locs ls hP hS hl
    rw [f4_keep_b42] at hf
    refine lv_iload_n hx hb dX4_keep_42 rfl (lv_at hl 3 rfl) ?_
    refine lv_bipush (v := 7) hx hb dX4_keep_43 (by decide) ?_
    refine lv_icmp_ge (tgt := 104) hx hb dX4_keep_45 (by decide) (fun c1 => ?_) (fun c1 => ?_)
    · have hf := ite_t hf c1
      refine lv_iconst (v := 0) hx hb dX4_keep_104 (by decide) ?_
      refine lv_istore_n (lv' := [(3, .int 0), (0, .ref (ad 0)), (1, .int x1), (2, .int x2)]) hx hb dX4_keep_105 rfl hl (by decide) rfl (fun ls hl => ?_)
      exact w4_keep_b106 hI C0 FU S x1 x2 0 hf H locs ls hP hS (lv_sub hl [1, 2, 3, 0] rfl)
    · have hf := ite_f hf c1
      refine lv_aload_n hx hb dX4_keep_48 rfl (lv_at hl 0 rfl) ?_
      refine x_get C0 hKC hP (by decide) (EM_0 K ad S) rfl in_X4_keep_X4 20 (by decide) (List.mem_of_getElem? (i := 3) rfl) rfl dX4_keep_49 ?_
      refine lv_iload_n hx hb dX4_keep_52 rfl (lv_at hl 2 rfl) ?_
      refine lv_iconst (v := 1) hx hb dX4_keep_53 (by decide) ?_
      refine lv_iadd hx hb dX4_keep_54 ?_
      refine lv_iload_n hx hb dX4_keep_55 rfl (lv_at hl 3 rfl) ?_
      refine lv_iadd hx hb dX4_keep_56 ?_
      refine lv_aload_n hx hb dX4_keep_57 rfl (lv_at hl 0 rfl) ?_
      refine x_get C0 hKC hP (by decide) (EM_0 K ad S) rfl in_X4_keep_X4 13 (by decide) (List.mem_of_getElem? (i := 4) rfl) rfl dX4_keep_58 ?_
      refine lv_iload_n hx hb dX4_keep_61 rfl (lv_at hl 3 rfl) ?_
      obtain ⟨g2, hf⟩ := gd_some hf
      refine x_iald C0 hKC hP (IM_8 K ad) (t0 := 0) rfl g2 dX4_keep_62 ?_
      obtain ⟨g3, hf⟩ := gd_some hf
      refine x_iast C0 hKC hI (EM_loc K ad) hP hS (IM_14 K ad) (t0 := 0) rfl g3 dX4_keep_63 (fun S4 eS4 H locs hP hS => ?_)
      have hf := nm_at eS4 hf
      refine lv_aload_n hx hb dX4_keep_64 rfl (lv_at hl 0 rfl) ?_
      refine x_get C0 hKC hP (by decide) (EM_0 K ad S4) rfl in_X4_keep_X4 20 (by decide) (List.mem_of_getElem? (i := 3) rfl) rfl dX4_keep_65 ?_
      refine lv_iload_n hx hb dX4_keep_68 rfl (lv_at hl 2 rfl) ?_
      refine lv_bipush (v := 8) hx hb dX4_keep_69 (by decide) ?_
      refine lv_iadd hx hb dX4_keep_71 ?_
      refine lv_iload_n hx hb dX4_keep_72 rfl (lv_at hl 3 rfl) ?_
      refine lv_iadd hx hb dX4_keep_73 ?_
      refine lv_aload_n hx hb dX4_keep_74 rfl (lv_at hl 0 rfl) ?_
      refine x_get C0 hKC hP (by decide) (EM_0 K ad S4) rfl in_X4_keep_X4 14 (by decide) (List.mem_of_getElem? (i := 5) rfl) rfl dX4_keep_75 ?_
      refine lv_iload_n hx hb dX4_keep_78 rfl (lv_at hl 3 rfl) ?_
      obtain ⟨g5, hf⟩ := gd_some hf
      refine x_iald C0 hKC hP (IM_9 K ad) (t0 := 0) rfl g5 dX4_keep_79 ?_
      obtain ⟨g6, hf⟩ := gd_some hf
      refine x_iast C0 hKC hI (EM_loc K ad) hP hS (IM_14 K ad) (t0 := 0) rfl g6 dX4_keep_80 (fun S7 eS7 H locs hP hS => ?_)
      have hf := nm_at eS7 hf
      refine lv_aload_n hx hb dX4_keep_81 rfl (lv_at hl 0 rfl) ?_
      refine x_get C0 hKC hP (by decide) (EM_0 K ad S7) rfl in_X4_keep_X4 20 (by decide) (List.mem_of_getElem? (i := 3) rfl) rfl dX4_keep_82 ?_
      refine lv_iload_n hx hb dX4_keep_85 rfl (lv_at hl 2 rfl) ?_
      refine lv_bipush (v := 15) hx hb dX4_keep_86 (by decide) ?_
      refine lv_iadd hx hb dX4_keep_88 ?_
      refine lv_iload_n hx hb dX4_keep_89 rfl (lv_at hl 3 rfl) ?_
      refine lv_iadd hx hb dX4_keep_90 ?_
      refine lv_aload_n hx hb dX4_keep_91 rfl (lv_at hl 0 rfl) ?_
      refine x_get C0 hKC hP (by decide) (EM_0 K ad S7) rfl in_X4_keep_X4 15 (by decide) (List.mem_of_getElem? (i := 6) rfl) rfl dX4_keep_92 ?_
      refine lv_iload_n hx hb dX4_keep_95 rfl (lv_at hl 3 rfl) ?_
      obtain ⟨g8, hf⟩ := gd_some hf
      refine x_iald C0 hKC hP (IM_10 K ad) (t0 := 0) rfl g8 dX4_keep_96 ?_
      obtain ⟨g9, hf⟩ := gd_some hf
      refine x_iast C0 hKC hI (EM_loc K ad) hP hS (IM_14 K ad) (t0 := 0) rfl g9 dX4_keep_97 (fun S10 eS10 H locs hP hS => ?_)
      have hf := nm_at eS10 hf
      obtain ⟨v11, ev11⟩ : ∃ y : Int32, y = x3 + 1 := ⟨_, rfl⟩
      have hf := nm_at ev11 hf
      refine lv_iinc (v := v11) (lv' := [(3, .int v11), (0, .ref (ad 0)), (1, .int x1), (2, .int x2)]) hx hb dX4_keep_98 hl (k := 3) rfl (by rw [ev11]; rfl) (by decide) rfl (fun ls hl => ?_)
      refine lv_goto (tgt := 42) hx hb dX4_keep_101 (by decide) ?_
      exact ih S10 x1 x2 v11 hf H locs ls hP hS (lv_sub hl [1, 2, 3, 0] rfl)
set_option maxHeartbeats 4000000 in
set_option maxRecDepth 100000 in
theorem w4_keep {p : Program} {l : Launch} {e : Env} {s : State} {m : MethodId} {args : Array Value} {below : List Frame} {meth : Method} {c : Code} {D : va_G} {K : Nat → ClassId} {ad : Nat → Nat} (hI : INJ NM ad) (C0 : Cx p s m args meth c RX4 wsX4_keep cX4_keep 4 (some .int) (KM D K)) {r : Int32} {T : Mem} : ∀ (S : Mem) (x1 : Int32), f4_keep S x1 = some (r, T) → ∀ (H : Heap) (locs : List Loc) (ls : Array Slot), va_P D vwCl (wl NM ad (EM K ad S)) H → va_S (IW NM ad) s.heap H locs → lv_has ls 4 [(0, .ref (ad 0)), (1, .int x1)] → W p l e rm4_keep s m args below meth c H locs 0 0 (MQ below (va_Qi (fun (x : Int32) (u : Mem) => x = r ∧ u = T) (fun u t => va_P D vwCl (wl NM ad (EM K ad u)) t.heap) (IW NM ad)) args s 0 0 (IW NM ad)) (F0 m 0 ls []) := by
  have hx := C0.1
  have hb := C0.2.1
  have hts := C0.2.2.2.2.1
  have hown := C0.2.2.2.1
  have hKC := C0.2.2.2.2.2.2.2
  intro S x1 hf H locs ls hP hS hl
  rw [f4_keep] at hf
  refine lv_iload_n hx hb dX4_keep_0 rfl (lv_at hl 1 rfl) ?_
  refine lv_i2l (v := (Int32.toInt64 x1)) hx hb dX4_keep_1 rfl ?_
  refine lv_lconst (v := 0) hx hb dX4_keep_2 (by decide) ?_
  refine lv_ldc2 (v := 2) hx hb hown (hts _ (List.mem_of_getElem? (i := 1) rfl)) dX4_keep_3 ?_
  obtain ⟨v2, h1, hf⟩ := b1_some hf
  refine sys_i hS (sys_runS (As := [.long (Int32.toInt64 x1), .long 0, .long 2]) (rest := []) C0 KM_ok hP hS (m4_in l D K ad hI S (Int32.toInt64 x1) 0 2 h1) gX4_keep_X4_in rfl ⟨rfl, rfl⟩ hd_X4_in ⟨Nat.le_of_ble_eq_true rfl, Nat.le_of_ble_eq_true rfl⟩ hl.1 rfl (Nat.le_of_ble_eq_true rfl) dX4_keep_6 ⟨Nat.le_refl _, Nat.le_refl _⟩) (fun H locs hP hS => ?_)
  refine lv_if_ne (tgt := 14) hx hb dX4_keep_9 (by decide) (fun c3 => ?_) (fun c3 => ?_)
  · have hf := ite_f hf c3
    refine lv_aload_n hx hb dX4_keep_14 rfl (lv_at hl 0 rfl) ?_
    refine x_get C0 hKC hP (by decide) (EM_0 K ad S) rfl in_X4_keep_X4 12 (by decide) (List.mem_of_getElem? (i := 2) rfl) rfl dX4_keep_15 ?_
    refine lv_if_ne (tgt := 24) hx hb dX4_keep_18 (by decide) (fun c4 => ?_) (fun c4 => ?_)
    · have hf := ite_f hf c4
      refine lv_sipush (v := 391) hx hb dX4_keep_24 (by decide) ?_
      refine lv_iload_n hx hb dX4_keep_27 rfl (lv_at hl 1 rfl) ?_
      refine lv_imul hx hb dX4_keep_28 ?_
      refine lv_topi (fun v5 ev5 => ?_)
      have hf := nm_at ev5 hf
      refine lv_istore_n (lv' := [(2, .int v5), (0, .ref (ad 0)), (1, .int x1)]) hx hb dX4_keep_29 rfl hl (by decide) rfl (fun ls hl => ?_)
      refine lv_aload_n hx hb dX4_keep_30 rfl (lv_at hl 1 rfl) ?_
      refine x_get C0 hKC hP (by decide) (EM_0 K ad S) rfl in_X4_keep_X4 20 (by decide) (List.mem_of_getElem? (i := 3) rfl) rfl dX4_keep_31 ?_
      refine lv_iload_n hx hb dX4_keep_34 rfl (lv_at hl 0 rfl) ?_
      refine lv_aload_n hx hb dX4_keep_35 rfl (lv_at hl 1 rfl) ?_
      refine x_get C0 hKC hP (by decide) (EM_0 K ad S) rfl in_X4_keep_X4 12 (by decide) (List.mem_of_getElem? (i := 2) rfl) rfl dX4_keep_36 ?_
      obtain ⟨g6, hf⟩ := gd_some hf
      refine x_iast C0 hKC hI (EM_loc K ad) hP hS (IM_14 K ad) (t0 := 0) rfl g6 dX4_keep_39 (fun S7 eS7 H locs hP hS => ?_)
      have hf := nm_at eS7 hf
      refine lv_iconst (v := 0) hx hb dX4_keep_40 (by decide) ?_
      refine lv_istore_n (lv' := [(3, .int 0), (2, .int v5), (0, .ref (ad 0)), (1, .int x1)]) hx hb dX4_keep_41 rfl hl (by decide) rfl (fun ls hl => ?_)
      exact w4_keep_b42 hI C0 FU S7 x1 v5 0 hf H locs ls hP hS (lv_sub hl [2, 3, 1, 0] rfl)
    · have hf := ite_t hf c4
      refine lv_bipush (v := (-4)) hx hb dX4_keep_21 (by decide) ?_
      exact ret_i C0 hP hS (congrArg Prod.fst (Option.some.inj hf)) (congrArg Prod.snd (Option.some.inj hf)) dX4_keep_23
  · have hf := ite_t hf c3
    refine lv_iconst (v := (-1)) hx hb dX4_keep_12 (by decide) ?_
    exact ret_i C0 hP hS (congrArg Prod.fst (Option.some.inj hf)) (congrArg Prod.snd (Option.some.inj hf)) dX4_keep_13
theorem m4_keep (l : Launch) (D : va_G) (K : Nat → ClassId) (ad : Nat → Nat) (hI : INJ NM ad) (S : Mem) (x1 : Int32) {r : Int32} {T : Mem} (hf : f4_keep S x1 = some (r, T)) : SysI l yX4_keep wsX4_keep rm4_keep D NM ad (EM K ad) (KM D K) [.ref (ad 0), .int x1] S r T :=
  met_of (own := RX4) (by decide) rfl rfl (Nat.le_of_ble_eq_true rfl) (fun _ _ s _ _ _ _ ls C0 _ hP hl => w4_keep hI C0 S x1 hf s.heap [] ls hP va_S.rf hl)
theorem in_X4_on_X4 : ∀ w ∈ wsX40, w ∈ wsX4_on := fun _ h => List.mem_cons_of_mem _ (List.mem_append_right _ h)
theorem hd_X4_on : yX4_on.cls = RX4 ∧ yX4_on.cls ≠ "java/lang/invoke/MethodHandle" ∧ yX4_on.cls ≠ "java/lang/invoke/VarHandle" ∧ (parseMethodDescriptor yX4_on.desc).map (fun d => d.parameters.length) = some 1 := by decide +kernel
abbrev rm4_on : Room := { frames := 1, cells := 0, slots := 0, locals := 25 }
set_option maxHeartbeats 4000000 in
set_option maxRecDepth 100000 in
theorem w4_on_b142 {p : Program} {l : Launch} {e : Env} {s : State} {m : MethodId} {args : Array Value} {below : List Frame} {meth : Method} {c : Code} {D : va_G} {K : Nat → ClassId} {ad : Nat → Nat} (hI : INJ NM ad) (C0 : Cx p s m args meth c RX4 wsX4_on cX4_on 4 (some .int) (KM D K)) {r : Int32} {T : Mem} : ∀ (n : Nat), ∀ (S : Mem) (x1 : Int32) (x2 : Int32) (x3 : Int32), f4_on_b142 n S x1 x2 x3 = some (r, T) → ∀ (H : Heap) (locs : List Loc) (ls : Array Slot), va_P D vwCl (wl NM ad (EM K ad S)) H → va_S (IW NM ad) s.heap H locs → lv_has ls 4 [(0, .ref (ad 0)), (1, .int x1), (2, .int x2), (3, .int x3)] → W p l e rm4_on s m args below meth c H locs 0 0 (MQ below (va_Qi (fun (x : Int32) (u : Mem) => x = r ∧ u = T) (fun u t => va_P D vwCl (wl NM ad (EM K ad u)) t.heap) (IW NM ad)) args s 0 0 (IW NM ad)) (F0 m 142 ls []) := by
  have hx := C0.1
  have hb := C0.2.1
  have hts := C0.2.2.2.2.1
  have hown := C0.2.2.2.1
  have hKC := C0.2.2.2.2.2.2.2
  intro n
  induction n with
  | zero =>
    intro S x1 x2 x3 hf
    rw [f4_on_b142] at hf
    cases hf
  | succ n ih =>
    intro S x1 x2 x3 hf H locs ls hP hS hl
    rw [f4_on_b142] at hf
    refine lv_iload_n hx hb dX4_on_142 rfl (lv_at hl 3 rfl) ?_
    refine lv_sipush (v := 360) hx hb dX4_on_143 (by decide) ?_
    refine lv_icmp_ge (tgt := 172) hx hb dX4_on_146 (by decide) (fun c1 => ?_) (fun c1 => ?_)
    · have hf := ite_t hf c1
      refine lv_aload_n hx hb dX4_on_172 rfl (lv_at hl 0 rfl) ?_
      refine lv_aload_n hx hb dX4_on_173 rfl (lv_at hl 0 rfl) ?_
      refine x_get C0 hKC hP (by decide) (EM_0 K ad S) rfl in_X4_on_X4 19 (by decide) (List.mem_of_getElem? (i := 2) rfl) rfl dX4_on_174 ?_
      refine lv_iload_n hx hb dX4_on_177 rfl (lv_at hl 1 rfl) ?_
      obtain ⟨g2, hf⟩ := gd_some hf
      refine x_iald C0 hKC hP (IM_13 K ad) (t0 := 0) rfl g2 dX4_on_178 ?_
      refine x_puti C0 hKC hI (EM_loc K ad) hP hS (by decide) (EM_0 K ad S) rfl tyX4 tyX4_ok nmX4 in_X4_on_X4 18 (by decide) (List.mem_of_getElem? (i := 10) rfl) rfl (tyX4_ok 18 (by decide)) (Nat.le_of_ble_eq_true rfl) (EM_p18 K ad S _) dX4_on_179 (fun S3 eS3 H locs hP hS => ?_)
      have hf := nm_at eS3 hf
      refine lv_aload_n hx hb dX4_on_182 rfl (lv_at hl 0 rfl) ?_
      refine x_get C0 hKC hP (by decide) (EM_0 K ad S3) rfl in_X4_on_X4 18 (by decide) (List.mem_of_getElem? (i := 10) rfl) rfl dX4_on_183 ?_
      exact ret_i C0 hP hS (congrArg Prod.fst (Option.some.inj hf)) (congrArg Prod.snd (Option.some.inj hf)) dX4_on_186
    · have hf := ite_f hf c1
      refine lv_aload_n hx hb dX4_on_149 rfl (lv_at hl 0 rfl) ?_
      refine x_get C0 hKC hP (by decide) (EM_0 K ad S) rfl in_X4_on_X4 17 (by decide) (List.mem_of_getElem? (i := 9) rfl) rfl dX4_on_150 ?_
      refine lv_iload_n hx hb dX4_on_153 rfl (lv_at hl 3 rfl) ?_
      refine lv_aload_n hx hb dX4_on_154 rfl (lv_at hl 0 rfl) ?_
      refine x_get C0 hKC hP (by decide) (EM_0 K ad S) rfl in_X4_on_X4 20 (by decide) (List.mem_of_getElem? (i := 3) rfl) rfl dX4_on_155 ?_
      refine lv_iload_n hx hb dX4_on_158 rfl (lv_at hl 2 rfl) ?_
      refine lv_bipush (v := 31) hx hb dX4_on_159 (by decide) ?_
      refine lv_iadd hx hb dX4_on_161 ?_
      refine lv_iload_n hx hb dX4_on_162 rfl (lv_at hl 3 rfl) ?_
      refine lv_iadd hx hb dX4_on_163 ?_
      obtain ⟨g4, hf⟩ := gd_some hf
      refine x_iald C0 hKC hP (IM_14 K ad) (t0 := 0) rfl g4 dX4_on_164 ?_
      obtain ⟨g5, hf⟩ := gd_some hf
      refine x_iast C0 hKC hI (EM_loc K ad) hP hS (IM_12 K ad) (t0 := 0) rfl g5 dX4_on_165 (fun S6 eS6 H locs hP hS => ?_)
      have hf := nm_at eS6 hf
      obtain ⟨v7, ev7⟩ : ∃ y : Int32, y = x3 + 1 := ⟨_, rfl⟩
      have hf := nm_at ev7 hf
      refine lv_iinc (v := v7) (lv' := [(3, .int v7), (0, .ref (ad 0)), (1, .int x1), (2, .int x2)]) hx hb dX4_on_166 hl (k := 3) rfl (by rw [ev7]; rfl) (by decide) rfl (fun ls hl => ?_)
      refine lv_goto (tgt := 142) hx hb dX4_on_169 (by decide) ?_
      exact ih S6 x1 x2 v7 hf H locs ls hP hS (lv_sub hl [1, 2, 3, 0] rfl)
set_option maxHeartbeats 4000000 in
set_option maxRecDepth 100000 in
theorem w4_on_b111 {p : Program} {l : Launch} {e : Env} {s : State} {m : MethodId} {args : Array Value} {below : List Frame} {meth : Method} {c : Code} {D : va_G} {K : Nat → ClassId} {ad : Nat → Nat} (hI : INJ NM ad) (C0 : Cx p s m args meth c RX4 wsX4_on cX4_on 4 (some .int) (KM D K)) {r : Int32} {T : Mem} : ∀ (n : Nat), ∀ (S : Mem) (x1 : Int32) (x2 : Int32) (x3 : Int32), f4_on_b111 n S x1 x2 x3 = some (r, T) → ∀ (H : Heap) (locs : List Loc) (ls : Array Slot), va_P D vwCl (wl NM ad (EM K ad S)) H → va_S (IW NM ad) s.heap H locs → lv_has ls 4 [(0, .ref (ad 0)), (1, .int x1), (2, .int x2), (3, .int x3)] → W p l e rm4_on s m args below meth c H locs 0 0 (MQ below (va_Qi (fun (x : Int32) (u : Mem) => x = r ∧ u = T) (fun u t => va_P D vwCl (wl NM ad (EM K ad u)) t.heap) (IW NM ad)) args s 0 0 (IW NM ad)) (F0 m 111 ls []) := by
  have hx := C0.1
  have hb := C0.2.1
  have hts := C0.2.2.2.2.1
  have hown := C0.2.2.2.1
  have hKC := C0.2.2.2.2.2.2.2
  intro n
  induction n with
  | zero =>
    intro S x1 x2 x3 hf
    rw [f4_on_b111] at hf
    cases hf
  | succ n ih =>
    intro S x1 x2 x3 hf H locs ls hP hS hl
    rw [f4_on_b111] at hf
    refine lv_iload_n hx hb dX4_on_111 rfl (lv_at hl 3 rfl) ?_
    refine lv_bipush (v := 9) hx hb dX4_on_112 (by decide) ?_
    refine lv_icmp_ge (tgt := 140) hx hb dX4_on_114 (by decide) (fun c1 => ?_) (fun c1 => ?_)
    · have hf := ite_t hf c1
      refine lv_iconst (v := 0) hx hb dX4_on_140 (by decide) ?_
      refine lv_istore_n (lv' := [(3, .int 0), (0, .ref (ad 0)), (1, .int x1), (2, .int x2)]) hx hb dX4_on_141 rfl hl (by decide) rfl (fun ls hl => ?_)
      exact w4_on_b142 hI C0 FU S x1 x2 0 hf H locs ls hP hS (lv_sub hl [1, 2, 3, 0] rfl)
    · have hf := ite_f hf c1
      refine lv_aload_n hx hb dX4_on_117 rfl (lv_at hl 0 rfl) ?_
      refine x_get C0 hKC hP (by decide) (EM_0 K ad S) rfl in_X4_on_X4 16 (by decide) (List.mem_of_getElem? (i := 8) rfl) rfl dX4_on_118 ?_
      refine lv_iload_n hx hb dX4_on_121 rfl (lv_at hl 3 rfl) ?_
      refine lv_aload_n hx hb dX4_on_122 rfl (lv_at hl 0 rfl) ?_
      refine x_get C0 hKC hP (by decide) (EM_0 K ad S) rfl in_X4_on_X4 20 (by decide) (List.mem_of_getElem? (i := 3) rfl) rfl dX4_on_123 ?_
      refine lv_iload_n hx hb dX4_on_126 rfl (lv_at hl 2 rfl) ?_
      refine lv_bipush (v := 22) hx hb dX4_on_127 (by decide) ?_
      refine lv_iadd hx hb dX4_on_129 ?_
      refine lv_iload_n hx hb dX4_on_130 rfl (lv_at hl 3 rfl) ?_
      refine lv_iadd hx hb dX4_on_131 ?_
      obtain ⟨g2, hf⟩ := gd_some hf
      refine x_iald C0 hKC hP (IM_14 K ad) (t0 := 0) rfl g2 dX4_on_132 ?_
      obtain ⟨g3, hf⟩ := gd_some hf
      refine x_iast C0 hKC hI (EM_loc K ad) hP hS (IM_11 K ad) (t0 := 0) rfl g3 dX4_on_133 (fun S4 eS4 H locs hP hS => ?_)
      have hf := nm_at eS4 hf
      obtain ⟨v5, ev5⟩ : ∃ y : Int32, y = x3 + 1 := ⟨_, rfl⟩
      have hf := nm_at ev5 hf
      refine lv_iinc (v := v5) (lv' := [(3, .int v5), (0, .ref (ad 0)), (1, .int x1), (2, .int x2)]) hx hb dX4_on_134 hl (k := 3) rfl (by rw [ev5]; rfl) (by decide) rfl (fun ls hl => ?_)
      refine lv_goto (tgt := 111) hx hb dX4_on_137 (by decide) ?_
      exact ih S4 x1 x2 v5 hf H locs ls hP hS (lv_sub hl [1, 2, 3, 0] rfl)
set_option maxHeartbeats 4000000 in
set_option maxRecDepth 100000 in
theorem w4_on_b47 {p : Program} {l : Launch} {e : Env} {s : State} {m : MethodId} {args : Array Value} {below : List Frame} {meth : Method} {c : Code} {D : va_G} {K : Nat → ClassId} {ad : Nat → Nat} (hI : INJ NM ad) (C0 : Cx p s m args meth c RX4 wsX4_on cX4_on 4 (some .int) (KM D K)) {r : Int32} {T : Mem} : ∀ (n : Nat), ∀ (S : Mem) (x1 : Int32) (x2 : Int32) (x3 : Int32), f4_on_b47 n S x1 x2 x3 = some (r, T) → ∀ (H : Heap) (locs : List Loc) (ls : Array Slot), va_P D vwCl (wl NM ad (EM K ad S)) H → va_S (IW NM ad) s.heap H locs → lv_has ls 4 [(0, .ref (ad 0)), (1, .int x1), (2, .int x2), (3, .int x3)] → W p l e rm4_on s m args below meth c H locs 0 0 (MQ below (va_Qi (fun (x : Int32) (u : Mem) => x = r ∧ u = T) (fun u t => va_P D vwCl (wl NM ad (EM K ad u)) t.heap) (IW NM ad)) args s 0 0 (IW NM ad)) (F0 m 47 ls []) := by
  have hx := C0.1
  have hb := C0.2.1
  have hts := C0.2.2.2.2.1
  have hown := C0.2.2.2.1
  have hKC := C0.2.2.2.2.2.2.2
  intro n
  induction n with
  | zero =>
    intro S x1 x2 x3 hf
    rw [f4_on_b47] at hf
    cases hf
  | succ n ih =>
    intro S x1 x2 x3 hf H locs ls hP hS hl
    rw [f4_on_b47] at hf
    refine lv_iload_n hx hb dX4_on_47 rfl (lv_at hl 3 rfl) ?_
    refine lv_bipush (v := 7) hx hb dX4_on_48 (by decide) ?_
    refine lv_icmp_ge (tgt := 109) hx hb dX4_on_50 (by decide) (fun c1 => ?_) (fun c1 => ?_)
    · have hf := ite_t hf c1
      refine lv_iconst (v := 0) hx hb dX4_on_109 (by decide) ?_
      refine lv_istore_n (lv' := [(3, .int 0), (0, .ref (ad 0)), (1, .int x1), (2, .int x2)]) hx hb dX4_on_110 rfl hl (by decide) rfl (fun ls hl => ?_)
      exact w4_on_b111 hI C0 FU S x1 x2 0 hf H locs ls hP hS (lv_sub hl [1, 2, 3, 0] rfl)
    · have hf := ite_f hf c1
      refine lv_aload_n hx hb dX4_on_53 rfl (lv_at hl 0 rfl) ?_
      refine x_get C0 hKC hP (by decide) (EM_0 K ad S) rfl in_X4_on_X4 13 (by decide) (List.mem_of_getElem? (i := 5) rfl) rfl dX4_on_54 ?_
      refine lv_iload_n hx hb dX4_on_57 rfl (lv_at hl 3 rfl) ?_
      refine lv_aload_n hx hb dX4_on_58 rfl (lv_at hl 0 rfl) ?_
      refine x_get C0 hKC hP (by decide) (EM_0 K ad S) rfl in_X4_on_X4 20 (by decide) (List.mem_of_getElem? (i := 3) rfl) rfl dX4_on_59 ?_
      refine lv_iload_n hx hb dX4_on_62 rfl (lv_at hl 2 rfl) ?_
      refine lv_iconst (v := 1) hx hb dX4_on_63 (by decide) ?_
      refine lv_iadd hx hb dX4_on_64 ?_
      refine lv_iload_n hx hb dX4_on_65 rfl (lv_at hl 3 rfl) ?_
      refine lv_iadd hx hb dX4_on_66 ?_
      obtain ⟨g2, hf⟩ := gd_some hf
      refine x_iald C0 hKC hP (IM_14 K ad) (t0 := 0) rfl g2 dX4_on_67 ?_
      obtain ⟨g3, hf⟩ := gd_some hf
      refine x_iast C0 hKC hI (EM_loc K ad) hP hS (IM_8 K ad) (t0 := 0) rfl g3 dX4_on_68 (fun S4 eS4 H locs hP hS => ?_)
      have hf := nm_at eS4 hf
      refine lv_aload_n hx hb dX4_on_69 rfl (lv_at hl 0 rfl) ?_
      refine x_get C0 hKC hP (by decide) (EM_0 K ad S4) rfl in_X4_on_X4 14 (by decide) (List.mem_of_getElem? (i := 6) rfl) rfl dX4_on_70 ?_
      refine lv_iload_n hx hb dX4_on_73 rfl (lv_at hl 3 rfl) ?_
      refine lv_aload_n hx hb dX4_on_74 rfl (lv_at hl 0 rfl) ?_
      refine x_get C0 hKC hP (by decide) (EM_0 K ad S4) rfl in_X4_on_X4 20 (by decide) (List.mem_of_getElem? (i := 3) rfl) rfl dX4_on_75 ?_
      refine lv_iload_n hx hb dX4_on_78 rfl (lv_at hl 2 rfl) ?_
      refine lv_bipush (v := 8) hx hb dX4_on_79 (by decide) ?_
      refine lv_iadd hx hb dX4_on_81 ?_
      refine lv_iload_n hx hb dX4_on_82 rfl (lv_at hl 3 rfl) ?_
      refine lv_iadd hx hb dX4_on_83 ?_
      obtain ⟨g5, hf⟩ := gd_some hf
      refine x_iald C0 hKC hP (IM_14 K ad) (t0 := 0) rfl g5 dX4_on_84 ?_
      obtain ⟨g6, hf⟩ := gd_some hf
      refine x_iast C0 hKC hI (EM_loc K ad) hP hS (IM_9 K ad) (t0 := 0) rfl g6 dX4_on_85 (fun S7 eS7 H locs hP hS => ?_)
      have hf := nm_at eS7 hf
      refine lv_aload_n hx hb dX4_on_86 rfl (lv_at hl 0 rfl) ?_
      refine x_get C0 hKC hP (by decide) (EM_0 K ad S7) rfl in_X4_on_X4 15 (by decide) (List.mem_of_getElem? (i := 7) rfl) rfl dX4_on_87 ?_
      refine lv_iload_n hx hb dX4_on_90 rfl (lv_at hl 3 rfl) ?_
      refine lv_aload_n hx hb dX4_on_91 rfl (lv_at hl 0 rfl) ?_
      refine x_get C0 hKC hP (by decide) (EM_0 K ad S7) rfl in_X4_on_X4 20 (by decide) (List.mem_of_getElem? (i := 3) rfl) rfl dX4_on_92 ?_
      refine lv_iload_n hx hb dX4_on_95 rfl (lv_at hl 2 rfl) ?_
      refine lv_bipush (v := 15) hx hb dX4_on_96 (by decide) ?_
      refine lv_iadd hx hb dX4_on_98 ?_
      refine lv_iload_n hx hb dX4_on_99 rfl (lv_at hl 3 rfl) ?_
      refine lv_iadd hx hb dX4_on_100 ?_
      obtain ⟨g8, hf⟩ := gd_some hf
      refine x_iald C0 hKC hP (IM_14 K ad) (t0 := 0) rfl g8 dX4_on_101 ?_
      obtain ⟨g9, hf⟩ := gd_some hf
      refine x_iast C0 hKC hI (EM_loc K ad) hP hS (IM_10 K ad) (t0 := 0) rfl g9 dX4_on_102 (fun S10 eS10 H locs hP hS => ?_)
      have hf := nm_at eS10 hf
      obtain ⟨v11, ev11⟩ : ∃ y : Int32, y = x3 + 1 := ⟨_, rfl⟩
      have hf := nm_at ev11 hf
      refine lv_iinc (v := v11) (lv' := [(3, .int v11), (0, .ref (ad 0)), (1, .int x1), (2, .int x2)]) hx hb dX4_on_103 hl (k := 3) rfl (by rw [ev11]; rfl) (by decide) rfl (fun ls hl => ?_)
      refine lv_goto (tgt := 47) hx hb dX4_on_106 (by decide) ?_
      exact ih S10 x1 x2 v11 hf H locs ls hP hS (lv_sub hl [1, 2, 3, 0] rfl)
set_option maxHeartbeats 4000000 in
set_option maxRecDepth 100000 in
theorem w4_on {p : Program} {l : Launch} {e : Env} {s : State} {m : MethodId} {args : Array Value} {below : List Frame} {meth : Method} {c : Code} {D : va_G} {K : Nat → ClassId} {ad : Nat → Nat} (hI : INJ NM ad) (C0 : Cx p s m args meth c RX4 wsX4_on cX4_on 4 (some .int) (KM D K)) {r : Int32} {T : Mem} : ∀ (S : Mem) (x1 : Int32), f4_on S x1 = some (r, T) → ∀ (H : Heap) (locs : List Loc) (ls : Array Slot), va_P D vwCl (wl NM ad (EM K ad S)) H → va_S (IW NM ad) s.heap H locs → lv_has ls 4 [(0, .ref (ad 0)), (1, .int x1)] → W p l e rm4_on s m args below meth c H locs 0 0 (MQ below (va_Qi (fun (x : Int32) (u : Mem) => x = r ∧ u = T) (fun u t => va_P D vwCl (wl NM ad (EM K ad u)) t.heap) (IW NM ad)) args s 0 0 (IW NM ad)) (F0 m 0 ls []) := by
  have hx := C0.1
  have hb := C0.2.1
  have hts := C0.2.2.2.2.1
  have hown := C0.2.2.2.1
  have hKC := C0.2.2.2.2.2.2.2
  intro S x1 hf H locs ls hP hS hl
  rw [f4_on] at hf
  refine lv_iload_n hx hb dX4_on_0 rfl (lv_at hl 1 rfl) ?_
  refine lv_i2l (v := (Int32.toInt64 x1)) hx hb dX4_on_1 rfl ?_
  refine lv_lconst (v := 0) hx hb dX4_on_2 (by decide) ?_
  refine lv_ldc2 (v := 2) hx hb hown (hts _ (List.mem_of_getElem? (i := 1) rfl)) dX4_on_3 ?_
  obtain ⟨v2, h1, hf⟩ := b1_some hf
  refine sys_i hS (sys_runS (As := [.long (Int32.toInt64 x1), .long 0, .long 2]) (rest := []) C0 KM_ok hP hS (m4_in l D K ad hI S (Int32.toInt64 x1) 0 2 h1) gX4_on_X4_in rfl ⟨rfl, rfl⟩ hd_X4_in ⟨Nat.le_of_ble_eq_true rfl, Nat.le_of_ble_eq_true rfl⟩ hl.1 rfl (Nat.le_of_ble_eq_true rfl) dX4_on_6 ⟨Nat.le_refl _, Nat.le_refl _⟩) (fun H locs hP hS => ?_)
  refine lv_if_ne (tgt := 14) hx hb dX4_on_9 (by decide) (fun c3 => ?_) (fun c3 => ?_)
  · have hf := ite_f hf c3
    refine lv_aload_n hx hb dX4_on_14 rfl (lv_at hl 0 rfl) ?_
    refine x_get C0 hKC hP (by decide) (EM_0 K ad S) rfl in_X4_on_X4 19 (by decide) (List.mem_of_getElem? (i := 2) rfl) rfl dX4_on_15 ?_
    refine lv_iload_n hx hb dX4_on_18 rfl (lv_at hl 1 rfl) ?_
    obtain ⟨g4, hf⟩ := gd_some hf
    refine x_iald C0 hKC hP (IM_13 K ad) (t0 := 0) rfl g4 dX4_on_19 ?_
    refine lv_if_ge (tgt := 29) hx hb dX4_on_20 (by decide) (fun c5 => ?_) (fun c5 => ?_)
    · have hf := ite_t hf c5
      refine lv_sipush (v := 391) hx hb dX4_on_29 (by decide) ?_
      refine lv_iload_n hx hb dX4_on_32 rfl (lv_at hl 1 rfl) ?_
      refine lv_imul hx hb dX4_on_33 ?_
      refine lv_topi (fun v6 ev6 => ?_)
      have hf := nm_at ev6 hf
      refine lv_istore_n (lv' := [(2, .int v6), (0, .ref (ad 0)), (1, .int x1)]) hx hb dX4_on_34 rfl hl (by decide) rfl (fun ls hl => ?_)
      refine lv_aload_n hx hb dX4_on_35 rfl (lv_at hl 1 rfl) ?_
      refine lv_aload_n hx hb dX4_on_36 rfl (lv_at hl 1 rfl) ?_
      refine x_get C0 hKC hP (by decide) (EM_0 K ad S) rfl in_X4_on_X4 20 (by decide) (List.mem_of_getElem? (i := 3) rfl) rfl dX4_on_37 ?_
      refine lv_iload_n hx hb dX4_on_40 rfl (lv_at hl 0 rfl) ?_
      obtain ⟨g7, hf⟩ := gd_some hf
      refine x_iald C0 hKC hP (IM_14 K ad) (t0 := 0) rfl g7 dX4_on_41 ?_
      refine x_puti C0 hKC hI (EM_loc K ad) hP hS (by decide) (EM_0 K ad S) rfl tyX4 tyX4_ok nmX4 in_X4_on_X4 12 (by decide) (List.mem_of_getElem? (i := 4) rfl) rfl (tyX4_ok 12 (by decide)) (Nat.le_of_ble_eq_true rfl) (EM_p12 K ad S _) dX4_on_42 (fun S8 eS8 H locs hP hS => ?_)
      have hf := nm_at eS8 hf
      refine lv_iconst (v := 0) hx hb dX4_on_45 (by decide) ?_
      refine lv_istore_n (lv' := [(3, .int 0), (2, .int v6), (0, .ref (ad 0)), (1, .int x1)]) hx hb dX4_on_46 rfl hl (by decide) rfl (fun ls hl => ?_)
      exact w4_on_b47 hI C0 FU S8 x1 v6 0 hf H locs ls hP hS (lv_sub hl [2, 3, 1, 0] rfl)
    · have hf := ite_f hf c5
      refine lv_aload_n hx hb dX4_on_23 rfl (lv_at hl 0 rfl) ?_
      refine lv_iconst (v := 1) hx hb dX4_on_24 (by decide) ?_
      obtain ⟨v10, S11, h9, hf⟩ := b2_some hf
      refine sys_i hS (sys_runV (As := [.int 1]) (rest := []) C0 KM_ok hKC hP hS (by decide) (EM_0 K ad S) rfl (m4_finds l D K ad hI S 1 h9) gX4_on_X4_finds rfl ⟨rfl, rfl⟩ hd_X4_finds ⟨Nat.le_of_ble_eq_true rfl, Nat.le_of_ble_eq_true rfl⟩ hl.1 rfl (Nat.le_of_ble_eq_true rfl) dX4_on_25 ⟨Nat.le_refl _, Nat.le_refl _⟩) (fun H locs hP hS => ?_)
      exact ret_i C0 hP hS (congrArg Prod.fst (Option.some.inj hf)) (congrArg Prod.snd (Option.some.inj hf)) dX4_on_28
  · have hf := ite_t hf c3
    refine lv_iconst (v := (-1)) hx hb dX4_on_12 (by decide) ?_
    exact ret_i C0 hP hS (congrArg Prod.fst (Option.some.inj hf)) (congrArg Prod.snd (Option.some.inj hf)) dX4_on_13
theorem m4_on (l : Launch) (D : va_G) (K : Nat → ClassId) (ad : Nat → Nat) (hI : INJ NM ad) (S : Mem) (x1 : Int32) {r : Int32} {T : Mem} (hf : f4_on S x1 = some (r, T)) : SysI l yX4_on wsX4_on rm4_on D NM ad (EM K ad) (KM D K) [.ref (ad 0), .int x1] S r T :=
  met_of (own := RX4) (by decide) rfl rfl (Nat.le_of_ble_eq_true rfl) (fun _ _ s _ _ _ _ ls C0 _ hP hl => w4_on hI C0 S x1 hf s.heap [] ls hP va_S.rf hl)
theorem in_X4_asides_X4 : ∀ w ∈ wsX40, w ∈ wsX4_asides := fun _ h => List.mem_cons_of_mem _ (List.mem_append_right _ h)
theorem hd_X4_asides : yX4_asides.cls = RX4 ∧ yX4_asides.cls ≠ "java/lang/invoke/MethodHandle" ∧ yX4_asides.cls ≠ "java/lang/invoke/VarHandle" ∧ (parseMethodDescriptor yX4_asides.desc).map (fun d => d.parameters.length) = some 0 := by decide +kernel
abbrev rm4_asides : Room := { frames := 0, cells := 0, slots := 0, locals := 0 }
set_option maxHeartbeats 4000000 in
set_option maxRecDepth 100000 in
theorem w4_asides_b2 {p : Program} {l : Launch} {e : Env} {s : State} {m : MethodId} {args : Array Value} {below : List Frame} {meth : Method} {c : Code} {D : va_G} {K : Nat → ClassId} {ad : Nat → Nat} (hI : INJ NM ad) (C0 : Cx p s m args meth c RX4 wsX4_asides cX4_asides 2 none (KM D K)) {T : Mem} : ∀ (n : Nat), ∀ (S : Mem) (x1 : Int32), f4_asides_b2 n S x1 = some T → ∀ (H : Heap) (locs : List Loc) (ls : Array Slot), va_P D vwCl (wl NM ad (EM K ad S)) H → va_S (IW NM ad) s.heap H locs → lv_has ls 2 [(0, .ref (ad 0)), (1, .int x1)] → W p l e rm4_asides s m args below meth c H locs 0 0 (MQ below (va_Qv (fun (u : Mem) => u = T) (fun u t => va_P D vwCl (wl NM ad (EM K ad u)) t.heap) (IW NM ad)) args s 0 0 (IW NM ad)) (F0 m 2 ls []) := by
  have hx := C0.1
  have hb := C0.2.1
  have hts := C0.2.2.2.2.1
  have hown := C0.2.2.2.1
  have hKC := C0.2.2.2.2.2.2.2
  intro n
  induction n with
  | zero =>
    intro S x1 hf
    rw [f4_asides_b2] at hf
    cases hf
  | succ n ih =>
    intro S x1 hf H locs ls hP hS hl
    rw [f4_asides_b2] at hf
    refine lv_iload_n hx hb dX4_asides_2 rfl (lv_at hl 1 rfl) ?_
    refine lv_bipush (v := 9) hx hb dX4_asides_3 (by decide) ?_
    refine lv_icmp_ge (tgt := 26) hx hb dX4_asides_5 (by decide) (fun c1 => ?_) (fun c1 => ?_)
    · have hf := ite_t hf c1
      exact ret_v C0 hP hS (Option.some.inj hf) dX4_asides_26
    · have hf := ite_f hf c1
      refine lv_aload_n hx hb dX4_asides_8 rfl (lv_at hl 0 rfl) ?_
      refine x_get C0 hKC hP (by decide) (EM_0 K ad S) rfl in_X4_asides_X4 21 (by decide) (List.mem_of_getElem? (i := 1) rfl) rfl dX4_asides_9 ?_
      refine lv_iload_n hx hb dX4_asides_12 rfl (lv_at hl 1 rfl) ?_
      refine lv_aload_n hx hb dX4_asides_13 rfl (lv_at hl 0 rfl) ?_
      refine x_get C0 hKC hP (by decide) (EM_0 K ad S) rfl in_X4_asides_X4 16 (by decide) (List.mem_of_getElem? (i := 2) rfl) rfl dX4_asides_14 ?_
      refine lv_iload_n hx hb dX4_asides_17 rfl (lv_at hl 1 rfl) ?_
      obtain ⟨g2, hf⟩ := gd_some hf
      refine x_iald C0 hKC hP (IM_11 K ad) (t0 := 0) rfl g2 dX4_asides_18 ?_
      obtain ⟨g3, hf⟩ := gd_some hf
      refine x_iast C0 hKC hI (EM_loc K ad) hP hS (IM_15 K ad) (t0 := 0) rfl g3 dX4_asides_19 (fun S4 eS4 H locs hP hS => ?_)
      have hf := nm_at eS4 hf
      obtain ⟨v5, ev5⟩ : ∃ y : Int32, y = x1 + 1 := ⟨_, rfl⟩
      have hf := nm_at ev5 hf
      refine lv_iinc (v := v5) (lv' := [(1, .int v5), (0, .ref (ad 0))]) hx hb dX4_asides_20 hl (k := 1) rfl (by rw [ev5]; rfl) (by decide) rfl (fun ls hl => ?_)
      refine lv_goto (tgt := 2) hx hb dX4_asides_23 (by decide) ?_
      exact ih S4 v5 hf H locs ls hP hS (lv_sub hl [1, 0] rfl)
set_option maxHeartbeats 4000000 in
set_option maxRecDepth 100000 in
theorem w4_asides {p : Program} {l : Launch} {e : Env} {s : State} {m : MethodId} {args : Array Value} {below : List Frame} {meth : Method} {c : Code} {D : va_G} {K : Nat → ClassId} {ad : Nat → Nat} (hI : INJ NM ad) (C0 : Cx p s m args meth c RX4 wsX4_asides cX4_asides 2 none (KM D K)) {T : Mem} : ∀ (S : Mem), f4_asides S = some T → ∀ (H : Heap) (locs : List Loc) (ls : Array Slot), va_P D vwCl (wl NM ad (EM K ad S)) H → va_S (IW NM ad) s.heap H locs → lv_has ls 2 [(0, .ref (ad 0))] → W p l e rm4_asides s m args below meth c H locs 0 0 (MQ below (va_Qv (fun (u : Mem) => u = T) (fun u t => va_P D vwCl (wl NM ad (EM K ad u)) t.heap) (IW NM ad)) args s 0 0 (IW NM ad)) (F0 m 0 ls []) := by
  have hx := C0.1
  have hb := C0.2.1
  have hts := C0.2.2.2.2.1
  have hown := C0.2.2.2.1
  have hKC := C0.2.2.2.2.2.2.2
  intro S hf H locs ls hP hS hl
  rw [f4_asides] at hf
  refine lv_iconst (v := 0) hx hb dX4_asides_0 (by decide) ?_
  refine lv_istore_n (lv' := [(1, .int 0), (0, .ref (ad 0))]) hx hb dX4_asides_1 rfl hl (by decide) rfl (fun ls hl => ?_)
  exact w4_asides_b2 hI C0 FU S 0 hf H locs ls hP hS (lv_sub hl [1, 0] rfl)
theorem m4_asides (l : Launch) (D : va_G) (K : Nat → ClassId) (ad : Nat → Nat) (hI : INJ NM ad) (S : Mem) {T : Mem} (hf : f4_asides S = some T) : SysV l yX4_asides wsX4_asides rm4_asides D NM ad (EM K ad) (KM D K) [.ref (ad 0)] S T :=
  met_of (own := RX4) (by decide) rfl rfl (Nat.le_of_ble_eq_true rfl) (fun _ _ s _ _ _ _ ls C0 _ hP hl => w4_asides hI C0 S hf s.heap [] ls hP va_S.rf hl)
theorem in_X4_backs_X4 : ∀ w ∈ wsX40, w ∈ wsX4_backs := fun _ h => List.mem_cons_of_mem _ (List.mem_append_right _ h)
theorem hd_X4_backs : yX4_backs.cls = RX4 ∧ yX4_backs.cls ≠ "java/lang/invoke/MethodHandle" ∧ yX4_backs.cls ≠ "java/lang/invoke/VarHandle" ∧ (parseMethodDescriptor yX4_backs.desc).map (fun d => d.parameters.length) = some 0 := by decide +kernel
abbrev rm4_backs : Room := { frames := 0, cells := 0, slots := 0, locals := 0 }
set_option maxHeartbeats 4000000 in
set_option maxRecDepth 100000 in
theorem w4_backs_b2 {p : Program} {l : Launch} {e : Env} {s : State} {m : MethodId} {args : Array Value} {below : List Frame} {meth : Method} {c : Code} {D : va_G} {K : Nat → ClassId} {ad : Nat → Nat} (hI : INJ NM ad) (C0 : Cx p s m args meth c RX4 wsX4_backs cX4_backs 2 none (KM D K)) {T : Mem} : ∀ (n : Nat), ∀ (S : Mem) (x1 : Int32), f4_backs_b2 n S x1 = some T → ∀ (H : Heap) (locs : List Loc) (ls : Array Slot), va_P D vwCl (wl NM ad (EM K ad S)) H → va_S (IW NM ad) s.heap H locs → lv_has ls 2 [(0, .ref (ad 0)), (1, .int x1)] → W p l e rm4_backs s m args below meth c H locs 0 0 (MQ below (va_Qv (fun (u : Mem) => u = T) (fun u t => va_P D vwCl (wl NM ad (EM K ad u)) t.heap) (IW NM ad)) args s 0 0 (IW NM ad)) (F0 m 2 ls []) := by
  have hx := C0.1
  have hb := C0.2.1
  have hts := C0.2.2.2.2.1
  have hown := C0.2.2.2.1
  have hKC := C0.2.2.2.2.2.2.2
  intro n
  induction n with
  | zero =>
    intro S x1 hf
    rw [f4_backs_b2] at hf
    cases hf
  | succ n ih =>
    intro S x1 hf H locs ls hP hS hl
    rw [f4_backs_b2] at hf
    refine lv_iload_n hx hb dX4_backs_2 rfl (lv_at hl 1 rfl) ?_
    refine lv_bipush (v := 9) hx hb dX4_backs_3 (by decide) ?_
    refine lv_icmp_ge (tgt := 26) hx hb dX4_backs_5 (by decide) (fun c1 => ?_) (fun c1 => ?_)
    · have hf := ite_t hf c1
      exact ret_v C0 hP hS (Option.some.inj hf) dX4_backs_26
    · have hf := ite_f hf c1
      refine lv_aload_n hx hb dX4_backs_8 rfl (lv_at hl 0 rfl) ?_
      refine x_get C0 hKC hP (by decide) (EM_0 K ad S) rfl in_X4_backs_X4 16 (by decide) (List.mem_of_getElem? (i := 1) rfl) rfl dX4_backs_9 ?_
      refine lv_iload_n hx hb dX4_backs_12 rfl (lv_at hl 1 rfl) ?_
      refine lv_aload_n hx hb dX4_backs_13 rfl (lv_at hl 0 rfl) ?_
      refine x_get C0 hKC hP (by decide) (EM_0 K ad S) rfl in_X4_backs_X4 21 (by decide) (List.mem_of_getElem? (i := 2) rfl) rfl dX4_backs_14 ?_
      refine lv_iload_n hx hb dX4_backs_17 rfl (lv_at hl 1 rfl) ?_
      obtain ⟨g2, hf⟩ := gd_some hf
      refine x_iald C0 hKC hP (IM_15 K ad) (t0 := 0) rfl g2 dX4_backs_18 ?_
      obtain ⟨g3, hf⟩ := gd_some hf
      refine x_iast C0 hKC hI (EM_loc K ad) hP hS (IM_11 K ad) (t0 := 0) rfl g3 dX4_backs_19 (fun S4 eS4 H locs hP hS => ?_)
      have hf := nm_at eS4 hf
      obtain ⟨v5, ev5⟩ : ∃ y : Int32, y = x1 + 1 := ⟨_, rfl⟩
      have hf := nm_at ev5 hf
      refine lv_iinc (v := v5) (lv' := [(1, .int v5), (0, .ref (ad 0))]) hx hb dX4_backs_20 hl (k := 1) rfl (by rw [ev5]; rfl) (by decide) rfl (fun ls hl => ?_)
      refine lv_goto (tgt := 2) hx hb dX4_backs_23 (by decide) ?_
      exact ih S4 v5 hf H locs ls hP hS (lv_sub hl [1, 0] rfl)
set_option maxHeartbeats 4000000 in
set_option maxRecDepth 100000 in
theorem w4_backs {p : Program} {l : Launch} {e : Env} {s : State} {m : MethodId} {args : Array Value} {below : List Frame} {meth : Method} {c : Code} {D : va_G} {K : Nat → ClassId} {ad : Nat → Nat} (hI : INJ NM ad) (C0 : Cx p s m args meth c RX4 wsX4_backs cX4_backs 2 none (KM D K)) {T : Mem} : ∀ (S : Mem), f4_backs S = some T → ∀ (H : Heap) (locs : List Loc) (ls : Array Slot), va_P D vwCl (wl NM ad (EM K ad S)) H → va_S (IW NM ad) s.heap H locs → lv_has ls 2 [(0, .ref (ad 0))] → W p l e rm4_backs s m args below meth c H locs 0 0 (MQ below (va_Qv (fun (u : Mem) => u = T) (fun u t => va_P D vwCl (wl NM ad (EM K ad u)) t.heap) (IW NM ad)) args s 0 0 (IW NM ad)) (F0 m 0 ls []) := by
  have hx := C0.1
  have hb := C0.2.1
  have hts := C0.2.2.2.2.1
  have hown := C0.2.2.2.1
  have hKC := C0.2.2.2.2.2.2.2
  intro S hf H locs ls hP hS hl
  rw [f4_backs] at hf
  refine lv_iconst (v := 0) hx hb dX4_backs_0 (by decide) ?_
  refine lv_istore_n (lv' := [(1, .int 0), (0, .ref (ad 0))]) hx hb dX4_backs_1 rfl hl (by decide) rfl (fun ls hl => ?_)
  exact w4_backs_b2 hI C0 FU S 0 hf H locs ls hP hS (lv_sub hl [1, 0] rfl)
theorem m4_backs (l : Launch) (D : va_G) (K : Nat → ClassId) (ad : Nat → Nat) (hI : INJ NM ad) (S : Mem) {T : Mem} (hf : f4_backs S = some T) : SysV l yX4_backs wsX4_backs rm4_backs D NM ad (EM K ad) (KM D K) [.ref (ad 0)] S T :=
  met_of (own := RX4) (by decide) rfl rfl (Nat.le_of_ble_eq_true rfl) (fun _ _ s _ _ _ _ ls C0 _ hP hl => w4_backs hI C0 S hf s.heap [] ls hP va_S.rf hl)
theorem hd_X4_many : yX4_many.cls ≠ "java/lang/invoke/MethodHandle" ∧ yX4_many.cls ≠ "java/lang/invoke/VarHandle" ∧ (parseMethodDescriptor yX4_many.desc).map (fun d => d.parameters.length) = some 1 := by decide +kernel
abbrev rm4_many : Room := { frames := 0, cells := 0, slots := 0, locals := 0 }
set_option maxHeartbeats 4000000 in
set_option maxRecDepth 100000 in
theorem w4_many_b4 {p : Program} {l : Launch} {e : Env} {s : State} {m : MethodId} {args : Array Value} {below : List Frame} {meth : Method} {c : Code} {D : va_G} {K : Nat → ClassId} {ad : Nat → Nat} (hI : INJ NM ad) (C0 : Cx p s m args meth c RX4 wsX4_many cX4_many 3 (some .int) (KM D K)) (S : Mem) {r : Int32} : ∀ (n : Nat), ∀ (x1 : Int32) (x2 : Int32), f4_many_b4 n x1 x2 = some r → ∀ (H : Heap) (locs : List Loc) (ls : Array Slot), va_P D vwCl (wl NM ad (EM K ad S)) H → va_S (IW NM ad) s.heap H locs → lv_has ls 3 [(1, .int x1), (2, .int x2)] → W p l e rm4_many s m args below meth c H locs 0 0 (MQ below (va_Qi (fun (x : Int32) (u : Mem) => x = r ∧ u = S) (fun u t => va_P D vwCl (wl NM ad (EM K ad u)) t.heap) (IW NM ad)) args s 0 0 (IW NM ad)) (F0 m 4 ls []) := by
  have hx := C0.1
  have hb := C0.2.1
  have hts := C0.2.2.2.2.1
  have hown := C0.2.2.2.1
  have hKC := C0.2.2.2.2.2.2.2
  intro n
  induction n with
  | zero =>
    intro x1 x2 hf
    rw [f4_many_b4] at hf
    cases hf
  | succ n ih =>
    intro x1 x2 hf H locs ls hP hS hl
    rw [f4_many_b4] at hf
    refine lv_iload_n hx hb dX4_many_4 rfl (lv_at hl 1 rfl) ?_
    refine lv_if_eq (tgt := 20) hx hb dX4_many_5 (by decide) (fun c1 => ?_) (fun c1 => ?_)
    · have hf := ite_t hf c1
      refine lv_iload_n hx hb dX4_many_20 rfl (lv_at hl 0 rfl) ?_
      exact ret_i C0 hP hS (Option.some.inj hf) rfl dX4_many_21
    · have hf := ite_f hf c1
      obtain ⟨v2, ev2⟩ : ∃ y : Int32, y = x1 + 1 := ⟨_, rfl⟩
      have hf := nm_at ev2 hf
      refine lv_iinc (v := v2) (lv' := [(1, .int v2), (2, .int x2)]) hx hb dX4_many_8 hl (k := 0) rfl (by rw [ev2]; rfl) (by decide) rfl (fun ls hl => ?_)
      refine lv_iload_n hx hb dX4_many_11 rfl (lv_at hl 1 rfl) ?_
      refine lv_iload_n hx hb dX4_many_12 rfl (lv_at hl 1 rfl) ?_
      refine lv_iconst (v := 1) hx hb dX4_many_13 (by decide) ?_
      refine lv_isub hx hb dX4_many_14 ?_
      refine lv_iand hx hb dX4_many_15 ?_
      refine lv_topi (fun v3 ev3 => ?_)
      have hf := nm_at ev3 hf
      refine lv_istore_n (lv' := [(2, .int v3), (1, .int v2)]) hx hb dX4_many_16 rfl hl (by decide) rfl (fun ls hl => ?_)
      refine lv_goto (tgt := 4) hx hb dX4_many_17 (by decide) ?_
      exact ih v2 v3 hf H locs ls hP hS (lv_sub hl [1, 0] rfl)
set_option maxHeartbeats 4000000 in
set_option maxRecDepth 100000 in
theorem w4_many {p : Program} {l : Launch} {e : Env} {s : State} {m : MethodId} {args : Array Value} {below : List Frame} {meth : Method} {c : Code} {D : va_G} {K : Nat → ClassId} {ad : Nat → Nat} (hI : INJ NM ad) (C0 : Cx p s m args meth c RX4 wsX4_many cX4_many 3 (some .int) (KM D K)) (S : Mem) {r : Int32} : ∀ (x0 : Int32), f4_many x0 = some r → ∀ (H : Heap) (locs : List Loc) (ls : Array Slot), va_P D vwCl (wl NM ad (EM K ad S)) H → va_S (IW NM ad) s.heap H locs → lv_has ls 3 [(0, .int x0)] → W p l e rm4_many s m args below meth c H locs 0 0 (MQ below (va_Qi (fun (x : Int32) (u : Mem) => x = r ∧ u = S) (fun u t => va_P D vwCl (wl NM ad (EM K ad u)) t.heap) (IW NM ad)) args s 0 0 (IW NM ad)) (F0 m 0 ls []) := by
  have hx := C0.1
  have hb := C0.2.1
  have hts := C0.2.2.2.2.1
  have hown := C0.2.2.2.1
  have hKC := C0.2.2.2.2.2.2.2
  intro x0 hf H locs ls hP hS hl
  rw [f4_many] at hf
  refine lv_iconst (v := 0) hx hb dX4_many_0 (by decide) ?_
  refine lv_istore_n (lv' := [(1, .int 0), (0, .int x0)]) hx hb dX4_many_1 rfl hl (by decide) rfl (fun ls hl => ?_)
  refine lv_iload_n hx hb dX4_many_2 rfl (lv_at hl 1 rfl) ?_
  refine lv_istore_n (lv' := [(2, .int x0), (1, .int 0), (0, .int x0)]) hx hb dX4_many_3 rfl hl (by decide) rfl (fun ls hl => ?_)
  exact w4_many_b4 hI C0 S FU 0 x0 hf H locs ls hP hS (lv_sub hl [1, 0] rfl)
theorem m4_many (l : Launch) (D : va_G) (K : Nat → ClassId) (ad : Nat → Nat) (hI : INJ NM ad) (S : Mem) (x0 : Int32) {r : Int32} (hf : f4_many x0 = some r) : SysI l yX4_many wsX4_many rm4_many D NM ad (EM K ad) (KM D K) [.int x0] S r S :=
  met_of (own := RX4) (by decide) rfl rfl (Nat.le_of_ble_eq_true rfl) (fun _ _ s _ _ _ _ ls C0 _ hP hl => w4_many hI C0 S x0 hf s.heap [] ls hP va_S.rf hl)
theorem in_X4_worksOff_X4 : ∀ w ∈ wsX40, w ∈ wsX4_worksOff := fun _ h => List.mem_cons_of_mem _ (List.mem_append_right _ h)
theorem hd_X4_worksOff : yX4_worksOff.cls = RX4 ∧ yX4_worksOff.cls ≠ "java/lang/invoke/MethodHandle" ∧ yX4_worksOff.cls ≠ "java/lang/invoke/VarHandle" ∧ (parseMethodDescriptor yX4_worksOff.desc).map (fun d => d.parameters.length) = some 0 := by decide +kernel
abbrev rm4_worksOff : Room := { frames := 3, cells := 0, slots := 0, locals := 63 }
set_option maxHeartbeats 4000000 in
set_option maxRecDepth 100000 in
theorem w4_worksOff_b28 {p : Program} {l : Launch} {e : Env} {s : State} {m : MethodId} {args : Array Value} {below : List Frame} {meth : Method} {c : Code} {D : va_G} {K : Nat → ClassId} {ad : Nat → Nat} (hI : INJ NM ad) (C0 : Cx p s m args meth c RX4 wsX4_worksOff cX4_worksOff 3 (some .int) (KM D K)) (S : Mem) {r : Int32} (k4 : Int32 → Int32 → Option Int32) (hk4 : ∀ (x1 : Int32) (x2 : Int32), k4 x1 x2 = some r → ∀ (H : Heap) (locs : List Loc) (ls : Array Slot), va_P D vwCl (wl NM ad (EM K ad S)) H → va_S (IW NM ad) s.heap H locs → lv_has ls 3 [(0, .ref (ad 0)), (1, .int x1), (2, .int x2)] → W p l e rm4_worksOff s m args below meth c H locs 0 0 (MQ below (va_Qi (fun (x : Int32) (u : Mem) => x = r ∧ u = S) (fun u t => va_P D vwCl (wl NM ad (EM K ad u)) t.heap) (IW NM ad)) args s 0 0 (IW NM ad)) (F0 m 4 ls [])) : ∀ (x2 : Int32) (t0 : Int32) (t1 : Int32), f4_worksOff_b28 k4 S x2 t0 t1 = some r → ∀ (H : Heap) (locs : List Loc) (ls : Array Slot), va_P D vwCl (wl NM ad (EM K ad S)) H → va_S (IW NM ad) s.heap H locs → lv_has ls 3 [(0, .ref (ad 0)), (2, .int x2)] → W p l e rm4_worksOff s m args below meth c H locs 0 0 (MQ below (va_Qi (fun (x : Int32) (u : Mem) => x = r ∧ u = S) (fun u t => va_P D vwCl (wl NM ad (EM K ad u)) t.heap) (IW NM ad)) args s 0 0 (IW NM ad)) (F0 m 28 ls [.int t1, .int t0]) := by
  have hx := C0.1
  have hb := C0.2.1
  have hts := C0.2.2.2.2.1
  have hown := C0.2.2.2.1
  have hKC := C0.2.2.2.2.2.2.2
  intro x2 t0 t1 hf H locs ls hP hS hl
  rw [f4_worksOff_b28] at hf
  refine lv_ior hx hb dX4_worksOff_28 ?_
  refine lv_topi (fun v1 ev1 => ?_)
  have hf := nm_at ev1 hf
  refine lv_istore_n (lv' := [(1, .int v1), (0, .ref (ad 0)), (2, .int x2)]) hx hb dX4_worksOff_29 rfl hl (by decide) rfl (fun ls hl => ?_)
  obtain ⟨v2, ev2⟩ : ∃ y : Int32, y = x2 + 1 := ⟨_, rfl⟩
  have hf := nm_at ev2 hf
  refine lv_iinc (v := v2) (lv' := [(2, .int v2), (1, .int v1), (0, .ref (ad 0))]) hx hb dX4_worksOff_30 hl (k := 2) rfl (by rw [ev2]; rfl) (by decide) rfl (fun ls hl => ?_)
  refine lv_goto (tgt := 4) hx hb dX4_worksOff_33 (by decide) ?_
  exact hk4 v1 v2 hf H locs ls hP hS (lv_sub hl [2, 1, 0] rfl)
set_option maxHeartbeats 4000000 in
set_option maxRecDepth 100000 in
theorem w4_worksOff_b4 {p : Program} {l : Launch} {e : Env} {s : State} {m : MethodId} {args : Array Value} {below : List Frame} {meth : Method} {c : Code} {D : va_G} {K : Nat → ClassId} {ad : Nat → Nat} (hI : INJ NM ad) (C0 : Cx p s m args meth c RX4 wsX4_worksOff cX4_worksOff 3 (some .int) (KM D K)) (S : Mem) {r : Int32} : ∀ (n : Nat), ∀ (x1 : Int32) (x2 : Int32), f4_worksOff_b4 S n x1 x2 = some r → ∀ (H : Heap) (locs : List Loc) (ls : Array Slot), va_P D vwCl (wl NM ad (EM K ad S)) H → va_S (IW NM ad) s.heap H locs → lv_has ls 3 [(0, .ref (ad 0)), (1, .int x1), (2, .int x2)] → W p l e rm4_worksOff s m args below meth c H locs 0 0 (MQ below (va_Qi (fun (x : Int32) (u : Mem) => x = r ∧ u = S) (fun u t => va_P D vwCl (wl NM ad (EM K ad u)) t.heap) (IW NM ad)) args s 0 0 (IW NM ad)) (F0 m 4 ls []) := by
  have hx := C0.1
  have hb := C0.2.1
  have hts := C0.2.2.2.2.1
  have hown := C0.2.2.2.1
  have hKC := C0.2.2.2.2.2.2.2
  intro n
  induction n with
  | zero =>
    intro x1 x2 hf
    rw [f4_worksOff_b4] at hf
    cases hf
  | succ n ih =>
    intro x1 x2 hf H locs ls hP hS hl
    rw [f4_worksOff_b4] at hf
    refine lv_iload_n hx hb dX4_worksOff_4 rfl (lv_at hl 2 rfl) ?_
    refine lv_aload_n hx hb dX4_worksOff_5 rfl (lv_at hl 0 rfl) ?_
    refine x_get C0 hKC hP (by decide) (EM_0 K ad S) rfl in_X4_worksOff_X4 12 (by decide) (List.mem_of_getElem? (i := 1) rfl) rfl dX4_worksOff_6 ?_
    refine lv_icmp_ge (tgt := 36) hx hb dX4_worksOff_9 (by decide) (fun c1 => ?_) (fun c1 => ?_)
    · have hf := ite_t hf c1
      refine lv_iload_n hx hb dX4_worksOff_36 rfl (lv_at hl 1 rfl) ?_
      exact ret_i C0 hP hS (Option.some.inj hf) rfl dX4_worksOff_37
    · have hf := ite_f hf c1
      refine lv_iload_n hx hb dX4_worksOff_12 rfl (lv_at hl 1 rfl) ?_
      refine lv_aload_n hx hb dX4_worksOff_13 rfl (lv_at hl 0 rfl) ?_
      refine lv_iload_n hx hb dX4_worksOff_14 rfl (lv_at hl 2 rfl) ?_
      obtain ⟨v3, h2, hf⟩ := b1_some hf
      refine sys_i hS (sys_runV (As := [.int x2]) (rest := [.int x1]) C0 KM_ok hKC hP hS (by decide) (EM_0 K ad S) rfl (m4_comesOff l D K ad hI S x2 h2) gX4_worksOff_X4_comesOff rfl ⟨rfl, rfl⟩ hd_X4_comesOff ⟨Nat.le_of_ble_eq_true rfl, Nat.le_of_ble_eq_true rfl⟩ hl.1 rfl (Nat.le_of_ble_eq_true rfl) dX4_worksOff_15 ⟨Nat.le_refl _, Nat.le_refl _⟩) (fun H locs hP hS => ?_)
      refine lv_if_eq (tgt := 27) hx hb dX4_worksOff_18 (by decide) (fun c4 => ?_) (fun c4 => ?_)
      · have hf := ite_t hf c4
        refine lv_iconst (v := 0) hx hb dX4_worksOff_27 (by decide) ?_
        exact w4_worksOff_b28 hI C0 S (f4_worksOff_b4 S n) ih x2 x1 0 hf H locs ls hP hS (lv_sub hl [0, 2] rfl)
      · have hf := ite_f hf c4
        refine lv_iconst (v := 1) hx hb dX4_worksOff_21 (by decide) ?_
        refine lv_iload_n hx hb dX4_worksOff_22 rfl (lv_at hl 2 rfl) ?_
        refine lv_ishl hx hb dX4_worksOff_23 ?_
        refine lv_goto (tgt := 28) hx hb dX4_worksOff_24 (by decide) ?_
        exact w4_worksOff_b28 hI C0 S (f4_worksOff_b4 S n) ih x2 x1 (1 <<< (x2 &&& 31)) hf H locs ls hP hS (lv_sub hl [0, 2] rfl)
set_option maxHeartbeats 4000000 in
set_option maxRecDepth 100000 in
theorem w4_worksOff {p : Program} {l : Launch} {e : Env} {s : State} {m : MethodId} {args : Array Value} {below : List Frame} {meth : Method} {c : Code} {D : va_G} {K : Nat → ClassId} {ad : Nat → Nat} (hI : INJ NM ad) (C0 : Cx p s m args meth c RX4 wsX4_worksOff cX4_worksOff 3 (some .int) (KM D K)) (S : Mem) {r : Int32} : f4_worksOff S = some r → ∀ (H : Heap) (locs : List Loc) (ls : Array Slot), va_P D vwCl (wl NM ad (EM K ad S)) H → va_S (IW NM ad) s.heap H locs → lv_has ls 3 [(0, .ref (ad 0))] → W p l e rm4_worksOff s m args below meth c H locs 0 0 (MQ below (va_Qi (fun (x : Int32) (u : Mem) => x = r ∧ u = S) (fun u t => va_P D vwCl (wl NM ad (EM K ad u)) t.heap) (IW NM ad)) args s 0 0 (IW NM ad)) (F0 m 0 ls []) := by
  have hx := C0.1
  have hb := C0.2.1
  have hts := C0.2.2.2.2.1
  have hown := C0.2.2.2.1
  have hKC := C0.2.2.2.2.2.2.2
  intro  hf H locs ls hP hS hl
  rw [f4_worksOff] at hf
  refine lv_iconst (v := 0) hx hb dX4_worksOff_0 (by decide) ?_
  refine lv_istore_n (lv' := [(1, .int 0), (0, .ref (ad 0))]) hx hb dX4_worksOff_1 rfl hl (by decide) rfl (fun ls hl => ?_)
  refine lv_iconst (v := 0) hx hb dX4_worksOff_2 (by decide) ?_
  refine lv_istore_n (lv' := [(2, .int 0), (1, .int 0), (0, .ref (ad 0))]) hx hb dX4_worksOff_3 rfl hl (by decide) rfl (fun ls hl => ?_)
  exact w4_worksOff_b4 hI C0 S FU 0 0 hf H locs ls hP hS (lv_sub hl [2, 1, 0] rfl)
theorem m4_worksOff (l : Launch) (D : va_G) (K : Nat → ClassId) (ad : Nat → Nat) (hI : INJ NM ad) (S : Mem) {r : Int32} (hf : f4_worksOff S = some r) : SysI l yX4_worksOff wsX4_worksOff rm4_worksOff D NM ad (EM K ad) (KM D K) [.ref (ad 0)] S r S :=
  met_of (own := RX4) (by decide) rfl rfl (Nat.le_of_ble_eq_true rfl) (fun _ _ s _ _ _ _ ls C0 _ hP hl => w4_worksOff hI C0 S hf s.heap [] ls hP va_S.rf hl)
theorem in_X4_works_X4 : ∀ w ∈ wsX40, w ∈ wsX4_works := fun _ h => List.mem_cons_of_mem _ (List.mem_append_right _ h)
theorem hd_X4_works : yX4_works.cls = RX4 ∧ yX4_works.cls ≠ "java/lang/invoke/MethodHandle" ∧ yX4_works.cls ≠ "java/lang/invoke/VarHandle" ∧ (parseMethodDescriptor yX4_works.desc).map (fun d => d.parameters.length) = some 0 := by decide +kernel
abbrev rm4_works : Room := { frames := 4, cells := 0, slots := 0, locals := 85 }
set_option maxHeartbeats 4000000 in
set_option maxRecDepth 100000 in
theorem w4_works {p : Program} {l : Launch} {e : Env} {s : State} {m : MethodId} {args : Array Value} {below : List Frame} {meth : Method} {c : Code} {D : va_G} {K : Nat → ClassId} {ad : Nat → Nat} (hI : INJ NM ad) (C0 : Cx p s m args meth c RX4 wsX4_works cX4_works 2 (some .int) (KM D K)) {r : Int32} {T : Mem} : ∀ (S : Mem), f4_works S = some (r, T) → ∀ (H : Heap) (locs : List Loc) (ls : Array Slot), va_P D vwCl (wl NM ad (EM K ad S)) H → va_S (IW NM ad) s.heap H locs → lv_has ls 2 [(0, .ref (ad 0))] → W p l e rm4_works s m args below meth c H locs 0 0 (MQ below (va_Qi (fun (x : Int32) (u : Mem) => x = r ∧ u = T) (fun u t => va_P D vwCl (wl NM ad (EM K ad u)) t.heap) (IW NM ad)) args s 0 0 (IW NM ad)) (F0 m 0 ls []) := by
  have hx := C0.1
  have hb := C0.2.1
  have hts := C0.2.2.2.2.1
  have hown := C0.2.2.2.1
  have hKC := C0.2.2.2.2.2.2.2
  intro S hf H locs ls hP hS hl
  rw [f4_works] at hf
  refine lv_aload_n hx hb dX4_works_0 rfl (lv_at hl 0 rfl) ?_
  obtain ⟨v2, h1, hf⟩ := b1_some hf
  refine sys_i hS (sys_runV (As := []) (rest := []) C0 KM_ok hKC hP hS (by decide) (EM_0 K ad S) rfl (m4_worksOff l D K ad hI S h1) gX4_works_X4_worksOff rfl ⟨rfl, rfl⟩ hd_X4_worksOff ⟨Nat.le_of_ble_eq_true rfl, Nat.le_of_ble_eq_true rfl⟩ hl.1 rfl (Nat.le_of_ble_eq_true rfl) dX4_works_1 ⟨Nat.le_refl _, Nat.le_refl _⟩) (fun H locs hP hS => ?_)
  refine lv_istore_n (lv' := [(1, .int v2), (0, .ref (ad 0))]) hx hb dX4_works_4 rfl hl (by decide) rfl (fun ls hl => ?_)
  refine lv_aload_n hx hb dX4_works_5 rfl (lv_at hl 1 rfl) ?_
  refine lv_iload_n hx hb dX4_works_6 rfl (lv_at hl 0 rfl) ?_
  refine lv_iload_n hx hb dX4_works_7 rfl (lv_at hl 0 rfl) ?_
  obtain ⟨v4, h3, hf⟩ := b1_some hf
  refine sys_i hS (sys_runS (As := [.int v2]) (rest := [.int v2, .ref (ad 0)]) C0 KM_ok hP hS (m4_many l D K ad hI S v2 h3) gX4_works_X4_many rfl ⟨rfl, rfl⟩ hd_X4_many ⟨Nat.le_of_ble_eq_true rfl, Nat.le_of_ble_eq_true rfl⟩ hl.1 rfl (Nat.le_of_ble_eq_true rfl) dX4_works_8 ⟨Nat.le_refl _, Nat.le_refl _⟩) (fun H locs hP hS => ?_)
  obtain ⟨v6, S7, h5, hf⟩ := b2_some hf
  refine sys_i hS (sys_runV (As := [.int v2, .int v4]) (rest := []) C0 KM_ok hKC hP hS (by decide) (EM_0 K ad S) rfl (m4_tells l D K ad hI S v2 v4 h5) gX4_works_X4_tells rfl ⟨rfl, rfl⟩ hd_X4_tells ⟨Nat.le_of_ble_eq_true rfl, Nat.le_of_ble_eq_true rfl⟩ hl.1 rfl (Nat.le_of_ble_eq_true rfl) dX4_works_11 ⟨Nat.le_refl _, Nat.le_refl _⟩) (fun H locs hP hS => ?_)
  exact ret_i C0 hP hS (congrArg Prod.fst (Option.some.inj hf)) (congrArg Prod.snd (Option.some.inj hf)) dX4_works_14
theorem m4_works (l : Launch) (D : va_G) (K : Nat → ClassId) (ad : Nat → Nat) (hI : INJ NM ad) (S : Mem) {r : Int32} {T : Mem} (hf : f4_works S = some (r, T)) : SysI l yX4_works wsX4_works rm4_works D NM ad (EM K ad) (KM D K) [.ref (ad 0)] S r T :=
  met_of (own := RX4) (by decide) rfl rfl (Nat.le_of_ble_eq_true rfl) (fun _ _ s _ _ _ _ ls C0 _ hP hl => w4_works hI C0 S hf s.heap [] ls hP va_S.rf hl)
theorem in_X4_goesOn_X4 : ∀ w ∈ wsX40, w ∈ wsX4_goesOn := fun _ h => List.mem_cons_of_mem _ (List.mem_append_right _ h)
theorem hd_X4_goesOn : yX4_goesOn.cls = RX4 ∧ yX4_goesOn.cls ≠ "java/lang/invoke/MethodHandle" ∧ yX4_goesOn.cls ≠ "java/lang/invoke/VarHandle" ∧ (parseMethodDescriptor yX4_goesOn.desc).map (fun d => d.parameters.length) = some 1 := by decide +kernel
abbrev rm4_goesOn : Room := { frames := 2, cells := 0, slots := 0, locals := 43 }
set_option maxHeartbeats 4000000 in
set_option maxRecDepth 100000 in
theorem w4_goesOn_b2 {p : Program} {l : Launch} {e : Env} {s : State} {m : MethodId} {args : Array Value} {below : List Frame} {meth : Method} {c : Code} {D : va_G} {K : Nat → ClassId} {ad : Nat → Nat} (hI : INJ NM ad) (C0 : Cx p s m args meth c RX4 wsX4_goesOn cX4_goesOn 3 none (KM D K)) {T : Mem} : ∀ (n : Nat), ∀ (S : Mem) (x1 : Int32) (x2 : Int32), f4_goesOn_b2 n S x1 x2 = some T → ∀ (H : Heap) (locs : List Loc) (ls : Array Slot), va_P D vwCl (wl NM ad (EM K ad S)) H → va_S (IW NM ad) s.heap H locs → lv_has ls 3 [(0, .ref (ad 0)), (1, .int x1), (2, .int x2)] → W p l e rm4_goesOn s m args below meth c H locs 0 0 (MQ below (va_Qv (fun (u : Mem) => u = T) (fun u t => va_P D vwCl (wl NM ad (EM K ad u)) t.heap) (IW NM ad)) args s 0 0 (IW NM ad)) (F0 m 2 ls []) := by
  have hx := C0.1
  have hb := C0.2.1
  have hts := C0.2.2.2.2.1
  have hown := C0.2.2.2.1
  have hKC := C0.2.2.2.2.2.2.2
  intro n
  induction n with
  | zero =>
    intro S x1 x2 hf
    rw [f4_goesOn_b2] at hf
    cases hf
  | succ n ih =>
    intro S x1 x2 hf H locs ls hP hS hl
    rw [f4_goesOn_b2] at hf
    refine lv_iload_n hx hb dX4_goesOn_2 rfl (lv_at hl 2 rfl) ?_
    refine lv_iload_n hx hb dX4_goesOn_3 rfl (lv_at hl 1 rfl) ?_
    refine lv_icmp_ge (tgt := 17) hx hb dX4_goesOn_4 (by decide) (fun c1 => ?_) (fun c1 => ?_)
    · have hf := ite_t hf c1
      exact ret_v C0 hP hS (Option.some.inj hf) dX4_goesOn_17
    · have hf := ite_f hf c1
      refine lv_aload_n hx hb dX4_goesOn_7 rfl (lv_at hl 0 rfl) ?_
      obtain ⟨S3, h2, hf⟩ := b1_some hf
      refine sys_v hS (sys_runV (As := []) (rest := []) C0 KM_ok hKC hP hS (by decide) (EM_0 K ad S) rfl (m4_goesBy l D K ad hI S h2) gX4_goesOn_X4_goesBy rfl ⟨rfl, rfl⟩ hd_X4_goesBy ⟨Nat.le_of_ble_eq_true rfl, Nat.le_of_ble_eq_true rfl⟩ hl.1 rfl (Nat.le_of_ble_eq_true rfl) dX4_goesOn_8 ⟨Nat.le_refl _, Nat.le_refl _⟩) (fun H locs hP hS => ?_)
      obtain ⟨v4, ev4⟩ : ∃ y : Int32, y = x2 + 1 := ⟨_, rfl⟩
      have hf := nm_at ev4 hf
      refine lv_iinc (v := v4) (lv' := [(2, .int v4), (0, .ref (ad 0)), (1, .int x1)]) hx hb dX4_goesOn_11 hl (k := 2) rfl (by rw [ev4]; rfl) (by decide) rfl (fun ls hl => ?_)
      refine lv_goto (tgt := 2) hx hb dX4_goesOn_14 (by decide) ?_
      exact ih S3 x1 v4 hf H locs ls hP hS (lv_sub hl [1, 2, 0] rfl)
set_option maxHeartbeats 4000000 in
set_option maxRecDepth 100000 in
theorem w4_goesOn {p : Program} {l : Launch} {e : Env} {s : State} {m : MethodId} {args : Array Value} {below : List Frame} {meth : Method} {c : Code} {D : va_G} {K : Nat → ClassId} {ad : Nat → Nat} (hI : INJ NM ad) (C0 : Cx p s m args meth c RX4 wsX4_goesOn cX4_goesOn 3 none (KM D K)) {T : Mem} : ∀ (S : Mem) (x1 : Int32), f4_goesOn S x1 = some T → ∀ (H : Heap) (locs : List Loc) (ls : Array Slot), va_P D vwCl (wl NM ad (EM K ad S)) H → va_S (IW NM ad) s.heap H locs → lv_has ls 3 [(0, .ref (ad 0)), (1, .int x1)] → W p l e rm4_goesOn s m args below meth c H locs 0 0 (MQ below (va_Qv (fun (u : Mem) => u = T) (fun u t => va_P D vwCl (wl NM ad (EM K ad u)) t.heap) (IW NM ad)) args s 0 0 (IW NM ad)) (F0 m 0 ls []) := by
  have hx := C0.1
  have hb := C0.2.1
  have hts := C0.2.2.2.2.1
  have hown := C0.2.2.2.1
  have hKC := C0.2.2.2.2.2.2.2
  intro S x1 hf H locs ls hP hS hl
  rw [f4_goesOn] at hf
  refine lv_iconst (v := 0) hx hb dX4_goesOn_0 (by decide) ?_
  refine lv_istore_n (lv' := [(2, .int 0), (0, .ref (ad 0)), (1, .int x1)]) hx hb dX4_goesOn_1 rfl hl (by decide) rfl (fun ls hl => ?_)
  exact w4_goesOn_b2 hI C0 FU S x1 0 hf H locs ls hP hS (lv_sub hl [1, 2, 0] rfl)
theorem m4_goesOn (l : Launch) (D : va_G) (K : Nat → ClassId) (ad : Nat → Nat) (hI : INJ NM ad) (S : Mem) (x1 : Int32) {T : Mem} (hf : f4_goesOn S x1 = some T) : SysV l yX4_goesOn wsX4_goesOn rm4_goesOn D NM ad (EM K ad) (KM D K) [.ref (ad 0), .int x1] S T :=
  met_of (own := RX4) (by decide) rfl rfl (Nat.le_of_ble_eq_true rfl) (fun _ _ s _ _ _ _ ls C0 _ hP hl => w4_goesOn hI C0 S x1 hf s.heap [] ls hP va_S.rf hl)
theorem in_X4_later_X4 : ∀ w ∈ wsX40, w ∈ wsX4_later := fun _ h => List.mem_cons_of_mem _ (List.mem_append_right _ h)
theorem hd_X4_later : yX4_later.cls = RX4 ∧ yX4_later.cls ≠ "java/lang/invoke/MethodHandle" ∧ yX4_later.cls ≠ "java/lang/invoke/VarHandle" ∧ (parseMethodDescriptor yX4_later.desc).map (fun d => d.parameters.length) = some 2 := by decide +kernel
abbrev rm4_later : Room := { frames := 3, cells := 0, slots := 0, locals := 67 }
set_option maxHeartbeats 4000000 in
set_option maxRecDepth 100000 in
theorem w4_later {p : Program} {l : Launch} {e : Env} {s : State} {m : MethodId} {args : Array Value} {below : List Frame} {meth : Method} {c : Code} {D : va_G} {K : Nat → ClassId} {ad : Nat → Nat} (hI : INJ NM ad) (C0 : Cx p s m args meth c RX4 wsX4_later cX4_later 5 (some .int) (KM D K)) {r : Int32} {T : Mem} : ∀ (S : Mem) (x1 : Int32) (x2 : Int32), f4_later S x1 x2 = some (r, T) → ∀ (H : Heap) (locs : List Loc) (ls : Array Slot), va_P D vwCl (wl NM ad (EM K ad S)) H → va_S (IW NM ad) s.heap H locs → lv_has ls 5 [(0, .ref (ad 0)), (1, .int x1), (2, .int x2)] → W p l e rm4_later s m args below meth c H locs 0 0 (MQ below (va_Qi (fun (x : Int32) (u : Mem) => x = r ∧ u = T) (fun u t => va_P D vwCl (wl NM ad (EM K ad u)) t.heap) (IW NM ad)) args s 0 0 (IW NM ad)) (F0 m 0 ls []) := by
  have hx := C0.1
  have hb := C0.2.1
  have hts := C0.2.2.2.2.1
  have hown := C0.2.2.2.1
  have hKC := C0.2.2.2.2.2.2.2
  intro S x1 x2 hf H locs ls hP hS hl
  rw [f4_later] at hf
  refine lv_aload_n hx hb dX4_later_0 rfl (lv_at hl 0 rfl) ?_
  refine lv_iload_n hx hb dX4_later_1 rfl (lv_at hl 1 rfl) ?_
  obtain ⟨v2, h1, hf⟩ := b1_some hf
  refine sys_i hS (sys_runV (As := [.int x1]) (rest := []) C0 KM_ok hKC hP hS (by decide) (EM_0 K ad S) rfl (m4_isHouse l D K ad hI S x1 h1) gX4_later_X4_isHouse rfl ⟨rfl, rfl⟩ hd_X4_isHouse ⟨Nat.le_of_ble_eq_true rfl, Nat.le_of_ble_eq_true rfl⟩ hl.1 rfl (Nat.le_of_ble_eq_true rfl) dX4_later_2 ⟨Nat.le_refl _, Nat.le_refl _⟩) (fun H locs hP hS => ?_)
  refine lv_if_eq (tgt := 20) hx hb dX4_later_5 (by decide) (fun c3 => ?_) (fun c3 => ?_)
  · have hf := ite_t hf c3
    refine lv_iconst (v := (-1)) hx hb dX4_later_20 (by decide) ?_
    exact ret_i C0 hP hS (congrArg Prod.fst (Option.some.inj hf)) (congrArg Prod.snd (Option.some.inj hf)) dX4_later_21
  · have hf := ite_f hf c3
    refine lv_iload_n hx hb dX4_later_8 rfl (lv_at hl 2 rfl) ?_
    refine lv_i2l (v := (Int32.toInt64 x2)) hx hb dX4_later_9 rfl ?_
    refine lv_lconst (v := 0) hx hb dX4_later_10 (by decide) ?_
    refine lv_ldc2 (v := 60) hx hb hown (hts _ (List.mem_of_getElem? (i := 1) rfl)) dX4_later_11 ?_
    obtain ⟨v5, h4, hf⟩ := b1_some hf
    refine sys_i hS (sys_runS (As := [.long (Int32.toInt64 x2), .long 0, .long 60]) (rest := []) C0 KM_ok hP hS (m4_in l D K ad hI S (Int32.toInt64 x2) 0 60 h4) gX4_later_X4_in rfl ⟨rfl, rfl⟩ hd_X4_in ⟨Nat.le_of_ble_eq_true rfl, Nat.le_of_ble_eq_true rfl⟩ hl.1 rfl (Nat.le_of_ble_eq_true rfl) dX4_later_14 ⟨Nat.le_refl _, Nat.le_refl _⟩) (fun H locs hP hS => ?_)
    refine lv_if_ne (tgt := 22) hx hb dX4_later_17 (by decide) (fun c6 => ?_) (fun c6 => ?_)
    · have hf := ite_f hf c6
      refine lv_aload_n hx hb dX4_later_22 rfl (lv_at hl 0 rfl) ?_
      obtain ⟨S8, h7, hf⟩ := b1_some hf
      refine sys_v hS (sys_runV (As := []) (rest := []) C0 KM_ok hKC hP hS (by decide) (EM_0 K ad S) rfl (m4_asides l D K ad hI S h7) gX4_later_X4_asides rfl ⟨rfl, rfl⟩ hd_X4_asides ⟨Nat.le_of_ble_eq_true rfl, Nat.le_of_ble_eq_true rfl⟩ hl.1 rfl (Nat.le_of_ble_eq_true rfl) dX4_later_23 ⟨Nat.le_refl _, Nat.le_refl _⟩) (fun H locs hP hS => ?_)
      refine lv_aload_n hx hb dX4_later_26 rfl (lv_at hl 0 rfl) ?_
      refine lv_iload_n hx hb dX4_later_27 rfl (lv_at hl 2 rfl) ?_
      obtain ⟨S10, h9, hf⟩ := b1_some hf
      refine sys_v hS (sys_runV (As := [.int x2]) (rest := []) C0 KM_ok hKC hP hS (by decide) (EM_0 K ad S8) rfl (m4_goesOn l D K ad hI S8 x2 h9) gX4_later_X4_goesOn rfl ⟨rfl, rfl⟩ hd_X4_goesOn ⟨Nat.le_of_ble_eq_true rfl, Nat.le_of_ble_eq_true rfl⟩ hl.1 rfl (Nat.le_of_ble_eq_true rfl) dX4_later_28 ⟨Nat.le_refl _, Nat.le_refl _⟩) (fun H locs hP hS => ?_)
      refine lv_aload_n hx hb dX4_later_31 rfl (lv_at hl 0 rfl) ?_
      refine lv_iload_n hx hb dX4_later_32 rfl (lv_at hl 1 rfl) ?_
      obtain ⟨v12, h11, hf⟩ := b1_some hf
      refine sys_i hS (sys_runV (As := [.int x1]) (rest := []) C0 KM_ok hKC hP hS (by decide) (EM_0 K ad S10) rfl (m4_jar l D K ad hI S10 x1 h11) gX4_later_X4_jar rfl ⟨rfl, rfl⟩ hd_X4_jar ⟨Nat.le_of_ble_eq_true rfl, Nat.le_of_ble_eq_true rfl⟩ hl.1 rfl (Nat.le_of_ble_eq_true rfl) dX4_later_33 ⟨Nat.le_refl _, Nat.le_refl _⟩) (fun H locs hP hS => ?_)
      refine lv_istore_n (lv' := [(3, .int v12), (0, .ref (ad 0)), (1, .int x1), (2, .int x2)]) hx hb dX4_later_36 rfl hl (by decide) rfl (fun ls hl => ?_)
      refine lv_aload_n hx hb dX4_later_37 rfl (lv_at hl 1 rfl) ?_
      obtain ⟨v14, S15, h13, hf⟩ := b2_some hf
      refine sys_i hS (sys_runV (As := []) (rest := []) C0 KM_ok hKC hP hS (by decide) (EM_0 K ad S10) rfl (m4_springs l D K ad hI S10 h13) gX4_later_X4_springs rfl ⟨rfl, rfl⟩ hd_X4_springs ⟨Nat.le_of_ble_eq_true rfl, Nat.le_of_ble_eq_true rfl⟩ hl.1 rfl (Nat.le_of_ble_eq_true rfl) dX4_later_38 ⟨Nat.le_refl _, Nat.le_refl _⟩) (fun H locs hP hS => ?_)
      refine lv_pop hx hb dX4_later_41 rfl ?_
      refine lv_aload_n hx hb dX4_later_42 rfl (lv_at hl 1 rfl) ?_
      refine lv_iload_n hx hb dX4_later_43 rfl (lv_at hl 2 rfl) ?_
      obtain ⟨v17, h16, hf⟩ := b1_some hf
      refine sys_i hS (sys_runV (As := [.int x1]) (rest := []) C0 KM_ok hKC hP hS (by decide) (EM_0 K ad S15) rfl (m4_jar l D K ad hI S15 x1 h16) gX4_later_X4_jar rfl ⟨rfl, rfl⟩ hd_X4_jar ⟨Nat.le_of_ble_eq_true rfl, Nat.le_of_ble_eq_true rfl⟩ hl.1 rfl (Nat.le_of_ble_eq_true rfl) dX4_later_44 ⟨Nat.le_refl _, Nat.le_refl _⟩) (fun H locs hP hS => ?_)
      refine lv_istore (lv' := [(4, .int v17), (3, .int v12), (0, .ref (ad 0)), (1, .int x1), (2, .int x2)]) hx hb dX4_later_47 hl (by decide) rfl (fun ls hl => ?_)
      refine lv_aload_n hx hb dX4_later_49 rfl (lv_at hl 2 rfl) ?_
      obtain ⟨S19, h18, hf⟩ := b1_some hf
      refine sys_v hS (sys_runV (As := []) (rest := []) C0 KM_ok hKC hP hS (by decide) (EM_0 K ad S15) rfl (m4_backs l D K ad hI S15 h18) gX4_later_X4_backs rfl ⟨rfl, rfl⟩ hd_X4_backs ⟨Nat.le_of_ble_eq_true rfl, Nat.le_of_ble_eq_true rfl⟩ hl.1 rfl (Nat.le_of_ble_eq_true rfl) dX4_later_50 ⟨Nat.le_refl _, Nat.le_refl _⟩) (fun H locs hP hS => ?_)
      refine lv_aload_n hx hb dX4_later_53 rfl (lv_at hl 2 rfl) ?_
      refine lv_iload_n hx hb dX4_later_54 rfl (lv_at hl 1 rfl) ?_
      refine lv_iload hx hb dX4_later_55 (lv_at hl 0 rfl) ?_
      obtain ⟨v21, S22, h20, hf⟩ := b2_some hf
      refine sys_i hS (sys_runV (As := [.int v12, .int v17]) (rest := []) C0 KM_ok hKC hP hS (by decide) (EM_0 K ad S19) rfl (m4_tells l D K ad hI S19 v12 v17 h20) gX4_later_X4_tells rfl ⟨rfl, rfl⟩ hd_X4_tells ⟨Nat.le_of_ble_eq_true rfl, Nat.le_of_ble_eq_true rfl⟩ hl.1 rfl (Nat.le_of_ble_eq_true rfl) dX4_later_57 ⟨Nat.le_refl _, Nat.le_refl _⟩) (fun H locs hP hS => ?_)
      exact ret_i C0 hP hS (congrArg Prod.fst (Option.some.inj hf)) (congrArg Prod.snd (Option.some.inj hf)) dX4_later_60
    · have hf := ite_t hf c6
      refine lv_iconst (v := (-1)) hx hb dX4_later_20 (by decide) ?_
      exact ret_i C0 hP hS (congrArg Prod.fst (Option.some.inj hf)) (congrArg Prod.snd (Option.some.inj hf)) dX4_later_21
theorem m4_later (l : Launch) (D : va_G) (K : Nat → ClassId) (ad : Nat → Nat) (hI : INJ NM ad) (S : Mem) (x1 : Int32) (x2 : Int32) {r : Int32} {T : Mem} (hf : f4_later S x1 x2 = some (r, T)) : SysI l yX4_later wsX4_later rm4_later D NM ad (EM K ad) (KM D K) [.ref (ad 0), .int x1, .int x2] S r T :=
  met_of (own := RX4) (by decide) rfl rfl (Nat.le_of_ble_eq_true rfl) (fun _ _ s _ _ _ _ ls C0 _ hP hl => w4_later hI C0 S x1 x2 hf s.heap [] ls hP va_S.rf hl)
theorem in_X4_when_X4 : ∀ w ∈ wsX40, w ∈ wsX4_when := fun _ h => List.mem_cons_of_mem _ (List.mem_append_right _ h)
theorem hd_X4_when : yX4_when.cls = RX4 ∧ yX4_when.cls ≠ "java/lang/invoke/MethodHandle" ∧ yX4_when.cls ≠ "java/lang/invoke/VarHandle" ∧ (parseMethodDescriptor yX4_when.desc).map (fun d => d.parameters.length) = some 1 := by decide +kernel
abbrev rm4_when : Room := { frames := 3, cells := 0, slots := 0, locals := 63 }
set_option maxHeartbeats 4000000 in
set_option maxRecDepth 100000 in
theorem w4_when_b40 {p : Program} {l : Launch} {e : Env} {s : State} {m : MethodId} {args : Array Value} {below : List Frame} {meth : Method} {c : Code} {D : va_G} {K : Nat → ClassId} {ad : Nat → Nat} (hI : INJ NM ad) (C0 : Cx p s m args meth c RX4 wsX4_when cX4_when 4 (some .int) (KM D K)) {r : Int32} {T : Mem} : ∀ (S : Mem) (x1 : Int32) (x2 : Int32), f4_when_b40 S x1 x2 = some (r, T) → ∀ (H : Heap) (locs : List Loc) (ls : Array Slot), va_P D vwCl (wl NM ad (EM K ad S)) H → va_S (IW NM ad) s.heap H locs → lv_has ls 4 [(0, .ref (ad 0)), (1, .int x1), (2, .int x2)] → W p l e rm4_when s m args below meth c H locs 0 0 (MQ below (va_Qi (fun (x : Int32) (u : Mem) => x = r ∧ u = T) (fun u t => va_P D vwCl (wl NM ad (EM K ad u)) t.heap) (IW NM ad)) args s 0 0 (IW NM ad)) (F0 m 40 ls []) := by
  have hx := C0.1
  have hb := C0.2.1
  have hts := C0.2.2.2.2.1
  have hown := C0.2.2.2.1
  have hKC := C0.2.2.2.2.2.2.2
  intro S x1 x2 hf H locs ls hP hS hl
  rw [f4_when_b40] at hf
  refine lv_aload_n hx hb dX4_when_40 rfl (lv_at hl 0 rfl) ?_
  refine lv_iload_n hx hb dX4_when_41 rfl (lv_at hl 1 rfl) ?_
  obtain ⟨v2, h1, hf⟩ := b1_some hf
  refine sys_i hS (sys_runV (As := [.int x1]) (rest := []) C0 KM_ok hKC hP hS (by decide) (EM_0 K ad S) rfl (m4_worthNow l D K ad hI S x1 h1) gX4_when_X4_worthNow rfl ⟨rfl, rfl⟩ hd_X4_worthNow ⟨Nat.le_of_ble_eq_true rfl, Nat.le_of_ble_eq_true rfl⟩ hl.1 rfl (Nat.le_of_ble_eq_true rfl) dX4_when_42 ⟨Nat.le_refl _, Nat.le_refl _⟩) (fun H locs hP hS => ?_)
  refine lv_istore_n (lv' := [(3, .int v2), (0, .ref (ad 0)), (1, .int x1), (2, .int x2)]) hx hb dX4_when_45 rfl hl (by decide) rfl (fun ls hl => ?_)
  refine lv_aload_n hx hb dX4_when_46 rfl (lv_at hl 1 rfl) ?_
  obtain ⟨S4, h3, hf⟩ := b1_some hf
  refine sys_v hS (sys_runV (As := []) (rest := []) C0 KM_ok hKC hP hS (by decide) (EM_0 K ad S) rfl (m4_backs l D K ad hI S h3) gX4_when_X4_backs rfl ⟨rfl, rfl⟩ hd_X4_backs ⟨Nat.le_of_ble_eq_true rfl, Nat.le_of_ble_eq_true rfl⟩ hl.1 rfl (Nat.le_of_ble_eq_true rfl) dX4_when_47 ⟨Nat.le_refl _, Nat.le_refl _⟩) (fun H locs hP hS => ?_)
  refine lv_iload_n hx hb dX4_when_50 rfl (lv_at hl 3 rfl) ?_
  refine lv_bipush (v := 61) hx hb dX4_when_51 (by decide) ?_
  refine lv_icmp_ge (tgt := 65) hx hb dX4_when_53 (by decide) (fun c5 => ?_) (fun c5 => ?_)
  · have hf := ite_t hf c5
    refine lv_bipush (v := (-9)) hx hb dX4_when_65 (by decide) ?_
    exact ret_i C0 hP hS (congrArg Prod.fst (Option.some.inj hf)) (congrArg Prod.snd (Option.some.inj hf)) dX4_when_67
  · have hf := ite_f hf c5
    refine lv_aload_n hx hb dX4_when_56 rfl (lv_at hl 1 rfl) ?_
    refine lv_iload_n hx hb dX4_when_57 rfl (lv_at hl 3 rfl) ?_
    refine lv_iload_n hx hb dX4_when_58 rfl (lv_at hl 0 rfl) ?_
    obtain ⟨v7, S8, h6, hf⟩ := b2_some hf
    refine sys_i hS (sys_runV (As := [.int x2, .int v2]) (rest := []) C0 KM_ok hKC hP hS (by decide) (EM_0 K ad S4) rfl (m4_tells l D K ad hI S4 x2 v2 h6) gX4_when_X4_tells rfl ⟨rfl, rfl⟩ hd_X4_tells ⟨Nat.le_of_ble_eq_true rfl, Nat.le_of_ble_eq_true rfl⟩ hl.1 rfl (Nat.le_of_ble_eq_true rfl) dX4_when_59 ⟨Nat.le_refl _, Nat.le_refl _⟩) (fun H locs hP hS => ?_)
    refine lv_goto (tgt := 67) hx hb dX4_when_62 (by decide) ?_
    exact ret_i C0 hP hS (congrArg Prod.fst (Option.some.inj hf)) (congrArg Prod.snd (Option.some.inj hf)) dX4_when_67
set_option maxHeartbeats 4000000 in
set_option maxRecDepth 100000 in
theorem w4_when_b16 {p : Program} {l : Launch} {e : Env} {s : State} {m : MethodId} {args : Array Value} {below : List Frame} {meth : Method} {c : Code} {D : va_G} {K : Nat → ClassId} {ad : Nat → Nat} (hI : INJ NM ad) (C0 : Cx p s m args meth c RX4 wsX4_when cX4_when 4 (some .int) (KM D K)) {r : Int32} {T : Mem} : ∀ (n : Nat), ∀ (S : Mem) (x1 : Int32) (x2 : Int32), f4_when_b16 n S x1 x2 = some (r, T) → ∀ (H : Heap) (locs : List Loc) (ls : Array Slot), va_P D vwCl (wl NM ad (EM K ad S)) H → va_S (IW NM ad) s.heap H locs → lv_has ls 4 [(0, .ref (ad 0)), (1, .int x1), (2, .int x2)] → W p l e rm4_when s m args below meth c H locs 0 0 (MQ below (va_Qi (fun (x : Int32) (u : Mem) => x = r ∧ u = T) (fun u t => va_P D vwCl (wl NM ad (EM K ad u)) t.heap) (IW NM ad)) args s 0 0 (IW NM ad)) (F0 m 16 ls []) := by
  have hx := C0.1
  have hb := C0.2.1
  have hts := C0.2.2.2.2.1
  have hown := C0.2.2.2.1
  have hKC := C0.2.2.2.2.2.2.2
  intro n
  induction n with
  | zero =>
    intro S x1 x2 hf
    rw [f4_when_b16] at hf
    cases hf
  | succ n ih =>
    intro S x1 x2 hf H locs ls hP hS hl
    rw [f4_when_b16] at hf
    refine lv_iload_n hx hb dX4_when_16 rfl (lv_at hl 2 rfl) ?_
    refine lv_bipush (v := 61) hx hb dX4_when_17 (by decide) ?_
    refine lv_icmp_ge (tgt := 40) hx hb dX4_when_19 (by decide) (fun c1 => ?_) (fun c1 => ?_)
    · have hf := ite_t hf c1
      exact w4_when_b40 hI C0 S x1 x2 hf H locs ls hP hS (lv_sub hl [0, 1, 2] rfl)
    · have hf := ite_f hf c1
      refine lv_aload_n hx hb dX4_when_22 rfl (lv_at hl 0 rfl) ?_
      refine lv_iload_n hx hb dX4_when_23 rfl (lv_at hl 1 rfl) ?_
      obtain ⟨v3, h2, hf⟩ := b1_some hf
      refine sys_i hS (sys_runV (As := [.int x1]) (rest := []) C0 KM_ok hKC hP hS (by decide) (EM_0 K ad S) rfl (m4_comesOff l D K ad hI S x1 h2) gX4_when_X4_comesOff rfl ⟨rfl, rfl⟩ hd_X4_comesOff ⟨Nat.le_of_ble_eq_true rfl, Nat.le_of_ble_eq_true rfl⟩ hl.1 rfl (Nat.le_of_ble_eq_true rfl) dX4_when_24 ⟨Nat.le_refl _, Nat.le_refl _⟩) (fun H locs hP hS => ?_)
      refine lv_if_ne (tgt := 40) hx hb dX4_when_27 (by decide) (fun c4 => ?_) (fun c4 => ?_)
      · have hf := ite_f hf c4
        exact w4_when_b40 hI C0 S x1 x2 hf H locs ls hP hS (lv_sub hl [0, 1, 2] rfl)
      · have hf := ite_t hf c4
        refine lv_aload_n hx hb dX4_when_30 rfl (lv_at hl 0 rfl) ?_
        obtain ⟨S6, h5, hf⟩ := b1_some hf
        refine sys_v hS (sys_runV (As := []) (rest := []) C0 KM_ok hKC hP hS (by decide) (EM_0 K ad S) rfl (m4_goesBy l D K ad hI S h5) gX4_when_X4_goesBy rfl ⟨rfl, rfl⟩ hd_X4_goesBy ⟨Nat.le_of_ble_eq_true rfl, Nat.le_of_ble_eq_true rfl⟩ hl.1 rfl (Nat.le_of_ble_eq_true rfl) dX4_when_31 ⟨Nat.le_refl _, Nat.le_refl _⟩) (fun H locs hP hS => ?_)
        obtain ⟨v7, ev7⟩ : ∃ y : Int32, y = x2 + 1 := ⟨_, rfl⟩
        have hf := nm_at ev7 hf
        refine lv_iinc (v := v7) (lv' := [(2, .int v7), (0, .ref (ad 0)), (1, .int x1)]) hx hb dX4_when_34 hl (k := 2) rfl (by rw [ev7]; rfl) (by decide) rfl (fun ls hl => ?_)
        refine lv_goto (tgt := 16) hx hb dX4_when_37 (by decide) ?_
        exact ih S6 x1 v7 hf H locs ls hP hS (lv_sub hl [1, 2, 0] rfl)
set_option maxHeartbeats 4000000 in
set_option maxRecDepth 100000 in
theorem w4_when {p : Program} {l : Launch} {e : Env} {s : State} {m : MethodId} {args : Array Value} {below : List Frame} {meth : Method} {c : Code} {D : va_G} {K : Nat → ClassId} {ad : Nat → Nat} (hI : INJ NM ad) (C0 : Cx p s m args meth c RX4 wsX4_when cX4_when 4 (some .int) (KM D K)) {r : Int32} {T : Mem} : ∀ (S : Mem) (x1 : Int32), f4_when S x1 = some (r, T) → ∀ (H : Heap) (locs : List Loc) (ls : Array Slot), va_P D vwCl (wl NM ad (EM K ad S)) H → va_S (IW NM ad) s.heap H locs → lv_has ls 4 [(0, .ref (ad 0)), (1, .int x1)] → W p l e rm4_when s m args below meth c H locs 0 0 (MQ below (va_Qi (fun (x : Int32) (u : Mem) => x = r ∧ u = T) (fun u t => va_P D vwCl (wl NM ad (EM K ad u)) t.heap) (IW NM ad)) args s 0 0 (IW NM ad)) (F0 m 0 ls []) := by
  have hx := C0.1
  have hb := C0.2.1
  have hts := C0.2.2.2.2.1
  have hown := C0.2.2.2.1
  have hKC := C0.2.2.2.2.2.2.2
  intro S x1 hf H locs ls hP hS hl
  rw [f4_when] at hf
  refine lv_aload_n hx hb dX4_when_0 rfl (lv_at hl 0 rfl) ?_
  refine lv_iload_n hx hb dX4_when_1 rfl (lv_at hl 1 rfl) ?_
  obtain ⟨v2, h1, hf⟩ := b1_some hf
  refine sys_i hS (sys_runV (As := [.int x1]) (rest := []) C0 KM_ok hKC hP hS (by decide) (EM_0 K ad S) rfl (m4_isHouse l D K ad hI S x1 h1) gX4_when_X4_isHouse rfl ⟨rfl, rfl⟩ hd_X4_isHouse ⟨Nat.le_of_ble_eq_true rfl, Nat.le_of_ble_eq_true rfl⟩ hl.1 rfl (Nat.le_of_ble_eq_true rfl) dX4_when_2 ⟨Nat.le_refl _, Nat.le_refl _⟩) (fun H locs hP hS => ?_)
  refine lv_if_ne (tgt := 10) hx hb dX4_when_5 (by decide) (fun c3 => ?_) (fun c3 => ?_)
  · have hf := ite_f hf c3
    refine lv_aload_n hx hb dX4_when_10 rfl (lv_at hl 0 rfl) ?_
    obtain ⟨S5, h4, hf⟩ := b1_some hf
    refine sys_v hS (sys_runV (As := []) (rest := []) C0 KM_ok hKC hP hS (by decide) (EM_0 K ad S) rfl (m4_asides l D K ad hI S h4) gX4_when_X4_asides rfl ⟨rfl, rfl⟩ hd_X4_asides ⟨Nat.le_of_ble_eq_true rfl, Nat.le_of_ble_eq_true rfl⟩ hl.1 rfl (Nat.le_of_ble_eq_true rfl) dX4_when_11 ⟨Nat.le_refl _, Nat.le_refl _⟩) (fun H locs hP hS => ?_)
    refine lv_iconst (v := 0) hx hb dX4_when_14 (by decide) ?_
    refine lv_istore_n (lv' := [(2, .int 0), (0, .ref (ad 0)), (1, .int x1)]) hx hb dX4_when_15 rfl hl (by decide) rfl (fun ls hl => ?_)
    exact w4_when_b16 hI C0 FU S5 x1 0 hf H locs ls hP hS (lv_sub hl [1, 2, 0] rfl)
  · have hf := ite_t hf c3
    refine lv_iconst (v := (-1)) hx hb dX4_when_8 (by decide) ?_
    exact ret_i C0 hP hS (congrArg Prod.fst (Option.some.inj hf)) (congrArg Prod.snd (Option.some.inj hf)) dX4_when_9
theorem m4_when (l : Launch) (D : va_G) (K : Nat → ClassId) (ad : Nat → Nat) (hI : INJ NM ad) (S : Mem) (x1 : Int32) {r : Int32} {T : Mem} (hf : f4_when S x1 = some (r, T)) : SysI l yX4_when wsX4_when rm4_when D NM ad (EM K ad) (KM D K) [.ref (ad 0), .int x1] S r T :=
  met_of (own := RX4) (by decide) rfl rfl (Nat.le_of_ble_eq_true rfl) (fun _ _ s _ _ _ _ ls C0 _ hP hl => w4_when hI C0 S x1 hf s.heap [] ls hP va_S.rf hl)
theorem in_X4_lack_X4 : ∀ w ∈ wsX40, w ∈ wsX4_lack := fun _ h => List.mem_cons_of_mem _ (List.mem_append_right _ h)
theorem hd_X4_lack : yX4_lack.cls = RX4 ∧ yX4_lack.cls ≠ "java/lang/invoke/MethodHandle" ∧ yX4_lack.cls ≠ "java/lang/invoke/VarHandle" ∧ (parseMethodDescriptor yX4_lack.desc).map (fun d => d.parameters.length) = some 1 := by decide +kernel
abbrev rm4_lack : Room := { frames := 1, cells := 0, slots := 0, locals := 21 }
set_option maxHeartbeats 4000000 in
set_option maxRecDepth 100000 in
theorem w4_lack_b47 {p : Program} {l : Launch} {e : Env} {s : State} {m : MethodId} {args : Array Value} {below : List Frame} {meth : Method} {c : Code} {D : va_G} {K : Nat → ClassId} {ad : Nat → Nat} (hI : INJ NM ad) (C0 : Cx p s m args meth c RX4 wsX4_lack cX4_lack 4 (some .int) (KM D K)) (S : Mem) {r : Int32} (k6 : Int32 → Int32 → Int32 → Option Int32) (hk6 : ∀ (x1 : Int32) (x2 : Int32) (x3 : Int32), k6 x1 x2 x3 = some r → ∀ (H : Heap) (locs : List Loc) (ls : Array Slot), va_P D vwCl (wl NM ad (EM K ad S)) H → va_S (IW NM ad) s.heap H locs → lv_has ls 4 [(0, .ref (ad 0)), (1, .int x1), (2, .int x2), (3, .int x3)] → W p l e rm4_lack s m args below meth c H locs 0 0 (MQ below (va_Qi (fun (x : Int32) (u : Mem) => x = r ∧ u = S) (fun u t => va_P D vwCl (wl NM ad (EM K ad u)) t.heap) (IW NM ad)) args s 0 0 (IW NM ad)) (F0 m 6 ls [])) : ∀ (x1 : Int32) (x3 : Int32) (t0 : Int32), f4_lack_b47 k6 S x1 x3 t0 = some r → ∀ (H : Heap) (locs : List Loc) (ls : Array Slot), va_P D vwCl (wl NM ad (EM K ad S)) H → va_S (IW NM ad) s.heap H locs → lv_has ls 4 [(0, .ref (ad 0)), (1, .int x1), (3, .int x3)] → W p l e rm4_lack s m args below meth c H locs 0 0 (MQ below (va_Qi (fun (x : Int32) (u : Mem) => x = r ∧ u = S) (fun u t => va_P D vwCl (wl NM ad (EM K ad u)) t.heap) (IW NM ad)) args s 0 0 (IW NM ad)) (F0 m 47 ls [.int t0]) := by
  have hx := C0.1
  have hb := C0.2.1
  have hts := C0.2.2.2.2.1
  have hown := C0.2.2.2.1
  have hKC := C0.2.2.2.2.2.2.2
  intro x1 x3 t0 hf H locs ls hP hS hl
  rw [f4_lack_b47] at hf
  refine lv_istore_n (lv' := [(2, .int t0), (0, .ref (ad 0)), (1, .int x1), (3, .int x3)]) hx hb dX4_lack_47 rfl hl (by decide) rfl (fun ls hl => ?_)
  obtain ⟨v1, ev1⟩ : ∃ y : Int32, y = x3 + (-1) := ⟨_, rfl⟩
  have hf := nm_at ev1 hf
  refine lv_iinc (v := v1) (lv' := [(3, .int v1), (2, .int t0), (0, .ref (ad 0)), (1, .int x1)]) hx hb dX4_lack_48 hl (k := 3) rfl (by rw [ev1]; rfl) (by decide) rfl (fun ls hl => ?_)
  refine lv_goto (tgt := 6) hx hb dX4_lack_51 (by decide) ?_
  exact hk6 x1 t0 v1 hf H locs ls hP hS (lv_sub hl [2, 3, 1, 0] rfl)
set_option maxHeartbeats 4000000 in
set_option maxRecDepth 100000 in
theorem w4_lack_b6 {p : Program} {l : Launch} {e : Env} {s : State} {m : MethodId} {args : Array Value} {below : List Frame} {meth : Method} {c : Code} {D : va_G} {K : Nat → ClassId} {ad : Nat → Nat} (hI : INJ NM ad) (C0 : Cx p s m args meth c RX4 wsX4_lack cX4_lack 4 (some .int) (KM D K)) (S : Mem) {r : Int32} : ∀ (n : Nat), ∀ (x1 : Int32) (x2 : Int32) (x3 : Int32), f4_lack_b6 S n x1 x2 x3 = some r → ∀ (H : Heap) (locs : List Loc) (ls : Array Slot), va_P D vwCl (wl NM ad (EM K ad S)) H → va_S (IW NM ad) s.heap H locs → lv_has ls 4 [(0, .ref (ad 0)), (1, .int x1), (2, .int x2), (3, .int x3)] → W p l e rm4_lack s m args below meth c H locs 0 0 (MQ below (va_Qi (fun (x : Int32) (u : Mem) => x = r ∧ u = S) (fun u t => va_P D vwCl (wl NM ad (EM K ad u)) t.heap) (IW NM ad)) args s 0 0 (IW NM ad)) (F0 m 6 ls []) := by
  have hx := C0.1
  have hb := C0.2.1
  have hts := C0.2.2.2.2.1
  have hown := C0.2.2.2.1
  have hKC := C0.2.2.2.2.2.2.2
  intro n
  induction n with
  | zero =>
    intro x1 x2 x3 hf
    rw [f4_lack_b6] at hf
    cases hf
  | succ n ih =>
    intro x1 x2 x3 hf H locs ls hP hS hl
    rw [f4_lack_b6] at hf
    refine lv_iload_n hx hb dX4_lack_6 rfl (lv_at hl 3 rfl) ?_
    refine lv_aload_n hx hb dX4_lack_7 rfl (lv_at hl 0 rfl) ?_
    refine lv_iload_n hx hb dX4_lack_8 rfl (lv_at hl 1 rfl) ?_
    obtain ⟨v2, h1, hf⟩ := b1_some hf
    refine sys_i hS (sys_runV (As := [.int x1]) (rest := [.int x3]) C0 KM_ok hKC hP hS (by decide) (EM_0 K ad S) rfl (m4_jar l D K ad hI S x1 h1) gX4_lack_X4_jar rfl ⟨rfl, rfl⟩ hd_X4_jar ⟨Nat.le_of_ble_eq_true rfl, Nat.le_of_ble_eq_true rfl⟩ hl.1 rfl (Nat.le_of_ble_eq_true rfl) dX4_lack_9 ⟨Nat.le_refl _, Nat.le_refl _⟩) (fun H locs hP hS => ?_)
    refine lv_icmp_lt (tgt := 54) hx hb dX4_lack_12 (by decide) (fun c3 => ?_) (fun c3 => ?_)
    · have hf := ite_t hf c3
      refine lv_iload_n hx hb dX4_lack_54 rfl (lv_at hl 2 rfl) ?_
      exact ret_i C0 hP hS (Option.some.inj hf) rfl dX4_lack_55
    · have hf := ite_f hf c3
      refine lv_aload_n hx hb dX4_lack_15 rfl (lv_at hl 0 rfl) ?_
      refine x_get C0 hKC hP (by decide) (EM_0 K ad S) rfl in_X4_lack_X4 13 (by decide) (List.mem_of_getElem? (i := 1) rfl) rfl dX4_lack_16 ?_
      refine lv_iload_n hx hb dX4_lack_19 rfl (lv_at hl 1 rfl) ?_
      obtain ⟨g4, hf⟩ := gd_some hf
      refine x_iald C0 hKC hP (IM_8 K ad) (t0 := 0) rfl g4 dX4_lack_20 ?_
      refine lv_iload_n hx hb dX4_lack_21 rfl (lv_at hl 3 rfl) ?_
      obtain ⟨v6, h5, hf⟩ := b1_some hf
      refine sys_i hS (sys_runS (As := [.int (gi S 8 (ix x1)), .int x3]) (rest := []) C0 KM_ok hP hS (m4_worthTo l D K ad hI S (gi S 8 (ix x1)) x3 h5) gX4_lack_X4_worthTo rfl ⟨rfl, rfl⟩ hd_X4_worthTo ⟨Nat.le_of_ble_eq_true rfl, Nat.le_of_ble_eq_true rfl⟩ hl.1 rfl (Nat.le_of_ble_eq_true rfl) dX4_lack_22 ⟨Nat.le_refl _, Nat.le_refl _⟩) (fun H locs hP hS => ?_)
      refine lv_iconst (v := 5) hx hb dX4_lack_25 (by decide) ?_
      refine lv_aload_n hx hb dX4_lack_26 rfl (lv_at hl 0 rfl) ?_
      refine x_get C0 hKC hP (by decide) (EM_0 K ad S) rfl in_X4_lack_X4 15 (by decide) (List.mem_of_getElem? (i := 2) rfl) rfl dX4_lack_27 ?_
      refine lv_iload_n hx hb dX4_lack_30 rfl (lv_at hl 1 rfl) ?_
      obtain ⟨g7, hf⟩ := gd_some hf
      refine x_iald C0 hKC hP (IM_10 K ad) (t0 := 0) rfl g7 dX4_lack_31 ?_
      refine lv_imul hx hb dX4_lack_32 ?_
      refine lv_icmp_lt (tgt := 46) hx hb dX4_lack_33 (by decide) (fun c8 => ?_) (fun c8 => ?_)
      · have hf := ite_t hf c8
        refine lv_iload_n hx hb dX4_lack_46 rfl (lv_at hl 2 rfl) ?_
        exact w4_lack_b47 hI C0 S (f4_lack_b6 S n) ih x1 x3 x2 hf H locs ls hP hS (lv_sub hl [0, 1, 3] rfl)
      · have hf := ite_f hf c8
        refine lv_iload_n hx hb dX4_lack_36 rfl (lv_at hl 3 rfl) ?_
        refine lv_aload_n hx hb dX4_lack_37 rfl (lv_at hl 0 rfl) ?_
        refine lv_iload_n hx hb dX4_lack_38 rfl (lv_at hl 1 rfl) ?_
        obtain ⟨v10, h9, hf⟩ := b1_some hf
        refine sys_i hS (sys_runV (As := [.int x1]) (rest := [.int x3]) C0 KM_ok hKC hP hS (by decide) (EM_0 K ad S) rfl (m4_jar l D K ad hI S x1 h9) gX4_lack_X4_jar rfl ⟨rfl, rfl⟩ hd_X4_jar ⟨Nat.le_of_ble_eq_true rfl, Nat.le_of_ble_eq_true rfl⟩ hl.1 rfl (Nat.le_of_ble_eq_true rfl) dX4_lack_39 ⟨Nat.le_refl _, Nat.le_refl _⟩) (fun H locs hP hS => ?_)
        refine lv_isub hx hb dX4_lack_42 ?_
        refine lv_goto (tgt := 47) hx hb dX4_lack_43 (by decide) ?_
        exact w4_lack_b47 hI C0 S (f4_lack_b6 S n) ih x1 x3 (x3 - v10) hf H locs ls hP hS (lv_sub hl [0, 1, 3] rfl)
set_option maxHeartbeats 4000000 in
set_option maxRecDepth 100000 in
theorem w4_lack {p : Program} {l : Launch} {e : Env} {s : State} {m : MethodId} {args : Array Value} {below : List Frame} {meth : Method} {c : Code} {D : va_G} {K : Nat → ClassId} {ad : Nat → Nat} (hI : INJ NM ad) (C0 : Cx p s m args meth c RX4 wsX4_lack cX4_lack 4 (some .int) (KM D K)) (S : Mem) {r : Int32} : ∀ (x1 : Int32), f4_lack S x1 = some r → ∀ (H : Heap) (locs : List Loc) (ls : Array Slot), va_P D vwCl (wl NM ad (EM K ad S)) H → va_S (IW NM ad) s.heap H locs → lv_has ls 4 [(0, .ref (ad 0)), (1, .int x1)] → W p l e rm4_lack s m args below meth c H locs 0 0 (MQ below (va_Qi (fun (x : Int32) (u : Mem) => x = r ∧ u = S) (fun u t => va_P D vwCl (wl NM ad (EM K ad u)) t.heap) (IW NM ad)) args s 0 0 (IW NM ad)) (F0 m 0 ls []) := by
  have hx := C0.1
  have hb := C0.2.1
  have hts := C0.2.2.2.2.1
  have hown := C0.2.2.2.1
  have hKC := C0.2.2.2.2.2.2.2
  intro x1 hf H locs ls hP hS hl
  rw [f4_lack] at hf
  refine lv_bipush (v := (-9)) hx hb dX4_lack_0 (by decide) ?_
  refine lv_istore_n (lv' := [(2, .int (-9)), (0, .ref (ad 0)), (1, .int x1)]) hx hb dX4_lack_2 rfl hl (by decide) rfl (fun ls hl => ?_)
  refine lv_bipush (v := 99) hx hb dX4_lack_3 (by decide) ?_
  refine lv_istore_n (lv' := [(3, .int 99), (2, .int (-9)), (0, .ref (ad 0)), (1, .int x1)]) hx hb dX4_lack_5 rfl hl (by decide) rfl (fun ls hl => ?_)
  exact w4_lack_b6 hI C0 S FU x1 (-9) 99 hf H locs ls hP hS (lv_sub hl [2, 3, 1, 0] rfl)
theorem m4_lack (l : Launch) (D : va_G) (K : Nat → ClassId) (ad : Nat → Nat) (hI : INJ NM ad) (S : Mem) (x1 : Int32) {r : Int32} (hf : f4_lack S x1 = some r) : SysI l yX4_lack wsX4_lack rm4_lack D NM ad (EM K ad) (KM D K) [.ref (ad 0), .int x1] S r S :=
  met_of (own := RX4) (by decide) rfl rfl (Nat.le_of_ble_eq_true rfl) (fun _ _ s _ _ _ _ ls C0 _ hP hl => w4_lack hI C0 S x1 hf s.heap [] ls hP va_S.rf hl)
theorem in_X4_lacks_X4 : ∀ w ∈ wsX40, w ∈ wsX4_lacks := fun _ h => List.mem_cons_of_mem _ (List.mem_append_right _ h)
theorem hd_X4_lacks : yX4_lacks.cls = RX4 ∧ yX4_lacks.cls ≠ "java/lang/invoke/MethodHandle" ∧ yX4_lacks.cls ≠ "java/lang/invoke/VarHandle" ∧ (parseMethodDescriptor yX4_lacks.desc).map (fun d => d.parameters.length) = some 1 := by decide +kernel
abbrev rm4_lacks : Room := { frames := 2, cells := 0, slots := 0, locals := 46 }
set_option maxHeartbeats 4000000 in
set_option maxRecDepth 100000 in
theorem w4_lacks {p : Program} {l : Launch} {e : Env} {s : State} {m : MethodId} {args : Array Value} {below : List Frame} {meth : Method} {c : Code} {D : va_G} {K : Nat → ClassId} {ad : Nat → Nat} (hI : INJ NM ad) (C0 : Cx p s m args meth c RX4 wsX4_lacks cX4_lacks 3 (some .int) (KM D K)) {r : Int32} {T : Mem} : ∀ (S : Mem) (x1 : Int32), f4_lacks S x1 = some (r, T) → ∀ (H : Heap) (locs : List Loc) (ls : Array Slot), va_P D vwCl (wl NM ad (EM K ad S)) H → va_S (IW NM ad) s.heap H locs → lv_has ls 3 [(0, .ref (ad 0)), (1, .int x1)] → W p l e rm4_lacks s m args below meth c H locs 0 0 (MQ below (va_Qi (fun (x : Int32) (u : Mem) => x = r ∧ u = T) (fun u t => va_P D vwCl (wl NM ad (EM K ad u)) t.heap) (IW NM ad)) args s 0 0 (IW NM ad)) (F0 m 0 ls []) := by
  have hx := C0.1
  have hb := C0.2.1
  have hts := C0.2.2.2.2.1
  have hown := C0.2.2.2.1
  have hKC := C0.2.2.2.2.2.2.2
  intro S x1 hf H locs ls hP hS hl
  rw [f4_lacks] at hf
  refine lv_aload_n hx hb dX4_lacks_0 rfl (lv_at hl 0 rfl) ?_
  refine lv_iload_n hx hb dX4_lacks_1 rfl (lv_at hl 1 rfl) ?_
  obtain ⟨v2, h1, hf⟩ := b1_some hf
  refine sys_i hS (sys_runV (As := [.int x1]) (rest := []) C0 KM_ok hKC hP hS (by decide) (EM_0 K ad S) rfl (m4_isHouse l D K ad hI S x1 h1) gX4_lacks_X4_isHouse rfl ⟨rfl, rfl⟩ hd_X4_isHouse ⟨Nat.le_of_ble_eq_true rfl, Nat.le_of_ble_eq_true rfl⟩ hl.1 rfl (Nat.le_of_ble_eq_true rfl) dX4_lacks_2 ⟨Nat.le_refl _, Nat.le_refl _⟩) (fun H locs hP hS => ?_)
  refine lv_if_ne (tgt := 10) hx hb dX4_lacks_5 (by decide) (fun c3 => ?_) (fun c3 => ?_)
  · have hf := ite_f hf c3
    refine lv_aload_n hx hb dX4_lacks_10 rfl (lv_at hl 0 rfl) ?_
    refine lv_iload_n hx hb dX4_lacks_11 rfl (lv_at hl 1 rfl) ?_
    obtain ⟨v5, h4, hf⟩ := b1_some hf
    refine sys_i hS (sys_runV (As := [.int x1]) (rest := []) C0 KM_ok hKC hP hS (by decide) (EM_0 K ad S) rfl (m4_lack l D K ad hI S x1 h4) gX4_lacks_X4_lack rfl ⟨rfl, rfl⟩ hd_X4_lack ⟨Nat.le_of_ble_eq_true rfl, Nat.le_of_ble_eq_true rfl⟩ hl.1 rfl (Nat.le_of_ble_eq_true rfl) dX4_lacks_12 ⟨Nat.le_refl _, Nat.le_refl _⟩) (fun H locs hP hS => ?_)
    refine lv_istore_n (lv' := [(2, .int v5), (0, .ref (ad 0)), (1, .int x1)]) hx hb dX4_lacks_15 rfl hl (by decide) rfl (fun ls hl => ?_)
    refine lv_iload_n hx hb dX4_lacks_16 rfl (lv_at hl 0 rfl) ?_
    refine lv_bipush (v := (-9)) hx hb dX4_lacks_17 (by decide) ?_
    refine lv_icmp_ne (tgt := 27) hx hb dX4_lacks_19 (by decide) (fun c6 => ?_) (fun c6 => ?_)
    · have hf := ite_f hf c6
      refine lv_aload_n hx hb dX4_lacks_27 rfl (lv_at hl 1 rfl) ?_
      refine lv_iload_n hx hb dX4_lacks_28 rfl (lv_at hl 0 rfl) ?_
      refine lv_aload_n hx hb dX4_lacks_29 rfl (lv_at hl 1 rfl) ?_
      refine x_get C0 hKC hP (by decide) (EM_0 K ad S) rfl in_X4_lacks_X4 13 (by decide) (List.mem_of_getElem? (i := 1) rfl) rfl dX4_lacks_30 ?_
      refine lv_iload_n hx hb dX4_lacks_33 rfl (lv_at hl 2 rfl) ?_
      obtain ⟨g7, hf⟩ := gd_some hf
      refine x_iald C0 hKC hP (IM_8 K ad) (t0 := 0) rfl g7 dX4_lacks_34 ?_
      refine lv_aload_n hx hb dX4_lacks_35 rfl (lv_at hl 1 rfl) ?_
      refine lv_iload_n hx hb dX4_lacks_36 rfl (lv_at hl 2 rfl) ?_
      obtain ⟨v9, h8, hf⟩ := b1_some hf
      refine sys_i hS (sys_runV (As := [.int x1]) (rest := [.int (gi S 8 (ix x1)), .int v5, .ref (ad 0)]) C0 KM_ok hKC hP hS (by decide) (EM_0 K ad S) rfl (m4_jar l D K ad hI S x1 h8) gX4_lacks_X4_jar rfl ⟨rfl, rfl⟩ hd_X4_jar ⟨Nat.le_of_ble_eq_true rfl, Nat.le_of_ble_eq_true rfl⟩ hl.1 rfl (Nat.le_of_ble_eq_true rfl) dX4_lacks_37 ⟨Nat.le_refl _, Nat.le_refl _⟩) (fun H locs hP hS => ?_)
      refine lv_iload_n hx hb dX4_lacks_40 rfl (lv_at hl 0 rfl) ?_
      refine lv_iadd hx hb dX4_lacks_41 ?_
      obtain ⟨v11, h10, hf⟩ := b1_some hf
      refine sys_i hS (sys_runS (As := [.int (gi S 8 (ix x1)), .int (v9 + v5)]) (rest := [.int v5, .ref (ad 0)]) C0 KM_ok hP hS (m4_worthTo l D K ad hI S (gi S 8 (ix x1)) (v9 + v5) h10) gX4_lacks_X4_worthTo rfl ⟨rfl, rfl⟩ hd_X4_worthTo ⟨Nat.le_of_ble_eq_true rfl, Nat.le_of_ble_eq_true rfl⟩ hl.1 rfl (Nat.le_of_ble_eq_true rfl) dX4_lacks_42 ⟨Nat.le_refl _, Nat.le_refl _⟩) (fun H locs hP hS => ?_)
      obtain ⟨v13, S14, h12, hf⟩ := b2_some hf
      refine sys_i hS (sys_runV (As := [.int v5, .int v11]) (rest := []) C0 KM_ok hKC hP hS (by decide) (EM_0 K ad S) rfl (m4_tells l D K ad hI S v5 v11 h12) gX4_lacks_X4_tells rfl ⟨rfl, rfl⟩ hd_X4_tells ⟨Nat.le_of_ble_eq_true rfl, Nat.le_of_ble_eq_true rfl⟩ hl.1 rfl (Nat.le_of_ble_eq_true rfl) dX4_lacks_45 ⟨Nat.le_refl _, Nat.le_refl _⟩) (fun H locs hP hS => ?_)
      exact ret_i C0 hP hS (congrArg Prod.fst (Option.some.inj hf)) (congrArg Prod.snd (Option.some.inj hf)) dX4_lacks_48
    · have hf := ite_t hf c6
      refine lv_bipush (v := (-9)) hx hb dX4_lacks_22 (by decide) ?_
      refine lv_goto (tgt := 48) hx hb dX4_lacks_24 (by decide) ?_
      exact ret_i C0 hP hS (congrArg Prod.fst (Option.some.inj hf)) (congrArg Prod.snd (Option.some.inj hf)) dX4_lacks_48
  · have hf := ite_t hf c3
    refine lv_iconst (v := (-1)) hx hb dX4_lacks_8 (by decide) ?_
    exact ret_i C0 hP hS (congrArg Prod.fst (Option.some.inj hf)) (congrArg Prod.snd (Option.some.inj hf)) dX4_lacks_9
theorem m4_lacks (l : Launch) (D : va_G) (K : Nat → ClassId) (ad : Nat → Nat) (hI : INJ NM ad) (S : Mem) (x1 : Int32) {r : Int32} {T : Mem} (hf : f4_lacks S x1 = some (r, T)) : SysI l yX4_lacks wsX4_lacks rm4_lacks D NM ad (EM K ad) (KM D K) [.ref (ad 0), .int x1] S r T :=
  met_of (own := RX4) (by decide) rfl rfl (Nat.le_of_ble_eq_true rfl) (fun _ _ s _ _ _ _ ls C0 _ hP hl => w4_lacks hI C0 S x1 hf s.heap [] ls hP va_S.rf hl)
