theorem hd_X4_in : yX4_in.cls ≠ "java/lang/invoke/MethodHandle" ∧ yX4_in.cls ≠ "java/lang/invoke/VarHandle" ∧ (parseMethodDescriptor yX4_in.desc).map (fun d => d.parameters.length) = some 3 := by decide +kernel
abbrev rm4_in : Room := { frames := 0, cells := 0, slots := 0, locals := 0 }
set_option maxHeartbeats 4000000 in
set_option maxRecDepth 100000 in
theorem w4_in {p : Program} {l : Launch} {e : Env} {s : State} {m : MethodId} {args : Array Value} {below : List Frame} {meth : Method} {c : Code} {D : va_G} {K : Nat → ClassId} {ad : Nat → Nat} (hI : INJ NM ad) (C0 : Cx p s m args meth c RX4 wsX4_in cX4_in 6 (some .boolean) (KM D K)) (S : Mem) {r : Int32} : ∀ (x0 : Int64) (x2 : Int64) (x4 : Int64), f4_in x0 x2 x4 = some r → ∀ (H : Heap) (locs : List Loc) (ls : Array Slot), va_P D vwCl (wl NM ad (EM K ad S)) H → va_S (IW NM ad) s.heap H locs → lv_has ls 6 [(0, .long x0), (2, .long x2), (4, .long x4)] → W p l e rm4_in s m args below meth c H locs 0 0 (MQ below (va_Qi (fun (x : Int32) (u : Mem) => x = r ∧ u = S) (fun u t => va_P D vwCl (wl NM ad (EM K ad u)) t.heap) (IW NM ad)) args s 0 0 (IW NM ad)) (F0 m 0 ls []) := by
  have hx := C0.1
  have hb := C0.2.1
  have hts := C0.2.2.2.2.1
  have hown := C0.2.2.2.1
  have hKC := C0.2.2.2.2.2.2.2
  intro x0 x2 x4 hf H locs ls hP hS hl
  rw [f4_in] at hf
  refine lv_lload_n hx hb dX4_in_0 rfl (lv_at hl 0 rfl) ?_
  refine lv_lload_n hx hb dX4_in_1 rfl (lv_at hl 1 rfl) ?_
  refine W.lcmp hx hb dX4_in_2 ?_
  refine lv_if_lt (tgt := 17) hx hb dX4_in_3 (by decide) (fun c1 => ?_) (fun c1 => ?_)
  · have hf := ite_t hf c1
    refine lv_iconst (v := 0) hx hb dX4_in_17 (by decide) ?_
    exact ret_z C0 hP hS (Or.inl rfl) (Option.some.inj hf) rfl dX4_in_18
  · have hf := ite_f hf c1
    refine lv_lload_n hx hb dX4_in_6 rfl (lv_at hl 0 rfl) ?_
    refine lv_lload hx hb dX4_in_7 (lv_at hl 2 rfl) ?_
    refine W.lcmp hx hb dX4_in_9 ?_
    refine lv_if_gt (tgt := 17) hx hb dX4_in_10 (by decide) (fun c2 => ?_) (fun c2 => ?_)
    · have hf := ite_t hf c2
      refine lv_iconst (v := 0) hx hb dX4_in_17 (by decide) ?_
      exact ret_z C0 hP hS (Or.inl rfl) (Option.some.inj hf) rfl dX4_in_18
    · have hf := ite_f hf c2
      refine lv_iconst (v := 1) hx hb dX4_in_13 (by decide) ?_
      refine lv_goto (tgt := 18) hx hb dX4_in_14 (by decide) ?_
      exact ret_z C0 hP hS (Or.inr rfl) (Option.some.inj hf) rfl dX4_in_18
theorem m4_in (l : Launch) (D : va_G) (K : Nat → ClassId) (ad : Nat → Nat) (hI : INJ NM ad) (S : Mem) (x0 : Int64) (x2 : Int64) (x4 : Int64) {r : Int32} (hf : f4_in x0 x2 x4 = some r) : SysI l yX4_in wsX4_in rm4_in D NM ad (EM K ad) (KM D K) [.long x0, .long x2, .long x4] S r S :=
  met_of (own := RX4) (by decide) rfl rfl (Nat.le_of_ble_eq_true rfl) (fun _ _ s _ _ _ _ ls C0 _ hP hl => w4_in hI C0 S x0 x2 x4 hf s.heap [] ls hP va_S.rf hl)
theorem in_X4_finds_X4 : ∀ w ∈ wsX40, w ∈ wsX4_finds := fun _ h => List.mem_cons_of_mem _ (List.mem_append_right _ h)
theorem hd_X4_finds : yX4_finds.cls = RX4 ∧ yX4_finds.cls ≠ "java/lang/invoke/MethodHandle" ∧ yX4_finds.cls ≠ "java/lang/invoke/VarHandle" ∧ (parseMethodDescriptor yX4_finds.desc).map (fun d => d.parameters.length) = some 1 := by decide +kernel
abbrev rm4_finds : Room := { frames := 0, cells := 0, slots := 0, locals := 0 }
set_option maxHeartbeats 4000000 in
set_option maxRecDepth 100000 in
theorem w4_finds {p : Program} {l : Launch} {e : Env} {s : State} {m : MethodId} {args : Array Value} {below : List Frame} {meth : Method} {c : Code} {D : va_G} {K : Nat → ClassId} {ad : Nat → Nat} (hI : INJ NM ad) (C0 : Cx p s m args meth c RX4 wsX4_finds cX4_finds 2 (some .int) (KM D K)) {r : Int32} {T : Mem} : ∀ (S : Mem) (x1 : Int32), f4_finds S x1 = some (r, T) → ∀ (H : Heap) (locs : List Loc) (ls : Array Slot), va_P D vwCl (wl NM ad (EM K ad S)) H → va_S (IW NM ad) s.heap H locs → lv_has ls 2 [(0, .ref (ad 0)), (1, .int x1)] → W p l e rm4_finds s m args below meth c H locs 0 0 (MQ below (va_Qi (fun (x : Int32) (u : Mem) => x = r ∧ u = T) (fun u t => va_P D vwCl (wl NM ad (EM K ad u)) t.heap) (IW NM ad)) args s 0 0 (IW NM ad)) (F0 m 0 ls []) := by
  have hx := C0.1
  have hb := C0.2.1
  have hts := C0.2.2.2.2.1
  have hown := C0.2.2.2.1
  have hKC := C0.2.2.2.2.2.2.2
  intro S x1 hf H locs ls hP hS hl
  rw [f4_finds] at hf
  refine lv_aload_n hx hb dX4_finds_0 rfl (lv_at hl 0 rfl) ?_
  refine lv_iload_n hx hb dX4_finds_1 rfl (lv_at hl 1 rfl) ?_
  refine x_puti C0 hKC hI (EM_loc K ad) hP hS (by decide) (EM_0 K ad S) rfl tyX4 tyX4_ok nmX4 in_X4_finds_X4 0 (by decide) (List.mem_of_getElem? (i := 1) rfl) rfl (tyX4_ok 0 (by decide)) (Nat.le_of_ble_eq_true rfl) (EM_p0 K ad S _) dX4_finds_2 (fun S1 eS1 H locs hP hS => ?_)
  have hf := nm_at eS1 hf
  refine lv_aload_n hx hb dX4_finds_5 rfl (lv_at hl 0 rfl) ?_
  refine x_get C0 hKC hP (by decide) (EM_0 K ad S1) rfl in_X4_finds_X4 1 (by decide) (List.mem_of_getElem? (i := 2) rfl) rfl dX4_finds_6 ?_
  refine lv_iload_n hx hb dX4_finds_9 rfl (lv_at hl 1 rfl) ?_
  refine lv_dup2_11 hx hb dX4_finds_10 rfl rfl ?_
  obtain ⟨g2, hf⟩ := gd_some hf
  refine x_iald C0 hKC hP (IM_1 K ad) (t0 := 0) rfl g2 dX4_finds_11 ?_
  refine lv_iconst (v := 1) hx hb dX4_finds_12 (by decide) ?_
  refine lv_iadd hx hb dX4_finds_13 ?_
  obtain ⟨g3, hf⟩ := gd_some hf
  refine x_iast C0 hKC hI (EM_loc K ad) hP hS (IM_1 K ad) (t0 := 0) rfl g3 dX4_finds_14 (fun S4 eS4 H locs hP hS => ?_)
  have hf := nm_at eS4 hf
  refine lv_bipush (v := (-3)) hx hb dX4_finds_15 (by decide) ?_
  exact ret_i C0 hP hS (congrArg Prod.fst (Option.some.inj hf)) (congrArg Prod.snd (Option.some.inj hf)) dX4_finds_17
theorem m4_finds (l : Launch) (D : va_G) (K : Nat → ClassId) (ad : Nat → Nat) (hI : INJ NM ad) (S : Mem) (x1 : Int32) {r : Int32} {T : Mem} (hf : f4_finds S x1 = some (r, T)) : SysI l yX4_finds wsX4_finds rm4_finds D NM ad (EM K ad) (KM D K) [.ref (ad 0), .int x1] S r T :=
  met_of (own := RX4) (by decide) rfl rfl (Nat.le_of_ble_eq_true rfl) (fun _ _ s _ _ _ _ ls C0 _ hP hl => w4_finds hI C0 S x1 hf s.heap [] ls hP va_S.rf hl)
theorem in_X4_tells_X4 : ∀ w ∈ wsX40, w ∈ wsX4_tells := fun _ h => List.mem_cons_of_mem _ (List.mem_append_right _ h)
theorem hd_X4_tells : yX4_tells.cls = RX4 ∧ yX4_tells.cls ≠ "java/lang/invoke/MethodHandle" ∧ yX4_tells.cls ≠ "java/lang/invoke/VarHandle" ∧ (parseMethodDescriptor yX4_tells.desc).map (fun d => d.parameters.length) = some 2 := by decide +kernel
abbrev rm4_tells : Room := { frames := 0, cells := 0, slots := 0, locals := 0 }
set_option maxHeartbeats 4000000 in
set_option maxRecDepth 100000 in
theorem w4_tells {p : Program} {l : Launch} {e : Env} {s : State} {m : MethodId} {args : Array Value} {below : List Frame} {meth : Method} {c : Code} {D : va_G} {K : Nat → ClassId} {ad : Nat → Nat} (hI : INJ NM ad) (C0 : Cx p s m args meth c RX4 wsX4_tells cX4_tells 3 (some .int) (KM D K)) {r : Int32} {T : Mem} : ∀ (S : Mem) (x1 : Int32) (x2 : Int32), f4_tells S x1 x2 = some (r, T) → ∀ (H : Heap) (locs : List Loc) (ls : Array Slot), va_P D vwCl (wl NM ad (EM K ad S)) H → va_S (IW NM ad) s.heap H locs → lv_has ls 3 [(0, .ref (ad 0)), (1, .int x1), (2, .int x2)] → W p l e rm4_tells s m args below meth c H locs 0 0 (MQ below (va_Qi (fun (x : Int32) (u : Mem) => x = r ∧ u = T) (fun u t => va_P D vwCl (wl NM ad (EM K ad u)) t.heap) (IW NM ad)) args s 0 0 (IW NM ad)) (F0 m 0 ls []) := by
  have hx := C0.1
  have hb := C0.2.1
  have hts := C0.2.2.2.2.1
  have hown := C0.2.2.2.1
  have hKC := C0.2.2.2.2.2.2.2
  intro S x1 x2 hf H locs ls hP hS hl
  rw [f4_tells] at hf
  refine lv_aload_n hx hb dX4_tells_0 rfl (lv_at hl 0 rfl) ?_
  refine lv_iload_n hx hb dX4_tells_1 rfl (lv_at hl 2 rfl) ?_
  refine x_puti C0 hKC hI (EM_loc K ad) hP hS (by decide) (EM_0 K ad S) rfl tyX4 tyX4_ok nmX4 in_X4_tells_X4 2 (by decide) (List.mem_of_getElem? (i := 1) rfl) rfl (tyX4_ok 2 (by decide)) (Nat.le_of_ble_eq_true rfl) (EM_p2 K ad S _) dX4_tells_2 (fun S1 eS1 H locs hP hS => ?_)
  have hf := nm_at eS1 hf
  refine lv_iload_n hx hb dX4_tells_5 rfl (lv_at hl 1 rfl) ?_
  exact ret_i C0 hP hS (congrArg Prod.fst (Option.some.inj hf)) (congrArg Prod.snd (Option.some.inj hf)) dX4_tells_6
theorem m4_tells (l : Launch) (D : va_G) (K : Nat → ClassId) (ad : Nat → Nat) (hI : INJ NM ad) (S : Mem) (x1 : Int32) (x2 : Int32) {r : Int32} {T : Mem} (hf : f4_tells S x1 x2 = some (r, T)) : SysI l yX4_tells wsX4_tells rm4_tells D NM ad (EM K ad) (KM D K) [.ref (ad 0), .int x1, .int x2] S r T :=
  met_of (own := RX4) (by decide) rfl rfl (Nat.le_of_ble_eq_true rfl) (fun _ _ s _ _ _ _ ls C0 _ hP hl => w4_tells hI C0 S x1 x2 hf s.heap [] ls hP va_S.rf hl)
theorem in_X4_fraction_X4 : ∀ w ∈ wsX40, w ∈ wsX4_fraction := fun _ h => List.mem_cons_of_mem _ (List.mem_append_right _ h)
theorem hd_X4_fraction : yX4_fraction.cls = RX4 ∧ yX4_fraction.cls ≠ "java/lang/invoke/MethodHandle" ∧ yX4_fraction.cls ≠ "java/lang/invoke/VarHandle" ∧ (parseMethodDescriptor yX4_fraction.desc).map (fun d => d.parameters.length) = some 2 := by decide +kernel
abbrev rm4_fraction : Room := { frames := 0, cells := 0, slots := 0, locals := 0 }
set_option maxHeartbeats 4000000 in
set_option maxRecDepth 100000 in
theorem w4_fraction_b6 {p : Program} {l : Launch} {e : Env} {s : State} {m : MethodId} {args : Array Value} {below : List Frame} {meth : Method} {c : Code} {D : va_G} {K : Nat → ClassId} {ad : Nat → Nat} (hI : INJ NM ad) (C0 : Cx p s m args meth c RX4 wsX4_fraction cX4_fraction 11 (some .int) (KM D K)) {r : Int32} {T : Mem} : ∀ (n : Nat), ∀ (S : Mem) (x1 : Int64) (x3 : Int64) (x5 : Int64) (x7 : Int64), f4_fraction_b6 n S x1 x3 x5 x7 = some (r, T) → ∀ (H : Heap) (locs : List Loc) (ls : Array Slot), va_P D vwCl (wl NM ad (EM K ad S)) H → va_S (IW NM ad) s.heap H locs → lv_has ls 11 [(0, .ref (ad 0)), (1, .long x1), (3, .long x3), (5, .long x5), (7, .long x7)] → W p l e rm4_fraction s m args below meth c H locs 0 0 (MQ below (va_Qi (fun (x : Int32) (u : Mem) => x = r ∧ u = T) (fun u t => va_P D vwCl (wl NM ad (EM K ad u)) t.heap) (IW NM ad)) args s 0 0 (IW NM ad)) (F0 m 6 ls []) := by
  have hx := C0.1
  have hb := C0.2.1
  have hts := C0.2.2.2.2.1
  have hown := C0.2.2.2.1
  have hKC := C0.2.2.2.2.2.2.2
  intro n
  induction n with
  | zero =>
    intro S x1 x3 x5 x7 hf
    rw [f4_fraction_b6] at hf
    cases hf
  | succ n ih =>
    intro S x1 x3 x5 x7 hf H locs ls hP hS hl
    rw [f4_fraction_b6] at hf
    refine lv_lload hx hb dX4_fraction_6 (lv_at hl 4 rfl) ?_
    refine lv_lconst (v := 0) hx hb dX4_fraction_8 (by decide) ?_
    refine W.lcmp hx hb dX4_fraction_9 ?_
    refine lv_if_eq (tgt := 31) hx hb dX4_fraction_10 (by decide) (fun c1 => ?_) (fun c1 => ?_)
    · have hf := ite_t hf c1
      refine lv_aload_n hx hb dX4_fraction_31 rfl (lv_at hl 0 rfl) ?_
      refine lv_lload_n hx hb dX4_fraction_32 rfl (lv_at hl 1 rfl) ?_
      refine lv_lload hx hb dX4_fraction_33 (lv_at hl 3 rfl) ?_
      obtain ⟨g2, hf⟩ := gd_some hf
      refine lv_ldiv hx hb dX4_fraction_35 (of_decide_eq_true g2) ?_
      refine x_putl C0 hKC hI hP hS (by decide) (EM_0 K ad S) rfl tyX4 tyX4_ok nmX4 in_X4_fraction_X4 3 0 (by decide) (List.mem_of_getElem? (i := 1) rfl) rfl (tyX4_ok 3 (by decide)) (Nat.le_of_ble_eq_true rfl) (EM_p3 K ad S _) (EM_ul K ad S 0 _) dX4_fraction_36 (fun S3 eS3 H locs hP hS => ?_)
      have hf := nm_at eS3 hf
      refine lv_aload_n hx hb dX4_fraction_39 rfl (lv_at hl 0 rfl) ?_
      refine lv_lload_n hx hb dX4_fraction_40 rfl (lv_at hl 2 rfl) ?_
      refine lv_lload hx hb dX4_fraction_41 (lv_at hl 3 rfl) ?_
      obtain ⟨g4, hf⟩ := gd_some hf
      refine lv_ldiv hx hb dX4_fraction_43 (of_decide_eq_true g4) ?_
      refine x_putl C0 hKC hI hP hS (by decide) (EM_0 K ad S3) rfl tyX4 tyX4_ok nmX4 in_X4_fraction_X4 4 1 (by decide) (List.mem_of_getElem? (i := 2) rfl) rfl (tyX4_ok 4 (by decide)) (Nat.le_of_ble_eq_true rfl) (EM_p4 K ad S3 _) (EM_ul K ad S3 1 _) dX4_fraction_44 (fun S5 eS5 H locs hP hS => ?_)
      have hf := nm_at eS5 hf
      refine lv_iconst (v := 1) hx hb dX4_fraction_47 (by decide) ?_
      exact ret_i C0 hP hS (congrArg Prod.fst (Option.some.inj hf)) (congrArg Prod.snd (Option.some.inj hf)) dX4_fraction_48
    · have hf := ite_f hf c1
      refine lv_lload hx hb dX4_fraction_13 (lv_at hl 3 rfl) ?_
      refine lv_lload hx hb dX4_fraction_15 (lv_at hl 4 rfl) ?_
      obtain ⟨g6, hf⟩ := gd_some hf
      refine lv_lrem hx hb dX4_fraction_17 (of_decide_eq_true g6) ?_
      refine lv_topl (fun v7 ev7 => ?_)
      have hf := nm_at ev7 hf
      refine lv_lstore (lv' := [(9, .long v7), (0, .ref (ad 0)), (1, .long x1), (3, .long x3), (5, .long x5), (7, .long x7)]) hx hb dX4_fraction_18 hl (by decide) rfl (fun ls hl => ?_)
      refine lv_lload hx hb dX4_fraction_20 (lv_at hl 5 rfl) ?_
      refine lv_lstore (lv' := [(5, .long x7), (9, .long v7), (0, .ref (ad 0)), (1, .long x1), (3, .long x3), (7, .long x7)]) hx hb dX4_fraction_22 hl (by decide) rfl (fun ls hl => ?_)
      refine lv_lload hx hb dX4_fraction_24 (lv_at hl 1 rfl) ?_
      refine lv_lstore (lv' := [(7, .long v7), (5, .long x7), (9, .long v7), (0, .ref (ad 0)), (1, .long x1), (3, .long x3)]) hx hb dX4_fraction_26 hl (by decide) rfl (fun ls hl => ?_)
      refine lv_goto (tgt := 6) hx hb dX4_fraction_28 (by decide) ?_
      exact ih S x1 x3 x7 v7 hf H locs ls hP hS (lv_sub hl [3, 4, 5, 1, 0] rfl)
set_option maxHeartbeats 4000000 in
set_option maxRecDepth 100000 in
theorem w4_fraction {p : Program} {l : Launch} {e : Env} {s : State} {m : MethodId} {args : Array Value} {below : List Frame} {meth : Method} {c : Code} {D : va_G} {K : Nat → ClassId} {ad : Nat → Nat} (hI : INJ NM ad) (C0 : Cx p s m args meth c RX4 wsX4_fraction cX4_fraction 11 (some .int) (KM D K)) {r : Int32} {T : Mem} : ∀ (S : Mem) (x1 : Int64) (x3 : Int64), f4_fraction S x1 x3 = some (r, T) → ∀ (H : Heap) (locs : List Loc) (ls : Array Slot), va_P D vwCl (wl NM ad (EM K ad S)) H → va_S (IW NM ad) s.heap H locs → lv_has ls 11 [(0, .ref (ad 0)), (1, .long x1), (3, .long x3)] → W p l e rm4_fraction s m args below meth c H locs 0 0 (MQ below (va_Qi (fun (x : Int32) (u : Mem) => x = r ∧ u = T) (fun u t => va_P D vwCl (wl NM ad (EM K ad u)) t.heap) (IW NM ad)) args s 0 0 (IW NM ad)) (F0 m 0 ls []) := by
  have hx := C0.1
  have hb := C0.2.1
  have hts := C0.2.2.2.2.1
  have hown := C0.2.2.2.1
  have hKC := C0.2.2.2.2.2.2.2
  intro S x1 x3 hf H locs ls hP hS hl
  rw [f4_fraction] at hf
  refine lv_lload_n hx hb dX4_fraction_0 rfl (lv_at hl 1 rfl) ?_
  refine lv_lstore (lv' := [(5, .long x1), (0, .ref (ad 0)), (1, .long x1), (3, .long x3)]) hx hb dX4_fraction_1 hl (by decide) rfl (fun ls hl => ?_)
  refine lv_lload_n hx hb dX4_fraction_3 rfl (lv_at hl 3 rfl) ?_
  refine lv_lstore (lv' := [(7, .long x3), (5, .long x1), (0, .ref (ad 0)), (1, .long x1), (3, .long x3)]) hx hb dX4_fraction_4 hl (by decide) rfl (fun ls hl => ?_)
  exact w4_fraction_b6 hI C0 FU S x1 x3 x1 x3 hf H locs ls hP hS (lv_sub hl [2, 3, 4, 1, 0] rfl)
theorem m4_fraction (l : Launch) (D : va_G) (K : Nat → ClassId) (ad : Nat → Nat) (hI : INJ NM ad) (S : Mem) (x1 : Int64) (x3 : Int64) {r : Int32} {T : Mem} (hf : f4_fraction S x1 x3 = some (r, T)) : SysI l yX4_fraction wsX4_fraction rm4_fraction D NM ad (EM K ad) (KM D K) [.ref (ad 0), .long x1, .long x3] S r T :=
  met_of (own := RX4) (by decide) rfl rfl (Nat.le_of_ble_eq_true rfl) (fun _ _ s _ _ _ _ ls C0 _ hP hl => w4_fraction hI C0 S x1 x3 hf s.heap [] ls hP va_S.rf hl)
theorem hd_X4_isRow : yX4_isRow.cls ≠ "java/lang/invoke/MethodHandle" ∧ yX4_isRow.cls ≠ "java/lang/invoke/VarHandle" ∧ (parseMethodDescriptor yX4_isRow.desc).map (fun d => d.parameters.length) = some 1 := by decide +kernel
abbrev rm4_isRow : Room := { frames := 1, cells := 0, slots := 0, locals := 25 }
set_option maxHeartbeats 4000000 in
set_option maxRecDepth 100000 in
theorem w4_isRow {p : Program} {l : Launch} {e : Env} {s : State} {m : MethodId} {args : Array Value} {below : List Frame} {meth : Method} {c : Code} {D : va_G} {K : Nat → ClassId} {ad : Nat → Nat} (hI : INJ NM ad) (C0 : Cx p s m args meth c RX4 wsX4_isRow cX4_isRow 1 (some .boolean) (KM D K)) (S : Mem) {r : Int32} : ∀ (x0 : Int32), f4_isRow x0 = some r → ∀ (H : Heap) (locs : List Loc) (ls : Array Slot), va_P D vwCl (wl NM ad (EM K ad S)) H → va_S (IW NM ad) s.heap H locs → lv_has ls 1 [(0, .int x0)] → W p l e rm4_isRow s m args below meth c H locs 0 0 (MQ below (va_Qi (fun (x : Int32) (u : Mem) => x = r ∧ u = S) (fun u t => va_P D vwCl (wl NM ad (EM K ad u)) t.heap) (IW NM ad)) args s 0 0 (IW NM ad)) (F0 m 0 ls []) := by
  have hx := C0.1
  have hb := C0.2.1
  have hts := C0.2.2.2.2.1
  have hown := C0.2.2.2.1
  have hKC := C0.2.2.2.2.2.2.2
  intro x0 hf H locs ls hP hS hl
  rw [f4_isRow] at hf
  refine lv_iload_n hx hb dX4_isRow_0 rfl (lv_at hl 0 rfl) ?_
  refine lv_i2l (v := (Int32.toInt64 x0)) hx hb dX4_isRow_1 rfl ?_
  refine lv_lconst (v := 0) hx hb dX4_isRow_2 (by decide) ?_
  refine lv_ldc2 (v := 5) hx hb hown (hts _ (List.mem_of_getElem? (i := 1) rfl)) dX4_isRow_3 ?_
  obtain ⟨v2, h1, hf⟩ := b1_some hf
  refine sys_i hS (sys_runS (As := [.long (Int32.toInt64 x0), .long 0, .long 5]) (rest := []) C0 KM_ok hP hS (m4_in l D K ad hI S (Int32.toInt64 x0) 0 5 h1) gX4_isRow_X4_in rfl ⟨rfl, rfl⟩ hd_X4_in ⟨Nat.le_of_ble_eq_true rfl, Nat.le_of_ble_eq_true rfl⟩ hl.1 rfl (Nat.le_of_ble_eq_true rfl) dX4_isRow_6 ⟨Nat.le_refl _, Nat.le_refl _⟩) (fun H locs hP hS => ?_)
  obtain ⟨g3, hf⟩ := gd_some hf
  exact ret_z C0 hP hS (of_decide_eq_true g3) (Option.some.inj hf) rfl dX4_isRow_9
theorem m4_isRow (l : Launch) (D : va_G) (K : Nat → ClassId) (ad : Nat → Nat) (hI : INJ NM ad) (S : Mem) (x0 : Int32) {r : Int32} (hf : f4_isRow x0 = some r) : SysI l yX4_isRow wsX4_isRow rm4_isRow D NM ad (EM K ad) (KM D K) [.int x0] S r S :=
  met_of (own := RX4) (by decide) rfl rfl (Nat.le_of_ble_eq_true rfl) (fun _ _ s _ _ _ _ ls C0 _ hP hl => w4_isRow hI C0 S x0 hf s.heap [] ls hP va_S.rf hl)
theorem hd_X4_isText : yX4_isText.cls ≠ "java/lang/invoke/MethodHandle" ∧ yX4_isText.cls ≠ "java/lang/invoke/VarHandle" ∧ (parseMethodDescriptor yX4_isText.desc).map (fun d => d.parameters.length) = some 1 := by decide +kernel
abbrev rm4_isText : Room := { frames := 1, cells := 0, slots := 0, locals := 25 }
set_option maxHeartbeats 4000000 in
set_option maxRecDepth 100000 in
theorem w4_isText {p : Program} {l : Launch} {e : Env} {s : State} {m : MethodId} {args : Array Value} {below : List Frame} {meth : Method} {c : Code} {D : va_G} {K : Nat → ClassId} {ad : Nat → Nat} (hI : INJ NM ad) (C0 : Cx p s m args meth c RX4 wsX4_isText cX4_isText 1 (some .boolean) (KM D K)) (S : Mem) {r : Int32} : ∀ (x0 : Int32), f4_isText x0 = some r → ∀ (H : Heap) (locs : List Loc) (ls : Array Slot), va_P D vwCl (wl NM ad (EM K ad S)) H → va_S (IW NM ad) s.heap H locs → lv_has ls 1 [(0, .int x0)] → W p l e rm4_isText s m args below meth c H locs 0 0 (MQ below (va_Qi (fun (x : Int32) (u : Mem) => x = r ∧ u = S) (fun u t => va_P D vwCl (wl NM ad (EM K ad u)) t.heap) (IW NM ad)) args s 0 0 (IW NM ad)) (F0 m 0 ls []) := by
  have hx := C0.1
  have hb := C0.2.1
  have hts := C0.2.2.2.2.1
  have hown := C0.2.2.2.1
  have hKC := C0.2.2.2.2.2.2.2
  intro x0 hf H locs ls hP hS hl
  rw [f4_isText] at hf
  refine lv_iload_n hx hb dX4_isText_0 rfl (lv_at hl 0 rfl) ?_
  refine lv_i2l (v := (Int32.toInt64 x0)) hx hb dX4_isText_1 rfl ?_
  refine lv_lconst (v := 0) hx hb dX4_isText_2 (by decide) ?_
  refine lv_ldc2 (v := 3) hx hb hown (hts _ (List.mem_of_getElem? (i := 1) rfl)) dX4_isText_3 ?_
  obtain ⟨v2, h1, hf⟩ := b1_some hf
  refine sys_i hS (sys_runS (As := [.long (Int32.toInt64 x0), .long 0, .long 3]) (rest := []) C0 KM_ok hP hS (m4_in l D K ad hI S (Int32.toInt64 x0) 0 3 h1) gX4_isText_X4_in rfl ⟨rfl, rfl⟩ hd_X4_in ⟨Nat.le_of_ble_eq_true rfl, Nat.le_of_ble_eq_true rfl⟩ hl.1 rfl (Nat.le_of_ble_eq_true rfl) dX4_isText_6 ⟨Nat.le_refl _, Nat.le_refl _⟩) (fun H locs hP hS => ?_)
  obtain ⟨g3, hf⟩ := gd_some hf
  exact ret_z C0 hP hS (of_decide_eq_true g3) (Option.some.inj hf) rfl dX4_isText_9
theorem m4_isText (l : Launch) (D : va_G) (K : Nat → ClassId) (ad : Nat → Nat) (hI : INJ NM ad) (S : Mem) (x0 : Int32) {r : Int32} (hf : f4_isText x0 = some r) : SysI l yX4_isText wsX4_isText rm4_isText D NM ad (EM K ad) (KM D K) [.int x0] S r S :=
  met_of (own := RX4) (by decide) rfl rfl (Nat.le_of_ble_eq_true rfl) (fun _ _ s _ _ _ _ ls C0 _ hP hl => w4_isText hI C0 S x0 hf s.heap [] ls hP va_S.rf hl)
theorem in_X4_row_X4 : ∀ w ∈ wsX40, w ∈ wsX4_row := fun _ h => List.mem_cons_of_mem _ (List.mem_append_right _ h)
theorem hd_X4_row : yX4_row.cls = RX4 ∧ yX4_row.cls ≠ "java/lang/invoke/MethodHandle" ∧ yX4_row.cls ≠ "java/lang/invoke/VarHandle" ∧ (parseMethodDescriptor yX4_row.desc).map (fun d => d.parameters.length) = some 2 := by decide +kernel
abbrev rm4_row : Room := { frames := 2, cells := 0, slots := 0, locals := 45 }
set_option maxHeartbeats 4000000 in
set_option maxRecDepth 100000 in
theorem w4_row_b34 {p : Program} {l : Launch} {e : Env} {s : State} {m : MethodId} {args : Array Value} {below : List Frame} {meth : Method} {c : Code} {D : va_G} {K : Nat → ClassId} {ad : Nat → Nat} (hI : INJ NM ad) (C0 : Cx p s m args meth c RX4 wsX4_row cX4_row 4 (some .int) (KM D K)) {r : Int32} {T : Mem} : ∀ (n : Nat), ∀ (S : Mem) (x1 : Int32) (x2 : Int32) (x3 : Int32), f4_row_b34 n S x1 x2 x3 = some (r, T) → ∀ (H : Heap) (locs : List Loc) (ls : Array Slot), va_P D vwCl (wl NM ad (EM K ad S)) H → va_S (IW NM ad) s.heap H locs → lv_has ls 4 [(0, .ref (ad 0)), (1, .int x1), (2, .int x2), (3, .int x3)] → W p l e rm4_row s m args below meth c H locs 0 0 (MQ below (va_Qi (fun (x : Int32) (u : Mem) => x = r ∧ u = T) (fun u t => va_P D vwCl (wl NM ad (EM K ad u)) t.heap) (IW NM ad)) args s 0 0 (IW NM ad)) (F0 m 34 ls []) := by
  have hx := C0.1
  have hb := C0.2.1
  have hts := C0.2.2.2.2.1
  have hown := C0.2.2.2.1
  have hKC := C0.2.2.2.2.2.2.2
  intro n
  induction n with
  | zero =>
    intro S x1 x2 x3 hf
    rw [f4_row_b34] at hf
    cases hf
  | succ n ih =>
    intro S x1 x2 x3 hf H locs ls hP hS hl
    rw [f4_row_b34] at hf
    refine lv_iload_n hx hb dX4_row_34 rfl (lv_at hl 3 rfl) ?_
    refine lv_bipush (v := 40) hx hb dX4_row_35 (by decide) ?_
    refine lv_icmp_ge (tgt := 58) hx hb dX4_row_37 (by decide) (fun c1 => ?_) (fun c1 => ?_)
    · have hf := ite_t hf c1
      refine lv_iload_n hx hb dX4_row_58 rfl (lv_at hl 2 rfl) ?_
      exact ret_i C0 hP hS (congrArg Prod.fst (Option.some.inj hf)) (congrArg Prod.snd (Option.some.inj hf)) dX4_row_59
    · have hf := ite_f hf c1
      refine lv_aload_n hx hb dX4_row_40 rfl (lv_at hl 0 rfl) ?_
      refine x_get C0 hKC hP (by decide) (EM_0 K ad S) rfl in_X4_row_X4 6 (by decide) (List.mem_of_getElem? (i := 2) rfl) rfl dX4_row_41 ?_
      refine lv_bipush (v := 40) hx hb dX4_row_44 (by decide) ?_
      refine lv_iload_n hx hb dX4_row_46 rfl (lv_at hl 1 rfl) ?_
      refine lv_imul hx hb dX4_row_47 ?_
      refine lv_iload_n hx hb dX4_row_48 rfl (lv_at hl 3 rfl) ?_
      refine lv_iadd hx hb dX4_row_49 ?_
      refine lv_iconst (v := 0) hx hb dX4_row_50 (by decide) ?_
      obtain ⟨g2, hf⟩ := gd_some hf
      refine x_iast C0 hKC hI (EM_loc K ad) hP hS (IM_3 K ad) (t0 := 0) rfl g2 dX4_row_51 (fun S3 eS3 H locs hP hS => ?_)
      have hf := nm_at eS3 hf
      obtain ⟨v4, ev4⟩ : ∃ y : Int32, y = x3 + 1 := ⟨_, rfl⟩
      have hf := nm_at ev4 hf
      refine lv_iinc (v := v4) (lv' := [(3, .int v4), (0, .ref (ad 0)), (1, .int x1), (2, .int x2)]) hx hb dX4_row_52 hl (k := 3) rfl (by rw [ev4]; rfl) (by decide) rfl (fun ls hl => ?_)
      refine lv_goto (tgt := 34) hx hb dX4_row_55 (by decide) ?_
      exact ih S3 x1 x2 v4 hf H locs ls hP hS (lv_sub hl [1, 2, 3, 0] rfl)
set_option maxHeartbeats 4000000 in
set_option maxRecDepth 100000 in
theorem w4_row {p : Program} {l : Launch} {e : Env} {s : State} {m : MethodId} {args : Array Value} {below : List Frame} {meth : Method} {c : Code} {D : va_G} {K : Nat → ClassId} {ad : Nat → Nat} (hI : INJ NM ad) (C0 : Cx p s m args meth c RX4 wsX4_row cX4_row 4 (some .int) (KM D K)) {r : Int32} {T : Mem} : ∀ (S : Mem) (x1 : Int32) (x2 : Int32), f4_row S x1 x2 = some (r, T) → ∀ (H : Heap) (locs : List Loc) (ls : Array Slot), va_P D vwCl (wl NM ad (EM K ad S)) H → va_S (IW NM ad) s.heap H locs → lv_has ls 4 [(0, .ref (ad 0)), (1, .int x1), (2, .int x2)] → W p l e rm4_row s m args below meth c H locs 0 0 (MQ below (va_Qi (fun (x : Int32) (u : Mem) => x = r ∧ u = T) (fun u t => va_P D vwCl (wl NM ad (EM K ad u)) t.heap) (IW NM ad)) args s 0 0 (IW NM ad)) (F0 m 0 ls []) := by
  have hx := C0.1
  have hb := C0.2.1
  have hts := C0.2.2.2.2.1
  have hown := C0.2.2.2.1
  have hKC := C0.2.2.2.2.2.2.2
  intro S x1 x2 hf H locs ls hP hS hl
  rw [f4_row] at hf
  refine lv_iload_n hx hb dX4_row_0 rfl (lv_at hl 1 rfl) ?_
  obtain ⟨v2, h1, hf⟩ := b1_some hf
  refine sys_i hS (sys_runS (As := [.int x1]) (rest := []) C0 KM_ok hP hS (m4_isRow l D K ad hI S x1 h1) gX4_row_X4_isRow rfl ⟨rfl, rfl⟩ hd_X4_isRow ⟨Nat.le_of_ble_eq_true rfl, Nat.le_of_ble_eq_true rfl⟩ hl.1 rfl (Nat.le_of_ble_eq_true rfl) dX4_row_1 ⟨Nat.le_refl _, Nat.le_refl _⟩) (fun H locs hP hS => ?_)
  refine lv_if_eq (tgt := 13) hx hb dX4_row_4 (by decide) (fun c3 => ?_) (fun c3 => ?_)
  · have hf := ite_t hf c3
    refine lv_iconst (v := (-1)) hx hb dX4_row_13 (by decide) ?_
    exact ret_i C0 hP hS (congrArg Prod.fst (Option.some.inj hf)) (congrArg Prod.snd (Option.some.inj hf)) dX4_row_14
  · have hf := ite_f hf c3
    refine lv_iload_n hx hb dX4_row_7 rfl (lv_at hl 2 rfl) ?_
    refine lv_bipush (v := 40) hx hb dX4_row_8 (by decide) ?_
    refine lv_icmp_le (tgt := 15) hx hb dX4_row_10 (by decide) (fun c4 => ?_) (fun c4 => ?_)
    · have hf := ite_t hf c4
      refine lv_iload_n hx hb dX4_row_15 rfl (lv_at hl 2 rfl) ?_
      refine lv_if_ge (tgt := 25) hx hb dX4_row_16 (by decide) (fun c5 => ?_) (fun c5 => ?_)
      · have hf := ite_t hf c5
        refine lv_aload_n hx hb dX4_row_25 rfl (lv_at hl 0 rfl) ?_
        refine x_get C0 hKC hP (by decide) (EM_0 K ad S) rfl in_X4_row_X4 5 (by decide) (List.mem_of_getElem? (i := 1) rfl) rfl dX4_row_26 ?_
        refine lv_iload_n hx hb dX4_row_29 rfl (lv_at hl 1 rfl) ?_
        refine lv_iload_n hx hb dX4_row_30 rfl (lv_at hl 2 rfl) ?_
        obtain ⟨g6, hf⟩ := gd_some hf
        refine x_iast C0 hKC hI (EM_loc K ad) hP hS (IM_2 K ad) (t0 := 0) rfl g6 dX4_row_31 (fun S7 eS7 H locs hP hS => ?_)
        have hf := nm_at eS7 hf
        refine lv_iconst (v := 0) hx hb dX4_row_32 (by decide) ?_
        refine lv_istore_n (lv' := [(3, .int 0), (0, .ref (ad 0)), (1, .int x1), (2, .int x2)]) hx hb dX4_row_33 rfl hl (by decide) rfl (fun ls hl => ?_)
        exact w4_row_b34 hI C0 FU S7 x1 x2 0 hf H locs ls hP hS (lv_sub hl [1, 2, 3, 0] rfl)
      · have hf := ite_f hf c5
        refine lv_aload_n hx hb dX4_row_19 rfl (lv_at hl 0 rfl) ?_
        refine lv_iconst (v := 5) hx hb dX4_row_20 (by decide) ?_
        obtain ⟨v9, S10, h8, hf⟩ := b2_some hf
        refine sys_i hS (sys_runV (As := [.int 5]) (rest := []) C0 KM_ok hKC hP hS (by decide) (EM_0 K ad S) rfl (m4_finds l D K ad hI S 5 h8) gX4_row_X4_finds rfl ⟨rfl, rfl⟩ hd_X4_finds ⟨Nat.le_of_ble_eq_true rfl, Nat.le_of_ble_eq_true rfl⟩ hl.1 rfl (Nat.le_of_ble_eq_true rfl) dX4_row_21 ⟨Nat.le_refl _, Nat.le_refl _⟩) (fun H locs hP hS => ?_)
        exact ret_i C0 hP hS (congrArg Prod.fst (Option.some.inj hf)) (congrArg Prod.snd (Option.some.inj hf)) dX4_row_24
    · have hf := ite_f hf c4
      refine lv_iconst (v := (-1)) hx hb dX4_row_13 (by decide) ?_
      exact ret_i C0 hP hS (congrArg Prod.fst (Option.some.inj hf)) (congrArg Prod.snd (Option.some.inj hf)) dX4_row_14
theorem m4_row (l : Launch) (D : va_G) (K : Nat → ClassId) (ad : Nat → Nat) (hI : INJ NM ad) (S : Mem) (x1 : Int32) (x2 : Int32) {r : Int32} {T : Mem} (hf : f4_row S x1 x2 = some (r, T)) : SysI l yX4_row wsX4_row rm4_row D NM ad (EM K ad) (KM D K) [.ref (ad 0), .int x1, .int x2] S r T :=
  met_of (own := RX4) (by decide) rfl rfl (Nat.le_of_ble_eq_true rfl) (fun _ _ s _ _ _ _ ls C0 _ hP hl => w4_row hI C0 S x1 x2 hf s.heap [] ls hP va_S.rf hl)
theorem in_X4_why_X4 : ∀ w ∈ wsX40, w ∈ wsX4_why := fun _ h => List.mem_cons_of_mem _ (List.mem_append_right _ h)
theorem hd_X4_why : yX4_why.cls = RX4 ∧ yX4_why.cls ≠ "java/lang/invoke/MethodHandle" ∧ yX4_why.cls ≠ "java/lang/invoke/VarHandle" ∧ (parseMethodDescriptor yX4_why.desc).map (fun d => d.parameters.length) = some 2 := by decide +kernel
abbrev rm4_why : Room := { frames := 2, cells := 0, slots := 0, locals := 45 }
set_option maxHeartbeats 4000000 in
set_option maxRecDepth 100000 in
theorem w4_why {p : Program} {l : Launch} {e : Env} {s : State} {m : MethodId} {args : Array Value} {below : List Frame} {meth : Method} {c : Code} {D : va_G} {K : Nat → ClassId} {ad : Nat → Nat} (hI : INJ NM ad) (C0 : Cx p s m args meth c RX4 wsX4_why cX4_why 3 (some .int) (KM D K)) {r : Int32} {T : Mem} : ∀ (S : Mem) (x1 : Int32) (x2 : Int32), f4_why S x1 x2 = some (r, T) → ∀ (H : Heap) (locs : List Loc) (ls : Array Slot), va_P D vwCl (wl NM ad (EM K ad S)) H → va_S (IW NM ad) s.heap H locs → lv_has ls 3 [(0, .ref (ad 0)), (1, .int x1), (2, .int x2)] → W p l e rm4_why s m args below meth c H locs 0 0 (MQ below (va_Qi (fun (x : Int32) (u : Mem) => x = r ∧ u = T) (fun u t => va_P D vwCl (wl NM ad (EM K ad u)) t.heap) (IW NM ad)) args s 0 0 (IW NM ad)) (F0 m 0 ls []) := by
  have hx := C0.1
  have hb := C0.2.1
  have hts := C0.2.2.2.2.1
  have hown := C0.2.2.2.1
  have hKC := C0.2.2.2.2.2.2.2
  intro S x1 x2 hf H locs ls hP hS hl
  rw [f4_why] at hf
  refine lv_iload_n hx hb dX4_why_0 rfl (lv_at hl 1 rfl) ?_
  obtain ⟨v2, h1, hf⟩ := b1_some hf
  refine sys_i hS (sys_runS (As := [.int x1]) (rest := []) C0 KM_ok hP hS (m4_isRow l D K ad hI S x1 h1) gX4_why_X4_isRow rfl ⟨rfl, rfl⟩ hd_X4_isRow ⟨Nat.le_of_ble_eq_true rfl, Nat.le_of_ble_eq_true rfl⟩ hl.1 rfl (Nat.le_of_ble_eq_true rfl) dX4_why_1 ⟨Nat.le_refl _, Nat.le_refl _⟩) (fun H locs hP hS => ?_)
  refine lv_if_ne (tgt := 9) hx hb dX4_why_4 (by decide) (fun c3 => ?_) (fun c3 => ?_)
  · have hf := ite_f hf c3
    refine lv_aload_n hx hb dX4_why_9 rfl (lv_at hl 0 rfl) ?_
    refine x_get C0 hKC hP (by decide) (EM_0 K ad S) rfl in_X4_why_X4 5 (by decide) (List.mem_of_getElem? (i := 1) rfl) rfl dX4_why_10 ?_
    refine lv_iload_n hx hb dX4_why_13 rfl (lv_at hl 1 rfl) ?_
    obtain ⟨g4, hf⟩ := gd_some hf
    refine x_iald C0 hKC hP (IM_2 K ad) (t0 := 0) rfl g4 dX4_why_14 ?_
    refine lv_if_ge (tgt := 24) hx hb dX4_why_15 (by decide) (fun c5 => ?_) (fun c5 => ?_)
    · have hf := ite_t hf c5
      refine lv_iload_n hx hb dX4_why_24 rfl (lv_at hl 2 rfl) ?_
      refine lv_i2l (v := (Int32.toInt64 x2)) hx hb dX4_why_25 rfl ?_
      refine lv_lconst (v := 0) hx hb dX4_why_26 (by decide) ?_
      refine lv_aload_n hx hb dX4_why_27 rfl (lv_at hl 0 rfl) ?_
      refine x_get C0 hKC hP (by decide) (EM_0 K ad S) rfl in_X4_why_X4 5 (by decide) (List.mem_of_getElem? (i := 1) rfl) rfl dX4_why_28 ?_
      refine lv_iload_n hx hb dX4_why_31 rfl (lv_at hl 1 rfl) ?_
      obtain ⟨g6, hf⟩ := gd_some hf
      refine x_iald C0 hKC hP (IM_2 K ad) (t0 := 0) rfl g6 dX4_why_32 ?_
      refine lv_iconst (v := 1) hx hb dX4_why_33 (by decide) ?_
      refine lv_isub hx hb dX4_why_34 ?_
      refine lv_i2l (v := (Int32.toInt64 ((gi S 2 (ix x1)) - 1))) hx hb dX4_why_35 rfl ?_
      obtain ⟨v8, h7, hf⟩ := b1_some hf
      refine sys_i hS (sys_runS (As := [.long (Int32.toInt64 x2), .long 0, .long (Int32.toInt64 ((gi S 2 (ix x1)) - 1))]) (rest := []) C0 KM_ok hP hS (m4_in l D K ad hI S (Int32.toInt64 x2) 0 (Int32.toInt64 ((gi S 2 (ix x1)) - 1)) h7) gX4_why_X4_in rfl ⟨rfl, rfl⟩ hd_X4_in ⟨Nat.le_of_ble_eq_true rfl, Nat.le_of_ble_eq_true rfl⟩ hl.1 rfl (Nat.le_of_ble_eq_true rfl) dX4_why_36 ⟨Nat.le_refl _, Nat.le_refl _⟩) (fun H locs hP hS => ?_)
      refine lv_if_eq (tgt := 46) hx hb dX4_why_39 (by decide) (fun c9 => ?_) (fun c9 => ?_)
      · have hf := ite_t hf c9
        refine lv_aload_n hx hb dX4_why_46 rfl (lv_at hl 0 rfl) ?_
        refine lv_iconst (v := 2) hx hb dX4_why_47 (by decide) ?_
        obtain ⟨v11, S12, h10, hf⟩ := b2_some hf
        refine sys_i hS (sys_runV (As := [.int 2]) (rest := []) C0 KM_ok hKC hP hS (by decide) (EM_0 K ad S) rfl (m4_finds l D K ad hI S 2 h10) gX4_why_X4_finds rfl ⟨rfl, rfl⟩ hd_X4_finds ⟨Nat.le_of_ble_eq_true rfl, Nat.le_of_ble_eq_true rfl⟩ hl.1 rfl (Nat.le_of_ble_eq_true rfl) dX4_why_48 ⟨Nat.le_refl _, Nat.le_refl _⟩) (fun H locs hP hS => ?_)
        exact ret_i C0 hP hS (congrArg Prod.fst (Option.some.inj hf)) (congrArg Prod.snd (Option.some.inj hf)) dX4_why_51
      · have hf := ite_f hf c9
        refine lv_iconst (v := 0) hx hb dX4_why_42 (by decide) ?_
        refine lv_goto (tgt := 51) hx hb dX4_why_43 (by decide) ?_
        exact ret_i C0 hP hS (congrArg Prod.fst (Option.some.inj hf)) (congrArg Prod.snd (Option.some.inj hf)) dX4_why_51
    · have hf := ite_f hf c5
      refine lv_aload_n hx hb dX4_why_18 rfl (lv_at hl 0 rfl) ?_
      refine lv_iconst (v := 1) hx hb dX4_why_19 (by decide) ?_
      obtain ⟨v14, S15, h13, hf⟩ := b2_some hf
      refine sys_i hS (sys_runV (As := [.int 1]) (rest := []) C0 KM_ok hKC hP hS (by decide) (EM_0 K ad S) rfl (m4_finds l D K ad hI S 1 h13) gX4_why_X4_finds rfl ⟨rfl, rfl⟩ hd_X4_finds ⟨Nat.le_of_ble_eq_true rfl, Nat.le_of_ble_eq_true rfl⟩ hl.1 rfl (Nat.le_of_ble_eq_true rfl) dX4_why_20 ⟨Nat.le_refl _, Nat.le_refl _⟩) (fun H locs hP hS => ?_)
      exact ret_i C0 hP hS (congrArg Prod.fst (Option.some.inj hf)) (congrArg Prod.snd (Option.some.inj hf)) dX4_why_23
  · have hf := ite_t hf c3
    refine lv_iconst (v := (-1)) hx hb dX4_why_7 (by decide) ?_
    exact ret_i C0 hP hS (congrArg Prod.fst (Option.some.inj hf)) (congrArg Prod.snd (Option.some.inj hf)) dX4_why_8
theorem m4_why (l : Launch) (D : va_G) (K : Nat → ClassId) (ad : Nat → Nat) (hI : INJ NM ad) (S : Mem) (x1 : Int32) (x2 : Int32) {r : Int32} {T : Mem} (hf : f4_why S x1 x2 = some (r, T)) : SysI l yX4_why wsX4_why rm4_why D NM ad (EM K ad) (KM D K) [.ref (ad 0), .int x1, .int x2] S r T :=
  met_of (own := RX4) (by decide) rfl rfl (Nat.le_of_ble_eq_true rfl) (fun _ _ s _ _ _ _ ls C0 _ hP hl => w4_why hI C0 S x1 x2 hf s.heap [] ls hP va_S.rf hl)
theorem in_X4_lay_X4 : ∀ w ∈ wsX40, w ∈ wsX4_lay := fun _ h => List.mem_cons_of_mem _ (List.mem_append_right _ h)
theorem hd_X4_lay : yX4_lay.cls = RX4 ∧ yX4_lay.cls ≠ "java/lang/invoke/MethodHandle" ∧ yX4_lay.cls ≠ "java/lang/invoke/VarHandle" ∧ (parseMethodDescriptor yX4_lay.desc).map (fun d => d.parameters.length) = some 3 := by decide +kernel
abbrev rm4_lay : Room := { frames := 3, cells := 0, slots := 0, locals := 67 }
set_option maxHeartbeats 4000000 in
set_option maxRecDepth 100000 in
theorem w4_lay {p : Program} {l : Launch} {e : Env} {s : State} {m : MethodId} {args : Array Value} {below : List Frame} {meth : Method} {c : Code} {D : va_G} {K : Nat → ClassId} {ad : Nat → Nat} (hI : INJ NM ad) (C0 : Cx p s m args meth c RX4 wsX4_lay cX4_lay 6 (some .int) (KM D K)) {r : Int32} {T : Mem} : ∀ (S : Mem) (x1 : Int32) (x2 : Int32) (x3 : Int32), f4_lay S x1 x2 x3 = some (r, T) → ∀ (H : Heap) (locs : List Loc) (ls : Array Slot), va_P D vwCl (wl NM ad (EM K ad S)) H → va_S (IW NM ad) s.heap H locs → lv_has ls 6 [(0, .ref (ad 0)), (1, .int x1), (2, .int x2), (3, .int x3)] → W p l e rm4_lay s m args below meth c H locs 0 0 (MQ below (va_Qi (fun (x : Int32) (u : Mem) => x = r ∧ u = T) (fun u t => va_P D vwCl (wl NM ad (EM K ad u)) t.heap) (IW NM ad)) args s 0 0 (IW NM ad)) (F0 m 0 ls []) := by
  have hx := C0.1
  have hb := C0.2.1
  have hts := C0.2.2.2.2.1
  have hown := C0.2.2.2.1
  have hKC := C0.2.2.2.2.2.2.2
  intro S x1 x2 x3 hf H locs ls hP hS hl
  rw [f4_lay] at hf
  refine lv_aload_n hx hb dX4_lay_0 rfl (lv_at hl 0 rfl) ?_
  refine lv_iload_n hx hb dX4_lay_1 rfl (lv_at hl 1 rfl) ?_
  refine lv_iload_n hx hb dX4_lay_2 rfl (lv_at hl 2 rfl) ?_
  obtain ⟨v2, S3, h1, hf⟩ := b2_some hf
  refine sys_i hS (sys_runV (As := [.int x1, .int x2]) (rest := []) C0 KM_ok hKC hP hS (by decide) (EM_0 K ad S) rfl (m4_why l D K ad hI S x1 x2 h1) gX4_lay_X4_why rfl ⟨rfl, rfl⟩ hd_X4_why ⟨Nat.le_of_ble_eq_true rfl, Nat.le_of_ble_eq_true rfl⟩ hl.1 rfl (Nat.le_of_ble_eq_true rfl) dX4_lay_3 ⟨Nat.le_refl _, Nat.le_refl _⟩) (fun H locs hP hS => ?_)
  refine lv_istore (lv' := [(4, .int v2), (0, .ref (ad 0)), (1, .int x1), (2, .int x2), (3, .int x3)]) hx hb dX4_lay_6 hl (by decide) rfl (fun ls hl => ?_)
  refine lv_iload hx hb dX4_lay_8 (lv_at hl 0 rfl) ?_
  refine lv_if_ge (tgt := 16) hx hb dX4_lay_10 (by decide) (fun c4 => ?_) (fun c4 => ?_)
  · have hf := ite_t hf c4
    refine lv_aload_n hx hb dX4_lay_16 rfl (lv_at hl 1 rfl) ?_
    refine x_get C0 hKC hP (by decide) (EM_0 K ad S3) rfl in_X4_lay_X4 6 (by decide) (List.mem_of_getElem? (i := 1) rfl) rfl dX4_lay_17 ?_
    refine lv_bipush (v := 40) hx hb dX4_lay_20 (by decide) ?_
    refine lv_iload_n hx hb dX4_lay_22 rfl (lv_at hl 2 rfl) ?_
    refine lv_imul hx hb dX4_lay_23 ?_
    refine lv_iload_n hx hb dX4_lay_24 rfl (lv_at hl 3 rfl) ?_
    refine lv_iadd hx hb dX4_lay_25 ?_
    obtain ⟨g5, hf⟩ := gd_some hf
    refine x_iald C0 hKC hP (IM_3 K ad) (t0 := 0) rfl g5 dX4_lay_26 ?_
    refine lv_topi (fun v6 ev6 => ?_)
    have hf := nm_at ev6 hf
    refine lv_istore (lv' := [(5, .int v6), (4, .int v2), (0, .ref (ad 0)), (1, .int x1), (2, .int x2), (3, .int x3)]) hx hb dX4_lay_27 hl (by decide) rfl (fun ls hl => ?_)
    refine lv_aload_n hx hb dX4_lay_29 rfl (lv_at hl 2 rfl) ?_
    refine x_get C0 hKC hP (by decide) (EM_0 K ad S3) rfl in_X4_lay_X4 6 (by decide) (List.mem_of_getElem? (i := 1) rfl) rfl dX4_lay_30 ?_
    refine lv_bipush (v := 40) hx hb dX4_lay_33 (by decide) ?_
    refine lv_iload_n hx hb dX4_lay_35 rfl (lv_at hl 3 rfl) ?_
    refine lv_imul hx hb dX4_lay_36 ?_
    refine lv_iload_n hx hb dX4_lay_37 rfl (lv_at hl 4 rfl) ?_
    refine lv_iadd hx hb dX4_lay_38 ?_
    refine lv_iload_n hx hb dX4_lay_39 rfl (lv_at hl 5 rfl) ?_
    obtain ⟨g7, hf⟩ := gd_some hf
    refine x_iast C0 hKC hI (EM_loc K ad) hP hS (IM_3 K ad) (t0 := 0) rfl g7 dX4_lay_40 (fun S8 eS8 H locs hP hS => ?_)
    have hf := nm_at eS8 hf
    refine lv_aload_n hx hb dX4_lay_41 rfl (lv_at hl 2 rfl) ?_
    refine lv_iconst (v := 1) hx hb dX4_lay_42 (by decide) ?_
    refine lv_iload hx hb dX4_lay_43 (lv_at hl 0 rfl) ?_
    obtain ⟨v10, S11, h9, hf⟩ := b2_some hf
    refine sys_i hS (sys_runV (As := [.int 1, .int v6]) (rest := []) C0 KM_ok hKC hP hS (by decide) (EM_0 K ad S8) rfl (m4_tells l D K ad hI S8 1 v6 h9) gX4_lay_X4_tells rfl ⟨rfl, rfl⟩ hd_X4_tells ⟨Nat.le_of_ble_eq_true rfl, Nat.le_of_ble_eq_true rfl⟩ hl.1 rfl (Nat.le_of_ble_eq_true rfl) dX4_lay_45 ⟨Nat.le_refl _, Nat.le_refl _⟩) (fun H locs hP hS => ?_)
    exact ret_i C0 hP hS (congrArg Prod.fst (Option.some.inj hf)) (congrArg Prod.snd (Option.some.inj hf)) dX4_lay_48
  · have hf := ite_f hf c4
    refine lv_iload hx hb dX4_lay_13 (lv_at hl 0 rfl) ?_
    exact ret_i C0 hP hS (congrArg Prod.fst (Option.some.inj hf)) (congrArg Prod.snd (Option.some.inj hf)) dX4_lay_15
theorem m4_lay (l : Launch) (D : va_G) (K : Nat → ClassId) (ad : Nat → Nat) (hI : INJ NM ad) (S : Mem) (x1 : Int32) (x2 : Int32) (x3 : Int32) {r : Int32} {T : Mem} (hf : f4_lay S x1 x2 x3 = some (r, T)) : SysI l yX4_lay wsX4_lay rm4_lay D NM ad (EM K ad) (KM D K) [.ref (ad 0), .int x1, .int x2, .int x3] S r T :=
  met_of (own := RX4) (by decide) rfl rfl (Nat.le_of_ble_eq_true rfl) (fun _ _ s _ _ _ _ ls C0 _ hP hl => w4_lay hI C0 S x1 x2 x3 hf s.heap [] ls hP va_S.rf hl)
theorem in_X4_at_X4 : ∀ w ∈ wsX40, w ∈ wsX4_at := fun _ h => List.mem_cons_of_mem _ (List.mem_append_right _ h)
theorem hd_X4_at : yX4_at.cls = RX4 ∧ yX4_at.cls ≠ "java/lang/invoke/MethodHandle" ∧ yX4_at.cls ≠ "java/lang/invoke/VarHandle" ∧ (parseMethodDescriptor yX4_at.desc).map (fun d => d.parameters.length) = some 2 := by decide +kernel
abbrev rm4_at : Room := { frames := 3, cells := 0, slots := 0, locals := 67 }
set_option maxHeartbeats 4000000 in
set_option maxRecDepth 100000 in
theorem w4_at {p : Program} {l : Launch} {e : Env} {s : State} {m : MethodId} {args : Array Value} {below : List Frame} {meth : Method} {c : Code} {D : va_G} {K : Nat → ClassId} {ad : Nat → Nat} (hI : INJ NM ad) (C0 : Cx p s m args meth c RX4 wsX4_at cX4_at 4 (some .int) (KM D K)) {r : Int32} {T : Mem} : ∀ (S : Mem) (x1 : Int32) (x2 : Int32), f4_at S x1 x2 = some (r, T) → ∀ (H : Heap) (locs : List Loc) (ls : Array Slot), va_P D vwCl (wl NM ad (EM K ad S)) H → va_S (IW NM ad) s.heap H locs → lv_has ls 4 [(0, .ref (ad 0)), (1, .int x1), (2, .int x2)] → W p l e rm4_at s m args below meth c H locs 0 0 (MQ below (va_Qi (fun (x : Int32) (u : Mem) => x = r ∧ u = T) (fun u t => va_P D vwCl (wl NM ad (EM K ad u)) t.heap) (IW NM ad)) args s 0 0 (IW NM ad)) (F0 m 0 ls []) := by
  have hx := C0.1
  have hb := C0.2.1
  have hts := C0.2.2.2.2.1
  have hown := C0.2.2.2.1
  have hKC := C0.2.2.2.2.2.2.2
  intro S x1 x2 hf H locs ls hP hS hl
  rw [f4_at] at hf
  refine lv_aload_n hx hb dX4_at_0 rfl (lv_at hl 0 rfl) ?_
  refine lv_iload_n hx hb dX4_at_1 rfl (lv_at hl 1 rfl) ?_
  refine lv_iload_n hx hb dX4_at_2 rfl (lv_at hl 2 rfl) ?_
  obtain ⟨v2, S3, h1, hf⟩ := b2_some hf
  refine sys_i hS (sys_runV (As := [.int x1, .int x2]) (rest := []) C0 KM_ok hKC hP hS (by decide) (EM_0 K ad S) rfl (m4_why l D K ad hI S x1 x2 h1) gX4_at_X4_why rfl ⟨rfl, rfl⟩ hd_X4_why ⟨Nat.le_of_ble_eq_true rfl, Nat.le_of_ble_eq_true rfl⟩ hl.1 rfl (Nat.le_of_ble_eq_true rfl) dX4_at_3 ⟨Nat.le_refl _, Nat.le_refl _⟩) (fun H locs hP hS => ?_)
  refine lv_istore_n (lv' := [(3, .int v2), (0, .ref (ad 0)), (1, .int x1), (2, .int x2)]) hx hb dX4_at_6 rfl hl (by decide) rfl (fun ls hl => ?_)
  refine lv_iload_n hx hb dX4_at_7 rfl (lv_at hl 0 rfl) ?_
  refine lv_if_ge (tgt := 15) hx hb dX4_at_8 (by decide) (fun c4 => ?_) (fun c4 => ?_)
  · have hf := ite_t hf c4
    refine lv_aload_n hx hb dX4_at_15 rfl (lv_at hl 1 rfl) ?_
    refine lv_iconst (v := 1) hx hb dX4_at_16 (by decide) ?_
    refine lv_aload_n hx hb dX4_at_17 rfl (lv_at hl 1 rfl) ?_
    refine x_get C0 hKC hP (by decide) (EM_0 K ad S3) rfl in_X4_at_X4 6 (by decide) (List.mem_of_getElem? (i := 1) rfl) rfl dX4_at_18 ?_
    refine lv_bipush (v := 40) hx hb dX4_at_21 (by decide) ?_
    refine lv_iload_n hx hb dX4_at_23 rfl (lv_at hl 2 rfl) ?_
    refine lv_imul hx hb dX4_at_24 ?_
    refine lv_iload_n hx hb dX4_at_25 rfl (lv_at hl 3 rfl) ?_
    refine lv_iadd hx hb dX4_at_26 ?_
    obtain ⟨g5, hf⟩ := gd_some hf
    refine x_iald C0 hKC hP (IM_3 K ad) (t0 := 0) rfl g5 dX4_at_27 ?_
    obtain ⟨v7, S8, h6, hf⟩ := b2_some hf
    refine sys_i hS (sys_runV (As := [.int 1, .int (gi S3 3 (ix ((40 * x1) + x2)))]) (rest := []) C0 KM_ok hKC hP hS (by decide) (EM_0 K ad S3) rfl (m4_tells l D K ad hI S3 1 (gi S3 3 (ix ((40 * x1) + x2))) h6) gX4_at_X4_tells rfl ⟨rfl, rfl⟩ hd_X4_tells ⟨Nat.le_of_ble_eq_true rfl, Nat.le_of_ble_eq_true rfl⟩ hl.1 rfl (Nat.le_of_ble_eq_true rfl) dX4_at_28 ⟨Nat.le_refl _, Nat.le_refl _⟩) (fun H locs hP hS => ?_)
    exact ret_i C0 hP hS (congrArg Prod.fst (Option.some.inj hf)) (congrArg Prod.snd (Option.some.inj hf)) dX4_at_31
  · have hf := ite_f hf c4
    refine lv_iload_n hx hb dX4_at_11 rfl (lv_at hl 0 rfl) ?_
    refine lv_goto (tgt := 31) hx hb dX4_at_12 (by decide) ?_
    exact ret_i C0 hP hS (congrArg Prod.fst (Option.some.inj hf)) (congrArg Prod.snd (Option.some.inj hf)) dX4_at_31
theorem m4_at (l : Launch) (D : va_G) (K : Nat → ClassId) (ad : Nat → Nat) (hI : INJ NM ad) (S : Mem) (x1 : Int32) (x2 : Int32) {r : Int32} {T : Mem} (hf : f4_at S x1 x2 = some (r, T)) : SysI l yX4_at wsX4_at rm4_at D NM ad (EM K ad) (KM D K) [.ref (ad 0), .int x1, .int x2] S r T :=
  met_of (own := RX4) (by decide) rfl rfl (Nat.le_of_ble_eq_true rfl) (fun _ _ s _ _ _ _ ls C0 _ hP hl => w4_at hI C0 S x1 x2 hf s.heap [] ls hP va_S.rf hl)
theorem in_X4_tear_X4 : ∀ w ∈ wsX40, w ∈ wsX4_tear := fun _ h => List.mem_cons_of_mem _ (List.mem_append_right _ h)
theorem hd_X4_tear : yX4_tear.cls = RX4 ∧ yX4_tear.cls ≠ "java/lang/invoke/MethodHandle" ∧ yX4_tear.cls ≠ "java/lang/invoke/VarHandle" ∧ (parseMethodDescriptor yX4_tear.desc).map (fun d => d.parameters.length) = some 1 := by decide +kernel
abbrev rm4_tear : Room := { frames := 2, cells := 0, slots := 0, locals := 45 }
set_option maxHeartbeats 4000000 in
set_option maxRecDepth 100000 in
theorem w4_tear {p : Program} {l : Launch} {e : Env} {s : State} {m : MethodId} {args : Array Value} {below : List Frame} {meth : Method} {c : Code} {D : va_G} {K : Nat → ClassId} {ad : Nat → Nat} (hI : INJ NM ad) (C0 : Cx p s m args meth c RX4 wsX4_tear cX4_tear 2 (some .int) (KM D K)) {r : Int32} {T : Mem} : ∀ (S : Mem) (x1 : Int32), f4_tear S x1 = some (r, T) → ∀ (H : Heap) (locs : List Loc) (ls : Array Slot), va_P D vwCl (wl NM ad (EM K ad S)) H → va_S (IW NM ad) s.heap H locs → lv_has ls 2 [(0, .ref (ad 0)), (1, .int x1)] → W p l e rm4_tear s m args below meth c H locs 0 0 (MQ below (va_Qi (fun (x : Int32) (u : Mem) => x = r ∧ u = T) (fun u t => va_P D vwCl (wl NM ad (EM K ad u)) t.heap) (IW NM ad)) args s 0 0 (IW NM ad)) (F0 m 0 ls []) := by
  have hx := C0.1
  have hb := C0.2.1
  have hts := C0.2.2.2.2.1
  have hown := C0.2.2.2.1
  have hKC := C0.2.2.2.2.2.2.2
  intro S x1 hf H locs ls hP hS hl
  rw [f4_tear] at hf
  refine lv_iload_n hx hb dX4_tear_0 rfl (lv_at hl 1 rfl) ?_
  obtain ⟨v2, h1, hf⟩ := b1_some hf
  refine sys_i hS (sys_runS (As := [.int x1]) (rest := []) C0 KM_ok hP hS (m4_isRow l D K ad hI S x1 h1) gX4_tear_X4_isRow rfl ⟨rfl, rfl⟩ hd_X4_isRow ⟨Nat.le_of_ble_eq_true rfl, Nat.le_of_ble_eq_true rfl⟩ hl.1 rfl (Nat.le_of_ble_eq_true rfl) dX4_tear_1 ⟨Nat.le_refl _, Nat.le_refl _⟩) (fun H locs hP hS => ?_)
  refine lv_if_ne (tgt := 9) hx hb dX4_tear_4 (by decide) (fun c3 => ?_) (fun c3 => ?_)
  · have hf := ite_f hf c3
    refine lv_aload_n hx hb dX4_tear_9 rfl (lv_at hl 0 rfl) ?_
    refine x_get C0 hKC hP (by decide) (EM_0 K ad S) rfl in_X4_tear_X4 5 (by decide) (List.mem_of_getElem? (i := 1) rfl) rfl dX4_tear_10 ?_
    refine lv_iload_n hx hb dX4_tear_13 rfl (lv_at hl 1 rfl) ?_
    obtain ⟨g4, hf⟩ := gd_some hf
    refine x_iald C0 hKC hP (IM_2 K ad) (t0 := 0) rfl g4 dX4_tear_14 ?_
    refine lv_if_ge (tgt := 24) hx hb dX4_tear_15 (by decide) (fun c5 => ?_) (fun c5 => ?_)
    · have hf := ite_t hf c5
      refine lv_aload_n hx hb dX4_tear_24 rfl (lv_at hl 0 rfl) ?_
      refine x_get C0 hKC hP (by decide) (EM_0 K ad S) rfl in_X4_tear_X4 5 (by decide) (List.mem_of_getElem? (i := 1) rfl) rfl dX4_tear_25 ?_
      refine lv_iload_n hx hb dX4_tear_28 rfl (lv_at hl 1 rfl) ?_
      refine lv_iconst (v := (-1)) hx hb dX4_tear_29 (by decide) ?_
      obtain ⟨g6, hf⟩ := gd_some hf
      refine x_iast C0 hKC hI (EM_loc K ad) hP hS (IM_2 K ad) (t0 := 0) rfl g6 dX4_tear_30 (fun S7 eS7 H locs hP hS => ?_)
      have hf := nm_at eS7 hf
      refine lv_iconst (v := 1) hx hb dX4_tear_31 (by decide) ?_
      exact ret_i C0 hP hS (congrArg Prod.fst (Option.some.inj hf)) (congrArg Prod.snd (Option.some.inj hf)) dX4_tear_32
    · have hf := ite_f hf c5
      refine lv_aload_n hx hb dX4_tear_18 rfl (lv_at hl 0 rfl) ?_
      refine lv_iconst (v := 1) hx hb dX4_tear_19 (by decide) ?_
      obtain ⟨v9, S10, h8, hf⟩ := b2_some hf
      refine sys_i hS (sys_runV (As := [.int 1]) (rest := []) C0 KM_ok hKC hP hS (by decide) (EM_0 K ad S) rfl (m4_finds l D K ad hI S 1 h8) gX4_tear_X4_finds rfl ⟨rfl, rfl⟩ hd_X4_finds ⟨Nat.le_of_ble_eq_true rfl, Nat.le_of_ble_eq_true rfl⟩ hl.1 rfl (Nat.le_of_ble_eq_true rfl) dX4_tear_20 ⟨Nat.le_refl _, Nat.le_refl _⟩) (fun H locs hP hS => ?_)
      exact ret_i C0 hP hS (congrArg Prod.fst (Option.some.inj hf)) (congrArg Prod.snd (Option.some.inj hf)) dX4_tear_23
  · have hf := ite_t hf c3
    refine lv_iconst (v := (-1)) hx hb dX4_tear_7 (by decide) ?_
    exact ret_i C0 hP hS (congrArg Prod.fst (Option.some.inj hf)) (congrArg Prod.snd (Option.some.inj hf)) dX4_tear_8
theorem m4_tear (l : Launch) (D : va_G) (K : Nat → ClassId) (ad : Nat → Nat) (hI : INJ NM ad) (S : Mem) (x1 : Int32) {r : Int32} {T : Mem} (hf : f4_tear S x1 = some (r, T)) : SysI l yX4_tear wsX4_tear rm4_tear D NM ad (EM K ad) (KM D K) [.ref (ad 0), .int x1] S r T :=
  met_of (own := RX4) (by decide) rfl rfl (Nat.le_of_ble_eq_true rfl) (fun _ _ s _ _ _ _ ls C0 _ hP hl => w4_tear hI C0 S x1 hf s.heap [] ls hP va_S.rf hl)
theorem in_X4_copy_X4 : ∀ w ∈ wsX40, w ∈ wsX4_copy := fun _ h => List.mem_cons_of_mem _ (List.mem_append_right _ h)
theorem hd_X4_copy : yX4_copy.cls = RX4 ∧ yX4_copy.cls ≠ "java/lang/invoke/MethodHandle" ∧ yX4_copy.cls ≠ "java/lang/invoke/VarHandle" ∧ (parseMethodDescriptor yX4_copy.desc).map (fun d => d.parameters.length) = some 5 := by decide +kernel
abbrev rm4_copy : Room := { frames := 2, cells := 0, slots := 0, locals := 45 }
set_option maxHeartbeats 4000000 in
set_option maxRecDepth 100000 in
theorem w4_copy_b45 {p : Program} {l : Launch} {e : Env} {s : State} {m : MethodId} {args : Array Value} {below : List Frame} {meth : Method} {c : Code} {D : va_G} {K : Nat → ClassId} {ad : Nat → Nat} (hI : INJ NM ad) (C0 : Cx p s m args meth c RX4 wsX4_copy cX4_copy 7 (some .int) (KM D K)) {r : Int32} {T : Mem} : ∀ (S : Mem), f4_copy_b45 S = some (r, T) → ∀ (H : Heap) (locs : List Loc) (ls : Array Slot), va_P D vwCl (wl NM ad (EM K ad S)) H → va_S (IW NM ad) s.heap H locs → lv_has ls 7 [(0, .ref (ad 0))] → W p l e rm4_copy s m args below meth c H locs 0 0 (MQ below (va_Qi (fun (x : Int32) (u : Mem) => x = r ∧ u = T) (fun u t => va_P D vwCl (wl NM ad (EM K ad u)) t.heap) (IW NM ad)) args s 0 0 (IW NM ad)) (F0 m 45 ls []) := by
  have hx := C0.1
  have hb := C0.2.1
  have hts := C0.2.2.2.2.1
  have hown := C0.2.2.2.1
  have hKC := C0.2.2.2.2.2.2.2
  intro S hf H locs ls hP hS hl
  rw [f4_copy_b45] at hf
  refine lv_aload_n hx hb dX4_copy_45 rfl (lv_at hl 0 rfl) ?_
  refine lv_iconst (v := 1) hx hb dX4_copy_46 (by decide) ?_
  obtain ⟨v2, S3, h1, hf⟩ := b2_some hf
  refine sys_i hS (sys_runV (As := [.int 1]) (rest := []) C0 KM_ok hKC hP hS (by decide) (EM_0 K ad S) rfl (m4_finds l D K ad hI S 1 h1) gX4_copy_X4_finds rfl ⟨rfl, rfl⟩ hd_X4_finds ⟨Nat.le_of_ble_eq_true rfl, Nat.le_of_ble_eq_true rfl⟩ hl.1 rfl (Nat.le_of_ble_eq_true rfl) dX4_copy_47 ⟨Nat.le_refl _, Nat.le_refl _⟩) (fun H locs hP hS => ?_)
  exact ret_i C0 hP hS (congrArg Prod.fst (Option.some.inj hf)) (congrArg Prod.snd (Option.some.inj hf)) dX4_copy_50
set_option maxHeartbeats 4000000 in
set_option maxRecDepth 100000 in
theorem w4_copy_b95 {p : Program} {l : Launch} {e : Env} {s : State} {m : MethodId} {args : Array Value} {below : List Frame} {meth : Method} {c : Code} {D : va_G} {K : Nat → ClassId} {ad : Nat → Nat} (hI : INJ NM ad) (C0 : Cx p s m args meth c RX4 wsX4_copy cX4_copy 7 (some .int) (KM D K)) {r : Int32} {T : Mem} : ∀ (S : Mem), f4_copy_b95 S = some (r, T) → ∀ (H : Heap) (locs : List Loc) (ls : Array Slot), va_P D vwCl (wl NM ad (EM K ad S)) H → va_S (IW NM ad) s.heap H locs → lv_has ls 7 [(0, .ref (ad 0))] → W p l e rm4_copy s m args below meth c H locs 0 0 (MQ below (va_Qi (fun (x : Int32) (u : Mem) => x = r ∧ u = T) (fun u t => va_P D vwCl (wl NM ad (EM K ad u)) t.heap) (IW NM ad)) args s 0 0 (IW NM ad)) (F0 m 95 ls []) := by
  have hx := C0.1
  have hb := C0.2.1
  have hts := C0.2.2.2.2.1
  have hown := C0.2.2.2.1
  have hKC := C0.2.2.2.2.2.2.2
  intro S hf H locs ls hP hS hl
  rw [f4_copy_b95] at hf
  refine lv_aload_n hx hb dX4_copy_95 rfl (lv_at hl 0 rfl) ?_
  refine lv_iconst (v := 2) hx hb dX4_copy_96 (by decide) ?_
  obtain ⟨v2, S3, h1, hf⟩ := b2_some hf
  refine sys_i hS (sys_runV (As := [.int 2]) (rest := []) C0 KM_ok hKC hP hS (by decide) (EM_0 K ad S) rfl (m4_finds l D K ad hI S 2 h1) gX4_copy_X4_finds rfl ⟨rfl, rfl⟩ hd_X4_finds ⟨Nat.le_of_ble_eq_true rfl, Nat.le_of_ble_eq_true rfl⟩ hl.1 rfl (Nat.le_of_ble_eq_true rfl) dX4_copy_97 ⟨Nat.le_refl _, Nat.le_refl _⟩) (fun H locs hP hS => ?_)
  exact ret_i C0 hP hS (congrArg Prod.fst (Option.some.inj hf)) (congrArg Prod.snd (Option.some.inj hf)) dX4_copy_100
set_option maxHeartbeats 4000000 in
set_option maxRecDepth 100000 in
theorem w4_copy_b141 {p : Program} {l : Launch} {e : Env} {s : State} {m : MethodId} {args : Array Value} {below : List Frame} {meth : Method} {c : Code} {D : va_G} {K : Nat → ClassId} {ad : Nat → Nat} (hI : INJ NM ad) (C0 : Cx p s m args meth c RX4 wsX4_copy cX4_copy 7 (some .int) (KM D K)) {r : Int32} {T : Mem} : ∀ (n : Nat), ∀ (S : Mem) (x3 : Int32) (x4 : Int32) (x5 : Int32) (x6 : Int32), f4_copy_b141 n S x3 x4 x5 x6 = some (r, T) → ∀ (H : Heap) (locs : List Loc) (ls : Array Slot), va_P D vwCl (wl NM ad (EM K ad S)) H → va_S (IW NM ad) s.heap H locs → lv_has ls 7 [(0, .ref (ad 0)), (3, .int x3), (4, .int x4), (5, .int x5), (6, .int x6)] → W p l e rm4_copy s m args below meth c H locs 0 0 (MQ below (va_Qi (fun (x : Int32) (u : Mem) => x = r ∧ u = T) (fun u t => va_P D vwCl (wl NM ad (EM K ad u)) t.heap) (IW NM ad)) args s 0 0 (IW NM ad)) (F0 m 141 ls []) := by
  have hx := C0.1
  have hb := C0.2.1
  have hts := C0.2.2.2.2.1
  have hown := C0.2.2.2.1
  have hKC := C0.2.2.2.2.2.2.2
  intro n
  induction n with
  | zero =>
    intro S x3 x4 x5 x6 hf
    rw [f4_copy_b141] at hf
    cases hf
  | succ n ih =>
    intro S x3 x4 x5 x6 hf H locs ls hP hS hl
    rw [f4_copy_b141] at hf
    refine lv_iload hx hb dX4_copy_141 (lv_at hl 4 rfl) ?_
    refine lv_iload hx hb dX4_copy_143 (lv_at hl 3 rfl) ?_
    refine lv_icmp_ge (tgt := 176) hx hb dX4_copy_145 (by decide) (fun c1 => ?_) (fun c1 => ?_)
    · have hf := ite_t hf c1
      refine lv_iconst (v := 1) hx hb dX4_copy_176 (by decide) ?_
      exact ret_i C0 hP hS (congrArg Prod.fst (Option.some.inj hf)) (congrArg Prod.snd (Option.some.inj hf)) dX4_copy_177
    · have hf := ite_f hf c1
      refine lv_aload_n hx hb dX4_copy_148 rfl (lv_at hl 0 rfl) ?_
      refine x_get C0 hKC hP (by decide) (EM_0 K ad S) rfl in_X4_copy_X4 6 (by decide) (List.mem_of_getElem? (i := 3) rfl) rfl dX4_copy_149 ?_
      refine lv_bipush (v := 40) hx hb dX4_copy_152 (by decide) ?_
      refine lv_iload_n hx hb dX4_copy_154 rfl (lv_at hl 1 rfl) ?_
      refine lv_imul hx hb dX4_copy_155 ?_
      refine lv_iload hx hb dX4_copy_156 (lv_at hl 2 rfl) ?_
      refine lv_iadd hx hb dX4_copy_158 ?_
      refine lv_iload hx hb dX4_copy_159 (lv_at hl 4 rfl) ?_
      refine lv_iadd hx hb dX4_copy_161 ?_
      refine lv_aload_n hx hb dX4_copy_162 rfl (lv_at hl 0 rfl) ?_
      refine x_get C0 hKC hP (by decide) (EM_0 K ad S) rfl in_X4_copy_X4 9 (by decide) (List.mem_of_getElem? (i := 2) rfl) rfl dX4_copy_163 ?_
      refine lv_iload hx hb dX4_copy_166 (lv_at hl 4 rfl) ?_
      obtain ⟨g2, hf⟩ := gd_some hf
      refine x_iald C0 hKC hP (IM_6 K ad) (t0 := 0) rfl g2 dX4_copy_168 ?_
      obtain ⟨g3, hf⟩ := gd_some hf
      refine x_iast C0 hKC hI (EM_loc K ad) hP hS (IM_3 K ad) (t0 := 0) rfl g3 dX4_copy_169 (fun S4 eS4 H locs hP hS => ?_)
      have hf := nm_at eS4 hf
      obtain ⟨v5, ev5⟩ : ∃ y : Int32, y = x6 + 1 := ⟨_, rfl⟩
      have hf := nm_at ev5 hf
      refine lv_iinc (v := v5) (lv' := [(6, .int v5), (0, .ref (ad 0)), (3, .int x3), (4, .int x4), (5, .int x5)]) hx hb dX4_copy_170 hl (k := 4) rfl (by rw [ev5]; rfl) (by decide) rfl (fun ls hl => ?_)
      refine lv_goto (tgt := 141) hx hb dX4_copy_173 (by decide) ?_
      exact ih S4 x3 x4 x5 v5 hf H locs ls hP hS (lv_sub hl [1, 2, 3, 4, 0] rfl)
set_option maxHeartbeats 4000000 in
set_option maxRecDepth 100000 in
theorem w4_copy_b104 {p : Program} {l : Launch} {e : Env} {s : State} {m : MethodId} {args : Array Value} {below : List Frame} {meth : Method} {c : Code} {D : va_G} {K : Nat → ClassId} {ad : Nat → Nat} (hI : INJ NM ad) (C0 : Cx p s m args meth c RX4 wsX4_copy cX4_copy 7 (some .int) (KM D K)) {r : Int32} {T : Mem} : ∀ (n : Nat), ∀ (S : Mem) (x1 : Int32) (x2 : Int32) (x3 : Int32) (x4 : Int32) (x5 : Int32) (x6 : Int32), f4_copy_b104 n S x1 x2 x3 x4 x5 x6 = some (r, T) → ∀ (H : Heap) (locs : List Loc) (ls : Array Slot), va_P D vwCl (wl NM ad (EM K ad S)) H → va_S (IW NM ad) s.heap H locs → lv_has ls 7 [(0, .ref (ad 0)), (1, .int x1), (2, .int x2), (3, .int x3), (4, .int x4), (5, .int x5), (6, .int x6)] → W p l e rm4_copy s m args below meth c H locs 0 0 (MQ below (va_Qi (fun (x : Int32) (u : Mem) => x = r ∧ u = T) (fun u t => va_P D vwCl (wl NM ad (EM K ad u)) t.heap) (IW NM ad)) args s 0 0 (IW NM ad)) (F0 m 104 ls []) := by
  have hx := C0.1
  have hb := C0.2.1
  have hts := C0.2.2.2.2.1
  have hown := C0.2.2.2.1
  have hKC := C0.2.2.2.2.2.2.2
  intro n
  induction n with
  | zero =>
    intro S x1 x2 x3 x4 x5 x6 hf
    rw [f4_copy_b104] at hf
    cases hf
  | succ n ih =>
    intro S x1 x2 x3 x4 x5 x6 hf H locs ls hP hS hl
    rw [f4_copy_b104] at hf
    refine lv_iload hx hb dX4_copy_104 (lv_at hl 6 rfl) ?_
    refine lv_iload hx hb dX4_copy_106 (lv_at hl 5 rfl) ?_
    refine lv_icmp_ge (tgt := 138) hx hb dX4_copy_108 (by decide) (fun c1 => ?_) (fun c1 => ?_)
    · have hf := ite_t hf c1
      refine lv_iconst (v := 0) hx hb dX4_copy_138 (by decide) ?_
      refine lv_istore (lv' := [(6, .int 0), (0, .ref (ad 0)), (1, .int x1), (2, .int x2), (3, .int x3), (4, .int x4), (5, .int x5)]) hx hb dX4_copy_139 hl (by decide) rfl (fun ls hl => ?_)
      exact w4_copy_b141 hI C0 FU S x3 x4 x5 0 hf H locs ls hP hS (lv_sub hl [1, 4, 5, 6, 0] rfl)
    · have hf := ite_f hf c1
      refine lv_aload_n hx hb dX4_copy_111 rfl (lv_at hl 0 rfl) ?_
      refine x_get C0 hKC hP (by decide) (EM_0 K ad S) rfl in_X4_copy_X4 9 (by decide) (List.mem_of_getElem? (i := 2) rfl) rfl dX4_copy_112 ?_
      refine lv_iload hx hb dX4_copy_115 (lv_at hl 6 rfl) ?_
      refine lv_aload_n hx hb dX4_copy_117 rfl (lv_at hl 0 rfl) ?_
      refine x_get C0 hKC hP (by decide) (EM_0 K ad S) rfl in_X4_copy_X4 6 (by decide) (List.mem_of_getElem? (i := 3) rfl) rfl dX4_copy_118 ?_
      refine lv_bipush (v := 40) hx hb dX4_copy_121 (by decide) ?_
      refine lv_iload_n hx hb dX4_copy_123 rfl (lv_at hl 1 rfl) ?_
      refine lv_imul hx hb dX4_copy_124 ?_
      refine lv_iload_n hx hb dX4_copy_125 rfl (lv_at hl 2 rfl) ?_
      refine lv_iadd hx hb dX4_copy_126 ?_
      refine lv_iload hx hb dX4_copy_127 (lv_at hl 6 rfl) ?_
      refine lv_iadd hx hb dX4_copy_129 ?_
      obtain ⟨g2, hf⟩ := gd_some hf
      refine x_iald C0 hKC hP (IM_3 K ad) (t0 := 0) rfl g2 dX4_copy_130 ?_
      obtain ⟨g3, hf⟩ := gd_some hf
      refine x_iast C0 hKC hI (EM_loc K ad) hP hS (IM_6 K ad) (t0 := 0) rfl g3 dX4_copy_131 (fun S4 eS4 H locs hP hS => ?_)
      have hf := nm_at eS4 hf
      obtain ⟨v5, ev5⟩ : ∃ y : Int32, y = x6 + 1 := ⟨_, rfl⟩
      have hf := nm_at ev5 hf
      refine lv_iinc (v := v5) (lv' := [(6, .int v5), (0, .ref (ad 0)), (1, .int x1), (2, .int x2), (3, .int x3), (4, .int x4), (5, .int x5)]) hx hb dX4_copy_132 hl (k := 6) rfl (by rw [ev5]; rfl) (by decide) rfl (fun ls hl => ?_)
      refine lv_goto (tgt := 104) hx hb dX4_copy_135 (by decide) ?_
      exact ih S4 x1 x2 x3 x4 x5 v5 hf H locs ls hP hS (lv_sub hl [1, 2, 3, 4, 5, 6, 0] rfl)
set_option maxHeartbeats 4000000 in
set_option maxRecDepth 100000 in
theorem w4_copy {p : Program} {l : Launch} {e : Env} {s : State} {m : MethodId} {args : Array Value} {below : List Frame} {meth : Method} {c : Code} {D : va_G} {K : Nat → ClassId} {ad : Nat → Nat} (hI : INJ NM ad) (C0 : Cx p s m args meth c RX4 wsX4_copy cX4_copy 7 (some .int) (KM D K)) {r : Int32} {T : Mem} : ∀ (S : Mem) (x1 : Int32) (x2 : Int32) (x3 : Int32) (x4 : Int32) (x5 : Int32), f4_copy S x1 x2 x3 x4 x5 = some (r, T) → ∀ (H : Heap) (locs : List Loc) (ls : Array Slot), va_P D vwCl (wl NM ad (EM K ad S)) H → va_S (IW NM ad) s.heap H locs → lv_has ls 7 [(0, .ref (ad 0)), (1, .int x1), (2, .int x2), (3, .int x3), (4, .int x4), (5, .int x5)] → W p l e rm4_copy s m args below meth c H locs 0 0 (MQ below (va_Qi (fun (x : Int32) (u : Mem) => x = r ∧ u = T) (fun u t => va_P D vwCl (wl NM ad (EM K ad u)) t.heap) (IW NM ad)) args s 0 0 (IW NM ad)) (F0 m 0 ls []) := by
  have hx := C0.1
  have hb := C0.2.1
  have hts := C0.2.2.2.2.1
  have hown := C0.2.2.2.1
  have hKC := C0.2.2.2.2.2.2.2
  intro S x1 x2 x3 x4 x5 hf H locs ls hP hS hl
  rw [f4_copy] at hf
  refine lv_iload_n hx hb dX4_copy_0 rfl (lv_at hl 1 rfl) ?_
  obtain ⟨v2, h1, hf⟩ := b1_some hf
  refine sys_i hS (sys_runS (As := [.int x1]) (rest := []) C0 KM_ok hP hS (m4_isRow l D K ad hI S x1 h1) gX4_copy_X4_isRow rfl ⟨rfl, rfl⟩ hd_X4_isRow ⟨Nat.le_of_ble_eq_true rfl, Nat.le_of_ble_eq_true rfl⟩ hl.1 rfl (Nat.le_of_ble_eq_true rfl) dX4_copy_1 ⟨Nat.le_refl _, Nat.le_refl _⟩) (fun H locs hP hS => ?_)
  refine lv_if_eq (tgt := 14) hx hb dX4_copy_4 (by decide) (fun c3 => ?_) (fun c3 => ?_)
  · have hf := ite_t hf c3
    refine lv_iconst (v := (-1)) hx hb dX4_copy_14 (by decide) ?_
    exact ret_i C0 hP hS (congrArg Prod.fst (Option.some.inj hf)) (congrArg Prod.snd (Option.some.inj hf)) dX4_copy_15
  · have hf := ite_f hf c3
    refine lv_iload_n hx hb dX4_copy_7 rfl (lv_at hl 3 rfl) ?_
    obtain ⟨v5, h4, hf⟩ := b1_some hf
    refine sys_i hS (sys_runS (As := [.int x3]) (rest := []) C0 KM_ok hP hS (m4_isRow l D K ad hI S x3 h4) gX4_copy_X4_isRow rfl ⟨rfl, rfl⟩ hd_X4_isRow ⟨Nat.le_of_ble_eq_true rfl, Nat.le_of_ble_eq_true rfl⟩ hl.1 rfl (Nat.le_of_ble_eq_true rfl) dX4_copy_8 ⟨Nat.le_refl _, Nat.le_refl _⟩) (fun H locs hP hS => ?_)
    refine lv_if_ne (tgt := 16) hx hb dX4_copy_11 (by decide) (fun c6 => ?_) (fun c6 => ?_)
    · have hf := ite_f hf c6
      refine lv_iload hx hb dX4_copy_16 (lv_at hl 5 rfl) ?_
      refine lv_if_ge (tgt := 27) hx hb dX4_copy_18 (by decide) (fun c7 => ?_) (fun c7 => ?_)
      · have hf := ite_t hf c7
        refine lv_aload_n hx hb dX4_copy_27 rfl (lv_at hl 0 rfl) ?_
        refine x_get C0 hKC hP (by decide) (EM_0 K ad S) rfl in_X4_copy_X4 5 (by decide) (List.mem_of_getElem? (i := 1) rfl) rfl dX4_copy_28 ?_
        refine lv_iload_n hx hb dX4_copy_31 rfl (lv_at hl 1 rfl) ?_
        obtain ⟨g8, hf⟩ := gd_some hf
        refine x_iald C0 hKC hP (IM_2 K ad) (t0 := 0) rfl g8 dX4_copy_32 ?_
        refine lv_if_lt (tgt := 45) hx hb dX4_copy_33 (by decide) (fun c9 => ?_) (fun c9 => ?_)
        · have hf := ite_t hf c9
          exact w4_copy_b45 hI C0 S hf H locs ls hP hS (lv_sub hl [0] rfl)
        · have hf := ite_f hf c9
          refine lv_aload_n hx hb dX4_copy_36 rfl (lv_at hl 0 rfl) ?_
          refine x_get C0 hKC hP (by decide) (EM_0 K ad S) rfl in_X4_copy_X4 5 (by decide) (List.mem_of_getElem? (i := 1) rfl) rfl dX4_copy_37 ?_
          refine lv_iload_n hx hb dX4_copy_40 rfl (lv_at hl 3 rfl) ?_
          obtain ⟨g10, hf⟩ := gd_some hf
          refine x_iald C0 hKC hP (IM_2 K ad) (t0 := 0) rfl g10 dX4_copy_41 ?_
          refine lv_if_ge (tgt := 51) hx hb dX4_copy_42 (by decide) (fun c11 => ?_) (fun c11 => ?_)
          · have hf := ite_t hf c11
            refine lv_iload_n hx hb dX4_copy_51 rfl (lv_at hl 2 rfl) ?_
            refine lv_if_lt (tgt := 95) hx hb dX4_copy_52 (by decide) (fun c12 => ?_) (fun c12 => ?_)
            · have hf := ite_t hf c12
              exact w4_copy_b95 hI C0 S hf H locs ls hP hS (lv_sub hl [0] rfl)
            · have hf := ite_f hf c12
              refine lv_iload hx hb dX4_copy_55 (lv_at hl 4 rfl) ?_
              refine lv_if_lt (tgt := 95) hx hb dX4_copy_57 (by decide) (fun c13 => ?_) (fun c13 => ?_)
              · have hf := ite_t hf c13
                exact w4_copy_b95 hI C0 S hf H locs ls hP hS (lv_sub hl [0] rfl)
              · have hf := ite_f hf c13
                refine lv_iload_n hx hb dX4_copy_60 rfl (lv_at hl 2 rfl) ?_
                refine lv_i2l (v := (Int32.toInt64 x2)) hx hb dX4_copy_61 rfl ?_
                refine lv_iload hx hb dX4_copy_62 (lv_at hl 5 rfl) ?_
                refine lv_i2l (v := (Int32.toInt64 x5)) hx hb dX4_copy_64 rfl ?_
                refine lv_ladd hx hb dX4_copy_65 ?_
                refine lv_aload_n hx hb dX4_copy_66 rfl (lv_at hl 0 rfl) ?_
                refine x_get C0 hKC hP (by decide) (EM_0 K ad S) rfl in_X4_copy_X4 5 (by decide) (List.mem_of_getElem? (i := 1) rfl) rfl dX4_copy_67 ?_
                refine lv_iload_n hx hb dX4_copy_70 rfl (lv_at hl 1 rfl) ?_
                obtain ⟨g14, hf⟩ := gd_some hf
                refine x_iald C0 hKC hP (IM_2 K ad) (t0 := 0) rfl g14 dX4_copy_71 ?_
                refine lv_i2l (v := (Int32.toInt64 (gi S 2 (ix x1)))) hx hb dX4_copy_72 rfl ?_
                refine W.lcmp hx hb dX4_copy_73 ?_
                refine lv_if_gt (tgt := 95) hx hb dX4_copy_74 (by decide) (fun c15 => ?_) (fun c15 => ?_)
                · have hf := ite_t hf c15
                  exact w4_copy_b95 hI C0 S hf H locs ls hP hS (lv_sub hl [0] rfl)
                · have hf := ite_f hf c15
                  refine lv_iload hx hb dX4_copy_77 (lv_at hl 4 rfl) ?_
                  refine lv_i2l (v := (Int32.toInt64 x4)) hx hb dX4_copy_79 rfl ?_
                  refine lv_iload hx hb dX4_copy_80 (lv_at hl 5 rfl) ?_
                  refine lv_i2l (v := (Int32.toInt64 x5)) hx hb dX4_copy_82 rfl ?_
                  refine lv_ladd hx hb dX4_copy_83 ?_
                  refine lv_aload_n hx hb dX4_copy_84 rfl (lv_at hl 0 rfl) ?_
                  refine x_get C0 hKC hP (by decide) (EM_0 K ad S) rfl in_X4_copy_X4 5 (by decide) (List.mem_of_getElem? (i := 1) rfl) rfl dX4_copy_85 ?_
                  refine lv_iload_n hx hb dX4_copy_88 rfl (lv_at hl 3 rfl) ?_
                  obtain ⟨g16, hf⟩ := gd_some hf
                  refine x_iald C0 hKC hP (IM_2 K ad) (t0 := 0) rfl g16 dX4_copy_89 ?_
                  refine lv_i2l (v := (Int32.toInt64 (gi S 2 (ix x3)))) hx hb dX4_copy_90 rfl ?_
                  refine W.lcmp hx hb dX4_copy_91 ?_
                  refine lv_if_le (tgt := 101) hx hb dX4_copy_92 (by decide) (fun c17 => ?_) (fun c17 => ?_)
                  · have hf := ite_t hf c17
                    refine lv_iconst (v := 0) hx hb dX4_copy_101 (by decide) ?_
                    refine lv_istore (lv' := [(6, .int 0), (0, .ref (ad 0)), (1, .int x1), (2, .int x2), (3, .int x3), (4, .int x4), (5, .int x5)]) hx hb dX4_copy_102 hl (by decide) rfl (fun ls hl => ?_)
                    exact w4_copy_b104 hI C0 FU S x1 x2 x3 x4 x5 0 hf H locs ls hP hS (lv_sub hl [1, 2, 3, 4, 5, 6, 0] rfl)
                  · have hf := ite_f hf c17
                    exact w4_copy_b95 hI C0 S hf H locs ls hP hS (lv_sub hl [0] rfl)
          · have hf := ite_f hf c11
            exact w4_copy_b45 hI C0 S hf H locs ls hP hS (lv_sub hl [0] rfl)
      · have hf := ite_f hf c7
        refine lv_aload_n hx hb dX4_copy_21 rfl (lv_at hl 0 rfl) ?_
        refine lv_iconst (v := 5) hx hb dX4_copy_22 (by decide) ?_
        obtain ⟨v19, S20, h18, hf⟩ := b2_some hf
        refine sys_i hS (sys_runV (As := [.int 5]) (rest := []) C0 KM_ok hKC hP hS (by decide) (EM_0 K ad S) rfl (m4_finds l D K ad hI S 5 h18) gX4_copy_X4_finds rfl ⟨rfl, rfl⟩ hd_X4_finds ⟨Nat.le_of_ble_eq_true rfl, Nat.le_of_ble_eq_true rfl⟩ hl.1 rfl (Nat.le_of_ble_eq_true rfl) dX4_copy_23 ⟨Nat.le_refl _, Nat.le_refl _⟩) (fun H locs hP hS => ?_)
        exact ret_i C0 hP hS (congrArg Prod.fst (Option.some.inj hf)) (congrArg Prod.snd (Option.some.inj hf)) dX4_copy_26
    · have hf := ite_t hf c6
      refine lv_iconst (v := (-1)) hx hb dX4_copy_14 (by decide) ?_
      exact ret_i C0 hP hS (congrArg Prod.fst (Option.some.inj hf)) (congrArg Prod.snd (Option.some.inj hf)) dX4_copy_15
theorem m4_copy (l : Launch) (D : va_G) (K : Nat → ClassId) (ad : Nat → Nat) (hI : INJ NM ad) (S : Mem) (x1 : Int32) (x2 : Int32) (x3 : Int32) (x4 : Int32) (x5 : Int32) {r : Int32} {T : Mem} (hf : f4_copy S x1 x2 x3 x4 x5 = some (r, T)) : SysI l yX4_copy wsX4_copy rm4_copy D NM ad (EM K ad) (KM D K) [.ref (ad 0), .int x1, .int x2, .int x3, .int x4, .int x5] S r T :=
  met_of (own := RX4) (by decide) rfl rfl (Nat.le_of_ble_eq_true rfl) (fun _ _ s _ _ _ _ ls C0 _ hP hl => w4_copy hI C0 S x1 x2 x3 x4 x5 hf s.heap [] ls hP va_S.rf hl)
theorem in_X4_mean_X4 : ∀ w ∈ wsX40, w ∈ wsX4_mean := fun _ h => List.mem_cons_of_mem _ (List.mem_append_right _ h)
theorem hd_X4_mean : yX4_mean.cls = RX4 ∧ yX4_mean.cls ≠ "java/lang/invoke/MethodHandle" ∧ yX4_mean.cls ≠ "java/lang/invoke/VarHandle" ∧ (parseMethodDescriptor yX4_mean.desc).map (fun d => d.parameters.length) = some 1 := by decide +kernel
abbrev rm4_mean : Room := { frames := 2, cells := 0, slots := 0, locals := 45 }
set_option maxHeartbeats 4000000 in
set_option maxRecDepth 100000 in
theorem w4_mean_b44 {p : Program} {l : Launch} {e : Env} {s : State} {m : MethodId} {args : Array Value} {below : List Frame} {meth : Method} {c : Code} {D : va_G} {K : Nat → ClassId} {ad : Nat → Nat} (hI : INJ NM ad) (C0 : Cx p s m args meth c RX4 wsX4_mean cX4_mean 5 (some .int) (KM D K)) {r : Int32} {T : Mem} : ∀ (n : Nat), ∀ (S : Mem) (x1 : Int32) (x2 : Int64) (x4 : Int32), f4_mean_b44 n S x1 x2 x4 = some (r, T) → ∀ (H : Heap) (locs : List Loc) (ls : Array Slot), va_P D vwCl (wl NM ad (EM K ad S)) H → va_S (IW NM ad) s.heap H locs → lv_has ls 5 [(0, .ref (ad 0)), (1, .int x1), (2, .long x2), (4, .int x4)] → W p l e rm4_mean s m args below meth c H locs 0 0 (MQ below (va_Qi (fun (x : Int32) (u : Mem) => x = r ∧ u = T) (fun u t => va_P D vwCl (wl NM ad (EM K ad u)) t.heap) (IW NM ad)) args s 0 0 (IW NM ad)) (F0 m 44 ls []) := by
  have hx := C0.1
  have hb := C0.2.1
  have hts := C0.2.2.2.2.1
  have hown := C0.2.2.2.1
  have hKC := C0.2.2.2.2.2.2.2
  intro n
  induction n with
  | zero =>
    intro S x1 x2 x4 hf
    rw [f4_mean_b44] at hf
    cases hf
  | succ n ih =>
    intro S x1 x2 x4 hf H locs ls hP hS hl
    rw [f4_mean_b44] at hf
    refine lv_iload hx hb dX4_mean_44 (lv_at hl 3 rfl) ?_
    refine lv_aload_n hx hb dX4_mean_46 rfl (lv_at hl 0 rfl) ?_
    refine x_get C0 hKC hP (by decide) (EM_0 K ad S) rfl in_X4_mean_X4 5 (by decide) (List.mem_of_getElem? (i := 1) rfl) rfl dX4_mean_47 ?_
    refine lv_iload_n hx hb dX4_mean_50 rfl (lv_at hl 1 rfl) ?_
    obtain ⟨g1, hf⟩ := gd_some hf
    refine x_iald C0 hKC hP (IM_2 K ad) (t0 := 0) rfl g1 dX4_mean_51 ?_
    refine lv_icmp_ge (tgt := 77) hx hb dX4_mean_52 (by decide) (fun c2 => ?_) (fun c2 => ?_)
    · have hf := ite_t hf c2
      refine lv_aload_n hx hb dX4_mean_77 rfl (lv_at hl 0 rfl) ?_
      refine lv_iconst (v := 1) hx hb dX4_mean_78 (by decide) ?_
      refine lv_lload_n hx hb dX4_mean_79 rfl (lv_at hl 2 rfl) ?_
      refine lv_aload_n hx hb dX4_mean_80 rfl (lv_at hl 0 rfl) ?_
      refine x_get C0 hKC hP (by decide) (EM_0 K ad S) rfl in_X4_mean_X4 5 (by decide) (List.mem_of_getElem? (i := 1) rfl) rfl dX4_mean_81 ?_
      refine lv_iload_n hx hb dX4_mean_84 rfl (lv_at hl 1 rfl) ?_
      obtain ⟨g3, hf⟩ := gd_some hf
      refine x_iald C0 hKC hP (IM_2 K ad) (t0 := 0) rfl g3 dX4_mean_85 ?_
      refine lv_i2l (v := (Int32.toInt64 (gi S 2 (ix x1)))) hx hb dX4_mean_86 rfl ?_
      obtain ⟨g4, hf⟩ := gd_some hf
      refine lv_ldiv hx hb dX4_mean_87 (of_decide_eq_true g4) ?_
      refine lv_l2i (v := (Int64.toInt32 (x2 / (Int32.toInt64 (gi S 2 (ix x1)))))) hx hb dX4_mean_88 rfl ?_
      obtain ⟨v6, S7, h5, hf⟩ := b2_some hf
      refine sys_i hS (sys_runV (As := [.int 1, .int (Int64.toInt32 (x2 / (Int32.toInt64 (gi S 2 (ix x1)))))]) (rest := []) C0 KM_ok hKC hP hS (by decide) (EM_0 K ad S) rfl (m4_tells l D K ad hI S 1 (Int64.toInt32 (x2 / (Int32.toInt64 (gi S 2 (ix x1))))) h5) gX4_mean_X4_tells rfl ⟨rfl, rfl⟩ hd_X4_tells ⟨Nat.le_of_ble_eq_true rfl, Nat.le_of_ble_eq_true rfl⟩ hl.1 rfl (Nat.le_of_ble_eq_true rfl) dX4_mean_89 ⟨Nat.le_refl _, Nat.le_refl _⟩) (fun H locs hP hS => ?_)
      exact ret_i C0 hP hS (congrArg Prod.fst (Option.some.inj hf)) (congrArg Prod.snd (Option.some.inj hf)) dX4_mean_92
    · have hf := ite_f hf c2
      refine lv_lload_n hx hb dX4_mean_55 rfl (lv_at hl 2 rfl) ?_
      refine lv_aload_n hx hb dX4_mean_56 rfl (lv_at hl 0 rfl) ?_
      refine x_get C0 hKC hP (by decide) (EM_0 K ad S) rfl in_X4_mean_X4 6 (by decide) (List.mem_of_getElem? (i := 2) rfl) rfl dX4_mean_57 ?_
      refine lv_bipush (v := 40) hx hb dX4_mean_60 (by decide) ?_
      refine lv_iload_n hx hb dX4_mean_62 rfl (lv_at hl 1 rfl) ?_
      refine lv_imul hx hb dX4_mean_63 ?_
      refine lv_iload hx hb dX4_mean_64 (lv_at hl 3 rfl) ?_
      refine lv_iadd hx hb dX4_mean_66 ?_
      obtain ⟨g8, hf⟩ := gd_some hf
      refine x_iald C0 hKC hP (IM_3 K ad) (t0 := 0) rfl g8 dX4_mean_67 ?_
      refine lv_i2l (v := (Int32.toInt64 (gi S 3 (ix ((40 * x1) + x4))))) hx hb dX4_mean_68 rfl ?_
      refine lv_ladd hx hb dX4_mean_69 ?_
      refine lv_topl (fun v9 ev9 => ?_)
      have hf := nm_at ev9 hf
      refine lv_lstore_n (lv' := [(2, .long v9), (0, .ref (ad 0)), (1, .int x1), (4, .int x4)]) hx hb dX4_mean_70 rfl hl (by decide) rfl (fun ls hl => ?_)
      obtain ⟨v10, ev10⟩ : ∃ y : Int32, y = x4 + 1 := ⟨_, rfl⟩
      have hf := nm_at ev10 hf
      refine lv_iinc (v := v10) (lv' := [(4, .int v10), (2, .long v9), (0, .ref (ad 0)), (1, .int x1)]) hx hb dX4_mean_71 hl (k := 3) rfl (by rw [ev10]; rfl) (by decide) rfl (fun ls hl => ?_)
      refine lv_goto (tgt := 44) hx hb dX4_mean_74 (by decide) ?_
      exact ih S x1 v9 v10 hf H locs ls hP hS (lv_sub hl [2, 3, 1, 0] rfl)
set_option maxHeartbeats 4000000 in
set_option maxRecDepth 100000 in
theorem w4_mean {p : Program} {l : Launch} {e : Env} {s : State} {m : MethodId} {args : Array Value} {below : List Frame} {meth : Method} {c : Code} {D : va_G} {K : Nat → ClassId} {ad : Nat → Nat} (hI : INJ NM ad) (C0 : Cx p s m args meth c RX4 wsX4_mean cX4_mean 5 (some .int) (KM D K)) {r : Int32} {T : Mem} : ∀ (S : Mem) (x1 : Int32), f4_mean S x1 = some (r, T) → ∀ (H : Heap) (locs : List Loc) (ls : Array Slot), va_P D vwCl (wl NM ad (EM K ad S)) H → va_S (IW NM ad) s.heap H locs → lv_has ls 5 [(0, .ref (ad 0)), (1, .int x1)] → W p l e rm4_mean s m args below meth c H locs 0 0 (MQ below (va_Qi (fun (x : Int32) (u : Mem) => x = r ∧ u = T) (fun u t => va_P D vwCl (wl NM ad (EM K ad u)) t.heap) (IW NM ad)) args s 0 0 (IW NM ad)) (F0 m 0 ls []) := by
  have hx := C0.1
  have hb := C0.2.1
  have hts := C0.2.2.2.2.1
  have hown := C0.2.2.2.1
  have hKC := C0.2.2.2.2.2.2.2
  intro S x1 hf H locs ls hP hS hl
  rw [f4_mean] at hf
  refine lv_iload_n hx hb dX4_mean_0 rfl (lv_at hl 1 rfl) ?_
  obtain ⟨v2, h1, hf⟩ := b1_some hf
  refine sys_i hS (sys_runS (As := [.int x1]) (rest := []) C0 KM_ok hP hS (m4_isRow l D K ad hI S x1 h1) gX4_mean_X4_isRow rfl ⟨rfl, rfl⟩ hd_X4_isRow ⟨Nat.le_of_ble_eq_true rfl, Nat.le_of_ble_eq_true rfl⟩ hl.1 rfl (Nat.le_of_ble_eq_true rfl) dX4_mean_1 ⟨Nat.le_refl _, Nat.le_refl _⟩) (fun H locs hP hS => ?_)
  refine lv_if_ne (tgt := 9) hx hb dX4_mean_4 (by decide) (fun c3 => ?_) (fun c3 => ?_)
  · have hf := ite_f hf c3
    refine lv_aload_n hx hb dX4_mean_9 rfl (lv_at hl 0 rfl) ?_
    refine x_get C0 hKC hP (by decide) (EM_0 K ad S) rfl in_X4_mean_X4 5 (by decide) (List.mem_of_getElem? (i := 1) rfl) rfl dX4_mean_10 ?_
    refine lv_iload_n hx hb dX4_mean_13 rfl (lv_at hl 1 rfl) ?_
    obtain ⟨g4, hf⟩ := gd_some hf
    refine x_iald C0 hKC hP (IM_2 K ad) (t0 := 0) rfl g4 dX4_mean_14 ?_
    refine lv_if_ge (tgt := 24) hx hb dX4_mean_15 (by decide) (fun c5 => ?_) (fun c5 => ?_)
    · have hf := ite_t hf c5
      refine lv_aload_n hx hb dX4_mean_24 rfl (lv_at hl 0 rfl) ?_
      refine x_get C0 hKC hP (by decide) (EM_0 K ad S) rfl in_X4_mean_X4 5 (by decide) (List.mem_of_getElem? (i := 1) rfl) rfl dX4_mean_25 ?_
      refine lv_iload_n hx hb dX4_mean_28 rfl (lv_at hl 1 rfl) ?_
      obtain ⟨g6, hf⟩ := gd_some hf
      refine x_iald C0 hKC hP (IM_2 K ad) (t0 := 0) rfl g6 dX4_mean_29 ?_
      refine lv_if_ne (tgt := 39) hx hb dX4_mean_30 (by decide) (fun c7 => ?_) (fun c7 => ?_)
      · have hf := ite_f hf c7
        refine lv_lconst (v := 0) hx hb dX4_mean_39 (by decide) ?_
        refine lv_lstore_n (lv' := [(2, .long 0), (0, .ref (ad 0)), (1, .int x1)]) hx hb dX4_mean_40 rfl hl (by decide) rfl (fun ls hl => ?_)
        refine lv_iconst (v := 0) hx hb dX4_mean_41 (by decide) ?_
        refine lv_istore (lv' := [(4, .int 0), (2, .long 0), (0, .ref (ad 0)), (1, .int x1)]) hx hb dX4_mean_42 hl (by decide) rfl (fun ls hl => ?_)
        exact w4_mean_b44 hI C0 FU S x1 0 0 hf H locs ls hP hS (lv_sub hl [2, 3, 1, 0] rfl)
      · have hf := ite_t hf c7
        refine lv_aload_n hx hb dX4_mean_33 rfl (lv_at hl 0 rfl) ?_
        refine lv_iconst (v := 4) hx hb dX4_mean_34 (by decide) ?_
        obtain ⟨v9, S10, h8, hf⟩ := b2_some hf
        refine sys_i hS (sys_runV (As := [.int 4]) (rest := []) C0 KM_ok hKC hP hS (by decide) (EM_0 K ad S) rfl (m4_finds l D K ad hI S 4 h8) gX4_mean_X4_finds rfl ⟨rfl, rfl⟩ hd_X4_finds ⟨Nat.le_of_ble_eq_true rfl, Nat.le_of_ble_eq_true rfl⟩ hl.1 rfl (Nat.le_of_ble_eq_true rfl) dX4_mean_35 ⟨Nat.le_refl _, Nat.le_refl _⟩) (fun H locs hP hS => ?_)
        exact ret_i C0 hP hS (congrArg Prod.fst (Option.some.inj hf)) (congrArg Prod.snd (Option.some.inj hf)) dX4_mean_38
    · have hf := ite_f hf c5
      refine lv_aload_n hx hb dX4_mean_18 rfl (lv_at hl 0 rfl) ?_
      refine lv_iconst (v := 1) hx hb dX4_mean_19 (by decide) ?_
      obtain ⟨v12, S13, h11, hf⟩ := b2_some hf
      refine sys_i hS (sys_runV (As := [.int 1]) (rest := []) C0 KM_ok hKC hP hS (by decide) (EM_0 K ad S) rfl (m4_finds l D K ad hI S 1 h11) gX4_mean_X4_finds rfl ⟨rfl, rfl⟩ hd_X4_finds ⟨Nat.le_of_ble_eq_true rfl, Nat.le_of_ble_eq_true rfl⟩ hl.1 rfl (Nat.le_of_ble_eq_true rfl) dX4_mean_20 ⟨Nat.le_refl _, Nat.le_refl _⟩) (fun H locs hP hS => ?_)
      exact ret_i C0 hP hS (congrArg Prod.fst (Option.some.inj hf)) (congrArg Prod.snd (Option.some.inj hf)) dX4_mean_23
  · have hf := ite_t hf c3
    refine lv_iconst (v := (-1)) hx hb dX4_mean_7 (by decide) ?_
    exact ret_i C0 hP hS (congrArg Prod.fst (Option.some.inj hf)) (congrArg Prod.snd (Option.some.inj hf)) dX4_mean_8
theorem m4_mean (l : Launch) (D : va_G) (K : Nat → ClassId) (ad : Nat → Nat) (hI : INJ NM ad) (S : Mem) (x1 : Int32) {r : Int32} {T : Mem} (hf : f4_mean S x1 = some (r, T)) : SysI l yX4_mean wsX4_mean rm4_mean D NM ad (EM K ad) (KM D K) [.ref (ad 0), .int x1] S r T :=
  met_of (own := RX4) (by decide) rfl rfl (Nat.le_of_ble_eq_true rfl) (fun _ _ s _ _ _ _ ls C0 _ hP hl => w4_mean hI C0 S x1 hf s.heap [] ls hP va_S.rf hl)
theorem in_X4_text_X4 : ∀ w ∈ wsX40, w ∈ wsX4_text := fun _ h => List.mem_cons_of_mem _ (List.mem_append_right _ h)
theorem hd_X4_text : yX4_text.cls = RX4 ∧ yX4_text.cls ≠ "java/lang/invoke/MethodHandle" ∧ yX4_text.cls ≠ "java/lang/invoke/VarHandle" ∧ (parseMethodDescriptor yX4_text.desc).map (fun d => d.parameters.length) = some 2 := by decide +kernel
abbrev rm4_text : Room := { frames := 2, cells := 0, slots := 0, locals := 45 }
set_option maxHeartbeats 4000000 in
set_option maxRecDepth 100000 in
theorem w4_text_b34 {p : Program} {l : Launch} {e : Env} {s : State} {m : MethodId} {args : Array Value} {below : List Frame} {meth : Method} {c : Code} {D : va_G} {K : Nat → ClassId} {ad : Nat → Nat} (hI : INJ NM ad) (C0 : Cx p s m args meth c RX4 wsX4_text cX4_text 4 (some .int) (KM D K)) {r : Int32} {T : Mem} : ∀ (n : Nat), ∀ (S : Mem) (x1 : Int32) (x2 : Int32) (x3 : Int32), f4_text_b34 n S x1 x2 x3 = some (r, T) → ∀ (H : Heap) (locs : List Loc) (ls : Array Slot), va_P D vwCl (wl NM ad (EM K ad S)) H → va_S (IW NM ad) s.heap H locs → lv_has ls 4 [(0, .ref (ad 0)), (1, .int x1), (2, .int x2), (3, .int x3)] → W p l e rm4_text s m args below meth c H locs 0 0 (MQ below (va_Qi (fun (x : Int32) (u : Mem) => x = r ∧ u = T) (fun u t => va_P D vwCl (wl NM ad (EM K ad u)) t.heap) (IW NM ad)) args s 0 0 (IW NM ad)) (F0 m 34 ls []) := by
  have hx := C0.1
  have hb := C0.2.1
  have hts := C0.2.2.2.2.1
  have hown := C0.2.2.2.1
  have hKC := C0.2.2.2.2.2.2.2
  intro n
  induction n with
  | zero =>
    intro S x1 x2 x3 hf
    rw [f4_text_b34] at hf
    cases hf
  | succ n ih =>
    intro S x1 x2 x3 hf H locs ls hP hS hl
    rw [f4_text_b34] at hf
    refine lv_iload_n hx hb dX4_text_34 rfl (lv_at hl 3 rfl) ?_
    refine lv_bipush (v := 60) hx hb dX4_text_35 (by decide) ?_
    refine lv_icmp_ge (tgt := 59) hx hb dX4_text_37 (by decide) (fun c1 => ?_) (fun c1 => ?_)
    · have hf := ite_t hf c1
      refine lv_iload_n hx hb dX4_text_59 rfl (lv_at hl 2 rfl) ?_
      exact ret_i C0 hP hS (congrArg Prod.fst (Option.some.inj hf)) (congrArg Prod.snd (Option.some.inj hf)) dX4_text_60
    · have hf := ite_f hf c1
      refine lv_aload_n hx hb dX4_text_40 rfl (lv_at hl 0 rfl) ?_
      refine x_get C0 hKC hP (by decide) (EM_0 K ad S) rfl in_X4_text_X4 8 (by decide) (List.mem_of_getElem? (i := 2) rfl) rfl dX4_text_41 ?_
      refine lv_bipush (v := 60) hx hb dX4_text_44 (by decide) ?_
      refine lv_iload_n hx hb dX4_text_46 rfl (lv_at hl 1 rfl) ?_
      refine lv_imul hx hb dX4_text_47 ?_
      refine lv_iload_n hx hb dX4_text_48 rfl (lv_at hl 3 rfl) ?_
      refine lv_iadd hx hb dX4_text_49 ?_
      refine lv_bipush (v := 32) hx hb dX4_text_50 (by decide) ?_
      obtain ⟨g2, hf⟩ := gd_some hf
      refine x_iast C0 hKC hI (EM_loc K ad) hP hS (IM_5 K ad) (t0 := 0) rfl g2 dX4_text_52 (fun S3 eS3 H locs hP hS => ?_)
      have hf := nm_at eS3 hf
      obtain ⟨v4, ev4⟩ : ∃ y : Int32, y = x3 + 1 := ⟨_, rfl⟩
      have hf := nm_at ev4 hf
      refine lv_iinc (v := v4) (lv' := [(3, .int v4), (0, .ref (ad 0)), (1, .int x1), (2, .int x2)]) hx hb dX4_text_53 hl (k := 3) rfl (by rw [ev4]; rfl) (by decide) rfl (fun ls hl => ?_)
      refine lv_goto (tgt := 34) hx hb dX4_text_56 (by decide) ?_
      exact ih S3 x1 x2 v4 hf H locs ls hP hS (lv_sub hl [1, 2, 3, 0] rfl)
set_option maxHeartbeats 4000000 in
set_option maxRecDepth 100000 in
theorem w4_text {p : Program} {l : Launch} {e : Env} {s : State} {m : MethodId} {args : Array Value} {below : List Frame} {meth : Method} {c : Code} {D : va_G} {K : Nat → ClassId} {ad : Nat → Nat} (hI : INJ NM ad) (C0 : Cx p s m args meth c RX4 wsX4_text cX4_text 4 (some .int) (KM D K)) {r : Int32} {T : Mem} : ∀ (S : Mem) (x1 : Int32) (x2 : Int32), f4_text S x1 x2 = some (r, T) → ∀ (H : Heap) (locs : List Loc) (ls : Array Slot), va_P D vwCl (wl NM ad (EM K ad S)) H → va_S (IW NM ad) s.heap H locs → lv_has ls 4 [(0, .ref (ad 0)), (1, .int x1), (2, .int x2)] → W p l e rm4_text s m args below meth c H locs 0 0 (MQ below (va_Qi (fun (x : Int32) (u : Mem) => x = r ∧ u = T) (fun u t => va_P D vwCl (wl NM ad (EM K ad u)) t.heap) (IW NM ad)) args s 0 0 (IW NM ad)) (F0 m 0 ls []) := by
  have hx := C0.1
  have hb := C0.2.1
  have hts := C0.2.2.2.2.1
  have hown := C0.2.2.2.1
  have hKC := C0.2.2.2.2.2.2.2
  intro S x1 x2 hf H locs ls hP hS hl
  rw [f4_text] at hf
  refine lv_iload_n hx hb dX4_text_0 rfl (lv_at hl 1 rfl) ?_
  obtain ⟨v2, h1, hf⟩ := b1_some hf
  refine sys_i hS (sys_runS (As := [.int x1]) (rest := []) C0 KM_ok hP hS (m4_isText l D K ad hI S x1 h1) gX4_text_X4_isText rfl ⟨rfl, rfl⟩ hd_X4_isText ⟨Nat.le_of_ble_eq_true rfl, Nat.le_of_ble_eq_true rfl⟩ hl.1 rfl (Nat.le_of_ble_eq_true rfl) dX4_text_1 ⟨Nat.le_refl _, Nat.le_refl _⟩) (fun H locs hP hS => ?_)
  refine lv_if_eq (tgt := 13) hx hb dX4_text_4 (by decide) (fun c3 => ?_) (fun c3 => ?_)
  · have hf := ite_t hf c3
    refine lv_iconst (v := (-1)) hx hb dX4_text_13 (by decide) ?_
    exact ret_i C0 hP hS (congrArg Prod.fst (Option.some.inj hf)) (congrArg Prod.snd (Option.some.inj hf)) dX4_text_14
  · have hf := ite_f hf c3
    refine lv_iload_n hx hb dX4_text_7 rfl (lv_at hl 2 rfl) ?_
    refine lv_bipush (v := 60) hx hb dX4_text_8 (by decide) ?_
    refine lv_icmp_le (tgt := 15) hx hb dX4_text_10 (by decide) (fun c4 => ?_) (fun c4 => ?_)
    · have hf := ite_t hf c4
      refine lv_iload_n hx hb dX4_text_15 rfl (lv_at hl 2 rfl) ?_
      refine lv_if_ge (tgt := 25) hx hb dX4_text_16 (by decide) (fun c5 => ?_) (fun c5 => ?_)
      · have hf := ite_t hf c5
        refine lv_aload_n hx hb dX4_text_25 rfl (lv_at hl 0 rfl) ?_
        refine x_get C0 hKC hP (by decide) (EM_0 K ad S) rfl in_X4_text_X4 7 (by decide) (List.mem_of_getElem? (i := 1) rfl) rfl dX4_text_26 ?_
        refine lv_iload_n hx hb dX4_text_29 rfl (lv_at hl 1 rfl) ?_
        refine lv_iload_n hx hb dX4_text_30 rfl (lv_at hl 2 rfl) ?_
        obtain ⟨g6, hf⟩ := gd_some hf
        refine x_iast C0 hKC hI (EM_loc K ad) hP hS (IM_4 K ad) (t0 := 0) rfl g6 dX4_text_31 (fun S7 eS7 H locs hP hS => ?_)
        have hf := nm_at eS7 hf
        refine lv_iconst (v := 0) hx hb dX4_text_32 (by decide) ?_
        refine lv_istore_n (lv' := [(3, .int 0), (0, .ref (ad 0)), (1, .int x1), (2, .int x2)]) hx hb dX4_text_33 rfl hl (by decide) rfl (fun ls hl => ?_)
        exact w4_text_b34 hI C0 FU S7 x1 x2 0 hf H locs ls hP hS (lv_sub hl [1, 2, 3, 0] rfl)
      · have hf := ite_f hf c5
        refine lv_aload_n hx hb dX4_text_19 rfl (lv_at hl 0 rfl) ?_
        refine lv_iconst (v := 5) hx hb dX4_text_20 (by decide) ?_
        obtain ⟨v9, S10, h8, hf⟩ := b2_some hf
        refine sys_i hS (sys_runV (As := [.int 5]) (rest := []) C0 KM_ok hKC hP hS (by decide) (EM_0 K ad S) rfl (m4_finds l D K ad hI S 5 h8) gX4_text_X4_finds rfl ⟨rfl, rfl⟩ hd_X4_finds ⟨Nat.le_of_ble_eq_true rfl, Nat.le_of_ble_eq_true rfl⟩ hl.1 rfl (Nat.le_of_ble_eq_true rfl) dX4_text_21 ⟨Nat.le_refl _, Nat.le_refl _⟩) (fun H locs hP hS => ?_)
        exact ret_i C0 hP hS (congrArg Prod.fst (Option.some.inj hf)) (congrArg Prod.snd (Option.some.inj hf)) dX4_text_24
    · have hf := ite_f hf c4
      refine lv_iconst (v := (-1)) hx hb dX4_text_13 (by decide) ?_
      exact ret_i C0 hP hS (congrArg Prod.fst (Option.some.inj hf)) (congrArg Prod.snd (Option.some.inj hf)) dX4_text_14
theorem m4_text (l : Launch) (D : va_G) (K : Nat → ClassId) (ad : Nat → Nat) (hI : INJ NM ad) (S : Mem) (x1 : Int32) (x2 : Int32) {r : Int32} {T : Mem} (hf : f4_text S x1 x2 = some (r, T)) : SysI l yX4_text wsX4_text rm4_text D NM ad (EM K ad) (KM D K) [.ref (ad 0), .int x1, .int x2] S r T :=
  met_of (own := RX4) (by decide) rfl rfl (Nat.le_of_ble_eq_true rfl) (fun _ _ s _ _ _ _ ls C0 _ hP hl => w4_text hI C0 S x1 x2 hf s.heap [] ls hP va_S.rf hl)
theorem in_X4_put_X4 : ∀ w ∈ wsX40, w ∈ wsX4_put := fun _ h => List.mem_cons_of_mem _ (List.mem_append_right _ h)
theorem hd_X4_put : yX4_put.cls = RX4 ∧ yX4_put.cls ≠ "java/lang/invoke/MethodHandle" ∧ yX4_put.cls ≠ "java/lang/invoke/VarHandle" ∧ (parseMethodDescriptor yX4_put.desc).map (fun d => d.parameters.length) = some 3 := by decide +kernel
abbrev rm4_put : Room := { frames := 2, cells := 0, slots := 0, locals := 45 }
set_option maxHeartbeats 4000000 in
set_option maxRecDepth 100000 in
theorem w4_put {p : Program} {l : Launch} {e : Env} {s : State} {m : MethodId} {args : Array Value} {below : List Frame} {meth : Method} {c : Code} {D : va_G} {K : Nat → ClassId} {ad : Nat → Nat} (hI : INJ NM ad) (C0 : Cx p s m args meth c RX4 wsX4_put cX4_put 5 (some .int) (KM D K)) {r : Int32} {T : Mem} : ∀ (S : Mem) (x1 : Int32) (x2 : Int32) (x3 : Int32), f4_put S x1 x2 x3 = some (r, T) → ∀ (H : Heap) (locs : List Loc) (ls : Array Slot), va_P D vwCl (wl NM ad (EM K ad S)) H → va_S (IW NM ad) s.heap H locs → lv_has ls 5 [(0, .ref (ad 0)), (1, .int x1), (2, .int x2), (3, .int x3)] → W p l e rm4_put s m args below meth c H locs 0 0 (MQ below (va_Qi (fun (x : Int32) (u : Mem) => x = r ∧ u = T) (fun u t => va_P D vwCl (wl NM ad (EM K ad u)) t.heap) (IW NM ad)) args s 0 0 (IW NM ad)) (F0 m 0 ls []) := by
  have hx := C0.1
  have hb := C0.2.1
  have hts := C0.2.2.2.2.1
  have hown := C0.2.2.2.1
  have hKC := C0.2.2.2.2.2.2.2
  intro S x1 x2 x3 hf H locs ls hP hS hl
  rw [f4_put] at hf
  refine lv_iload_n hx hb dX4_put_0 rfl (lv_at hl 1 rfl) ?_
  obtain ⟨v2, h1, hf⟩ := b1_some hf
  refine sys_i hS (sys_runS (As := [.int x1]) (rest := []) C0 KM_ok hP hS (m4_isText l D K ad hI S x1 h1) gX4_put_X4_isText rfl ⟨rfl, rfl⟩ hd_X4_isText ⟨Nat.le_of_ble_eq_true rfl, Nat.le_of_ble_eq_true rfl⟩ hl.1 rfl (Nat.le_of_ble_eq_true rfl) dX4_put_1 ⟨Nat.le_refl _, Nat.le_refl _⟩) (fun H locs hP hS => ?_)
  refine lv_if_ne (tgt := 9) hx hb dX4_put_4 (by decide) (fun c3 => ?_) (fun c3 => ?_)
  · have hf := ite_f hf c3
    refine lv_aload_n hx hb dX4_put_9 rfl (lv_at hl 0 rfl) ?_
    refine x_get C0 hKC hP (by decide) (EM_0 K ad S) rfl in_X4_put_X4 7 (by decide) (List.mem_of_getElem? (i := 1) rfl) rfl dX4_put_10 ?_
    refine lv_iload_n hx hb dX4_put_13 rfl (lv_at hl 1 rfl) ?_
    obtain ⟨g4, hf⟩ := gd_some hf
    refine x_iald C0 hKC hP (IM_4 K ad) (t0 := 0) rfl g4 dX4_put_14 ?_
    refine lv_if_ge (tgt := 24) hx hb dX4_put_15 (by decide) (fun c5 => ?_) (fun c5 => ?_)
    · have hf := ite_t hf c5
      refine lv_iload_n hx hb dX4_put_24 rfl (lv_at hl 2 rfl) ?_
      refine lv_i2l (v := (Int32.toInt64 x2)) hx hb dX4_put_25 rfl ?_
      refine lv_lconst (v := 0) hx hb dX4_put_26 (by decide) ?_
      refine lv_aload_n hx hb dX4_put_27 rfl (lv_at hl 0 rfl) ?_
      refine x_get C0 hKC hP (by decide) (EM_0 K ad S) rfl in_X4_put_X4 7 (by decide) (List.mem_of_getElem? (i := 1) rfl) rfl dX4_put_28 ?_
      refine lv_iload_n hx hb dX4_put_31 rfl (lv_at hl 1 rfl) ?_
      obtain ⟨g6, hf⟩ := gd_some hf
      refine x_iald C0 hKC hP (IM_4 K ad) (t0 := 0) rfl g6 dX4_put_32 ?_
      refine lv_iconst (v := 1) hx hb dX4_put_33 (by decide) ?_
      refine lv_isub hx hb dX4_put_34 ?_
      refine lv_i2l (v := (Int32.toInt64 ((gi S 4 (ix x1)) - 1))) hx hb dX4_put_35 rfl ?_
      obtain ⟨v8, h7, hf⟩ := b1_some hf
      refine sys_i hS (sys_runS (As := [.long (Int32.toInt64 x2), .long 0, .long (Int32.toInt64 ((gi S 4 (ix x1)) - 1))]) (rest := []) C0 KM_ok hP hS (m4_in l D K ad hI S (Int32.toInt64 x2) 0 (Int32.toInt64 ((gi S 4 (ix x1)) - 1)) h7) gX4_put_X4_in rfl ⟨rfl, rfl⟩ hd_X4_in ⟨Nat.le_of_ble_eq_true rfl, Nat.le_of_ble_eq_true rfl⟩ hl.1 rfl (Nat.le_of_ble_eq_true rfl) dX4_put_36 ⟨Nat.le_refl _, Nat.le_refl _⟩) (fun H locs hP hS => ?_)
      refine lv_if_ne (tgt := 48) hx hb dX4_put_39 (by decide) (fun c9 => ?_) (fun c9 => ?_)
      · have hf := ite_f hf c9
        refine lv_aload_n hx hb dX4_put_48 rfl (lv_at hl 0 rfl) ?_
        refine x_get C0 hKC hP (by decide) (EM_0 K ad S) rfl in_X4_put_X4 8 (by decide) (List.mem_of_getElem? (i := 2) rfl) rfl dX4_put_49 ?_
        refine lv_bipush (v := 60) hx hb dX4_put_52 (by decide) ?_
        refine lv_iload_n hx hb dX4_put_54 rfl (lv_at hl 1 rfl) ?_
        refine lv_imul hx hb dX4_put_55 ?_
        refine lv_iload_n hx hb dX4_put_56 rfl (lv_at hl 2 rfl) ?_
        refine lv_iadd hx hb dX4_put_57 ?_
        obtain ⟨g10, hf⟩ := gd_some hf
        refine x_iald C0 hKC hP (IM_5 K ad) (t0 := 0) rfl g10 dX4_put_58 ?_
        refine lv_topi (fun v11 ev11 => ?_)
        have hf := nm_at ev11 hf
        refine lv_istore (lv' := [(4, .int v11), (0, .ref (ad 0)), (1, .int x1), (2, .int x2), (3, .int x3)]) hx hb dX4_put_59 hl (by decide) rfl (fun ls hl => ?_)
        refine lv_aload_n hx hb dX4_put_61 rfl (lv_at hl 1 rfl) ?_
        refine x_get C0 hKC hP (by decide) (EM_0 K ad S) rfl in_X4_put_X4 8 (by decide) (List.mem_of_getElem? (i := 2) rfl) rfl dX4_put_62 ?_
        refine lv_bipush (v := 60) hx hb dX4_put_65 (by decide) ?_
        refine lv_iload_n hx hb dX4_put_67 rfl (lv_at hl 2 rfl) ?_
        refine lv_imul hx hb dX4_put_68 ?_
        refine lv_iload_n hx hb dX4_put_69 rfl (lv_at hl 3 rfl) ?_
        refine lv_iadd hx hb dX4_put_70 ?_
        refine lv_iload_n hx hb dX4_put_71 rfl (lv_at hl 4 rfl) ?_
        refine lv_i2b (v := (i2b x3)) hx hb dX4_put_72 rfl ?_
        obtain ⟨g12, hf⟩ := gd_some hf
        refine x_iast C0 hKC hI (EM_loc K ad) hP hS (IM_5 K ad) (t0 := 0) rfl g12 dX4_put_73 (fun S13 eS13 H locs hP hS => ?_)
        have hf := nm_at eS13 hf
        refine lv_iload hx hb dX4_put_74 (lv_at hl 0 rfl) ?_
        refine lv_sipush (v := 1000) hx hb dX4_put_76 (by decide) ?_
        refine lv_iadd hx hb dX4_put_79 ?_
        exact ret_i C0 hP hS (congrArg Prod.fst (Option.some.inj hf)) (congrArg Prod.snd (Option.some.inj hf)) dX4_put_80
      · have hf := ite_t hf c9
        refine lv_aload_n hx hb dX4_put_42 rfl (lv_at hl 0 rfl) ?_
        refine lv_iconst (v := 2) hx hb dX4_put_43 (by decide) ?_
        obtain ⟨v15, S16, h14, hf⟩ := b2_some hf
        refine sys_i hS (sys_runV (As := [.int 2]) (rest := []) C0 KM_ok hKC hP hS (by decide) (EM_0 K ad S) rfl (m4_finds l D K ad hI S 2 h14) gX4_put_X4_finds rfl ⟨rfl, rfl⟩ hd_X4_finds ⟨Nat.le_of_ble_eq_true rfl, Nat.le_of_ble_eq_true rfl⟩ hl.1 rfl (Nat.le_of_ble_eq_true rfl) dX4_put_44 ⟨Nat.le_refl _, Nat.le_refl _⟩) (fun H locs hP hS => ?_)
        exact ret_i C0 hP hS (congrArg Prod.fst (Option.some.inj hf)) (congrArg Prod.snd (Option.some.inj hf)) dX4_put_47
    · have hf := ite_f hf c5
      refine lv_aload_n hx hb dX4_put_18 rfl (lv_at hl 0 rfl) ?_
      refine lv_iconst (v := 1) hx hb dX4_put_19 (by decide) ?_
      obtain ⟨v18, S19, h17, hf⟩ := b2_some hf
      refine sys_i hS (sys_runV (As := [.int 1]) (rest := []) C0 KM_ok hKC hP hS (by decide) (EM_0 K ad S) rfl (m4_finds l D K ad hI S 1 h17) gX4_put_X4_finds rfl ⟨rfl, rfl⟩ hd_X4_finds ⟨Nat.le_of_ble_eq_true rfl, Nat.le_of_ble_eq_true rfl⟩ hl.1 rfl (Nat.le_of_ble_eq_true rfl) dX4_put_20 ⟨Nat.le_refl _, Nat.le_refl _⟩) (fun H locs hP hS => ?_)
      exact ret_i C0 hP hS (congrArg Prod.fst (Option.some.inj hf)) (congrArg Prod.snd (Option.some.inj hf)) dX4_put_23
  · have hf := ite_t hf c3
    refine lv_iconst (v := (-1)) hx hb dX4_put_7 (by decide) ?_
    exact ret_i C0 hP hS (congrArg Prod.fst (Option.some.inj hf)) (congrArg Prod.snd (Option.some.inj hf)) dX4_put_8
theorem m4_put (l : Launch) (D : va_G) (K : Nat → ClassId) (ad : Nat → Nat) (hI : INJ NM ad) (S : Mem) (x1 : Int32) (x2 : Int32) (x3 : Int32) {r : Int32} {T : Mem} (hf : f4_put S x1 x2 x3 = some (r, T)) : SysI l yX4_put wsX4_put rm4_put D NM ad (EM K ad) (KM D K) [.ref (ad 0), .int x1, .int x2, .int x3] S r T :=
  met_of (own := RX4) (by decide) rfl rfl (Nat.le_of_ble_eq_true rfl) (fun _ _ s _ _ _ _ ls C0 _ hP hl => w4_put hI C0 S x1 x2 x3 hf s.heap [] ls hP va_S.rf hl)
theorem hd_X4_kindBy : yX4_kindBy.cls ≠ "java/lang/invoke/MethodHandle" ∧ yX4_kindBy.cls ≠ "java/lang/invoke/VarHandle" ∧ (parseMethodDescriptor yX4_kindBy.desc).map (fun d => d.parameters.length) = some 1 := by decide +kernel
abbrev rm4_kindBy : Room := { frames := 0, cells := 0, slots := 0, locals := 0 }
set_option maxHeartbeats 4000000 in
set_option maxRecDepth 100000 in
theorem w4_kindBy {p : Program} {l : Launch} {e : Env} {s : State} {m : MethodId} {args : Array Value} {below : List Frame} {meth : Method} {c : Code} {D : va_G} {K : Nat → ClassId} {ad : Nat → Nat} (hI : INJ NM ad) (C0 : Cx p s m args meth c RX4 wsX4_kindBy cX4_kindBy 1 (some .int) (KM D K)) (S : Mem) {r : Int32} : ∀ (x0 : Int32), f4_kindBy x0 = some r → ∀ (H : Heap) (locs : List Loc) (ls : Array Slot), va_P D vwCl (wl NM ad (EM K ad S)) H → va_S (IW NM ad) s.heap H locs → lv_has ls 1 [(0, .int x0)] → W p l e rm4_kindBy s m args below meth c H locs 0 0 (MQ below (va_Qi (fun (x : Int32) (u : Mem) => x = r ∧ u = S) (fun u t => va_P D vwCl (wl NM ad (EM K ad u)) t.heap) (IW NM ad)) args s 0 0 (IW NM ad)) (F0 m 0 ls []) := by
  have hx := C0.1
  have hb := C0.2.1
  have hts := C0.2.2.2.2.1
  have hown := C0.2.2.2.1
  have hKC := C0.2.2.2.2.2.2.2
  intro x0 hf H locs ls hP hS hl
  rw [f4_kindBy] at hf
  refine lv_iload_n hx hb dX4_kindBy_0 rfl (lv_at hl 0 rfl) ?_
  refine lv_bipush (v := 104) hx hb dX4_kindBy_1 (by decide) ?_
  refine lv_icmp_ne (tgt := 10) hx hb dX4_kindBy_3 (by decide) (fun c1 => ?_) (fun c1 => ?_)
  · have hf := ite_f hf c1
    refine lv_iload_n hx hb dX4_kindBy_10 rfl (lv_at hl 0 rfl) ?_
    refine lv_bipush (v := 119) hx hb dX4_kindBy_11 (by decide) ?_
    refine lv_icmp_ne (tgt := 20) hx hb dX4_kindBy_13 (by decide) (fun c2 => ?_) (fun c2 => ?_)
    · have hf := ite_f hf c2
      refine lv_iload_n hx hb dX4_kindBy_20 rfl (lv_at hl 0 rfl) ?_
      refine lv_bipush (v := 103) hx hb dX4_kindBy_21 (by decide) ?_
      refine lv_icmp_ne (tgt := 30) hx hb dX4_kindBy_23 (by decide) (fun c3 => ?_) (fun c3 => ?_)
      · have hf := ite_f hf c3
        refine lv_iload_n hx hb dX4_kindBy_30 rfl (lv_at hl 0 rfl) ?_
        refine lv_bipush (v := 107) hx hb dX4_kindBy_31 (by decide) ?_
        refine lv_icmp_ne (tgt := 40) hx hb dX4_kindBy_33 (by decide) (fun c4 => ?_) (fun c4 => ?_)
        · have hf := ite_f hf c4
          refine lv_iload_n hx hb dX4_kindBy_40 rfl (lv_at hl 0 rfl) ?_
          refine lv_bipush (v := 111) hx hb dX4_kindBy_41 (by decide) ?_
          refine lv_icmp_ne (tgt := 50) hx hb dX4_kindBy_43 (by decide) (fun c5 => ?_) (fun c5 => ?_)
          · have hf := ite_f hf c5
            refine lv_iload_n hx hb dX4_kindBy_50 rfl (lv_at hl 0 rfl) ?_
            refine lv_bipush (v := 99) hx hb dX4_kindBy_51 (by decide) ?_
            refine lv_icmp_ne (tgt := 60) hx hb dX4_kindBy_53 (by decide) (fun c6 => ?_) (fun c6 => ?_)
            · have hf := ite_f hf c6
              refine lv_iconst (v := (-1)) hx hb dX4_kindBy_60 (by decide) ?_
              exact ret_i C0 hP hS (Option.some.inj hf) rfl dX4_kindBy_61
            · have hf := ite_t hf c6
              refine lv_iconst (v := 5) hx hb dX4_kindBy_56 (by decide) ?_
              refine lv_goto (tgt := 61) hx hb dX4_kindBy_57 (by decide) ?_
              exact ret_i C0 hP hS (Option.some.inj hf) rfl dX4_kindBy_61
          · have hf := ite_t hf c5
            refine lv_iconst (v := 4) hx hb dX4_kindBy_46 (by decide) ?_
            refine lv_goto (tgt := 61) hx hb dX4_kindBy_47 (by decide) ?_
            exact ret_i C0 hP hS (Option.some.inj hf) rfl dX4_kindBy_61
        · have hf := ite_t hf c4
          refine lv_iconst (v := 3) hx hb dX4_kindBy_36 (by decide) ?_
          refine lv_goto (tgt := 61) hx hb dX4_kindBy_37 (by decide) ?_
          exact ret_i C0 hP hS (Option.some.inj hf) rfl dX4_kindBy_61
      · have hf := ite_t hf c3
        refine lv_iconst (v := 2) hx hb dX4_kindBy_26 (by decide) ?_
        refine lv_goto (tgt := 61) hx hb dX4_kindBy_27 (by decide) ?_
        exact ret_i C0 hP hS (Option.some.inj hf) rfl dX4_kindBy_61
    · have hf := ite_t hf c2
      refine lv_iconst (v := 1) hx hb dX4_kindBy_16 (by decide) ?_
      refine lv_goto (tgt := 61) hx hb dX4_kindBy_17 (by decide) ?_
      exact ret_i C0 hP hS (Option.some.inj hf) rfl dX4_kindBy_61
  · have hf := ite_t hf c1
    refine lv_iconst (v := 0) hx hb dX4_kindBy_6 (by decide) ?_
    refine lv_goto (tgt := 61) hx hb dX4_kindBy_7 (by decide) ?_
    exact ret_i C0 hP hS (Option.some.inj hf) rfl dX4_kindBy_61
theorem m4_kindBy (l : Launch) (D : va_G) (K : Nat → ClassId) (ad : Nat → Nat) (hI : INJ NM ad) (S : Mem) (x0 : Int32) {r : Int32} (hf : f4_kindBy x0 = some r) : SysI l yX4_kindBy wsX4_kindBy rm4_kindBy D NM ad (EM K ad) (KM D K) [.int x0] S r S :=
  met_of (own := RX4) (by decide) rfl rfl (Nat.le_of_ble_eq_true rfl) (fun _ _ s _ _ _ _ ls C0 _ hP hl => w4_kindBy hI C0 S x0 hf s.heap [] ls hP va_S.rf hl)
theorem in_X4_reads_X4 : ∀ w ∈ wsX40, w ∈ wsX4_reads := fun _ h => List.mem_cons_of_mem _ (List.mem_append_right _ h)
theorem hd_X4_reads : yX4_reads.cls = RX4 ∧ yX4_reads.cls ≠ "java/lang/invoke/MethodHandle" ∧ yX4_reads.cls ≠ "java/lang/invoke/VarHandle" ∧ (parseMethodDescriptor yX4_reads.desc).map (fun d => d.parameters.length) = some 1 := by decide +kernel
abbrev rm4_reads : Room := { frames := 1, cells := 0, slots := 0, locals := 25 }
set_option maxHeartbeats 4000000 in
set_option maxRecDepth 100000 in
theorem w4_reads_b226 {p : Program} {l : Launch} {e : Env} {s : State} {m : MethodId} {args : Array Value} {below : List Frame} {meth : Method} {c : Code} {D : va_G} {K : Nat → ClassId} {ad : Nat → Nat} (hI : INJ NM ad) (C0 : Cx p s m args meth c RX4 wsX4_reads cX4_reads 9 (some .int) (KM D K)) {r : Int32} {T : Mem} (k17 : Mem → Int32 → Int32 → Int32 → Int32 → Option (Int32 × Mem)) (hk17 : ∀ (S : Mem) (x1 : Int32) (x2 : Int32) (x3 : Int32) (x4 : Int32), k17 S x1 x2 x3 x4 = some (r, T) → ∀ (H : Heap) (locs : List Loc) (ls : Array Slot), va_P D vwCl (wl NM ad (EM K ad S)) H → va_S (IW NM ad) s.heap H locs → lv_has ls 9 [(0, .ref (ad 0)), (1, .int x1), (2, .int x2), (3, .int x3), (4, .int x4)] → W p l e rm4_reads s m args below meth c H locs 0 0 (MQ below (va_Qi (fun (x : Int32) (u : Mem) => x = r ∧ u = T) (fun u t => va_P D vwCl (wl NM ad (EM K ad u)) t.heap) (IW NM ad)) args s 0 0 (IW NM ad)) (F0 m 17 ls [])) : ∀ (S : Mem) (x1 : Int32) (x2 : Int32) (x3 : Int32) (x4 : Int32), f4_reads_b226 k17 S x1 x2 x3 x4 = some (r, T) → ∀ (H : Heap) (locs : List Loc) (ls : Array Slot), va_P D vwCl (wl NM ad (EM K ad S)) H → va_S (IW NM ad) s.heap H locs → lv_has ls 9 [(0, .ref (ad 0)), (1, .int x1), (2, .int x2), (3, .int x3), (4, .int x4)] → W p l e rm4_reads s m args below meth c H locs 0 0 (MQ below (va_Qi (fun (x : Int32) (u : Mem) => x = r ∧ u = T) (fun u t => va_P D vwCl (wl NM ad (EM K ad u)) t.heap) (IW NM ad)) args s 0 0 (IW NM ad)) (F0 m 226 ls []) := by
  have hx := C0.1
  have hb := C0.2.1
  have hts := C0.2.2.2.2.1
  have hown := C0.2.2.2.1
  have hKC := C0.2.2.2.2.2.2.2
  intro S x1 x2 x3 x4 hf H locs ls hP hS hl
  rw [f4_reads_b226] at hf
  obtain ⟨v1, ev1⟩ : ∃ y : Int32, y = x3 + 1 := ⟨_, rfl⟩
  have hf := nm_at ev1 hf
  refine lv_iinc (v := v1) (lv' := [(3, .int v1), (0, .ref (ad 0)), (1, .int x1), (2, .int x2), (4, .int x4)]) hx hb dX4_reads_226 hl (k := 3) rfl (by rw [ev1]; rfl) (by decide) rfl (fun ls hl => ?_)
  refine lv_goto (tgt := 17) hx hb dX4_reads_229 (by decide) ?_
  exact hk17 S x1 x2 v1 x4 hf H locs ls hP hS (lv_sub hl [1, 2, 3, 0, 4] rfl)
set_option maxHeartbeats 4000000 in
set_option maxRecDepth 100000 in
theorem w4_reads_b222 {p : Program} {l : Launch} {e : Env} {s : State} {m : MethodId} {args : Array Value} {below : List Frame} {meth : Method} {c : Code} {D : va_G} {K : Nat → ClassId} {ad : Nat → Nat} (hI : INJ NM ad) (C0 : Cx p s m args meth c RX4 wsX4_reads cX4_reads 9 (some .int) (KM D K)) {r : Int32} {T : Mem} (k17 : Mem → Int32 → Int32 → Int32 → Int32 → Option (Int32 × Mem)) (hk17 : ∀ (S : Mem) (x1 : Int32) (x2 : Int32) (x3 : Int32) (x4 : Int32), k17 S x1 x2 x3 x4 = some (r, T) → ∀ (H : Heap) (locs : List Loc) (ls : Array Slot), va_P D vwCl (wl NM ad (EM K ad S)) H → va_S (IW NM ad) s.heap H locs → lv_has ls 9 [(0, .ref (ad 0)), (1, .int x1), (2, .int x2), (3, .int x3), (4, .int x4)] → W p l e rm4_reads s m args below meth c H locs 0 0 (MQ below (va_Qi (fun (x : Int32) (u : Mem) => x = r ∧ u = T) (fun u t => va_P D vwCl (wl NM ad (EM K ad u)) t.heap) (IW NM ad)) args s 0 0 (IW NM ad)) (F0 m 17 ls [])) : ∀ (S : Mem) (x1 : Int32) (x2 : Int32) (x3 : Int32) (x4 : Int32) (t1 : Int32) (t2 : Int32), f4_reads_b222 k17 S x1 x2 x3 x4 t1 t2 = some (r, T) → ∀ (H : Heap) (locs : List Loc) (ls : Array Slot), va_P D vwCl (wl NM ad (EM K ad S)) H → va_S (IW NM ad) s.heap H locs → lv_has ls 9 [(0, .ref (ad 0)), (1, .int x1), (2, .int x2), (3, .int x3), (4, .int x4)] → W p l e rm4_reads s m args below meth c H locs 0 0 (MQ below (va_Qi (fun (x : Int32) (u : Mem) => x = r ∧ u = T) (fun u t => va_P D vwCl (wl NM ad (EM K ad u)) t.heap) (IW NM ad)) args s 0 0 (IW NM ad)) (F0 m 222 ls [.int t2, .int t1, .ref (ad 0)]) := by
  have hx := C0.1
  have hb := C0.2.1
  have hts := C0.2.2.2.2.1
  have hown := C0.2.2.2.1
  have hKC := C0.2.2.2.2.2.2.2
  intro S x1 x2 x3 x4 t1 t2 hf H locs ls hP hS hl
  rw [f4_reads_b222] at hf
  refine lv_iadd hx hb dX4_reads_222 ?_
  refine x_puti C0 hKC hI (EM_loc K ad) hP hS (by decide) (EM_0 K ad S) rfl tyX4 tyX4_ok nmX4 in_X4_reads_X4 11 (by decide) (List.mem_of_getElem? (i := 2) rfl) rfl (tyX4_ok 11 (by decide)) (Nat.le_of_ble_eq_true rfl) (EM_p11 K ad S _) dX4_reads_223 (fun S1 eS1 H locs hP hS => ?_)
  have hf := nm_at eS1 hf
  exact w4_reads_b226 hI C0 k17 hk17 S1 x1 x2 x3 x4 hf H locs ls hP hS (lv_sub hl [0, 1, 2, 3, 4] rfl)
set_option maxHeartbeats 4000000 in
set_option maxRecDepth 100000 in
theorem w4_reads_b205 {p : Program} {l : Launch} {e : Env} {s : State} {m : MethodId} {args : Array Value} {below : List Frame} {meth : Method} {c : Code} {D : va_G} {K : Nat → ClassId} {ad : Nat → Nat} (hI : INJ NM ad) (C0 : Cx p s m args meth c RX4 wsX4_reads cX4_reads 9 (some .int) (KM D K)) {r : Int32} {T : Mem} (k17 : Mem → Int32 → Int32 → Int32 → Int32 → Option (Int32 × Mem)) (hk17 : ∀ (S : Mem) (x1 : Int32) (x2 : Int32) (x3 : Int32) (x4 : Int32), k17 S x1 x2 x3 x4 = some (r, T) → ∀ (H : Heap) (locs : List Loc) (ls : Array Slot), va_P D vwCl (wl NM ad (EM K ad S)) H → va_S (IW NM ad) s.heap H locs → lv_has ls 9 [(0, .ref (ad 0)), (1, .int x1), (2, .int x2), (3, .int x3), (4, .int x4)] → W p l e rm4_reads s m args below meth c H locs 0 0 (MQ below (va_Qi (fun (x : Int32) (u : Mem) => x = r ∧ u = T) (fun u t => va_P D vwCl (wl NM ad (EM K ad u)) t.heap) (IW NM ad)) args s 0 0 (IW NM ad)) (F0 m 17 ls [])) : ∀ (S : Mem) (x1 : Int32) (x2 : Int32) (x3 : Int32) (t0 : Int32), f4_reads_b205 k17 S x1 x2 x3 t0 = some (r, T) → ∀ (H : Heap) (locs : List Loc) (ls : Array Slot), va_P D vwCl (wl NM ad (EM K ad S)) H → va_S (IW NM ad) s.heap H locs → lv_has ls 9 [(0, .ref (ad 0)), (1, .int x1), (2, .int x2), (3, .int x3)] → W p l e rm4_reads s m args below meth c H locs 0 0 (MQ below (va_Qi (fun (x : Int32) (u : Mem) => x = r ∧ u = T) (fun u t => va_P D vwCl (wl NM ad (EM K ad u)) t.heap) (IW NM ad)) args s 0 0 (IW NM ad)) (F0 m 205 ls [.int t0]) := by
  have hx := C0.1
  have hb := C0.2.1
  have hts := C0.2.2.2.2.1
  have hown := C0.2.2.2.1
  have hKC := C0.2.2.2.2.2.2.2
  intro S x1 x2 x3 t0 hf H locs ls hP hS hl
  rw [f4_reads_b205] at hf
  refine lv_istore (lv' := [(4, .int t0), (0, .ref (ad 0)), (1, .int x1), (2, .int x2), (3, .int x3)]) hx hb dX4_reads_205 hl (by decide) rfl (fun ls hl => ?_)
  refine lv_aload_n hx hb dX4_reads_207 rfl (lv_at hl 1 rfl) ?_
  refine lv_dup hx hb dX4_reads_208 rfl ?_
  refine x_get C0 hKC hP (by decide) (EM_0 K ad S) rfl in_X4_reads_X4 11 (by decide) (List.mem_of_getElem? (i := 2) rfl) rfl dX4_reads_209 ?_
  refine lv_iload hx hb dX4_reads_212 (lv_at hl 0 rfl) ?_
  refine lv_if_ne (tgt := 221) hx hb dX4_reads_214 (by decide) (fun c1 => ?_) (fun c1 => ?_)
  · have hf := ite_f hf c1
    refine lv_iconst (v := 0) hx hb dX4_reads_221 (by decide) ?_
    exact w4_reads_b222 hI C0 k17 hk17 S x1 x2 x3 t0 (gi S 0 11) 0 hf H locs ls hP hS (lv_sub hl [1, 2, 3, 4, 0] rfl)
  · have hf := ite_t hf c1
    refine lv_iconst (v := 1) hx hb dX4_reads_217 (by decide) ?_
    refine lv_goto (tgt := 222) hx hb dX4_reads_218 (by decide) ?_
    exact w4_reads_b222 hI C0 k17 hk17 S x1 x2 x3 t0 (gi S 0 11) 1 hf H locs ls hP hS (lv_sub hl [1, 2, 3, 4, 0] rfl)
set_option maxHeartbeats 4000000 in
set_option maxRecDepth 100000 in
theorem w4_reads_b160 {p : Program} {l : Launch} {e : Env} {s : State} {m : MethodId} {args : Array Value} {below : List Frame} {meth : Method} {c : Code} {D : va_G} {K : Nat → ClassId} {ad : Nat → Nat} (hI : INJ NM ad) (C0 : Cx p s m args meth c RX4 wsX4_reads cX4_reads 9 (some .int) (KM D K)) {r : Int32} {T : Mem} (k17 : Mem → Int32 → Int32 → Int32 → Int32 → Option (Int32 × Mem)) (hk17 : ∀ (S : Mem) (x1 : Int32) (x2 : Int32) (x3 : Int32) (x4 : Int32), k17 S x1 x2 x3 x4 = some (r, T) → ∀ (H : Heap) (locs : List Loc) (ls : Array Slot), va_P D vwCl (wl NM ad (EM K ad S)) H → va_S (IW NM ad) s.heap H locs → lv_has ls 9 [(0, .ref (ad 0)), (1, .int x1), (2, .int x2), (3, .int x3), (4, .int x4)] → W p l e rm4_reads s m args below meth c H locs 0 0 (MQ below (va_Qi (fun (x : Int32) (u : Mem) => x = r ∧ u = T) (fun u t => va_P D vwCl (wl NM ad (EM K ad u)) t.heap) (IW NM ad)) args s 0 0 (IW NM ad)) (F0 m 17 ls [])) : ∀ (S : Mem) (x1 : Int32) (x2 : Int32) (x3 : Int32) (x4 : Int32) (x5 : Int32) (x6 : Int32) (t0 : Int32), f4_reads_b160 k17 S x1 x2 x3 x4 x5 x6 t0 = some (r, T) → ∀ (H : Heap) (locs : List Loc) (ls : Array Slot), va_P D vwCl (wl NM ad (EM K ad S)) H → va_S (IW NM ad) s.heap H locs → lv_has ls 9 [(0, .ref (ad 0)), (1, .int x1), (2, .int x2), (3, .int x3), (4, .int x4), (5, .int x5), (6, .int x6)] → W p l e rm4_reads s m args below meth c H locs 0 0 (MQ below (va_Qi (fun (x : Int32) (u : Mem) => x = r ∧ u = T) (fun u t => va_P D vwCl (wl NM ad (EM K ad u)) t.heap) (IW NM ad)) args s 0 0 (IW NM ad)) (F0 m 160 ls [.int t0]) := by
  have hx := C0.1
  have hb := C0.2.1
  have hts := C0.2.2.2.2.1
  have hown := C0.2.2.2.1
  have hKC := C0.2.2.2.2.2.2.2
  intro S x1 x2 x3 x4 x5 x6 t0 hf H locs ls hP hS hl
  rw [f4_reads_b160] at hf
  refine lv_istore (lv' := [(8, .int t0), (0, .ref (ad 0)), (1, .int x1), (2, .int x2), (3, .int x3), (4, .int x4), (5, .int x5), (6, .int x6)]) hx hb dX4_reads_160 hl (by decide) rfl (fun ls hl => ?_)
  refine lv_aload_n hx hb dX4_reads_162 rfl (lv_at hl 1 rfl) ?_
  refine x_get C0 hKC hP (by decide) (EM_0 K ad S) rfl in_X4_reads_X4 10 (by decide) (List.mem_of_getElem? (i := 6) rfl) rfl dX4_reads_163 ?_
  refine lv_iload hx hb dX4_reads_166 (lv_at hl 7 rfl) ?_
  refine lv_iload hx hb dX4_reads_168 (lv_at hl 0 rfl) ?_
  refine lv_iadd hx hb dX4_reads_170 ?_
  refine lv_bipush (v := 10) hx hb dX4_reads_171 (by decide) ?_
  refine lv_aload_n hx hb dX4_reads_173 rfl (lv_at hl 1 rfl) ?_
  refine x_get C0 hKC hP (by decide) (EM_0 K ad S) rfl in_X4_reads_X4 10 (by decide) (List.mem_of_getElem? (i := 6) rfl) rfl dX4_reads_174 ?_
  refine lv_iload hx hb dX4_reads_177 (lv_at hl 7 rfl) ?_
  refine lv_iload hx hb dX4_reads_179 (lv_at hl 0 rfl) ?_
  refine lv_iadd hx hb dX4_reads_181 ?_
  obtain ⟨g1, hf⟩ := gd_some hf
  refine x_iald C0 hKC hP (IM_7 K ad) (t0 := 0) rfl g1 dX4_reads_182 ?_
  refine lv_imul hx hb dX4_reads_183 ?_
  refine lv_iload hx hb dX4_reads_184 (lv_at hl 6 rfl) ?_
  refine lv_iadd hx hb dX4_reads_186 ?_
  refine lv_bipush (v := 48) hx hb dX4_reads_187 (by decide) ?_
  refine lv_isub hx hb dX4_reads_189 ?_
  obtain ⟨g2, hf⟩ := gd_some hf
  refine x_iast C0 hKC hI (EM_loc K ad) hP hS (IM_7 K ad) (t0 := 0) rfl g2 dX4_reads_190 (fun S3 eS3 H locs hP hS => ?_)
  have hf := nm_at eS3 hf
  refine lv_iload hx hb dX4_reads_191 (lv_at hl 5 rfl) ?_
  refine lv_iconst (v := 4) hx hb dX4_reads_193 (by decide) ?_
  refine lv_icmp_ne (tgt := 201) hx hb dX4_reads_194 (by decide) (fun c4 => ?_) (fun c4 => ?_)
  · have hf := ite_f hf c4
    refine lv_iload hx hb dX4_reads_201 (lv_at hl 5 rfl) ?_
    refine lv_iconst (v := 1) hx hb dX4_reads_203 (by decide) ?_
    refine lv_iadd hx hb dX4_reads_204 ?_
    exact w4_reads_b205 hI C0 k17 hk17 S3 x1 x2 x3 (x4 + 1) hf H locs ls hP hS (lv_sub hl [1, 2, 3, 4] rfl)
  · have hf := ite_t hf c4
    refine lv_iconst (v := 0) hx hb dX4_reads_197 (by decide) ?_
    refine lv_goto (tgt := 205) hx hb dX4_reads_198 (by decide) ?_
    exact w4_reads_b205 hI C0 k17 hk17 S3 x1 x2 x3 0 hf H locs ls hP hS (lv_sub hl [1, 2, 3, 4] rfl)
set_option maxHeartbeats 4000000 in
set_option maxRecDepth 100000 in
theorem w4_reads_b136 {p : Program} {l : Launch} {e : Env} {s : State} {m : MethodId} {args : Array Value} {below : List Frame} {meth : Method} {c : Code} {D : va_G} {K : Nat → ClassId} {ad : Nat → Nat} (hI : INJ NM ad) (C0 : Cx p s m args meth c RX4 wsX4_reads cX4_reads 9 (some .int) (KM D K)) {r : Int32} {T : Mem} (k17 : Mem → Int32 → Int32 → Int32 → Int32 → Option (Int32 × Mem)) (hk17 : ∀ (S : Mem) (x1 : Int32) (x2 : Int32) (x3 : Int32) (x4 : Int32), k17 S x1 x2 x3 x4 = some (r, T) → ∀ (H : Heap) (locs : List Loc) (ls : Array Slot), va_P D vwCl (wl NM ad (EM K ad S)) H → va_S (IW NM ad) s.heap H locs → lv_has ls 9 [(0, .ref (ad 0)), (1, .int x1), (2, .int x2), (3, .int x3), (4, .int x4)] → W p l e rm4_reads s m args below meth c H locs 0 0 (MQ below (va_Qi (fun (x : Int32) (u : Mem) => x = r ∧ u = T) (fun u t => va_P D vwCl (wl NM ad (EM K ad u)) t.heap) (IW NM ad)) args s 0 0 (IW NM ad)) (F0 m 17 ls [])) : ∀ (S : Mem) (x1 : Int32) (x2 : Int32) (x3 : Int32) (x4 : Int32) (x5 : Int32) (x6 : Int32) (x7 : Int32), f4_reads_b136 k17 S x1 x2 x3 x4 x5 x6 x7 = some (r, T) → ∀ (H : Heap) (locs : List Loc) (ls : Array Slot), va_P D vwCl (wl NM ad (EM K ad S)) H → va_S (IW NM ad) s.heap H locs → lv_has ls 9 [(0, .ref (ad 0)), (1, .int x1), (2, .int x2), (3, .int x3), (4, .int x4), (5, .int x5), (6, .int x6), (7, .int x7)] → W p l e rm4_reads s m args below meth c H locs 0 0 (MQ below (va_Qi (fun (x : Int32) (u : Mem) => x = r ∧ u = T) (fun u t => va_P D vwCl (wl NM ad (EM K ad u)) t.heap) (IW NM ad)) args s 0 0 (IW NM ad)) (F0 m 136 ls []) := by
  have hx := C0.1
  have hb := C0.2.1
  have hts := C0.2.2.2.2.1
  have hown := C0.2.2.2.1
  have hKC := C0.2.2.2.2.2.2.2
  intro S x1 x2 x3 x4 x5 x6 x7 hf H locs ls hP hS hl
  rw [f4_reads_b136] at hf
  refine lv_iload hx hb dX4_reads_136 (lv_at hl 4 rfl) ?_
  refine lv_if_le (tgt := 226) hx hb dX4_reads_138 (by decide) (fun c1 => ?_) (fun c1 => ?_)
  · have hf := ite_t hf c1
    exact w4_reads_b226 hI C0 k17 hk17 S x1 x2 x3 x4 hf H locs ls hP hS (lv_sub hl [0, 1, 2, 3, 4] rfl)
  · have hf := ite_f hf c1
    refine lv_iload hx hb dX4_reads_141 (lv_at hl 7 rfl) ?_
    refine lv_if_ne (tgt := 148) hx hb dX4_reads_143 (by decide) (fun c2 => ?_) (fun c2 => ?_)
    · have hf := ite_f hf c2
      refine lv_iload hx hb dX4_reads_148 (lv_at hl 4 rfl) ?_
      refine lv_iconst (v := 3) hx hb dX4_reads_150 (by decide) ?_
      refine lv_icmp_ge (tgt := 159) hx hb dX4_reads_151 (by decide) (fun c3 => ?_) (fun c3 => ?_)
      · have hf := ite_t hf c3
        refine lv_iconst (v := 3) hx hb dX4_reads_159 (by decide) ?_
        exact w4_reads_b160 hI C0 k17 hk17 S x1 x2 x3 x4 x5 x6 3 hf H locs ls hP hS (lv_sub hl [0, 1, 2, 3, 4, 5, 6] rfl)
      · have hf := ite_f hf c3
        refine lv_iload hx hb dX4_reads_154 (lv_at hl 4 rfl) ?_
        refine lv_goto (tgt := 160) hx hb dX4_reads_156 (by decide) ?_
        exact w4_reads_b160 hI C0 k17 hk17 S x1 x2 x3 x4 x5 x6 x4 hf H locs ls hP hS (lv_sub hl [0, 1, 2, 3, 4, 5, 6] rfl)
    · have hf := ite_t hf c2
      refine lv_iload_n hx hb dX4_reads_146 rfl (lv_at hl 3 rfl) ?_
      exact ret_i C0 hP hS (congrArg Prod.fst (Option.some.inj hf)) (congrArg Prod.snd (Option.some.inj hf)) dX4_reads_147
set_option maxHeartbeats 4000000 in
set_option maxRecDepth 100000 in
theorem w4_reads_b17 {p : Program} {l : Launch} {e : Env} {s : State} {m : MethodId} {args : Array Value} {below : List Frame} {meth : Method} {c : Code} {D : va_G} {K : Nat → ClassId} {ad : Nat → Nat} (hI : INJ NM ad) (C0 : Cx p s m args meth c RX4 wsX4_reads cX4_reads 9 (some .int) (KM D K)) {r : Int32} {T : Mem} : ∀ (n : Nat), ∀ (S : Mem) (x1 : Int32) (x2 : Int32) (x3 : Int32) (x4 : Int32), f4_reads_b17 n S x1 x2 x3 x4 = some (r, T) → ∀ (H : Heap) (locs : List Loc) (ls : Array Slot), va_P D vwCl (wl NM ad (EM K ad S)) H → va_S (IW NM ad) s.heap H locs → lv_has ls 9 [(0, .ref (ad 0)), (1, .int x1), (2, .int x2), (3, .int x3), (4, .int x4)] → W p l e rm4_reads s m args below meth c H locs 0 0 (MQ below (va_Qi (fun (x : Int32) (u : Mem) => x = r ∧ u = T) (fun u t => va_P D vwCl (wl NM ad (EM K ad u)) t.heap) (IW NM ad)) args s 0 0 (IW NM ad)) (F0 m 17 ls []) := by
  have hx := C0.1
  have hb := C0.2.1
  have hts := C0.2.2.2.2.1
  have hown := C0.2.2.2.1
  have hKC := C0.2.2.2.2.2.2.2
  intro n
  induction n with
  | zero =>
    intro S x1 x2 x3 x4 hf
    rw [f4_reads_b17] at hf
    cases hf
  | succ n ih =>
    intro S x1 x2 x3 x4 hf H locs ls hP hS hl
    rw [f4_reads_b17] at hf
    refine lv_iload_n hx hb dX4_reads_17 rfl (lv_at hl 3 rfl) ?_
    refine lv_iload_n hx hb dX4_reads_18 rfl (lv_at hl 2 rfl) ?_
    refine lv_icmp_ge (tgt := 232) hx hb dX4_reads_19 (by decide) (fun c1 => ?_) (fun c1 => ?_)
    · have hf := ite_t hf c1
      refine lv_iload hx hb dX4_reads_232 (lv_at hl 4 rfl) ?_
      refine lv_if_gt (tgt := 245) hx hb dX4_reads_234 (by decide) (fun c2 => ?_) (fun c2 => ?_)
      · have hf := ite_t hf c2
        refine lv_iload_n hx hb dX4_reads_245 rfl (lv_at hl 2 rfl) ?_
        refine lv_goto (tgt := 250) hx hb dX4_reads_246 (by decide) ?_
        exact ret_i C0 hP hS (congrArg Prod.fst (Option.some.inj hf)) (congrArg Prod.snd (Option.some.inj hf)) dX4_reads_250
      · have hf := ite_f hf c2
        refine lv_aload_n hx hb dX4_reads_237 rfl (lv_at hl 0 rfl) ?_
        refine x_get C0 hKC hP (by decide) (EM_0 K ad S) rfl in_X4_reads_X4 11 (by decide) (List.mem_of_getElem? (i := 2) rfl) rfl dX4_reads_238 ?_
        refine lv_iconst (v := 2) hx hb dX4_reads_241 (by decide) ?_
        refine lv_icmp_ge (tgt := 249) hx hb dX4_reads_242 (by decide) (fun c3 => ?_) (fun c3 => ?_)
        · have hf := ite_t hf c3
          refine lv_iconst (v := (-1)) hx hb dX4_reads_249 (by decide) ?_
          exact ret_i C0 hP hS (congrArg Prod.fst (Option.some.inj hf)) (congrArg Prod.snd (Option.some.inj hf)) dX4_reads_250
        · have hf := ite_f hf c3
          refine lv_iload_n hx hb dX4_reads_245 rfl (lv_at hl 2 rfl) ?_
          refine lv_goto (tgt := 250) hx hb dX4_reads_246 (by decide) ?_
          exact ret_i C0 hP hS (congrArg Prod.fst (Option.some.inj hf)) (congrArg Prod.snd (Option.some.inj hf)) dX4_reads_250
    · have hf := ite_f hf c1
      refine lv_aload_n hx hb dX4_reads_22 rfl (lv_at hl 0 rfl) ?_
      refine x_get C0 hKC hP (by decide) (EM_0 K ad S) rfl in_X4_reads_X4 8 (by decide) (List.mem_of_getElem? (i := 3) rfl) rfl dX4_reads_23 ?_
      refine lv_bipush (v := 60) hx hb dX4_reads_26 (by decide) ?_
      refine lv_iload_n hx hb dX4_reads_28 rfl (lv_at hl 1 rfl) ?_
      refine lv_imul hx hb dX4_reads_29 ?_
      refine lv_iload_n hx hb dX4_reads_30 rfl (lv_at hl 3 rfl) ?_
      refine lv_iadd hx hb dX4_reads_31 ?_
      obtain ⟨g4, hf⟩ := gd_some hf
      refine x_iald C0 hKC hP (IM_5 K ad) (t0 := 0) rfl g4 dX4_reads_32 ?_
      refine lv_topi (fun v5 ev5 => ?_)
      have hf := nm_at ev5 hf
      refine lv_istore (lv' := [(5, .int v5), (0, .ref (ad 0)), (1, .int x1), (2, .int x2), (3, .int x3), (4, .int x4)]) hx hb dX4_reads_33 hl (by decide) rfl (fun ls hl => ?_)
      refine lv_iconst (v := 4) hx hb dX4_reads_35 (by decide) ?_
      refine lv_aload_n hx hb dX4_reads_36 rfl (lv_at hl 1 rfl) ?_
      refine x_get C0 hKC hP (by decide) (EM_0 K ad S) rfl in_X4_reads_X4 11 (by decide) (List.mem_of_getElem? (i := 2) rfl) rfl dX4_reads_37 ?_
      refine lv_imul hx hb dX4_reads_40 ?_
      refine lv_topi (fun v6 ev6 => ?_)
      have hf := nm_at ev6 hf
      refine lv_istore (lv' := [(6, .int v6), (5, .int v5), (0, .ref (ad 0)), (1, .int x1), (2, .int x2), (3, .int x3), (4, .int x4)]) hx hb dX4_reads_41 hl (by decide) rfl (fun ls hl => ?_)
      refine lv_iload hx hb dX4_reads_43 (lv_at hl 1 rfl) ?_
      refine lv_i2l (v := (Int32.toInt64 v5)) hx hb dX4_reads_45 rfl ?_
      refine lv_ldc2 (v := 48) hx hb hown (hts _ (List.mem_of_getElem? (i := 4) rfl)) dX4_reads_46 ?_
      refine lv_ldc2 (v := 57) hx hb hown (hts _ (List.mem_of_getElem? (i := 5) rfl)) dX4_reads_49 ?_
      obtain ⟨v8, h7, hf⟩ := b1_some hf
      refine sys_i hS (sys_runS (As := [.long (Int32.toInt64 v5), .long 48, .long 57]) (rest := []) C0 KM_ok hP hS (m4_in l D K ad hI S (Int32.toInt64 v5) 48 57 h7) gX4_reads_X4_in rfl ⟨rfl, rfl⟩ hd_X4_in ⟨Nat.le_of_ble_eq_true rfl, Nat.le_of_ble_eq_true rfl⟩ hl.1 rfl (Nat.le_of_ble_eq_true rfl) dX4_reads_52 ⟨Nat.le_refl _, Nat.le_refl _⟩) (fun H locs hP hS => ?_)
      refine lv_istore (lv' := [(7, .int v8), (6, .int v6), (5, .int v5), (0, .ref (ad 0)), (1, .int x1), (2, .int x2), (3, .int x3), (4, .int x4)]) hx hb dX4_reads_55 hl (by decide) rfl (fun ls hl => ?_)
      refine lv_iload hx hb dX4_reads_57 (lv_at hl 7 rfl) ?_
      refine lv_if_ne (tgt := 136) hx hb dX4_reads_59 (by decide) (fun c9 => ?_) (fun c9 => ?_)
      · have hf := ite_f hf c9
        exact w4_reads_b136 hI C0 (f4_reads_b17 n) ih S x1 x2 x3 x4 v5 v6 v8 hf H locs ls hP hS (lv_sub hl [3, 4, 5, 6, 7, 2, 1, 0] rfl)
      · have hf := ite_t hf c9
        refine lv_iload hx hb dX4_reads_62 (lv_at hl 2 rfl) ?_
        refine lv_bipush (v := 32) hx hb dX4_reads_64 (by decide) ?_
        refine lv_icmp_eq (tgt := 136) hx hb dX4_reads_66 (by decide) (fun c10 => ?_) (fun c10 => ?_)
        · have hf := ite_t hf c10
          exact w4_reads_b136 hI C0 (f4_reads_b17 n) ih S x1 x2 x3 x4 v5 v6 v8 hf H locs ls hP hS (lv_sub hl [3, 4, 5, 6, 7, 2, 1, 0] rfl)
        · have hf := ite_f hf c10
          refine lv_iload hx hb dX4_reads_69 (lv_at hl 2 rfl) ?_
          obtain ⟨v12, h11, hf⟩ := b1_some hf
          refine sys_i hS (sys_runS (As := [.int v5]) (rest := []) C0 KM_ok hP hS (m4_kindBy l D K ad hI S v5 h11) gX4_reads_X4_kindBy rfl ⟨rfl, rfl⟩ hd_X4_kindBy ⟨Nat.le_of_ble_eq_true rfl, Nat.le_of_ble_eq_true rfl⟩ hl.1 rfl (Nat.le_of_ble_eq_true rfl) dX4_reads_71 ⟨Nat.le_refl _, Nat.le_refl _⟩) (fun H locs hP hS => ?_)
          refine lv_if_lt (tgt := 86) hx hb dX4_reads_74 (by decide) (fun c13 => ?_) (fun c13 => ?_)
          · have hf := ite_t hf c13
            refine lv_iload_n hx hb dX4_reads_86 rfl (lv_at hl 6 rfl) ?_
            exact ret_i C0 hP hS (congrArg Prod.fst (Option.some.inj hf)) (congrArg Prod.snd (Option.some.inj hf)) dX4_reads_87
          · have hf := ite_f hf c13
            refine lv_aload_n hx hb dX4_reads_77 rfl (lv_at hl 3 rfl) ?_
            refine x_get C0 hKC hP (by decide) (EM_0 K ad S) rfl in_X4_reads_X4 11 (by decide) (List.mem_of_getElem? (i := 2) rfl) rfl dX4_reads_78 ?_
            refine lv_bipush (v := 7) hx hb dX4_reads_81 (by decide) ?_
            refine lv_icmp_ne (tgt := 88) hx hb dX4_reads_83 (by decide) (fun c14 => ?_) (fun c14 => ?_)
            · have hf := ite_f hf c14
              refine lv_aload_n hx hb dX4_reads_88 rfl (lv_at hl 3 rfl) ?_
              refine x_get C0 hKC hP (by decide) (EM_0 K ad S) rfl in_X4_reads_X4 10 (by decide) (List.mem_of_getElem? (i := 6) rfl) rfl dX4_reads_89 ?_
              refine lv_iload hx hb dX4_reads_92 (lv_at hl 1 rfl) ?_
              refine lv_iload hx hb dX4_reads_94 (lv_at hl 2 rfl) ?_
              obtain ⟨v16, h15, hf⟩ := b1_some hf
              refine sys_i hS (sys_runS (As := [.int v5]) (rest := [.int v6, .ref (ad 7)]) C0 KM_ok hP hS (m4_kindBy l D K ad hI S v5 h15) gX4_reads_X4_kindBy rfl ⟨rfl, rfl⟩ hd_X4_kindBy ⟨Nat.le_of_ble_eq_true rfl, Nat.le_of_ble_eq_true rfl⟩ hl.1 rfl (Nat.le_of_ble_eq_true rfl) dX4_reads_96 ⟨Nat.le_refl _, Nat.le_refl _⟩) (fun H locs hP hS => ?_)
              obtain ⟨g17, hf⟩ := gd_some hf
              refine x_iast C0 hKC hI (EM_loc K ad) hP hS (IM_7 K ad) (t0 := 0) rfl g17 dX4_reads_99 (fun S18 eS18 H locs hP hS => ?_)
              have hf := nm_at eS18 hf
              refine lv_aload_n hx hb dX4_reads_100 rfl (lv_at hl 3 rfl) ?_
              refine x_get C0 hKC hP (by decide) (EM_0 K ad S18) rfl in_X4_reads_X4 10 (by decide) (List.mem_of_getElem? (i := 6) rfl) rfl dX4_reads_101 ?_
              refine lv_iload hx hb dX4_reads_104 (lv_at hl 1 rfl) ?_
              refine lv_iconst (v := 1) hx hb dX4_reads_106 (by decide) ?_
              refine lv_iadd hx hb dX4_reads_107 ?_
              refine lv_iconst (v := 0) hx hb dX4_reads_108 (by decide) ?_
              obtain ⟨g19, hf⟩ := gd_some hf
              refine x_iast C0 hKC hI (EM_loc K ad) hP hS (IM_7 K ad) (t0 := 0) rfl g19 dX4_reads_109 (fun S20 eS20 H locs hP hS => ?_)
              have hf := nm_at eS20 hf
              refine lv_aload_n hx hb dX4_reads_110 rfl (lv_at hl 3 rfl) ?_
              refine x_get C0 hKC hP (by decide) (EM_0 K ad S20) rfl in_X4_reads_X4 10 (by decide) (List.mem_of_getElem? (i := 6) rfl) rfl dX4_reads_111 ?_
              refine lv_iload hx hb dX4_reads_114 (lv_at hl 1 rfl) ?_
              refine lv_iconst (v := 2) hx hb dX4_reads_116 (by decide) ?_
              refine lv_iadd hx hb dX4_reads_117 ?_
              refine lv_iconst (v := 0) hx hb dX4_reads_118 (by decide) ?_
              obtain ⟨g21, hf⟩ := gd_some hf
              refine x_iast C0 hKC hI (EM_loc K ad) hP hS (IM_7 K ad) (t0 := 0) rfl g21 dX4_reads_119 (fun S22 eS22 H locs hP hS => ?_)
              have hf := nm_at eS22 hf
              refine lv_aload_n hx hb dX4_reads_120 rfl (lv_at hl 3 rfl) ?_
              refine x_get C0 hKC hP (by decide) (EM_0 K ad S22) rfl in_X4_reads_X4 10 (by decide) (List.mem_of_getElem? (i := 6) rfl) rfl dX4_reads_121 ?_
              refine lv_iload hx hb dX4_reads_124 (lv_at hl 1 rfl) ?_
              refine lv_iconst (v := 3) hx hb dX4_reads_126 (by decide) ?_
              refine lv_iadd hx hb dX4_reads_127 ?_
              refine lv_iconst (v := 0) hx hb dX4_reads_128 (by decide) ?_
              obtain ⟨g23, hf⟩ := gd_some hf
              refine x_iast C0 hKC hI (EM_loc K ad) hP hS (IM_7 K ad) (t0 := 0) rfl g23 dX4_reads_129 (fun S24 eS24 H locs hP hS => ?_)
              have hf := nm_at eS24 hf
              refine lv_iconst (v := 1) hx hb dX4_reads_130 (by decide) ?_
              refine lv_istore (lv' := [(4, .int 1), (7, .int v8), (6, .int v6), (5, .int v5), (0, .ref (ad 0)), (1, .int x1), (2, .int x2), (3, .int x3)]) hx hb dX4_reads_131 hl (by decide) rfl (fun ls hl => ?_)
              refine lv_goto (tgt := 226) hx hb dX4_reads_133 (by decide) ?_
              exact w4_reads_b226 hI C0 (f4_reads_b17 n) ih S24 x1 x2 x3 1 hf H locs ls hP hS (lv_sub hl [4, 5, 6, 7, 0] rfl)
            · have hf := ite_t hf c14
              refine lv_iload_n hx hb dX4_reads_86 rfl (lv_at hl 6 rfl) ?_
              exact ret_i C0 hP hS (congrArg Prod.fst (Option.some.inj hf)) (congrArg Prod.snd (Option.some.inj hf)) dX4_reads_87
set_option maxHeartbeats 4000000 in
set_option maxRecDepth 100000 in
theorem w4_reads {p : Program} {l : Launch} {e : Env} {s : State} {m : MethodId} {args : Array Value} {below : List Frame} {meth : Method} {c : Code} {D : va_G} {K : Nat → ClassId} {ad : Nat → Nat} (hI : INJ NM ad) (C0 : Cx p s m args meth c RX4 wsX4_reads cX4_reads 9 (some .int) (KM D K)) {r : Int32} {T : Mem} : ∀ (S : Mem) (x1 : Int32), f4_reads S x1 = some (r, T) → ∀ (H : Heap) (locs : List Loc) (ls : Array Slot), va_P D vwCl (wl NM ad (EM K ad S)) H → va_S (IW NM ad) s.heap H locs → lv_has ls 9 [(0, .ref (ad 0)), (1, .int x1)] → W p l e rm4_reads s m args below meth c H locs 0 0 (MQ below (va_Qi (fun (x : Int32) (u : Mem) => x = r ∧ u = T) (fun u t => va_P D vwCl (wl NM ad (EM K ad u)) t.heap) (IW NM ad)) args s 0 0 (IW NM ad)) (F0 m 0 ls []) := by
  have hx := C0.1
  have hb := C0.2.1
  have hts := C0.2.2.2.2.1
  have hown := C0.2.2.2.1
  have hKC := C0.2.2.2.2.2.2.2
  intro S x1 hf H locs ls hP hS hl
  rw [f4_reads] at hf
  refine lv_aload_n hx hb dX4_reads_0 rfl (lv_at hl 0 rfl) ?_
  refine x_get C0 hKC hP (by decide) (EM_0 K ad S) rfl in_X4_reads_X4 7 (by decide) (List.mem_of_getElem? (i := 1) rfl) rfl dX4_reads_1 ?_
  refine lv_iload_n hx hb dX4_reads_4 rfl (lv_at hl 1 rfl) ?_
  obtain ⟨g1, hf⟩ := gd_some hf
  refine x_iald C0 hKC hP (IM_4 K ad) (t0 := 0) rfl g1 dX4_reads_5 ?_
  refine lv_topi (fun v2 ev2 => ?_)
  have hf := nm_at ev2 hf
  refine lv_istore_n (lv' := [(2, .int v2), (0, .ref (ad 0)), (1, .int x1)]) hx hb dX4_reads_6 rfl hl (by decide) rfl (fun ls hl => ?_)
  refine lv_iconst (v := 0) hx hb dX4_reads_7 (by decide) ?_
  refine lv_istore_n (lv' := [(3, .int 0), (2, .int v2), (0, .ref (ad 0)), (1, .int x1)]) hx hb dX4_reads_8 rfl hl (by decide) rfl (fun ls hl => ?_)
  refine lv_iconst (v := 0) hx hb dX4_reads_9 (by decide) ?_
  refine lv_istore (lv' := [(4, .int 0), (3, .int 0), (2, .int v2), (0, .ref (ad 0)), (1, .int x1)]) hx hb dX4_reads_10 hl (by decide) rfl (fun ls hl => ?_)
  refine lv_aload_n hx hb dX4_reads_12 rfl (lv_at hl 3 rfl) ?_
  refine lv_iconst (v := 0) hx hb dX4_reads_13 (by decide) ?_
  refine x_puti C0 hKC hI (EM_loc K ad) hP hS (by decide) (EM_0 K ad S) rfl tyX4 tyX4_ok nmX4 in_X4_reads_X4 11 (by decide) (List.mem_of_getElem? (i := 2) rfl) rfl (tyX4_ok 11 (by decide)) (Nat.le_of_ble_eq_true rfl) (EM_p11 K ad S _) dX4_reads_14 (fun S3 eS3 H locs hP hS => ?_)
  have hf := nm_at eS3 hf
  exact w4_reads_b17 hI C0 FU S3 x1 v2 0 0 hf H locs ls hP hS (lv_sub hl [3, 4, 2, 1, 0] rfl)
theorem m4_reads (l : Launch) (D : va_G) (K : Nat → ClassId) (ad : Nat → Nat) (hI : INJ NM ad) (S : Mem) (x1 : Int32) {r : Int32} {T : Mem} (hf : f4_reads S x1 = some (r, T)) : SysI l yX4_reads wsX4_reads rm4_reads D NM ad (EM K ad) (KM D K) [.ref (ad 0), .int x1] S r T :=
  met_of (own := RX4) (by decide) rfl rfl (Nat.le_of_ble_eq_true rfl) (fun _ _ s _ _ _ _ ls C0 _ hP hl => w4_reads hI C0 S x1 hf s.heap [] ls hP va_S.rf hl)
theorem in_X4_fault_X4 : ∀ w ∈ wsX40, w ∈ wsX4_fault := fun _ h => List.mem_cons_of_mem _ (List.mem_append_right _ h)
theorem hd_X4_fault : yX4_fault.cls = RX4 ∧ yX4_fault.cls ≠ "java/lang/invoke/MethodHandle" ∧ yX4_fault.cls ≠ "java/lang/invoke/VarHandle" ∧ (parseMethodDescriptor yX4_fault.desc).map (fun d => d.parameters.length) = some 1 := by decide +kernel
abbrev rm4_fault : Room := { frames := 2, cells := 0, slots := 0, locals := 53 }
set_option maxHeartbeats 4000000 in
set_option maxRecDepth 100000 in
theorem w4_fault {p : Program} {l : Launch} {e : Env} {s : State} {m : MethodId} {args : Array Value} {below : List Frame} {meth : Method} {c : Code} {D : va_G} {K : Nat → ClassId} {ad : Nat → Nat} (hI : INJ NM ad) (C0 : Cx p s m args meth c RX4 wsX4_fault cX4_fault 3 (some .int) (KM D K)) {r : Int32} {T : Mem} : ∀ (S : Mem) (x1 : Int32), f4_fault S x1 = some (r, T) → ∀ (H : Heap) (locs : List Loc) (ls : Array Slot), va_P D vwCl (wl NM ad (EM K ad S)) H → va_S (IW NM ad) s.heap H locs → lv_has ls 3 [(0, .ref (ad 0)), (1, .int x1)] → W p l e rm4_fault s m args below meth c H locs 0 0 (MQ below (va_Qi (fun (x : Int32) (u : Mem) => x = r ∧ u = T) (fun u t => va_P D vwCl (wl NM ad (EM K ad u)) t.heap) (IW NM ad)) args s 0 0 (IW NM ad)) (F0 m 0 ls []) := by
  have hx := C0.1
  have hb := C0.2.1
  have hts := C0.2.2.2.2.1
  have hown := C0.2.2.2.1
  have hKC := C0.2.2.2.2.2.2.2
  intro S x1 hf H locs ls hP hS hl
  rw [f4_fault] at hf
  refine lv_iload_n hx hb dX4_fault_0 rfl (lv_at hl 1 rfl) ?_
  obtain ⟨v2, h1, hf⟩ := b1_some hf
  refine sys_i hS (sys_runS (As := [.int x1]) (rest := []) C0 KM_ok hP hS (m4_isText l D K ad hI S x1 h1) gX4_fault_X4_isText rfl ⟨rfl, rfl⟩ hd_X4_isText ⟨Nat.le_of_ble_eq_true rfl, Nat.le_of_ble_eq_true rfl⟩ hl.1 rfl (Nat.le_of_ble_eq_true rfl) dX4_fault_1 ⟨Nat.le_refl _, Nat.le_refl _⟩) (fun H locs hP hS => ?_)
  refine lv_if_ne (tgt := 9) hx hb dX4_fault_4 (by decide) (fun c3 => ?_) (fun c3 => ?_)
  · have hf := ite_f hf c3
    refine lv_aload_n hx hb dX4_fault_9 rfl (lv_at hl 0 rfl) ?_
    refine x_get C0 hKC hP (by decide) (EM_0 K ad S) rfl in_X4_fault_X4 7 (by decide) (List.mem_of_getElem? (i := 1) rfl) rfl dX4_fault_10 ?_
    refine lv_iload_n hx hb dX4_fault_13 rfl (lv_at hl 1 rfl) ?_
    obtain ⟨g4, hf⟩ := gd_some hf
    refine x_iald C0 hKC hP (IM_4 K ad) (t0 := 0) rfl g4 dX4_fault_14 ?_
    refine lv_if_ge (tgt := 24) hx hb dX4_fault_15 (by decide) (fun c5 => ?_) (fun c5 => ?_)
    · have hf := ite_t hf c5
      refine lv_aload_n hx hb dX4_fault_24 rfl (lv_at hl 0 rfl) ?_
      refine lv_iload_n hx hb dX4_fault_25 rfl (lv_at hl 1 rfl) ?_
      obtain ⟨v7, S8, h6, hf⟩ := b2_some hf
      refine sys_i hS (sys_runV (As := [.int x1]) (rest := []) C0 KM_ok hKC hP hS (by decide) (EM_0 K ad S) rfl (m4_reads l D K ad hI S x1 h6) gX4_fault_X4_reads rfl ⟨rfl, rfl⟩ hd_X4_reads ⟨Nat.le_of_ble_eq_true rfl, Nat.le_of_ble_eq_true rfl⟩ hl.1 rfl (Nat.le_of_ble_eq_true rfl) dX4_fault_26 ⟨Nat.le_refl _, Nat.le_refl _⟩) (fun H locs hP hS => ?_)
      refine lv_istore_n (lv' := [(2, .int v7), (0, .ref (ad 0)), (1, .int x1)]) hx hb dX4_fault_29 rfl hl (by decide) rfl (fun ls hl => ?_)
      refine lv_iload_n hx hb dX4_fault_30 rfl (lv_at hl 0 rfl) ?_
      refine lv_if_ge (tgt := 39) hx hb dX4_fault_31 (by decide) (fun c9 => ?_) (fun c9 => ?_)
      · have hf := ite_t hf c9
        refine lv_iload_n hx hb dX4_fault_39 rfl (lv_at hl 0 rfl) ?_
        exact ret_i C0 hP hS (congrArg Prod.fst (Option.some.inj hf)) (congrArg Prod.snd (Option.some.inj hf)) dX4_fault_40
      · have hf := ite_f hf c9
        refine lv_bipush (v := (-9)) hx hb dX4_fault_34 (by decide) ?_
        refine lv_goto (tgt := 40) hx hb dX4_fault_36 (by decide) ?_
        exact ret_i C0 hP hS (congrArg Prod.fst (Option.some.inj hf)) (congrArg Prod.snd (Option.some.inj hf)) dX4_fault_40
    · have hf := ite_f hf c5
      refine lv_aload_n hx hb dX4_fault_18 rfl (lv_at hl 0 rfl) ?_
      refine lv_iconst (v := 1) hx hb dX4_fault_19 (by decide) ?_
      obtain ⟨v11, S12, h10, hf⟩ := b2_some hf
      refine sys_i hS (sys_runV (As := [.int 1]) (rest := []) C0 KM_ok hKC hP hS (by decide) (EM_0 K ad S) rfl (m4_finds l D K ad hI S 1 h10) gX4_fault_X4_finds rfl ⟨rfl, rfl⟩ hd_X4_finds ⟨Nat.le_of_ble_eq_true rfl, Nat.le_of_ble_eq_true rfl⟩ hl.1 rfl (Nat.le_of_ble_eq_true rfl) dX4_fault_20 ⟨Nat.le_refl _, Nat.le_refl _⟩) (fun H locs hP hS => ?_)
      exact ret_i C0 hP hS (congrArg Prod.fst (Option.some.inj hf)) (congrArg Prod.snd (Option.some.inj hf)) dX4_fault_23
  · have hf := ite_t hf c3
    refine lv_iconst (v := (-1)) hx hb dX4_fault_7 (by decide) ?_
    exact ret_i C0 hP hS (congrArg Prod.fst (Option.some.inj hf)) (congrArg Prod.snd (Option.some.inj hf)) dX4_fault_8
theorem m4_fault (l : Launch) (D : va_G) (K : Nat → ClassId) (ad : Nat → Nat) (hI : INJ NM ad) (S : Mem) (x1 : Int32) {r : Int32} {T : Mem} (hf : f4_fault S x1 = some (r, T)) : SysI l yX4_fault wsX4_fault rm4_fault D NM ad (EM K ad) (KM D K) [.ref (ad 0), .int x1] S r T :=
  met_of (own := RX4) (by decide) rfl rfl (Nat.le_of_ble_eq_true rfl) (fun _ _ s _ _ _ _ ls C0 _ hP hl => w4_fault hI C0 S x1 hf s.heap [] ls hP va_S.rf hl)
theorem in_X4_place_X4 : ∀ w ∈ wsX40, w ∈ wsX4_place := fun _ h => List.mem_cons_of_mem _ (List.mem_append_right _ h)
theorem hd_X4_place : yX4_place.cls = RX4 ∧ yX4_place.cls ≠ "java/lang/invoke/MethodHandle" ∧ yX4_place.cls ≠ "java/lang/invoke/VarHandle" ∧ (parseMethodDescriptor yX4_place.desc).map (fun d => d.parameters.length) = some 1 := by decide +kernel
abbrev rm4_place : Room := { frames := 2, cells := 0, slots := 0, locals := 53 }
set_option maxHeartbeats 4000000 in
set_option maxRecDepth 100000 in
theorem w4_place_b151 {p : Program} {l : Launch} {e : Env} {s : State} {m : MethodId} {args : Array Value} {below : List Frame} {meth : Method} {c : Code} {D : va_G} {K : Nat → ClassId} {ad : Nat → Nat} (hI : INJ NM ad) (C0 : Cx p s m args meth c RX4 wsX4_place cX4_place 3 (some .int) (KM D K)) {r : Int32} {T : Mem} : ∀ (n : Nat), ∀ (S : Mem) (x2 : Int32), f4_place_b151 n S x2 = some (r, T) → ∀ (H : Heap) (locs : List Loc) (ls : Array Slot), va_P D vwCl (wl NM ad (EM K ad S)) H → va_S (IW NM ad) s.heap H locs → lv_has ls 3 [(0, .ref (ad 0)), (2, .int x2)] → W p l e rm4_place s m args below meth c H locs 0 0 (MQ below (va_Qi (fun (x : Int32) (u : Mem) => x = r ∧ u = T) (fun u t => va_P D vwCl (wl NM ad (EM K ad u)) t.heap) (IW NM ad)) args s 0 0 (IW NM ad)) (F0 m 151 ls []) := by
  have hx := C0.1
  have hb := C0.2.1
  have hts := C0.2.2.2.2.1
  have hown := C0.2.2.2.1
  have hKC := C0.2.2.2.2.2.2.2
  intro n
  induction n with
  | zero =>
    intro S x2 hf
    rw [f4_place_b151] at hf
    cases hf
  | succ n ih =>
    intro S x2 hf H locs ls hP hS hl
    rw [f4_place_b151] at hf
    refine lv_iload_n hx hb dX4_place_151 rfl (lv_at hl 1 rfl) ?_
    refine lv_iconst (v := 3) hx hb dX4_place_152 (by decide) ?_
    refine lv_icmp_ge (tgt := 169) hx hb dX4_place_153 (by decide) (fun c1 => ?_) (fun c1 => ?_)
    · have hf := ite_t hf c1
      refine lv_aload_n hx hb dX4_place_169 rfl (lv_at hl 0 rfl) ?_
      refine x_get C0 hKC hP (by decide) (EM_0 K ad S) rfl in_X4_place_X4 12 (by decide) (List.mem_of_getElem? (i := 3) rfl) rfl dX4_place_170 ?_
      exact ret_i C0 hP hS (congrArg Prod.fst (Option.some.inj hf)) (congrArg Prod.snd (Option.some.inj hf)) dX4_place_173
    · have hf := ite_f hf c1
      refine lv_aload_n hx hb dX4_place_156 rfl (lv_at hl 0 rfl) ?_
      refine x_get C0 hKC hP (by decide) (EM_0 K ad S) rfl in_X4_place_X4 19 (by decide) (List.mem_of_getElem? (i := 10) rfl) rfl dX4_place_157 ?_
      refine lv_iload_n hx hb dX4_place_160 rfl (lv_at hl 1 rfl) ?_
      refine lv_iconst (v := (-1)) hx hb dX4_place_161 (by decide) ?_
      obtain ⟨g2, hf⟩ := gd_some hf
      refine x_iast C0 hKC hI (EM_loc K ad) hP hS (IM_13 K ad) (t0 := 0) rfl g2 dX4_place_162 (fun S3 eS3 H locs hP hS => ?_)
      have hf := nm_at eS3 hf
      obtain ⟨v4, ev4⟩ : ∃ y : Int32, y = x2 + 1 := ⟨_, rfl⟩
      have hf := nm_at ev4 hf
      refine lv_iinc (v := v4) (lv' := [(2, .int v4), (0, .ref (ad 0))]) hx hb dX4_place_163 hl (k := 1) rfl (by rw [ev4]; rfl) (by decide) rfl (fun ls hl => ?_)
      refine lv_goto (tgt := 151) hx hb dX4_place_166 (by decide) ?_
      exact ih S3 v4 hf H locs ls hP hS (lv_sub hl [1, 0] rfl)
set_option maxHeartbeats 4000000 in
set_option maxRecDepth 100000 in
theorem w4_place_b71 {p : Program} {l : Launch} {e : Env} {s : State} {m : MethodId} {args : Array Value} {below : List Frame} {meth : Method} {c : Code} {D : va_G} {K : Nat → ClassId} {ad : Nat → Nat} (hI : INJ NM ad) (C0 : Cx p s m args meth c RX4 wsX4_place cX4_place 3 (some .int) (KM D K)) {r : Int32} {T : Mem} : ∀ (n : Nat), ∀ (S : Mem) (x2 : Int32), f4_place_b71 n S x2 = some (r, T) → ∀ (H : Heap) (locs : List Loc) (ls : Array Slot), va_P D vwCl (wl NM ad (EM K ad S)) H → va_S (IW NM ad) s.heap H locs → lv_has ls 3 [(0, .ref (ad 0)), (2, .int x2)] → W p l e rm4_place s m args below meth c H locs 0 0 (MQ below (va_Qi (fun (x : Int32) (u : Mem) => x = r ∧ u = T) (fun u t => va_P D vwCl (wl NM ad (EM K ad u)) t.heap) (IW NM ad)) args s 0 0 (IW NM ad)) (F0 m 71 ls []) := by
  have hx := C0.1
  have hb := C0.2.1
  have hts := C0.2.2.2.2.1
  have hown := C0.2.2.2.1
  have hKC := C0.2.2.2.2.2.2.2
  intro n
  induction n with
  | zero =>
    intro S x2 hf
    rw [f4_place_b71] at hf
    cases hf
  | succ n ih =>
    intro S x2 hf H locs ls hP hS hl
    rw [f4_place_b71] at hf
    refine lv_iload_n hx hb dX4_place_71 rfl (lv_at hl 1 rfl) ?_
    refine lv_aload_n hx hb dX4_place_72 rfl (lv_at hl 0 rfl) ?_
    refine x_get C0 hKC hP (by decide) (EM_0 K ad S) rfl in_X4_place_X4 12 (by decide) (List.mem_of_getElem? (i := 3) rfl) rfl dX4_place_73 ?_
    refine lv_icmp_ge (tgt := 149) hx hb dX4_place_76 (by decide) (fun c1 => ?_) (fun c1 => ?_)
    · have hf := ite_t hf c1
      refine lv_iconst (v := 0) hx hb dX4_place_149 (by decide) ?_
      refine lv_istore_n (lv' := [(2, .int 0), (0, .ref (ad 0))]) hx hb dX4_place_150 rfl hl (by decide) rfl (fun ls hl => ?_)
      exact w4_place_b151 hI C0 FU S 0 hf H locs ls hP hS (lv_sub hl [1, 0] rfl)
    · have hf := ite_f hf c1
      refine lv_aload_n hx hb dX4_place_79 rfl (lv_at hl 0 rfl) ?_
      refine x_get C0 hKC hP (by decide) (EM_0 K ad S) rfl in_X4_place_X4 13 (by decide) (List.mem_of_getElem? (i := 6) rfl) rfl dX4_place_80 ?_
      refine lv_iload_n hx hb dX4_place_83 rfl (lv_at hl 1 rfl) ?_
      refine lv_aload_n hx hb dX4_place_84 rfl (lv_at hl 0 rfl) ?_
      refine x_get C0 hKC hP (by decide) (EM_0 K ad S) rfl in_X4_place_X4 10 (by decide) (List.mem_of_getElem? (i := 7) rfl) rfl dX4_place_85 ?_
      refine lv_iconst (v := 4) hx hb dX4_place_88 (by decide) ?_
      refine lv_iload_n hx hb dX4_place_89 rfl (lv_at hl 1 rfl) ?_
      refine lv_imul hx hb dX4_place_90 ?_
      obtain ⟨g2, hf⟩ := gd_some hf
      refine x_iald C0 hKC hP (IM_7 K ad) (t0 := 0) rfl g2 dX4_place_91 ?_
      obtain ⟨g3, hf⟩ := gd_some hf
      refine x_iast C0 hKC hI (EM_loc K ad) hP hS (IM_8 K ad) (t0 := 0) rfl g3 dX4_place_92 (fun S4 eS4 H locs hP hS => ?_)
      have hf := nm_at eS4 hf
      refine lv_aload_n hx hb dX4_place_93 rfl (lv_at hl 0 rfl) ?_
      refine x_get C0 hKC hP (by decide) (EM_0 K ad S4) rfl in_X4_place_X4 14 (by decide) (List.mem_of_getElem? (i := 8) rfl) rfl dX4_place_94 ?_
      refine lv_iload_n hx hb dX4_place_97 rfl (lv_at hl 1 rfl) ?_
      refine lv_aload_n hx hb dX4_place_98 rfl (lv_at hl 0 rfl) ?_
      refine x_get C0 hKC hP (by decide) (EM_0 K ad S4) rfl in_X4_place_X4 10 (by decide) (List.mem_of_getElem? (i := 7) rfl) rfl dX4_place_99 ?_
      refine lv_iconst (v := 4) hx hb dX4_place_102 (by decide) ?_
      refine lv_iload_n hx hb dX4_place_103 rfl (lv_at hl 1 rfl) ?_
      refine lv_imul hx hb dX4_place_104 ?_
      refine lv_iconst (v := 1) hx hb dX4_place_105 (by decide) ?_
      refine lv_iadd hx hb dX4_place_106 ?_
      obtain ⟨g5, hf⟩ := gd_some hf
      refine x_iald C0 hKC hP (IM_7 K ad) (t0 := 0) rfl g5 dX4_place_107 ?_
      obtain ⟨g6, hf⟩ := gd_some hf
      refine x_iast C0 hKC hI (EM_loc K ad) hP hS (IM_9 K ad) (t0 := 0) rfl g6 dX4_place_108 (fun S7 eS7 H locs hP hS => ?_)
      have hf := nm_at eS7 hf
      refine lv_aload_n hx hb dX4_place_109 rfl (lv_at hl 0 rfl) ?_
      refine x_get C0 hKC hP (by decide) (EM_0 K ad S7) rfl in_X4_place_X4 15 (by decide) (List.mem_of_getElem? (i := 9) rfl) rfl dX4_place_110 ?_
      refine lv_iload_n hx hb dX4_place_113 rfl (lv_at hl 1 rfl) ?_
      refine lv_aload_n hx hb dX4_place_114 rfl (lv_at hl 0 rfl) ?_
      refine x_get C0 hKC hP (by decide) (EM_0 K ad S7) rfl in_X4_place_X4 10 (by decide) (List.mem_of_getElem? (i := 7) rfl) rfl dX4_place_115 ?_
      refine lv_iconst (v := 4) hx hb dX4_place_118 (by decide) ?_
      refine lv_iload_n hx hb dX4_place_119 rfl (lv_at hl 1 rfl) ?_
      refine lv_imul hx hb dX4_place_120 ?_
      refine lv_iconst (v := 2) hx hb dX4_place_121 (by decide) ?_
      refine lv_iadd hx hb dX4_place_122 ?_
      obtain ⟨g8, hf⟩ := gd_some hf
      refine x_iald C0 hKC hP (IM_7 K ad) (t0 := 0) rfl g8 dX4_place_123 ?_
      obtain ⟨g9, hf⟩ := gd_some hf
      refine x_iast C0 hKC hI (EM_loc K ad) hP hS (IM_10 K ad) (t0 := 0) rfl g9 dX4_place_124 (fun S10 eS10 H locs hP hS => ?_)
      have hf := nm_at eS10 hf
      refine lv_aload_n hx hb dX4_place_125 rfl (lv_at hl 0 rfl) ?_
      refine x_get C0 hKC hP (by decide) (EM_0 K ad S10) rfl in_X4_place_X4 16 (by decide) (List.mem_of_getElem? (i := 5) rfl) rfl dX4_place_126 ?_
      refine lv_iconst (v := 2) hx hb dX4_place_129 (by decide) ?_
      refine lv_iload_n hx hb dX4_place_130 rfl (lv_at hl 1 rfl) ?_
      refine lv_iadd hx hb dX4_place_131 ?_
      refine lv_aload_n hx hb dX4_place_132 rfl (lv_at hl 0 rfl) ?_
      refine x_get C0 hKC hP (by decide) (EM_0 K ad S10) rfl in_X4_place_X4 10 (by decide) (List.mem_of_getElem? (i := 7) rfl) rfl dX4_place_133 ?_
      refine lv_iconst (v := 4) hx hb dX4_place_136 (by decide) ?_
      refine lv_iload_n hx hb dX4_place_137 rfl (lv_at hl 1 rfl) ?_
      refine lv_imul hx hb dX4_place_138 ?_
      refine lv_iconst (v := 3) hx hb dX4_place_139 (by decide) ?_
      refine lv_iadd hx hb dX4_place_140 ?_
      obtain ⟨g11, hf⟩ := gd_some hf
      refine x_iald C0 hKC hP (IM_7 K ad) (t0 := 0) rfl g11 dX4_place_141 ?_
      obtain ⟨g12, hf⟩ := gd_some hf
      refine x_iast C0 hKC hI (EM_loc K ad) hP hS (IM_11 K ad) (t0 := 0) rfl g12 dX4_place_142 (fun S13 eS13 H locs hP hS => ?_)
      have hf := nm_at eS13 hf
      obtain ⟨v14, ev14⟩ : ∃ y : Int32, y = x2 + 1 := ⟨_, rfl⟩
      have hf := nm_at ev14 hf
      refine lv_iinc (v := v14) (lv' := [(2, .int v14), (0, .ref (ad 0))]) hx hb dX4_place_143 hl (k := 1) rfl (by rw [ev14]; rfl) (by decide) rfl (fun ls hl => ?_)
      refine lv_goto (tgt := 71) hx hb dX4_place_146 (by decide) ?_
      exact ih S13 v14 hf H locs ls hP hS (lv_sub hl [1, 0] rfl)
set_option maxHeartbeats 4000000 in
set_option maxRecDepth 100000 in
theorem w4_place_b50 {p : Program} {l : Launch} {e : Env} {s : State} {m : MethodId} {args : Array Value} {below : List Frame} {meth : Method} {c : Code} {D : va_G} {K : Nat → ClassId} {ad : Nat → Nat} (hI : INJ NM ad) (C0 : Cx p s m args meth c RX4 wsX4_place cX4_place 3 (some .int) (KM D K)) {r : Int32} {T : Mem} : ∀ (n : Nat), ∀ (S : Mem) (x2 : Int32), f4_place_b50 n S x2 = some (r, T) → ∀ (H : Heap) (locs : List Loc) (ls : Array Slot), va_P D vwCl (wl NM ad (EM K ad S)) H → va_S (IW NM ad) s.heap H locs → lv_has ls 3 [(0, .ref (ad 0)), (2, .int x2)] → W p l e rm4_place s m args below meth c H locs 0 0 (MQ below (va_Qi (fun (x : Int32) (u : Mem) => x = r ∧ u = T) (fun u t => va_P D vwCl (wl NM ad (EM K ad u)) t.heap) (IW NM ad)) args s 0 0 (IW NM ad)) (F0 m 50 ls []) := by
  have hx := C0.1
  have hb := C0.2.1
  have hts := C0.2.2.2.2.1
  have hown := C0.2.2.2.1
  have hKC := C0.2.2.2.2.2.2.2
  intro n
  induction n with
  | zero =>
    intro S x2 hf
    rw [f4_place_b50] at hf
    cases hf
  | succ n ih =>
    intro S x2 hf H locs ls hP hS hl
    rw [f4_place_b50] at hf
    refine lv_iload_n hx hb dX4_place_50 rfl (lv_at hl 1 rfl) ?_
    refine lv_bipush (v := 9) hx hb dX4_place_51 (by decide) ?_
    refine lv_icmp_ge (tgt := 69) hx hb dX4_place_53 (by decide) (fun c1 => ?_) (fun c1 => ?_)
    · have hf := ite_t hf c1
      refine lv_iconst (v := 0) hx hb dX4_place_69 (by decide) ?_
      refine lv_istore_n (lv' := [(2, .int 0), (0, .ref (ad 0))]) hx hb dX4_place_70 rfl hl (by decide) rfl (fun ls hl => ?_)
      exact w4_place_b71 hI C0 FU S 0 hf H locs ls hP hS (lv_sub hl [1, 0] rfl)
    · have hf := ite_f hf c1
      refine lv_aload_n hx hb dX4_place_56 rfl (lv_at hl 0 rfl) ?_
      refine x_get C0 hKC hP (by decide) (EM_0 K ad S) rfl in_X4_place_X4 16 (by decide) (List.mem_of_getElem? (i := 5) rfl) rfl dX4_place_57 ?_
      refine lv_iload_n hx hb dX4_place_60 rfl (lv_at hl 1 rfl) ?_
      refine lv_iconst (v := 0) hx hb dX4_place_61 (by decide) ?_
      obtain ⟨g2, hf⟩ := gd_some hf
      refine x_iast C0 hKC hI (EM_loc K ad) hP hS (IM_11 K ad) (t0 := 0) rfl g2 dX4_place_62 (fun S3 eS3 H locs hP hS => ?_)
      have hf := nm_at eS3 hf
      obtain ⟨v4, ev4⟩ : ∃ y : Int32, y = x2 + 1 := ⟨_, rfl⟩
      have hf := nm_at ev4 hf
      refine lv_iinc (v := v4) (lv' := [(2, .int v4), (0, .ref (ad 0))]) hx hb dX4_place_63 hl (k := 1) rfl (by rw [ev4]; rfl) (by decide) rfl (fun ls hl => ?_)
      refine lv_goto (tgt := 50) hx hb dX4_place_66 (by decide) ?_
      exact ih S3 v4 hf H locs ls hP hS (lv_sub hl [1, 0] rfl)
set_option maxHeartbeats 4000000 in
set_option maxRecDepth 100000 in
theorem w4_place {p : Program} {l : Launch} {e : Env} {s : State} {m : MethodId} {args : Array Value} {below : List Frame} {meth : Method} {c : Code} {D : va_G} {K : Nat → ClassId} {ad : Nat → Nat} (hI : INJ NM ad) (C0 : Cx p s m args meth c RX4 wsX4_place cX4_place 3 (some .int) (KM D K)) {r : Int32} {T : Mem} : ∀ (S : Mem) (x1 : Int32), f4_place S x1 = some (r, T) → ∀ (H : Heap) (locs : List Loc) (ls : Array Slot), va_P D vwCl (wl NM ad (EM K ad S)) H → va_S (IW NM ad) s.heap H locs → lv_has ls 3 [(0, .ref (ad 0)), (1, .int x1)] → W p l e rm4_place s m args below meth c H locs 0 0 (MQ below (va_Qi (fun (x : Int32) (u : Mem) => x = r ∧ u = T) (fun u t => va_P D vwCl (wl NM ad (EM K ad u)) t.heap) (IW NM ad)) args s 0 0 (IW NM ad)) (F0 m 0 ls []) := by
  have hx := C0.1
  have hb := C0.2.1
  have hts := C0.2.2.2.2.1
  have hown := C0.2.2.2.1
  have hKC := C0.2.2.2.2.2.2.2
  intro S x1 hf H locs ls hP hS hl
  rw [f4_place] at hf
  refine lv_iload_n hx hb dX4_place_0 rfl (lv_at hl 1 rfl) ?_
  obtain ⟨v2, h1, hf⟩ := b1_some hf
  refine sys_i hS (sys_runS (As := [.int x1]) (rest := []) C0 KM_ok hP hS (m4_isText l D K ad hI S x1 h1) gX4_place_X4_isText rfl ⟨rfl, rfl⟩ hd_X4_isText ⟨Nat.le_of_ble_eq_true rfl, Nat.le_of_ble_eq_true rfl⟩ hl.1 rfl (Nat.le_of_ble_eq_true rfl) dX4_place_1 ⟨Nat.le_refl _, Nat.le_refl _⟩) (fun H locs hP hS => ?_)
  refine lv_if_ne (tgt := 9) hx hb dX4_place_4 (by decide) (fun c3 => ?_) (fun c3 => ?_)
  · have hf := ite_f hf c3
    refine lv_aload_n hx hb dX4_place_9 rfl (lv_at hl 0 rfl) ?_
    refine x_get C0 hKC hP (by decide) (EM_0 K ad S) rfl in_X4_place_X4 7 (by decide) (List.mem_of_getElem? (i := 1) rfl) rfl dX4_place_10 ?_
    refine lv_iload_n hx hb dX4_place_13 rfl (lv_at hl 1 rfl) ?_
    obtain ⟨g4, hf⟩ := gd_some hf
    refine x_iald C0 hKC hP (IM_4 K ad) (t0 := 0) rfl g4 dX4_place_14 ?_
    refine lv_if_ge (tgt := 24) hx hb dX4_place_15 (by decide) (fun c5 => ?_) (fun c5 => ?_)
    · have hf := ite_t hf c5
      refine lv_aload_n hx hb dX4_place_24 rfl (lv_at hl 0 rfl) ?_
      refine lv_iload_n hx hb dX4_place_25 rfl (lv_at hl 1 rfl) ?_
      obtain ⟨v7, S8, h6, hf⟩ := b2_some hf
      refine sys_i hS (sys_runV (As := [.int x1]) (rest := []) C0 KM_ok hKC hP hS (by decide) (EM_0 K ad S) rfl (m4_reads l D K ad hI S x1 h6) gX4_place_X4_reads rfl ⟨rfl, rfl⟩ hd_X4_reads ⟨Nat.le_of_ble_eq_true rfl, Nat.le_of_ble_eq_true rfl⟩ hl.1 rfl (Nat.le_of_ble_eq_true rfl) dX4_place_26 ⟨Nat.le_refl _, Nat.le_refl _⟩) (fun H locs hP hS => ?_)
      refine lv_if_lt (tgt := 35) hx hb dX4_place_29 (by decide) (fun c9 => ?_) (fun c9 => ?_)
      · have hf := ite_t hf c9
        refine lv_aload_n hx hb dX4_place_35 rfl (lv_at hl 0 rfl) ?_
        refine lv_aload_n hx hb dX4_place_36 rfl (lv_at hl 0 rfl) ?_
        refine x_get C0 hKC hP (by decide) (EM_0 K ad S8) rfl in_X4_place_X4 11 (by decide) (List.mem_of_getElem? (i := 2) rfl) rfl dX4_place_37 ?_
        refine x_puti C0 hKC hI (EM_loc K ad) hP hS (by decide) (EM_0 K ad S8) rfl tyX4 tyX4_ok nmX4 in_X4_place_X4 12 (by decide) (List.mem_of_getElem? (i := 3) rfl) rfl (tyX4_ok 12 (by decide)) (Nat.le_of_ble_eq_true rfl) (EM_p12 K ad S8 _) dX4_place_40 (fun S10 eS10 H locs hP hS => ?_)
        have hf := nm_at eS10 hf
        refine lv_aload_n hx hb dX4_place_43 rfl (lv_at hl 0 rfl) ?_
        refine lv_iconst (v := 0) hx hb dX4_place_44 (by decide) ?_
        refine x_puti C0 hKC hI (EM_loc K ad) hP hS (by decide) (EM_0 K ad S10) rfl tyX4 tyX4_ok nmX4 in_X4_place_X4 18 (by decide) (List.mem_of_getElem? (i := 4) rfl) rfl (tyX4_ok 18 (by decide)) (Nat.le_of_ble_eq_true rfl) (EM_p18 K ad S10 _) dX4_place_45 (fun S11 eS11 H locs hP hS => ?_)
        have hf := nm_at eS11 hf
        refine lv_iconst (v := 0) hx hb dX4_place_48 (by decide) ?_
        refine lv_istore_n (lv' := [(2, .int 0), (0, .ref (ad 0)), (1, .int x1)]) hx hb dX4_place_49 rfl hl (by decide) rfl (fun ls hl => ?_)
        exact w4_place_b50 hI C0 FU S11 0 hf H locs ls hP hS (lv_sub hl [1, 0] rfl)
      · have hf := ite_f hf c9
        refine lv_bipush (v := (-4)) hx hb dX4_place_32 (by decide) ?_
        exact ret_i C0 hP hS (congrArg Prod.fst (Option.some.inj hf)) (congrArg Prod.snd (Option.some.inj hf)) dX4_place_34
    · have hf := ite_f hf c5
      refine lv_aload_n hx hb dX4_place_18 rfl (lv_at hl 0 rfl) ?_
      refine lv_iconst (v := 1) hx hb dX4_place_19 (by decide) ?_
      obtain ⟨v13, S14, h12, hf⟩ := b2_some hf
      refine sys_i hS (sys_runV (As := [.int 1]) (rest := []) C0 KM_ok hKC hP hS (by decide) (EM_0 K ad S) rfl (m4_finds l D K ad hI S 1 h12) gX4_place_X4_finds rfl ⟨rfl, rfl⟩ hd_X4_finds ⟨Nat.le_of_ble_eq_true rfl, Nat.le_of_ble_eq_true rfl⟩ hl.1 rfl (Nat.le_of_ble_eq_true rfl) dX4_place_20 ⟨Nat.le_refl _, Nat.le_refl _⟩) (fun H locs hP hS => ?_)
      exact ret_i C0 hP hS (congrArg Prod.fst (Option.some.inj hf)) (congrArg Prod.snd (Option.some.inj hf)) dX4_place_23
  · have hf := ite_t hf c3
    refine lv_iconst (v := (-1)) hx hb dX4_place_7 (by decide) ?_
    exact ret_i C0 hP hS (congrArg Prod.fst (Option.some.inj hf)) (congrArg Prod.snd (Option.some.inj hf)) dX4_place_8
theorem m4_place (l : Launch) (D : va_G) (K : Nat → ClassId) (ad : Nat → Nat) (hI : INJ NM ad) (S : Mem) (x1 : Int32) {r : Int32} {T : Mem} (hf : f4_place S x1 = some (r, T)) : SysI l yX4_place wsX4_place rm4_place D NM ad (EM K ad) (KM D K) [.ref (ad 0), .int x1] S r T :=
  met_of (own := RX4) (by decide) rfl rfl (Nat.le_of_ble_eq_true rfl) (fun _ _ s _ _ _ _ ls C0 _ hP hl => w4_place hI C0 S x1 hf s.heap [] ls hP va_S.rf hl)
theorem in_X4_isHouse_X4 : ∀ w ∈ wsX40, w ∈ wsX4_isHouse := fun _ h => List.mem_cons_of_mem _ (List.mem_append_right _ h)
theorem hd_X4_isHouse : yX4_isHouse.cls = RX4 ∧ yX4_isHouse.cls ≠ "java/lang/invoke/MethodHandle" ∧ yX4_isHouse.cls ≠ "java/lang/invoke/VarHandle" ∧ (parseMethodDescriptor yX4_isHouse.desc).map (fun d => d.parameters.length) = some 1 := by decide +kernel
abbrev rm4_isHouse : Room := { frames := 1, cells := 0, slots := 0, locals := 25 }
set_option maxHeartbeats 4000000 in
set_option maxRecDepth 100000 in
theorem w4_isHouse {p : Program} {l : Launch} {e : Env} {s : State} {m : MethodId} {args : Array Value} {below : List Frame} {meth : Method} {c : Code} {D : va_G} {K : Nat → ClassId} {ad : Nat → Nat} (hI : INJ NM ad) (C0 : Cx p s m args meth c RX4 wsX4_isHouse cX4_isHouse 2 (some .boolean) (KM D K)) (S : Mem) {r : Int32} : ∀ (x1 : Int32), f4_isHouse S x1 = some r → ∀ (H : Heap) (locs : List Loc) (ls : Array Slot), va_P D vwCl (wl NM ad (EM K ad S)) H → va_S (IW NM ad) s.heap H locs → lv_has ls 2 [(0, .ref (ad 0)), (1, .int x1)] → W p l e rm4_isHouse s m args below meth c H locs 0 0 (MQ below (va_Qi (fun (x : Int32) (u : Mem) => x = r ∧ u = S) (fun u t => va_P D vwCl (wl NM ad (EM K ad u)) t.heap) (IW NM ad)) args s 0 0 (IW NM ad)) (F0 m 0 ls []) := by
  have hx := C0.1
  have hb := C0.2.1
  have hts := C0.2.2.2.2.1
  have hown := C0.2.2.2.1
  have hKC := C0.2.2.2.2.2.2.2
  intro x1 hf H locs ls hP hS hl
  rw [f4_isHouse] at hf
  refine lv_iload_n hx hb dX4_isHouse_0 rfl (lv_at hl 1 rfl) ?_
  refine lv_i2l (v := (Int32.toInt64 x1)) hx hb dX4_isHouse_1 rfl ?_
  refine lv_lconst (v := 0) hx hb dX4_isHouse_2 (by decide) ?_
  refine lv_aload_n hx hb dX4_isHouse_3 rfl (lv_at hl 0 rfl) ?_
  refine x_get C0 hKC hP (by decide) (EM_0 K ad S) rfl in_X4_isHouse_X4 12 (by decide) (List.mem_of_getElem? (i := 1) rfl) rfl dX4_isHouse_4 ?_
  refine lv_iconst (v := 1) hx hb dX4_isHouse_7 (by decide) ?_
  refine lv_isub hx hb dX4_isHouse_8 ?_
  refine lv_i2l (v := (Int32.toInt64 ((gi S 0 12) - 1))) hx hb dX4_isHouse_9 rfl ?_
  obtain ⟨v2, h1, hf⟩ := b1_some hf
  refine sys_i hS (sys_runS (As := [.long (Int32.toInt64 x1), .long 0, .long (Int32.toInt64 ((gi S 0 12) - 1))]) (rest := []) C0 KM_ok hP hS (m4_in l D K ad hI S (Int32.toInt64 x1) 0 (Int32.toInt64 ((gi S 0 12) - 1)) h1) gX4_isHouse_X4_in rfl ⟨rfl, rfl⟩ hd_X4_in ⟨Nat.le_of_ble_eq_true rfl, Nat.le_of_ble_eq_true rfl⟩ hl.1 rfl (Nat.le_of_ble_eq_true rfl) dX4_isHouse_10 ⟨Nat.le_refl _, Nat.le_refl _⟩) (fun H locs hP hS => ?_)
  obtain ⟨g3, hf⟩ := gd_some hf
  exact ret_z C0 hP hS (of_decide_eq_true g3) (Option.some.inj hf) rfl dX4_isHouse_13
theorem m4_isHouse (l : Launch) (D : va_G) (K : Nat → ClassId) (ad : Nat → Nat) (hI : INJ NM ad) (S : Mem) (x1 : Int32) {r : Int32} (hf : f4_isHouse S x1 = some r) : SysI l yX4_isHouse wsX4_isHouse rm4_isHouse D NM ad (EM K ad) (KM D K) [.ref (ad 0), .int x1] S r S :=
  met_of (own := RX4) (by decide) rfl rfl (Nat.le_of_ble_eq_true rfl) (fun _ _ s _ _ _ _ ls C0 _ hP hl => w4_isHouse hI C0 S x1 hf s.heap [] ls hP va_S.rf hl)
theorem in_X4_jar_X4 : ∀ w ∈ wsX40, w ∈ wsX4_jar := fun _ h => List.mem_cons_of_mem _ (List.mem_append_right _ h)
theorem hd_X4_jar : yX4_jar.cls = RX4 ∧ yX4_jar.cls ≠ "java/lang/invoke/MethodHandle" ∧ yX4_jar.cls ≠ "java/lang/invoke/VarHandle" ∧ (parseMethodDescriptor yX4_jar.desc).map (fun d => d.parameters.length) = some 1 := by decide +kernel
abbrev rm4_jar : Room := { frames := 0, cells := 0, slots := 0, locals := 0 }
set_option maxHeartbeats 4000000 in
set_option maxRecDepth 100000 in
theorem w4_jar {p : Program} {l : Launch} {e : Env} {s : State} {m : MethodId} {args : Array Value} {below : List Frame} {meth : Method} {c : Code} {D : va_G} {K : Nat → ClassId} {ad : Nat → Nat} (hI : INJ NM ad) (C0 : Cx p s m args meth c RX4 wsX4_jar cX4_jar 2 (some .int) (KM D K)) (S : Mem) {r : Int32} : ∀ (x1 : Int32), f4_jar S x1 = some r → ∀ (H : Heap) (locs : List Loc) (ls : Array Slot), va_P D vwCl (wl NM ad (EM K ad S)) H → va_S (IW NM ad) s.heap H locs → lv_has ls 2 [(0, .ref (ad 0)), (1, .int x1)] → W p l e rm4_jar s m args below meth c H locs 0 0 (MQ below (va_Qi (fun (x : Int32) (u : Mem) => x = r ∧ u = S) (fun u t => va_P D vwCl (wl NM ad (EM K ad u)) t.heap) (IW NM ad)) args s 0 0 (IW NM ad)) (F0 m 0 ls []) := by
  have hx := C0.1
  have hb := C0.2.1
  have hts := C0.2.2.2.2.1
  have hown := C0.2.2.2.1
  have hKC := C0.2.2.2.2.2.2.2
  intro x1 hf H locs ls hP hS hl
  rw [f4_jar] at hf
  refine lv_aload_n hx hb dX4_jar_0 rfl (lv_at hl 0 rfl) ?_
  refine x_get C0 hKC hP (by decide) (EM_0 K ad S) rfl in_X4_jar_X4 16 (by decide) (List.mem_of_getElem? (i := 1) rfl) rfl dX4_jar_1 ?_
  refine lv_iconst (v := 2) hx hb dX4_jar_4 (by decide) ?_
  refine lv_iload_n hx hb dX4_jar_5 rfl (lv_at hl 1 rfl) ?_
  refine lv_iadd hx hb dX4_jar_6 ?_
  obtain ⟨g1, hf⟩ := gd_some hf
  refine x_iald C0 hKC hP (IM_11 K ad) (t0 := 0) rfl g1 dX4_jar_7 ?_
  exact ret_i C0 hP hS (Option.some.inj hf) rfl dX4_jar_8
theorem m4_jar (l : Launch) (D : va_G) (K : Nat → ClassId) (ad : Nat → Nat) (hI : INJ NM ad) (S : Mem) (x1 : Int32) {r : Int32} (hf : f4_jar S x1 = some r) : SysI l yX4_jar wsX4_jar rm4_jar D NM ad (EM K ad) (KM D K) [.ref (ad 0), .int x1] S r S :=
  met_of (own := RX4) (by decide) rfl rfl (Nat.le_of_ble_eq_true rfl) (fun _ _ s _ _ _ _ ls C0 _ hP hl => w4_jar hI C0 S x1 hf s.heap [] ls hP va_S.rf hl)
theorem hd_X4_worthTo : yX4_worthTo.cls ≠ "java/lang/invoke/MethodHandle" ∧ yX4_worthTo.cls ≠ "java/lang/invoke/VarHandle" ∧ (parseMethodDescriptor yX4_worthTo.desc).map (fun d => d.parameters.length) = some 2 := by decide +kernel
abbrev rm4_worthTo : Room := { frames := 0, cells := 0, slots := 0, locals := 0 }
set_option maxHeartbeats 4000000 in
set_option maxRecDepth 100000 in
theorem w4_worthTo {p : Program} {l : Launch} {e : Env} {s : State} {m : MethodId} {args : Array Value} {below : List Frame} {meth : Method} {c : Code} {D : va_G} {K : Nat → ClassId} {ad : Nat → Nat} (hI : INJ NM ad) (C0 : Cx p s m args meth c RX4 wsX4_worthTo cX4_worthTo 2 (some .int) (KM D K)) (S : Mem) {r : Int32} : ∀ (x0 : Int32) (x1 : Int32), f4_worthTo x0 x1 = some r → ∀ (H : Heap) (locs : List Loc) (ls : Array Slot), va_P D vwCl (wl NM ad (EM K ad S)) H → va_S (IW NM ad) s.heap H locs → lv_has ls 2 [(0, .int x0), (1, .int x1)] → W p l e rm4_worthTo s m args below meth c H locs 0 0 (MQ below (va_Qi (fun (x : Int32) (u : Mem) => x = r ∧ u = S) (fun u t => va_P D vwCl (wl NM ad (EM K ad u)) t.heap) (IW NM ad)) args s 0 0 (IW NM ad)) (F0 m 0 ls []) := by
  have hx := C0.1
  have hb := C0.2.1
  have hts := C0.2.2.2.2.1
  have hown := C0.2.2.2.1
  have hKC := C0.2.2.2.2.2.2.2
  intro x0 x1 hf H locs ls hP hS hl
  rw [f4_worthTo] at hf
  refine lv_iload_n hx hb dX4_worthTo_0 rfl (lv_at hl 0 rfl) ?_
  by_cases c1 : x0 = 0
  · have hf := ite_t hf c1
    refine lv_tableIn (off := 35) (tgt := 36) hx hb dX4_worthTo_1 (by rw [c1]; decide) (by rw [c1]; decide) (by rw [c1]; rfl) (by decide) ?_
    refine lv_iload_n hx hb dX4_worthTo_36 rfl (lv_at hl 1 rfl) ?_
    exact ret_i C0 hP hS (Option.some.inj hf) rfl dX4_worthTo_37
  · have hf := ite_f hf c1
    by_cases c2 : x0 = 1
    · have hf := ite_t hf c2
      refine lv_tableIn (off := 37) (tgt := 38) hx hb dX4_worthTo_1 (by rw [c2]; decide) (by rw [c2]; decide) (by rw [c2]; rfl) (by decide) ?_
      refine lv_iload_n hx hb dX4_worthTo_38 rfl (lv_at hl 1 rfl) ?_
      refine lv_iconst (v := 3) hx hb dX4_worthTo_39 (by decide) ?_
      refine lv_iadd hx hb dX4_worthTo_40 ?_
      exact ret_i C0 hP hS (Option.some.inj hf) rfl dX4_worthTo_41
    · have hf := ite_f hf c2
      by_cases c3 : x0 = 2
      · have hf := ite_t hf c3
        refine lv_tableIn (off := 41) (tgt := 42) hx hb dX4_worthTo_1 (by rw [c3]; decide) (by rw [c3]; decide) (by rw [c3]; rfl) (by decide) ?_
        refine lv_iconst (v := 2) hx hb dX4_worthTo_42 (by decide) ?_
        refine lv_iload_n hx hb dX4_worthTo_43 rfl (lv_at hl 1 rfl) ?_
        refine lv_imul hx hb dX4_worthTo_44 ?_
        exact ret_i C0 hP hS (Option.some.inj hf) rfl dX4_worthTo_45
      · have hf := ite_f hf c3
        by_cases c4 : x0 = 3
        · have hf := ite_t hf c4
          refine lv_tableIn (off := 45) (tgt := 46) hx hb dX4_worthTo_1 (by rw [c4]; decide) (by rw [c4]; decide) (by rw [c4]; rfl) (by decide) ?_
          refine lv_iload_n hx hb dX4_worthTo_46 rfl (lv_at hl 1 rfl) ?_
          refine lv_bipush (v := 20) hx hb dX4_worthTo_47 (by decide) ?_
          refine lv_icmp_le (tgt := 56) hx hb dX4_worthTo_49 (by decide) (fun c5 => ?_) (fun c5 => ?_)
          · have hf := ite_t hf c5
            refine lv_iload_n hx hb dX4_worthTo_56 rfl (lv_at hl 1 rfl) ?_
            exact ret_i C0 hP hS (Option.some.inj hf) rfl dX4_worthTo_57
          · have hf := ite_f hf c5
            refine lv_iconst (v := 0) hx hb dX4_worthTo_52 (by decide) ?_
            refine lv_goto (tgt := 57) hx hb dX4_worthTo_53 (by decide) ?_
            exact ret_i C0 hP hS (Option.some.inj hf) rfl dX4_worthTo_57
        · have hf := ite_f hf c4
          by_cases c6 : x0 = 4
          · have hf := ite_t hf c6
            refine lv_tableIn (off := 57) (tgt := 58) hx hb dX4_worthTo_1 (by rw [c6]; decide) (by rw [c6]; decide) (by rw [c6]; rfl) (by decide) ?_
            refine lv_iconst (v := 2) hx hb dX4_worthTo_58 (by decide) ?_
            refine lv_iload_n hx hb dX4_worthTo_59 rfl (lv_at hl 1 rfl) ?_
            refine lv_iconst (v := 3) hx hb dX4_worthTo_60 (by decide) ?_
            refine lv_iadd hx hb dX4_worthTo_61 ?_
            refine lv_imul hx hb dX4_worthTo_62 ?_
            exact ret_i C0 hP hS (Option.some.inj hf) rfl dX4_worthTo_63
          · have hf := ite_f hf c6
            refine lv_tableOut (tgt := 64) hx hb dX4_worthTo_1 (by have h0 := lv_neT (a := 0) c1 rfl; have h1 := lv_neT (a := 1) c2 rfl; have h2 := lv_neT (a := 2) c3 rfl; have h3 := lv_neT (a := 3) c4 rfl; have h4 := lv_neT (a := 4) c6 rfl; omega) (by decide) ?_
            refine lv_iconst (v := 2) hx hb dX4_worthTo_64 (by decide) ?_
            refine lv_iload_n hx hb dX4_worthTo_65 rfl (lv_at hl 1 rfl) ?_
            refine lv_imul hx hb dX4_worthTo_66 ?_
            refine lv_iconst (v := 5) hx hb dX4_worthTo_67 (by decide) ?_
            refine lv_icmp_ge (tgt := 75) hx hb dX4_worthTo_68 (by decide) (fun c7 => ?_) (fun c7 => ?_)
            · have hf := ite_t hf c7
              refine lv_iconst (v := 2) hx hb dX4_worthTo_75 (by decide) ?_
              refine lv_iload_n hx hb dX4_worthTo_76 rfl (lv_at hl 1 rfl) ?_
              refine lv_imul hx hb dX4_worthTo_77 ?_
              refine lv_iconst (v := 5) hx hb dX4_worthTo_78 (by decide) ?_
              refine lv_isub hx hb dX4_worthTo_79 ?_
              exact ret_i C0 hP hS (Option.some.inj hf) rfl dX4_worthTo_80
            · have hf := ite_f hf c7
              refine lv_iconst (v := 0) hx hb dX4_worthTo_71 (by decide) ?_
              refine lv_goto (tgt := 80) hx hb dX4_worthTo_72 (by decide) ?_
              exact ret_i C0 hP hS (Option.some.inj hf) rfl dX4_worthTo_80
theorem m4_worthTo (l : Launch) (D : va_G) (K : Nat → ClassId) (ad : Nat → Nat) (hI : INJ NM ad) (S : Mem) (x0 : Int32) (x1 : Int32) {r : Int32} (hf : f4_worthTo x0 x1 = some r) : SysI l yX4_worthTo wsX4_worthTo rm4_worthTo D NM ad (EM K ad) (KM D K) [.int x0, .int x1] S r S :=
  met_of (own := RX4) (by decide) rfl rfl (Nat.le_of_ble_eq_true rfl) (fun _ _ s _ _ _ _ ls C0 _ hP hl => w4_worthTo hI C0 S x0 x1 hf s.heap [] ls hP va_S.rf hl)
theorem in_X4_broughtBy_X4 : ∀ w ∈ wsX40, w ∈ wsX4_broughtBy := fun _ h => List.mem_cons_of_mem _ (List.mem_append_right _ h)
theorem hd_X4_broughtBy : yX4_broughtBy.cls = RX4 ∧ yX4_broughtBy.cls ≠ "java/lang/invoke/MethodHandle" ∧ yX4_broughtBy.cls ≠ "java/lang/invoke/VarHandle" ∧ (parseMethodDescriptor yX4_broughtBy.desc).map (fun d => d.parameters.length) = some 2 := by decide +kernel
abbrev rm4_broughtBy : Room := { frames := 0, cells := 0, slots := 0, locals := 0 }
set_option maxHeartbeats 4000000 in
set_option maxRecDepth 100000 in
theorem w4_broughtBy {p : Program} {l : Launch} {e : Env} {s : State} {m : MethodId} {args : Array Value} {below : List Frame} {meth : Method} {c : Code} {D : va_G} {K : Nat → ClassId} {ad : Nat → Nat} (hI : INJ NM ad) (C0 : Cx p s m args meth c RX4 wsX4_broughtBy cX4_broughtBy 3 (some .int) (KM D K)) (S : Mem) {r : Int32} : ∀ (x1 : Int32) (x2 : Int32), f4_broughtBy S x1 x2 = some r → ∀ (H : Heap) (locs : List Loc) (ls : Array Slot), va_P D vwCl (wl NM ad (EM K ad S)) H → va_S (IW NM ad) s.heap H locs → lv_has ls 3 [(0, .ref (ad 0)), (1, .int x1), (2, .int x2)] → W p l e rm4_broughtBy s m args below meth c H locs 0 0 (MQ below (va_Qi (fun (x : Int32) (u : Mem) => x = r ∧ u = S) (fun u t => va_P D vwCl (wl NM ad (EM K ad u)) t.heap) (IW NM ad)) args s 0 0 (IW NM ad)) (F0 m 0 ls []) := by
  have hx := C0.1
  have hb := C0.2.1
  have hts := C0.2.2.2.2.1
  have hown := C0.2.2.2.1
  have hKC := C0.2.2.2.2.2.2.2
  intro x1 x2 hf H locs ls hP hS hl
  rw [f4_broughtBy] at hf
  refine lv_iload_n hx hb dX4_broughtBy_0 rfl (lv_at hl 1 rfl) ?_
  by_cases c1 : x1 = 0
  · have hf := ite_t hf c1
    refine lv_tableIn (off := 35) (tgt := 36) hx hb dX4_broughtBy_1 (by rw [c1]; decide) (by rw [c1]; decide) (by rw [c1]; rfl) (by decide) ?_
    refine lv_iload_n hx hb dX4_broughtBy_36 rfl (lv_at hl 2 rfl) ?_
    exact ret_i C0 hP hS (Option.some.inj hf) rfl dX4_broughtBy_37
  · have hf := ite_f hf c1
    by_cases c2 : x1 = 1
    · have hf := ite_t hf c2
      refine lv_tableIn (off := 37) (tgt := 38) hx hb dX4_broughtBy_1 (by rw [c2]; decide) (by rw [c2]; decide) (by rw [c2]; rfl) (by decide) ?_
      refine lv_iload_n hx hb dX4_broughtBy_38 rfl (lv_at hl 2 rfl) ?_
      refine lv_iconst (v := 2) hx hb dX4_broughtBy_39 (by decide) ?_
      refine lv_idiv hx hb dX4_broughtBy_40 (by decide) ?_
      exact ret_i C0 hP hS (Option.some.inj hf) rfl dX4_broughtBy_41
    · have hf := ite_f hf c2
      by_cases c3 : x1 = 2
      · have hf := ite_t hf c3
        refine lv_tableIn (off := 35) (tgt := 36) hx hb dX4_broughtBy_1 (by rw [c3]; decide) (by rw [c3]; decide) (by rw [c3]; rfl) (by decide) ?_
        refine lv_iload_n hx hb dX4_broughtBy_36 rfl (lv_at hl 2 rfl) ?_
        exact ret_i C0 hP hS (Option.some.inj hf) rfl dX4_broughtBy_37
      · have hf := ite_f hf c3
        by_cases c4 : x1 = 3
        · have hf := ite_t hf c4
          refine lv_tableIn (off := 41) (tgt := 42) hx hb dX4_broughtBy_1 (by rw [c4]; decide) (by rw [c4]; decide) (by rw [c4]; rfl) (by decide) ?_
          refine lv_iload_n hx hb dX4_broughtBy_42 rfl (lv_at hl 2 rfl) ?_
          refine lv_bipush (v := 7) hx hb dX4_broughtBy_43 (by decide) ?_
          refine lv_icmp_ge (tgt := 52) hx hb dX4_broughtBy_45 (by decide) (fun c5 => ?_) (fun c5 => ?_)
          · have hf := ite_t hf c5
            refine lv_iload_n hx hb dX4_broughtBy_52 rfl (lv_at hl 2 rfl) ?_
            refine lv_bipush (v := 7) hx hb dX4_broughtBy_53 (by decide) ?_
            refine lv_isub hx hb dX4_broughtBy_55 ?_
            exact ret_i C0 hP hS (Option.some.inj hf) rfl dX4_broughtBy_56
          · have hf := ite_f hf c5
            refine lv_iconst (v := 0) hx hb dX4_broughtBy_48 (by decide) ?_
            refine lv_goto (tgt := 56) hx hb dX4_broughtBy_49 (by decide) ?_
            exact ret_i C0 hP hS (Option.some.inj hf) rfl dX4_broughtBy_56
        · have hf := ite_f hf c4
          by_cases c6 : x1 = 4
          · have hf := ite_t hf c6
            refine lv_tableIn (off := 56) (tgt := 57) hx hb dX4_broughtBy_1 (by rw [c6]; decide) (by rw [c6]; decide) (by rw [c6]; rfl) (by decide) ?_
            refine lv_iconst (v := 0) hx hb dX4_broughtBy_57 (by decide) ?_
            exact ret_i C0 hP hS (Option.some.inj hf) rfl dX4_broughtBy_58
          · have hf := ite_f hf c6
            refine lv_tableOut (tgt := 59) hx hb dX4_broughtBy_1 (by have h0 := lv_neT (a := 0) c1 rfl; have h1 := lv_neT (a := 1) c2 rfl; have h2 := lv_neT (a := 2) c3 rfl; have h3 := lv_neT (a := 3) c4 rfl; have h4 := lv_neT (a := 4) c6 rfl; omega) (by decide) ?_
            refine lv_aload_n hx hb dX4_broughtBy_59 rfl (lv_at hl 0 rfl) ?_
            refine x_get C0 hKC hP (by decide) (EM_0 K ad S) rfl in_X4_broughtBy_X4 16 (by decide) (List.mem_of_getElem? (i := 1) rfl) rfl dX4_broughtBy_60 ?_
            refine lv_iconst (v := 0) hx hb dX4_broughtBy_63 (by decide) ?_
            obtain ⟨g7, hf⟩ := gd_some hf
            refine x_iald C0 hKC hP (IM_11 K ad) (t0 := 0) rfl g7 dX4_broughtBy_64 ?_
            refine lv_iconst (v := 2) hx hb dX4_broughtBy_65 (by decide) ?_
            refine lv_irem hx hb dX4_broughtBy_66 (by decide) ?_
            refine lv_iconst (v := 1) hx hb dX4_broughtBy_67 (by decide) ?_
            refine lv_icmp_ne (tgt := 75) hx hb dX4_broughtBy_68 (by decide) (fun c8 => ?_) (fun c8 => ?_)
            · have hf := ite_f hf c8
              refine lv_iload_n hx hb dX4_broughtBy_75 rfl (lv_at hl 2 rfl) ?_
              exact ret_i C0 hP hS (Option.some.inj hf) rfl dX4_broughtBy_76
            · have hf := ite_t hf c8
              refine lv_iconst (v := 0) hx hb dX4_broughtBy_71 (by decide) ?_
              refine lv_goto (tgt := 76) hx hb dX4_broughtBy_72 (by decide) ?_
              exact ret_i C0 hP hS (Option.some.inj hf) rfl dX4_broughtBy_76
theorem m4_broughtBy (l : Launch) (D : va_G) (K : Nat → ClassId) (ad : Nat → Nat) (hI : INJ NM ad) (S : Mem) (x1 : Int32) (x2 : Int32) {r : Int32} (hf : f4_broughtBy S x1 x2 = some r) : SysI l yX4_broughtBy wsX4_broughtBy rm4_broughtBy D NM ad (EM K ad) (KM D K) [.ref (ad 0), .int x1, .int x2] S r S :=
  met_of (own := RX4) (by decide) rfl rfl (Nat.le_of_ble_eq_true rfl) (fun _ _ s _ _ _ _ ls C0 _ hP hl => w4_broughtBy hI C0 S x1 x2 hf s.heap [] ls hP va_S.rf hl)
theorem in_X4_worthNow_X4 : ∀ w ∈ wsX40, w ∈ wsX4_worthNow := fun _ h => List.mem_cons_of_mem _ (List.mem_append_right _ h)
theorem hd_X4_worthNow : yX4_worthNow.cls = RX4 ∧ yX4_worthNow.cls ≠ "java/lang/invoke/MethodHandle" ∧ yX4_worthNow.cls ≠ "java/lang/invoke/VarHandle" ∧ (parseMethodDescriptor yX4_worthNow.desc).map (fun d => d.parameters.length) = some 1 := by decide +kernel
abbrev rm4_worthNow : Room := { frames := 1, cells := 0, slots := 0, locals := 21 }
set_option maxHeartbeats 4000000 in
set_option maxRecDepth 100000 in
theorem w4_worthNow {p : Program} {l : Launch} {e : Env} {s : State} {m : MethodId} {args : Array Value} {below : List Frame} {meth : Method} {c : Code} {D : va_G} {K : Nat → ClassId} {ad : Nat → Nat} (hI : INJ NM ad) (C0 : Cx p s m args meth c RX4 wsX4_worthNow cX4_worthNow 2 (some .int) (KM D K)) (S : Mem) {r : Int32} : ∀ (x1 : Int32), f4_worthNow S x1 = some r → ∀ (H : Heap) (locs : List Loc) (ls : Array Slot), va_P D vwCl (wl NM ad (EM K ad S)) H → va_S (IW NM ad) s.heap H locs → lv_has ls 2 [(0, .ref (ad 0)), (1, .int x1)] → W p l e rm4_worthNow s m args below meth c H locs 0 0 (MQ below (va_Qi (fun (x : Int32) (u : Mem) => x = r ∧ u = S) (fun u t => va_P D vwCl (wl NM ad (EM K ad u)) t.heap) (IW NM ad)) args s 0 0 (IW NM ad)) (F0 m 0 ls []) := by
  have hx := C0.1
  have hb := C0.2.1
  have hts := C0.2.2.2.2.1
  have hown := C0.2.2.2.1
  have hKC := C0.2.2.2.2.2.2.2
  intro x1 hf H locs ls hP hS hl
  rw [f4_worthNow] at hf
  refine lv_aload_n hx hb dX4_worthNow_0 rfl (lv_at hl 0 rfl) ?_
  refine x_get C0 hKC hP (by decide) (EM_0 K ad S) rfl in_X4_worthNow_X4 13 (by decide) (List.mem_of_getElem? (i := 1) rfl) rfl dX4_worthNow_1 ?_
  refine lv_iload_n hx hb dX4_worthNow_4 rfl (lv_at hl 1 rfl) ?_
  obtain ⟨g1, hf⟩ := gd_some hf
  refine x_iald C0 hKC hP (IM_8 K ad) (t0 := 0) rfl g1 dX4_worthNow_5 ?_
  refine lv_aload_n hx hb dX4_worthNow_6 rfl (lv_at hl 0 rfl) ?_
  refine lv_iload_n hx hb dX4_worthNow_7 rfl (lv_at hl 1 rfl) ?_
  obtain ⟨v3, h2, hf⟩ := b1_some hf
  refine sys_i hS (sys_runV (As := [.int x1]) (rest := [.int (gi S 8 (ix x1))]) C0 KM_ok hKC hP hS (by decide) (EM_0 K ad S) rfl (m4_jar l D K ad hI S x1 h2) gX4_worthNow_X4_jar rfl ⟨rfl, rfl⟩ hd_X4_jar ⟨Nat.le_of_ble_eq_true rfl, Nat.le_of_ble_eq_true rfl⟩ hl.1 rfl (Nat.le_of_ble_eq_true rfl) dX4_worthNow_8 ⟨Nat.le_refl _, Nat.le_refl _⟩) (fun H locs hP hS => ?_)
  obtain ⟨v5, h4, hf⟩ := b1_some hf
  refine sys_i hS (sys_runS (As := [.int (gi S 8 (ix x1)), .int v3]) (rest := []) C0 KM_ok hP hS (m4_worthTo l D K ad hI S (gi S 8 (ix x1)) v3 h4) gX4_worthNow_X4_worthTo rfl ⟨rfl, rfl⟩ hd_X4_worthTo ⟨Nat.le_of_ble_eq_true rfl, Nat.le_of_ble_eq_true rfl⟩ hl.1 rfl (Nat.le_of_ble_eq_true rfl) dX4_worthNow_11 ⟨Nat.le_refl _, Nat.le_refl _⟩) (fun H locs hP hS => ?_)
  exact ret_i C0 hP hS (Option.some.inj hf) rfl dX4_worthNow_14
theorem m4_worthNow (l : Launch) (D : va_G) (K : Nat → ClassId) (ad : Nat → Nat) (hI : INJ NM ad) (S : Mem) (x1 : Int32) {r : Int32} (hf : f4_worthNow S x1 = some r) : SysI l yX4_worthNow wsX4_worthNow rm4_worthNow D NM ad (EM K ad) (KM D K) [.ref (ad 0), .int x1] S r S :=
  met_of (own := RX4) (by decide) rfl rfl (Nat.le_of_ble_eq_true rfl) (fun _ _ s _ _ _ _ ls C0 _ hP hl => w4_worthNow hI C0 S x1 hf s.heap [] ls hP va_S.rf hl)
theorem in_X4_brings_X4 : ∀ w ∈ wsX40, w ∈ wsX4_brings := fun _ h => List.mem_cons_of_mem _ (List.mem_append_right _ h)
theorem hd_X4_brings : yX4_brings.cls = RX4 ∧ yX4_brings.cls ≠ "java/lang/invoke/MethodHandle" ∧ yX4_brings.cls ≠ "java/lang/invoke/VarHandle" ∧ (parseMethodDescriptor yX4_brings.desc).map (fun d => d.parameters.length) = some 1 := by decide +kernel
abbrev rm4_brings : Room := { frames := 1, cells := 0, slots := 0, locals := 22 }
set_option maxHeartbeats 4000000 in
set_option maxRecDepth 100000 in
theorem w4_brings {p : Program} {l : Launch} {e : Env} {s : State} {m : MethodId} {args : Array Value} {below : List Frame} {meth : Method} {c : Code} {D : va_G} {K : Nat → ClassId} {ad : Nat → Nat} (hI : INJ NM ad) (C0 : Cx p s m args meth c RX4 wsX4_brings cX4_brings 2 (some .int) (KM D K)) (S : Mem) {r : Int32} : ∀ (x1 : Int32), f4_brings S x1 = some r → ∀ (H : Heap) (locs : List Loc) (ls : Array Slot), va_P D vwCl (wl NM ad (EM K ad S)) H → va_S (IW NM ad) s.heap H locs → lv_has ls 2 [(0, .ref (ad 0)), (1, .int x1)] → W p l e rm4_brings s m args below meth c H locs 0 0 (MQ below (va_Qi (fun (x : Int32) (u : Mem) => x = r ∧ u = S) (fun u t => va_P D vwCl (wl NM ad (EM K ad u)) t.heap) (IW NM ad)) args s 0 0 (IW NM ad)) (F0 m 0 ls []) := by
  have hx := C0.1
  have hb := C0.2.1
  have hts := C0.2.2.2.2.1
  have hown := C0.2.2.2.1
  have hKC := C0.2.2.2.2.2.2.2
  intro x1 hf H locs ls hP hS hl
  rw [f4_brings] at hf
  refine lv_aload_n hx hb dX4_brings_0 rfl (lv_at hl 0 rfl) ?_
  refine lv_aload_n hx hb dX4_brings_1 rfl (lv_at hl 0 rfl) ?_
  refine x_get C0 hKC hP (by decide) (EM_0 K ad S) rfl in_X4_brings_X4 13 (by decide) (List.mem_of_getElem? (i := 1) rfl) rfl dX4_brings_2 ?_
  refine lv_iload_n hx hb dX4_brings_5 rfl (lv_at hl 1 rfl) ?_
  obtain ⟨g1, hf⟩ := gd_some hf
  refine x_iald C0 hKC hP (IM_8 K ad) (t0 := 0) rfl g1 dX4_brings_6 ?_
  refine lv_aload_n hx hb dX4_brings_7 rfl (lv_at hl 0 rfl) ?_
  refine lv_iload_n hx hb dX4_brings_8 rfl (lv_at hl 1 rfl) ?_
  obtain ⟨v3, h2, hf⟩ := b1_some hf
  refine sys_i hS (sys_runV (As := [.int x1]) (rest := [.int (gi S 8 (ix x1)), .ref (ad 0)]) C0 KM_ok hKC hP hS (by decide) (EM_0 K ad S) rfl (m4_jar l D K ad hI S x1 h2) gX4_brings_X4_jar rfl ⟨rfl, rfl⟩ hd_X4_jar ⟨Nat.le_of_ble_eq_true rfl, Nat.le_of_ble_eq_true rfl⟩ hl.1 rfl (Nat.le_of_ble_eq_true rfl) dX4_brings_9 ⟨Nat.le_refl _, Nat.le_refl _⟩) (fun H locs hP hS => ?_)
  obtain ⟨v5, h4, hf⟩ := b1_some hf
  refine sys_i hS (sys_runV (As := [.int (gi S 8 (ix x1)), .int v3]) (rest := []) C0 KM_ok hKC hP hS (by decide) (EM_0 K ad S) rfl (m4_broughtBy l D K ad hI S (gi S 8 (ix x1)) v3 h4) gX4_brings_X4_broughtBy rfl ⟨rfl, rfl⟩ hd_X4_broughtBy ⟨Nat.le_of_ble_eq_true rfl, Nat.le_of_ble_eq_true rfl⟩ hl.1 rfl (Nat.le_of_ble_eq_true rfl) dX4_brings_12 ⟨Nat.le_refl _, Nat.le_refl _⟩) (fun H locs hP hS => ?_)
  exact ret_i C0 hP hS (Option.some.inj hf) rfl dX4_brings_15
theorem m4_brings (l : Launch) (D : va_G) (K : Nat → ClassId) (ad : Nat → Nat) (hI : INJ NM ad) (S : Mem) (x1 : Int32) {r : Int32} (hf : f4_brings S x1 = some r) : SysI l yX4_brings wsX4_brings rm4_brings D NM ad (EM K ad) (KM D K) [.ref (ad 0), .int x1] S r S :=
  met_of (own := RX4) (by decide) rfl rfl (Nat.le_of_ble_eq_true rfl) (fun _ _ s _ _ _ _ ls C0 _ hP hl => w4_brings hI C0 S x1 hf s.heap [] ls hP va_S.rf hl)
theorem in_X4_comesOff_X4 : ∀ w ∈ wsX40, w ∈ wsX4_comesOff := fun _ h => List.mem_cons_of_mem _ (List.mem_append_right _ h)
theorem hd_X4_comesOff : yX4_comesOff.cls = RX4 ∧ yX4_comesOff.cls ≠ "java/lang/invoke/MethodHandle" ∧ yX4_comesOff.cls ≠ "java/lang/invoke/VarHandle" ∧ (parseMethodDescriptor yX4_comesOff.desc).map (fun d => d.parameters.length) = some 1 := by decide +kernel
abbrev rm4_comesOff : Room := { frames := 2, cells := 0, slots := 0, locals := 42 }
set_option maxHeartbeats 4000000 in
set_option maxRecDepth 100000 in
theorem w4_comesOff {p : Program} {l : Launch} {e : Env} {s : State} {m : MethodId} {args : Array Value} {below : List Frame} {meth : Method} {c : Code} {D : va_G} {K : Nat → ClassId} {ad : Nat → Nat} (hI : INJ NM ad) (C0 : Cx p s m args meth c RX4 wsX4_comesOff cX4_comesOff 2 (some .boolean) (KM D K)) (S : Mem) {r : Int32} : ∀ (x1 : Int32), f4_comesOff S x1 = some r → ∀ (H : Heap) (locs : List Loc) (ls : Array Slot), va_P D vwCl (wl NM ad (EM K ad S)) H → va_S (IW NM ad) s.heap H locs → lv_has ls 2 [(0, .ref (ad 0)), (1, .int x1)] → W p l e rm4_comesOff s m args below meth c H locs 0 0 (MQ below (va_Qi (fun (x : Int32) (u : Mem) => x = r ∧ u = S) (fun u t => va_P D vwCl (wl NM ad (EM K ad u)) t.heap) (IW NM ad)) args s 0 0 (IW NM ad)) (F0 m 0 ls []) := by
  have hx := C0.1
  have hb := C0.2.1
  have hts := C0.2.2.2.2.1
  have hown := C0.2.2.2.1
  have hKC := C0.2.2.2.2.2.2.2
  intro x1 hf H locs ls hP hS hl
  rw [f4_comesOff] at hf
  refine lv_aload_n hx hb dX4_comesOff_0 rfl (lv_at hl 0 rfl) ?_
  refine lv_iload_n hx hb dX4_comesOff_1 rfl (lv_at hl 1 rfl) ?_
  obtain ⟨v2, h1, hf⟩ := b1_some hf
  refine sys_i hS (sys_runV (As := [.int x1]) (rest := []) C0 KM_ok hKC hP hS (by decide) (EM_0 K ad S) rfl (m4_worthNow l D K ad hI S x1 h1) gX4_comesOff_X4_worthNow rfl ⟨rfl, rfl⟩ hd_X4_worthNow ⟨Nat.le_of_ble_eq_true rfl, Nat.le_of_ble_eq_true rfl⟩ hl.1 rfl (Nat.le_of_ble_eq_true rfl) dX4_comesOff_2 ⟨Nat.le_refl _, Nat.le_refl _⟩) (fun H locs hP hS => ?_)
  refine lv_iconst (v := 5) hx hb dX4_comesOff_5 (by decide) ?_
  refine lv_aload_n hx hb dX4_comesOff_6 rfl (lv_at hl 0 rfl) ?_
  refine x_get C0 hKC hP (by decide) (EM_0 K ad S) rfl in_X4_comesOff_X4 15 (by decide) (List.mem_of_getElem? (i := 1) rfl) rfl dX4_comesOff_7 ?_
  refine lv_iload_n hx hb dX4_comesOff_10 rfl (lv_at hl 1 rfl) ?_
  obtain ⟨g3, hf⟩ := gd_some hf
  refine x_iald C0 hKC hP (IM_10 K ad) (t0 := 0) rfl g3 dX4_comesOff_11 ?_
  refine lv_imul hx hb dX4_comesOff_12 ?_
  refine lv_icmp_lt (tgt := 20) hx hb dX4_comesOff_13 (by decide) (fun c4 => ?_) (fun c4 => ?_)
  · have hf := ite_t hf c4
    refine lv_iconst (v := 0) hx hb dX4_comesOff_20 (by decide) ?_
    exact ret_z C0 hP hS (Or.inl rfl) (Option.some.inj hf) rfl dX4_comesOff_21
  · have hf := ite_f hf c4
    refine lv_iconst (v := 1) hx hb dX4_comesOff_16 (by decide) ?_
    refine lv_goto (tgt := 21) hx hb dX4_comesOff_17 (by decide) ?_
    exact ret_z C0 hP hS (Or.inr rfl) (Option.some.inj hf) rfl dX4_comesOff_21
theorem m4_comesOff (l : Launch) (D : va_G) (K : Nat → ClassId) (ad : Nat → Nat) (hI : INJ NM ad) (S : Mem) (x1 : Int32) {r : Int32} (hf : f4_comesOff S x1 = some r) : SysI l yX4_comesOff wsX4_comesOff rm4_comesOff D NM ad (EM K ad) (KM D K) [.ref (ad 0), .int x1] S r S :=
  met_of (own := RX4) (by decide) rfl rfl (Nat.le_of_ble_eq_true rfl) (fun _ _ s _ _ _ _ ls C0 _ hP hl => w4_comesOff hI C0 S x1 hf s.heap [] ls hP va_S.rf hl)
theorem hd_X4_isOf : yX4_isOf.cls ≠ "java/lang/invoke/MethodHandle" ∧ yX4_isOf.cls ≠ "java/lang/invoke/VarHandle" ∧ (parseMethodDescriptor yX4_isOf.desc).map (fun d => d.parameters.length) = some 2 := by decide +kernel
abbrev rm4_isOf : Room := { frames := 0, cells := 0, slots := 0, locals := 0 }
set_option maxHeartbeats 4000000 in
set_option maxRecDepth 100000 in
theorem w4_isOf_b15 {p : Program} {l : Launch} {e : Env} {s : State} {m : MethodId} {args : Array Value} {below : List Frame} {meth : Method} {c : Code} {D : va_G} {K : Nat → ClassId} {ad : Nat → Nat} (hI : INJ NM ad) (C0 : Cx p s m args meth c RX4 wsX4_isOf cX4_isOf 2 (some .boolean) (KM D K)) (S : Mem) {r : Int32} : ∀ (x0 : Int32) (x1 : Int32), f4_isOf_b15 x0 x1 = some r → ∀ (H : Heap) (locs : List Loc) (ls : Array Slot), va_P D vwCl (wl NM ad (EM K ad S)) H → va_S (IW NM ad) s.heap H locs → lv_has ls 2 [(0, .int x0), (1, .int x1)] → W p l e rm4_isOf s m args below meth c H locs 0 0 (MQ below (va_Qi (fun (x : Int32) (u : Mem) => x = r ∧ u = S) (fun u t => va_P D vwCl (wl NM ad (EM K ad u)) t.heap) (IW NM ad)) args s 0 0 (IW NM ad)) (F0 m 15 ls []) := by
  have hx := C0.1
  have hb := C0.2.1
  have hts := C0.2.2.2.2.1
  have hown := C0.2.2.2.1
  have hKC := C0.2.2.2.2.2.2.2
  intro x0 x1 hf H locs ls hP hS hl
  rw [f4_isOf_b15] at hf
  refine lv_iload_n hx hb dX4_isOf_15 rfl (lv_at hl 0 rfl) ?_
  refine lv_iconst (v := 5) hx hb dX4_isOf_16 (by decide) ?_
  refine lv_icmp_ne (tgt := 29) hx hb dX4_isOf_17 (by decide) (fun c1 => ?_) (fun c1 => ?_)
  · have hf := ite_f hf c1
    refine lv_iconst (v := 0) hx hb dX4_isOf_29 (by decide) ?_
    exact ret_z C0 hP hS (Or.inl rfl) (Option.some.inj hf) rfl dX4_isOf_30
  · have hf := ite_t hf c1
    refine lv_iload_n hx hb dX4_isOf_20 rfl (lv_at hl 1 rfl) ?_
    refine lv_iconst (v := 2) hx hb dX4_isOf_21 (by decide) ?_
    refine lv_icmp_ne (tgt := 29) hx hb dX4_isOf_22 (by decide) (fun c2 => ?_) (fun c2 => ?_)
    · have hf := ite_f hf c2
      refine lv_iconst (v := 0) hx hb dX4_isOf_29 (by decide) ?_
      exact ret_z C0 hP hS (Or.inl rfl) (Option.some.inj hf) rfl dX4_isOf_30
    · have hf := ite_t hf c2
      refine lv_iconst (v := 1) hx hb dX4_isOf_25 (by decide) ?_
      refine lv_goto (tgt := 30) hx hb dX4_isOf_26 (by decide) ?_
      exact ret_z C0 hP hS (Or.inr rfl) (Option.some.inj hf) rfl dX4_isOf_30
set_option maxHeartbeats 4000000 in
set_option maxRecDepth 100000 in
theorem w4_isOf {p : Program} {l : Launch} {e : Env} {s : State} {m : MethodId} {args : Array Value} {below : List Frame} {meth : Method} {c : Code} {D : va_G} {K : Nat → ClassId} {ad : Nat → Nat} (hI : INJ NM ad) (C0 : Cx p s m args meth c RX4 wsX4_isOf cX4_isOf 2 (some .boolean) (KM D K)) (S : Mem) {r : Int32} : ∀ (x0 : Int32) (x1 : Int32), f4_isOf x0 x1 = some r → ∀ (H : Heap) (locs : List Loc) (ls : Array Slot), va_P D vwCl (wl NM ad (EM K ad S)) H → va_S (IW NM ad) s.heap H locs → lv_has ls 2 [(0, .int x0), (1, .int x1)] → W p l e rm4_isOf s m args below meth c H locs 0 0 (MQ below (va_Qi (fun (x : Int32) (u : Mem) => x = r ∧ u = S) (fun u t => va_P D vwCl (wl NM ad (EM K ad u)) t.heap) (IW NM ad)) args s 0 0 (IW NM ad)) (F0 m 0 ls []) := by
  have hx := C0.1
  have hb := C0.2.1
  have hts := C0.2.2.2.2.1
  have hown := C0.2.2.2.1
  have hKC := C0.2.2.2.2.2.2.2
  intro x0 x1 hf H locs ls hP hS hl
  rw [f4_isOf] at hf
  refine lv_iload_n hx hb dX4_isOf_0 rfl (lv_at hl 0 rfl) ?_
  refine lv_iload_n hx hb dX4_isOf_1 rfl (lv_at hl 1 rfl) ?_
  refine lv_icmp_eq (tgt := 25) hx hb dX4_isOf_2 (by decide) (fun c1 => ?_) (fun c1 => ?_)
  · have hf := ite_t hf c1
    refine lv_iconst (v := 1) hx hb dX4_isOf_25 (by decide) ?_
    refine lv_goto (tgt := 30) hx hb dX4_isOf_26 (by decide) ?_
    exact ret_z C0 hP hS (Or.inr rfl) (Option.some.inj hf) rfl dX4_isOf_30
  · have hf := ite_f hf c1
    refine lv_iload_n hx hb dX4_isOf_5 rfl (lv_at hl 0 rfl) ?_
    refine lv_iconst (v := 4) hx hb dX4_isOf_6 (by decide) ?_
    refine lv_icmp_ne (tgt := 15) hx hb dX4_isOf_7 (by decide) (fun c2 => ?_) (fun c2 => ?_)
    · have hf := ite_f hf c2
      exact w4_isOf_b15 hI C0 S x0 x1 hf H locs ls hP hS (lv_sub hl [0, 1] rfl)
    · have hf := ite_t hf c2
      refine lv_iload_n hx hb dX4_isOf_10 rfl (lv_at hl 1 rfl) ?_
      refine lv_iconst (v := 1) hx hb dX4_isOf_11 (by decide) ?_
      refine lv_icmp_eq (tgt := 25) hx hb dX4_isOf_12 (by decide) (fun c3 => ?_) (fun c3 => ?_)
      · have hf := ite_t hf c3
        refine lv_iconst (v := 1) hx hb dX4_isOf_25 (by decide) ?_
        refine lv_goto (tgt := 30) hx hb dX4_isOf_26 (by decide) ?_
        exact ret_z C0 hP hS (Or.inr rfl) (Option.some.inj hf) rfl dX4_isOf_30
      · have hf := ite_f hf c3
        exact w4_isOf_b15 hI C0 S x0 x1 hf H locs ls hP hS (lv_sub hl [0, 1] rfl)
theorem m4_isOf (l : Launch) (D : va_G) (K : Nat → ClassId) (ad : Nat → Nat) (hI : INJ NM ad) (S : Mem) (x0 : Int32) (x1 : Int32) {r : Int32} (hf : f4_isOf x0 x1 = some r) : SysI l yX4_isOf wsX4_isOf rm4_isOf D NM ad (EM K ad) (KM D K) [.int x0, .int x1] S r S :=
  met_of (own := RX4) (by decide) rfl rfl (Nat.le_of_ble_eq_true rfl) (fun _ _ s _ _ _ _ ls C0 _ hP hl => w4_isOf hI C0 S x0 x1 hf s.heap [] ls hP va_S.rf hl)
theorem in_X4_told_X4 : ∀ w ∈ wsX40, w ∈ wsX4_told := fun _ h => List.mem_cons_of_mem _ (List.mem_append_right _ h)
theorem hd_X4_told : yX4_told.cls = RX4 ∧ yX4_told.cls ≠ "java/lang/invoke/MethodHandle" ∧ yX4_told.cls ≠ "java/lang/invoke/VarHandle" ∧ (parseMethodDescriptor yX4_told.desc).map (fun d => d.parameters.length) = some 2 := by decide +kernel
abbrev rm4_told : Room := { frames := 3, cells := 0, slots := 0, locals := 63 }
set_option maxHeartbeats 4000000 in
set_option maxRecDepth 100000 in
theorem w4_told {p : Program} {l : Launch} {e : Env} {s : State} {m : MethodId} {args : Array Value} {below : List Frame} {meth : Method} {c : Code} {D : va_G} {K : Nat → ClassId} {ad : Nat → Nat} (hI : INJ NM ad) (C0 : Cx p s m args meth c RX4 wsX4_told cX4_told 3 (some .int) (KM D K)) (S : Mem) {r : Int32} : ∀ (x1 : Int32) (x2 : Int32), f4_told S x1 x2 = some r → ∀ (H : Heap) (locs : List Loc) (ls : Array Slot), va_P D vwCl (wl NM ad (EM K ad S)) H → va_S (IW NM ad) s.heap H locs → lv_has ls 3 [(0, .ref (ad 0)), (1, .int x1), (2, .int x2)] → W p l e rm4_told s m args below meth c H locs 0 0 (MQ below (va_Qi (fun (x : Int32) (u : Mem) => x = r ∧ u = S) (fun u t => va_P D vwCl (wl NM ad (EM K ad u)) t.heap) (IW NM ad)) args s 0 0 (IW NM ad)) (F0 m 0 ls []) := by
  have hx := C0.1
  have hb := C0.2.1
  have hts := C0.2.2.2.2.1
  have hown := C0.2.2.2.1
  have hKC := C0.2.2.2.2.2.2.2
  intro x1 x2 hf H locs ls hP hS hl
  rw [f4_told] at hf
  refine lv_iload_n hx hb dX4_told_0 rfl (lv_at hl 2 rfl) ?_
  by_cases c1 : x2 = 0
  · have hf := ite_t hf c1
    refine lv_tableIn (off := 39) (tgt := 40) hx hb dX4_told_1 (by rw [c1]; decide) (by rw [c1]; decide) (by rw [c1]; rfl) (by decide) ?_
    refine lv_aload_n hx hb dX4_told_40 rfl (lv_at hl 0 rfl) ?_
    refine x_get C0 hKC hP (by decide) (EM_0 K ad S) rfl in_X4_told_X4 13 (by decide) (List.mem_of_getElem? (i := 1) rfl) rfl dX4_told_41 ?_
    refine lv_iload_n hx hb dX4_told_44 rfl (lv_at hl 1 rfl) ?_
    obtain ⟨g2, hf⟩ := gd_some hf
    refine x_iald C0 hKC hP (IM_8 K ad) (t0 := 0) rfl g2 dX4_told_45 ?_
    exact ret_i C0 hP hS (Option.some.inj hf) rfl dX4_told_46
  · have hf := ite_f hf c1
    by_cases c3 : x2 = 1
    · have hf := ite_t hf c3
      refine lv_tableIn (off := 46) (tgt := 47) hx hb dX4_told_1 (by rw [c3]; decide) (by rw [c3]; decide) (by rw [c3]; rfl) (by decide) ?_
      refine lv_aload_n hx hb dX4_told_47 rfl (lv_at hl 0 rfl) ?_
      refine x_get C0 hKC hP (by decide) (EM_0 K ad S) rfl in_X4_told_X4 14 (by decide) (List.mem_of_getElem? (i := 2) rfl) rfl dX4_told_48 ?_
      refine lv_iload_n hx hb dX4_told_51 rfl (lv_at hl 1 rfl) ?_
      obtain ⟨g4, hf⟩ := gd_some hf
      refine x_iald C0 hKC hP (IM_9 K ad) (t0 := 0) rfl g4 dX4_told_52 ?_
      exact ret_i C0 hP hS (Option.some.inj hf) rfl dX4_told_53
    · have hf := ite_f hf c3
      by_cases c5 : x2 = 2
      · have hf := ite_t hf c5
        refine lv_tableIn (off := 53) (tgt := 54) hx hb dX4_told_1 (by rw [c5]; decide) (by rw [c5]; decide) (by rw [c5]; rfl) (by decide) ?_
        refine lv_aload_n hx hb dX4_told_54 rfl (lv_at hl 0 rfl) ?_
        refine x_get C0 hKC hP (by decide) (EM_0 K ad S) rfl in_X4_told_X4 15 (by decide) (List.mem_of_getElem? (i := 3) rfl) rfl dX4_told_55 ?_
        refine lv_iload_n hx hb dX4_told_58 rfl (lv_at hl 1 rfl) ?_
        obtain ⟨g6, hf⟩ := gd_some hf
        refine x_iald C0 hKC hP (IM_10 K ad) (t0 := 0) rfl g6 dX4_told_59 ?_
        exact ret_i C0 hP hS (Option.some.inj hf) rfl dX4_told_60
      · have hf := ite_f hf c5
        by_cases c7 : x2 = 3
        · have hf := ite_t hf c7
          refine lv_tableIn (off := 60) (tgt := 61) hx hb dX4_told_1 (by rw [c7]; decide) (by rw [c7]; decide) (by rw [c7]; rfl) (by decide) ?_
          refine lv_aload_n hx hb dX4_told_61 rfl (lv_at hl 0 rfl) ?_
          refine lv_iload_n hx hb dX4_told_62 rfl (lv_at hl 1 rfl) ?_
          obtain ⟨v9, h8, hf⟩ := b1_some hf
          refine sys_i hS (sys_runV (As := [.int x1]) (rest := []) C0 KM_ok hKC hP hS (by decide) (EM_0 K ad S) rfl (m4_jar l D K ad hI S x1 h8) gX4_told_X4_jar rfl ⟨rfl, rfl⟩ hd_X4_jar ⟨Nat.le_of_ble_eq_true rfl, Nat.le_of_ble_eq_true rfl⟩ hl.1 rfl (Nat.le_of_ble_eq_true rfl) dX4_told_63 ⟨Nat.le_refl _, Nat.le_refl _⟩) (fun H locs hP hS => ?_)
          exact ret_i C0 hP hS (Option.some.inj hf) rfl dX4_told_66
        · have hf := ite_f hf c7
          by_cases c10 : x2 = 4
          · have hf := ite_t hf c10
            refine lv_tableIn (off := 66) (tgt := 67) hx hb dX4_told_1 (by rw [c10]; decide) (by rw [c10]; decide) (by rw [c10]; rfl) (by decide) ?_
            refine lv_aload_n hx hb dX4_told_67 rfl (lv_at hl 0 rfl) ?_
            refine lv_iload_n hx hb dX4_told_68 rfl (lv_at hl 1 rfl) ?_
            obtain ⟨v12, h11, hf⟩ := b1_some hf
            refine sys_i hS (sys_runV (As := [.int x1]) (rest := []) C0 KM_ok hKC hP hS (by decide) (EM_0 K ad S) rfl (m4_brings l D K ad hI S x1 h11) gX4_told_X4_brings rfl ⟨rfl, rfl⟩ hd_X4_brings ⟨Nat.le_of_ble_eq_true rfl, Nat.le_of_ble_eq_true rfl⟩ hl.1 rfl (Nat.le_of_ble_eq_true rfl) dX4_told_69 ⟨Nat.le_refl _, Nat.le_refl _⟩) (fun H locs hP hS => ?_)
            exact ret_i C0 hP hS (Option.some.inj hf) rfl dX4_told_72
          · have hf := ite_f hf c10
            by_cases c13 : x2 = 5
            · have hf := ite_t hf c13
              refine lv_tableIn (off := 72) (tgt := 73) hx hb dX4_told_1 (by rw [c13]; decide) (by rw [c13]; decide) (by rw [c13]; rfl) (by decide) ?_
              refine lv_aload_n hx hb dX4_told_73 rfl (lv_at hl 0 rfl) ?_
              refine lv_iload_n hx hb dX4_told_74 rfl (lv_at hl 1 rfl) ?_
              obtain ⟨v15, h14, hf⟩ := b1_some hf
              refine sys_i hS (sys_runV (As := [.int x1]) (rest := []) C0 KM_ok hKC hP hS (by decide) (EM_0 K ad S) rfl (m4_worthNow l D K ad hI S x1 h14) gX4_told_X4_worthNow rfl ⟨rfl, rfl⟩ hd_X4_worthNow ⟨Nat.le_of_ble_eq_true rfl, Nat.le_of_ble_eq_true rfl⟩ hl.1 rfl (Nat.le_of_ble_eq_true rfl) dX4_told_75 ⟨Nat.le_refl _, Nat.le_refl _⟩) (fun H locs hP hS => ?_)
              exact ret_i C0 hP hS (Option.some.inj hf) rfl dX4_told_78
            · have hf := ite_f hf c13
              refine lv_tableOut (tgt := 79) hx hb dX4_told_1 (by have h0 := lv_neT (a := 0) c1 rfl; have h1 := lv_neT (a := 1) c3 rfl; have h2 := lv_neT (a := 2) c5 rfl; have h3 := lv_neT (a := 3) c7 rfl; have h4 := lv_neT (a := 4) c10 rfl; have h5 := lv_neT (a := 5) c13 rfl; omega) (by decide) ?_
              refine lv_aload_n hx hb dX4_told_79 rfl (lv_at hl 0 rfl) ?_
              refine lv_iload_n hx hb dX4_told_80 rfl (lv_at hl 1 rfl) ?_
              obtain ⟨v17, h16, hf⟩ := b1_some hf
              refine sys_i hS (sys_runV (As := [.int x1]) (rest := []) C0 KM_ok hKC hP hS (by decide) (EM_0 K ad S) rfl (m4_comesOff l D K ad hI S x1 h16) gX4_told_X4_comesOff rfl ⟨rfl, rfl⟩ hd_X4_comesOff ⟨Nat.le_of_ble_eq_true rfl, Nat.le_of_ble_eq_true rfl⟩ hl.1 rfl (Nat.le_of_ble_eq_true rfl) dX4_told_81 ⟨Nat.le_refl _, Nat.le_refl _⟩) (fun H locs hP hS => ?_)
              refine lv_if_eq (tgt := 91) hx hb dX4_told_84 (by decide) (fun c18 => ?_) (fun c18 => ?_)
              · have hf := ite_t hf c18
                refine lv_iconst (v := 0) hx hb dX4_told_91 (by decide) ?_
                exact ret_i C0 hP hS (Option.some.inj hf) rfl dX4_told_92
              · have hf := ite_f hf c18
                refine lv_iconst (v := 1) hx hb dX4_told_87 (by decide) ?_
                refine lv_goto (tgt := 92) hx hb dX4_told_88 (by decide) ?_
                exact ret_i C0 hP hS (Option.some.inj hf) rfl dX4_told_92
theorem m4_told (l : Launch) (D : va_G) (K : Nat → ClassId) (ad : Nat → Nat) (hI : INJ NM ad) (S : Mem) (x1 : Int32) (x2 : Int32) {r : Int32} (hf : f4_told S x1 x2 = some r) : SysI l yX4_told wsX4_told rm4_told D NM ad (EM K ad) (KM D K) [.ref (ad 0), .int x1, .int x2] S r S :=
  met_of (own := RX4) (by decide) rfl rfl (Nat.le_of_ble_eq_true rfl) (fun _ _ s _ _ _ _ ls C0 _ hP hl => w4_told hI C0 S x1 x2 hf s.heap [] ls hP va_S.rf hl)
theorem in_X4_house_X4 : ∀ w ∈ wsX40, w ∈ wsX4_house := fun _ h => List.mem_cons_of_mem _ (List.mem_append_right _ h)
theorem hd_X4_house : yX4_house.cls = RX4 ∧ yX4_house.cls ≠ "java/lang/invoke/MethodHandle" ∧ yX4_house.cls ≠ "java/lang/invoke/VarHandle" ∧ (parseMethodDescriptor yX4_house.desc).map (fun d => d.parameters.length) = some 2 := by decide +kernel
abbrev rm4_house : Room := { frames := 4, cells := 0, slots := 0, locals := 85 }
set_option maxHeartbeats 4000000 in
set_option maxRecDepth 100000 in
theorem w4_house {p : Program} {l : Launch} {e : Env} {s : State} {m : MethodId} {args : Array Value} {below : List Frame} {meth : Method} {c : Code} {D : va_G} {K : Nat → ClassId} {ad : Nat → Nat} (hI : INJ NM ad) (C0 : Cx p s m args meth c RX4 wsX4_house cX4_house 3 (some .int) (KM D K)) {r : Int32} {T : Mem} : ∀ (S : Mem) (x1 : Int32) (x2 : Int32), f4_house S x1 x2 = some (r, T) → ∀ (H : Heap) (locs : List Loc) (ls : Array Slot), va_P D vwCl (wl NM ad (EM K ad S)) H → va_S (IW NM ad) s.heap H locs → lv_has ls 3 [(0, .ref (ad 0)), (1, .int x1), (2, .int x2)] → W p l e rm4_house s m args below meth c H locs 0 0 (MQ below (va_Qi (fun (x : Int32) (u : Mem) => x = r ∧ u = T) (fun u t => va_P D vwCl (wl NM ad (EM K ad u)) t.heap) (IW NM ad)) args s 0 0 (IW NM ad)) (F0 m 0 ls []) := by
  have hx := C0.1
  have hb := C0.2.1
  have hts := C0.2.2.2.2.1
  have hown := C0.2.2.2.1
  have hKC := C0.2.2.2.2.2.2.2
  intro S x1 x2 hf H locs ls hP hS hl
  rw [f4_house] at hf
  refine lv_aload_n hx hb dX4_house_0 rfl (lv_at hl 0 rfl) ?_
  refine lv_iload_n hx hb dX4_house_1 rfl (lv_at hl 1 rfl) ?_
  obtain ⟨v2, h1, hf⟩ := b1_some hf
  refine sys_i hS (sys_runV (As := [.int x1]) (rest := []) C0 KM_ok hKC hP hS (by decide) (EM_0 K ad S) rfl (m4_isHouse l D K ad hI S x1 h1) gX4_house_X4_isHouse rfl ⟨rfl, rfl⟩ hd_X4_isHouse ⟨Nat.le_of_ble_eq_true rfl, Nat.le_of_ble_eq_true rfl⟩ hl.1 rfl (Nat.le_of_ble_eq_true rfl) dX4_house_2 ⟨Nat.le_refl _, Nat.le_refl _⟩) (fun H locs hP hS => ?_)
  refine lv_if_eq (tgt := 34) hx hb dX4_house_5 (by decide) (fun c3 => ?_) (fun c3 => ?_)
  · have hf := ite_t hf c3
    refine lv_iconst (v := (-1)) hx hb dX4_house_34 (by decide) ?_
    exact ret_i C0 hP hS (congrArg Prod.fst (Option.some.inj hf)) (congrArg Prod.snd (Option.some.inj hf)) dX4_house_35
  · have hf := ite_f hf c3
    refine lv_iload_n hx hb dX4_house_8 rfl (lv_at hl 2 rfl) ?_
    refine lv_i2l (v := (Int32.toInt64 x2)) hx hb dX4_house_9 rfl ?_
    refine lv_lconst (v := 0) hx hb dX4_house_10 (by decide) ?_
    refine lv_ldc2 (v := 6) hx hb hown (hts _ (List.mem_of_getElem? (i := 1) rfl)) dX4_house_11 ?_
    obtain ⟨v5, h4, hf⟩ := b1_some hf
    refine sys_i hS (sys_runS (As := [.long (Int32.toInt64 x2), .long 0, .long 6]) (rest := []) C0 KM_ok hP hS (m4_in l D K ad hI S (Int32.toInt64 x2) 0 6 h4) gX4_house_X4_in rfl ⟨rfl, rfl⟩ hd_X4_in ⟨Nat.le_of_ble_eq_true rfl, Nat.le_of_ble_eq_true rfl⟩ hl.1 rfl (Nat.le_of_ble_eq_true rfl) dX4_house_14 ⟨Nat.le_refl _, Nat.le_refl _⟩) (fun H locs hP hS => ?_)
    refine lv_if_eq (tgt := 34) hx hb dX4_house_17 (by decide) (fun c6 => ?_) (fun c6 => ?_)
    · have hf := ite_t hf c6
      refine lv_iconst (v := (-1)) hx hb dX4_house_34 (by decide) ?_
      exact ret_i C0 hP hS (congrArg Prod.fst (Option.some.inj hf)) (congrArg Prod.snd (Option.some.inj hf)) dX4_house_35
    · have hf := ite_f hf c6
      refine lv_aload_n hx hb dX4_house_20 rfl (lv_at hl 0 rfl) ?_
      refine lv_iconst (v := 1) hx hb dX4_house_21 (by decide) ?_
      refine lv_aload_n hx hb dX4_house_22 rfl (lv_at hl 0 rfl) ?_
      refine lv_iload_n hx hb dX4_house_23 rfl (lv_at hl 1 rfl) ?_
      refine lv_iload_n hx hb dX4_house_24 rfl (lv_at hl 2 rfl) ?_
      obtain ⟨v8, h7, hf⟩ := b1_some hf
      refine sys_i hS (sys_runV (As := [.int x1, .int x2]) (rest := [.int 1, .ref (ad 0)]) C0 KM_ok hKC hP hS (by decide) (EM_0 K ad S) rfl (m4_told l D K ad hI S x1 x2 h7) gX4_house_X4_told rfl ⟨rfl, rfl⟩ hd_X4_told ⟨Nat.le_of_ble_eq_true rfl, Nat.le_of_ble_eq_true rfl⟩ hl.1 rfl (Nat.le_of_ble_eq_true rfl) dX4_house_25 ⟨Nat.le_refl _, Nat.le_refl _⟩) (fun H locs hP hS => ?_)
      obtain ⟨v10, S11, h9, hf⟩ := b2_some hf
      refine sys_i hS (sys_runV (As := [.int 1, .int v8]) (rest := []) C0 KM_ok hKC hP hS (by decide) (EM_0 K ad S) rfl (m4_tells l D K ad hI S 1 v8 h9) gX4_house_X4_tells rfl ⟨rfl, rfl⟩ hd_X4_tells ⟨Nat.le_of_ble_eq_true rfl, Nat.le_of_ble_eq_true rfl⟩ hl.1 rfl (Nat.le_of_ble_eq_true rfl) dX4_house_28 ⟨Nat.le_refl _, Nat.le_refl _⟩) (fun H locs hP hS => ?_)
      refine lv_goto (tgt := 35) hx hb dX4_house_31 (by decide) ?_
      exact ret_i C0 hP hS (congrArg Prod.fst (Option.some.inj hf)) (congrArg Prod.snd (Option.some.inj hf)) dX4_house_35
theorem m4_house (l : Launch) (D : va_G) (K : Nat → ClassId) (ad : Nat → Nat) (hI : INJ NM ad) (S : Mem) (x1 : Int32) (x2 : Int32) {r : Int32} {T : Mem} (hf : f4_house S x1 x2 = some (r, T)) : SysI l yX4_house wsX4_house rm4_house D NM ad (EM K ad) (KM D K) [.ref (ad 0), .int x1, .int x2] S r T :=
  met_of (own := RX4) (by decide) rfl rfl (Nat.le_of_ble_eq_true rfl) (fun _ _ s _ _ _ _ ls C0 _ hP hl => w4_house hI C0 S x1 x2 hf s.heap [] ls hP va_S.rf hl)
theorem in_X4_mark_X4 : ∀ w ∈ wsX40, w ∈ wsX4_mark := fun _ h => List.mem_cons_of_mem _ (List.mem_append_right _ h)
theorem hd_X4_mark : yX4_mark.cls = RX4 ∧ yX4_mark.cls ≠ "java/lang/invoke/MethodHandle" ∧ yX4_mark.cls ≠ "java/lang/invoke/VarHandle" ∧ (parseMethodDescriptor yX4_mark.desc).map (fun d => d.parameters.length) = some 2 := by decide +kernel
abbrev rm4_mark : Room := { frames := 4, cells := 0, slots := 0, locals := 85 }
set_option maxHeartbeats 4000000 in
set_option maxRecDepth 100000 in
theorem w4_mark {p : Program} {l : Launch} {e : Env} {s : State} {m : MethodId} {args : Array Value} {below : List Frame} {meth : Method} {c : Code} {D : va_G} {K : Nat → ClassId} {ad : Nat → Nat} (hI : INJ NM ad) (C0 : Cx p s m args meth c RX4 wsX4_mark cX4_mark 4 (some .int) (KM D K)) {r : Int32} {T : Mem} : ∀ (S : Mem) (x1 : Int32) (x2 : Int32), f4_mark S x1 x2 = some (r, T) → ∀ (H : Heap) (locs : List Loc) (ls : Array Slot), va_P D vwCl (wl NM ad (EM K ad S)) H → va_S (IW NM ad) s.heap H locs → lv_has ls 4 [(0, .ref (ad 0)), (1, .int x1), (2, .int x2)] → W p l e rm4_mark s m args below meth c H locs 0 0 (MQ below (va_Qi (fun (x : Int32) (u : Mem) => x = r ∧ u = T) (fun u t => va_P D vwCl (wl NM ad (EM K ad u)) t.heap) (IW NM ad)) args s 0 0 (IW NM ad)) (F0 m 0 ls []) := by
  have hx := C0.1
  have hb := C0.2.1
  have hts := C0.2.2.2.2.1
  have hown := C0.2.2.2.1
  have hKC := C0.2.2.2.2.2.2.2
  intro S x1 x2 hf H locs ls hP hS hl
  rw [f4_mark] at hf
  refine lv_aload_n hx hb dX4_mark_0 rfl (lv_at hl 0 rfl) ?_
  refine lv_iload_n hx hb dX4_mark_1 rfl (lv_at hl 1 rfl) ?_
  obtain ⟨v2, h1, hf⟩ := b1_some hf
  refine sys_i hS (sys_runV (As := [.int x1]) (rest := []) C0 KM_ok hKC hP hS (by decide) (EM_0 K ad S) rfl (m4_isHouse l D K ad hI S x1 h1) gX4_mark_X4_isHouse rfl ⟨rfl, rfl⟩ hd_X4_isHouse ⟨Nat.le_of_ble_eq_true rfl, Nat.le_of_ble_eq_true rfl⟩ hl.1 rfl (Nat.le_of_ble_eq_true rfl) dX4_mark_2 ⟨Nat.le_refl _, Nat.le_refl _⟩) (fun H locs hP hS => ?_)
  refine lv_if_eq (tgt := 20) hx hb dX4_mark_5 (by decide) (fun c3 => ?_) (fun c3 => ?_)
  · have hf := ite_t hf c3
    refine lv_iconst (v := (-1)) hx hb dX4_mark_20 (by decide) ?_
    exact ret_i C0 hP hS (congrArg Prod.fst (Option.some.inj hf)) (congrArg Prod.snd (Option.some.inj hf)) dX4_mark_21
  · have hf := ite_f hf c3
    refine lv_iload_n hx hb dX4_mark_8 rfl (lv_at hl 2 rfl) ?_
    refine lv_i2l (v := (Int32.toInt64 x2)) hx hb dX4_mark_9 rfl ?_
    refine lv_lconst (v := 1) hx hb dX4_mark_10 (by decide) ?_
    refine lv_ldc2 (v := 5) hx hb hown (hts _ (List.mem_of_getElem? (i := 1) rfl)) dX4_mark_11 ?_
    obtain ⟨v5, h4, hf⟩ := b1_some hf
    refine sys_i hS (sys_runS (As := [.long (Int32.toInt64 x2), .long 1, .long 5]) (rest := []) C0 KM_ok hP hS (m4_in l D K ad hI S (Int32.toInt64 x2) 1 5 h4) gX4_mark_X4_in rfl ⟨rfl, rfl⟩ hd_X4_in ⟨Nat.le_of_ble_eq_true rfl, Nat.le_of_ble_eq_true rfl⟩ hl.1 rfl (Nat.le_of_ble_eq_true rfl) dX4_mark_14 ⟨Nat.le_refl _, Nat.le_refl _⟩) (fun H locs hP hS => ?_)
    refine lv_if_ne (tgt := 22) hx hb dX4_mark_17 (by decide) (fun c6 => ?_) (fun c6 => ?_)
    · have hf := ite_f hf c6
      refine lv_aload_n hx hb dX4_mark_22 rfl (lv_at hl 0 rfl) ?_
      refine lv_iload_n hx hb dX4_mark_23 rfl (lv_at hl 1 rfl) ?_
      refine lv_iconst (v := 0) hx hb dX4_mark_24 (by decide) ?_
      obtain ⟨v8, h7, hf⟩ := b1_some hf
      refine sys_i hS (sys_runV (As := [.int x1, .int 0]) (rest := []) C0 KM_ok hKC hP hS (by decide) (EM_0 K ad S) rfl (m4_told l D K ad hI S x1 0 h7) gX4_mark_X4_told rfl ⟨rfl, rfl⟩ hd_X4_told ⟨Nat.le_of_ble_eq_true rfl, Nat.le_of_ble_eq_true rfl⟩ hl.1 rfl (Nat.le_of_ble_eq_true rfl) dX4_mark_25 ⟨Nat.le_refl _, Nat.le_refl _⟩) (fun H locs hP hS => ?_)
      refine lv_iload_n hx hb dX4_mark_28 rfl (lv_at hl 2 rfl) ?_
      obtain ⟨v10, h9, hf⟩ := b1_some hf
      refine sys_i hS (sys_runS (As := [.int v8, .int x2]) (rest := []) C0 KM_ok hP hS (m4_isOf l D K ad hI S v8 x2 h9) gX4_mark_X4_isOf rfl ⟨rfl, rfl⟩ hd_X4_isOf ⟨Nat.le_of_ble_eq_true rfl, Nat.le_of_ble_eq_true rfl⟩ hl.1 rfl (Nat.le_of_ble_eq_true rfl) dX4_mark_29 ⟨Nat.le_refl _, Nat.le_refl _⟩) (fun H locs hP hS => ?_)
      refine lv_if_ne (tgt := 41) hx hb dX4_mark_32 (by decide) (fun c11 => ?_) (fun c11 => ?_)
      · have hf := ite_f hf c11
        refine lv_aload_n hx hb dX4_mark_41 rfl (lv_at hl 0 rfl) ?_
        refine lv_iload_n hx hb dX4_mark_42 rfl (lv_at hl 1 rfl) ?_
        obtain ⟨v13, h12, hf⟩ := b1_some hf
        refine sys_i hS (sys_runV (As := [.int x1]) (rest := []) C0 KM_ok hKC hP hS (by decide) (EM_0 K ad S) rfl (m4_jar l D K ad hI S x1 h12) gX4_mark_X4_jar rfl ⟨rfl, rfl⟩ hd_X4_jar ⟨Nat.le_of_ble_eq_true rfl, Nat.le_of_ble_eq_true rfl⟩ hl.1 rfl (Nat.le_of_ble_eq_true rfl) dX4_mark_43 ⟨Nat.le_refl _, Nat.le_refl _⟩) (fun H locs hP hS => ?_)
        refine lv_istore_n (lv' := [(3, .int v13), (0, .ref (ad 0)), (1, .int x1), (2, .int x2)]) hx hb dX4_mark_46 rfl hl (by decide) rfl (fun ls hl => ?_)
        refine lv_iload_n hx hb dX4_mark_47 rfl (lv_at hl 3 rfl) ?_
        by_cases c14 : x2 = 1
        · have hf := ite_t hf c14
          refine lv_tableIn (off := 32) (tgt := 80) hx hb dX4_mark_48 (by rw [c14]; decide) (by rw [c14]; decide) (by rw [c14]; rfl) (by decide) ?_
          refine lv_aload_n hx hb dX4_mark_80 rfl (lv_at hl 1 rfl) ?_
          refine lv_iload_n hx hb dX4_mark_81 rfl (lv_at hl 2 rfl) ?_
          obtain ⟨v16, h15, hf⟩ := b1_some hf
          refine sys_i hS (sys_runV (As := [.int x1]) (rest := []) C0 KM_ok hKC hP hS (by decide) (EM_0 K ad S) rfl (m4_worthNow l D K ad hI S x1 h15) gX4_mark_X4_worthNow rfl ⟨rfl, rfl⟩ hd_X4_worthNow ⟨Nat.le_of_ble_eq_true rfl, Nat.le_of_ble_eq_true rfl⟩ hl.1 rfl (Nat.le_of_ble_eq_true rfl) dX4_mark_82 ⟨Nat.le_refl _, Nat.le_refl _⟩) (fun H locs hP hS => ?_)
          refine lv_iload_n hx hb dX4_mark_85 rfl (lv_at hl 0 rfl) ?_
          refine lv_isub hx hb dX4_mark_86 ?_
          exact ret_i C0 hP hS (congrArg Prod.fst (Option.some.inj hf)) (congrArg Prod.snd (Option.some.inj hf)) dX4_mark_87
        · have hf := ite_f hf c14
          by_cases c17 : x2 = 2
          · have hf := ite_t hf c17
            refine lv_tableIn (off := 40) (tgt := 88) hx hb dX4_mark_48 (by rw [c17]; decide) (by rw [c17]; decide) (by rw [c17]; rfl) (by decide) ?_
            refine lv_aload_n hx hb dX4_mark_88 rfl (lv_at hl 1 rfl) ?_
            refine lv_iload_n hx hb dX4_mark_89 rfl (lv_at hl 2 rfl) ?_
            obtain ⟨v19, h18, hf⟩ := b1_some hf
            refine sys_i hS (sys_runV (As := [.int x1]) (rest := []) C0 KM_ok hKC hP hS (by decide) (EM_0 K ad S) rfl (m4_worthNow l D K ad hI S x1 h18) gX4_mark_X4_worthNow rfl ⟨rfl, rfl⟩ hd_X4_worthNow ⟨Nat.le_of_ble_eq_true rfl, Nat.le_of_ble_eq_true rfl⟩ hl.1 rfl (Nat.le_of_ble_eq_true rfl) dX4_mark_90 ⟨Nat.le_refl _, Nat.le_refl _⟩) (fun H locs hP hS => ?_)
            refine lv_iload_n hx hb dX4_mark_93 rfl (lv_at hl 0 rfl) ?_
            refine lv_isub hx hb dX4_mark_94 ?_
            refine lv_bipush (v := 100) hx hb dX4_mark_95 (by decide) ?_
            refine lv_iadd hx hb dX4_mark_97 ?_
            exact ret_i C0 hP hS (congrArg Prod.fst (Option.some.inj hf)) (congrArg Prod.snd (Option.some.inj hf)) dX4_mark_98
          · have hf := ite_f hf c17
            by_cases c20 : x2 = 3
            · have hf := ite_t hf c20
              refine lv_tableIn (off := 51) (tgt := 99) hx hb dX4_mark_48 (by rw [c20]; decide) (by rw [c20]; decide) (by rw [c20]; rfl) (by decide) ?_
              refine lv_iload_n hx hb dX4_mark_99 rfl (lv_at hl 0 rfl) ?_
              refine lv_aload_n hx hb dX4_mark_100 rfl (lv_at hl 1 rfl) ?_
              refine lv_iload_n hx hb dX4_mark_101 rfl (lv_at hl 2 rfl) ?_
              obtain ⟨v22, h21, hf⟩ := b1_some hf
              refine sys_i hS (sys_runV (As := [.int x1]) (rest := [.int v13]) C0 KM_ok hKC hP hS (by decide) (EM_0 K ad S) rfl (m4_brings l D K ad hI S x1 h21) gX4_mark_X4_brings rfl ⟨rfl, rfl⟩ hd_X4_brings ⟨Nat.le_of_ble_eq_true rfl, Nat.le_of_ble_eq_true rfl⟩ hl.1 rfl (Nat.le_of_ble_eq_true rfl) dX4_mark_102 ⟨Nat.le_refl _, Nat.le_refl _⟩) (fun H locs hP hS => ?_)
              refine lv_isub hx hb dX4_mark_105 ?_
              exact ret_i C0 hP hS (congrArg Prod.fst (Option.some.inj hf)) (congrArg Prod.snd (Option.some.inj hf)) dX4_mark_106
            · have hf := ite_f hf c20
              by_cases c23 : x2 = 4
              · have hf := ite_t hf c23
                refine lv_tableIn (off := 59) (tgt := 107) hx hb dX4_mark_48 (by rw [c23]; decide) (by rw [c23]; decide) (by rw [c23]; rfl) (by decide) ?_
                refine lv_aload_n hx hb dX4_mark_107 rfl (lv_at hl 1 rfl) ?_
                refine lv_iload_n hx hb dX4_mark_108 rfl (lv_at hl 2 rfl) ?_
                obtain ⟨v25, h24, hf⟩ := b1_some hf
                refine sys_i hS (sys_runV (As := [.int x1]) (rest := []) C0 KM_ok hKC hP hS (by decide) (EM_0 K ad S) rfl (m4_worthNow l D K ad hI S x1 h24) gX4_mark_X4_worthNow rfl ⟨rfl, rfl⟩ hd_X4_worthNow ⟨Nat.le_of_ble_eq_true rfl, Nat.le_of_ble_eq_true rfl⟩ hl.1 rfl (Nat.le_of_ble_eq_true rfl) dX4_mark_109 ⟨Nat.le_refl _, Nat.le_refl _⟩) (fun H locs hP hS => ?_)
                refine lv_iconst (v := 1) hx hb dX4_mark_112 (by decide) ?_
                refine lv_iload_n hx hb dX4_mark_113 rfl (lv_at hl 0 rfl) ?_
                obtain ⟨v27, h26, hf⟩ := b1_some hf
                refine sys_i hS (sys_runS (As := [.int 1, .int v13]) (rest := [.int v25]) C0 KM_ok hP hS (m4_worthTo l D K ad hI S 1 v13 h26) gX4_mark_X4_worthTo rfl ⟨rfl, rfl⟩ hd_X4_worthTo ⟨Nat.le_of_ble_eq_true rfl, Nat.le_of_ble_eq_true rfl⟩ hl.1 rfl (Nat.le_of_ble_eq_true rfl) dX4_mark_114 ⟨Nat.le_refl _, Nat.le_refl _⟩) (fun H locs hP hS => ?_)
                refine lv_isub hx hb dX4_mark_117 ?_
                exact ret_i C0 hP hS (congrArg Prod.fst (Option.some.inj hf)) (congrArg Prod.snd (Option.some.inj hf)) dX4_mark_118
              · have hf := ite_f hf c23
                refine lv_tableOut (tgt := 119) hx hb dX4_mark_48 (by have h0 := lv_neT (a := 1) c14 rfl; have h1 := lv_neT (a := 2) c17 rfl; have h2 := lv_neT (a := 3) c20 rfl; have h3 := lv_neT (a := 4) c23 rfl; omega) (by decide) ?_
                refine lv_iconst (v := 2) hx hb dX4_mark_119 (by decide) ?_
                refine lv_iload_n hx hb dX4_mark_120 rfl (lv_at hl 0 rfl) ?_
                obtain ⟨v29, h28, hf⟩ := b1_some hf
                refine sys_i hS (sys_runS (As := [.int 2, .int v13]) (rest := []) C0 KM_ok hP hS (m4_worthTo l D K ad hI S 2 v13 h28) gX4_mark_X4_worthTo rfl ⟨rfl, rfl⟩ hd_X4_worthTo ⟨Nat.le_of_ble_eq_true rfl, Nat.le_of_ble_eq_true rfl⟩ hl.1 rfl (Nat.le_of_ble_eq_true rfl) dX4_mark_121 ⟨Nat.le_refl _, Nat.le_refl _⟩) (fun H locs hP hS => ?_)
                refine lv_aload_n hx hb dX4_mark_124 rfl (lv_at hl 1 rfl) ?_
                refine lv_iload_n hx hb dX4_mark_125 rfl (lv_at hl 2 rfl) ?_
                obtain ⟨v31, h30, hf⟩ := b1_some hf
                refine sys_i hS (sys_runV (As := [.int x1]) (rest := [.int v29]) C0 KM_ok hKC hP hS (by decide) (EM_0 K ad S) rfl (m4_worthNow l D K ad hI S x1 h30) gX4_mark_X4_worthNow rfl ⟨rfl, rfl⟩ hd_X4_worthNow ⟨Nat.le_of_ble_eq_true rfl, Nat.le_of_ble_eq_true rfl⟩ hl.1 rfl (Nat.le_of_ble_eq_true rfl) dX4_mark_126 ⟨Nat.le_refl _, Nat.le_refl _⟩) (fun H locs hP hS => ?_)
                refine lv_isub hx hb dX4_mark_129 ?_
                exact ret_i C0 hP hS (congrArg Prod.fst (Option.some.inj hf)) (congrArg Prod.snd (Option.some.inj hf)) dX4_mark_130
      · have hf := ite_t hf c11
        refine lv_aload_n hx hb dX4_mark_35 rfl (lv_at hl 0 rfl) ?_
        refine lv_iconst (v := 3) hx hb dX4_mark_36 (by decide) ?_
        obtain ⟨v33, S34, h32, hf⟩ := b2_some hf
        refine sys_i hS (sys_runV (As := [.int 3]) (rest := []) C0 KM_ok hKC hP hS (by decide) (EM_0 K ad S) rfl (m4_finds l D K ad hI S 3 h32) gX4_mark_X4_finds rfl ⟨rfl, rfl⟩ hd_X4_finds ⟨Nat.le_of_ble_eq_true rfl, Nat.le_of_ble_eq_true rfl⟩ hl.1 rfl (Nat.le_of_ble_eq_true rfl) dX4_mark_37 ⟨Nat.le_refl _, Nat.le_refl _⟩) (fun H locs hP hS => ?_)
        exact ret_i C0 hP hS (congrArg Prod.fst (Option.some.inj hf)) (congrArg Prod.snd (Option.some.inj hf)) dX4_mark_40
    · have hf := ite_t hf c6
      refine lv_iconst (v := (-1)) hx hb dX4_mark_20 (by decide) ?_
      exact ret_i C0 hP hS (congrArg Prod.fst (Option.some.inj hf)) (congrArg Prod.snd (Option.some.inj hf)) dX4_mark_21
theorem m4_mark (l : Launch) (D : va_G) (K : Nat → ClassId) (ad : Nat → Nat) (hI : INJ NM ad) (S : Mem) (x1 : Int32) (x2 : Int32) {r : Int32} {T : Mem} (hf : f4_mark S x1 x2 = some (r, T)) : SysI l yX4_mark wsX4_mark rm4_mark D NM ad (EM K ad) (KM D K) [.ref (ad 0), .int x1, .int x2] S r T :=
  met_of (own := RX4) (by decide) rfl rfl (Nat.le_of_ble_eq_true rfl) (fun _ _ s _ _ _ _ ls C0 _ hP hl => w4_mark hI C0 S x1 x2 hf s.heap [] ls hP va_S.rf hl)
theorem in_X4_worth_X4 : ∀ w ∈ wsX40, w ∈ wsX4_worth := fun _ h => List.mem_cons_of_mem _ (List.mem_append_right _ h)
theorem hd_X4_worth : yX4_worth.cls = RX4 ∧ yX4_worth.cls ≠ "java/lang/invoke/MethodHandle" ∧ yX4_worth.cls ≠ "java/lang/invoke/VarHandle" ∧ (parseMethodDescriptor yX4_worth.desc).map (fun d => d.parameters.length) = some 2 := by decide +kernel
abbrev rm4_worth : Room := { frames := 2, cells := 0, slots := 0, locals := 46 }
set_option maxHeartbeats 4000000 in
set_option maxRecDepth 100000 in
theorem w4_worth {p : Program} {l : Launch} {e : Env} {s : State} {m : MethodId} {args : Array Value} {below : List Frame} {meth : Method} {c : Code} {D : va_G} {K : Nat → ClassId} {ad : Nat → Nat} (hI : INJ NM ad) (C0 : Cx p s m args meth c RX4 wsX4_worth cX4_worth 3 (some .int) (KM D K)) (S : Mem) {r : Int32} : ∀ (x1 : Int32) (x2 : Int32), f4_worth S x1 x2 = some r → ∀ (H : Heap) (locs : List Loc) (ls : Array Slot), va_P D vwCl (wl NM ad (EM K ad S)) H → va_S (IW NM ad) s.heap H locs → lv_has ls 3 [(0, .ref (ad 0)), (1, .int x1), (2, .int x2)] → W p l e rm4_worth s m args below meth c H locs 0 0 (MQ below (va_Qi (fun (x : Int32) (u : Mem) => x = r ∧ u = S) (fun u t => va_P D vwCl (wl NM ad (EM K ad u)) t.heap) (IW NM ad)) args s 0 0 (IW NM ad)) (F0 m 0 ls []) := by
  have hx := C0.1
  have hb := C0.2.1
  have hts := C0.2.2.2.2.1
  have hown := C0.2.2.2.1
  have hKC := C0.2.2.2.2.2.2.2
  intro x1 x2 hf H locs ls hP hS hl
  rw [f4_worth] at hf
  refine lv_aload_n hx hb dX4_worth_0 rfl (lv_at hl 0 rfl) ?_
  refine lv_iload_n hx hb dX4_worth_1 rfl (lv_at hl 1 rfl) ?_
  obtain ⟨v2, h1, hf⟩ := b1_some hf
  refine sys_i hS (sys_runV (As := [.int x1]) (rest := []) C0 KM_ok hKC hP hS (by decide) (EM_0 K ad S) rfl (m4_isHouse l D K ad hI S x1 h1) gX4_worth_X4_isHouse rfl ⟨rfl, rfl⟩ hd_X4_isHouse ⟨Nat.le_of_ble_eq_true rfl, Nat.le_of_ble_eq_true rfl⟩ hl.1 rfl (Nat.le_of_ble_eq_true rfl) dX4_worth_2 ⟨Nat.le_refl _, Nat.le_refl _⟩) (fun H locs hP hS => ?_)
  refine lv_if_eq (tgt := 33) hx hb dX4_worth_5 (by decide) (fun c3 => ?_) (fun c3 => ?_)
  · have hf := ite_t hf c3
    refine lv_iconst (v := (-1)) hx hb dX4_worth_33 (by decide) ?_
    exact ret_i C0 hP hS (Option.some.inj hf) rfl dX4_worth_34
  · have hf := ite_f hf c3
    refine lv_iload_n hx hb dX4_worth_8 rfl (lv_at hl 2 rfl) ?_
    refine lv_i2l (v := (Int32.toInt64 x2)) hx hb dX4_worth_9 rfl ?_
    refine lv_lconst (v := 0) hx hb dX4_worth_10 (by decide) ?_
    refine lv_ldc2 (v := 99) hx hb hown (hts _ (List.mem_of_getElem? (i := 1) rfl)) dX4_worth_11 ?_
    obtain ⟨v5, h4, hf⟩ := b1_some hf
    refine sys_i hS (sys_runS (As := [.long (Int32.toInt64 x2), .long 0, .long 99]) (rest := []) C0 KM_ok hP hS (m4_in l D K ad hI S (Int32.toInt64 x2) 0 99 h4) gX4_worth_X4_in rfl ⟨rfl, rfl⟩ hd_X4_in ⟨Nat.le_of_ble_eq_true rfl, Nat.le_of_ble_eq_true rfl⟩ hl.1 rfl (Nat.le_of_ble_eq_true rfl) dX4_worth_14 ⟨Nat.le_refl _, Nat.le_refl _⟩) (fun H locs hP hS => ?_)
    refine lv_if_eq (tgt := 33) hx hb dX4_worth_17 (by decide) (fun c6 => ?_) (fun c6 => ?_)
    · have hf := ite_t hf c6
      refine lv_iconst (v := (-1)) hx hb dX4_worth_33 (by decide) ?_
      exact ret_i C0 hP hS (Option.some.inj hf) rfl dX4_worth_34
    · have hf := ite_f hf c6
      refine lv_aload_n hx hb dX4_worth_20 rfl (lv_at hl 0 rfl) ?_
      refine x_get C0 hKC hP (by decide) (EM_0 K ad S) rfl in_X4_worth_X4 13 (by decide) (List.mem_of_getElem? (i := 2) rfl) rfl dX4_worth_21 ?_
      refine lv_iload_n hx hb dX4_worth_24 rfl (lv_at hl 1 rfl) ?_
      obtain ⟨g7, hf⟩ := gd_some hf
      refine x_iald C0 hKC hP (IM_8 K ad) (t0 := 0) rfl g7 dX4_worth_25 ?_
      refine lv_iload_n hx hb dX4_worth_26 rfl (lv_at hl 2 rfl) ?_
      obtain ⟨v9, h8, hf⟩ := b1_some hf
      refine sys_i hS (sys_runS (As := [.int (gi S 8 (ix x1)), .int x2]) (rest := []) C0 KM_ok hP hS (m4_worthTo l D K ad hI S (gi S 8 (ix x1)) x2 h8) gX4_worth_X4_worthTo rfl ⟨rfl, rfl⟩ hd_X4_worthTo ⟨Nat.le_of_ble_eq_true rfl, Nat.le_of_ble_eq_true rfl⟩ hl.1 rfl (Nat.le_of_ble_eq_true rfl) dX4_worth_27 ⟨Nat.le_refl _, Nat.le_refl _⟩) (fun H locs hP hS => ?_)
      refine lv_goto (tgt := 34) hx hb dX4_worth_30 (by decide) ?_
      exact ret_i C0 hP hS (Option.some.inj hf) rfl dX4_worth_34
theorem m4_worth (l : Launch) (D : va_G) (K : Nat → ClassId) (ad : Nat → Nat) (hI : INJ NM ad) (S : Mem) (x1 : Int32) (x2 : Int32) {r : Int32} (hf : f4_worth S x1 x2 = some r) : SysI l yX4_worth wsX4_worth rm4_worth D NM ad (EM K ad) (KM D K) [.ref (ad 0), .int x1, .int x2] S r S :=
  met_of (own := RX4) (by decide) rfl rfl (Nat.le_of_ble_eq_true rfl) (fun _ _ s _ _ _ _ ls C0 _ hP hl => w4_worth hI C0 S x1 x2 hf s.heap [] ls hP va_S.rf hl)
