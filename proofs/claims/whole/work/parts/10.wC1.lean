theorem hd_X3_isRow : yX3_isRow.cls ≠ "java/lang/invoke/MethodHandle" ∧ yX3_isRow.cls ≠ "java/lang/invoke/VarHandle" ∧ (parseMethodDescriptor yX3_isRow.desc).map (fun d => d.parameters.length) = some 1 := by decide +kernel
abbrev rm3_isRow : Room := { frames := 0, cells := 0, slots := 0, locals := 0 }
set_option maxHeartbeats 4000000 in
set_option maxRecDepth 100000 in
theorem w3_isRow {p : Program} {l : Launch} {e : Env} {s : State} {m : MethodId} {args : Array Value} {below : List Frame} {meth : Method} {c : Code} {D : va_G} {K : Nat → ClassId} {ad : Nat → Nat} {tL : Nat} (hI : INJ NC ad) (C0 : Cx p s m args meth c RX3 wsX3_isRow cX3_isRow 1 (some .boolean) (KC D K tL (IW NC ad))) (S : Mem) {r : Int32} : ∀ (x0 : Int32), f3_isRow x0 = some r → ∀ (H : Heap) (locs : List Loc) (ls : Array Slot), va_P D vwCl (wl NC ad (EC K ad S)) H → va_S (IW NC ad) s.heap H locs → lv_has ls 1 [(0, .int x0)] → W p l e rm3_isRow s m args below meth c H locs 0 0 (MQ below (va_Qi (fun (x : Int32) (u : Mem) => x = r ∧ u = S) (fun u t => va_P D vwCl (wl NC ad (EC K ad u)) t.heap) (IW NC ad)) args s 0 0 (IW NC ad)) (F0 m 0 ls []) := by
  have hx := C0.1
  have hb := C0.2.1
  have hts := C0.2.2.2.2.1
  have hown := C0.2.2.2.1
  have hKC := C0.2.2.2.2.2.2.2
  intro x0 hf H locs ls hP hS hl
  rw [f3_isRow] at hf
  refine lv_iload_n hx hb dX3_isRow_0 rfl (lv_at hl 0 rfl) ?_
  refine lv_if_lt (tgt := 14) hx hb dX3_isRow_1 (by decide) (fun c1 => ?_) (fun c1 => ?_)
  · have hf := ite_t hf c1
    refine lv_iconst (v := 0) hx hb dX3_isRow_14 (by decide) ?_
    exact ret_z C0 hP hS (Or.inl rfl) (Option.some.inj hf) rfl dX3_isRow_15
  · have hf := ite_f hf c1
    refine lv_iload_n hx hb dX3_isRow_4 rfl (lv_at hl 0 rfl) ?_
    refine lv_bipush (v := 6) hx hb dX3_isRow_5 (by decide) ?_
    refine lv_icmp_ge (tgt := 14) hx hb dX3_isRow_7 (by decide) (fun c2 => ?_) (fun c2 => ?_)
    · have hf := ite_t hf c2
      refine lv_iconst (v := 0) hx hb dX3_isRow_14 (by decide) ?_
      exact ret_z C0 hP hS (Or.inl rfl) (Option.some.inj hf) rfl dX3_isRow_15
    · have hf := ite_f hf c2
      refine lv_iconst (v := 1) hx hb dX3_isRow_10 (by decide) ?_
      refine lv_goto (tgt := 15) hx hb dX3_isRow_11 (by decide) ?_
      exact ret_z C0 hP hS (Or.inr rfl) (Option.some.inj hf) rfl dX3_isRow_15
theorem m3_isRow (l : Launch) (D : va_G) (K : Nat → ClassId) (ad : Nat → Nat) (tL : Nat) (hI : INJ NC ad) (S : Mem) (x0 : Int32) {r : Int32} (hf : f3_isRow x0 = some r) : SysI l yX3_isRow wsX3_isRow rm3_isRow D NC ad (EC K ad) (KC D K tL (IW NC ad)) [.int x0] S r S :=
  met_of (own := RX3) (by decide) rfl rfl (Nat.le_of_ble_eq_true rfl) (fun _ _ s _ _ _ _ ls C0 _ hP hl => w3_isRow hI C0 S x0 hf s.heap [] ls hP va_S.rf hl)
theorem in_X3_foundThat_X3 : ∀ w ∈ wsX30, w ∈ wsX3_foundThat := fun _ h => List.mem_cons_of_mem _ (List.mem_append_right _ h)
theorem hd_X3_foundThat : yX3_foundThat.cls = RX3 ∧ yX3_foundThat.cls ≠ "java/lang/invoke/MethodHandle" ∧ yX3_foundThat.cls ≠ "java/lang/invoke/VarHandle" ∧ (parseMethodDescriptor yX3_foundThat.desc).map (fun d => d.parameters.length) = some 1 := by decide +kernel
abbrev rm3_foundThat : Room := { frames := 0, cells := 0, slots := 0, locals := 0 }
set_option maxHeartbeats 4000000 in
set_option maxRecDepth 100000 in
theorem w3_foundThat {p : Program} {l : Launch} {e : Env} {s : State} {m : MethodId} {args : Array Value} {below : List Frame} {meth : Method} {c : Code} {D : va_G} {K : Nat → ClassId} {ad : Nat → Nat} {tL : Nat} (hI : INJ NC ad) (C0 : Cx p s m args meth c RX3 wsX3_foundThat cX3_foundThat 2 (some .int) (KC D K tL (IW NC ad))) {r : Int32} {T : Mem} : ∀ (S : Mem) (x1 : Int32), f3_foundThat S x1 = some (r, T) → ∀ (H : Heap) (locs : List Loc) (ls : Array Slot), va_P D vwCl (wl NC ad (EC K ad S)) H → va_S (IW NC ad) s.heap H locs → lv_has ls 2 [(0, .ref (ad 0)), (1, .int x1)] → W p l e rm3_foundThat s m args below meth c H locs 0 0 (MQ below (va_Qi (fun (x : Int32) (u : Mem) => x = r ∧ u = T) (fun u t => va_P D vwCl (wl NC ad (EC K ad u)) t.heap) (IW NC ad)) args s 0 0 (IW NC ad)) (F0 m 0 ls []) := by
  have hx := C0.1
  have hb := C0.2.1
  have hts := C0.2.2.2.2.1
  have hown := C0.2.2.2.1
  have hKC := C0.2.2.2.2.2.2.2
  intro S x1 hf H locs ls hP hS hl
  rw [f3_foundThat] at hf
  refine lv_aload_n hx hb dX3_foundThat_0 rfl (lv_at hl 0 rfl) ?_
  refine lv_iload_n hx hb dX3_foundThat_1 rfl (lv_at hl 1 rfl) ?_
  refine x_puti C0 hKC.1 hI (EC_loc K ad) hP hS (by decide) (EC_0 K ad S) rfl tyX3 tyX3_ok nmX3 in_X3_foundThat_X3 12 (by decide) (List.mem_of_getElem? (i := 1) rfl) rfl (tyX3_ok 12 (by decide)) (Nat.le_of_ble_eq_true rfl) (EC_p12 K ad S _) dX3_foundThat_2 (fun S1 eS1 H locs hP hS => ?_)
  have hf := nm_at eS1 hf
  refine lv_aload_n hx hb dX3_foundThat_5 rfl (lv_at hl 0 rfl) ?_
  refine x_get C0 hKC.1 hP (by decide) (EC_0 K ad S1) rfl in_X3_foundThat_X3 13 (by decide) (List.mem_of_getElem? (i := 2) rfl) rfl dX3_foundThat_6 ?_
  refine lv_iload_n hx hb dX3_foundThat_9 rfl (lv_at hl 1 rfl) ?_
  refine lv_dup2_11 hx hb dX3_foundThat_10 rfl rfl ?_
  obtain ⟨g2, hf⟩ := gd_some hf
  refine x_iald C0 hKC.1 hP (IC_21 K ad) (t0 := 0) rfl g2 dX3_foundThat_11 ?_
  refine lv_iconst (v := 1) hx hb dX3_foundThat_12 (by decide) ?_
  refine lv_iadd hx hb dX3_foundThat_13 ?_
  obtain ⟨g3, hf⟩ := gd_some hf
  refine x_iast C0 hKC.1 hI (EC_loc K ad) hP hS (IC_21 K ad) (t0 := 0) rfl g3 dX3_foundThat_14 (fun S4 eS4 H locs hP hS => ?_)
  have hf := nm_at eS4 hf
  refine lv_bipush (v := (-3)) hx hb dX3_foundThat_15 (by decide) ?_
  exact ret_i C0 hP hS (congrArg Prod.fst (Option.some.inj hf)) (congrArg Prod.snd (Option.some.inj hf)) dX3_foundThat_17
theorem m3_foundThat (l : Launch) (D : va_G) (K : Nat → ClassId) (ad : Nat → Nat) (tL : Nat) (hI : INJ NC ad) (S : Mem) (x1 : Int32) {r : Int32} {T : Mem} (hf : f3_foundThat S x1 = some (r, T)) : SysI l yX3_foundThat wsX3_foundThat rm3_foundThat D NC ad (EC K ad) (KC D K tL (IW NC ad)) [.ref (ad 0), .int x1] S r T :=
  met_of (own := RX3) (by decide) rfl rfl (Nat.le_of_ble_eq_true rfl) (fun _ _ s _ _ _ _ ls C0 _ hP hl => w3_foundThat hI C0 S x1 hf s.heap [] ls hP va_S.rf hl)
theorem hd_J7_fill_53178 : yJ7_fill_53178.cls ≠ "java/lang/invoke/MethodHandle" ∧ yJ7_fill_53178.cls ≠ "java/lang/invoke/VarHandle" ∧ (parseMethodDescriptor yJ7_fill_53178.desc).map (fun d => d.parameters.length) = some 2 := by decide +kernel
abbrev rm7_fillI : Room := { frames := 0, cells := 0, slots := 0, locals := 0 }
set_option maxHeartbeats 4000000 in
set_option maxRecDepth 100000 in
theorem w7_fillI_b5 {p : Program} {l : Launch} {e : Env} {s : State} {m : MethodId} {args : Array Value} {below : List Frame} {meth : Method} {c : Code} {D : va_G} {ad : Nat → Nat} {N : Nat} {EE : Mem → Nat → va_E} {KK : State → Prop} {tys : List (ClassId × FieldType)} {t0 : Nat} {c0 : ClassId} (hI : INJ N ad) (hLoc : LOC EE) (ht : tys[t0]? = some (c0, .int)) (hkk : ∀ U, KK U → va_K D vwCl tys U) (C0 : Cx p s m args meth c RJ7 wsJ7_fill_53178 cJ7_fill_53178 4 none KK) {T : Mem} : ∀ (n : Nat), ∀ (S : Mem) (a0 : Nat) (a0n : Nat) (x1 : Int32) (x2 : Int32) (x3 : Int32), IA EE N c0 a0 a0n → f7_fillI_b5 n S a0 a0n x1 x2 x3 = some T → ∀ (H : Heap) (locs : List Loc) (ls : Array Slot), va_P D vwCl (wl N ad (EE S)) H → va_S (IW N ad) s.heap H locs → lv_has ls 4 [(0, .ref (ad a0)), (1, .int x1), (2, .int x2), (3, .int x3)] → W p l e rm7_fillI s m args below meth c H locs 0 0 (MQ below (va_Qv (fun (u : Mem) => u = T) (fun u t => va_P D vwCl (wl N ad (EE u)) t.heap) (IW N ad)) args s 0 0 (IW N ad)) (F0 m 5 ls []) := by
  have hx := C0.1
  have hb := C0.2.1
  have hts := C0.2.2.2.2.1
  have hown := C0.2.2.2.1
  have hKC := C0.2.2.2.2.2.2.2
  intro n
  induction n with
  | zero =>
    intro S a0 a0n x1 x2 x3 ha0 hf
    rw [f7_fillI_b5] at hf
    cases hf
  | succ n ih =>
    intro S a0 a0n x1 x2 x3 ha0 hf H locs ls hP hS hl
    rw [f7_fillI_b5] at hf
    refine lv_iload_n hx hb dJ7_fill_53178_5 rfl (lv_at hl 2 rfl) ?_
    refine lv_iload_n hx hb dJ7_fill_53178_6 rfl (lv_at hl 3 rfl) ?_
    refine lv_icmp_ge (tgt := 20) hx hb dJ7_fill_53178_7 (by decide) (fun c1 => ?_) (fun c1 => ?_)
    · have hf := ite_t hf c1
      exact ret_v C0 hP hS (Option.some.inj hf) dJ7_fill_53178_20
    · have hf := ite_f hf c1
      refine lv_aload_n hx hb dJ7_fill_53178_10 rfl (lv_at hl 0 rfl) ?_
      refine lv_iload_n hx hb dJ7_fill_53178_11 rfl (lv_at hl 2 rfl) ?_
      refine lv_iload_n hx hb dJ7_fill_53178_12 rfl (lv_at hl 1 rfl) ?_
      obtain ⟨g2, hf⟩ := gd_some hf
      refine x_iast C0 (hkk _ hKC) hI hLoc hP hS ha0 ht g2 dJ7_fill_53178_13 (fun S3 eS3 H locs hP hS => ?_)
      have hf := nm_at eS3 hf
      obtain ⟨v4, ev4⟩ : ∃ y : Int32, y = x2 + 1 := ⟨_, rfl⟩
      have hf := nm_at ev4 hf
      refine lv_iinc (v := v4) (lv' := [(2, .int v4), (0, .ref (ad a0)), (1, .int x1), (3, .int x3)]) hx hb dJ7_fill_53178_14 hl (k := 2) rfl (by rw [ev4]; rfl) (by decide) rfl (fun ls hl => ?_)
      refine lv_goto (tgt := 5) hx hb dJ7_fill_53178_17 (by decide) ?_
      exact ih S3 a0 a0n x1 v4 x3 ha0 hf H locs ls hP hS (lv_sub hl [1, 2, 0, 3] rfl)
set_option maxHeartbeats 4000000 in
set_option maxRecDepth 100000 in
theorem w7_fillI {p : Program} {l : Launch} {e : Env} {s : State} {m : MethodId} {args : Array Value} {below : List Frame} {meth : Method} {c : Code} {D : va_G} {ad : Nat → Nat} {N : Nat} {EE : Mem → Nat → va_E} {KK : State → Prop} {tys : List (ClassId × FieldType)} {t0 : Nat} {c0 : ClassId} (hI : INJ N ad) (hLoc : LOC EE) (ht : tys[t0]? = some (c0, .int)) (hkk : ∀ U, KK U → va_K D vwCl tys U) (C0 : Cx p s m args meth c RJ7 wsJ7_fill_53178 cJ7_fill_53178 4 none KK) {T : Mem} : ∀ (S : Mem) (a0 : Nat) (a0n : Nat) (x1 : Int32), IA EE N c0 a0 a0n → f7_fillI S a0 a0n x1 = some T → ∀ (H : Heap) (locs : List Loc) (ls : Array Slot), va_P D vwCl (wl N ad (EE S)) H → va_S (IW N ad) s.heap H locs → lv_has ls 4 [(0, .ref (ad a0)), (1, .int x1)] → W p l e rm7_fillI s m args below meth c H locs 0 0 (MQ below (va_Qv (fun (u : Mem) => u = T) (fun u t => va_P D vwCl (wl N ad (EE u)) t.heap) (IW N ad)) args s 0 0 (IW N ad)) (F0 m 0 ls []) := by
  have hx := C0.1
  have hb := C0.2.1
  have hts := C0.2.2.2.2.1
  have hown := C0.2.2.2.1
  have hKC := C0.2.2.2.2.2.2.2
  intro S a0 a0n x1 ha0 hf H locs ls hP hS hl
  rw [f7_fillI] at hf
  refine lv_iconst (v := 0) hx hb dJ7_fill_53178_0 (by decide) ?_
  refine lv_istore_n (lv' := [(2, .int 0), (0, .ref (ad a0)), (1, .int x1)]) hx hb dJ7_fill_53178_1 rfl hl (by decide) rfl (fun ls hl => ?_)
  refine lv_aload_n hx hb dJ7_fill_53178_2 rfl (lv_at hl 1 rfl) ?_
  refine x_alen C0 (hkk _ hKC) hP ha0 ht dJ7_fill_53178_3 ?_
  refine lv_topi (fun v1 ev1 => ?_)
  have hf := nm_at ev1 hf
  refine lv_istore_n (lv' := [(3, .int v1), (2, .int 0), (0, .ref (ad a0)), (1, .int x1)]) hx hb dJ7_fill_53178_4 rfl hl (by decide) rfl (fun ls hl => ?_)
  exact w7_fillI_b5 hI hLoc ht hkk C0 FU S a0 a0n x1 0 v1 ha0 hf H locs ls hP hS (lv_sub hl [2, 3, 1, 0] rfl)
theorem m7_fillI (l : Launch) (D : va_G) (ad : Nat → Nat) {N : Nat} {EE : Mem → Nat → va_E} {KK : State → Prop} {tys : List (ClassId × FieldType)} {t0 : Nat} {c0 : ClassId} (hI : INJ N ad) (hLoc : LOC EE) (ht : tys[t0]? = some (c0, .int)) (hkk : ∀ U, KK U → va_K D vwCl tys U) (S : Mem) (a0 : Nat) (a0n : Nat) (x1 : Int32) (ha0 : IA EE N c0 a0 a0n) {T : Mem} (hf : f7_fillI S a0 a0n x1 = some T) : SysV l yJ7_fill_53178 wsJ7_fill_53178 rm7_fillI D N ad (EE) KK [.ref (ad a0), .int x1] S T :=
  met_of (own := RJ7) (by decide) rfl rfl (Nat.le_of_ble_eq_true rfl) (fun _ _ s _ _ _ _ ls C0 _ hP hl => w7_fillI hI hLoc ht hkk C0 S a0 a0n x1 ha0 hf s.heap [] ls hP va_S.rf hl)
theorem in_X3_row_X3 : ∀ w ∈ wsX30, w ∈ wsX3_row := fun _ h => List.mem_cons_of_mem _ (List.mem_append_right _ h)
theorem hd_X3_row : yX3_row.cls = RX3 ∧ yX3_row.cls ≠ "java/lang/invoke/MethodHandle" ∧ yX3_row.cls ≠ "java/lang/invoke/VarHandle" ∧ (parseMethodDescriptor yX3_row.desc).map (fun d => d.parameters.length) = some 2 := by decide +kernel
abbrev rm3_row : Room := { frames := 1, cells := 0, slots := 0, locals := 23 }
set_option maxHeartbeats 4000000 in
set_option maxRecDepth 100000 in
theorem w3_row {p : Program} {l : Launch} {e : Env} {s : State} {m : MethodId} {args : Array Value} {below : List Frame} {meth : Method} {c : Code} {D : va_G} {K : Nat → ClassId} {ad : Nat → Nat} {tL : Nat} (hI : INJ NC ad) (C0 : Cx p s m args meth c RX3 wsX3_row cX3_row 3 (some .int) (KC D K tL (IW NC ad))) {r : Int32} {T : Mem} : ∀ (S : Mem) (x1 : Int32) (x2 : Int32), f3_row S x1 x2 = some (r, T) → ∀ (H : Heap) (locs : List Loc) (ls : Array Slot), va_P D vwCl (wl NC ad (EC K ad S)) H → va_S (IW NC ad) s.heap H locs → lv_has ls 3 [(0, .ref (ad 0)), (1, .int x1), (2, .int x2)] → W p l e rm3_row s m args below meth c H locs 0 0 (MQ below (va_Qi (fun (x : Int32) (u : Mem) => x = r ∧ u = T) (fun u t => va_P D vwCl (wl NC ad (EC K ad u)) t.heap) (IW NC ad)) args s 0 0 (IW NC ad)) (F0 m 0 ls []) := by
  have hx := C0.1
  have hb := C0.2.1
  have hts := C0.2.2.2.2.1
  have hown := C0.2.2.2.1
  have hKC := C0.2.2.2.2.2.2.2
  intro S x1 x2 hf H locs ls hP hS hl
  rw [f3_row] at hf
  refine lv_iload_n hx hb dX3_row_0 rfl (lv_at hl 1 rfl) ?_
  obtain ⟨v2, h1, hf⟩ := b1_some hf
  refine sys_i hS (sys_runS (As := [.int x1]) (rest := []) C0 KC_ok hP hS (m3_isRow l D K ad tL hI S x1 h1) gX3_row_X3_isRow rfl ⟨rfl, rfl⟩ hd_X3_isRow ⟨Nat.le_of_ble_eq_true rfl, Nat.le_of_ble_eq_true rfl⟩ hl.1 rfl (Nat.le_of_ble_eq_true rfl) dX3_row_1 ⟨Nat.le_refl _, Nat.le_refl _⟩) (fun H locs hP hS => ?_)
  refine lv_if_eq (tgt := 13) hx hb dX3_row_4 (by decide) (fun c3 => ?_) (fun c3 => ?_)
  · have hf := ite_t hf c3
    refine lv_iconst (v := (-1)) hx hb dX3_row_13 (by decide) ?_
    exact ret_i C0 hP hS (congrArg Prod.fst (Option.some.inj hf)) (congrArg Prod.snd (Option.some.inj hf)) dX3_row_14
  · have hf := ite_f hf c3
    refine lv_iload_n hx hb dX3_row_7 rfl (lv_at hl 2 rfl) ?_
    refine lv_bipush (v := 40) hx hb dX3_row_8 (by decide) ?_
    refine lv_icmp_le (tgt := 15) hx hb dX3_row_10 (by decide) (fun c4 => ?_) (fun c4 => ?_)
    · have hf := ite_t hf c4
      refine lv_iload_n hx hb dX3_row_15 rfl (lv_at hl 2 rfl) ?_
      refine lv_if_ge (tgt := 25) hx hb dX3_row_16 (by decide) (fun c5 => ?_) (fun c5 => ?_)
      · have hf := ite_t hf c5
        refine lv_aload_n hx hb dX3_row_25 rfl (lv_at hl 0 rfl) ?_
        refine x_get C0 hKC.1 hP (by decide) (EC_0 K ad S) rfl in_X3_row_X3 0 (by decide) (List.mem_of_getElem? (i := 1) rfl) rfl dX3_row_26 ?_
        refine lv_iload_n hx hb dX3_row_29 rfl (lv_at hl 1 rfl) ?_
        obtain ⟨g6, hf⟩ := gd_some hf
        refine x_aald C0 hKC.1 hP (by decide) (EC_RR K ad S) (t0 := 4) rfl rfl g6 dX3_row_30 ?_
        refine lv_iconst (v := 0) hx hb dX3_row_31 (by decide) ?_
        obtain ⟨S8, h7, hf⟩ := b1_some hf
        refine sys_v hS (sys_runS (As := [.ref (ad (2 + (ix x1))), .int 0]) (rest := []) C0 KC_ok hP hS (m7_fillI l D ad hI (EC_loc K ad) (t0 := 0) rfl (fun _ h => h.1) S (2 + (ix x1)) 40 0 (IC_row K ad (inb_lt g6)) h7) gX3_row_J7_fill_53178 rfl ⟨rfl, rfl⟩ hd_J7_fill_53178 ⟨Nat.le_of_ble_eq_true rfl, Nat.le_of_ble_eq_true rfl⟩ hl.1 rfl (Nat.le_of_ble_eq_true rfl) dX3_row_32 ⟨Nat.le_refl _, Nat.le_refl _⟩) (fun H locs hP hS => ?_)
        refine lv_aload_n hx hb dX3_row_35 rfl (lv_at hl 0 rfl) ?_
        refine x_get C0 hKC.1 hP (by decide) (EC_0 K ad S8) rfl in_X3_row_X3 1 (by decide) (List.mem_of_getElem? (i := 2) rfl) rfl dX3_row_36 ?_
        refine lv_iload_n hx hb dX3_row_39 rfl (lv_at hl 1 rfl) ?_
        refine lv_iload_n hx hb dX3_row_40 rfl (lv_at hl 2 rfl) ?_
        obtain ⟨g9, hf⟩ := gd_some hf
        refine x_iast C0 hKC.1 hI (EC_loc K ad) hP hS (IC_8 K ad) (t0 := 0) rfl g9 dX3_row_41 (fun S10 eS10 H locs hP hS => ?_)
        have hf := nm_at eS10 hf
        refine lv_iload_n hx hb dX3_row_42 rfl (lv_at hl 2 rfl) ?_
        exact ret_i C0 hP hS (congrArg Prod.fst (Option.some.inj hf)) (congrArg Prod.snd (Option.some.inj hf)) dX3_row_43
      · have hf := ite_f hf c5
        refine lv_aload_n hx hb dX3_row_19 rfl (lv_at hl 0 rfl) ?_
        refine lv_iconst (v := 5) hx hb dX3_row_20 (by decide) ?_
        obtain ⟨v12, S13, h11, hf⟩ := b2_some hf
        refine sys_i hS (sys_runV (As := [.int 5]) (rest := []) C0 KC_ok hKC.1 hP hS (by decide) (EC_0 K ad S) rfl (m3_foundThat l D K ad tL hI S 5 h11) gX3_row_X3_foundThat rfl ⟨rfl, rfl⟩ hd_X3_foundThat ⟨Nat.le_of_ble_eq_true rfl, Nat.le_of_ble_eq_true rfl⟩ hl.1 rfl (Nat.le_of_ble_eq_true rfl) dX3_row_21 ⟨Nat.le_refl _, Nat.le_refl _⟩) (fun H locs hP hS => ?_)
        exact ret_i C0 hP hS (congrArg Prod.fst (Option.some.inj hf)) (congrArg Prod.snd (Option.some.inj hf)) dX3_row_24
    · have hf := ite_f hf c4
      refine lv_iconst (v := (-1)) hx hb dX3_row_13 (by decide) ?_
      exact ret_i C0 hP hS (congrArg Prod.fst (Option.some.inj hf)) (congrArg Prod.snd (Option.some.inj hf)) dX3_row_14
theorem m3_row (l : Launch) (D : va_G) (K : Nat → ClassId) (ad : Nat → Nat) (tL : Nat) (hI : INJ NC ad) (S : Mem) (x1 : Int32) (x2 : Int32) {r : Int32} {T : Mem} (hf : f3_row S x1 x2 = some (r, T)) : SysI l yX3_row wsX3_row rm3_row D NC ad (EC K ad) (KC D K tL (IW NC ad)) [.ref (ad 0), .int x1, .int x2] S r T :=
  met_of (own := RX3) (by decide) rfl rfl (Nat.le_of_ble_eq_true rfl) (fun _ _ s _ _ _ _ ls C0 _ hP hl => w3_row hI C0 S x1 x2 hf s.heap [] ls hP va_S.rf hl)
theorem in_X3_rowRefusal_X3 : ∀ w ∈ wsX30, w ∈ wsX3_rowRefusal := fun _ h => List.mem_cons_of_mem _ (List.mem_append_right _ h)
theorem hd_X3_rowRefusal : yX3_rowRefusal.cls = RX3 ∧ yX3_rowRefusal.cls ≠ "java/lang/invoke/MethodHandle" ∧ yX3_rowRefusal.cls ≠ "java/lang/invoke/VarHandle" ∧ (parseMethodDescriptor yX3_rowRefusal.desc).map (fun d => d.parameters.length) = some 1 := by decide +kernel
abbrev rm3_rowRefusal : Room := { frames := 1, cells := 0, slots := 0, locals := 21 }
set_option maxHeartbeats 4000000 in
set_option maxRecDepth 100000 in
theorem w3_rowRefusal {p : Program} {l : Launch} {e : Env} {s : State} {m : MethodId} {args : Array Value} {below : List Frame} {meth : Method} {c : Code} {D : va_G} {K : Nat → ClassId} {ad : Nat → Nat} {tL : Nat} (hI : INJ NC ad) (C0 : Cx p s m args meth c RX3 wsX3_rowRefusal cX3_rowRefusal 2 (some .int) (KC D K tL (IW NC ad))) {r : Int32} {T : Mem} : ∀ (S : Mem) (x1 : Int32), f3_rowRefusal S x1 = some (r, T) → ∀ (H : Heap) (locs : List Loc) (ls : Array Slot), va_P D vwCl (wl NC ad (EC K ad S)) H → va_S (IW NC ad) s.heap H locs → lv_has ls 2 [(0, .ref (ad 0)), (1, .int x1)] → W p l e rm3_rowRefusal s m args below meth c H locs 0 0 (MQ below (va_Qi (fun (x : Int32) (u : Mem) => x = r ∧ u = T) (fun u t => va_P D vwCl (wl NC ad (EC K ad u)) t.heap) (IW NC ad)) args s 0 0 (IW NC ad)) (F0 m 0 ls []) := by
  have hx := C0.1
  have hb := C0.2.1
  have hts := C0.2.2.2.2.1
  have hown := C0.2.2.2.1
  have hKC := C0.2.2.2.2.2.2.2
  intro S x1 hf H locs ls hP hS hl
  rw [f3_rowRefusal] at hf
  refine lv_iload_n hx hb dX3_rowRefusal_0 rfl (lv_at hl 1 rfl) ?_
  obtain ⟨v2, h1, hf⟩ := b1_some hf
  refine sys_i hS (sys_runS (As := [.int x1]) (rest := []) C0 KC_ok hP hS (m3_isRow l D K ad tL hI S x1 h1) gX3_rowRefusal_X3_isRow rfl ⟨rfl, rfl⟩ hd_X3_isRow ⟨Nat.le_of_ble_eq_true rfl, Nat.le_of_ble_eq_true rfl⟩ hl.1 rfl (Nat.le_of_ble_eq_true rfl) dX3_rowRefusal_1 ⟨Nat.le_refl _, Nat.le_refl _⟩) (fun H locs hP hS => ?_)
  refine lv_if_ne (tgt := 9) hx hb dX3_rowRefusal_4 (by decide) (fun c3 => ?_) (fun c3 => ?_)
  · have hf := ite_f hf c3
    refine lv_aload_n hx hb dX3_rowRefusal_9 rfl (lv_at hl 0 rfl) ?_
    refine x_get C0 hKC.1 hP (by decide) (EC_0 K ad S) rfl in_X3_rowRefusal_X3 1 (by decide) (List.mem_of_getElem? (i := 1) rfl) rfl dX3_rowRefusal_10 ?_
    refine lv_iload_n hx hb dX3_rowRefusal_13 rfl (lv_at hl 1 rfl) ?_
    obtain ⟨g4, hf⟩ := gd_some hf
    refine x_iald C0 hKC.1 hP (IC_8 K ad) (t0 := 0) rfl g4 dX3_rowRefusal_14 ?_
    refine lv_iconst (v := (-1)) hx hb dX3_rowRefusal_15 (by decide) ?_
    refine lv_icmp_ne (tgt := 27) hx hb dX3_rowRefusal_16 (by decide) (fun c5 => ?_) (fun c5 => ?_)
    · have hf := ite_f hf c5
      refine lv_iconst (v := 0) hx hb dX3_rowRefusal_27 (by decide) ?_
      exact ret_i C0 hP hS (congrArg Prod.fst (Option.some.inj hf)) (congrArg Prod.snd (Option.some.inj hf)) dX3_rowRefusal_28
    · have hf := ite_t hf c5
      refine lv_aload_n hx hb dX3_rowRefusal_19 rfl (lv_at hl 0 rfl) ?_
      refine lv_iconst (v := 1) hx hb dX3_rowRefusal_20 (by decide) ?_
      obtain ⟨v7, S8, h6, hf⟩ := b2_some hf
      refine sys_i hS (sys_runV (As := [.int 1]) (rest := []) C0 KC_ok hKC.1 hP hS (by decide) (EC_0 K ad S) rfl (m3_foundThat l D K ad tL hI S 1 h6) gX3_rowRefusal_X3_foundThat rfl ⟨rfl, rfl⟩ hd_X3_foundThat ⟨Nat.le_of_ble_eq_true rfl, Nat.le_of_ble_eq_true rfl⟩ hl.1 rfl (Nat.le_of_ble_eq_true rfl) dX3_rowRefusal_21 ⟨Nat.le_refl _, Nat.le_refl _⟩) (fun H locs hP hS => ?_)
      refine lv_goto (tgt := 28) hx hb dX3_rowRefusal_24 (by decide) ?_
      exact ret_i C0 hP hS (congrArg Prod.fst (Option.some.inj hf)) (congrArg Prod.snd (Option.some.inj hf)) dX3_rowRefusal_28
  · have hf := ite_t hf c3
    refine lv_iconst (v := (-1)) hx hb dX3_rowRefusal_7 (by decide) ?_
    exact ret_i C0 hP hS (congrArg Prod.fst (Option.some.inj hf)) (congrArg Prod.snd (Option.some.inj hf)) dX3_rowRefusal_8
theorem m3_rowRefusal (l : Launch) (D : va_G) (K : Nat → ClassId) (ad : Nat → Nat) (tL : Nat) (hI : INJ NC ad) (S : Mem) (x1 : Int32) {r : Int32} {T : Mem} (hf : f3_rowRefusal S x1 = some (r, T)) : SysI l yX3_rowRefusal wsX3_rowRefusal rm3_rowRefusal D NC ad (EC K ad) (KC D K tL (IW NC ad)) [.ref (ad 0), .int x1] S r T :=
  met_of (own := RX3) (by decide) rfl rfl (Nat.le_of_ble_eq_true rfl) (fun _ _ s _ _ _ _ ls C0 _ hP hl => w3_rowRefusal hI C0 S x1 hf s.heap [] ls hP va_S.rf hl)
theorem in_X3_placeRefusal_X3 : ∀ w ∈ wsX30, w ∈ wsX3_placeRefusal := fun _ h => List.mem_cons_of_mem _ (List.mem_append_right _ h)
theorem hd_X3_placeRefusal : yX3_placeRefusal.cls = RX3 ∧ yX3_placeRefusal.cls ≠ "java/lang/invoke/MethodHandle" ∧ yX3_placeRefusal.cls ≠ "java/lang/invoke/VarHandle" ∧ (parseMethodDescriptor yX3_placeRefusal.desc).map (fun d => d.parameters.length) = some 2 := by decide +kernel
abbrev rm3_placeRefusal : Room := { frames := 2, cells := 0, slots := 0, locals := 42 }
set_option maxHeartbeats 4000000 in
set_option maxRecDepth 100000 in
theorem w3_placeRefusal_b26 {p : Program} {l : Launch} {e : Env} {s : State} {m : MethodId} {args : Array Value} {below : List Frame} {meth : Method} {c : Code} {D : va_G} {K : Nat → ClassId} {ad : Nat → Nat} {tL : Nat} (hI : INJ NC ad) (C0 : Cx p s m args meth c RX3 wsX3_placeRefusal cX3_placeRefusal 4 (some .int) (KC D K tL (IW NC ad))) {r : Int32} {T : Mem} : ∀ (S : Mem), f3_placeRefusal_b26 S = some (r, T) → ∀ (H : Heap) (locs : List Loc) (ls : Array Slot), va_P D vwCl (wl NC ad (EC K ad S)) H → va_S (IW NC ad) s.heap H locs → lv_has ls 4 [(0, .ref (ad 0))] → W p l e rm3_placeRefusal s m args below meth c H locs 0 0 (MQ below (va_Qi (fun (x : Int32) (u : Mem) => x = r ∧ u = T) (fun u t => va_P D vwCl (wl NC ad (EC K ad u)) t.heap) (IW NC ad)) args s 0 0 (IW NC ad)) (F0 m 26 ls []) := by
  have hx := C0.1
  have hb := C0.2.1
  have hts := C0.2.2.2.2.1
  have hown := C0.2.2.2.1
  have hKC := C0.2.2.2.2.2.2.2
  intro S hf H locs ls hP hS hl
  rw [f3_placeRefusal_b26] at hf
  refine lv_aload_n hx hb dX3_placeRefusal_26 rfl (lv_at hl 0 rfl) ?_
  refine lv_iconst (v := 2) hx hb dX3_placeRefusal_27 (by decide) ?_
  obtain ⟨v2, S3, h1, hf⟩ := b2_some hf
  refine sys_i hS (sys_runV (As := [.int 2]) (rest := []) C0 KC_ok hKC.1 hP hS (by decide) (EC_0 K ad S) rfl (m3_foundThat l D K ad tL hI S 2 h1) gX3_placeRefusal_X3_foundThat rfl ⟨rfl, rfl⟩ hd_X3_foundThat ⟨Nat.le_of_ble_eq_true rfl, Nat.le_of_ble_eq_true rfl⟩ hl.1 rfl (Nat.le_of_ble_eq_true rfl) dX3_placeRefusal_28 ⟨Nat.le_refl _, Nat.le_refl _⟩) (fun H locs hP hS => ?_)
  refine lv_goto (tgt := 35) hx hb dX3_placeRefusal_31 (by decide) ?_
  exact ret_i C0 hP hS (congrArg Prod.fst (Option.some.inj hf)) (congrArg Prod.snd (Option.some.inj hf)) dX3_placeRefusal_35
set_option maxHeartbeats 4000000 in
set_option maxRecDepth 100000 in
theorem w3_placeRefusal {p : Program} {l : Launch} {e : Env} {s : State} {m : MethodId} {args : Array Value} {below : List Frame} {meth : Method} {c : Code} {D : va_G} {K : Nat → ClassId} {ad : Nat → Nat} {tL : Nat} (hI : INJ NC ad) (C0 : Cx p s m args meth c RX3 wsX3_placeRefusal cX3_placeRefusal 4 (some .int) (KC D K tL (IW NC ad))) {r : Int32} {T : Mem} : ∀ (S : Mem) (x1 : Int32) (x2 : Int32), f3_placeRefusal S x1 x2 = some (r, T) → ∀ (H : Heap) (locs : List Loc) (ls : Array Slot), va_P D vwCl (wl NC ad (EC K ad S)) H → va_S (IW NC ad) s.heap H locs → lv_has ls 4 [(0, .ref (ad 0)), (1, .int x1), (2, .int x2)] → W p l e rm3_placeRefusal s m args below meth c H locs 0 0 (MQ below (va_Qi (fun (x : Int32) (u : Mem) => x = r ∧ u = T) (fun u t => va_P D vwCl (wl NC ad (EC K ad u)) t.heap) (IW NC ad)) args s 0 0 (IW NC ad)) (F0 m 0 ls []) := by
  have hx := C0.1
  have hb := C0.2.1
  have hts := C0.2.2.2.2.1
  have hown := C0.2.2.2.1
  have hKC := C0.2.2.2.2.2.2.2
  intro S x1 x2 hf H locs ls hP hS hl
  rw [f3_placeRefusal] at hf
  refine lv_aload_n hx hb dX3_placeRefusal_0 rfl (lv_at hl 0 rfl) ?_
  refine lv_iload_n hx hb dX3_placeRefusal_1 rfl (lv_at hl 1 rfl) ?_
  obtain ⟨v2, S3, h1, hf⟩ := b2_some hf
  refine sys_i hS (sys_runV (As := [.int x1]) (rest := []) C0 KC_ok hKC.1 hP hS (by decide) (EC_0 K ad S) rfl (m3_rowRefusal l D K ad tL hI S x1 h1) gX3_placeRefusal_X3_rowRefusal rfl ⟨rfl, rfl⟩ hd_X3_rowRefusal ⟨Nat.le_of_ble_eq_true rfl, Nat.le_of_ble_eq_true rfl⟩ hl.1 rfl (Nat.le_of_ble_eq_true rfl) dX3_placeRefusal_2 ⟨Nat.le_refl _, Nat.le_refl _⟩) (fun H locs hP hS => ?_)
  refine lv_istore_n (lv' := [(3, .int v2), (0, .ref (ad 0)), (1, .int x1), (2, .int x2)]) hx hb dX3_placeRefusal_5 rfl hl (by decide) rfl (fun ls hl => ?_)
  refine lv_iload_n hx hb dX3_placeRefusal_6 rfl (lv_at hl 0 rfl) ?_
  refine lv_if_eq (tgt := 12) hx hb dX3_placeRefusal_7 (by decide) (fun c4 => ?_) (fun c4 => ?_)
  · have hf := ite_t hf c4
    refine lv_iload_n hx hb dX3_placeRefusal_12 rfl (lv_at hl 3 rfl) ?_
    refine lv_if_lt (tgt := 26) hx hb dX3_placeRefusal_13 (by decide) (fun c5 => ?_) (fun c5 => ?_)
    · have hf := ite_t hf c5
      exact w3_placeRefusal_b26 hI C0 S3 hf H locs ls hP hS (lv_sub hl [1] rfl)
    · have hf := ite_f hf c5
      refine lv_iload_n hx hb dX3_placeRefusal_16 rfl (lv_at hl 3 rfl) ?_
      refine lv_aload_n hx hb dX3_placeRefusal_17 rfl (lv_at hl 1 rfl) ?_
      refine x_get C0 hKC.1 hP (by decide) (EC_0 K ad S3) rfl in_X3_placeRefusal_X3 1 (by decide) (List.mem_of_getElem? (i := 1) rfl) rfl dX3_placeRefusal_18 ?_
      refine lv_iload_n hx hb dX3_placeRefusal_21 rfl (lv_at hl 2 rfl) ?_
      obtain ⟨g6, hf⟩ := gd_some hf
      refine x_iald C0 hKC.1 hP (IC_8 K ad) (t0 := 0) rfl g6 dX3_placeRefusal_22 ?_
      refine lv_icmp_lt (tgt := 34) hx hb dX3_placeRefusal_23 (by decide) (fun c7 => ?_) (fun c7 => ?_)
      · have hf := ite_t hf c7
        refine lv_iconst (v := 0) hx hb dX3_placeRefusal_34 (by decide) ?_
        exact ret_i C0 hP hS (congrArg Prod.fst (Option.some.inj hf)) (congrArg Prod.snd (Option.some.inj hf)) dX3_placeRefusal_35
      · have hf := ite_f hf c7
        exact w3_placeRefusal_b26 hI C0 S3 hf H locs ls hP hS (lv_sub hl [1] rfl)
  · have hf := ite_f hf c4
    refine lv_iload_n hx hb dX3_placeRefusal_10 rfl (lv_at hl 0 rfl) ?_
    exact ret_i C0 hP hS (congrArg Prod.fst (Option.some.inj hf)) (congrArg Prod.snd (Option.some.inj hf)) dX3_placeRefusal_11
theorem m3_placeRefusal (l : Launch) (D : va_G) (K : Nat → ClassId) (ad : Nat → Nat) (tL : Nat) (hI : INJ NC ad) (S : Mem) (x1 : Int32) (x2 : Int32) {r : Int32} {T : Mem} (hf : f3_placeRefusal S x1 x2 = some (r, T)) : SysI l yX3_placeRefusal wsX3_placeRefusal rm3_placeRefusal D NC ad (EC K ad) (KC D K tL (IW NC ad)) [.ref (ad 0), .int x1, .int x2] S r T :=
  met_of (own := RX3) (by decide) rfl rfl (Nat.le_of_ble_eq_true rfl) (fun _ _ s _ _ _ _ ls C0 _ hP hl => w3_placeRefusal hI C0 S x1 x2 hf s.heap [] ls hP va_S.rf hl)
theorem in_X3_lay_X3 : ∀ w ∈ wsX30, w ∈ wsX3_lay := fun _ h => List.mem_cons_of_mem _ (List.mem_append_right _ h)
theorem hd_X3_lay : yX3_lay.cls = RX3 ∧ yX3_lay.cls ≠ "java/lang/invoke/MethodHandle" ∧ yX3_lay.cls ≠ "java/lang/invoke/VarHandle" ∧ (parseMethodDescriptor yX3_lay.desc).map (fun d => d.parameters.length) = some 3 := by decide +kernel
abbrev rm3_lay : Room := { frames := 3, cells := 0, slots := 0, locals := 65 }
set_option maxHeartbeats 4000000 in
set_option maxRecDepth 100000 in
theorem w3_lay {p : Program} {l : Launch} {e : Env} {s : State} {m : MethodId} {args : Array Value} {below : List Frame} {meth : Method} {c : Code} {D : va_G} {K : Nat → ClassId} {ad : Nat → Nat} {tL : Nat} (hI : INJ NC ad) (C0 : Cx p s m args meth c RX3 wsX3_lay cX3_lay 5 (some .int) (KC D K tL (IW NC ad))) {r : Int32} {T : Mem} : ∀ (S : Mem) (x1 : Int32) (x2 : Int32) (x3 : Int32), f3_lay S x1 x2 x3 = some (r, T) → ∀ (H : Heap) (locs : List Loc) (ls : Array Slot), va_P D vwCl (wl NC ad (EC K ad S)) H → va_S (IW NC ad) s.heap H locs → lv_has ls 5 [(0, .ref (ad 0)), (1, .int x1), (2, .int x2), (3, .int x3)] → W p l e rm3_lay s m args below meth c H locs 0 0 (MQ below (va_Qi (fun (x : Int32) (u : Mem) => x = r ∧ u = T) (fun u t => va_P D vwCl (wl NC ad (EC K ad u)) t.heap) (IW NC ad)) args s 0 0 (IW NC ad)) (F0 m 0 ls []) := by
  have hx := C0.1
  have hb := C0.2.1
  have hts := C0.2.2.2.2.1
  have hown := C0.2.2.2.1
  have hKC := C0.2.2.2.2.2.2.2
  intro S x1 x2 x3 hf H locs ls hP hS hl
  rw [f3_lay] at hf
  refine lv_aload_n hx hb dX3_lay_0 rfl (lv_at hl 0 rfl) ?_
  refine lv_iload_n hx hb dX3_lay_1 rfl (lv_at hl 1 rfl) ?_
  refine lv_iload_n hx hb dX3_lay_2 rfl (lv_at hl 2 rfl) ?_
  obtain ⟨v2, S3, h1, hf⟩ := b2_some hf
  refine sys_i hS (sys_runV (As := [.int x1, .int x2]) (rest := []) C0 KC_ok hKC.1 hP hS (by decide) (EC_0 K ad S) rfl (m3_placeRefusal l D K ad tL hI S x1 x2 h1) gX3_lay_X3_placeRefusal rfl ⟨rfl, rfl⟩ hd_X3_placeRefusal ⟨Nat.le_of_ble_eq_true rfl, Nat.le_of_ble_eq_true rfl⟩ hl.1 rfl (Nat.le_of_ble_eq_true rfl) dX3_lay_3 ⟨Nat.le_refl _, Nat.le_refl _⟩) (fun H locs hP hS => ?_)
  refine lv_istore (lv' := [(4, .int v2), (0, .ref (ad 0)), (1, .int x1), (2, .int x2), (3, .int x3)]) hx hb dX3_lay_6 hl (by decide) rfl (fun ls hl => ?_)
  refine lv_iload hx hb dX3_lay_8 (lv_at hl 0 rfl) ?_
  refine lv_if_eq (tgt := 16) hx hb dX3_lay_10 (by decide) (fun c4 => ?_) (fun c4 => ?_)
  · have hf := ite_t hf c4
    refine lv_aload_n hx hb dX3_lay_16 rfl (lv_at hl 1 rfl) ?_
    refine lv_aload_n hx hb dX3_lay_17 rfl (lv_at hl 1 rfl) ?_
    refine x_get C0 hKC.1 hP (by decide) (EC_0 K ad S3) rfl in_X3_lay_X3 0 (by decide) (List.mem_of_getElem? (i := 1) rfl) rfl dX3_lay_18 ?_
    refine lv_iload_n hx hb dX3_lay_21 rfl (lv_at hl 2 rfl) ?_
    obtain ⟨g5, hf⟩ := gd_some hf
    refine x_aald C0 hKC.1 hP (by decide) (EC_RR K ad S3) (t0 := 4) rfl rfl g5 dX3_lay_22 ?_
    refine lv_iload_n hx hb dX3_lay_23 rfl (lv_at hl 3 rfl) ?_
    obtain ⟨g6, hf⟩ := gd_some hf
    refine x_iald C0 hKC.1 hP (IC_row K ad (inb_lt g5)) (t0 := 0) rfl g6 dX3_lay_24 ?_
    refine x_puti C0 hKC.1 hI (EC_loc K ad) hP hS (by decide) (EC_0 K ad S3) rfl tyX3 tyX3_ok nmX3 in_X3_lay_X3 9 (by decide) (List.mem_of_getElem? (i := 2) rfl) rfl (tyX3_ok 9 (by decide)) (Nat.le_of_ble_eq_true rfl) (EC_p9 K ad S3 _) dX3_lay_25 (fun S7 eS7 H locs hP hS => ?_)
    have hf := nm_at eS7 hf
    refine lv_aload_n hx hb dX3_lay_28 rfl (lv_at hl 1 rfl) ?_
    refine x_get C0 hKC.1 hP (by decide) (EC_0 K ad S7) rfl in_X3_lay_X3 0 (by decide) (List.mem_of_getElem? (i := 1) rfl) rfl dX3_lay_29 ?_
    refine lv_iload_n hx hb dX3_lay_32 rfl (lv_at hl 2 rfl) ?_
    obtain ⟨g8, hf⟩ := gd_some hf
    refine x_aald C0 hKC.1 hP (by decide) (EC_RR K ad S7) (t0 := 4) rfl rfl g8 dX3_lay_33 ?_
    refine lv_iload_n hx hb dX3_lay_34 rfl (lv_at hl 3 rfl) ?_
    refine lv_iload_n hx hb dX3_lay_35 rfl (lv_at hl 4 rfl) ?_
    obtain ⟨g9, hf⟩ := gd_some hf
    refine x_iast C0 hKC.1 hI (EC_loc K ad) hP hS (IC_row K ad (inb_lt g8)) (t0 := 0) rfl g9 dX3_lay_36 (fun S10 eS10 H locs hP hS => ?_)
    have hf := nm_at eS10 hf
    refine lv_iconst (v := 1) hx hb dX3_lay_37 (by decide) ?_
    exact ret_i C0 hP hS (congrArg Prod.fst (Option.some.inj hf)) (congrArg Prod.snd (Option.some.inj hf)) dX3_lay_38
  · have hf := ite_f hf c4
    refine lv_iload hx hb dX3_lay_13 (lv_at hl 0 rfl) ?_
    exact ret_i C0 hP hS (congrArg Prod.fst (Option.some.inj hf)) (congrArg Prod.snd (Option.some.inj hf)) dX3_lay_15
theorem m3_lay (l : Launch) (D : va_G) (K : Nat → ClassId) (ad : Nat → Nat) (tL : Nat) (hI : INJ NC ad) (S : Mem) (x1 : Int32) (x2 : Int32) (x3 : Int32) {r : Int32} {T : Mem} (hf : f3_lay S x1 x2 x3 = some (r, T)) : SysI l yX3_lay wsX3_lay rm3_lay D NC ad (EC K ad) (KC D K tL (IW NC ad)) [.ref (ad 0), .int x1, .int x2, .int x3] S r T :=
  met_of (own := RX3) (by decide) rfl rfl (Nat.le_of_ble_eq_true rfl) (fun _ _ s _ _ _ _ ls C0 _ hP hl => w3_lay hI C0 S x1 x2 x3 hf s.heap [] ls hP va_S.rf hl)
theorem in_X3_at_X3 : ∀ w ∈ wsX30, w ∈ wsX3_at := fun _ h => List.mem_cons_of_mem _ (List.mem_append_right _ h)
theorem hd_X3_at : yX3_at.cls = RX3 ∧ yX3_at.cls ≠ "java/lang/invoke/MethodHandle" ∧ yX3_at.cls ≠ "java/lang/invoke/VarHandle" ∧ (parseMethodDescriptor yX3_at.desc).map (fun d => d.parameters.length) = some 2 := by decide +kernel
abbrev rm3_at : Room := { frames := 3, cells := 0, slots := 0, locals := 65 }
set_option maxHeartbeats 4000000 in
set_option maxRecDepth 100000 in
theorem w3_at {p : Program} {l : Launch} {e : Env} {s : State} {m : MethodId} {args : Array Value} {below : List Frame} {meth : Method} {c : Code} {D : va_G} {K : Nat → ClassId} {ad : Nat → Nat} {tL : Nat} (hI : INJ NC ad) (C0 : Cx p s m args meth c RX3 wsX3_at cX3_at 4 (some .int) (KC D K tL (IW NC ad))) {r : Int32} {T : Mem} : ∀ (S : Mem) (x1 : Int32) (x2 : Int32), f3_at S x1 x2 = some (r, T) → ∀ (H : Heap) (locs : List Loc) (ls : Array Slot), va_P D vwCl (wl NC ad (EC K ad S)) H → va_S (IW NC ad) s.heap H locs → lv_has ls 4 [(0, .ref (ad 0)), (1, .int x1), (2, .int x2)] → W p l e rm3_at s m args below meth c H locs 0 0 (MQ below (va_Qi (fun (x : Int32) (u : Mem) => x = r ∧ u = T) (fun u t => va_P D vwCl (wl NC ad (EC K ad u)) t.heap) (IW NC ad)) args s 0 0 (IW NC ad)) (F0 m 0 ls []) := by
  have hx := C0.1
  have hb := C0.2.1
  have hts := C0.2.2.2.2.1
  have hown := C0.2.2.2.1
  have hKC := C0.2.2.2.2.2.2.2
  intro S x1 x2 hf H locs ls hP hS hl
  rw [f3_at] at hf
  refine lv_aload_n hx hb dX3_at_0 rfl (lv_at hl 0 rfl) ?_
  refine lv_iload_n hx hb dX3_at_1 rfl (lv_at hl 1 rfl) ?_
  refine lv_iload_n hx hb dX3_at_2 rfl (lv_at hl 2 rfl) ?_
  obtain ⟨v2, S3, h1, hf⟩ := b2_some hf
  refine sys_i hS (sys_runV (As := [.int x1, .int x2]) (rest := []) C0 KC_ok hKC.1 hP hS (by decide) (EC_0 K ad S) rfl (m3_placeRefusal l D K ad tL hI S x1 x2 h1) gX3_at_X3_placeRefusal rfl ⟨rfl, rfl⟩ hd_X3_placeRefusal ⟨Nat.le_of_ble_eq_true rfl, Nat.le_of_ble_eq_true rfl⟩ hl.1 rfl (Nat.le_of_ble_eq_true rfl) dX3_at_3 ⟨Nat.le_refl _, Nat.le_refl _⟩) (fun H locs hP hS => ?_)
  refine lv_istore_n (lv' := [(3, .int v2), (0, .ref (ad 0)), (1, .int x1), (2, .int x2)]) hx hb dX3_at_6 rfl hl (by decide) rfl (fun ls hl => ?_)
  refine lv_iload_n hx hb dX3_at_7 rfl (lv_at hl 0 rfl) ?_
  refine lv_if_eq (tgt := 13) hx hb dX3_at_8 (by decide) (fun c4 => ?_) (fun c4 => ?_)
  · have hf := ite_t hf c4
    refine lv_aload_n hx hb dX3_at_13 rfl (lv_at hl 1 rfl) ?_
    refine lv_aload_n hx hb dX3_at_14 rfl (lv_at hl 1 rfl) ?_
    refine x_get C0 hKC.1 hP (by decide) (EC_0 K ad S3) rfl in_X3_at_X3 0 (by decide) (List.mem_of_getElem? (i := 1) rfl) rfl dX3_at_15 ?_
    refine lv_iload_n hx hb dX3_at_18 rfl (lv_at hl 2 rfl) ?_
    obtain ⟨g5, hf⟩ := gd_some hf
    refine x_aald C0 hKC.1 hP (by decide) (EC_RR K ad S3) (t0 := 4) rfl rfl g5 dX3_at_19 ?_
    refine lv_iload_n hx hb dX3_at_20 rfl (lv_at hl 3 rfl) ?_
    obtain ⟨g6, hf⟩ := gd_some hf
    refine x_iald C0 hKC.1 hP (IC_row K ad (inb_lt g5)) (t0 := 0) rfl g6 dX3_at_21 ?_
    refine x_puti C0 hKC.1 hI (EC_loc K ad) hP hS (by decide) (EC_0 K ad S3) rfl tyX3 tyX3_ok nmX3 in_X3_at_X3 9 (by decide) (List.mem_of_getElem? (i := 2) rfl) rfl (tyX3_ok 9 (by decide)) (Nat.le_of_ble_eq_true rfl) (EC_p9 K ad S3 _) dX3_at_22 (fun S7 eS7 H locs hP hS => ?_)
    have hf := nm_at eS7 hf
    refine lv_iconst (v := 1) hx hb dX3_at_25 (by decide) ?_
    exact ret_i C0 hP hS (congrArg Prod.fst (Option.some.inj hf)) (congrArg Prod.snd (Option.some.inj hf)) dX3_at_26
  · have hf := ite_f hf c4
    refine lv_iload_n hx hb dX3_at_11 rfl (lv_at hl 0 rfl) ?_
    exact ret_i C0 hP hS (congrArg Prod.fst (Option.some.inj hf)) (congrArg Prod.snd (Option.some.inj hf)) dX3_at_12
theorem m3_at (l : Launch) (D : va_G) (K : Nat → ClassId) (ad : Nat → Nat) (tL : Nat) (hI : INJ NC ad) (S : Mem) (x1 : Int32) (x2 : Int32) {r : Int32} {T : Mem} (hf : f3_at S x1 x2 = some (r, T)) : SysI l yX3_at wsX3_at rm3_at D NC ad (EC K ad) (KC D K tL (IW NC ad)) [.ref (ad 0), .int x1, .int x2] S r T :=
  met_of (own := RX3) (by decide) rfl rfl (Nat.le_of_ble_eq_true rfl) (fun _ _ s _ _ _ _ ls C0 _ hP hl => w3_at hI C0 S x1 x2 hf s.heap [] ls hP va_S.rf hl)
theorem in_X3_tear_X3 : ∀ w ∈ wsX30, w ∈ wsX3_tear := fun _ h => List.mem_cons_of_mem _ (List.mem_append_right _ h)
theorem hd_X3_tear : yX3_tear.cls = RX3 ∧ yX3_tear.cls ≠ "java/lang/invoke/MethodHandle" ∧ yX3_tear.cls ≠ "java/lang/invoke/VarHandle" ∧ (parseMethodDescriptor yX3_tear.desc).map (fun d => d.parameters.length) = some 1 := by decide +kernel
abbrev rm3_tear : Room := { frames := 2, cells := 0, slots := 0, locals := 42 }
set_option maxHeartbeats 4000000 in
set_option maxRecDepth 100000 in
theorem w3_tear {p : Program} {l : Launch} {e : Env} {s : State} {m : MethodId} {args : Array Value} {below : List Frame} {meth : Method} {c : Code} {D : va_G} {K : Nat → ClassId} {ad : Nat → Nat} {tL : Nat} (hI : INJ NC ad) (C0 : Cx p s m args meth c RX3 wsX3_tear cX3_tear 3 (some .int) (KC D K tL (IW NC ad))) {r : Int32} {T : Mem} : ∀ (S : Mem) (x1 : Int32), f3_tear S x1 = some (r, T) → ∀ (H : Heap) (locs : List Loc) (ls : Array Slot), va_P D vwCl (wl NC ad (EC K ad S)) H → va_S (IW NC ad) s.heap H locs → lv_has ls 3 [(0, .ref (ad 0)), (1, .int x1)] → W p l e rm3_tear s m args below meth c H locs 0 0 (MQ below (va_Qi (fun (x : Int32) (u : Mem) => x = r ∧ u = T) (fun u t => va_P D vwCl (wl NC ad (EC K ad u)) t.heap) (IW NC ad)) args s 0 0 (IW NC ad)) (F0 m 0 ls []) := by
  have hx := C0.1
  have hb := C0.2.1
  have hts := C0.2.2.2.2.1
  have hown := C0.2.2.2.1
  have hKC := C0.2.2.2.2.2.2.2
  intro S x1 hf H locs ls hP hS hl
  rw [f3_tear] at hf
  refine lv_aload_n hx hb dX3_tear_0 rfl (lv_at hl 0 rfl) ?_
  refine lv_iload_n hx hb dX3_tear_1 rfl (lv_at hl 1 rfl) ?_
  obtain ⟨v2, S3, h1, hf⟩ := b2_some hf
  refine sys_i hS (sys_runV (As := [.int x1]) (rest := []) C0 KC_ok hKC.1 hP hS (by decide) (EC_0 K ad S) rfl (m3_rowRefusal l D K ad tL hI S x1 h1) gX3_tear_X3_rowRefusal rfl ⟨rfl, rfl⟩ hd_X3_rowRefusal ⟨Nat.le_of_ble_eq_true rfl, Nat.le_of_ble_eq_true rfl⟩ hl.1 rfl (Nat.le_of_ble_eq_true rfl) dX3_tear_2 ⟨Nat.le_refl _, Nat.le_refl _⟩) (fun H locs hP hS => ?_)
  refine lv_istore_n (lv' := [(2, .int v2), (0, .ref (ad 0)), (1, .int x1)]) hx hb dX3_tear_5 rfl hl (by decide) rfl (fun ls hl => ?_)
  refine lv_iload_n hx hb dX3_tear_6 rfl (lv_at hl 0 rfl) ?_
  refine lv_if_eq (tgt := 12) hx hb dX3_tear_7 (by decide) (fun c4 => ?_) (fun c4 => ?_)
  · have hf := ite_t hf c4
    refine lv_aload_n hx hb dX3_tear_12 rfl (lv_at hl 1 rfl) ?_
    refine x_get C0 hKC.1 hP (by decide) (EC_0 K ad S3) rfl in_X3_tear_X3 1 (by decide) (List.mem_of_getElem? (i := 1) rfl) rfl dX3_tear_13 ?_
    refine lv_iload_n hx hb dX3_tear_16 rfl (lv_at hl 2 rfl) ?_
    refine lv_iconst (v := (-1)) hx hb dX3_tear_17 (by decide) ?_
    obtain ⟨g5, hf⟩ := gd_some hf
    refine x_iast C0 hKC.1 hI (EC_loc K ad) hP hS (IC_8 K ad) (t0 := 0) rfl g5 dX3_tear_18 (fun S6 eS6 H locs hP hS => ?_)
    have hf := nm_at eS6 hf
    refine lv_iconst (v := 1) hx hb dX3_tear_19 (by decide) ?_
    exact ret_i C0 hP hS (congrArg Prod.fst (Option.some.inj hf)) (congrArg Prod.snd (Option.some.inj hf)) dX3_tear_20
  · have hf := ite_f hf c4
    refine lv_iload_n hx hb dX3_tear_10 rfl (lv_at hl 0 rfl) ?_
    exact ret_i C0 hP hS (congrArg Prod.fst (Option.some.inj hf)) (congrArg Prod.snd (Option.some.inj hf)) dX3_tear_11
theorem m3_tear (l : Launch) (D : va_G) (K : Nat → ClassId) (ad : Nat → Nat) (tL : Nat) (hI : INJ NC ad) (S : Mem) (x1 : Int32) {r : Int32} {T : Mem} (hf : f3_tear S x1 = some (r, T)) : SysI l yX3_tear wsX3_tear rm3_tear D NC ad (EC K ad) (KC D K tL (IW NC ad)) [.ref (ad 0), .int x1] S r T :=
  met_of (own := RX3) (by decide) rfl rfl (Nat.le_of_ble_eq_true rfl) (fun _ _ s _ _ _ _ ls C0 _ hP hl => w3_tear hI C0 S x1 hf s.heap [] ls hP va_S.rf hl)
theorem hd_X3_reaches : yX3_reaches.cls ≠ "java/lang/invoke/MethodHandle" ∧ yX3_reaches.cls ≠ "java/lang/invoke/VarHandle" ∧ (parseMethodDescriptor yX3_reaches.desc).map (fun d => d.parameters.length) = some 3 := by decide +kernel
abbrev rm3_reaches : Room := { frames := 0, cells := 0, slots := 0, locals := 0 }
set_option maxHeartbeats 4000000 in
set_option maxRecDepth 100000 in
theorem w3_reaches {p : Program} {l : Launch} {e : Env} {s : State} {m : MethodId} {args : Array Value} {below : List Frame} {meth : Method} {c : Code} {D : va_G} {K : Nat → ClassId} {ad : Nat → Nat} {tL : Nat} (hI : INJ NC ad) (C0 : Cx p s m args meth c RX3 wsX3_reaches cX3_reaches 3 (some .boolean) (KC D K tL (IW NC ad))) (S : Mem) {r : Int32} : ∀ (x0 : Int32) (x1 : Int32) (x2 : Int32), f3_reaches x0 x1 x2 = some r → ∀ (H : Heap) (locs : List Loc) (ls : Array Slot), va_P D vwCl (wl NC ad (EC K ad S)) H → va_S (IW NC ad) s.heap H locs → lv_has ls 3 [(0, .int x0), (1, .int x1), (2, .int x2)] → W p l e rm3_reaches s m args below meth c H locs 0 0 (MQ below (va_Qi (fun (x : Int32) (u : Mem) => x = r ∧ u = S) (fun u t => va_P D vwCl (wl NC ad (EC K ad u)) t.heap) (IW NC ad)) args s 0 0 (IW NC ad)) (F0 m 0 ls []) := by
  have hx := C0.1
  have hb := C0.2.1
  have hts := C0.2.2.2.2.1
  have hown := C0.2.2.2.1
  have hKC := C0.2.2.2.2.2.2.2
  intro x0 x1 x2 hf H locs ls hP hS hl
  rw [f3_reaches] at hf
  refine lv_iload_n hx hb dX3_reaches_0 rfl (lv_at hl 1 rfl) ?_
  refine lv_if_lt (tgt := 15) hx hb dX3_reaches_1 (by decide) (fun c1 => ?_) (fun c1 => ?_)
  · have hf := ite_t hf c1
    refine lv_iconst (v := 0) hx hb dX3_reaches_15 (by decide) ?_
    exact ret_z C0 hP hS (Or.inl rfl) (Option.some.inj hf) rfl dX3_reaches_16
  · have hf := ite_f hf c1
    refine lv_iload_n hx hb dX3_reaches_4 rfl (lv_at hl 1 rfl) ?_
    refine lv_iload_n hx hb dX3_reaches_5 rfl (lv_at hl 0 rfl) ?_
    refine lv_iload_n hx hb dX3_reaches_6 rfl (lv_at hl 2 rfl) ?_
    refine lv_isub hx hb dX3_reaches_7 ?_
    refine lv_icmp_gt (tgt := 15) hx hb dX3_reaches_8 (by decide) (fun c2 => ?_) (fun c2 => ?_)
    · have hf := ite_t hf c2
      refine lv_iconst (v := 0) hx hb dX3_reaches_15 (by decide) ?_
      exact ret_z C0 hP hS (Or.inl rfl) (Option.some.inj hf) rfl dX3_reaches_16
    · have hf := ite_f hf c2
      refine lv_iconst (v := 1) hx hb dX3_reaches_11 (by decide) ?_
      refine lv_goto (tgt := 16) hx hb dX3_reaches_12 (by decide) ?_
      exact ret_z C0 hP hS (Or.inr rfl) (Option.some.inj hf) rfl dX3_reaches_16
theorem m3_reaches (l : Launch) (D : va_G) (K : Nat → ClassId) (ad : Nat → Nat) (tL : Nat) (hI : INJ NC ad) (S : Mem) (x0 : Int32) (x1 : Int32) (x2 : Int32) {r : Int32} (hf : f3_reaches x0 x1 x2 = some r) : SysI l yX3_reaches wsX3_reaches rm3_reaches D NC ad (EC K ad) (KC D K tL (IW NC ad)) [.int x0, .int x1, .int x2] S r S :=
  met_of (own := RX3) (by decide) rfl rfl (Nat.le_of_ble_eq_true rfl) (fun _ _ s _ _ _ _ ls C0 _ hP hl => w3_reaches hI C0 S x0 x1 x2 hf s.heap [] ls hP va_S.rf hl)
theorem in_X3_copy_X3 : ∀ w ∈ wsX30, w ∈ wsX3_copy := fun _ h => List.mem_cons_of_mem _ (List.mem_append_right _ h)
theorem hd_X3_copy : yX3_copy.cls = RX3 ∧ yX3_copy.cls ≠ "java/lang/invoke/MethodHandle" ∧ yX3_copy.cls ≠ "java/lang/invoke/VarHandle" ∧ (parseMethodDescriptor yX3_copy.desc).map (fun d => d.parameters.length) = some 5 := by decide +kernel
abbrev rm3_copy : Room := { frames := 1, cells := 0, slots := 0, locals := 96 }
set_option maxHeartbeats 4000000 in
set_option maxRecDepth 100000 in
theorem w3_copy_b47 {p : Program} {l : Launch} {e : Env} {s : State} {m : MethodId} {args : Array Value} {below : List Frame} {meth : Method} {c : Code} {D : va_G} {K : Nat → ClassId} {ad : Nat → Nat} {tL : Nat} (hI : INJ NC ad) (C0 : Cx p s m args meth c RX3 wsX3_copy cX3_copy 6 (some .int) (KC D K tL (IW NC ad))) {r : Int32} {T : Mem} : ∀ (S : Mem), f3_copy_b47 S = some (r, T) → ∀ (H : Heap) (locs : List Loc) (ls : Array Slot), va_P D vwCl (wl NC ad (EC K ad S)) H → va_S (IW NC ad) s.heap H locs → lv_has ls 6 [(0, .ref (ad 0))] → W p l e rm3_copy s m args below meth c H locs 0 0 (MQ below (va_Qi (fun (x : Int32) (u : Mem) => x = r ∧ u = T) (fun u t => va_P D vwCl (wl NC ad (EC K ad u)) t.heap) (IW NC ad)) args s 0 0 (IW NC ad)) (F0 m 47 ls []) := by
  have hx := C0.1
  have hb := C0.2.1
  have hts := C0.2.2.2.2.1
  have hown := C0.2.2.2.1
  have hKC := C0.2.2.2.2.2.2.2
  intro S hf H locs ls hP hS hl
  rw [f3_copy_b47] at hf
  refine lv_aload_n hx hb dX3_copy_47 rfl (lv_at hl 0 rfl) ?_
  refine lv_iconst (v := 1) hx hb dX3_copy_48 (by decide) ?_
  obtain ⟨v2, S3, h1, hf⟩ := b2_some hf
  refine sys_i hS (sys_runV (As := [.int 1]) (rest := []) C0 KC_ok hKC.1 hP hS (by decide) (EC_0 K ad S) rfl (m3_foundThat l D K ad tL hI S 1 h1) gX3_copy_X3_foundThat rfl ⟨rfl, rfl⟩ hd_X3_foundThat ⟨Nat.le_of_ble_eq_true rfl, Nat.le_of_ble_eq_true rfl⟩ hl.1 rfl (Nat.le_of_ble_eq_true rfl) dX3_copy_49 ⟨Nat.le_refl _, Nat.le_refl _⟩) (fun H locs hP hS => ?_)
  exact ret_i C0 hP hS (congrArg Prod.fst (Option.some.inj hf)) (congrArg Prod.snd (Option.some.inj hf)) dX3_copy_52
set_option maxHeartbeats 4000000 in
set_option maxRecDepth 100000 in
theorem w3_copy_b84 {p : Program} {l : Launch} {e : Env} {s : State} {m : MethodId} {args : Array Value} {below : List Frame} {meth : Method} {c : Code} {D : va_G} {K : Nat → ClassId} {ad : Nat → Nat} {tL : Nat} (hI : INJ NC ad) (C0 : Cx p s m args meth c RX3 wsX3_copy cX3_copy 6 (some .int) (KC D K tL (IW NC ad))) {r : Int32} {T : Mem} : ∀ (S : Mem), f3_copy_b84 S = some (r, T) → ∀ (H : Heap) (locs : List Loc) (ls : Array Slot), va_P D vwCl (wl NC ad (EC K ad S)) H → va_S (IW NC ad) s.heap H locs → lv_has ls 6 [(0, .ref (ad 0))] → W p l e rm3_copy s m args below meth c H locs 0 0 (MQ below (va_Qi (fun (x : Int32) (u : Mem) => x = r ∧ u = T) (fun u t => va_P D vwCl (wl NC ad (EC K ad u)) t.heap) (IW NC ad)) args s 0 0 (IW NC ad)) (F0 m 84 ls []) := by
  have hx := C0.1
  have hb := C0.2.1
  have hts := C0.2.2.2.2.1
  have hown := C0.2.2.2.1
  have hKC := C0.2.2.2.2.2.2.2
  intro S hf H locs ls hP hS hl
  rw [f3_copy_b84] at hf
  refine lv_aload_n hx hb dX3_copy_84 rfl (lv_at hl 0 rfl) ?_
  refine lv_iconst (v := 2) hx hb dX3_copy_85 (by decide) ?_
  obtain ⟨v2, S3, h1, hf⟩ := b2_some hf
  refine sys_i hS (sys_runV (As := [.int 2]) (rest := []) C0 KC_ok hKC.1 hP hS (by decide) (EC_0 K ad S) rfl (m3_foundThat l D K ad tL hI S 2 h1) gX3_copy_X3_foundThat rfl ⟨rfl, rfl⟩ hd_X3_foundThat ⟨Nat.le_of_ble_eq_true rfl, Nat.le_of_ble_eq_true rfl⟩ hl.1 rfl (Nat.le_of_ble_eq_true rfl) dX3_copy_86 ⟨Nat.le_refl _, Nat.le_refl _⟩) (fun H locs hP hS => ?_)
  exact ret_i C0 hP hS (congrArg Prod.fst (Option.some.inj hf)) (congrArg Prod.snd (Option.some.inj hf)) dX3_copy_89
set_option maxHeartbeats 4000000 in
set_option maxRecDepth 100000 in
theorem w3_copy {p : Program} {l : Launch} {e : Env} {s : State} {m : MethodId} {args : Array Value} {below : List Frame} {meth : Method} {c : Code} {D : va_G} {K : Nat → ClassId} {ad : Nat → Nat} {tL : Nat} (hI : INJ NC ad) (C0 : Cx p s m args meth c RX3 wsX3_copy cX3_copy 6 (some .int) (KC D K tL (IW NC ad))) {r : Int32} {T : Mem} : ∀ (S : Mem) (x1 : Int32) (x2 : Int32) (x3 : Int32) (x4 : Int32) (x5 : Int32), f3_copy S x1 x2 x3 x4 x5 = some (r, T) → ∀ (H : Heap) (locs : List Loc) (ls : Array Slot), va_P D vwCl (wl NC ad (EC K ad S)) H → va_S (IW NC ad) s.heap H locs → lv_has ls 6 [(0, .ref (ad 0)), (1, .int x1), (2, .int x2), (3, .int x3), (4, .int x4), (5, .int x5)] → W p l e rm3_copy s m args below meth c H locs 0 0 (MQ below (va_Qi (fun (x : Int32) (u : Mem) => x = r ∧ u = T) (fun u t => va_P D vwCl (wl NC ad (EC K ad u)) t.heap) (IW NC ad)) args s 0 0 (IW NC ad)) (F0 m 0 ls []) := by
  have hx := C0.1
  have hb := C0.2.1
  have hts := C0.2.2.2.2.1
  have hown := C0.2.2.2.1
  have hKC := C0.2.2.2.2.2.2.2
  intro S x1 x2 x3 x4 x5 hf H locs ls hP hS hl
  rw [f3_copy] at hf
  refine lv_iload_n hx hb dX3_copy_0 rfl (lv_at hl 1 rfl) ?_
  obtain ⟨v2, h1, hf⟩ := b1_some hf
  refine sys_i hS (sys_runS (As := [.int x1]) (rest := []) C0 KC_ok hP hS (m3_isRow l D K ad tL hI S x1 h1) gX3_copy_X3_isRow rfl ⟨rfl, rfl⟩ hd_X3_isRow ⟨Nat.le_of_ble_eq_true rfl, Nat.le_of_ble_eq_true rfl⟩ hl.1 rfl (Nat.le_of_ble_eq_true rfl) dX3_copy_1 ⟨Nat.le_refl _, Nat.le_refl _⟩) (fun H locs hP hS => ?_)
  refine lv_if_eq (tgt := 14) hx hb dX3_copy_4 (by decide) (fun c3 => ?_) (fun c3 => ?_)
  · have hf := ite_t hf c3
    refine lv_iconst (v := (-1)) hx hb dX3_copy_14 (by decide) ?_
    exact ret_i C0 hP hS (congrArg Prod.fst (Option.some.inj hf)) (congrArg Prod.snd (Option.some.inj hf)) dX3_copy_15
  · have hf := ite_f hf c3
    refine lv_iload_n hx hb dX3_copy_7 rfl (lv_at hl 3 rfl) ?_
    obtain ⟨v5, h4, hf⟩ := b1_some hf
    refine sys_i hS (sys_runS (As := [.int x3]) (rest := []) C0 KC_ok hP hS (m3_isRow l D K ad tL hI S x3 h4) gX3_copy_X3_isRow rfl ⟨rfl, rfl⟩ hd_X3_isRow ⟨Nat.le_of_ble_eq_true rfl, Nat.le_of_ble_eq_true rfl⟩ hl.1 rfl (Nat.le_of_ble_eq_true rfl) dX3_copy_8 ⟨Nat.le_refl _, Nat.le_refl _⟩) (fun H locs hP hS => ?_)
    refine lv_if_ne (tgt := 16) hx hb dX3_copy_11 (by decide) (fun c6 => ?_) (fun c6 => ?_)
    · have hf := ite_f hf c6
      refine lv_iload hx hb dX3_copy_16 (lv_at hl 5 rfl) ?_
      refine lv_if_ge (tgt := 27) hx hb dX3_copy_18 (by decide) (fun c7 => ?_) (fun c7 => ?_)
      · have hf := ite_t hf c7
        refine lv_aload_n hx hb dX3_copy_27 rfl (lv_at hl 0 rfl) ?_
        refine x_get C0 hKC.1 hP (by decide) (EC_0 K ad S) rfl in_X3_copy_X3 1 (by decide) (List.mem_of_getElem? (i := 1) rfl) rfl dX3_copy_28 ?_
        refine lv_iload_n hx hb dX3_copy_31 rfl (lv_at hl 1 rfl) ?_
        obtain ⟨g8, hf⟩ := gd_some hf
        refine x_iald C0 hKC.1 hP (IC_8 K ad) (t0 := 0) rfl g8 dX3_copy_32 ?_
        refine lv_iconst (v := (-1)) hx hb dX3_copy_33 (by decide) ?_
        refine lv_icmp_eq (tgt := 47) hx hb dX3_copy_34 (by decide) (fun c9 => ?_) (fun c9 => ?_)
        · have hf := ite_t hf c9
          exact w3_copy_b47 hI C0 S hf H locs ls hP hS (lv_sub hl [0] rfl)
        · have hf := ite_f hf c9
          refine lv_aload_n hx hb dX3_copy_37 rfl (lv_at hl 0 rfl) ?_
          refine x_get C0 hKC.1 hP (by decide) (EC_0 K ad S) rfl in_X3_copy_X3 1 (by decide) (List.mem_of_getElem? (i := 1) rfl) rfl dX3_copy_38 ?_
          refine lv_iload_n hx hb dX3_copy_41 rfl (lv_at hl 3 rfl) ?_
          obtain ⟨g10, hf⟩ := gd_some hf
          refine x_iald C0 hKC.1 hP (IC_8 K ad) (t0 := 0) rfl g10 dX3_copy_42 ?_
          refine lv_iconst (v := (-1)) hx hb dX3_copy_43 (by decide) ?_
          refine lv_icmp_ne (tgt := 53) hx hb dX3_copy_44 (by decide) (fun c11 => ?_) (fun c11 => ?_)
          · have hf := ite_f hf c11
            refine lv_aload_n hx hb dX3_copy_53 rfl (lv_at hl 0 rfl) ?_
            refine x_get C0 hKC.1 hP (by decide) (EC_0 K ad S) rfl in_X3_copy_X3 1 (by decide) (List.mem_of_getElem? (i := 1) rfl) rfl dX3_copy_54 ?_
            refine lv_iload_n hx hb dX3_copy_57 rfl (lv_at hl 1 rfl) ?_
            obtain ⟨g12, hf⟩ := gd_some hf
            refine x_iald C0 hKC.1 hP (IC_8 K ad) (t0 := 0) rfl g12 dX3_copy_58 ?_
            refine lv_iload_n hx hb dX3_copy_59 rfl (lv_at hl 2 rfl) ?_
            refine lv_iload hx hb dX3_copy_60 (lv_at hl 5 rfl) ?_
            obtain ⟨v14, h13, hf⟩ := b1_some hf
            refine sys_i hS (sys_runS (As := [.int (gi S 8 (ix x1)), .int x2, .int x5]) (rest := []) C0 KC_ok hP hS (m3_reaches l D K ad tL hI S (gi S 8 (ix x1)) x2 x5 h13) gX3_copy_X3_reaches rfl ⟨rfl, rfl⟩ hd_X3_reaches ⟨Nat.le_of_ble_eq_true rfl, Nat.le_of_ble_eq_true rfl⟩ hl.1 rfl (Nat.le_of_ble_eq_true rfl) dX3_copy_62 ⟨Nat.le_refl _, Nat.le_refl _⟩) (fun H locs hP hS => ?_)
            refine lv_if_eq (tgt := 84) hx hb dX3_copy_65 (by decide) (fun c15 => ?_) (fun c15 => ?_)
            · have hf := ite_t hf c15
              exact w3_copy_b84 hI C0 S hf H locs ls hP hS (lv_sub hl [0] rfl)
            · have hf := ite_f hf c15
              refine lv_aload_n hx hb dX3_copy_68 rfl (lv_at hl 0 rfl) ?_
              refine x_get C0 hKC.1 hP (by decide) (EC_0 K ad S) rfl in_X3_copy_X3 1 (by decide) (List.mem_of_getElem? (i := 1) rfl) rfl dX3_copy_69 ?_
              refine lv_iload_n hx hb dX3_copy_72 rfl (lv_at hl 3 rfl) ?_
              obtain ⟨g16, hf⟩ := gd_some hf
              refine x_iald C0 hKC.1 hP (IC_8 K ad) (t0 := 0) rfl g16 dX3_copy_73 ?_
              refine lv_iload hx hb dX3_copy_74 (lv_at hl 4 rfl) ?_
              refine lv_iload hx hb dX3_copy_76 (lv_at hl 5 rfl) ?_
              obtain ⟨v18, h17, hf⟩ := b1_some hf
              refine sys_i hS (sys_runS (As := [.int (gi S 8 (ix x3)), .int x4, .int x5]) (rest := []) C0 KC_ok hP hS (m3_reaches l D K ad tL hI S (gi S 8 (ix x3)) x4 x5 h17) gX3_copy_X3_reaches rfl ⟨rfl, rfl⟩ hd_X3_reaches ⟨Nat.le_of_ble_eq_true rfl, Nat.le_of_ble_eq_true rfl⟩ hl.1 rfl (Nat.le_of_ble_eq_true rfl) dX3_copy_78 ⟨Nat.le_refl _, Nat.le_refl _⟩) (fun H locs hP hS => ?_)
              refine lv_if_ne (tgt := 90) hx hb dX3_copy_81 (by decide) (fun c19 => ?_) (fun c19 => ?_)
              · have hf := ite_f hf c19
                refine lv_aload_n hx hb dX3_copy_90 rfl (lv_at hl 0 rfl) ?_
                refine x_get C0 hKC.1 hP (by decide) (EC_0 K ad S) rfl in_X3_copy_X3 0 (by decide) (List.mem_of_getElem? (i := 2) rfl) rfl dX3_copy_91 ?_
                refine lv_iload_n hx hb dX3_copy_94 rfl (lv_at hl 1 rfl) ?_
                obtain ⟨g20, hf⟩ := gd_some hf
                refine x_aald C0 hKC.1 hP (by decide) (EC_RR K ad S) (t0 := 4) rfl rfl g20 dX3_copy_95 ?_
                refine lv_iload_n hx hb dX3_copy_96 rfl (lv_at hl 2 rfl) ?_
                refine lv_aload_n hx hb dX3_copy_97 rfl (lv_at hl 0 rfl) ?_
                refine x_get C0 hKC.1 hP (by decide) (EC_0 K ad S) rfl in_X3_copy_X3 0 (by decide) (List.mem_of_getElem? (i := 2) rfl) rfl dX3_copy_98 ?_
                refine lv_iload_n hx hb dX3_copy_101 rfl (lv_at hl 3 rfl) ?_
                obtain ⟨g21, hf⟩ := gd_some hf
                refine x_aald C0 hKC.1 hP (by decide) (EC_RR K ad S) (t0 := 4) rfl rfl g21 dX3_copy_102 ?_
                refine lv_iload hx hb dX3_copy_103 (lv_at hl 4 rfl) ?_
                refine lv_iload hx hb dX3_copy_105 (lv_at hl 5 rfl) ?_
                obtain ⟨g22, hf⟩ := gd_some hf
                refine x_copy C0 hKC.1 hI (EC_loc K ad) hP hS hl.1 (List.mem_of_getElem? (i := 3) rfl) (List.mem_of_getElem? (i := 4) rfl) (List.mem_of_getElem? (i := 5) rfl) (List.mem_of_getElem? (i := 6) rfl) (IC_row K ad (inb_lt g20)) (IC_row K ad (inb_lt g21)) (t0 := 0) rfl g22 (Nat.le_of_ble_eq_true rfl) (Nat.le_of_ble_eq_true rfl) dX3_copy_107 (fun S23 eS23 H locs hP hS => ?_)
                have hf := nm_at eS23 hf
                refine lv_iconst (v := 1) hx hb dX3_copy_110 (by decide) ?_
                exact ret_i C0 hP hS (congrArg Prod.fst (Option.some.inj hf)) (congrArg Prod.snd (Option.some.inj hf)) dX3_copy_111
              · have hf := ite_t hf c19
                exact w3_copy_b84 hI C0 S hf H locs ls hP hS (lv_sub hl [0] rfl)
          · have hf := ite_t hf c11
            exact w3_copy_b47 hI C0 S hf H locs ls hP hS (lv_sub hl [0] rfl)
      · have hf := ite_f hf c7
        refine lv_aload_n hx hb dX3_copy_21 rfl (lv_at hl 0 rfl) ?_
        refine lv_iconst (v := 5) hx hb dX3_copy_22 (by decide) ?_
        obtain ⟨v25, S26, h24, hf⟩ := b2_some hf
        refine sys_i hS (sys_runV (As := [.int 5]) (rest := []) C0 KC_ok hKC.1 hP hS (by decide) (EC_0 K ad S) rfl (m3_foundThat l D K ad tL hI S 5 h24) gX3_copy_X3_foundThat rfl ⟨rfl, rfl⟩ hd_X3_foundThat ⟨Nat.le_of_ble_eq_true rfl, Nat.le_of_ble_eq_true rfl⟩ hl.1 rfl (Nat.le_of_ble_eq_true rfl) dX3_copy_23 ⟨Nat.le_refl _, Nat.le_refl _⟩) (fun H locs hP hS => ?_)
        exact ret_i C0 hP hS (congrArg Prod.fst (Option.some.inj hf)) (congrArg Prod.snd (Option.some.inj hf)) dX3_copy_26
    · have hf := ite_t hf c6
      refine lv_iconst (v := (-1)) hx hb dX3_copy_14 (by decide) ?_
      exact ret_i C0 hP hS (congrArg Prod.fst (Option.some.inj hf)) (congrArg Prod.snd (Option.some.inj hf)) dX3_copy_15
theorem m3_copy (l : Launch) (D : va_G) (K : Nat → ClassId) (ad : Nat → Nat) (tL : Nat) (hI : INJ NC ad) (S : Mem) (x1 : Int32) (x2 : Int32) (x3 : Int32) (x4 : Int32) (x5 : Int32) {r : Int32} {T : Mem} (hf : f3_copy S x1 x2 x3 x4 x5 = some (r, T)) : SysI l yX3_copy wsX3_copy rm3_copy D NC ad (EC K ad) (KC D K tL (IW NC ad)) [.ref (ad 0), .int x1, .int x2, .int x3, .int x4, .int x5] S r T :=
  met_of (own := RX3) (by decide) rfl rfl (Nat.le_of_ble_eq_true rfl) (fun _ _ s _ _ _ _ ls C0 _ hP hl => w3_copy hI C0 S x1 x2 x3 x4 x5 hf s.heap [] ls hP va_S.rf hl)
theorem in_X3_mean_X3 : ∀ w ∈ wsX30, w ∈ wsX3_mean := fun _ h => List.mem_cons_of_mem _ (List.mem_append_right _ h)
theorem hd_X3_mean : yX3_mean.cls = RX3 ∧ yX3_mean.cls ≠ "java/lang/invoke/MethodHandle" ∧ yX3_mean.cls ≠ "java/lang/invoke/VarHandle" ∧ (parseMethodDescriptor yX3_mean.desc).map (fun d => d.parameters.length) = some 1 := by decide +kernel
abbrev rm3_mean : Room := { frames := 2, cells := 0, slots := 0, locals := 42 }
set_option maxHeartbeats 4000000 in
set_option maxRecDepth 100000 in
theorem w3_mean_b35 {p : Program} {l : Launch} {e : Env} {s : State} {m : MethodId} {args : Array Value} {below : List Frame} {meth : Method} {c : Code} {D : va_G} {K : Nat → ClassId} {ad : Nat → Nat} {tL : Nat} (hI : INJ NC ad) (C0 : Cx p s m args meth c RX3 wsX3_mean cX3_mean 7 (some .int) (KC D K tL (IW NC ad))) {r : Int32} {T : Mem} : ∀ (n : Nat), ∀ (S : Mem) (x1 : Int32) (x3 : Int32) (x4 : Int64) (x6 : Int32), f3_mean_b35 n S x1 x3 x4 x6 = some (r, T) → ∀ (H : Heap) (locs : List Loc) (ls : Array Slot), va_P D vwCl (wl NC ad (EC K ad S)) H → va_S (IW NC ad) s.heap H locs → lv_has ls 7 [(0, .ref (ad 0)), (1, .int x1), (3, .int x3), (4, .long x4), (6, .int x6)] → W p l e rm3_mean s m args below meth c H locs 0 0 (MQ below (va_Qi (fun (x : Int32) (u : Mem) => x = r ∧ u = T) (fun u t => va_P D vwCl (wl NC ad (EC K ad u)) t.heap) (IW NC ad)) args s 0 0 (IW NC ad)) (F0 m 35 ls []) := by
  have hx := C0.1
  have hb := C0.2.1
  have hts := C0.2.2.2.2.1
  have hown := C0.2.2.2.1
  have hKC := C0.2.2.2.2.2.2.2
  intro n
  induction n with
  | zero =>
    intro S x1 x3 x4 x6 hf
    rw [f3_mean_b35] at hf
    cases hf
  | succ n ih =>
    intro S x1 x3 x4 x6 hf H locs ls hP hS hl
    rw [f3_mean_b35] at hf
    refine lv_iload hx hb dX3_mean_35 (lv_at hl 4 rfl) ?_
    refine lv_iload_n hx hb dX3_mean_37 rfl (lv_at hl 2 rfl) ?_
    refine lv_icmp_ge (tgt := 62) hx hb dX3_mean_38 (by decide) (fun c1 => ?_) (fun c1 => ?_)
    · have hf := ite_t hf c1
      refine lv_aload_n hx hb dX3_mean_62 rfl (lv_at hl 0 rfl) ?_
      refine lv_lload hx hb dX3_mean_63 (lv_at hl 3 rfl) ?_
      refine lv_iload_n hx hb dX3_mean_65 rfl (lv_at hl 2 rfl) ?_
      refine lv_i2l (v := (Int32.toInt64 x3)) hx hb dX3_mean_66 rfl ?_
      obtain ⟨g2, hf⟩ := gd_some hf
      refine lv_ldiv hx hb dX3_mean_67 (of_decide_eq_true g2) ?_
      refine lv_l2i (v := (Int64.toInt32 (x4 / (Int32.toInt64 x3)))) hx hb dX3_mean_68 rfl ?_
      refine x_puti C0 hKC.1 hI (EC_loc K ad) hP hS (by decide) (EC_0 K ad S) rfl tyX3 tyX3_ok nmX3 in_X3_mean_X3 9 (by decide) (List.mem_of_getElem? (i := 3) rfl) rfl (tyX3_ok 9 (by decide)) (Nat.le_of_ble_eq_true rfl) (EC_p9 K ad S _) dX3_mean_69 (fun S3 eS3 H locs hP hS => ?_)
      have hf := nm_at eS3 hf
      refine lv_iconst (v := 1) hx hb dX3_mean_72 (by decide) ?_
      exact ret_i C0 hP hS (congrArg Prod.fst (Option.some.inj hf)) (congrArg Prod.snd (Option.some.inj hf)) dX3_mean_73
    · have hf := ite_f hf c1
      refine lv_lload hx hb dX3_mean_41 (lv_at hl 3 rfl) ?_
      refine lv_aload_n hx hb dX3_mean_43 rfl (lv_at hl 0 rfl) ?_
      refine x_get C0 hKC.1 hP (by decide) (EC_0 K ad S) rfl in_X3_mean_X3 0 (by decide) (List.mem_of_getElem? (i := 2) rfl) rfl dX3_mean_44 ?_
      refine lv_iload_n hx hb dX3_mean_47 rfl (lv_at hl 1 rfl) ?_
      obtain ⟨g4, hf⟩ := gd_some hf
      refine x_aald C0 hKC.1 hP (by decide) (EC_RR K ad S) (t0 := 4) rfl rfl g4 dX3_mean_48 ?_
      refine lv_iload hx hb dX3_mean_49 (lv_at hl 4 rfl) ?_
      obtain ⟨g5, hf⟩ := gd_some hf
      refine x_iald C0 hKC.1 hP (IC_row K ad (inb_lt g4)) (t0 := 0) rfl g5 dX3_mean_51 ?_
      refine lv_i2l (v := (Int32.toInt64 (gi S (2 + (ix x1)) (ix x6)))) hx hb dX3_mean_52 rfl ?_
      refine lv_ladd hx hb dX3_mean_53 ?_
      refine lv_topl (fun v6 ev6 => ?_)
      have hf := nm_at ev6 hf
      refine lv_lstore (lv' := [(4, .long v6), (0, .ref (ad 0)), (1, .int x1), (3, .int x3), (6, .int x6)]) hx hb dX3_mean_54 hl (by decide) rfl (fun ls hl => ?_)
      obtain ⟨v7, ev7⟩ : ∃ y : Int32, y = x6 + 1 := ⟨_, rfl⟩
      have hf := nm_at ev7 hf
      refine lv_iinc (v := v7) (lv' := [(6, .int v7), (4, .long v6), (0, .ref (ad 0)), (1, .int x1), (3, .int x3)]) hx hb dX3_mean_56 hl (k := 4) rfl (by rw [ev7]; rfl) (by decide) rfl (fun ls hl => ?_)
      refine lv_goto (tgt := 35) hx hb dX3_mean_59 (by decide) ?_
      exact ih S x1 x3 v6 v7 hf H locs ls hP hS (lv_sub hl [2, 3, 4, 1, 0] rfl)
set_option maxHeartbeats 4000000 in
set_option maxRecDepth 100000 in
theorem w3_mean {p : Program} {l : Launch} {e : Env} {s : State} {m : MethodId} {args : Array Value} {below : List Frame} {meth : Method} {c : Code} {D : va_G} {K : Nat → ClassId} {ad : Nat → Nat} {tL : Nat} (hI : INJ NC ad) (C0 : Cx p s m args meth c RX3 wsX3_mean cX3_mean 7 (some .int) (KC D K tL (IW NC ad))) {r : Int32} {T : Mem} : ∀ (S : Mem) (x1 : Int32), f3_mean S x1 = some (r, T) → ∀ (H : Heap) (locs : List Loc) (ls : Array Slot), va_P D vwCl (wl NC ad (EC K ad S)) H → va_S (IW NC ad) s.heap H locs → lv_has ls 7 [(0, .ref (ad 0)), (1, .int x1)] → W p l e rm3_mean s m args below meth c H locs 0 0 (MQ below (va_Qi (fun (x : Int32) (u : Mem) => x = r ∧ u = T) (fun u t => va_P D vwCl (wl NC ad (EC K ad u)) t.heap) (IW NC ad)) args s 0 0 (IW NC ad)) (F0 m 0 ls []) := by
  have hx := C0.1
  have hb := C0.2.1
  have hts := C0.2.2.2.2.1
  have hown := C0.2.2.2.1
  have hKC := C0.2.2.2.2.2.2.2
  intro S x1 hf H locs ls hP hS hl
  rw [f3_mean] at hf
  refine lv_aload_n hx hb dX3_mean_0 rfl (lv_at hl 0 rfl) ?_
  refine lv_iload_n hx hb dX3_mean_1 rfl (lv_at hl 1 rfl) ?_
  obtain ⟨v2, S3, h1, hf⟩ := b2_some hf
  refine sys_i hS (sys_runV (As := [.int x1]) (rest := []) C0 KC_ok hKC.1 hP hS (by decide) (EC_0 K ad S) rfl (m3_rowRefusal l D K ad tL hI S x1 h1) gX3_mean_X3_rowRefusal rfl ⟨rfl, rfl⟩ hd_X3_rowRefusal ⟨Nat.le_of_ble_eq_true rfl, Nat.le_of_ble_eq_true rfl⟩ hl.1 rfl (Nat.le_of_ble_eq_true rfl) dX3_mean_2 ⟨Nat.le_refl _, Nat.le_refl _⟩) (fun H locs hP hS => ?_)
  refine lv_istore_n (lv' := [(2, .int v2), (0, .ref (ad 0)), (1, .int x1)]) hx hb dX3_mean_5 rfl hl (by decide) rfl (fun ls hl => ?_)
  refine lv_iload_n hx hb dX3_mean_6 rfl (lv_at hl 0 rfl) ?_
  refine lv_if_eq (tgt := 12) hx hb dX3_mean_7 (by decide) (fun c4 => ?_) (fun c4 => ?_)
  · have hf := ite_t hf c4
    refine lv_aload_n hx hb dX3_mean_12 rfl (lv_at hl 1 rfl) ?_
    refine x_get C0 hKC.1 hP (by decide) (EC_0 K ad S3) rfl in_X3_mean_X3 1 (by decide) (List.mem_of_getElem? (i := 1) rfl) rfl dX3_mean_13 ?_
    refine lv_iload_n hx hb dX3_mean_16 rfl (lv_at hl 2 rfl) ?_
    obtain ⟨g5, hf⟩ := gd_some hf
    refine x_iald C0 hKC.1 hP (IC_8 K ad) (t0 := 0) rfl g5 dX3_mean_17 ?_
    refine lv_topi (fun v6 ev6 => ?_)
    have hf := nm_at ev6 hf
    refine lv_istore_n (lv' := [(3, .int v6), (2, .int v2), (0, .ref (ad 0)), (1, .int x1)]) hx hb dX3_mean_18 rfl hl (by decide) rfl (fun ls hl => ?_)
    refine lv_iload_n hx hb dX3_mean_19 rfl (lv_at hl 0 rfl) ?_
    refine lv_if_ne (tgt := 29) hx hb dX3_mean_20 (by decide) (fun c7 => ?_) (fun c7 => ?_)
    · have hf := ite_f hf c7
      refine lv_lconst (v := 0) hx hb dX3_mean_29 (by decide) ?_
      refine lv_lstore (lv' := [(4, .long 0), (3, .int v6), (2, .int v2), (0, .ref (ad 0)), (1, .int x1)]) hx hb dX3_mean_30 hl (by decide) rfl (fun ls hl => ?_)
      refine lv_iconst (v := 0) hx hb dX3_mean_32 (by decide) ?_
      refine lv_istore (lv' := [(6, .int 0), (4, .long 0), (3, .int v6), (2, .int v2), (0, .ref (ad 0)), (1, .int x1)]) hx hb dX3_mean_33 hl (by decide) rfl (fun ls hl => ?_)
      exact w3_mean_b35 hI C0 FU S3 x1 v6 0 0 hf H locs ls hP hS (lv_sub hl [4, 5, 2, 1, 0] rfl)
    · have hf := ite_t hf c7
      refine lv_aload_n hx hb dX3_mean_23 rfl (lv_at hl 2 rfl) ?_
      refine lv_iconst (v := 4) hx hb dX3_mean_24 (by decide) ?_
      obtain ⟨v9, S10, h8, hf⟩ := b2_some hf
      refine sys_i hS (sys_runV (As := [.int 4]) (rest := []) C0 KC_ok hKC.1 hP hS (by decide) (EC_0 K ad S3) rfl (m3_foundThat l D K ad tL hI S3 4 h8) gX3_mean_X3_foundThat rfl ⟨rfl, rfl⟩ hd_X3_foundThat ⟨Nat.le_of_ble_eq_true rfl, Nat.le_of_ble_eq_true rfl⟩ hl.1 rfl (Nat.le_of_ble_eq_true rfl) dX3_mean_25 ⟨Nat.le_refl _, Nat.le_refl _⟩) (fun H locs hP hS => ?_)
      exact ret_i C0 hP hS (congrArg Prod.fst (Option.some.inj hf)) (congrArg Prod.snd (Option.some.inj hf)) dX3_mean_28
  · have hf := ite_f hf c4
    refine lv_iload_n hx hb dX3_mean_10 rfl (lv_at hl 0 rfl) ?_
    exact ret_i C0 hP hS (congrArg Prod.fst (Option.some.inj hf)) (congrArg Prod.snd (Option.some.inj hf)) dX3_mean_11
theorem m3_mean (l : Launch) (D : va_G) (K : Nat → ClassId) (ad : Nat → Nat) (tL : Nat) (hI : INJ NC ad) (S : Mem) (x1 : Int32) {r : Int32} {T : Mem} (hf : f3_mean S x1 = some (r, T)) : SysI l yX3_mean wsX3_mean rm3_mean D NC ad (EC K ad) (KC D K tL (IW NC ad)) [.ref (ad 0), .int x1] S r T :=
  met_of (own := RX3) (by decide) rfl rfl (Nat.le_of_ble_eq_true rfl) (fun _ _ s _ _ _ _ ls C0 _ hP hl => w3_mean hI C0 S x1 hf s.heap [] ls hP va_S.rf hl)
theorem hd_X3_isText : yX3_isText.cls ≠ "java/lang/invoke/MethodHandle" ∧ yX3_isText.cls ≠ "java/lang/invoke/VarHandle" ∧ (parseMethodDescriptor yX3_isText.desc).map (fun d => d.parameters.length) = some 1 := by decide +kernel
abbrev rm3_isText : Room := { frames := 0, cells := 0, slots := 0, locals := 0 }
set_option maxHeartbeats 4000000 in
set_option maxRecDepth 100000 in
theorem w3_isText {p : Program} {l : Launch} {e : Env} {s : State} {m : MethodId} {args : Array Value} {below : List Frame} {meth : Method} {c : Code} {D : va_G} {K : Nat → ClassId} {ad : Nat → Nat} {tL : Nat} (hI : INJ NC ad) (C0 : Cx p s m args meth c RX3 wsX3_isText cX3_isText 1 (some .boolean) (KC D K tL (IW NC ad))) (S : Mem) {r : Int32} : ∀ (x0 : Int32), f3_isText x0 = some r → ∀ (H : Heap) (locs : List Loc) (ls : Array Slot), va_P D vwCl (wl NC ad (EC K ad S)) H → va_S (IW NC ad) s.heap H locs → lv_has ls 1 [(0, .int x0)] → W p l e rm3_isText s m args below meth c H locs 0 0 (MQ below (va_Qi (fun (x : Int32) (u : Mem) => x = r ∧ u = S) (fun u t => va_P D vwCl (wl NC ad (EC K ad u)) t.heap) (IW NC ad)) args s 0 0 (IW NC ad)) (F0 m 0 ls []) := by
  have hx := C0.1
  have hb := C0.2.1
  have hts := C0.2.2.2.2.1
  have hown := C0.2.2.2.1
  have hKC := C0.2.2.2.2.2.2.2
  intro x0 hf H locs ls hP hS hl
  rw [f3_isText] at hf
  refine lv_iload_n hx hb dX3_isText_0 rfl (lv_at hl 0 rfl) ?_
  refine lv_if_lt (tgt := 13) hx hb dX3_isText_1 (by decide) (fun c1 => ?_) (fun c1 => ?_)
  · have hf := ite_t hf c1
    refine lv_iconst (v := 0) hx hb dX3_isText_13 (by decide) ?_
    exact ret_z C0 hP hS (Or.inl rfl) (Option.some.inj hf) rfl dX3_isText_14
  · have hf := ite_f hf c1
    refine lv_iload_n hx hb dX3_isText_4 rfl (lv_at hl 0 rfl) ?_
    refine lv_iconst (v := 4) hx hb dX3_isText_5 (by decide) ?_
    refine lv_icmp_ge (tgt := 13) hx hb dX3_isText_6 (by decide) (fun c2 => ?_) (fun c2 => ?_)
    · have hf := ite_t hf c2
      refine lv_iconst (v := 0) hx hb dX3_isText_13 (by decide) ?_
      exact ret_z C0 hP hS (Or.inl rfl) (Option.some.inj hf) rfl dX3_isText_14
    · have hf := ite_f hf c2
      refine lv_iconst (v := 1) hx hb dX3_isText_9 (by decide) ?_
      refine lv_goto (tgt := 14) hx hb dX3_isText_10 (by decide) ?_
      exact ret_z C0 hP hS (Or.inr rfl) (Option.some.inj hf) rfl dX3_isText_14
theorem m3_isText (l : Launch) (D : va_G) (K : Nat → ClassId) (ad : Nat → Nat) (tL : Nat) (hI : INJ NC ad) (S : Mem) (x0 : Int32) {r : Int32} (hf : f3_isText x0 = some r) : SysI l yX3_isText wsX3_isText rm3_isText D NC ad (EC K ad) (KC D K tL (IW NC ad)) [.int x0] S r S :=
  met_of (own := RX3) (by decide) rfl rfl (Nat.le_of_ble_eq_true rfl) (fun _ _ s _ _ _ _ ls C0 _ hP hl => w3_isText hI C0 S x0 hf s.heap [] ls hP va_S.rf hl)
theorem hd_J7_fill_031fb : yJ7_fill_031fb.cls ≠ "java/lang/invoke/MethodHandle" ∧ yJ7_fill_031fb.cls ≠ "java/lang/invoke/VarHandle" ∧ (parseMethodDescriptor yJ7_fill_031fb.desc).map (fun d => d.parameters.length) = some 2 := by decide +kernel
abbrev rm7_fillB : Room := { frames := 0, cells := 0, slots := 0, locals := 0 }
set_option maxHeartbeats 4000000 in
set_option maxRecDepth 100000 in
theorem w7_fillB_b5 {p : Program} {l : Launch} {e : Env} {s : State} {m : MethodId} {args : Array Value} {below : List Frame} {meth : Method} {c : Code} {D : va_G} {ad : Nat → Nat} {N : Nat} {EE : Mem → Nat → va_E} {KK : State → Prop} {tys : List (ClassId × FieldType)} {t0 : Nat} {c0 : ClassId} (hI : INJ N ad) (hLoc : LOC EE) (ht : tys[t0]? = some (c0, .byte)) (hkk : ∀ U, KK U → va_K D vwCl tys U) (C0 : Cx p s m args meth c RJ7 wsJ7_fill_031fb cJ7_fill_031fb 4 none KK) {T : Mem} : ∀ (n : Nat), ∀ (S : Mem) (a0 : Nat) (a0n : Nat) (x1 : Int32) (x2 : Int32) (x3 : Int32), IA EE N c0 a0 a0n → f7_fillB_b5 n S a0 a0n x1 x2 x3 = some T → ∀ (H : Heap) (locs : List Loc) (ls : Array Slot), va_P D vwCl (wl N ad (EE S)) H → va_S (IW N ad) s.heap H locs → lv_has ls 4 [(0, .ref (ad a0)), (1, .int x1), (2, .int x2), (3, .int x3)] → W p l e rm7_fillB s m args below meth c H locs 0 0 (MQ below (va_Qv (fun (u : Mem) => u = T) (fun u t => va_P D vwCl (wl N ad (EE u)) t.heap) (IW N ad)) args s 0 0 (IW N ad)) (F0 m 5 ls []) := by
  have hx := C0.1
  have hb := C0.2.1
  have hts := C0.2.2.2.2.1
  have hown := C0.2.2.2.1
  have hKC := C0.2.2.2.2.2.2.2
  intro n
  induction n with
  | zero =>
    intro S a0 a0n x1 x2 x3 ha0 hf
    rw [f7_fillB_b5] at hf
    cases hf
  | succ n ih =>
    intro S a0 a0n x1 x2 x3 ha0 hf H locs ls hP hS hl
    rw [f7_fillB_b5] at hf
    refine lv_iload_n hx hb dJ7_fill_031fb_5 rfl (lv_at hl 2 rfl) ?_
    refine lv_iload_n hx hb dJ7_fill_031fb_6 rfl (lv_at hl 3 rfl) ?_
    refine lv_icmp_ge (tgt := 20) hx hb dJ7_fill_031fb_7 (by decide) (fun c1 => ?_) (fun c1 => ?_)
    · have hf := ite_t hf c1
      exact ret_v C0 hP hS (Option.some.inj hf) dJ7_fill_031fb_20
    · have hf := ite_f hf c1
      refine lv_aload_n hx hb dJ7_fill_031fb_10 rfl (lv_at hl 0 rfl) ?_
      refine lv_iload_n hx hb dJ7_fill_031fb_11 rfl (lv_at hl 2 rfl) ?_
      refine lv_iload_n hx hb dJ7_fill_031fb_12 rfl (lv_at hl 1 rfl) ?_
      obtain ⟨g2, hf⟩ := gd_some hf
      refine x_bast C0 (hkk _ hKC) hI hLoc hP hS ha0 ht g2 dJ7_fill_031fb_13 (fun S3 eS3 H locs hP hS => ?_)
      have hf := nm_at eS3 hf
      obtain ⟨v4, ev4⟩ : ∃ y : Int32, y = x2 + 1 := ⟨_, rfl⟩
      have hf := nm_at ev4 hf
      refine lv_iinc (v := v4) (lv' := [(2, .int v4), (0, .ref (ad a0)), (1, .int x1), (3, .int x3)]) hx hb dJ7_fill_031fb_14 hl (k := 2) rfl (by rw [ev4]; rfl) (by decide) rfl (fun ls hl => ?_)
      refine lv_goto (tgt := 5) hx hb dJ7_fill_031fb_17 (by decide) ?_
      exact ih S3 a0 a0n x1 v4 x3 ha0 hf H locs ls hP hS (lv_sub hl [1, 2, 0, 3] rfl)
set_option maxHeartbeats 4000000 in
set_option maxRecDepth 100000 in
theorem w7_fillB {p : Program} {l : Launch} {e : Env} {s : State} {m : MethodId} {args : Array Value} {below : List Frame} {meth : Method} {c : Code} {D : va_G} {ad : Nat → Nat} {N : Nat} {EE : Mem → Nat → va_E} {KK : State → Prop} {tys : List (ClassId × FieldType)} {t0 : Nat} {c0 : ClassId} (hI : INJ N ad) (hLoc : LOC EE) (ht : tys[t0]? = some (c0, .byte)) (hkk : ∀ U, KK U → va_K D vwCl tys U) (C0 : Cx p s m args meth c RJ7 wsJ7_fill_031fb cJ7_fill_031fb 4 none KK) {T : Mem} : ∀ (S : Mem) (a0 : Nat) (a0n : Nat) (x1 : Int32), IA EE N c0 a0 a0n → f7_fillB S a0 a0n x1 = some T → ∀ (H : Heap) (locs : List Loc) (ls : Array Slot), va_P D vwCl (wl N ad (EE S)) H → va_S (IW N ad) s.heap H locs → lv_has ls 4 [(0, .ref (ad a0)), (1, .int x1)] → W p l e rm7_fillB s m args below meth c H locs 0 0 (MQ below (va_Qv (fun (u : Mem) => u = T) (fun u t => va_P D vwCl (wl N ad (EE u)) t.heap) (IW N ad)) args s 0 0 (IW N ad)) (F0 m 0 ls []) := by
  have hx := C0.1
  have hb := C0.2.1
  have hts := C0.2.2.2.2.1
  have hown := C0.2.2.2.1
  have hKC := C0.2.2.2.2.2.2.2
  intro S a0 a0n x1 ha0 hf H locs ls hP hS hl
  rw [f7_fillB] at hf
  refine lv_iconst (v := 0) hx hb dJ7_fill_031fb_0 (by decide) ?_
  refine lv_istore_n (lv' := [(2, .int 0), (0, .ref (ad a0)), (1, .int x1)]) hx hb dJ7_fill_031fb_1 rfl hl (by decide) rfl (fun ls hl => ?_)
  refine lv_aload_n hx hb dJ7_fill_031fb_2 rfl (lv_at hl 1 rfl) ?_
  refine x_alen C0 (hkk _ hKC) hP ha0 ht dJ7_fill_031fb_3 ?_
  refine lv_topi (fun v1 ev1 => ?_)
  have hf := nm_at ev1 hf
  refine lv_istore_n (lv' := [(3, .int v1), (2, .int 0), (0, .ref (ad a0)), (1, .int x1)]) hx hb dJ7_fill_031fb_4 rfl hl (by decide) rfl (fun ls hl => ?_)
  exact w7_fillB_b5 hI hLoc ht hkk C0 FU S a0 a0n x1 0 v1 ha0 hf H locs ls hP hS (lv_sub hl [2, 3, 1, 0] rfl)
theorem m7_fillB (l : Launch) (D : va_G) (ad : Nat → Nat) {N : Nat} {EE : Mem → Nat → va_E} {KK : State → Prop} {tys : List (ClassId × FieldType)} {t0 : Nat} {c0 : ClassId} (hI : INJ N ad) (hLoc : LOC EE) (ht : tys[t0]? = some (c0, .byte)) (hkk : ∀ U, KK U → va_K D vwCl tys U) (S : Mem) (a0 : Nat) (a0n : Nat) (x1 : Int32) (ha0 : IA EE N c0 a0 a0n) {T : Mem} (hf : f7_fillB S a0 a0n x1 = some T) : SysV l yJ7_fill_031fb wsJ7_fill_031fb rm7_fillB D N ad (EE) KK [.ref (ad a0), .int x1] S T :=
  met_of (own := RJ7) (by decide) rfl rfl (Nat.le_of_ble_eq_true rfl) (fun _ _ s _ _ _ _ ls C0 _ hP hl => w7_fillB hI hLoc ht hkk C0 S a0 a0n x1 ha0 hf s.heap [] ls hP va_S.rf hl)
theorem in_X3_text_X3 : ∀ w ∈ wsX30, w ∈ wsX3_text := fun _ h => List.mem_cons_of_mem _ (List.mem_append_right _ h)
theorem hd_X3_text : yX3_text.cls = RX3 ∧ yX3_text.cls ≠ "java/lang/invoke/MethodHandle" ∧ yX3_text.cls ≠ "java/lang/invoke/VarHandle" ∧ (parseMethodDescriptor yX3_text.desc).map (fun d => d.parameters.length) = some 2 := by decide +kernel
abbrev rm3_text : Room := { frames := 1, cells := 0, slots := 0, locals := 23 }
set_option maxHeartbeats 4000000 in
set_option maxRecDepth 100000 in
theorem w3_text {p : Program} {l : Launch} {e : Env} {s : State} {m : MethodId} {args : Array Value} {below : List Frame} {meth : Method} {c : Code} {D : va_G} {K : Nat → ClassId} {ad : Nat → Nat} {tL : Nat} (hI : INJ NC ad) (C0 : Cx p s m args meth c RX3 wsX3_text cX3_text 3 (some .int) (KC D K tL (IW NC ad))) {r : Int32} {T : Mem} : ∀ (S : Mem) (x1 : Int32) (x2 : Int32), f3_text S x1 x2 = some (r, T) → ∀ (H : Heap) (locs : List Loc) (ls : Array Slot), va_P D vwCl (wl NC ad (EC K ad S)) H → va_S (IW NC ad) s.heap H locs → lv_has ls 3 [(0, .ref (ad 0)), (1, .int x1), (2, .int x2)] → W p l e rm3_text s m args below meth c H locs 0 0 (MQ below (va_Qi (fun (x : Int32) (u : Mem) => x = r ∧ u = T) (fun u t => va_P D vwCl (wl NC ad (EC K ad u)) t.heap) (IW NC ad)) args s 0 0 (IW NC ad)) (F0 m 0 ls []) := by
  have hx := C0.1
  have hb := C0.2.1
  have hts := C0.2.2.2.2.1
  have hown := C0.2.2.2.1
  have hKC := C0.2.2.2.2.2.2.2
  intro S x1 x2 hf H locs ls hP hS hl
  rw [f3_text] at hf
  refine lv_iload_n hx hb dX3_text_0 rfl (lv_at hl 1 rfl) ?_
  obtain ⟨v2, h1, hf⟩ := b1_some hf
  refine sys_i hS (sys_runS (As := [.int x1]) (rest := []) C0 KC_ok hP hS (m3_isText l D K ad tL hI S x1 h1) gX3_text_X3_isText rfl ⟨rfl, rfl⟩ hd_X3_isText ⟨Nat.le_of_ble_eq_true rfl, Nat.le_of_ble_eq_true rfl⟩ hl.1 rfl (Nat.le_of_ble_eq_true rfl) dX3_text_1 ⟨Nat.le_refl _, Nat.le_refl _⟩) (fun H locs hP hS => ?_)
  refine lv_if_eq (tgt := 13) hx hb dX3_text_4 (by decide) (fun c3 => ?_) (fun c3 => ?_)
  · have hf := ite_t hf c3
    refine lv_iconst (v := (-1)) hx hb dX3_text_13 (by decide) ?_
    exact ret_i C0 hP hS (congrArg Prod.fst (Option.some.inj hf)) (congrArg Prod.snd (Option.some.inj hf)) dX3_text_14
  · have hf := ite_f hf c3
    refine lv_iload_n hx hb dX3_text_7 rfl (lv_at hl 2 rfl) ?_
    refine lv_bipush (v := 60) hx hb dX3_text_8 (by decide) ?_
    refine lv_icmp_le (tgt := 15) hx hb dX3_text_10 (by decide) (fun c4 => ?_) (fun c4 => ?_)
    · have hf := ite_t hf c4
      refine lv_iload_n hx hb dX3_text_15 rfl (lv_at hl 2 rfl) ?_
      refine lv_if_ge (tgt := 25) hx hb dX3_text_16 (by decide) (fun c5 => ?_) (fun c5 => ?_)
      · have hf := ite_t hf c5
        refine lv_aload_n hx hb dX3_text_25 rfl (lv_at hl 0 rfl) ?_
        refine x_get C0 hKC.1 hP (by decide) (EC_0 K ad S) rfl in_X3_text_X3 2 (by decide) (List.mem_of_getElem? (i := 1) rfl) rfl dX3_text_26 ?_
        refine lv_iload_n hx hb dX3_text_29 rfl (lv_at hl 1 rfl) ?_
        obtain ⟨g6, hf⟩ := gd_some hf
        refine x_aald C0 hKC.1 hP (by decide) (EC_TT K ad S) (t0 := 5) rfl rfl g6 dX3_text_30 ?_
        refine lv_bipush (v := 32) hx hb dX3_text_31 (by decide) ?_
        obtain ⟨S8, h7, hf⟩ := b1_some hf
        refine sys_v hS (sys_runS (As := [.ref (ad (10 + (ix x1))), .int 32]) (rest := []) C0 KC_ok hP hS (m7_fillB l D ad hI (EC_loc K ad) (t0 := 1) rfl (fun _ h => h.1) S (10 + (ix x1)) 60 32 (BC_txt K ad (inb_lt g6)) h7) gX3_text_J7_fill_031fb rfl ⟨rfl, rfl⟩ hd_J7_fill_031fb ⟨Nat.le_of_ble_eq_true rfl, Nat.le_of_ble_eq_true rfl⟩ hl.1 rfl (Nat.le_of_ble_eq_true rfl) dX3_text_33 ⟨Nat.le_refl _, Nat.le_refl _⟩) (fun H locs hP hS => ?_)
        refine lv_aload_n hx hb dX3_text_36 rfl (lv_at hl 0 rfl) ?_
        refine x_get C0 hKC.1 hP (by decide) (EC_0 K ad S8) rfl in_X3_text_X3 3 (by decide) (List.mem_of_getElem? (i := 2) rfl) rfl dX3_text_37 ?_
        refine lv_iload_n hx hb dX3_text_40 rfl (lv_at hl 1 rfl) ?_
        refine lv_iload_n hx hb dX3_text_41 rfl (lv_at hl 2 rfl) ?_
        obtain ⟨g9, hf⟩ := gd_some hf
        refine x_iast C0 hKC.1 hI (EC_loc K ad) hP hS (IC_14 K ad) (t0 := 0) rfl g9 dX3_text_42 (fun S10 eS10 H locs hP hS => ?_)
        have hf := nm_at eS10 hf
        refine lv_iload_n hx hb dX3_text_43 rfl (lv_at hl 2 rfl) ?_
        exact ret_i C0 hP hS (congrArg Prod.fst (Option.some.inj hf)) (congrArg Prod.snd (Option.some.inj hf)) dX3_text_44
      · have hf := ite_f hf c5
        refine lv_aload_n hx hb dX3_text_19 rfl (lv_at hl 0 rfl) ?_
        refine lv_iconst (v := 5) hx hb dX3_text_20 (by decide) ?_
        obtain ⟨v12, S13, h11, hf⟩ := b2_some hf
        refine sys_i hS (sys_runV (As := [.int 5]) (rest := []) C0 KC_ok hKC.1 hP hS (by decide) (EC_0 K ad S) rfl (m3_foundThat l D K ad tL hI S 5 h11) gX3_text_X3_foundThat rfl ⟨rfl, rfl⟩ hd_X3_foundThat ⟨Nat.le_of_ble_eq_true rfl, Nat.le_of_ble_eq_true rfl⟩ hl.1 rfl (Nat.le_of_ble_eq_true rfl) dX3_text_21 ⟨Nat.le_refl _, Nat.le_refl _⟩) (fun H locs hP hS => ?_)
        exact ret_i C0 hP hS (congrArg Prod.fst (Option.some.inj hf)) (congrArg Prod.snd (Option.some.inj hf)) dX3_text_24
    · have hf := ite_f hf c4
      refine lv_iconst (v := (-1)) hx hb dX3_text_13 (by decide) ?_
      exact ret_i C0 hP hS (congrArg Prod.fst (Option.some.inj hf)) (congrArg Prod.snd (Option.some.inj hf)) dX3_text_14
theorem m3_text (l : Launch) (D : va_G) (K : Nat → ClassId) (ad : Nat → Nat) (tL : Nat) (hI : INJ NC ad) (S : Mem) (x1 : Int32) (x2 : Int32) {r : Int32} {T : Mem} (hf : f3_text S x1 x2 = some (r, T)) : SysI l yX3_text wsX3_text rm3_text D NC ad (EC K ad) (KC D K tL (IW NC ad)) [.ref (ad 0), .int x1, .int x2] S r T :=
  met_of (own := RX3) (by decide) rfl rfl (Nat.le_of_ble_eq_true rfl) (fun _ _ s _ _ _ _ ls C0 _ hP hl => w3_text hI C0 S x1 x2 hf s.heap [] ls hP va_S.rf hl)
theorem in_X3_textRefusal_X3 : ∀ w ∈ wsX30, w ∈ wsX3_textRefusal := fun _ h => List.mem_cons_of_mem _ (List.mem_append_right _ h)
theorem hd_X3_textRefusal : yX3_textRefusal.cls = RX3 ∧ yX3_textRefusal.cls ≠ "java/lang/invoke/MethodHandle" ∧ yX3_textRefusal.cls ≠ "java/lang/invoke/VarHandle" ∧ (parseMethodDescriptor yX3_textRefusal.desc).map (fun d => d.parameters.length) = some 1 := by decide +kernel
abbrev rm3_textRefusal : Room := { frames := 1, cells := 0, slots := 0, locals := 21 }
set_option maxHeartbeats 4000000 in
set_option maxRecDepth 100000 in
theorem w3_textRefusal {p : Program} {l : Launch} {e : Env} {s : State} {m : MethodId} {args : Array Value} {below : List Frame} {meth : Method} {c : Code} {D : va_G} {K : Nat → ClassId} {ad : Nat → Nat} {tL : Nat} (hI : INJ NC ad) (C0 : Cx p s m args meth c RX3 wsX3_textRefusal cX3_textRefusal 2 (some .int) (KC D K tL (IW NC ad))) {r : Int32} {T : Mem} : ∀ (S : Mem) (x1 : Int32), f3_textRefusal S x1 = some (r, T) → ∀ (H : Heap) (locs : List Loc) (ls : Array Slot), va_P D vwCl (wl NC ad (EC K ad S)) H → va_S (IW NC ad) s.heap H locs → lv_has ls 2 [(0, .ref (ad 0)), (1, .int x1)] → W p l e rm3_textRefusal s m args below meth c H locs 0 0 (MQ below (va_Qi (fun (x : Int32) (u : Mem) => x = r ∧ u = T) (fun u t => va_P D vwCl (wl NC ad (EC K ad u)) t.heap) (IW NC ad)) args s 0 0 (IW NC ad)) (F0 m 0 ls []) := by
  have hx := C0.1
  have hb := C0.2.1
  have hts := C0.2.2.2.2.1
  have hown := C0.2.2.2.1
  have hKC := C0.2.2.2.2.2.2.2
  intro S x1 hf H locs ls hP hS hl
  rw [f3_textRefusal] at hf
  refine lv_iload_n hx hb dX3_textRefusal_0 rfl (lv_at hl 1 rfl) ?_
  obtain ⟨v2, h1, hf⟩ := b1_some hf
  refine sys_i hS (sys_runS (As := [.int x1]) (rest := []) C0 KC_ok hP hS (m3_isText l D K ad tL hI S x1 h1) gX3_textRefusal_X3_isText rfl ⟨rfl, rfl⟩ hd_X3_isText ⟨Nat.le_of_ble_eq_true rfl, Nat.le_of_ble_eq_true rfl⟩ hl.1 rfl (Nat.le_of_ble_eq_true rfl) dX3_textRefusal_1 ⟨Nat.le_refl _, Nat.le_refl _⟩) (fun H locs hP hS => ?_)
  refine lv_if_ne (tgt := 9) hx hb dX3_textRefusal_4 (by decide) (fun c3 => ?_) (fun c3 => ?_)
  · have hf := ite_f hf c3
    refine lv_aload_n hx hb dX3_textRefusal_9 rfl (lv_at hl 0 rfl) ?_
    refine x_get C0 hKC.1 hP (by decide) (EC_0 K ad S) rfl in_X3_textRefusal_X3 3 (by decide) (List.mem_of_getElem? (i := 1) rfl) rfl dX3_textRefusal_10 ?_
    refine lv_iload_n hx hb dX3_textRefusal_13 rfl (lv_at hl 1 rfl) ?_
    obtain ⟨g4, hf⟩ := gd_some hf
    refine x_iald C0 hKC.1 hP (IC_14 K ad) (t0 := 0) rfl g4 dX3_textRefusal_14 ?_
    refine lv_iconst (v := (-1)) hx hb dX3_textRefusal_15 (by decide) ?_
    refine lv_icmp_ne (tgt := 27) hx hb dX3_textRefusal_16 (by decide) (fun c5 => ?_) (fun c5 => ?_)
    · have hf := ite_f hf c5
      refine lv_iconst (v := 0) hx hb dX3_textRefusal_27 (by decide) ?_
      exact ret_i C0 hP hS (congrArg Prod.fst (Option.some.inj hf)) (congrArg Prod.snd (Option.some.inj hf)) dX3_textRefusal_28
    · have hf := ite_t hf c5
      refine lv_aload_n hx hb dX3_textRefusal_19 rfl (lv_at hl 0 rfl) ?_
      refine lv_iconst (v := 1) hx hb dX3_textRefusal_20 (by decide) ?_
      obtain ⟨v7, S8, h6, hf⟩ := b2_some hf
      refine sys_i hS (sys_runV (As := [.int 1]) (rest := []) C0 KC_ok hKC.1 hP hS (by decide) (EC_0 K ad S) rfl (m3_foundThat l D K ad tL hI S 1 h6) gX3_textRefusal_X3_foundThat rfl ⟨rfl, rfl⟩ hd_X3_foundThat ⟨Nat.le_of_ble_eq_true rfl, Nat.le_of_ble_eq_true rfl⟩ hl.1 rfl (Nat.le_of_ble_eq_true rfl) dX3_textRefusal_21 ⟨Nat.le_refl _, Nat.le_refl _⟩) (fun H locs hP hS => ?_)
      refine lv_goto (tgt := 28) hx hb dX3_textRefusal_24 (by decide) ?_
      exact ret_i C0 hP hS (congrArg Prod.fst (Option.some.inj hf)) (congrArg Prod.snd (Option.some.inj hf)) dX3_textRefusal_28
  · have hf := ite_t hf c3
    refine lv_iconst (v := (-1)) hx hb dX3_textRefusal_7 (by decide) ?_
    exact ret_i C0 hP hS (congrArg Prod.fst (Option.some.inj hf)) (congrArg Prod.snd (Option.some.inj hf)) dX3_textRefusal_8
theorem m3_textRefusal (l : Launch) (D : va_G) (K : Nat → ClassId) (ad : Nat → Nat) (tL : Nat) (hI : INJ NC ad) (S : Mem) (x1 : Int32) {r : Int32} {T : Mem} (hf : f3_textRefusal S x1 = some (r, T)) : SysI l yX3_textRefusal wsX3_textRefusal rm3_textRefusal D NC ad (EC K ad) (KC D K tL (IW NC ad)) [.ref (ad 0), .int x1] S r T :=
  met_of (own := RX3) (by decide) rfl rfl (Nat.le_of_ble_eq_true rfl) (fun _ _ s _ _ _ _ ls C0 _ hP hl => w3_textRefusal hI C0 S x1 hf s.heap [] ls hP va_S.rf hl)
theorem in_X3_put_X3 : ∀ w ∈ wsX30, w ∈ wsX3_put := fun _ h => List.mem_cons_of_mem _ (List.mem_append_right _ h)
theorem hd_X3_put : yX3_put.cls = RX3 ∧ yX3_put.cls ≠ "java/lang/invoke/MethodHandle" ∧ yX3_put.cls ≠ "java/lang/invoke/VarHandle" ∧ (parseMethodDescriptor yX3_put.desc).map (fun d => d.parameters.length) = some 3 := by decide +kernel
abbrev rm3_put : Room := { frames := 2, cells := 0, slots := 0, locals := 42 }
set_option maxHeartbeats 4000000 in
set_option maxRecDepth 100000 in
theorem w3_put_b29 {p : Program} {l : Launch} {e : Env} {s : State} {m : MethodId} {args : Array Value} {below : List Frame} {meth : Method} {c : Code} {D : va_G} {K : Nat → ClassId} {ad : Nat → Nat} {tL : Nat} (hI : INJ NC ad) (C0 : Cx p s m args meth c RX3 wsX3_put cX3_put 6 (some .int) (KC D K tL (IW NC ad))) {r : Int32} {T : Mem} : ∀ (S : Mem), f3_put_b29 S = some (r, T) → ∀ (H : Heap) (locs : List Loc) (ls : Array Slot), va_P D vwCl (wl NC ad (EC K ad S)) H → va_S (IW NC ad) s.heap H locs → lv_has ls 6 [(0, .ref (ad 0))] → W p l e rm3_put s m args below meth c H locs 0 0 (MQ below (va_Qi (fun (x : Int32) (u : Mem) => x = r ∧ u = T) (fun u t => va_P D vwCl (wl NC ad (EC K ad u)) t.heap) (IW NC ad)) args s 0 0 (IW NC ad)) (F0 m 29 ls []) := by
  have hx := C0.1
  have hb := C0.2.1
  have hts := C0.2.2.2.2.1
  have hown := C0.2.2.2.1
  have hKC := C0.2.2.2.2.2.2.2
  intro S hf H locs ls hP hS hl
  rw [f3_put_b29] at hf
  refine lv_aload_n hx hb dX3_put_29 rfl (lv_at hl 0 rfl) ?_
  refine lv_iconst (v := 2) hx hb dX3_put_30 (by decide) ?_
  obtain ⟨v2, S3, h1, hf⟩ := b2_some hf
  refine sys_i hS (sys_runV (As := [.int 2]) (rest := []) C0 KC_ok hKC.1 hP hS (by decide) (EC_0 K ad S) rfl (m3_foundThat l D K ad tL hI S 2 h1) gX3_put_X3_foundThat rfl ⟨rfl, rfl⟩ hd_X3_foundThat ⟨Nat.le_of_ble_eq_true rfl, Nat.le_of_ble_eq_true rfl⟩ hl.1 rfl (Nat.le_of_ble_eq_true rfl) dX3_put_31 ⟨Nat.le_refl _, Nat.le_refl _⟩) (fun H locs hP hS => ?_)
  exact ret_i C0 hP hS (congrArg Prod.fst (Option.some.inj hf)) (congrArg Prod.snd (Option.some.inj hf)) dX3_put_34
set_option maxHeartbeats 4000000 in
set_option maxRecDepth 100000 in
theorem w3_put {p : Program} {l : Launch} {e : Env} {s : State} {m : MethodId} {args : Array Value} {below : List Frame} {meth : Method} {c : Code} {D : va_G} {K : Nat → ClassId} {ad : Nat → Nat} {tL : Nat} (hI : INJ NC ad) (C0 : Cx p s m args meth c RX3 wsX3_put cX3_put 6 (some .int) (KC D K tL (IW NC ad))) {r : Int32} {T : Mem} : ∀ (S : Mem) (x1 : Int32) (x2 : Int32) (x3 : Int32), f3_put S x1 x2 x3 = some (r, T) → ∀ (H : Heap) (locs : List Loc) (ls : Array Slot), va_P D vwCl (wl NC ad (EC K ad S)) H → va_S (IW NC ad) s.heap H locs → lv_has ls 6 [(0, .ref (ad 0)), (1, .int x1), (2, .int x2), (3, .int x3)] → W p l e rm3_put s m args below meth c H locs 0 0 (MQ below (va_Qi (fun (x : Int32) (u : Mem) => x = r ∧ u = T) (fun u t => va_P D vwCl (wl NC ad (EC K ad u)) t.heap) (IW NC ad)) args s 0 0 (IW NC ad)) (F0 m 0 ls []) := by
  have hx := C0.1
  have hb := C0.2.1
  have hts := C0.2.2.2.2.1
  have hown := C0.2.2.2.1
  have hKC := C0.2.2.2.2.2.2.2
  intro S x1 x2 x3 hf H locs ls hP hS hl
  rw [f3_put] at hf
  refine lv_aload_n hx hb dX3_put_0 rfl (lv_at hl 0 rfl) ?_
  refine lv_iload_n hx hb dX3_put_1 rfl (lv_at hl 1 rfl) ?_
  obtain ⟨v2, S3, h1, hf⟩ := b2_some hf
  refine sys_i hS (sys_runV (As := [.int x1]) (rest := []) C0 KC_ok hKC.1 hP hS (by decide) (EC_0 K ad S) rfl (m3_textRefusal l D K ad tL hI S x1 h1) gX3_put_X3_textRefusal rfl ⟨rfl, rfl⟩ hd_X3_textRefusal ⟨Nat.le_of_ble_eq_true rfl, Nat.le_of_ble_eq_true rfl⟩ hl.1 rfl (Nat.le_of_ble_eq_true rfl) dX3_put_2 ⟨Nat.le_refl _, Nat.le_refl _⟩) (fun H locs hP hS => ?_)
  refine lv_istore (lv' := [(4, .int v2), (0, .ref (ad 0)), (1, .int x1), (2, .int x2), (3, .int x3)]) hx hb dX3_put_5 hl (by decide) rfl (fun ls hl => ?_)
  refine lv_iload hx hb dX3_put_7 (lv_at hl 0 rfl) ?_
  refine lv_if_eq (tgt := 15) hx hb dX3_put_9 (by decide) (fun c4 => ?_) (fun c4 => ?_)
  · have hf := ite_t hf c4
    refine lv_iload_n hx hb dX3_put_15 rfl (lv_at hl 3 rfl) ?_
    refine lv_if_lt (tgt := 29) hx hb dX3_put_16 (by decide) (fun c5 => ?_) (fun c5 => ?_)
    · have hf := ite_t hf c5
      exact w3_put_b29 hI C0 S3 hf H locs ls hP hS (lv_sub hl [1] rfl)
    · have hf := ite_f hf c5
      refine lv_iload_n hx hb dX3_put_19 rfl (lv_at hl 3 rfl) ?_
      refine lv_aload_n hx hb dX3_put_20 rfl (lv_at hl 1 rfl) ?_
      refine x_get C0 hKC.1 hP (by decide) (EC_0 K ad S3) rfl in_X3_put_X3 3 (by decide) (List.mem_of_getElem? (i := 1) rfl) rfl dX3_put_21 ?_
      refine lv_iload_n hx hb dX3_put_24 rfl (lv_at hl 2 rfl) ?_
      obtain ⟨g6, hf⟩ := gd_some hf
      refine x_iald C0 hKC.1 hP (IC_14 K ad) (t0 := 0) rfl g6 dX3_put_25 ?_
      refine lv_icmp_lt (tgt := 35) hx hb dX3_put_26 (by decide) (fun c7 => ?_) (fun c7 => ?_)
      · have hf := ite_t hf c7
        refine lv_aload_n hx hb dX3_put_35 rfl (lv_at hl 1 rfl) ?_
        refine x_get C0 hKC.1 hP (by decide) (EC_0 K ad S3) rfl in_X3_put_X3 2 (by decide) (List.mem_of_getElem? (i := 2) rfl) rfl dX3_put_36 ?_
        refine lv_iload_n hx hb dX3_put_39 rfl (lv_at hl 2 rfl) ?_
        obtain ⟨g8, hf⟩ := gd_some hf
        refine x_aald C0 hKC.1 hP (by decide) (EC_TT K ad S3) (t0 := 5) rfl rfl g8 dX3_put_40 ?_
        refine lv_iload_n hx hb dX3_put_41 rfl (lv_at hl 3 rfl) ?_
        obtain ⟨g9, hf⟩ := gd_some hf
        refine x_bald C0 hKC.1 hP (BC_txt K ad (inb_lt g8)) (t0 := 1) rfl g9 dX3_put_42 ?_
        refine lv_topi (fun v10 ev10 => ?_)
        have hf := nm_at ev10 hf
        refine lv_istore (lv' := [(5, .int v10), (4, .int v2), (0, .ref (ad 0)), (1, .int x1), (2, .int x2), (3, .int x3)]) hx hb dX3_put_43 hl (by decide) rfl (fun ls hl => ?_)
        refine lv_aload_n hx hb dX3_put_45 rfl (lv_at hl 2 rfl) ?_
        refine x_get C0 hKC.1 hP (by decide) (EC_0 K ad S3) rfl in_X3_put_X3 2 (by decide) (List.mem_of_getElem? (i := 2) rfl) rfl dX3_put_46 ?_
        refine lv_iload_n hx hb dX3_put_49 rfl (lv_at hl 3 rfl) ?_
        obtain ⟨g11, hf⟩ := gd_some hf
        refine x_aald C0 hKC.1 hP (by decide) (EC_TT K ad S3) (t0 := 5) rfl rfl g11 dX3_put_50 ?_
        refine lv_iload_n hx hb dX3_put_51 rfl (lv_at hl 4 rfl) ?_
        refine lv_iload_n hx hb dX3_put_52 rfl (lv_at hl 5 rfl) ?_
        refine lv_i2b (v := (i2b x3)) hx hb dX3_put_53 rfl ?_
        obtain ⟨g12, hf⟩ := gd_some hf
        refine x_bast C0 hKC.1 hI (EC_loc K ad) hP hS (BC_txt K ad (inb_lt g11)) (t0 := 1) rfl g12 dX3_put_54 (fun S13 eS13 H locs hP hS => ?_)
        have hf := nm_at eS13 hf
        refine lv_sipush (v := 1000) hx hb dX3_put_55 (by decide) ?_
        refine lv_iload hx hb dX3_put_58 (lv_at hl 0 rfl) ?_
        refine lv_iadd hx hb dX3_put_60 ?_
        exact ret_i C0 hP hS (congrArg Prod.fst (Option.some.inj hf)) (congrArg Prod.snd (Option.some.inj hf)) dX3_put_61
      · have hf := ite_f hf c7
        exact w3_put_b29 hI C0 S3 hf H locs ls hP hS (lv_sub hl [1] rfl)
  · have hf := ite_f hf c4
    refine lv_iload hx hb dX3_put_12 (lv_at hl 0 rfl) ?_
    exact ret_i C0 hP hS (congrArg Prod.fst (Option.some.inj hf)) (congrArg Prod.snd (Option.some.inj hf)) dX3_put_14
theorem m3_put (l : Launch) (D : va_G) (K : Nat → ClassId) (ad : Nat → Nat) (tL : Nat) (hI : INJ NC ad) (S : Mem) (x1 : Int32) (x2 : Int32) (x3 : Int32) {r : Int32} {T : Mem} (hf : f3_put S x1 x2 x3 = some (r, T)) : SysI l yX3_put wsX3_put rm3_put D NC ad (EC K ad) (KC D K tL (IW NC ad)) [.ref (ad 0), .int x1, .int x2, .int x3] S r T :=
  met_of (own := RX3) (by decide) rfl rfl (Nat.le_of_ble_eq_true rfl) (fun _ _ s _ _ _ _ ls C0 _ hP hl => w3_put hI C0 S x1 x2 x3 hf s.heap [] ls hP va_S.rf hl)
theorem hd_X3_kindByLetter : yX3_kindByLetter.cls ≠ "java/lang/invoke/MethodHandle" ∧ yX3_kindByLetter.cls ≠ "java/lang/invoke/VarHandle" ∧ (parseMethodDescriptor yX3_kindByLetter.desc).map (fun d => d.parameters.length) = some 1 := by decide +kernel
abbrev rm3_kindByLetter : Room := { frames := 0, cells := 0, slots := 0, locals := 0 }
set_option maxHeartbeats 4000000 in
set_option maxRecDepth 100000 in
theorem w3_kindByLetter_b2 {p : Program} {l : Launch} {e : Env} {s : State} {m : MethodId} {args : Array Value} {below : List Frame} {meth : Method} {c : Code} {D : va_G} {K : Nat → ClassId} {ad : Nat → Nat} {tL : Nat} (hI : INJ NC ad) (C0 : Cx p s m args meth c RX3 wsX3_kindByLetter cX3_kindByLetter 2 (some .int) (KC D K tL (IW NC ad))) (S : Mem) {r : Int32} : ∀ (n : Nat), ∀ (x0 : Int32) (x1 : Int32), f3_kindByLetter_b2 S n x0 x1 = some r → ∀ (H : Heap) (locs : List Loc) (ls : Array Slot), va_P D vwCl (wl NC ad (EC K ad S)) H → va_S (IW NC ad) s.heap H locs → lv_has ls 2 [(0, .int x0), (1, .int x1)] → W p l e rm3_kindByLetter s m args below meth c H locs 0 0 (MQ below (va_Qi (fun (x : Int32) (u : Mem) => x = r ∧ u = S) (fun u t => va_P D vwCl (wl NC ad (EC K ad u)) t.heap) (IW NC ad)) args s 0 0 (IW NC ad)) (F0 m 2 ls []) := by
  have hx := C0.1
  have hb := C0.2.1
  have hts := C0.2.2.2.2.1
  have hown := C0.2.2.2.1
  have hKC := C0.2.2.2.2.2.2.2
  intro n
  induction n with
  | zero =>
    intro x0 x1 hf
    rw [f3_kindByLetter_b2] at hf
    cases hf
  | succ n ih =>
    intro x0 x1 hf H locs ls hP hS hl
    rw [f3_kindByLetter_b2] at hf
    refine lv_iload_n hx hb dX3_kindByLetter_2 rfl (lv_at hl 1 rfl) ?_
    refine lv_bipush (v := 6) hx hb dX3_kindByLetter_3 (by decide) ?_
    refine lv_icmp_ge (tgt := 25) hx hb dX3_kindByLetter_5 (by decide) (fun c1 => ?_) (fun c1 => ?_)
    · have hf := ite_t hf c1
      refine lv_bipush (v := (-9)) hx hb dX3_kindByLetter_25 (by decide) ?_
      exact ret_i C0 hP hS (Option.some.inj hf) rfl dX3_kindByLetter_27
    · have hf := ite_f hf c1
      refine va_gets hx hb hKC.2.2.1 hS hown (hts _ (List.mem_of_getElem? (i := 1) rfl)) (fun _ h => h) dX3_kindByLetter_8 ?_
      refine lv_iload_n hx hb dX3_kindByLetter_11 rfl (lv_at hl 1 rfl) ?_
      obtain ⟨g2, hf⟩ := gd_some hf
      refine va_tb hx hb hKC.2.2.2 hS (inb_vp g2) rfl dX3_kindByLetter_12 ?_
      refine lv_iload_n hx hb dX3_kindByLetter_13 rfl (lv_at hl 0 rfl) ?_
      refine lv_icmp_ne (tgt := 19) hx hb dX3_kindByLetter_14 (by decide) (fun c3 => ?_) (fun c3 => ?_)
      · have hf := ite_f hf c3
        obtain ⟨v4, ev4⟩ : ∃ y : Int32, y = x1 + 1 := ⟨_, rfl⟩
        have hf := nm_at ev4 hf
        refine lv_iinc (v := v4) (lv' := [(1, .int v4), (0, .int x0)]) hx hb dX3_kindByLetter_19 hl (k := 1) rfl (by rw [ev4]; rfl) (by decide) rfl (fun ls hl => ?_)
        refine lv_goto (tgt := 2) hx hb dX3_kindByLetter_22 (by decide) ?_
        exact ih x0 v4 hf H locs ls hP hS (lv_sub hl [1, 0] rfl)
      · have hf := ite_t hf c3
        refine lv_iload_n hx hb dX3_kindByLetter_17 rfl (lv_at hl 1 rfl) ?_
        exact ret_i C0 hP hS (Option.some.inj hf) rfl dX3_kindByLetter_18
set_option maxHeartbeats 4000000 in
set_option maxRecDepth 100000 in
theorem w3_kindByLetter {p : Program} {l : Launch} {e : Env} {s : State} {m : MethodId} {args : Array Value} {below : List Frame} {meth : Method} {c : Code} {D : va_G} {K : Nat → ClassId} {ad : Nat → Nat} {tL : Nat} (hI : INJ NC ad) (C0 : Cx p s m args meth c RX3 wsX3_kindByLetter cX3_kindByLetter 2 (some .int) (KC D K tL (IW NC ad))) (S : Mem) {r : Int32} : ∀ (x0 : Int32), f3_kindByLetter S x0 = some r → ∀ (H : Heap) (locs : List Loc) (ls : Array Slot), va_P D vwCl (wl NC ad (EC K ad S)) H → va_S (IW NC ad) s.heap H locs → lv_has ls 2 [(0, .int x0)] → W p l e rm3_kindByLetter s m args below meth c H locs 0 0 (MQ below (va_Qi (fun (x : Int32) (u : Mem) => x = r ∧ u = S) (fun u t => va_P D vwCl (wl NC ad (EC K ad u)) t.heap) (IW NC ad)) args s 0 0 (IW NC ad)) (F0 m 0 ls []) := by
  have hx := C0.1
  have hb := C0.2.1
  have hts := C0.2.2.2.2.1
  have hown := C0.2.2.2.1
  have hKC := C0.2.2.2.2.2.2.2
  intro x0 hf H locs ls hP hS hl
  rw [f3_kindByLetter] at hf
  refine lv_iconst (v := 0) hx hb dX3_kindByLetter_0 (by decide) ?_
  refine lv_istore_n (lv' := [(1, .int 0), (0, .int x0)]) hx hb dX3_kindByLetter_1 rfl hl (by decide) rfl (fun ls hl => ?_)
  exact w3_kindByLetter_b2 hI C0 S FU x0 0 hf H locs ls hP hS (lv_sub hl [1, 0] rfl)
theorem m3_kindByLetter (l : Launch) (D : va_G) (K : Nat → ClassId) (ad : Nat → Nat) (tL : Nat) (hI : INJ NC ad) (S : Mem) (x0 : Int32) {r : Int32} (hf : f3_kindByLetter S x0 = some r) : SysI l yX3_kindByLetter wsX3_kindByLetter rm3_kindByLetter D NC ad (EC K ad) (KC D K tL (IW NC ad)) [.int x0] S r S :=
  met_of (own := RX3) (by decide) rfl rfl (Nat.le_of_ble_eq_true rfl) (fun _ _ s _ _ _ _ ls C0 _ hP hl => w3_kindByLetter hI C0 S x0 hf s.heap [] ls hP va_S.rf hl)
theorem hd_X3_isFigure : yX3_isFigure.cls ≠ "java/lang/invoke/MethodHandle" ∧ yX3_isFigure.cls ≠ "java/lang/invoke/VarHandle" ∧ (parseMethodDescriptor yX3_isFigure.desc).map (fun d => d.parameters.length) = some 1 := by decide +kernel
abbrev rm3_isFigure : Room := { frames := 0, cells := 0, slots := 0, locals := 0 }
set_option maxHeartbeats 4000000 in
set_option maxRecDepth 100000 in
theorem w3_isFigure {p : Program} {l : Launch} {e : Env} {s : State} {m : MethodId} {args : Array Value} {below : List Frame} {meth : Method} {c : Code} {D : va_G} {K : Nat → ClassId} {ad : Nat → Nat} {tL : Nat} (hI : INJ NC ad) (C0 : Cx p s m args meth c RX3 wsX3_isFigure cX3_isFigure 1 (some .boolean) (KC D K tL (IW NC ad))) (S : Mem) {r : Int32} : ∀ (x0 : Int32), f3_isFigure x0 = some r → ∀ (H : Heap) (locs : List Loc) (ls : Array Slot), va_P D vwCl (wl NC ad (EC K ad S)) H → va_S (IW NC ad) s.heap H locs → lv_has ls 1 [(0, .int x0)] → W p l e rm3_isFigure s m args below meth c H locs 0 0 (MQ below (va_Qi (fun (x : Int32) (u : Mem) => x = r ∧ u = S) (fun u t => va_P D vwCl (wl NC ad (EC K ad u)) t.heap) (IW NC ad)) args s 0 0 (IW NC ad)) (F0 m 0 ls []) := by
  have hx := C0.1
  have hb := C0.2.1
  have hts := C0.2.2.2.2.1
  have hown := C0.2.2.2.1
  have hKC := C0.2.2.2.2.2.2.2
  intro x0 hf H locs ls hP hS hl
  rw [f3_isFigure] at hf
  refine lv_iload_n hx hb dX3_isFigure_0 rfl (lv_at hl 0 rfl) ?_
  refine lv_bipush (v := 48) hx hb dX3_isFigure_1 (by decide) ?_
  refine lv_icmp_lt (tgt := 16) hx hb dX3_isFigure_3 (by decide) (fun c1 => ?_) (fun c1 => ?_)
  · have hf := ite_t hf c1
    refine lv_iconst (v := 0) hx hb dX3_isFigure_16 (by decide) ?_
    exact ret_z C0 hP hS (Or.inl rfl) (Option.some.inj hf) rfl dX3_isFigure_17
  · have hf := ite_f hf c1
    refine lv_iload_n hx hb dX3_isFigure_6 rfl (lv_at hl 0 rfl) ?_
    refine lv_bipush (v := 57) hx hb dX3_isFigure_7 (by decide) ?_
    refine lv_icmp_gt (tgt := 16) hx hb dX3_isFigure_9 (by decide) (fun c2 => ?_) (fun c2 => ?_)
    · have hf := ite_t hf c2
      refine lv_iconst (v := 0) hx hb dX3_isFigure_16 (by decide) ?_
      exact ret_z C0 hP hS (Or.inl rfl) (Option.some.inj hf) rfl dX3_isFigure_17
    · have hf := ite_f hf c2
      refine lv_iconst (v := 1) hx hb dX3_isFigure_12 (by decide) ?_
      refine lv_goto (tgt := 17) hx hb dX3_isFigure_13 (by decide) ?_
      exact ret_z C0 hP hS (Or.inr rfl) (Option.some.inj hf) rfl dX3_isFigure_17
theorem m3_isFigure (l : Launch) (D : va_G) (K : Nat → ClassId) (ad : Nat → Nat) (tL : Nat) (hI : INJ NC ad) (S : Mem) (x0 : Int32) {r : Int32} (hf : f3_isFigure x0 = some r) : SysI l yX3_isFigure wsX3_isFigure rm3_isFigure D NC ad (EC K ad) (KC D K tL (IW NC ad)) [.int x0] S r S :=
  met_of (own := RX3) (by decide) rfl rfl (Nat.le_of_ble_eq_true rfl) (fun _ _ s _ _ _ _ ls C0 _ hP hl => w3_isFigure hI C0 S x0 hf s.heap [] ls hP va_S.rf hl)
theorem hd_X3_firstFault : yX3_firstFault.cls ≠ "java/lang/invoke/MethodHandle" ∧ yX3_firstFault.cls ≠ "java/lang/invoke/VarHandle" ∧ (parseMethodDescriptor yX3_firstFault.desc).map (fun d => d.parameters.length) = some 2 := by decide +kernel
abbrev rm3_firstFault : Room := { frames := 1, cells := 0, slots := 0, locals := 21 }
set_option maxHeartbeats 4000000 in
set_option maxRecDepth 100000 in
theorem w3_firstFault_b45 {p : Program} {l : Launch} {e : Env} {s : State} {m : MethodId} {args : Array Value} {below : List Frame} {meth : Method} {c : Code} {D : va_G} {K : Nat → ClassId} {ad : Nat → Nat} {tL : Nat} (hI : INJ NC ad) (C0 : Cx p s m args meth c RX3 wsX3_firstFault cX3_firstFault 5 (some .int) (KC D K tL (IW NC ad))) (S : Mem) {r : Int32} (k4 : Nat → Nat → Int32 → Int32 → Int32 → Option Int32) (hk4 : ∀ (a0 : Nat) (a0n : Nat) (x1 : Int32) (x2 : Int32) (x3 : Int32), BC K ad a0 a0n → k4 a0 a0n x1 x2 x3 = some r → ∀ (H : Heap) (locs : List Loc) (ls : Array Slot), va_P D vwCl (wl NC ad (EC K ad S)) H → va_S (IW NC ad) s.heap H locs → lv_has ls 5 [(0, .ref (ad a0)), (1, .int x1), (2, .int x2), (3, .int x3)] → W p l e rm3_firstFault s m args below meth c H locs 0 0 (MQ below (va_Qi (fun (x : Int32) (u : Mem) => x = r ∧ u = S) (fun u t => va_P D vwCl (wl NC ad (EC K ad u)) t.heap) (IW NC ad)) args s 0 0 (IW NC ad)) (F0 m 4 ls [])) : ∀ (n : Nat), ∀ (a0 : Nat) (a0n : Nat) (x1 : Int32) (x2 : Int32) (x3 : Int32) (x4 : Int32), BC K ad a0 a0n → f3_firstFault_b45 k4 S n a0 a0n x1 x2 x3 x4 = some r → ∀ (H : Heap) (locs : List Loc) (ls : Array Slot), va_P D vwCl (wl NC ad (EC K ad S)) H → va_S (IW NC ad) s.heap H locs → lv_has ls 5 [(0, .ref (ad a0)), (1, .int x1), (2, .int x2), (3, .int x3), (4, .int x4)] → W p l e rm3_firstFault s m args below meth c H locs 0 0 (MQ below (va_Qi (fun (x : Int32) (u : Mem) => x = r ∧ u = S) (fun u t => va_P D vwCl (wl NC ad (EC K ad u)) t.heap) (IW NC ad)) args s 0 0 (IW NC ad)) (F0 m 45 ls []) := by
  have hx := C0.1
  have hb := C0.2.1
  have hts := C0.2.2.2.2.1
  have hown := C0.2.2.2.1
  have hKC := C0.2.2.2.2.2.2.2
  intro n
  induction n with
  | zero =>
    intro a0 a0n x1 x2 x3 x4 ha0 hf
    rw [f3_firstFault_b45] at hf
    cases hf
  | succ n ih =>
    intro a0 a0n x1 x2 x3 x4 ha0 hf H locs ls hP hS hl
    rw [f3_firstFault_b45] at hf
    refine lv_iload hx hb dX3_firstFault_45 (lv_at hl 4 rfl) ?_
    refine lv_iconst (v := 5) hx hb dX3_firstFault_47 (by decide) ?_
    refine lv_icmp_ge (tgt := 82) hx hb dX3_firstFault_48 (by decide) (fun c1 => ?_) (fun c1 => ?_)
    · have hf := ite_t hf c1
      obtain ⟨v2, ev2⟩ : ∃ y : Int32, y = x2 + 1 := ⟨_, rfl⟩
      have hf := nm_at ev2 hf
      refine lv_iinc (v := v2) (lv' := [(2, .int v2), (0, .ref (ad a0)), (1, .int x1), (3, .int x3), (4, .int x4)]) hx hb dX3_firstFault_82 hl (k := 2) rfl (by rw [ev2]; rfl) (by decide) rfl (fun ls hl => ?_)
      obtain ⟨v3, ev3⟩ : ∃ y : Int32, y = x3 + 5 := ⟨_, rfl⟩
      have hf := nm_at ev3 hf
      refine lv_iinc (v := v3) (lv' := [(3, .int v3), (2, .int v2), (0, .ref (ad a0)), (1, .int x1), (4, .int x4)]) hx hb dX3_firstFault_85 hl (k := 3) rfl (by rw [ev3]; rfl) (by decide) rfl (fun ls hl => ?_)
      refine lv_goto (tgt := 4) hx hb dX3_firstFault_88 (by decide) ?_
      exact hk4 a0 a0n x1 v2 v3 ha0 hf H locs ls hP hS (lv_sub hl [2, 3, 1, 0] rfl)
    · have hf := ite_f hf c1
      refine lv_iload_n hx hb dX3_firstFault_51 rfl (lv_at hl 3 rfl) ?_
      refine lv_iload hx hb dX3_firstFault_52 (lv_at hl 4 rfl) ?_
      refine lv_iadd hx hb dX3_firstFault_54 ?_
      refine lv_iload_n hx hb dX3_firstFault_55 rfl (lv_at hl 1 rfl) ?_
      refine lv_icmp_ge (tgt := 71) hx hb dX3_firstFault_56 (by decide) (fun c4 => ?_) (fun c4 => ?_)
      · have hf := ite_t hf c4
        refine lv_iload_n hx hb dX3_firstFault_71 rfl (lv_at hl 3 rfl) ?_
        refine lv_iload hx hb dX3_firstFault_72 (lv_at hl 4 rfl) ?_
        refine lv_iadd hx hb dX3_firstFault_74 ?_
        exact ret_i C0 hP hS (Option.some.inj hf) rfl dX3_firstFault_75
      · have hf := ite_f hf c4
        refine lv_aload_n hx hb dX3_firstFault_59 rfl (lv_at hl 0 rfl) ?_
        refine lv_iload_n hx hb dX3_firstFault_60 rfl (lv_at hl 3 rfl) ?_
        refine lv_iload hx hb dX3_firstFault_61 (lv_at hl 4 rfl) ?_
        refine lv_iadd hx hb dX3_firstFault_63 ?_
        obtain ⟨g5, hf⟩ := gd_some hf
        refine x_bald C0 hKC.1 hP ha0 (t0 := 1) rfl g5 dX3_firstFault_64 ?_
        obtain ⟨v7, h6, hf⟩ := b1_some hf
        refine sys_i hS (sys_runS (As := [.int (gi S a0 (ix (x3 + x4)))]) (rest := []) C0 KC_ok hP hS (m3_isFigure l D K ad tL hI S (gi S a0 (ix (x3 + x4))) h6) gX3_firstFault_X3_isFigure rfl ⟨rfl, rfl⟩ hd_X3_isFigure ⟨Nat.le_of_ble_eq_true rfl, Nat.le_of_ble_eq_true rfl⟩ hl.1 rfl (Nat.le_of_ble_eq_true rfl) dX3_firstFault_65 ⟨Nat.le_refl _, Nat.le_refl _⟩) (fun H locs hP hS => ?_)
        refine lv_if_ne (tgt := 76) hx hb dX3_firstFault_68 (by decide) (fun c8 => ?_) (fun c8 => ?_)
        · have hf := ite_f hf c8
          obtain ⟨v9, ev9⟩ : ∃ y : Int32, y = x4 + 1 := ⟨_, rfl⟩
          have hf := nm_at ev9 hf
          refine lv_iinc (v := v9) (lv' := [(4, .int v9), (0, .ref (ad a0)), (1, .int x1), (2, .int x2), (3, .int x3)]) hx hb dX3_firstFault_76 hl (k := 4) rfl (by rw [ev9]; rfl) (by decide) rfl (fun ls hl => ?_)
          refine lv_goto (tgt := 45) hx hb dX3_firstFault_79 (by decide) ?_
          exact ih a0 a0n x1 x2 x3 v9 ha0 hf H locs ls hP hS (lv_sub hl [1, 2, 3, 4, 0] rfl)
        · have hf := ite_t hf c8
          refine lv_iload_n hx hb dX3_firstFault_71 rfl (lv_at hl 3 rfl) ?_
          refine lv_iload hx hb dX3_firstFault_72 (lv_at hl 4 rfl) ?_
          refine lv_iadd hx hb dX3_firstFault_74 ?_
          exact ret_i C0 hP hS (Option.some.inj hf) rfl dX3_firstFault_75
set_option maxHeartbeats 4000000 in
set_option maxRecDepth 100000 in
theorem w3_firstFault_b4 {p : Program} {l : Launch} {e : Env} {s : State} {m : MethodId} {args : Array Value} {below : List Frame} {meth : Method} {c : Code} {D : va_G} {K : Nat → ClassId} {ad : Nat → Nat} {tL : Nat} (hI : INJ NC ad) (C0 : Cx p s m args meth c RX3 wsX3_firstFault cX3_firstFault 5 (some .int) (KC D K tL (IW NC ad))) (S : Mem) {r : Int32} : ∀ (n : Nat), ∀ (a0 : Nat) (a0n : Nat) (x1 : Int32) (x2 : Int32) (x3 : Int32), BC K ad a0 a0n → f3_firstFault_b4 S n a0 a0n x1 x2 x3 = some r → ∀ (H : Heap) (locs : List Loc) (ls : Array Slot), va_P D vwCl (wl NC ad (EC K ad S)) H → va_S (IW NC ad) s.heap H locs → lv_has ls 5 [(0, .ref (ad a0)), (1, .int x1), (2, .int x2), (3, .int x3)] → W p l e rm3_firstFault s m args below meth c H locs 0 0 (MQ below (va_Qi (fun (x : Int32) (u : Mem) => x = r ∧ u = S) (fun u t => va_P D vwCl (wl NC ad (EC K ad u)) t.heap) (IW NC ad)) args s 0 0 (IW NC ad)) (F0 m 4 ls []) := by
  have hx := C0.1
  have hb := C0.2.1
  have hts := C0.2.2.2.2.1
  have hown := C0.2.2.2.1
  have hKC := C0.2.2.2.2.2.2.2
  intro n
  induction n with
  | zero =>
    intro a0 a0n x1 x2 x3 ha0 hf
    rw [f3_firstFault_b4] at hf
    cases hf
  | succ n ih =>
    intro a0 a0n x1 x2 x3 ha0 hf H locs ls hP hS hl
    rw [f3_firstFault_b4] at hf
    refine lv_iload_n hx hb dX3_firstFault_4 rfl (lv_at hl 3 rfl) ?_
    refine lv_iload_n hx hb dX3_firstFault_5 rfl (lv_at hl 1 rfl) ?_
    refine lv_icmp_ge (tgt := 91) hx hb dX3_firstFault_6 (by decide) (fun c1 => ?_) (fun c1 => ?_)
    · have hf := ite_t hf c1
      refine lv_iload_n hx hb dX3_firstFault_91 rfl (lv_at hl 2 rfl) ?_
      refine lv_iconst (v := 2) hx hb dX3_firstFault_92 (by decide) ?_
      refine lv_icmp_ge (tgt := 100) hx hb dX3_firstFault_93 (by decide) (fun c2 => ?_) (fun c2 => ?_)
      · have hf := ite_t hf c2
        refine lv_bipush (v := (-9)) hx hb dX3_firstFault_100 (by decide) ?_
        exact ret_i C0 hP hS (Option.some.inj hf) rfl dX3_firstFault_102
      · have hf := ite_f hf c2
        refine lv_iload_n hx hb dX3_firstFault_96 rfl (lv_at hl 1 rfl) ?_
        refine lv_goto (tgt := 102) hx hb dX3_firstFault_97 (by decide) ?_
        exact ret_i C0 hP hS (Option.some.inj hf) rfl dX3_firstFault_102
    · have hf := ite_f hf c1
      refine lv_aload_n hx hb dX3_firstFault_9 rfl (lv_at hl 0 rfl) ?_
      refine lv_iload_n hx hb dX3_firstFault_10 rfl (lv_at hl 3 rfl) ?_
      obtain ⟨g3, hf⟩ := gd_some hf
      refine x_bald C0 hKC.1 hP ha0 (t0 := 1) rfl g3 dX3_firstFault_11 ?_
      refine lv_bipush (v := 32) hx hb dX3_firstFault_12 (by decide) ?_
      refine lv_icmp_ne (tgt := 23) hx hb dX3_firstFault_14 (by decide) (fun c4 => ?_) (fun c4 => ?_)
      · have hf := ite_f hf c4
        refine lv_iload_n hx hb dX3_firstFault_23 rfl (lv_at hl 2 rfl) ?_
        refine lv_bipush (v := 7) hx hb dX3_firstFault_24 (by decide) ?_
        refine lv_icmp_eq (tgt := 40) hx hb dX3_firstFault_26 (by decide) (fun c5 => ?_) (fun c5 => ?_)
        · have hf := ite_t hf c5
          refine lv_iload_n hx hb dX3_firstFault_40 rfl (lv_at hl 3 rfl) ?_
          exact ret_i C0 hP hS (Option.some.inj hf) rfl dX3_firstFault_41
        · have hf := ite_f hf c5
          refine lv_aload_n hx hb dX3_firstFault_29 rfl (lv_at hl 0 rfl) ?_
          refine lv_iload_n hx hb dX3_firstFault_30 rfl (lv_at hl 3 rfl) ?_
          obtain ⟨g6, hf⟩ := gd_some hf
          refine x_bald C0 hKC.1 hP ha0 (t0 := 1) rfl g6 dX3_firstFault_31 ?_
          obtain ⟨v8, h7, hf⟩ := b1_some hf
          refine sys_i hS (sys_runS (As := [.int (gi S a0 (ix x3))]) (rest := []) C0 KC_ok hP hS (m3_kindByLetter l D K ad tL hI S (gi S a0 (ix x3)) h7) gX3_firstFault_X3_kindByLetter rfl ⟨rfl, rfl⟩ hd_X3_kindByLetter ⟨Nat.le_of_ble_eq_true rfl, Nat.le_of_ble_eq_true rfl⟩ hl.1 rfl (Nat.le_of_ble_eq_true rfl) dX3_firstFault_32 ⟨Nat.le_refl _, Nat.le_refl _⟩) (fun H locs hP hS => ?_)
          refine lv_bipush (v := (-9)) hx hb dX3_firstFault_35 (by decide) ?_
          refine lv_icmp_ne (tgt := 42) hx hb dX3_firstFault_37 (by decide) (fun c9 => ?_) (fun c9 => ?_)
          · have hf := ite_f hf c9
            refine lv_iconst (v := 1) hx hb dX3_firstFault_42 (by decide) ?_
            refine lv_istore (lv' := [(4, .int 1), (0, .ref (ad a0)), (1, .int x1), (2, .int x2), (3, .int x3)]) hx hb dX3_firstFault_43 hl (by decide) rfl (fun ls hl => ?_)
            exact w3_firstFault_b45 hI C0 S (f3_firstFault_b4 S n) ih FU a0 a0n x1 x2 x3 1 ha0 hf H locs ls hP hS (lv_sub hl [1, 2, 3, 4, 0] rfl)
          · have hf := ite_t hf c9
            refine lv_iload_n hx hb dX3_firstFault_40 rfl (lv_at hl 3 rfl) ?_
            exact ret_i C0 hP hS (Option.some.inj hf) rfl dX3_firstFault_41
      · have hf := ite_t hf c4
        obtain ⟨v10, ev10⟩ : ∃ y : Int32, y = x3 + 1 := ⟨_, rfl⟩
        have hf := nm_at ev10 hf
        refine lv_iinc (v := v10) (lv' := [(3, .int v10), (0, .ref (ad a0)), (1, .int x1), (2, .int x2)]) hx hb dX3_firstFault_17 hl (k := 3) rfl (by rw [ev10]; rfl) (by decide) rfl (fun ls hl => ?_)
        refine lv_goto (tgt := 4) hx hb dX3_firstFault_20 (by decide) ?_
        exact ih a0 a0n x1 x2 v10 ha0 hf H locs ls hP hS (lv_sub hl [1, 2, 3, 0] rfl)
set_option maxHeartbeats 4000000 in
set_option maxRecDepth 100000 in
theorem w3_firstFault {p : Program} {l : Launch} {e : Env} {s : State} {m : MethodId} {args : Array Value} {below : List Frame} {meth : Method} {c : Code} {D : va_G} {K : Nat → ClassId} {ad : Nat → Nat} {tL : Nat} (hI : INJ NC ad) (C0 : Cx p s m args meth c RX3 wsX3_firstFault cX3_firstFault 5 (some .int) (KC D K tL (IW NC ad))) (S : Mem) {r : Int32} : ∀ (a0 : Nat) (a0n : Nat) (x1 : Int32), BC K ad a0 a0n → f3_firstFault S a0 a0n x1 = some r → ∀ (H : Heap) (locs : List Loc) (ls : Array Slot), va_P D vwCl (wl NC ad (EC K ad S)) H → va_S (IW NC ad) s.heap H locs → lv_has ls 5 [(0, .ref (ad a0)), (1, .int x1)] → W p l e rm3_firstFault s m args below meth c H locs 0 0 (MQ below (va_Qi (fun (x : Int32) (u : Mem) => x = r ∧ u = S) (fun u t => va_P D vwCl (wl NC ad (EC K ad u)) t.heap) (IW NC ad)) args s 0 0 (IW NC ad)) (F0 m 0 ls []) := by
  have hx := C0.1
  have hb := C0.2.1
  have hts := C0.2.2.2.2.1
  have hown := C0.2.2.2.1
  have hKC := C0.2.2.2.2.2.2.2
  intro a0 a0n x1 ha0 hf H locs ls hP hS hl
  rw [f3_firstFault] at hf
  refine lv_iconst (v := 0) hx hb dX3_firstFault_0 (by decide) ?_
  refine lv_istore_n (lv' := [(2, .int 0), (0, .ref (ad a0)), (1, .int x1)]) hx hb dX3_firstFault_1 rfl hl (by decide) rfl (fun ls hl => ?_)
  refine lv_iconst (v := 0) hx hb dX3_firstFault_2 (by decide) ?_
  refine lv_istore_n (lv' := [(3, .int 0), (2, .int 0), (0, .ref (ad a0)), (1, .int x1)]) hx hb dX3_firstFault_3 rfl hl (by decide) rfl (fun ls hl => ?_)
  exact w3_firstFault_b4 hI C0 S FU a0 a0n x1 0 0 ha0 hf H locs ls hP hS (lv_sub hl [2, 3, 1, 0] rfl)
theorem m3_firstFault (l : Launch) (D : va_G) (K : Nat → ClassId) (ad : Nat → Nat) (tL : Nat) (hI : INJ NC ad) (S : Mem) (a0 : Nat) (a0n : Nat) (x1 : Int32) (ha0 : BC K ad a0 a0n) {r : Int32} (hf : f3_firstFault S a0 a0n x1 = some r) : SysI l yX3_firstFault wsX3_firstFault rm3_firstFault D NC ad (EC K ad) (KC D K tL (IW NC ad)) [.ref (ad a0), .int x1] S r S :=
  met_of (own := RX3) (by decide) rfl rfl (Nat.le_of_ble_eq_true rfl) (fun _ _ s _ _ _ _ ls C0 _ hP hl => w3_firstFault hI C0 S a0 a0n x1 ha0 hf s.heap [] ls hP va_S.rf hl)
theorem in_X3_fault_X3 : ∀ w ∈ wsX30, w ∈ wsX3_fault := fun _ h => List.mem_cons_of_mem _ (List.mem_append_right _ h)
theorem hd_X3_fault : yX3_fault.cls = RX3 ∧ yX3_fault.cls ≠ "java/lang/invoke/MethodHandle" ∧ yX3_fault.cls ≠ "java/lang/invoke/VarHandle" ∧ (parseMethodDescriptor yX3_fault.desc).map (fun d => d.parameters.length) = some 1 := by decide +kernel
abbrev rm3_fault : Room := { frames := 2, cells := 0, slots := 0, locals := 45 }
set_option maxHeartbeats 4000000 in
set_option maxRecDepth 100000 in
theorem w3_fault {p : Program} {l : Launch} {e : Env} {s : State} {m : MethodId} {args : Array Value} {below : List Frame} {meth : Method} {c : Code} {D : va_G} {K : Nat → ClassId} {ad : Nat → Nat} {tL : Nat} (hI : INJ NC ad) (C0 : Cx p s m args meth c RX3 wsX3_fault cX3_fault 3 (some .int) (KC D K tL (IW NC ad))) {r : Int32} {T : Mem} : ∀ (S : Mem) (x1 : Int32), f3_fault S x1 = some (r, T) → ∀ (H : Heap) (locs : List Loc) (ls : Array Slot), va_P D vwCl (wl NC ad (EC K ad S)) H → va_S (IW NC ad) s.heap H locs → lv_has ls 3 [(0, .ref (ad 0)), (1, .int x1)] → W p l e rm3_fault s m args below meth c H locs 0 0 (MQ below (va_Qi (fun (x : Int32) (u : Mem) => x = r ∧ u = T) (fun u t => va_P D vwCl (wl NC ad (EC K ad u)) t.heap) (IW NC ad)) args s 0 0 (IW NC ad)) (F0 m 0 ls []) := by
  have hx := C0.1
  have hb := C0.2.1
  have hts := C0.2.2.2.2.1
  have hown := C0.2.2.2.1
  have hKC := C0.2.2.2.2.2.2.2
  intro S x1 hf H locs ls hP hS hl
  rw [f3_fault] at hf
  refine lv_aload_n hx hb dX3_fault_0 rfl (lv_at hl 0 rfl) ?_
  refine lv_iload_n hx hb dX3_fault_1 rfl (lv_at hl 1 rfl) ?_
  obtain ⟨v2, S3, h1, hf⟩ := b2_some hf
  refine sys_i hS (sys_runV (As := [.int x1]) (rest := []) C0 KC_ok hKC.1 hP hS (by decide) (EC_0 K ad S) rfl (m3_textRefusal l D K ad tL hI S x1 h1) gX3_fault_X3_textRefusal rfl ⟨rfl, rfl⟩ hd_X3_textRefusal ⟨Nat.le_of_ble_eq_true rfl, Nat.le_of_ble_eq_true rfl⟩ hl.1 rfl (Nat.le_of_ble_eq_true rfl) dX3_fault_2 ⟨Nat.le_refl _, Nat.le_refl _⟩) (fun H locs hP hS => ?_)
  refine lv_istore_n (lv' := [(2, .int v2), (0, .ref (ad 0)), (1, .int x1)]) hx hb dX3_fault_5 rfl hl (by decide) rfl (fun ls hl => ?_)
  refine lv_iload_n hx hb dX3_fault_6 rfl (lv_at hl 0 rfl) ?_
  refine lv_if_eq (tgt := 14) hx hb dX3_fault_7 (by decide) (fun c4 => ?_) (fun c4 => ?_)
  · have hf := ite_t hf c4
    refine lv_aload_n hx hb dX3_fault_14 rfl (lv_at hl 1 rfl) ?_
    refine x_get C0 hKC.1 hP (by decide) (EC_0 K ad S3) rfl in_X3_fault_X3 2 (by decide) (List.mem_of_getElem? (i := 1) rfl) rfl dX3_fault_15 ?_
    refine lv_iload_n hx hb dX3_fault_18 rfl (lv_at hl 2 rfl) ?_
    obtain ⟨g5, hf⟩ := gd_some hf
    refine x_aald C0 hKC.1 hP (by decide) (EC_TT K ad S3) (t0 := 5) rfl rfl g5 dX3_fault_19 ?_
    refine lv_aload_n hx hb dX3_fault_20 rfl (lv_at hl 1 rfl) ?_
    refine x_get C0 hKC.1 hP (by decide) (EC_0 K ad S3) rfl in_X3_fault_X3 3 (by decide) (List.mem_of_getElem? (i := 2) rfl) rfl dX3_fault_21 ?_
    refine lv_iload_n hx hb dX3_fault_24 rfl (lv_at hl 2 rfl) ?_
    obtain ⟨g6, hf⟩ := gd_some hf
    refine x_iald C0 hKC.1 hP (IC_14 K ad) (t0 := 0) rfl g6 dX3_fault_25 ?_
    obtain ⟨v8, h7, hf⟩ := b1_some hf
    refine sys_i hS (sys_runS (As := [.ref (ad (10 + (ix x1))), .int (gi S3 14 (ix x1))]) (rest := []) C0 KC_ok hP hS (m3_firstFault l D K ad tL hI S3 (10 + (ix x1)) 60 (gi S3 14 (ix x1)) (BC_txt K ad (inb_lt g5)) h7) gX3_fault_X3_firstFault rfl ⟨rfl, rfl⟩ hd_X3_firstFault ⟨Nat.le_of_ble_eq_true rfl, Nat.le_of_ble_eq_true rfl⟩ hl.1 rfl (Nat.le_of_ble_eq_true rfl) dX3_fault_26 ⟨Nat.le_refl _, Nat.le_refl _⟩) (fun H locs hP hS => ?_)
    exact ret_i C0 hP hS (congrArg Prod.fst (Option.some.inj hf)) (congrArg Prod.snd (Option.some.inj hf)) dX3_fault_29
  · have hf := ite_f hf c4
    refine lv_iload_n hx hb dX3_fault_10 rfl (lv_at hl 0 rfl) ?_
    refine lv_goto (tgt := 29) hx hb dX3_fault_11 (by decide) ?_
    exact ret_i C0 hP hS (congrArg Prod.fst (Option.some.inj hf)) (congrArg Prod.snd (Option.some.inj hf)) dX3_fault_29
theorem m3_fault (l : Launch) (D : va_G) (K : Nat → ClassId) (ad : Nat → Nat) (tL : Nat) (hI : INJ NC ad) (S : Mem) (x1 : Int32) {r : Int32} {T : Mem} (hf : f3_fault S x1 = some (r, T)) : SysI l yX3_fault wsX3_fault rm3_fault D NC ad (EC K ad) (KC D K tL (IW NC ad)) [.ref (ad 0), .int x1] S r T :=
  met_of (own := RX3) (by decide) rfl rfl (Nat.le_of_ble_eq_true rfl) (fun _ _ s _ _ _ _ ls C0 _ hP hl => w3_fault hI C0 S x1 hf s.heap [] ls hP va_S.rf hl)
theorem in_X2_startAnew_X2 : ∀ w ∈ wsX20, w ∈ wsX2_startAnew := fun _ h => List.mem_cons_of_mem _ (List.mem_append_right _ h)
theorem hd_X2_startAnew : yX2_startAnew.cls = RX2 ∧ yX2_startAnew.cls ≠ "java/lang/invoke/MethodHandle" ∧ yX2_startAnew.cls ≠ "java/lang/invoke/VarHandle" ∧ (parseMethodDescriptor yX2_startAnew.desc).map (fun d => d.parameters.length) = some 0 := by decide +kernel
abbrev rm2_startAnew : Room := { frames := 0, cells := 0, slots := 0, locals := 0 }
set_option maxHeartbeats 4000000 in
set_option maxRecDepth 100000 in
theorem w2_startAnew {p : Program} {l : Launch} {e : Env} {s : State} {m : MethodId} {args : Array Value} {below : List Frame} {meth : Method} {c : Code} {D : va_G} {K : Nat → ClassId} {ad : Nat → Nat} {tL : Nat} (hI : INJ NC ad) (C0 : Cx p s m args meth c RX2 wsX2_startAnew cX2_startAnew 1 (some (.object "LuckJars$Moment")) (KC D K tL (IW NC ad))) {r : Nat} {T : Mem} : ∀ (S : Mem) (s0 : Nat), s0 < 4 → f2_startAnew S s0 = some (r, T) → ∀ (H : Heap) (locs : List Loc) (ls : Array Slot), va_P D vwCl (wl NC ad (EC K ad S)) H → va_S (IW NC ad) s.heap H locs → lv_has ls 1 [(0, .ref (ad (22 + s0)))] → W p l e rm2_startAnew s m args below meth c H locs 0 0 (MQ below (va_Qr (fun (u : Mem) => u = T) (fun u b t => b = ad (30 + r) ∧ va_P D vwCl (wl NC ad (EC K ad u)) t.heap) (IW NC ad)) args s 0 0 (IW NC ad)) (F0 m 0 ls []) := by
  have hx := C0.1
  have hb := C0.2.1
  have hts := C0.2.2.2.2.1
  have hown := C0.2.2.2.1
  have hKC := C0.2.2.2.2.2.2.2
  intro S s0 hs0 hf H locs ls hP hS hl
  rw [f2_startAnew] at hf
  refine lv_aload_n hx hb dX2_startAnew_0 rfl (lv_at hl 0 rfl) ?_
  refine lv_iconst (v := 0) hx hb dX2_startAnew_1 (by decide) ?_
  refine x_puti C0 hKC.1 hI (EC_loc K ad) hP hS (ltS hs0) (EC_S K ad S hs0) rfl tyX2 tyX2_ok nmX2 in_X2_startAnew_X2 1 (by decide) (List.mem_of_getElem? (i := 1) rfl) rfl (tyX2_ok 1 (by decide)) (Nat.le_of_ble_eq_true rfl) (EC_pS K ad S _ hs0) dX2_startAnew_2 (fun S1 eS1 H locs hP hS => ?_)
  have hf := nm_at eS1 hf
  refine lv_aload_n hx hb dX2_startAnew_5 rfl (lv_at hl 0 rfl) ?_
  refine x_get C0 hKC.1 hP (ltS hs0) (EC_S K ad S1 hs0) rfl in_X2_startAnew_X2 0 (by decide) (List.mem_of_getElem? (i := 2) rfl) rfl dX2_startAnew_6 ?_
  refine lv_iconst (v := 0) hx hb dX2_startAnew_9 (by decide) ?_
  obtain ⟨g2, hf⟩ := gd_some hf
  refine x_aald C0 hKC.1 hP (ltMA hs0) (EC_MA K ad S1 hs0) (t0 := 2) rfl rfl g2 dX2_startAnew_10 ?_
  exact ret_r C0 hP hS (congrArg (fun z => 30 + z) (congrArg Prod.fst (Option.some.inj hf))) (congrArg Prod.snd (Option.some.inj hf)) dX2_startAnew_11
theorem m2_startAnew (l : Launch) (D : va_G) (K : Nat → ClassId) (ad : Nat → Nat) (tL : Nat) (hI : INJ NC ad) (S : Mem) (s0 : Nat) (hs0 : s0 < 4) {r : Nat} {T : Mem} (hf : f2_startAnew S s0 = some (r, T)) : SysR l yX2_startAnew wsX2_startAnew rm2_startAnew D NC ad (EC K ad) (KC D K tL (IW NC ad)) [.ref (ad (22 + s0))] S (30 + r) T :=
  met_of (own := RX2) (by decide) rfl rfl (Nat.le_of_ble_eq_true rfl) (fun _ _ s _ _ _ _ ls C0 _ hP hl => w2_startAnew hI C0 S s0 hs0 hf s.heap [] ls hP va_S.rf hl)
theorem hd_X3_figure : yX3_figure.cls ≠ "java/lang/invoke/MethodHandle" ∧ yX3_figure.cls ≠ "java/lang/invoke/VarHandle" ∧ (parseMethodDescriptor yX3_figure.desc).map (fun d => d.parameters.length) = some 1 := by decide +kernel
abbrev rm3_figure : Room := { frames := 0, cells := 0, slots := 0, locals := 0 }
set_option maxHeartbeats 4000000 in
set_option maxRecDepth 100000 in
theorem w3_figure {p : Program} {l : Launch} {e : Env} {s : State} {m : MethodId} {args : Array Value} {below : List Frame} {meth : Method} {c : Code} {D : va_G} {K : Nat → ClassId} {ad : Nat → Nat} {tL : Nat} (hI : INJ NC ad) (C0 : Cx p s m args meth c RX3 wsX3_figure cX3_figure 1 (some .int) (KC D K tL (IW NC ad))) (S : Mem) {r : Int32} : ∀ (x0 : Int32), f3_figure x0 = some r → ∀ (H : Heap) (locs : List Loc) (ls : Array Slot), va_P D vwCl (wl NC ad (EC K ad S)) H → va_S (IW NC ad) s.heap H locs → lv_has ls 1 [(0, .int x0)] → W p l e rm3_figure s m args below meth c H locs 0 0 (MQ below (va_Qi (fun (x : Int32) (u : Mem) => x = r ∧ u = S) (fun u t => va_P D vwCl (wl NC ad (EC K ad u)) t.heap) (IW NC ad)) args s 0 0 (IW NC ad)) (F0 m 0 ls []) := by
  have hx := C0.1
  have hb := C0.2.1
  have hts := C0.2.2.2.2.1
  have hown := C0.2.2.2.1
  have hKC := C0.2.2.2.2.2.2.2
  intro x0 hf H locs ls hP hS hl
  rw [f3_figure] at hf
  refine lv_iload_n hx hb dX3_figure_0 rfl (lv_at hl 0 rfl) ?_
  refine lv_bipush (v := 48) hx hb dX3_figure_1 (by decide) ?_
  refine lv_isub hx hb dX3_figure_3 ?_
  exact ret_i C0 hP hS (Option.some.inj hf) rfl dX3_figure_4
theorem m3_figure (l : Launch) (D : va_G) (K : Nat → ClassId) (ad : Nat → Nat) (tL : Nat) (hI : INJ NC ad) (S : Mem) (x0 : Int32) {r : Int32} (hf : f3_figure x0 = some r) : SysI l yX3_figure wsX3_figure rm3_figure D NC ad (EC K ad) (KC D K tL (IW NC ad)) [.int x0] S r S :=
  met_of (own := RX3) (by decide) rfl rfl (Nat.le_of_ble_eq_true rfl) (fun _ _ s _ _ _ _ ls C0 _ hP hl => w3_figure hI C0 S x0 hf s.heap [] ls hP va_S.rf hl)
theorem in_X3_settle_X3 : ∀ w ∈ wsX30, w ∈ wsX3_settle := fun _ h => List.mem_cons_of_mem _ (List.mem_append_left _ (List.mem_append_left _ (List.mem_append_left _ (List.mem_append_right _ h))))
theorem in_X3_settle_X0 : ∀ w ∈ wsX00, w ∈ wsX3_settle := fun _ h => List.mem_cons_of_mem _ (List.mem_append_left _ (List.mem_append_left _ (List.mem_append_right _ h)))
theorem in_X3_settle_X1 : ∀ w ∈ wsX10, w ∈ wsX3_settle := fun _ h => List.mem_cons_of_mem _ (List.mem_append_left _ (List.mem_append_right _ h))
theorem in_X3_settle_X2 : ∀ w ∈ wsX20, w ∈ wsX3_settle := fun _ h => List.mem_cons_of_mem _ (List.mem_append_right _ h)
theorem hd_X3_settle : yX3_settle.cls = RX3 ∧ yX3_settle.cls ≠ "java/lang/invoke/MethodHandle" ∧ yX3_settle.cls ≠ "java/lang/invoke/VarHandle" ∧ (parseMethodDescriptor yX3_settle.desc).map (fun d => d.parameters.length) = some 2 := by decide +kernel
abbrev rm3_settle : Room := { frames := 1, cells := 0, slots := 0, locals := 21 }
set_option maxHeartbeats 4000000 in
set_option maxRecDepth 100000 in
theorem w3_settle_b133 {p : Program} {l : Launch} {e : Env} {s : State} {m : MethodId} {args : Array Value} {below : List Frame} {meth : Method} {c : Code} {D : va_G} {K : Nat → ClassId} {ad : Nat → Nat} {tL : Nat} (hI : INJ NC ad) (C0 : Cx p s m args meth c RX3 wsX3_settle cX3_settle 7 none (KC D K tL (IW NC ad))) {T : Mem} : ∀ (S : Mem) (x4 : Int32), f3_settle_b133 S x4 = some T → ∀ (H : Heap) (locs : List Loc) (ls : Array Slot), va_P D vwCl (wl NC ad (EC K ad S)) H → va_S (IW NC ad) s.heap H locs → lv_has ls 7 [(0, .ref (ad 0)), (4, .int x4)] → W p l e rm3_settle s m args below meth c H locs 0 0 (MQ below (va_Qv (fun (u : Mem) => u = T) (fun u t => va_P D vwCl (wl NC ad (EC K ad u)) t.heap) (IW NC ad)) args s 0 0 (IW NC ad)) (F0 m 133 ls []) := by
  have hx := C0.1
  have hb := C0.2.1
  have hts := C0.2.2.2.2.1
  have hown := C0.2.2.2.1
  have hKC := C0.2.2.2.2.2.2.2
  intro S x4 hf H locs ls hP hS hl
  rw [f3_settle_b133] at hf
  refine lv_aload_n hx hb dX3_settle_133 rfl (lv_at hl 0 rfl) ?_
  refine x_get C0 hKC.1 hP (by decide) (EC_0 K ad S) rfl in_X3_settle_X3 4 (by decide) (List.mem_of_getElem? (i := 2) rfl) rfl dX3_settle_134 ?_
  refine lv_iload hx hb dX3_settle_137 (lv_at hl 1 rfl) ?_
  refine x_puti C0 hKC.1 hI (EC_loc K ad) hP hS (by decide) (EC_H K ad S) rfl tyX0 tyX0_ok nmX0 in_X3_settle_X0 3 (by decide) (List.mem_of_getElem? (i := 7) rfl) rfl (tyX0_ok 3 (by decide)) (Nat.le_of_ble_eq_true rfl) (EC_pH K ad S _) dX3_settle_139 (fun S1 eS1 H locs hP hS => ?_)
  have hf := nm_at eS1 hf
  exact ret_v C0 hP hS (Option.some.inj hf) dX3_settle_142
set_option maxHeartbeats 4000000 in
set_option maxRecDepth 100000 in
theorem w3_settle_b127 {p : Program} {l : Launch} {e : Env} {s : State} {m : MethodId} {args : Array Value} {below : List Frame} {meth : Method} {c : Code} {D : va_G} {K : Nat → ClassId} {ad : Nat → Nat} {tL : Nat} (hI : INJ NC ad) (C0 : Cx p s m args meth c RX3 wsX3_settle cX3_settle 7 none (KC D K tL (IW NC ad))) {T : Mem} (k14 : Mem → Nat → Nat → Int32 → Nat → Int32 → Int32 → Option Mem) (hk14 : ∀ (S : Mem) (a1 : Nat) (a1n : Nat) (x2 : Int32) (q3 : Nat) (x4 : Int32) (x5 : Int32), BC K ad a1 a1n → q3 < 165 → k14 S a1 a1n x2 q3 x4 x5 = some T → ∀ (H : Heap) (locs : List Loc) (ls : Array Slot), va_P D vwCl (wl NC ad (EC K ad S)) H → va_S (IW NC ad) s.heap H locs → lv_has ls 7 [(0, .ref (ad 0)), (1, .ref (ad a1)), (2, .int x2), (3, .ref (ad (30 + q3))), (4, .int x4), (5, .int x5)] → W p l e rm3_settle s m args below meth c H locs 0 0 (MQ below (va_Qv (fun (u : Mem) => u = T) (fun u t => va_P D vwCl (wl NC ad (EC K ad u)) t.heap) (IW NC ad)) args s 0 0 (IW NC ad)) (F0 m 14 ls [])) : ∀ (S : Mem) (a1 : Nat) (a1n : Nat) (x2 : Int32) (q3 : Nat) (x4 : Int32) (x5 : Int32), BC K ad a1 a1n → q3 < 165 → f3_settle_b127 k14 S a1 a1n x2 q3 x4 x5 = some T → ∀ (H : Heap) (locs : List Loc) (ls : Array Slot), va_P D vwCl (wl NC ad (EC K ad S)) H → va_S (IW NC ad) s.heap H locs → lv_has ls 7 [(0, .ref (ad 0)), (1, .ref (ad a1)), (2, .int x2), (3, .ref (ad (30 + q3))), (4, .int x4), (5, .int x5)] → W p l e rm3_settle s m args below meth c H locs 0 0 (MQ below (va_Qv (fun (u : Mem) => u = T) (fun u t => va_P D vwCl (wl NC ad (EC K ad u)) t.heap) (IW NC ad)) args s 0 0 (IW NC ad)) (F0 m 127 ls []) := by
  have hx := C0.1
  have hb := C0.2.1
  have hts := C0.2.2.2.2.1
  have hown := C0.2.2.2.1
  have hKC := C0.2.2.2.2.2.2.2
  intro S a1 a1n x2 q3 x4 x5 ha1 hq3 hf H locs ls hP hS hl
  rw [f3_settle_b127] at hf
  obtain ⟨v1, ev1⟩ : ∃ y : Int32, y = x5 + 1 := ⟨_, rfl⟩
  have hf := nm_at ev1 hf
  refine lv_iinc (v := v1) (lv' := [(5, .int v1), (0, .ref (ad 0)), (1, .ref (ad a1)), (2, .int x2), (3, .ref (ad (30 + q3))), (4, .int x4)]) hx hb dX3_settle_127 hl (k := 5) rfl (by rw [ev1]; rfl) (by decide) rfl (fun ls hl => ?_)
  refine lv_goto (tgt := 14) hx hb dX3_settle_130 (by decide) ?_
  exact hk14 S a1 a1n x2 q3 x4 v1 ha1 hq3 hf H locs ls hP hS (lv_sub hl [1, 2, 3, 4, 5, 0] rfl)
set_option maxHeartbeats 4000000 in
set_option maxRecDepth 100000 in
theorem w3_settle_b14 {p : Program} {l : Launch} {e : Env} {s : State} {m : MethodId} {args : Array Value} {below : List Frame} {meth : Method} {c : Code} {D : va_G} {K : Nat → ClassId} {ad : Nat → Nat} {tL : Nat} (hI : INJ NC ad) (C0 : Cx p s m args meth c RX3 wsX3_settle cX3_settle 7 none (KC D K tL (IW NC ad))) {T : Mem} : ∀ (n : Nat), ∀ (S : Mem) (a1 : Nat) (a1n : Nat) (x2 : Int32) (q3 : Nat) (x4 : Int32) (x5 : Int32), BC K ad a1 a1n → q3 < 165 → f3_settle_b14 n S a1 a1n x2 q3 x4 x5 = some T → ∀ (H : Heap) (locs : List Loc) (ls : Array Slot), va_P D vwCl (wl NC ad (EC K ad S)) H → va_S (IW NC ad) s.heap H locs → lv_has ls 7 [(0, .ref (ad 0)), (1, .ref (ad a1)), (2, .int x2), (3, .ref (ad (30 + q3))), (4, .int x4), (5, .int x5)] → W p l e rm3_settle s m args below meth c H locs 0 0 (MQ below (va_Qv (fun (u : Mem) => u = T) (fun u t => va_P D vwCl (wl NC ad (EC K ad u)) t.heap) (IW NC ad)) args s 0 0 (IW NC ad)) (F0 m 14 ls []) := by
  have hx := C0.1
  have hb := C0.2.1
  have hts := C0.2.2.2.2.1
  have hown := C0.2.2.2.1
  have hKC := C0.2.2.2.2.2.2.2
  intro n
  induction n with
  | zero =>
    intro S a1 a1n x2 q3 x4 x5 ha1 hq3 hf
    rw [f3_settle_b14] at hf
    cases hf
  | succ n ih =>
    intro S a1 a1n x2 q3 x4 x5 ha1 hq3 hf H locs ls hP hS hl
    rw [f3_settle_b14] at hf
    refine lv_iload hx hb dX3_settle_14 (lv_at hl 5 rfl) ?_
    refine lv_iconst (v := 5) hx hb dX3_settle_16 (by decide) ?_
    refine lv_iadd hx hb dX3_settle_17 ?_
    refine lv_iload_n hx hb dX3_settle_18 rfl (lv_at hl 2 rfl) ?_
    refine lv_icmp_gt (tgt := 133) hx hb dX3_settle_19 (by decide) (fun c1 => ?_) (fun c1 => ?_)
    · have hf := ite_t hf c1
      exact w3_settle_b133 hI C0 S x4 hf H locs ls hP hS (lv_sub hl [0, 4] rfl)
    · have hf := ite_f hf c1
      refine lv_iload hx hb dX3_settle_22 (lv_at hl 4 rfl) ?_
      refine lv_bipush (v := 7) hx hb dX3_settle_24 (by decide) ?_
      refine lv_icmp_ge (tgt := 133) hx hb dX3_settle_26 (by decide) (fun c2 => ?_) (fun c2 => ?_)
      · have hf := ite_t hf c2
        exact w3_settle_b133 hI C0 S x4 hf H locs ls hP hS (lv_sub hl [0, 4] rfl)
      · have hf := ite_f hf c2
        refine lv_aload_n hx hb dX3_settle_29 rfl (lv_at hl 1 rfl) ?_
        refine lv_iload hx hb dX3_settle_30 (lv_at hl 5 rfl) ?_
        obtain ⟨g3, hf⟩ := gd_some hf
        refine x_bald C0 hKC.1 hP ha1 (t0 := 1) rfl g3 dX3_settle_32 ?_
        obtain ⟨v5, h4, hf⟩ := b1_some hf
        refine sys_i hS (sys_runS (As := [.int (gi S a1 (ix x5))]) (rest := []) C0 KC_ok hP hS (m3_kindByLetter l D K ad tL hI S (gi S a1 (ix x5)) h4) gX3_settle_X3_kindByLetter rfl ⟨rfl, rfl⟩ hd_X3_kindByLetter ⟨Nat.le_of_ble_eq_true rfl, Nat.le_of_ble_eq_true rfl⟩ hl.1 rfl (Nat.le_of_ble_eq_true rfl) dX3_settle_33 ⟨Nat.le_refl _, Nat.le_refl _⟩) (fun H locs hP hS => ?_)
        refine lv_istore (lv' := [(6, .int v5), (0, .ref (ad 0)), (1, .ref (ad a1)), (2, .int x2), (3, .ref (ad (30 + q3))), (4, .int x4), (5, .int x5)]) hx hb dX3_settle_36 hl (by decide) rfl (fun ls hl => ?_)
        refine lv_iload hx hb dX3_settle_38 (lv_at hl 0 rfl) ?_
        refine lv_bipush (v := (-9)) hx hb dX3_settle_40 (by decide) ?_
        refine lv_icmp_eq (tgt := 127) hx hb dX3_settle_42 (by decide) (fun c6 => ?_) (fun c6 => ?_)
        · have hf := ite_t hf c6
          exact w3_settle_b127 hI C0 (f3_settle_b14 n) ih S a1 a1n x2 q3 x4 x5 ha1 hq3 hf H locs ls hP hS (lv_sub hl [1, 2, 3, 4, 5, 6] rfl)
        · have hf := ite_f hf c6
          refine lv_aload_n hx hb dX3_settle_45 rfl (lv_at hl 1 rfl) ?_
          refine x_get C0 hKC.1 hP (by decide) (EC_0 K ad S) rfl in_X3_settle_X3 4 (by decide) (List.mem_of_getElem? (i := 2) rfl) rfl dX3_settle_46 ?_
          refine x_get C0 hKC.1 hP (by decide) (EC_H K ad S) rfl in_X3_settle_X0 0 (by decide) (List.mem_of_getElem? (i := 3) rfl) rfl dX3_settle_49 ?_
          refine lv_iload hx hb dX3_settle_52 (lv_at hl 5 rfl) ?_
          refine lv_iload hx hb dX3_settle_54 (lv_at hl 0 rfl) ?_
          obtain ⟨g7, hf⟩ := gd_some hf
          refine x_iast C0 hKC.1 hI (EC_loc K ad) hP hS (IC_16 K ad) (t0 := 0) rfl g7 dX3_settle_56 (fun S8 eS8 H locs hP hS => ?_)
          have hf := nm_at eS8 hf
          refine lv_aload_n hx hb dX3_settle_57 rfl (lv_at hl 1 rfl) ?_
          refine x_get C0 hKC.1 hP (by decide) (EC_0 K ad S8) rfl in_X3_settle_X3 4 (by decide) (List.mem_of_getElem? (i := 2) rfl) rfl dX3_settle_58 ?_
          refine x_get C0 hKC.1 hP (by decide) (EC_H K ad S8) rfl in_X3_settle_X0 1 (by decide) (List.mem_of_getElem? (i := 4) rfl) rfl dX3_settle_61 ?_
          refine lv_iload hx hb dX3_settle_64 (lv_at hl 5 rfl) ?_
          refine lv_aload_n hx hb dX3_settle_66 rfl (lv_at hl 2 rfl) ?_
          refine lv_iload hx hb dX3_settle_67 (lv_at hl 6 rfl) ?_
          refine lv_iconst (v := 1) hx hb dX3_settle_69 (by decide) ?_
          refine lv_iadd hx hb dX3_settle_70 ?_
          obtain ⟨g9, hf⟩ := gd_some hf
          refine x_bald C0 hKC.1 hP ha1 (t0 := 1) rfl g9 dX3_settle_71 ?_
          obtain ⟨v11, h10, hf⟩ := b1_some hf
          refine sys_i hS (sys_runS (As := [.int (gi S8 a1 (ix (x5 + 1)))]) (rest := [.int x4, .ref (ad 17)]) C0 KC_ok hP hS (m3_figure l D K ad tL hI S8 (gi S8 a1 (ix (x5 + 1))) h10) gX3_settle_X3_figure rfl ⟨rfl, rfl⟩ hd_X3_figure ⟨Nat.le_of_ble_eq_true rfl, Nat.le_of_ble_eq_true rfl⟩ hl.1 rfl (Nat.le_of_ble_eq_true rfl) dX3_settle_72 ⟨Nat.le_refl _, Nat.le_refl _⟩) (fun H locs hP hS => ?_)
          obtain ⟨g12, hf⟩ := gd_some hf
          refine x_iast C0 hKC.1 hI (EC_loc K ad) hP hS (IC_17 K ad) (t0 := 0) rfl g12 dX3_settle_75 (fun S13 eS13 H locs hP hS => ?_)
          have hf := nm_at eS13 hf
          refine lv_aload_n hx hb dX3_settle_76 rfl (lv_at hl 1 rfl) ?_
          refine x_get C0 hKC.1 hP (by decide) (EC_0 K ad S13) rfl in_X3_settle_X3 4 (by decide) (List.mem_of_getElem? (i := 2) rfl) rfl dX3_settle_77 ?_
          refine x_get C0 hKC.1 hP (by decide) (EC_H K ad S13) rfl in_X3_settle_X0 2 (by decide) (List.mem_of_getElem? (i := 5) rfl) rfl dX3_settle_80 ?_
          refine lv_iload hx hb dX3_settle_83 (lv_at hl 5 rfl) ?_
          refine lv_aload_n hx hb dX3_settle_85 rfl (lv_at hl 2 rfl) ?_
          refine lv_iload hx hb dX3_settle_86 (lv_at hl 6 rfl) ?_
          refine lv_iconst (v := 2) hx hb dX3_settle_88 (by decide) ?_
          refine lv_iadd hx hb dX3_settle_89 ?_
          obtain ⟨g14, hf⟩ := gd_some hf
          refine x_bald C0 hKC.1 hP ha1 (t0 := 1) rfl g14 dX3_settle_90 ?_
          obtain ⟨v16, h15, hf⟩ := b1_some hf
          refine sys_i hS (sys_runS (As := [.int (gi S13 a1 (ix (x5 + 2)))]) (rest := [.int x4, .ref (ad 18)]) C0 KC_ok hP hS (m3_figure l D K ad tL hI S13 (gi S13 a1 (ix (x5 + 2))) h15) gX3_settle_X3_figure rfl ⟨rfl, rfl⟩ hd_X3_figure ⟨Nat.le_of_ble_eq_true rfl, Nat.le_of_ble_eq_true rfl⟩ hl.1 rfl (Nat.le_of_ble_eq_true rfl) dX3_settle_91 ⟨Nat.le_refl _, Nat.le_refl _⟩) (fun H locs hP hS => ?_)
          obtain ⟨g17, hf⟩ := gd_some hf
          refine x_iast C0 hKC.1 hI (EC_loc K ad) hP hS (IC_18 K ad) (t0 := 0) rfl g17 dX3_settle_94 (fun S18 eS18 H locs hP hS => ?_)
          have hf := nm_at eS18 hf
          refine lv_aload_n hx hb dX3_settle_95 rfl (lv_at hl 4 rfl) ?_
          refine x_get C0 hKC.1 hP (ltM hq3) (EC_M K ad S18 hq3) rfl in_X3_settle_X1 0 (by decide) (List.mem_of_getElem? (i := 6) rfl) rfl dX3_settle_96 ?_
          refine lv_iload hx hb dX3_settle_99 (lv_at hl 5 rfl) ?_
          refine lv_bipush (v := 10) hx hb dX3_settle_101 (by decide) ?_
          refine lv_aload_n hx hb dX3_settle_103 rfl (lv_at hl 2 rfl) ?_
          refine lv_iload hx hb dX3_settle_104 (lv_at hl 6 rfl) ?_
          refine lv_iconst (v := 3) hx hb dX3_settle_106 (by decide) ?_
          refine lv_iadd hx hb dX3_settle_107 ?_
          obtain ⟨g19, hf⟩ := gd_some hf
          refine x_bald C0 hKC.1 hP ha1 (t0 := 1) rfl g19 dX3_settle_108 ?_
          obtain ⟨v21, h20, hf⟩ := b1_some hf
          refine sys_i hS (sys_runS (As := [.int (gi S18 a1 (ix (x5 + 3)))]) (rest := [.int 10, .int x4, .ref (ad (195 + q3))]) C0 KC_ok hP hS (m3_figure l D K ad tL hI S18 (gi S18 a1 (ix (x5 + 3))) h20) gX3_settle_X3_figure rfl ⟨rfl, rfl⟩ hd_X3_figure ⟨Nat.le_of_ble_eq_true rfl, Nat.le_of_ble_eq_true rfl⟩ hl.1 rfl (Nat.le_of_ble_eq_true rfl) dX3_settle_109 ⟨Nat.le_refl _, Nat.le_refl _⟩) (fun H locs hP hS => ?_)
          refine lv_imul hx hb dX3_settle_112 ?_
          refine lv_aload_n hx hb dX3_settle_113 rfl (lv_at hl 2 rfl) ?_
          refine lv_iload hx hb dX3_settle_114 (lv_at hl 6 rfl) ?_
          refine lv_iconst (v := 4) hx hb dX3_settle_116 (by decide) ?_
          refine lv_iadd hx hb dX3_settle_117 ?_
          obtain ⟨g22, hf⟩ := gd_some hf
          refine x_bald C0 hKC.1 hP ha1 (t0 := 1) rfl g22 dX3_settle_118 ?_
          obtain ⟨v24, h23, hf⟩ := b1_some hf
          refine sys_i hS (sys_runS (As := [.int (gi S18 a1 (ix (x5 + 4)))]) (rest := [.int (10 * v21), .int x4, .ref (ad (195 + q3))]) C0 KC_ok hP hS (m3_figure l D K ad tL hI S18 (gi S18 a1 (ix (x5 + 4))) h23) gX3_settle_X3_figure rfl ⟨rfl, rfl⟩ hd_X3_figure ⟨Nat.le_of_ble_eq_true rfl, Nat.le_of_ble_eq_true rfl⟩ hl.1 rfl (Nat.le_of_ble_eq_true rfl) dX3_settle_119 ⟨Nat.le_refl _, Nat.le_refl _⟩) (fun H locs hP hS => ?_)
          refine lv_iadd hx hb dX3_settle_122 ?_
          obtain ⟨g25, hf⟩ := gd_some hf
          refine x_iast C0 hKC.1 hI (EC_loc K ad) hP hS (IC_jar K ad hq3) (t0 := 0) rfl g25 dX3_settle_123 (fun S26 eS26 H locs hP hS => ?_)
          have hf := nm_at eS26 hf
          obtain ⟨v27, ev27⟩ : ∃ y : Int32, y = x4 + 1 := ⟨_, rfl⟩
          have hf := nm_at ev27 hf
          refine lv_iinc (v := v27) (lv' := [(4, .int v27), (6, .int v5), (0, .ref (ad 0)), (1, .ref (ad a1)), (2, .int x2), (3, .ref (ad (30 + q3))), (5, .int x5)]) hx hb dX3_settle_124 hl (k := 5) rfl (by rw [ev27]; rfl) (by decide) rfl (fun ls hl => ?_)
          exact w3_settle_b127 hI C0 (f3_settle_b14 n) ih S26 a1 a1n x2 q3 v27 x5 ha1 hq3 hf H locs ls hP hS (lv_sub hl [2, 3, 4, 5, 0, 6] rfl)
set_option maxHeartbeats 4000000 in
set_option maxRecDepth 100000 in
theorem w3_settle {p : Program} {l : Launch} {e : Env} {s : State} {m : MethodId} {args : Array Value} {below : List Frame} {meth : Method} {c : Code} {D : va_G} {K : Nat → ClassId} {ad : Nat → Nat} {tL : Nat} (hI : INJ NC ad) (C0 : Cx p s m args meth c RX3 wsX3_settle cX3_settle 7 none (KC D K tL (IW NC ad))) {T : Mem} : ∀ (S : Mem) (a1 : Nat) (a1n : Nat) (x2 : Int32), BC K ad a1 a1n → f3_settle S a1 a1n x2 = some T → ∀ (H : Heap) (locs : List Loc) (ls : Array Slot), va_P D vwCl (wl NC ad (EC K ad S)) H → va_S (IW NC ad) s.heap H locs → lv_has ls 7 [(0, .ref (ad 0)), (1, .ref (ad a1)), (2, .int x2)] → W p l e rm3_settle s m args below meth c H locs 0 0 (MQ below (va_Qv (fun (u : Mem) => u = T) (fun u t => va_P D vwCl (wl NC ad (EC K ad u)) t.heap) (IW NC ad)) args s 0 0 (IW NC ad)) (F0 m 0 ls []) := by
  have hx := C0.1
  have hb := C0.2.1
  have hts := C0.2.2.2.2.1
  have hown := C0.2.2.2.1
  have hKC := C0.2.2.2.2.2.2.2
  intro S a1 a1n x2 ha1 hf H locs ls hP hS hl
  rw [f3_settle] at hf
  refine lv_aload_n hx hb dX3_settle_0 rfl (lv_at hl 0 rfl) ?_
  refine x_get C0 hKC.1 hP (by decide) (EC_0 K ad S) rfl in_X3_settle_X3 5 (by decide) (List.mem_of_getElem? (i := 1) rfl) rfl dX3_settle_1 ?_
  obtain ⟨q2, S3, h1, hf⟩ := b2_some hf
  obtain ⟨g4, hf⟩ := gd_some hf
  refine sys_r hS (sys_runV (As := []) (rest := []) C0 KC_ok hKC.1 hP hS (ltS (by decide : 0 < 4)) (EC_S K ad S (by decide : 0 < 4)) rfl (m2_startAnew l D K ad tL hI S 0 (by decide : 0 < 4) h1) gX3_settle_X2_startAnew rfl ⟨rfl, rfl⟩ hd_X2_startAnew ⟨Nat.le_of_ble_eq_true rfl, Nat.le_of_ble_eq_true rfl⟩ hl.1 rfl (Nat.le_of_ble_eq_true rfl) dX3_settle_4 ⟨Nat.le_refl _, Nat.le_refl _⟩) (fun H locs hP hS => ?_)
  refine lv_astore_n (lv' := [(3, .ref (ad (30 + q2))), (0, .ref (ad 0)), (1, .ref (ad a1)), (2, .int x2)]) hx hb dX3_settle_7 rfl hl (by decide) rfl (fun ls hl => ?_)
  refine lv_iconst (v := 0) hx hb dX3_settle_8 (by decide) ?_
  refine lv_istore (lv' := [(4, .int 0), (3, .ref (ad (30 + q2))), (0, .ref (ad 0)), (1, .ref (ad a1)), (2, .int x2)]) hx hb dX3_settle_9 hl (by decide) rfl (fun ls hl => ?_)
  refine lv_iconst (v := 0) hx hb dX3_settle_11 (by decide) ?_
  refine lv_istore (lv' := [(5, .int 0), (4, .int 0), (3, .ref (ad (30 + q2))), (0, .ref (ad 0)), (1, .ref (ad a1)), (2, .int x2)]) hx hb dX3_settle_12 hl (by decide) rfl (fun ls hl => ?_)
  exact w3_settle_b14 hI C0 FU S3 a1 a1n x2 q2 0 0 ha1 (of_decide_eq_true g4) hf H locs ls hP hS (lv_sub hl [3, 4, 5, 2, 1, 0] rfl)
theorem m3_settle (l : Launch) (D : va_G) (K : Nat → ClassId) (ad : Nat → Nat) (tL : Nat) (hI : INJ NC ad) (S : Mem) (a1 : Nat) (a1n : Nat) (x2 : Int32) (ha1 : BC K ad a1 a1n) {T : Mem} (hf : f3_settle S a1 a1n x2 = some T) : SysV l yX3_settle wsX3_settle rm3_settle D NC ad (EC K ad) (KC D K tL (IW NC ad)) [.ref (ad 0), .ref (ad a1), .int x2] S T :=
  met_of (own := RX3) (by decide) rfl rfl (Nat.le_of_ble_eq_true rfl) (fun _ _ s _ _ _ _ ls C0 _ hP hl => w3_settle hI C0 S a1 a1n x2 ha1 hf s.heap [] ls hP va_S.rf hl)
theorem in_X3_place_X3 : ∀ w ∈ wsX30, w ∈ wsX3_place := fun _ h => List.mem_cons_of_mem _ (List.mem_append_left _ (List.mem_append_left _ (List.mem_append_left _ (List.mem_append_right _ h))))
theorem in_X3_place_X2 : ∀ w ∈ wsX20, w ∈ wsX3_place := fun _ h => List.mem_cons_of_mem _ (List.mem_append_left _ (List.mem_append_left _ (List.mem_append_right _ h)))
theorem in_X3_place_X0 : ∀ w ∈ wsX00, w ∈ wsX3_place := fun _ h => List.mem_cons_of_mem _ (List.mem_append_left _ (List.mem_append_right _ h))
theorem in_X3_place_X1 : ∀ w ∈ wsX10, w ∈ wsX3_place := fun _ h => List.mem_cons_of_mem _ (List.mem_append_right _ h)
theorem hd_X3_place : yX3_place.cls = RX3 ∧ yX3_place.cls ≠ "java/lang/invoke/MethodHandle" ∧ yX3_place.cls ≠ "java/lang/invoke/VarHandle" ∧ (parseMethodDescriptor yX3_place.desc).map (fun d => d.parameters.length) = some 1 := by decide +kernel
abbrev rm3_place : Room := { frames := 2, cells := 0, slots := 0, locals := 47 }
set_option maxHeartbeats 4000000 in
set_option maxRecDepth 100000 in
theorem w3_place_b37 {p : Program} {l : Launch} {e : Env} {s : State} {m : MethodId} {args : Array Value} {below : List Frame} {meth : Method} {c : Code} {D : va_G} {K : Nat → ClassId} {ad : Nat → Nat} {tL : Nat} (hI : INJ NC ad) (C0 : Cx p s m args meth c RX3 wsX3_place cX3_place 4 (some .int) (KC D K tL (IW NC ad))) {r : Int32} {T : Mem} : ∀ (n : Nat), ∀ (S : Mem) (x1 : Int32) (x3 : Int32), f3_place_b37 n S x1 x3 = some (r, T) → ∀ (H : Heap) (locs : List Loc) (ls : Array Slot), va_P D vwCl (wl NC ad (EC K ad S)) H → va_S (IW NC ad) s.heap H locs → lv_has ls 4 [(0, .ref (ad 0)), (1, .int x1), (3, .int x3)] → W p l e rm3_place s m args below meth c H locs 0 0 (MQ below (va_Qi (fun (x : Int32) (u : Mem) => x = r ∧ u = T) (fun u t => va_P D vwCl (wl NC ad (EC K ad u)) t.heap) (IW NC ad)) args s 0 0 (IW NC ad)) (F0 m 37 ls []) := by
  have hx := C0.1
  have hb := C0.2.1
  have hts := C0.2.2.2.2.1
  have hown := C0.2.2.2.1
  have hKC := C0.2.2.2.2.2.2.2
  intro n
  induction n with
  | zero =>
    intro S x1 x3 hf
    rw [f3_place_b37] at hf
    cases hf
  | succ n ih =>
    intro S x1 x3 hf H locs ls hP hS hl
    rw [f3_place_b37] at hf
    refine lv_iload_n hx hb dX3_place_37 rfl (lv_at hl 2 rfl) ?_
    refine lv_iconst (v := 3) hx hb dX3_place_38 (by decide) ?_
    refine lv_icmp_ge (tgt := 58) hx hb dX3_place_39 (by decide) (fun c1 => ?_) (fun c1 => ?_)
    · have hf := ite_t hf c1
      refine lv_aload_n hx hb dX3_place_58 rfl (lv_at hl 0 rfl) ?_
      refine lv_aload_n hx hb dX3_place_59 rfl (lv_at hl 0 rfl) ?_
      refine x_get C0 hKC.1 hP (by decide) (EC_0 K ad S) rfl in_X3_place_X3 2 (by decide) (List.mem_of_getElem? (i := 1) rfl) rfl dX3_place_60 ?_
      refine lv_iload_n hx hb dX3_place_63 rfl (lv_at hl 1 rfl) ?_
      obtain ⟨g2, hf⟩ := gd_some hf
      refine x_aald C0 hKC.1 hP (by decide) (EC_TT K ad S) (t0 := 5) rfl rfl g2 dX3_place_64 ?_
      refine lv_aload_n hx hb dX3_place_65 rfl (lv_at hl 0 rfl) ?_
      refine x_get C0 hKC.1 hP (by decide) (EC_0 K ad S) rfl in_X3_place_X3 3 (by decide) (List.mem_of_getElem? (i := 2) rfl) rfl dX3_place_66 ?_
      refine lv_iload_n hx hb dX3_place_69 rfl (lv_at hl 1 rfl) ?_
      obtain ⟨g3, hf⟩ := gd_some hf
      refine x_iald C0 hKC.1 hP (IC_14 K ad) (t0 := 0) rfl g3 dX3_place_70 ?_
      obtain ⟨S5, h4, hf⟩ := b1_some hf
      refine sys_v hS (sys_runV (As := [.ref (ad (10 + (ix x1))), .int (gi S 14 (ix x1))]) (rest := []) C0 KC_ok hKC.1 hP hS (by decide) (EC_0 K ad S) rfl (m3_settle l D K ad tL hI S (10 + (ix x1)) 60 (gi S 14 (ix x1)) (BC_txt K ad (inb_lt g2)) h4) gX3_place_X3_settle rfl ⟨rfl, rfl⟩ hd_X3_settle ⟨Nat.le_of_ble_eq_true rfl, Nat.le_of_ble_eq_true rfl⟩ hl.1 rfl (Nat.le_of_ble_eq_true rfl) dX3_place_71 ⟨Nat.le_refl _, Nat.le_refl _⟩) (fun H locs hP hS => ?_)
      refine lv_aload_n hx hb dX3_place_74 rfl (lv_at hl 0 rfl) ?_
      refine x_get C0 hKC.1 hP (by decide) (EC_0 K ad S5) rfl in_X3_place_X3 4 (by decide) (List.mem_of_getElem? (i := 5) rfl) rfl dX3_place_75 ?_
      refine x_get C0 hKC.1 hP (by decide) (EC_H K ad S5) rfl in_X3_place_X0 3 (by decide) (List.mem_of_getElem? (i := 6) rfl) rfl dX3_place_78 ?_
      exact ret_i C0 hP hS (congrArg Prod.fst (Option.some.inj hf)) (congrArg Prod.snd (Option.some.inj hf)) dX3_place_81
    · have hf := ite_f hf c1
      refine lv_aload_n hx hb dX3_place_42 rfl (lv_at hl 0 rfl) ?_
      refine x_get C0 hKC.1 hP (by decide) (EC_0 K ad S) rfl in_X3_place_X3 6 (by decide) (List.mem_of_getElem? (i := 3) rfl) rfl dX3_place_43 ?_
      refine lv_iload_n hx hb dX3_place_46 rfl (lv_at hl 2 rfl) ?_
      obtain ⟨g6, hf⟩ := gd_some hf
      refine x_aald C0 hKC.1 hP (by decide) (EC_KA K ad S) (t0 := 3) rfl rfl g6 dX3_place_47 ?_
      refine lv_iconst (v := (-1)) hx hb dX3_place_48 (by decide) ?_
      refine x_puti C0 hKC.1 hI (EC_loc K ad) hP hS (ltS (ltK (inb_lt g6))) (EC_S K ad S (ltK (inb_lt g6))) rfl tyX2 tyX2_ok nmX2 in_X3_place_X2 1 (by decide) (List.mem_of_getElem? (i := 4) rfl) rfl (tyX2_ok 1 (by decide)) (Nat.le_of_ble_eq_true rfl) (EC_pS K ad S _ (ltK (inb_lt g6))) dX3_place_49 (fun S7 eS7 H locs hP hS => ?_)
      have hf := nm_at eS7 hf
      obtain ⟨v8, ev8⟩ : ∃ y : Int32, y = x3 + 1 := ⟨_, rfl⟩
      have hf := nm_at ev8 hf
      refine lv_iinc (v := v8) (lv' := [(3, .int v8), (0, .ref (ad 0)), (1, .int x1)]) hx hb dX3_place_52 hl (k := 2) rfl (by rw [ev8]; rfl) (by decide) rfl (fun ls hl => ?_)
      refine lv_goto (tgt := 37) hx hb dX3_place_55 (by decide) ?_
      exact ih S7 x1 v8 hf H locs ls hP hS (lv_sub hl [1, 2, 0] rfl)
set_option maxHeartbeats 4000000 in
set_option maxRecDepth 100000 in
theorem w3_place {p : Program} {l : Launch} {e : Env} {s : State} {m : MethodId} {args : Array Value} {below : List Frame} {meth : Method} {c : Code} {D : va_G} {K : Nat → ClassId} {ad : Nat → Nat} {tL : Nat} (hI : INJ NC ad) (C0 : Cx p s m args meth c RX3 wsX3_place cX3_place 4 (some .int) (KC D K tL (IW NC ad))) {r : Int32} {T : Mem} : ∀ (S : Mem) (x1 : Int32), f3_place S x1 = some (r, T) → ∀ (H : Heap) (locs : List Loc) (ls : Array Slot), va_P D vwCl (wl NC ad (EC K ad S)) H → va_S (IW NC ad) s.heap H locs → lv_has ls 4 [(0, .ref (ad 0)), (1, .int x1)] → W p l e rm3_place s m args below meth c H locs 0 0 (MQ below (va_Qi (fun (x : Int32) (u : Mem) => x = r ∧ u = T) (fun u t => va_P D vwCl (wl NC ad (EC K ad u)) t.heap) (IW NC ad)) args s 0 0 (IW NC ad)) (F0 m 0 ls []) := by
  have hx := C0.1
  have hb := C0.2.1
  have hts := C0.2.2.2.2.1
  have hown := C0.2.2.2.1
  have hKC := C0.2.2.2.2.2.2.2
  intro S x1 hf H locs ls hP hS hl
  rw [f3_place] at hf
  refine lv_aload_n hx hb dX3_place_0 rfl (lv_at hl 0 rfl) ?_
  refine lv_iload_n hx hb dX3_place_1 rfl (lv_at hl 1 rfl) ?_
  obtain ⟨v2, S3, h1, hf⟩ := b2_some hf
  refine sys_i hS (sys_runV (As := [.int x1]) (rest := []) C0 KC_ok hKC.1 hP hS (by decide) (EC_0 K ad S) rfl (m3_textRefusal l D K ad tL hI S x1 h1) gX3_place_X3_textRefusal rfl ⟨rfl, rfl⟩ hd_X3_textRefusal ⟨Nat.le_of_ble_eq_true rfl, Nat.le_of_ble_eq_true rfl⟩ hl.1 rfl (Nat.le_of_ble_eq_true rfl) dX3_place_2 ⟨Nat.le_refl _, Nat.le_refl _⟩) (fun H locs hP hS => ?_)
  refine lv_istore_n (lv' := [(2, .int v2), (0, .ref (ad 0)), (1, .int x1)]) hx hb dX3_place_5 rfl hl (by decide) rfl (fun ls hl => ?_)
  refine lv_iload_n hx hb dX3_place_6 rfl (lv_at hl 0 rfl) ?_
  refine lv_if_eq (tgt := 12) hx hb dX3_place_7 (by decide) (fun c4 => ?_) (fun c4 => ?_)
  · have hf := ite_t hf c4
    refine lv_aload_n hx hb dX3_place_12 rfl (lv_at hl 1 rfl) ?_
    refine x_get C0 hKC.1 hP (by decide) (EC_0 K ad S3) rfl in_X3_place_X3 2 (by decide) (List.mem_of_getElem? (i := 1) rfl) rfl dX3_place_13 ?_
    refine lv_iload_n hx hb dX3_place_16 rfl (lv_at hl 2 rfl) ?_
    obtain ⟨g5, hf⟩ := gd_some hf
    refine x_aald C0 hKC.1 hP (by decide) (EC_TT K ad S3) (t0 := 5) rfl rfl g5 dX3_place_17 ?_
    refine lv_aload_n hx hb dX3_place_18 rfl (lv_at hl 1 rfl) ?_
    refine x_get C0 hKC.1 hP (by decide) (EC_0 K ad S3) rfl in_X3_place_X3 3 (by decide) (List.mem_of_getElem? (i := 2) rfl) rfl dX3_place_19 ?_
    refine lv_iload_n hx hb dX3_place_22 rfl (lv_at hl 2 rfl) ?_
    obtain ⟨g6, hf⟩ := gd_some hf
    refine x_iald C0 hKC.1 hP (IC_14 K ad) (t0 := 0) rfl g6 dX3_place_23 ?_
    obtain ⟨v8, h7, hf⟩ := b1_some hf
    refine sys_i hS (sys_runS (As := [.ref (ad (10 + (ix x1))), .int (gi S3 14 (ix x1))]) (rest := []) C0 KC_ok hP hS (m3_firstFault l D K ad tL hI S3 (10 + (ix x1)) 60 (gi S3 14 (ix x1)) (BC_txt K ad (inb_lt g5)) h7) gX3_place_X3_firstFault rfl ⟨rfl, rfl⟩ hd_X3_firstFault ⟨Nat.le_of_ble_eq_true rfl, Nat.le_of_ble_eq_true rfl⟩ hl.1 rfl (Nat.le_of_ble_eq_true rfl) dX3_place_24 ⟨Nat.le_refl _, Nat.le_refl _⟩) (fun H locs hP hS => ?_)
    refine lv_bipush (v := (-9)) hx hb dX3_place_27 (by decide) ?_
    refine lv_icmp_eq (tgt := 35) hx hb dX3_place_29 (by decide) (fun c9 => ?_) (fun c9 => ?_)
    · have hf := ite_t hf c9
      refine lv_iconst (v := 0) hx hb dX3_place_35 (by decide) ?_
      refine lv_istore_n (lv' := [(3, .int 0), (2, .int v2), (0, .ref (ad 0)), (1, .int x1)]) hx hb dX3_place_36 rfl hl (by decide) rfl (fun ls hl => ?_)
      exact w3_place_b37 hI C0 FU S3 x1 0 hf H locs ls hP hS (lv_sub hl [2, 3, 0] rfl)
    · have hf := ite_f hf c9
      refine lv_bipush (v := (-4)) hx hb dX3_place_32 (by decide) ?_
      exact ret_i C0 hP hS (congrArg Prod.fst (Option.some.inj hf)) (congrArg Prod.snd (Option.some.inj hf)) dX3_place_34
  · have hf := ite_f hf c4
    refine lv_iload_n hx hb dX3_place_10 rfl (lv_at hl 0 rfl) ?_
    exact ret_i C0 hP hS (congrArg Prod.fst (Option.some.inj hf)) (congrArg Prod.snd (Option.some.inj hf)) dX3_place_11
theorem m3_place (l : Launch) (D : va_G) (K : Nat → ClassId) (ad : Nat → Nat) (tL : Nat) (hI : INJ NC ad) (S : Mem) (x1 : Int32) {r : Int32} {T : Mem} (hf : f3_place S x1 = some (r, T)) : SysI l yX3_place wsX3_place rm3_place D NC ad (EC K ad) (KC D K tL (IW NC ad)) [.ref (ad 0), .int x1] S r T :=
  met_of (own := RX3) (by decide) rfl rfl (Nat.le_of_ble_eq_true rfl) (fun _ _ s _ _ _ _ ls C0 _ hP hl => w3_place hI C0 S x1 hf s.heap [] ls hP va_S.rf hl)
theorem in_X3_isHouse_X3 : ∀ w ∈ wsX30, w ∈ wsX3_isHouse := fun _ h => List.mem_cons_of_mem _ (List.mem_append_left _ (List.mem_append_right _ h))
theorem in_X3_isHouse_X0 : ∀ w ∈ wsX00, w ∈ wsX3_isHouse := fun _ h => List.mem_cons_of_mem _ (List.mem_append_right _ h)
theorem hd_X3_isHouse : yX3_isHouse.cls = RX3 ∧ yX3_isHouse.cls ≠ "java/lang/invoke/MethodHandle" ∧ yX3_isHouse.cls ≠ "java/lang/invoke/VarHandle" ∧ (parseMethodDescriptor yX3_isHouse.desc).map (fun d => d.parameters.length) = some 1 := by decide +kernel
abbrev rm3_isHouse : Room := { frames := 0, cells := 0, slots := 0, locals := 0 }
set_option maxHeartbeats 4000000 in
set_option maxRecDepth 100000 in
theorem w3_isHouse {p : Program} {l : Launch} {e : Env} {s : State} {m : MethodId} {args : Array Value} {below : List Frame} {meth : Method} {c : Code} {D : va_G} {K : Nat → ClassId} {ad : Nat → Nat} {tL : Nat} (hI : INJ NC ad) (C0 : Cx p s m args meth c RX3 wsX3_isHouse cX3_isHouse 2 (some .boolean) (KC D K tL (IW NC ad))) (S : Mem) {r : Int32} : ∀ (x1 : Int32), f3_isHouse S x1 = some r → ∀ (H : Heap) (locs : List Loc) (ls : Array Slot), va_P D vwCl (wl NC ad (EC K ad S)) H → va_S (IW NC ad) s.heap H locs → lv_has ls 2 [(0, .ref (ad 0)), (1, .int x1)] → W p l e rm3_isHouse s m args below meth c H locs 0 0 (MQ below (va_Qi (fun (x : Int32) (u : Mem) => x = r ∧ u = S) (fun u t => va_P D vwCl (wl NC ad (EC K ad u)) t.heap) (IW NC ad)) args s 0 0 (IW NC ad)) (F0 m 0 ls []) := by
  have hx := C0.1
  have hb := C0.2.1
  have hts := C0.2.2.2.2.1
  have hown := C0.2.2.2.1
  have hKC := C0.2.2.2.2.2.2.2
  intro x1 hf H locs ls hP hS hl
  rw [f3_isHouse] at hf
  refine lv_iload_n hx hb dX3_isHouse_0 rfl (lv_at hl 1 rfl) ?_
  refine lv_if_lt (tgt := 19) hx hb dX3_isHouse_1 (by decide) (fun c1 => ?_) (fun c1 => ?_)
  · have hf := ite_t hf c1
    refine lv_iconst (v := 0) hx hb dX3_isHouse_19 (by decide) ?_
    exact ret_z C0 hP hS (Or.inl rfl) (Option.some.inj hf) rfl dX3_isHouse_20
  · have hf := ite_f hf c1
    refine lv_iload_n hx hb dX3_isHouse_4 rfl (lv_at hl 1 rfl) ?_
    refine lv_aload_n hx hb dX3_isHouse_5 rfl (lv_at hl 0 rfl) ?_
    refine x_get C0 hKC.1 hP (by decide) (EC_0 K ad S) rfl in_X3_isHouse_X3 4 (by decide) (List.mem_of_getElem? (i := 1) rfl) rfl dX3_isHouse_6 ?_
    refine x_get C0 hKC.1 hP (by decide) (EC_H K ad S) rfl in_X3_isHouse_X0 3 (by decide) (List.mem_of_getElem? (i := 2) rfl) rfl dX3_isHouse_9 ?_
    refine lv_icmp_ge (tgt := 19) hx hb dX3_isHouse_12 (by decide) (fun c2 => ?_) (fun c2 => ?_)
    · have hf := ite_t hf c2
      refine lv_iconst (v := 0) hx hb dX3_isHouse_19 (by decide) ?_
      exact ret_z C0 hP hS (Or.inl rfl) (Option.some.inj hf) rfl dX3_isHouse_20
    · have hf := ite_f hf c2
      refine lv_iconst (v := 1) hx hb dX3_isHouse_15 (by decide) ?_
      refine lv_goto (tgt := 20) hx hb dX3_isHouse_16 (by decide) ?_
      exact ret_z C0 hP hS (Or.inr rfl) (Option.some.inj hf) rfl dX3_isHouse_20
theorem m3_isHouse (l : Launch) (D : va_G) (K : Nat → ClassId) (ad : Nat → Nat) (tL : Nat) (hI : INJ NC ad) (S : Mem) (x1 : Int32) {r : Int32} (hf : f3_isHouse S x1 = some r) : SysI l yX3_isHouse wsX3_isHouse rm3_isHouse D NC ad (EC K ad) (KC D K tL (IW NC ad)) [.ref (ad 0), .int x1] S r S :=
  met_of (own := RX3) (by decide) rfl rfl (Nat.le_of_ble_eq_true rfl) (fun _ _ s _ _ _ _ ls C0 _ hP hl => w3_isHouse hI C0 S x1 hf s.heap [] ls hP va_S.rf hl)
theorem in_X2_now_X2 : ∀ w ∈ wsX20, w ∈ wsX2_now := fun _ h => List.mem_cons_of_mem _ (List.mem_append_right _ h)
theorem hd_X2_now : yX2_now.cls = RX2 ∧ yX2_now.cls ≠ "java/lang/invoke/MethodHandle" ∧ yX2_now.cls ≠ "java/lang/invoke/VarHandle" ∧ (parseMethodDescriptor yX2_now.desc).map (fun d => d.parameters.length) = some 0 := by decide +kernel
abbrev rm2_now : Room := { frames := 0, cells := 0, slots := 0, locals := 0 }
set_option maxHeartbeats 4000000 in
set_option maxRecDepth 100000 in
theorem w2_now {p : Program} {l : Launch} {e : Env} {s : State} {m : MethodId} {args : Array Value} {below : List Frame} {meth : Method} {c : Code} {D : va_G} {K : Nat → ClassId} {ad : Nat → Nat} {tL : Nat} (hI : INJ NC ad) (C0 : Cx p s m args meth c RX2 wsX2_now cX2_now 1 (some (.object "LuckJars$Moment")) (KC D K tL (IW NC ad))) (S : Mem) {r : Nat} : ∀ (s0 : Nat), s0 < 4 → f2_now S s0 = some r → ∀ (H : Heap) (locs : List Loc) (ls : Array Slot), va_P D vwCl (wl NC ad (EC K ad S)) H → va_S (IW NC ad) s.heap H locs → lv_has ls 1 [(0, .ref (ad (22 + s0)))] → W p l e rm2_now s m args below meth c H locs 0 0 (MQ below (va_Qr (fun (u : Mem) => u = S) (fun u b t => b = ad (30 + r) ∧ va_P D vwCl (wl NC ad (EC K ad u)) t.heap) (IW NC ad)) args s 0 0 (IW NC ad)) (F0 m 0 ls []) := by
  have hx := C0.1
  have hb := C0.2.1
  have hts := C0.2.2.2.2.1
  have hown := C0.2.2.2.1
  have hKC := C0.2.2.2.2.2.2.2
  intro s0 hs0 hf H locs ls hP hS hl
  rw [f2_now] at hf
  refine lv_aload_n hx hb dX2_now_0 rfl (lv_at hl 0 rfl) ?_
  refine x_get C0 hKC.1 hP (ltS hs0) (EC_S K ad S hs0) rfl in_X2_now_X2 0 (by decide) (List.mem_of_getElem? (i := 1) rfl) rfl dX2_now_1 ?_
  refine lv_aload_n hx hb dX2_now_4 rfl (lv_at hl 0 rfl) ?_
  refine x_get C0 hKC.1 hP (ltS hs0) (EC_S K ad S hs0) rfl in_X2_now_X2 1 (by decide) (List.mem_of_getElem? (i := 2) rfl) rfl dX2_now_5 ?_
  obtain ⟨g1, hf⟩ := gd_some hf
  refine x_aald C0 hKC.1 hP (ltMA hs0) (EC_MA K ad S hs0) (t0 := 2) rfl rfl g1 dX2_now_8 ?_
  exact ret_r C0 hP hS (congrArg (fun z => 30 + z) (Option.some.inj hf)) rfl dX2_now_9
theorem m2_now (l : Launch) (D : va_G) (K : Nat → ClassId) (ad : Nat → Nat) (tL : Nat) (hI : INJ NC ad) (S : Mem) (s0 : Nat) (hs0 : s0 < 4) {r : Nat} (hf : f2_now S s0 = some r) : SysR l yX2_now wsX2_now rm2_now D NC ad (EC K ad) (KC D K tL (IW NC ad)) [.ref (ad (22 + s0))] S (30 + r) S :=
  met_of (own := RX2) (by decide) rfl rfl (Nat.le_of_ble_eq_true rfl) (fun _ _ s _ _ _ _ ls C0 _ hP hl => w2_now hI C0 S s0 hs0 hf s.heap [] ls hP va_S.rf hl)
theorem hd_X3_broughtBy : yX3_broughtBy.cls ≠ "java/lang/invoke/MethodHandle" ∧ yX3_broughtBy.cls ≠ "java/lang/invoke/VarHandle" ∧ (parseMethodDescriptor yX3_broughtBy.desc).map (fun d => d.parameters.length) = some 3 := by decide +kernel
abbrev rm3_broughtBy : Room := { frames := 1, cells := 0, slots := 0, locals := 32 }
set_option maxHeartbeats 4000000 in
set_option maxRecDepth 100000 in
theorem w3_broughtBy {p : Program} {l : Launch} {e : Env} {s : State} {m : MethodId} {args : Array Value} {below : List Frame} {meth : Method} {c : Code} {D : va_G} {K : Nat → ClassId} {ad : Nat → Nat} {tL : Nat} (hI : INJ NC ad) (C0 : Cx p s m args meth c RX3 wsX3_broughtBy cX3_broughtBy 3 (some .int) (KC D K tL (IW NC ad))) (S : Mem) {r : Int32} : ∀ (x0 : Int32) (x1 : Int32) (x2 : Int32), f3_broughtBy x0 x1 x2 = some r → ∀ (H : Heap) (locs : List Loc) (ls : Array Slot), va_P D vwCl (wl NC ad (EC K ad S)) H → va_S (IW NC ad) s.heap H locs → lv_has ls 3 [(0, .int x0), (1, .int x1), (2, .int x2)] → W p l e rm3_broughtBy s m args below meth c H locs 0 0 (MQ below (va_Qi (fun (x : Int32) (u : Mem) => x = r ∧ u = S) (fun u t => va_P D vwCl (wl NC ad (EC K ad u)) t.heap) (IW NC ad)) args s 0 0 (IW NC ad)) (F0 m 0 ls []) := by
  have hx := C0.1
  have hb := C0.2.1
  have hts := C0.2.2.2.2.1
  have hown := C0.2.2.2.1
  have hKC := C0.2.2.2.2.2.2.2
  intro x0 x1 x2 hf H locs ls hP hS hl
  rw [f3_broughtBy] at hf
  refine lv_iload_n hx hb dX3_broughtBy_0 rfl (lv_at hl 0 rfl) ?_
  by_cases c1 : x0 = 1
  · have hf := ite_t hf c1
    refine lv_tableIn (off := 35) (tgt := 36) hx hb dX3_broughtBy_1 (by rw [c1]; decide) (by rw [c1]; decide) (by rw [c1]; rfl) (by decide) ?_
    refine lv_iload_n hx hb dX3_broughtBy_36 rfl (lv_at hl 1 rfl) ?_
    refine lv_iconst (v := 2) hx hb dX3_broughtBy_37 (by decide) ?_
    refine lv_idiv hx hb dX3_broughtBy_38 (by decide) ?_
    exact ret_i C0 hP hS (Option.some.inj hf) rfl dX3_broughtBy_39
  · have hf := ite_f hf c1
    by_cases c2 : x0 = 2
    · have hf := ite_t hf c2
      refine lv_tableIn (off := 62) (tgt := 63) hx hb dX3_broughtBy_1 (by rw [c2]; decide) (by rw [c2]; decide) (by rw [c2]; rfl) (by decide) ?_
      refine lv_iload_n hx hb dX3_broughtBy_63 rfl (lv_at hl 1 rfl) ?_
      exact ret_i C0 hP hS (Option.some.inj hf) rfl dX3_broughtBy_64
    · have hf := ite_f hf c2
      by_cases c3 : x0 = 3
      · have hf := ite_t hf c3
        refine lv_tableIn (off := 39) (tgt := 40) hx hb dX3_broughtBy_1 (by rw [c3]; decide) (by rw [c3]; decide) (by rw [c3]; rfl) (by decide) ?_
        refine lv_iconst (v := 0) hx hb dX3_broughtBy_40 (by decide) ?_
        refine lv_iload_n hx hb dX3_broughtBy_41 rfl (lv_at hl 1 rfl) ?_
        refine lv_bipush (v := 7) hx hb dX3_broughtBy_42 (by decide) ?_
        refine lv_isub hx hb dX3_broughtBy_44 ?_
        refine va_mmax hx hb (C0.2.2.1.trans hl.1.symm) hown (hts _ (List.mem_of_getElem? (i := 1) rfl)) (hts _ (List.mem_of_getElem? (i := 2) rfl)) (hts _ (List.mem_of_getElem? (i := 3) rfl)) (hts _ (List.mem_of_getElem? (i := 4) rfl)) (Nat.le_of_ble_eq_true rfl) (Nat.le_of_ble_eq_true rfl) (Nat.le_refl _) (Nat.le_refl _) dX3_broughtBy_45 ?_
        exact ret_i C0 hP hS (Option.some.inj hf) rfl dX3_broughtBy_48
      · have hf := ite_f hf c3
        by_cases c4 : x0 = 4
        · have hf := ite_t hf c4
          refine lv_tableIn (off := 48) (tgt := 49) hx hb dX3_broughtBy_1 (by rw [c4]; decide) (by rw [c4]; decide) (by rw [c4]; rfl) (by decide) ?_
          refine lv_iconst (v := 0) hx hb dX3_broughtBy_49 (by decide) ?_
          exact ret_i C0 hP hS (Option.some.inj hf) rfl dX3_broughtBy_50
        · have hf := ite_f hf c4
          by_cases c5 : x0 = 5
          · have hf := ite_t hf c5
            refine lv_tableIn (off := 50) (tgt := 51) hx hb dX3_broughtBy_1 (by rw [c5]; decide) (by rw [c5]; decide) (by rw [c5]; rfl) (by decide) ?_
            refine lv_iload_n hx hb dX3_broughtBy_51 rfl (lv_at hl 2 rfl) ?_
            refine lv_iconst (v := 2) hx hb dX3_broughtBy_52 (by decide) ?_
            refine lv_irem hx hb dX3_broughtBy_53 (by decide) ?_
            refine lv_if_ne (tgt := 61) hx hb dX3_broughtBy_54 (by decide) (fun c6 => ?_) (fun c6 => ?_)
            · have hf := ite_f hf c6
              refine lv_iconst (v := 0) hx hb dX3_broughtBy_61 (by decide) ?_
              exact ret_i C0 hP hS (Option.some.inj hf) rfl dX3_broughtBy_62
            · have hf := ite_t hf c6
              refine lv_iload_n hx hb dX3_broughtBy_57 rfl (lv_at hl 1 rfl) ?_
              refine lv_goto (tgt := 62) hx hb dX3_broughtBy_58 (by decide) ?_
              exact ret_i C0 hP hS (Option.some.inj hf) rfl dX3_broughtBy_62
          · have hf := ite_f hf c5
            refine lv_tableOut (tgt := 63) hx hb dX3_broughtBy_1 (by have h0 := lv_neT (a := 1) c1 rfl; have h1 := lv_neT (a := 2) c2 rfl; have h2 := lv_neT (a := 3) c3 rfl; have h3 := lv_neT (a := 4) c4 rfl; have h4 := lv_neT (a := 5) c5 rfl; omega) (by decide) ?_
            refine lv_iload_n hx hb dX3_broughtBy_63 rfl (lv_at hl 1 rfl) ?_
            exact ret_i C0 hP hS (Option.some.inj hf) rfl dX3_broughtBy_64
theorem m3_broughtBy (l : Launch) (D : va_G) (K : Nat → ClassId) (ad : Nat → Nat) (tL : Nat) (hI : INJ NC ad) (S : Mem) (x0 : Int32) (x1 : Int32) (x2 : Int32) {r : Int32} (hf : f3_broughtBy x0 x1 x2 = some r) : SysI l yX3_broughtBy wsX3_broughtBy rm3_broughtBy D NC ad (EC K ad) (KC D K tL (IW NC ad)) [.int x0, .int x1, .int x2] S r S :=
  met_of (own := RX3) (by decide) rfl rfl (Nat.le_of_ble_eq_true rfl) (fun _ _ s _ _ _ _ ls C0 _ hP hl => w3_broughtBy hI C0 S x0 x1 x2 hf s.heap [] ls hP va_S.rf hl)
theorem in_X1_bringsOf_X0 : ∀ w ∈ wsX00, w ∈ wsX1_bringsOf := fun _ h => List.mem_cons_of_mem _ (List.mem_append_left _ (List.mem_append_right _ h))
theorem in_X1_bringsOf_X1 : ∀ w ∈ wsX10, w ∈ wsX1_bringsOf := fun _ h => List.mem_cons_of_mem _ (List.mem_append_right _ h)
theorem hd_X1_bringsOf : yX1_bringsOf.cls = RX1 ∧ yX1_bringsOf.cls ≠ "java/lang/invoke/MethodHandle" ∧ yX1_bringsOf.cls ≠ "java/lang/invoke/VarHandle" ∧ (parseMethodDescriptor yX1_bringsOf.desc).map (fun d => d.parameters.length) = some 2 := by decide +kernel
abbrev rm1_bringsOf : Room := { frames := 2, cells := 0, slots := 0, locals := 54 }
set_option maxHeartbeats 4000000 in
set_option maxRecDepth 100000 in
theorem w1_bringsOf {p : Program} {l : Launch} {e : Env} {s : State} {m : MethodId} {args : Array Value} {below : List Frame} {meth : Method} {c : Code} {D : va_G} {K : Nat → ClassId} {ad : Nat → Nat} {tL : Nat} (hI : INJ NC ad) (C0 : Cx p s m args meth c RX1 wsX1_bringsOf cX1_bringsOf 3 (some .int) (KC D K tL (IW NC ad))) (S : Mem) {r : Int32} : ∀ (q0 : Nat) (x2 : Int32), q0 < 165 → f1_bringsOf S q0 x2 = some r → ∀ (H : Heap) (locs : List Loc) (ls : Array Slot), va_P D vwCl (wl NC ad (EC K ad S)) H → va_S (IW NC ad) s.heap H locs → lv_has ls 3 [(0, .ref (ad (30 + q0))), (1, .ref (ad 15)), (2, .int x2)] → W p l e rm1_bringsOf s m args below meth c H locs 0 0 (MQ below (va_Qi (fun (x : Int32) (u : Mem) => x = r ∧ u = S) (fun u t => va_P D vwCl (wl NC ad (EC K ad u)) t.heap) (IW NC ad)) args s 0 0 (IW NC ad)) (F0 m 0 ls []) := by
  have hx := C0.1
  have hb := C0.2.1
  have hts := C0.2.2.2.2.1
  have hown := C0.2.2.2.1
  have hKC := C0.2.2.2.2.2.2.2
  intro q0 x2 hq0 hf H locs ls hP hS hl
  rw [f1_bringsOf] at hf
  refine lv_aload_n hx hb dX1_bringsOf_0 rfl (lv_at hl 1 rfl) ?_
  refine x_get C0 hKC.1 hP (by decide) (EC_H K ad S) rfl in_X1_bringsOf_X0 0 (by decide) (List.mem_of_getElem? (i := 1) rfl) rfl dX1_bringsOf_1 ?_
  refine lv_iload_n hx hb dX1_bringsOf_4 rfl (lv_at hl 2 rfl) ?_
  obtain ⟨g1, hf⟩ := gd_some hf
  refine x_iald C0 hKC.1 hP (IC_16 K ad) (t0 := 0) rfl g1 dX1_bringsOf_5 ?_
  refine lv_aload_n hx hb dX1_bringsOf_6 rfl (lv_at hl 0 rfl) ?_
  refine x_get C0 hKC.1 hP (ltM hq0) (EC_M K ad S hq0) rfl in_X1_bringsOf_X1 0 (by decide) (List.mem_of_getElem? (i := 2) rfl) rfl dX1_bringsOf_7 ?_
  refine lv_iload_n hx hb dX1_bringsOf_10 rfl (lv_at hl 2 rfl) ?_
  obtain ⟨g2, hf⟩ := gd_some hf
  refine x_iald C0 hKC.1 hP (IC_jar K ad hq0) (t0 := 0) rfl g2 dX1_bringsOf_11 ?_
  refine lv_aload_n hx hb dX1_bringsOf_12 rfl (lv_at hl 0 rfl) ?_
  refine x_get C0 hKC.1 hP (ltM hq0) (EC_M K ad S hq0) rfl in_X1_bringsOf_X1 1 (by decide) (List.mem_of_getElem? (i := 3) rfl) rfl dX1_bringsOf_13 ?_
  obtain ⟨v4, h3, hf⟩ := b1_some hf
  refine sys_i hS (sys_runN (As := [.int (gi S 16 (ix x2)), .int (gi S (195 + q0) (ix x2)), .int (gi S (30 + q0) 1)]) (rest := []) C0 KC_ok hP hS (m3_broughtBy l D K ad tL hI S (gi S 16 (ix x2)) (gi S (195 + q0) (ix x2)) (gi S (30 + q0) 1) h3) hKC.2.1.1 gX1_bringsOf_X3_broughtBy_n58 (List.mem_of_getElem? (i := 4) rfl) (List.mem_of_getElem? (i := 5) rfl) rfl ⟨rfl, rfl⟩ hd_X3_broughtBy ⟨Nat.le_of_ble_eq_true rfl, Nat.le_of_ble_eq_true rfl⟩ hl.1 rfl (Nat.le_of_ble_eq_true rfl) dX1_bringsOf_16 ⟨Nat.le_refl _, Nat.le_refl _⟩) (fun H locs hP hS => ?_)
  exact ret_i C0 hP hS (Option.some.inj hf) rfl dX1_bringsOf_19
theorem m1_bringsOf (l : Launch) (D : va_G) (K : Nat → ClassId) (ad : Nat → Nat) (tL : Nat) (hI : INJ NC ad) (S : Mem) (q0 : Nat) (x2 : Int32) (hq0 : q0 < 165) {r : Int32} (hf : f1_bringsOf S q0 x2 = some r) : SysI l yX1_bringsOf wsX1_bringsOf rm1_bringsOf D NC ad (EC K ad) (KC D K tL (IW NC ad)) [.ref (ad (30 + q0)), .ref (ad 15), .int x2] S r S :=
  met_of (own := RX1) (by decide) rfl rfl (Nat.le_of_ble_eq_true rfl) (fun _ _ s _ _ _ _ ls C0 _ hP hl => w1_bringsOf hI C0 S q0 x2 hq0 hf s.heap [] ls hP va_S.rf hl)
theorem hd_X3_worthTo : yX3_worthTo.cls ≠ "java/lang/invoke/MethodHandle" ∧ yX3_worthTo.cls ≠ "java/lang/invoke/VarHandle" ∧ (parseMethodDescriptor yX3_worthTo.desc).map (fun d => d.parameters.length) = some 2 := by decide +kernel
abbrev rm3_worthTo : Room := { frames := 1, cells := 0, slots := 0, locals := 32 }
set_option maxHeartbeats 4000000 in
set_option maxRecDepth 100000 in
theorem w3_worthTo {p : Program} {l : Launch} {e : Env} {s : State} {m : MethodId} {args : Array Value} {below : List Frame} {meth : Method} {c : Code} {D : va_G} {K : Nat → ClassId} {ad : Nat → Nat} {tL : Nat} (hI : INJ NC ad) (C0 : Cx p s m args meth c RX3 wsX3_worthTo cX3_worthTo 2 (some .int) (KC D K tL (IW NC ad))) (S : Mem) {r : Int32} : ∀ (x0 : Int32) (x1 : Int32), f3_worthTo x0 x1 = some r → ∀ (H : Heap) (locs : List Loc) (ls : Array Slot), va_P D vwCl (wl NC ad (EC K ad S)) H → va_S (IW NC ad) s.heap H locs → lv_has ls 2 [(0, .int x0), (1, .int x1)] → W p l e rm3_worthTo s m args below meth c H locs 0 0 (MQ below (va_Qi (fun (x : Int32) (u : Mem) => x = r ∧ u = S) (fun u t => va_P D vwCl (wl NC ad (EC K ad u)) t.heap) (IW NC ad)) args s 0 0 (IW NC ad)) (F0 m 0 ls []) := by
  have hx := C0.1
  have hb := C0.2.1
  have hts := C0.2.2.2.2.1
  have hown := C0.2.2.2.1
  have hKC := C0.2.2.2.2.2.2.2
  intro x0 x1 hf H locs ls hP hS hl
  rw [f3_worthTo] at hf
  refine lv_iload_n hx hb dX3_worthTo_0 rfl (lv_at hl 0 rfl) ?_
  by_cases c1 : x0 = 1
  · have hf := ite_t hf c1
    refine lv_tableIn (off := 35) (tgt := 36) hx hb dX3_worthTo_1 (by rw [c1]; decide) (by rw [c1]; decide) (by rw [c1]; rfl) (by decide) ?_
    refine lv_iload_n hx hb dX3_worthTo_36 rfl (lv_at hl 1 rfl) ?_
    refine lv_iconst (v := 3) hx hb dX3_worthTo_37 (by decide) ?_
    refine lv_iadd hx hb dX3_worthTo_38 ?_
    exact ret_i C0 hP hS (Option.some.inj hf) rfl dX3_worthTo_39
  · have hf := ite_f hf c1
    by_cases c2 : x0 = 2
    · have hf := ite_t hf c2
      refine lv_tableIn (off := 39) (tgt := 40) hx hb dX3_worthTo_1 (by rw [c2]; decide) (by rw [c2]; decide) (by rw [c2]; rfl) (by decide) ?_
      refine lv_iconst (v := 2) hx hb dX3_worthTo_40 (by decide) ?_
      refine lv_iload_n hx hb dX3_worthTo_41 rfl (lv_at hl 1 rfl) ?_
      refine lv_imul hx hb dX3_worthTo_42 ?_
      exact ret_i C0 hP hS (Option.some.inj hf) rfl dX3_worthTo_43
    · have hf := ite_f hf c2
      by_cases c3 : x0 = 3
      · have hf := ite_t hf c3
        refine lv_tableIn (off := 43) (tgt := 44) hx hb dX3_worthTo_1 (by rw [c3]; decide) (by rw [c3]; decide) (by rw [c3]; rfl) (by decide) ?_
        refine lv_iload_n hx hb dX3_worthTo_44 rfl (lv_at hl 1 rfl) ?_
        refine lv_bipush (v := 20) hx hb dX3_worthTo_45 (by decide) ?_
        refine lv_icmp_le (tgt := 54) hx hb dX3_worthTo_47 (by decide) (fun c4 => ?_) (fun c4 => ?_)
        · have hf := ite_t hf c4
          refine lv_iload_n hx hb dX3_worthTo_54 rfl (lv_at hl 1 rfl) ?_
          exact ret_i C0 hP hS (Option.some.inj hf) rfl dX3_worthTo_55
        · have hf := ite_f hf c4
          refine lv_iconst (v := 0) hx hb dX3_worthTo_50 (by decide) ?_
          refine lv_goto (tgt := 55) hx hb dX3_worthTo_51 (by decide) ?_
          exact ret_i C0 hP hS (Option.some.inj hf) rfl dX3_worthTo_55
      · have hf := ite_f hf c3
        by_cases c5 : x0 = 4
        · have hf := ite_t hf c5
          refine lv_tableIn (off := 55) (tgt := 56) hx hb dX3_worthTo_1 (by rw [c5]; decide) (by rw [c5]; decide) (by rw [c5]; rfl) (by decide) ?_
          refine lv_iconst (v := 2) hx hb dX3_worthTo_56 (by decide) ?_
          refine lv_iload_n hx hb dX3_worthTo_57 rfl (lv_at hl 1 rfl) ?_
          refine lv_iconst (v := 3) hx hb dX3_worthTo_58 (by decide) ?_
          refine lv_iadd hx hb dX3_worthTo_59 ?_
          refine lv_imul hx hb dX3_worthTo_60 ?_
          exact ret_i C0 hP hS (Option.some.inj hf) rfl dX3_worthTo_61
        · have hf := ite_f hf c5
          by_cases c6 : x0 = 5
          · have hf := ite_t hf c6
            refine lv_tableIn (off := 61) (tgt := 62) hx hb dX3_worthTo_1 (by rw [c6]; decide) (by rw [c6]; decide) (by rw [c6]; rfl) (by decide) ?_
            refine lv_iconst (v := 0) hx hb dX3_worthTo_62 (by decide) ?_
            refine lv_iconst (v := 2) hx hb dX3_worthTo_63 (by decide) ?_
            refine lv_iload_n hx hb dX3_worthTo_64 rfl (lv_at hl 1 rfl) ?_
            refine lv_imul hx hb dX3_worthTo_65 ?_
            refine lv_iconst (v := 5) hx hb dX3_worthTo_66 (by decide) ?_
            refine lv_isub hx hb dX3_worthTo_67 ?_
            refine va_mmax hx hb (C0.2.2.1.trans hl.1.symm) hown (hts _ (List.mem_of_getElem? (i := 1) rfl)) (hts _ (List.mem_of_getElem? (i := 2) rfl)) (hts _ (List.mem_of_getElem? (i := 3) rfl)) (hts _ (List.mem_of_getElem? (i := 4) rfl)) (Nat.le_of_ble_eq_true rfl) (Nat.le_of_ble_eq_true rfl) (Nat.le_refl _) (Nat.le_refl _) dX3_worthTo_68 ?_
            exact ret_i C0 hP hS (Option.some.inj hf) rfl dX3_worthTo_71
          · have hf := ite_f hf c6
            refine lv_tableOut (tgt := 72) hx hb dX3_worthTo_1 (by have h0 := lv_neT (a := 1) c1 rfl; have h1 := lv_neT (a := 2) c2 rfl; have h2 := lv_neT (a := 3) c3 rfl; have h3 := lv_neT (a := 4) c5 rfl; have h4 := lv_neT (a := 5) c6 rfl; omega) (by decide) ?_
            refine lv_iload_n hx hb dX3_worthTo_72 rfl (lv_at hl 1 rfl) ?_
            exact ret_i C0 hP hS (Option.some.inj hf) rfl dX3_worthTo_73
theorem m3_worthTo (l : Launch) (D : va_G) (K : Nat → ClassId) (ad : Nat → Nat) (tL : Nat) (hI : INJ NC ad) (S : Mem) (x0 : Int32) (x1 : Int32) {r : Int32} (hf : f3_worthTo x0 x1 = some r) : SysI l yX3_worthTo wsX3_worthTo rm3_worthTo D NC ad (EC K ad) (KC D K tL (IW NC ad)) [.int x0, .int x1] S r S :=
  met_of (own := RX3) (by decide) rfl rfl (Nat.le_of_ble_eq_true rfl) (fun _ _ s _ _ _ _ ls C0 _ hP hl => w3_worthTo hI C0 S x0 x1 hf s.heap [] ls hP va_S.rf hl)
theorem in_X0_comesOff_X0 : ∀ w ∈ wsX00, w ∈ wsX0_comesOff := fun _ h => List.mem_cons_of_mem _ (List.mem_append_right _ h)
theorem hd_X0_comesOff : yX0_comesOff.cls = RX0 ∧ yX0_comesOff.cls ≠ "java/lang/invoke/MethodHandle" ∧ yX0_comesOff.cls ≠ "java/lang/invoke/VarHandle" ∧ (parseMethodDescriptor yX0_comesOff.desc).map (fun d => d.parameters.length) = some 2 := by decide +kernel
abbrev rm0_comesOff : Room := { frames := 2, cells := 0, slots := 0, locals := 53 }
set_option maxHeartbeats 4000000 in
set_option maxRecDepth 100000 in
theorem w0_comesOff {p : Program} {l : Launch} {e : Env} {s : State} {m : MethodId} {args : Array Value} {below : List Frame} {meth : Method} {c : Code} {D : va_G} {K : Nat → ClassId} {ad : Nat → Nat} {tL : Nat} (hI : INJ NC ad) (C0 : Cx p s m args meth c RX0 wsX0_comesOff cX0_comesOff 3 (some .boolean) (KC D K tL (IW NC ad))) (S : Mem) {r : Int32} : ∀ (x1 : Int32) (x2 : Int32), f0_comesOff S x1 x2 = some r → ∀ (H : Heap) (locs : List Loc) (ls : Array Slot), va_P D vwCl (wl NC ad (EC K ad S)) H → va_S (IW NC ad) s.heap H locs → lv_has ls 3 [(0, .ref (ad 15)), (1, .int x1), (2, .int x2)] → W p l e rm0_comesOff s m args below meth c H locs 0 0 (MQ below (va_Qi (fun (x : Int32) (u : Mem) => x = r ∧ u = S) (fun u t => va_P D vwCl (wl NC ad (EC K ad u)) t.heap) (IW NC ad)) args s 0 0 (IW NC ad)) (F0 m 0 ls []) := by
  have hx := C0.1
  have hb := C0.2.1
  have hts := C0.2.2.2.2.1
  have hown := C0.2.2.2.1
  have hKC := C0.2.2.2.2.2.2.2
  intro x1 x2 hf H locs ls hP hS hl
  rw [f0_comesOff] at hf
  refine lv_aload_n hx hb dX0_comesOff_0 rfl (lv_at hl 0 rfl) ?_
  refine x_get C0 hKC.1 hP (by decide) (EC_H K ad S) rfl in_X0_comesOff_X0 0 (by decide) (List.mem_of_getElem? (i := 1) rfl) rfl dX0_comesOff_1 ?_
  refine lv_iload_n hx hb dX0_comesOff_4 rfl (lv_at hl 1 rfl) ?_
  obtain ⟨g1, hf⟩ := gd_some hf
  refine x_iald C0 hKC.1 hP (IC_16 K ad) (t0 := 0) rfl g1 dX0_comesOff_5 ?_
  refine lv_iload_n hx hb dX0_comesOff_6 rfl (lv_at hl 2 rfl) ?_
  obtain ⟨v3, h2, hf⟩ := b1_some hf
  refine sys_i hS (sys_runN (As := [.int (gi S 16 (ix x1)), .int x2]) (rest := []) C0 KC_ok hP hS (m3_worthTo l D K ad tL hI S (gi S 16 (ix x1)) x2 h2) hKC.2.1.2.1 gX0_comesOff_X3_worthTo_n21 (List.mem_of_getElem? (i := 3) rfl) (List.mem_of_getElem? (i := 4) rfl) rfl ⟨rfl, rfl⟩ hd_X3_worthTo ⟨Nat.le_of_ble_eq_true rfl, Nat.le_of_ble_eq_true rfl⟩ hl.1 rfl (Nat.le_of_ble_eq_true rfl) dX0_comesOff_7 ⟨Nat.le_refl _, Nat.le_refl _⟩) (fun H locs hP hS => ?_)
  refine lv_iconst (v := 5) hx hb dX0_comesOff_10 (by decide) ?_
  refine lv_aload_n hx hb dX0_comesOff_11 rfl (lv_at hl 0 rfl) ?_
  refine x_get C0 hKC.1 hP (by decide) (EC_H K ad S) rfl in_X0_comesOff_X0 2 (by decide) (List.mem_of_getElem? (i := 2) rfl) rfl dX0_comesOff_12 ?_
  refine lv_iload_n hx hb dX0_comesOff_15 rfl (lv_at hl 1 rfl) ?_
  obtain ⟨g4, hf⟩ := gd_some hf
  refine x_iald C0 hKC.1 hP (IC_18 K ad) (t0 := 0) rfl g4 dX0_comesOff_16 ?_
  refine lv_imul hx hb dX0_comesOff_17 ?_
  refine lv_icmp_lt (tgt := 25) hx hb dX0_comesOff_18 (by decide) (fun c5 => ?_) (fun c5 => ?_)
  · have hf := ite_t hf c5
    refine lv_iconst (v := 0) hx hb dX0_comesOff_25 (by decide) ?_
    exact ret_z C0 hP hS (Or.inl rfl) (Option.some.inj hf) rfl dX0_comesOff_26
  · have hf := ite_f hf c5
    refine lv_iconst (v := 1) hx hb dX0_comesOff_21 (by decide) ?_
    refine lv_goto (tgt := 26) hx hb dX0_comesOff_22 (by decide) ?_
    exact ret_z C0 hP hS (Or.inr rfl) (Option.some.inj hf) rfl dX0_comesOff_26
theorem m0_comesOff (l : Launch) (D : va_G) (K : Nat → ClassId) (ad : Nat → Nat) (tL : Nat) (hI : INJ NC ad) (S : Mem) (x1 : Int32) (x2 : Int32) {r : Int32} (hf : f0_comesOff S x1 x2 = some r) : SysI l yX0_comesOff wsX0_comesOff rm0_comesOff D NC ad (EC K ad) (KC D K tL (IW NC ad)) [.ref (ad 15), .int x1, .int x2] S r S :=
  met_of (own := RX0) (by decide) rfl rfl (Nat.le_of_ble_eq_true rfl) (fun _ _ s _ _ _ _ ls C0 _ hP hl => w0_comesOff hI C0 S x1 x2 hf s.heap [] ls hP va_S.rf hl)
theorem in_X3_ofHouse_X3 : ∀ w ∈ wsX30, w ∈ wsX3_ofHouse := fun _ h => List.mem_cons_of_mem _ (List.mem_append_left _ (List.mem_append_left _ (List.mem_append_left _ (List.mem_append_right _ h))))
theorem in_X3_ofHouse_X0 : ∀ w ∈ wsX00, w ∈ wsX3_ofHouse := fun _ h => List.mem_cons_of_mem _ (List.mem_append_left _ (List.mem_append_left _ (List.mem_append_right _ h)))
theorem in_X3_ofHouse_X1 : ∀ w ∈ wsX10, w ∈ wsX3_ofHouse := fun _ h => List.mem_cons_of_mem _ (List.mem_append_left _ (List.mem_append_right _ h))
theorem in_X3_ofHouse_X2 : ∀ w ∈ wsX20, w ∈ wsX3_ofHouse := fun _ h => List.mem_cons_of_mem _ (List.mem_append_right _ h)
theorem hd_X3_ofHouse : yX3_ofHouse.cls = RX3 ∧ yX3_ofHouse.cls ≠ "java/lang/invoke/MethodHandle" ∧ yX3_ofHouse.cls ≠ "java/lang/invoke/VarHandle" ∧ (parseMethodDescriptor yX3_ofHouse.desc).map (fun d => d.parameters.length) = some 2 := by decide +kernel
abbrev rm3_ofHouse : Room := { frames := 3, cells := 0, slots := 0, locals := 76 }
set_option maxHeartbeats 4000000 in
set_option maxRecDepth 100000 in
theorem w3_ofHouse {p : Program} {l : Launch} {e : Env} {s : State} {m : MethodId} {args : Array Value} {below : List Frame} {meth : Method} {c : Code} {D : va_G} {K : Nat → ClassId} {ad : Nat → Nat} {tL : Nat} (hI : INJ NC ad) (C0 : Cx p s m args meth c RX3 wsX3_ofHouse cX3_ofHouse 4 (some .int) (KC D K tL (IW NC ad))) (S : Mem) {r : Int32} : ∀ (x1 : Int32) (x2 : Int32), f3_ofHouse S x1 x2 = some r → ∀ (H : Heap) (locs : List Loc) (ls : Array Slot), va_P D vwCl (wl NC ad (EC K ad S)) H → va_S (IW NC ad) s.heap H locs → lv_has ls 4 [(0, .ref (ad 0)), (1, .int x1), (2, .int x2)] → W p l e rm3_ofHouse s m args below meth c H locs 0 0 (MQ below (va_Qi (fun (x : Int32) (u : Mem) => x = r ∧ u = S) (fun u t => va_P D vwCl (wl NC ad (EC K ad u)) t.heap) (IW NC ad)) args s 0 0 (IW NC ad)) (F0 m 0 ls []) := by
  have hx := C0.1
  have hb := C0.2.1
  have hts := C0.2.2.2.2.1
  have hown := C0.2.2.2.1
  have hKC := C0.2.2.2.2.2.2.2
  intro x1 x2 hf H locs ls hP hS hl
  rw [f3_ofHouse] at hf
  refine lv_aload_n hx hb dX3_ofHouse_0 rfl (lv_at hl 0 rfl) ?_
  refine x_get C0 hKC.1 hP (by decide) (EC_0 K ad S) rfl in_X3_ofHouse_X3 5 (by decide) (List.mem_of_getElem? (i := 1) rfl) rfl dX3_ofHouse_1 ?_
  obtain ⟨q2, h1, hf⟩ := b1_some hf
  obtain ⟨g3, hf⟩ := gd_some hf
  refine sys_r hS (sys_runV (As := []) (rest := []) C0 KC_ok hKC.1 hP hS (ltS (by decide : 0 < 4)) (EC_S K ad S (by decide : 0 < 4)) rfl (m2_now l D K ad tL hI S 0 (by decide : 0 < 4) h1) gX3_ofHouse_X2_now rfl ⟨rfl, rfl⟩ hd_X2_now ⟨Nat.le_of_ble_eq_true rfl, Nat.le_of_ble_eq_true rfl⟩ hl.1 rfl (Nat.le_of_ble_eq_true rfl) dX3_ofHouse_4 ⟨Nat.le_refl _, Nat.le_refl _⟩) (fun H locs hP hS => ?_)
  refine lv_astore_n (lv' := [(3, .ref (ad (30 + q2))), (0, .ref (ad 0)), (1, .int x1), (2, .int x2)]) hx hb dX3_ofHouse_7 rfl hl (by decide) rfl (fun ls hl => ?_)
  refine lv_iload_n hx hb dX3_ofHouse_8 rfl (lv_at hl 3 rfl) ?_
  by_cases c4 : x2 = 0
  · have hf := ite_t hf c4
    refine lv_tableIn (off := 39) (tgt := 48) hx hb dX3_ofHouse_9 (by rw [c4]; decide) (by rw [c4]; decide) (by rw [c4]; rfl) (by decide) ?_
    refine lv_aload_n hx hb dX3_ofHouse_48 rfl (lv_at hl 1 rfl) ?_
    refine x_get C0 hKC.1 hP (by decide) (EC_0 K ad S) rfl in_X3_ofHouse_X3 4 (by decide) (List.mem_of_getElem? (i := 2) rfl) rfl dX3_ofHouse_49 ?_
    refine x_get C0 hKC.1 hP (by decide) (EC_H K ad S) rfl in_X3_ofHouse_X0 0 (by decide) (List.mem_of_getElem? (i := 3) rfl) rfl dX3_ofHouse_52 ?_
    refine lv_iload_n hx hb dX3_ofHouse_55 rfl (lv_at hl 2 rfl) ?_
    obtain ⟨g5, hf⟩ := gd_some hf
    refine x_iald C0 hKC.1 hP (IC_16 K ad) (t0 := 0) rfl g5 dX3_ofHouse_56 ?_
    exact ret_i C0 hP hS (Option.some.inj hf) rfl dX3_ofHouse_57
  · have hf := ite_f hf c4
    by_cases c6 : x2 = 1
    · have hf := ite_t hf c6
      refine lv_tableIn (off := 49) (tgt := 58) hx hb dX3_ofHouse_9 (by rw [c6]; decide) (by rw [c6]; decide) (by rw [c6]; rfl) (by decide) ?_
      refine lv_aload_n hx hb dX3_ofHouse_58 rfl (lv_at hl 1 rfl) ?_
      refine x_get C0 hKC.1 hP (by decide) (EC_0 K ad S) rfl in_X3_ofHouse_X3 4 (by decide) (List.mem_of_getElem? (i := 2) rfl) rfl dX3_ofHouse_59 ?_
      refine x_get C0 hKC.1 hP (by decide) (EC_H K ad S) rfl in_X3_ofHouse_X0 1 (by decide) (List.mem_of_getElem? (i := 4) rfl) rfl dX3_ofHouse_62 ?_
      refine lv_iload_n hx hb dX3_ofHouse_65 rfl (lv_at hl 2 rfl) ?_
      obtain ⟨g7, hf⟩ := gd_some hf
      refine x_iald C0 hKC.1 hP (IC_17 K ad) (t0 := 0) rfl g7 dX3_ofHouse_66 ?_
      exact ret_i C0 hP hS (Option.some.inj hf) rfl dX3_ofHouse_67
    · have hf := ite_f hf c6
      by_cases c8 : x2 = 2
      · have hf := ite_t hf c8
        refine lv_tableIn (off := 59) (tgt := 68) hx hb dX3_ofHouse_9 (by rw [c8]; decide) (by rw [c8]; decide) (by rw [c8]; rfl) (by decide) ?_
        refine lv_aload_n hx hb dX3_ofHouse_68 rfl (lv_at hl 1 rfl) ?_
        refine x_get C0 hKC.1 hP (by decide) (EC_0 K ad S) rfl in_X3_ofHouse_X3 4 (by decide) (List.mem_of_getElem? (i := 2) rfl) rfl dX3_ofHouse_69 ?_
        refine x_get C0 hKC.1 hP (by decide) (EC_H K ad S) rfl in_X3_ofHouse_X0 2 (by decide) (List.mem_of_getElem? (i := 5) rfl) rfl dX3_ofHouse_72 ?_
        refine lv_iload_n hx hb dX3_ofHouse_75 rfl (lv_at hl 2 rfl) ?_
        obtain ⟨g9, hf⟩ := gd_some hf
        refine x_iald C0 hKC.1 hP (IC_18 K ad) (t0 := 0) rfl g9 dX3_ofHouse_76 ?_
        exact ret_i C0 hP hS (Option.some.inj hf) rfl dX3_ofHouse_77
      · have hf := ite_f hf c8
        by_cases c10 : x2 = 3
        · have hf := ite_t hf c10
          refine lv_tableIn (off := 69) (tgt := 78) hx hb dX3_ofHouse_9 (by rw [c10]; decide) (by rw [c10]; decide) (by rw [c10]; rfl) (by decide) ?_
          refine lv_aload_n hx hb dX3_ofHouse_78 rfl (lv_at hl 0 rfl) ?_
          refine x_get C0 hKC.1 hP (ltM (of_decide_eq_true g3)) (EC_M K ad S (of_decide_eq_true g3)) rfl in_X3_ofHouse_X1 0 (by decide) (List.mem_of_getElem? (i := 6) rfl) rfl dX3_ofHouse_79 ?_
          refine lv_iload_n hx hb dX3_ofHouse_82 rfl (lv_at hl 2 rfl) ?_
          obtain ⟨g11, hf⟩ := gd_some hf
          refine x_iald C0 hKC.1 hP (IC_jar K ad (of_decide_eq_true g3)) (t0 := 0) rfl g11 dX3_ofHouse_83 ?_
          exact ret_i C0 hP hS (Option.some.inj hf) rfl dX3_ofHouse_84
        · have hf := ite_f hf c10
          by_cases c12 : x2 = 4
          · have hf := ite_t hf c12
            refine lv_tableIn (off := 76) (tgt := 85) hx hb dX3_ofHouse_9 (by rw [c12]; decide) (by rw [c12]; decide) (by rw [c12]; rfl) (by decide) ?_
            refine lv_aload_n hx hb dX3_ofHouse_85 rfl (lv_at hl 0 rfl) ?_
            refine lv_aload_n hx hb dX3_ofHouse_86 rfl (lv_at hl 1 rfl) ?_
            refine x_get C0 hKC.1 hP (by decide) (EC_0 K ad S) rfl in_X3_ofHouse_X3 4 (by decide) (List.mem_of_getElem? (i := 2) rfl) rfl dX3_ofHouse_87 ?_
            refine lv_iload_n hx hb dX3_ofHouse_90 rfl (lv_at hl 2 rfl) ?_
            obtain ⟨v14, h13, hf⟩ := b1_some hf
            refine sys_i hS (sys_runV (As := [.ref (ad 15), .int x1]) (rest := []) C0 KC_ok hKC.1 hP hS (ltM (of_decide_eq_true g3)) (EC_M K ad S (of_decide_eq_true g3)) rfl (m1_bringsOf l D K ad tL hI S q2 x1 (of_decide_eq_true g3) h13) gX3_ofHouse_X1_bringsOf rfl ⟨rfl, rfl⟩ hd_X1_bringsOf ⟨Nat.le_of_ble_eq_true rfl, Nat.le_of_ble_eq_true rfl⟩ hl.1 rfl (Nat.le_of_ble_eq_true rfl) dX3_ofHouse_91 ⟨Nat.le_refl _, Nat.le_refl _⟩) (fun H locs hP hS => ?_)
            exact ret_i C0 hP hS (Option.some.inj hf) rfl dX3_ofHouse_94
          · have hf := ite_f hf c12
            by_cases c15 : x2 = 5
            · have hf := ite_t hf c15
              refine lv_tableIn (off := 86) (tgt := 95) hx hb dX3_ofHouse_9 (by rw [c15]; decide) (by rw [c15]; decide) (by rw [c15]; rfl) (by decide) ?_
              refine lv_aload_n hx hb dX3_ofHouse_95 rfl (lv_at hl 1 rfl) ?_
              refine x_get C0 hKC.1 hP (by decide) (EC_0 K ad S) rfl in_X3_ofHouse_X3 4 (by decide) (List.mem_of_getElem? (i := 2) rfl) rfl dX3_ofHouse_96 ?_
              refine x_get C0 hKC.1 hP (by decide) (EC_H K ad S) rfl in_X3_ofHouse_X0 0 (by decide) (List.mem_of_getElem? (i := 3) rfl) rfl dX3_ofHouse_99 ?_
              refine lv_iload_n hx hb dX3_ofHouse_102 rfl (lv_at hl 2 rfl) ?_
              obtain ⟨g16, hf⟩ := gd_some hf
              refine x_iald C0 hKC.1 hP (IC_16 K ad) (t0 := 0) rfl g16 dX3_ofHouse_103 ?_
              refine lv_aload_n hx hb dX3_ofHouse_104 rfl (lv_at hl 0 rfl) ?_
              refine x_get C0 hKC.1 hP (ltM (of_decide_eq_true g3)) (EC_M K ad S (of_decide_eq_true g3)) rfl in_X3_ofHouse_X1 0 (by decide) (List.mem_of_getElem? (i := 6) rfl) rfl dX3_ofHouse_105 ?_
              refine lv_iload_n hx hb dX3_ofHouse_108 rfl (lv_at hl 2 rfl) ?_
              obtain ⟨g17, hf⟩ := gd_some hf
              refine x_iald C0 hKC.1 hP (IC_jar K ad (of_decide_eq_true g3)) (t0 := 0) rfl g17 dX3_ofHouse_109 ?_
              obtain ⟨v19, h18, hf⟩ := b1_some hf
              refine sys_i hS (sys_runS (As := [.int (gi S 16 (ix x1)), .int (gi S (195 + q2) (ix x1))]) (rest := []) C0 KC_ok hP hS (m3_worthTo l D K ad tL hI S (gi S 16 (ix x1)) (gi S (195 + q2) (ix x1)) h18) gX3_ofHouse_X3_worthTo rfl ⟨rfl, rfl⟩ hd_X3_worthTo ⟨Nat.le_of_ble_eq_true rfl, Nat.le_of_ble_eq_true rfl⟩ hl.1 rfl (Nat.le_of_ble_eq_true rfl) dX3_ofHouse_110 ⟨Nat.le_refl _, Nat.le_refl _⟩) (fun H locs hP hS => ?_)
              exact ret_i C0 hP hS (Option.some.inj hf) rfl dX3_ofHouse_113
            · have hf := ite_f hf c15
              refine lv_tableOut (tgt := 114) hx hb dX3_ofHouse_9 (by have h0 := lv_neT (a := 0) c4 rfl; have h1 := lv_neT (a := 1) c6 rfl; have h2 := lv_neT (a := 2) c8 rfl; have h3 := lv_neT (a := 3) c10 rfl; have h4 := lv_neT (a := 4) c12 rfl; have h5 := lv_neT (a := 5) c15 rfl; omega) (by decide) ?_
              refine lv_aload_n hx hb dX3_ofHouse_114 rfl (lv_at hl 1 rfl) ?_
              refine x_get C0 hKC.1 hP (by decide) (EC_0 K ad S) rfl in_X3_ofHouse_X3 4 (by decide) (List.mem_of_getElem? (i := 2) rfl) rfl dX3_ofHouse_115 ?_
              refine lv_iload_n hx hb dX3_ofHouse_118 rfl (lv_at hl 2 rfl) ?_
              refine lv_aload_n hx hb dX3_ofHouse_119 rfl (lv_at hl 0 rfl) ?_
              refine x_get C0 hKC.1 hP (ltM (of_decide_eq_true g3)) (EC_M K ad S (of_decide_eq_true g3)) rfl in_X3_ofHouse_X1 0 (by decide) (List.mem_of_getElem? (i := 6) rfl) rfl dX3_ofHouse_120 ?_
              refine lv_iload_n hx hb dX3_ofHouse_123 rfl (lv_at hl 2 rfl) ?_
              obtain ⟨g20, hf⟩ := gd_some hf
              refine x_iald C0 hKC.1 hP (IC_jar K ad (of_decide_eq_true g3)) (t0 := 0) rfl g20 dX3_ofHouse_124 ?_
              obtain ⟨v22, h21, hf⟩ := b1_some hf
              refine sys_i hS (sys_runV (As := [.int x1, .int (gi S (195 + q2) (ix x1))]) (rest := []) C0 KC_ok hKC.1 hP hS (by decide) (EC_H K ad S) rfl (m0_comesOff l D K ad tL hI S x1 (gi S (195 + q2) (ix x1)) h21) gX3_ofHouse_X0_comesOff rfl ⟨rfl, rfl⟩ hd_X0_comesOff ⟨Nat.le_of_ble_eq_true rfl, Nat.le_of_ble_eq_true rfl⟩ hl.1 rfl (Nat.le_of_ble_eq_true rfl) dX3_ofHouse_125 ⟨Nat.le_refl _, Nat.le_refl _⟩) (fun H locs hP hS => ?_)
              refine lv_if_eq (tgt := 135) hx hb dX3_ofHouse_128 (by decide) (fun c23 => ?_) (fun c23 => ?_)
              · have hf := ite_t hf c23
                refine lv_iconst (v := 0) hx hb dX3_ofHouse_135 (by decide) ?_
                exact ret_i C0 hP hS (Option.some.inj hf) rfl dX3_ofHouse_136
              · have hf := ite_f hf c23
                refine lv_iconst (v := 1) hx hb dX3_ofHouse_131 (by decide) ?_
                refine lv_goto (tgt := 136) hx hb dX3_ofHouse_132 (by decide) ?_
                exact ret_i C0 hP hS (Option.some.inj hf) rfl dX3_ofHouse_136
theorem m3_ofHouse (l : Launch) (D : va_G) (K : Nat → ClassId) (ad : Nat → Nat) (tL : Nat) (hI : INJ NC ad) (S : Mem) (x1 : Int32) (x2 : Int32) {r : Int32} (hf : f3_ofHouse S x1 x2 = some r) : SysI l yX3_ofHouse wsX3_ofHouse rm3_ofHouse D NC ad (EC K ad) (KC D K tL (IW NC ad)) [.ref (ad 0), .int x1, .int x2] S r S :=
  met_of (own := RX3) (by decide) rfl rfl (Nat.le_of_ble_eq_true rfl) (fun _ _ s _ _ _ _ ls C0 _ hP hl => w3_ofHouse hI C0 S x1 x2 hf s.heap [] ls hP va_S.rf hl)
theorem in_X3_house_X3 : ∀ w ∈ wsX30, w ∈ wsX3_house := fun _ h => List.mem_cons_of_mem _ (List.mem_append_left _ (List.mem_append_left _ (List.mem_append_left _ (List.mem_append_right _ h))))
theorem in_X3_house_X0 : ∀ w ∈ wsX00, w ∈ wsX3_house := fun _ h => List.mem_cons_of_mem _ (List.mem_append_left _ (List.mem_append_left _ (List.mem_append_right _ h)))
theorem in_X3_house_X1 : ∀ w ∈ wsX10, w ∈ wsX3_house := fun _ h => List.mem_cons_of_mem _ (List.mem_append_left _ (List.mem_append_right _ h))
theorem in_X3_house_X2 : ∀ w ∈ wsX20, w ∈ wsX3_house := fun _ h => List.mem_cons_of_mem _ (List.mem_append_right _ h)
theorem hd_X3_house : yX3_house.cls = RX3 ∧ yX3_house.cls ≠ "java/lang/invoke/MethodHandle" ∧ yX3_house.cls ≠ "java/lang/invoke/VarHandle" ∧ (parseMethodDescriptor yX3_house.desc).map (fun d => d.parameters.length) = some 2 := by decide +kernel
abbrev rm3_house : Room := { frames := 4, cells := 0, slots := 0, locals := 99 }
set_option maxHeartbeats 4000000 in
set_option maxRecDepth 100000 in
theorem w3_house {p : Program} {l : Launch} {e : Env} {s : State} {m : MethodId} {args : Array Value} {below : List Frame} {meth : Method} {c : Code} {D : va_G} {K : Nat → ClassId} {ad : Nat → Nat} {tL : Nat} (hI : INJ NC ad) (C0 : Cx p s m args meth c RX3 wsX3_house cX3_house 3 (some .int) (KC D K tL (IW NC ad))) {r : Int32} {T : Mem} : ∀ (S : Mem) (x1 : Int32) (x2 : Int32), f3_house S x1 x2 = some (r, T) → ∀ (H : Heap) (locs : List Loc) (ls : Array Slot), va_P D vwCl (wl NC ad (EC K ad S)) H → va_S (IW NC ad) s.heap H locs → lv_has ls 3 [(0, .ref (ad 0)), (1, .int x1), (2, .int x2)] → W p l e rm3_house s m args below meth c H locs 0 0 (MQ below (va_Qi (fun (x : Int32) (u : Mem) => x = r ∧ u = T) (fun u t => va_P D vwCl (wl NC ad (EC K ad u)) t.heap) (IW NC ad)) args s 0 0 (IW NC ad)) (F0 m 0 ls []) := by
  have hx := C0.1
  have hb := C0.2.1
  have hts := C0.2.2.2.2.1
  have hown := C0.2.2.2.1
  have hKC := C0.2.2.2.2.2.2.2
  intro S x1 x2 hf H locs ls hP hS hl
  rw [f3_house] at hf
  refine lv_aload_n hx hb dX3_house_0 rfl (lv_at hl 0 rfl) ?_
  refine lv_iload_n hx hb dX3_house_1 rfl (lv_at hl 1 rfl) ?_
  obtain ⟨v2, h1, hf⟩ := b1_some hf
  refine sys_i hS (sys_runV (As := [.int x1]) (rest := []) C0 KC_ok hKC.1 hP hS (by decide) (EC_0 K ad S) rfl (m3_isHouse l D K ad tL hI S x1 h1) gX3_house_X3_isHouse rfl ⟨rfl, rfl⟩ hd_X3_isHouse ⟨Nat.le_of_ble_eq_true rfl, Nat.le_of_ble_eq_true rfl⟩ hl.1 rfl (Nat.le_of_ble_eq_true rfl) dX3_house_2 ⟨Nat.le_refl _, Nat.le_refl _⟩) (fun H locs hP hS => ?_)
  refine lv_if_eq (tgt := 18) hx hb dX3_house_5 (by decide) (fun c3 => ?_) (fun c3 => ?_)
  · have hf := ite_t hf c3
    refine lv_iconst (v := (-1)) hx hb dX3_house_18 (by decide) ?_
    exact ret_i C0 hP hS (congrArg Prod.fst (Option.some.inj hf)) (congrArg Prod.snd (Option.some.inj hf)) dX3_house_19
  · have hf := ite_f hf c3
    refine lv_iload_n hx hb dX3_house_8 rfl (lv_at hl 2 rfl) ?_
    refine lv_if_lt (tgt := 18) hx hb dX3_house_9 (by decide) (fun c4 => ?_) (fun c4 => ?_)
    · have hf := ite_t hf c4
      refine lv_iconst (v := (-1)) hx hb dX3_house_18 (by decide) ?_
      exact ret_i C0 hP hS (congrArg Prod.fst (Option.some.inj hf)) (congrArg Prod.snd (Option.some.inj hf)) dX3_house_19
    · have hf := ite_f hf c4
      refine lv_iload_n hx hb dX3_house_12 rfl (lv_at hl 2 rfl) ?_
      refine lv_bipush (v := 7) hx hb dX3_house_13 (by decide) ?_
      refine lv_icmp_lt (tgt := 20) hx hb dX3_house_15 (by decide) (fun c5 => ?_) (fun c5 => ?_)
      · have hf := ite_t hf c5
        refine lv_aload_n hx hb dX3_house_20 rfl (lv_at hl 0 rfl) ?_
        refine lv_aload_n hx hb dX3_house_21 rfl (lv_at hl 0 rfl) ?_
        refine lv_iload_n hx hb dX3_house_22 rfl (lv_at hl 1 rfl) ?_
        refine lv_iload_n hx hb dX3_house_23 rfl (lv_at hl 2 rfl) ?_
        obtain ⟨v7, h6, hf⟩ := b1_some hf
        refine sys_i hS (sys_runV (As := [.int x1, .int x2]) (rest := [.ref (ad 0)]) C0 KC_ok hKC.1 hP hS (by decide) (EC_0 K ad S) rfl (m3_ofHouse l D K ad tL hI S x1 x2 h6) gX3_house_X3_ofHouse rfl ⟨rfl, rfl⟩ hd_X3_ofHouse ⟨Nat.le_of_ble_eq_true rfl, Nat.le_of_ble_eq_true rfl⟩ hl.1 rfl (Nat.le_of_ble_eq_true rfl) dX3_house_24 ⟨Nat.le_refl _, Nat.le_refl _⟩) (fun H locs hP hS => ?_)
        refine x_puti C0 hKC.1 hI (EC_loc K ad) hP hS (by decide) (EC_0 K ad S) rfl tyX3 tyX3_ok nmX3 in_X3_house_X3 9 (by decide) (List.mem_of_getElem? (i := 1) rfl) rfl (tyX3_ok 9 (by decide)) (Nat.le_of_ble_eq_true rfl) (EC_p9 K ad S _) dX3_house_27 (fun S8 eS8 H locs hP hS => ?_)
        have hf := nm_at eS8 hf
        refine lv_iconst (v := 1) hx hb dX3_house_30 (by decide) ?_
        exact ret_i C0 hP hS (congrArg Prod.fst (Option.some.inj hf)) (congrArg Prod.snd (Option.some.inj hf)) dX3_house_31
      · have hf := ite_f hf c5
        refine lv_iconst (v := (-1)) hx hb dX3_house_18 (by decide) ?_
        exact ret_i C0 hP hS (congrArg Prod.fst (Option.some.inj hf)) (congrArg Prod.snd (Option.some.inj hf)) dX3_house_19
theorem m3_house (l : Launch) (D : va_G) (K : Nat → ClassId) (ad : Nat → Nat) (tL : Nat) (hI : INJ NC ad) (S : Mem) (x1 : Int32) (x2 : Int32) {r : Int32} {T : Mem} (hf : f3_house S x1 x2 = some (r, T)) : SysI l yX3_house wsX3_house rm3_house D NC ad (EC K ad) (KC D K tL (IW NC ad)) [.ref (ad 0), .int x1, .int x2] S r T :=
  met_of (own := RX3) (by decide) rfl rfl (Nat.le_of_ble_eq_true rfl) (fun _ _ s _ _ _ _ ls C0 _ hP hl => w3_house hI C0 S x1 x2 hf s.heap [] ls hP va_S.rf hl)
theorem hd_X3_isA : yX3_isA.cls ≠ "java/lang/invoke/MethodHandle" ∧ yX3_isA.cls ≠ "java/lang/invoke/VarHandle" ∧ (parseMethodDescriptor yX3_isA.desc).map (fun d => d.parameters.length) = some 2 := by decide +kernel
abbrev rm3_isA : Room := { frames := 0, cells := 0, slots := 0, locals := 0 }
set_option maxHeartbeats 4000000 in
set_option maxRecDepth 100000 in
theorem w3_isA_b15 {p : Program} {l : Launch} {e : Env} {s : State} {m : MethodId} {args : Array Value} {below : List Frame} {meth : Method} {c : Code} {D : va_G} {K : Nat → ClassId} {ad : Nat → Nat} {tL : Nat} (hI : INJ NC ad) (C0 : Cx p s m args meth c RX3 wsX3_isA cX3_isA 2 (some .boolean) (KC D K tL (IW NC ad))) (S : Mem) {r : Int32} : ∀ (x0 : Int32) (x1 : Int32), f3_isA_b15 x0 x1 = some r → ∀ (H : Heap) (locs : List Loc) (ls : Array Slot), va_P D vwCl (wl NC ad (EC K ad S)) H → va_S (IW NC ad) s.heap H locs → lv_has ls 2 [(0, .int x0), (1, .int x1)] → W p l e rm3_isA s m args below meth c H locs 0 0 (MQ below (va_Qi (fun (x : Int32) (u : Mem) => x = r ∧ u = S) (fun u t => va_P D vwCl (wl NC ad (EC K ad u)) t.heap) (IW NC ad)) args s 0 0 (IW NC ad)) (F0 m 15 ls []) := by
  have hx := C0.1
  have hb := C0.2.1
  have hts := C0.2.2.2.2.1
  have hown := C0.2.2.2.1
  have hKC := C0.2.2.2.2.2.2.2
  intro x0 x1 hf H locs ls hP hS hl
  rw [f3_isA_b15] at hf
  refine lv_iload_n hx hb dX3_isA_15 rfl (lv_at hl 0 rfl) ?_
  refine lv_iconst (v := 5) hx hb dX3_isA_16 (by decide) ?_
  refine lv_icmp_ne (tgt := 29) hx hb dX3_isA_17 (by decide) (fun c1 => ?_) (fun c1 => ?_)
  · have hf := ite_f hf c1
    refine lv_iconst (v := 0) hx hb dX3_isA_29 (by decide) ?_
    exact ret_z C0 hP hS (Or.inl rfl) (Option.some.inj hf) rfl dX3_isA_30
  · have hf := ite_t hf c1
    refine lv_iload_n hx hb dX3_isA_20 rfl (lv_at hl 1 rfl) ?_
    refine lv_iconst (v := 2) hx hb dX3_isA_21 (by decide) ?_
    refine lv_icmp_ne (tgt := 29) hx hb dX3_isA_22 (by decide) (fun c2 => ?_) (fun c2 => ?_)
    · have hf := ite_f hf c2
      refine lv_iconst (v := 0) hx hb dX3_isA_29 (by decide) ?_
      exact ret_z C0 hP hS (Or.inl rfl) (Option.some.inj hf) rfl dX3_isA_30
    · have hf := ite_t hf c2
      refine lv_iconst (v := 1) hx hb dX3_isA_25 (by decide) ?_
      refine lv_goto (tgt := 30) hx hb dX3_isA_26 (by decide) ?_
      exact ret_z C0 hP hS (Or.inr rfl) (Option.some.inj hf) rfl dX3_isA_30
set_option maxHeartbeats 4000000 in
set_option maxRecDepth 100000 in
theorem w3_isA {p : Program} {l : Launch} {e : Env} {s : State} {m : MethodId} {args : Array Value} {below : List Frame} {meth : Method} {c : Code} {D : va_G} {K : Nat → ClassId} {ad : Nat → Nat} {tL : Nat} (hI : INJ NC ad) (C0 : Cx p s m args meth c RX3 wsX3_isA cX3_isA 2 (some .boolean) (KC D K tL (IW NC ad))) (S : Mem) {r : Int32} : ∀ (x0 : Int32) (x1 : Int32), f3_isA x0 x1 = some r → ∀ (H : Heap) (locs : List Loc) (ls : Array Slot), va_P D vwCl (wl NC ad (EC K ad S)) H → va_S (IW NC ad) s.heap H locs → lv_has ls 2 [(0, .int x0), (1, .int x1)] → W p l e rm3_isA s m args below meth c H locs 0 0 (MQ below (va_Qi (fun (x : Int32) (u : Mem) => x = r ∧ u = S) (fun u t => va_P D vwCl (wl NC ad (EC K ad u)) t.heap) (IW NC ad)) args s 0 0 (IW NC ad)) (F0 m 0 ls []) := by
  have hx := C0.1
  have hb := C0.2.1
  have hts := C0.2.2.2.2.1
  have hown := C0.2.2.2.1
  have hKC := C0.2.2.2.2.2.2.2
  intro x0 x1 hf H locs ls hP hS hl
  rw [f3_isA] at hf
  refine lv_iload_n hx hb dX3_isA_0 rfl (lv_at hl 0 rfl) ?_
  refine lv_iload_n hx hb dX3_isA_1 rfl (lv_at hl 1 rfl) ?_
  refine lv_icmp_eq (tgt := 25) hx hb dX3_isA_2 (by decide) (fun c1 => ?_) (fun c1 => ?_)
  · have hf := ite_t hf c1
    refine lv_iconst (v := 1) hx hb dX3_isA_25 (by decide) ?_
    refine lv_goto (tgt := 30) hx hb dX3_isA_26 (by decide) ?_
    exact ret_z C0 hP hS (Or.inr rfl) (Option.some.inj hf) rfl dX3_isA_30
  · have hf := ite_f hf c1
    refine lv_iload_n hx hb dX3_isA_5 rfl (lv_at hl 0 rfl) ?_
    refine lv_iconst (v := 4) hx hb dX3_isA_6 (by decide) ?_
    refine lv_icmp_ne (tgt := 15) hx hb dX3_isA_7 (by decide) (fun c2 => ?_) (fun c2 => ?_)
    · have hf := ite_f hf c2
      exact w3_isA_b15 hI C0 S x0 x1 hf H locs ls hP hS (lv_sub hl [0, 1] rfl)
    · have hf := ite_t hf c2
      refine lv_iload_n hx hb dX3_isA_10 rfl (lv_at hl 1 rfl) ?_
      refine lv_iconst (v := 1) hx hb dX3_isA_11 (by decide) ?_
      refine lv_icmp_eq (tgt := 25) hx hb dX3_isA_12 (by decide) (fun c3 => ?_) (fun c3 => ?_)
      · have hf := ite_t hf c3
        refine lv_iconst (v := 1) hx hb dX3_isA_25 (by decide) ?_
        refine lv_goto (tgt := 30) hx hb dX3_isA_26 (by decide) ?_
        exact ret_z C0 hP hS (Or.inr rfl) (Option.some.inj hf) rfl dX3_isA_30
      · have hf := ite_f hf c3
        exact w3_isA_b15 hI C0 S x0 x1 hf H locs ls hP hS (lv_sub hl [0, 1] rfl)
theorem m3_isA (l : Launch) (D : va_G) (K : Nat → ClassId) (ad : Nat → Nat) (tL : Nat) (hI : INJ NC ad) (S : Mem) (x0 : Int32) (x1 : Int32) {r : Int32} (hf : f3_isA x0 x1 = some r) : SysI l yX3_isA wsX3_isA rm3_isA D NC ad (EC K ad) (KC D K tL (IW NC ad)) [.int x0, .int x1] S r S :=
  met_of (own := RX3) (by decide) rfl rfl (Nat.le_of_ble_eq_true rfl) (fun _ _ s _ _ _ _ ls C0 _ hP hl => w3_isA hI C0 S x0 x1 hf s.heap [] ls hP va_S.rf hl)
theorem hd_X3_markOf : yX3_markOf.cls ≠ "java/lang/invoke/MethodHandle" ∧ yX3_markOf.cls ≠ "java/lang/invoke/VarHandle" ∧ (parseMethodDescriptor yX3_markOf.desc).map (fun d => d.parameters.length) = some 3 := by decide +kernel
abbrev rm3_markOf : Room := { frames := 2, cells := 0, slots := 0, locals := 54 }
set_option maxHeartbeats 4000000 in
set_option maxRecDepth 100000 in
theorem w3_markOf {p : Program} {l : Launch} {e : Env} {s : State} {m : MethodId} {args : Array Value} {below : List Frame} {meth : Method} {c : Code} {D : va_G} {K : Nat → ClassId} {ad : Nat → Nat} {tL : Nat} (hI : INJ NC ad) (C0 : Cx p s m args meth c RX3 wsX3_markOf cX3_markOf 4 (some .int) (KC D K tL (IW NC ad))) (S : Mem) {r : Int32} : ∀ (x0 : Int32) (x1 : Int32) (x2 : Int32), f3_markOf x0 x1 x2 = some r → ∀ (H : Heap) (locs : List Loc) (ls : Array Slot), va_P D vwCl (wl NC ad (EC K ad S)) H → va_S (IW NC ad) s.heap H locs → lv_has ls 4 [(0, .int x0), (1, .int x1), (2, .int x2)] → W p l e rm3_markOf s m args below meth c H locs 0 0 (MQ below (va_Qi (fun (x : Int32) (u : Mem) => x = r ∧ u = S) (fun u t => va_P D vwCl (wl NC ad (EC K ad u)) t.heap) (IW NC ad)) args s 0 0 (IW NC ad)) (F0 m 0 ls []) := by
  have hx := C0.1
  have hb := C0.2.1
  have hts := C0.2.2.2.2.1
  have hown := C0.2.2.2.1
  have hKC := C0.2.2.2.2.2.2.2
  intro x0 x1 x2 hf H locs ls hP hS hl
  rw [f3_markOf] at hf
  refine lv_iload_n hx hb dX3_markOf_0 rfl (lv_at hl 0 rfl) ?_
  refine lv_iload_n hx hb dX3_markOf_1 rfl (lv_at hl 2 rfl) ?_
  obtain ⟨v2, h1, hf⟩ := b1_some hf
  refine sys_i hS (sys_runS (As := [.int x0, .int x2]) (rest := []) C0 KC_ok hP hS (m3_worthTo l D K ad tL hI S x0 x2 h1) gX3_markOf_X3_worthTo rfl ⟨rfl, rfl⟩ hd_X3_worthTo ⟨Nat.le_of_ble_eq_true rfl, Nat.le_of_ble_eq_true rfl⟩ hl.1 rfl (Nat.le_of_ble_eq_true rfl) dX3_markOf_2 ⟨Nat.le_refl _, Nat.le_refl _⟩) (fun H locs hP hS => ?_)
  refine lv_istore_n (lv' := [(3, .int v2), (0, .int x0), (1, .int x1), (2, .int x2)]) hx hb dX3_markOf_5 rfl hl (by decide) rfl (fun ls hl => ?_)
  refine lv_iload_n hx hb dX3_markOf_6 rfl (lv_at hl 2 rfl) ?_
  by_cases c3 : x1 = 1
  · have hf := ite_t hf c3
    refine lv_tableIn (off := 29) (tgt := 36) hx hb dX3_markOf_7 (by rw [c3]; decide) (by rw [c3]; decide) (by rw [c3]; rfl) (by decide) ?_
    refine lv_iload_n hx hb dX3_markOf_36 rfl (lv_at hl 0 rfl) ?_
    refine lv_iconst (v := 0) hx hb dX3_markOf_37 (by decide) ?_
    refine lv_iload_n hx hb dX3_markOf_38 rfl (lv_at hl 3 rfl) ?_
    obtain ⟨v5, h4, hf⟩ := b1_some hf
    refine sys_i hS (sys_runS (As := [.int 0, .int x2]) (rest := [.int v2]) C0 KC_ok hP hS (m3_worthTo l D K ad tL hI S 0 x2 h4) gX3_markOf_X3_worthTo rfl ⟨rfl, rfl⟩ hd_X3_worthTo ⟨Nat.le_of_ble_eq_true rfl, Nat.le_of_ble_eq_true rfl⟩ hl.1 rfl (Nat.le_of_ble_eq_true rfl) dX3_markOf_39 ⟨Nat.le_refl _, Nat.le_refl _⟩) (fun H locs hP hS => ?_)
    refine lv_isub hx hb dX3_markOf_42 ?_
    exact ret_i C0 hP hS (Option.some.inj hf) rfl dX3_markOf_43
  · have hf := ite_f hf c3
    by_cases c6 : x1 = 2
    · have hf := ite_t hf c6
      refine lv_tableIn (off := 37) (tgt := 44) hx hb dX3_markOf_7 (by rw [c6]; decide) (by rw [c6]; decide) (by rw [c6]; rfl) (by decide) ?_
      refine lv_bipush (v := 100) hx hb dX3_markOf_44 (by decide) ?_
      refine lv_iload_n hx hb dX3_markOf_46 rfl (lv_at hl 0 rfl) ?_
      refine lv_iadd hx hb dX3_markOf_47 ?_
      refine lv_iconst (v := 0) hx hb dX3_markOf_48 (by decide) ?_
      refine lv_iload_n hx hb dX3_markOf_49 rfl (lv_at hl 3 rfl) ?_
      obtain ⟨v8, h7, hf⟩ := b1_some hf
      refine sys_i hS (sys_runS (As := [.int 0, .int x2]) (rest := [.int (100 + v2)]) C0 KC_ok hP hS (m3_worthTo l D K ad tL hI S 0 x2 h7) gX3_markOf_X3_worthTo rfl ⟨rfl, rfl⟩ hd_X3_worthTo ⟨Nat.le_of_ble_eq_true rfl, Nat.le_of_ble_eq_true rfl⟩ hl.1 rfl (Nat.le_of_ble_eq_true rfl) dX3_markOf_50 ⟨Nat.le_refl _, Nat.le_refl _⟩) (fun H locs hP hS => ?_)
      refine lv_isub hx hb dX3_markOf_53 ?_
      exact ret_i C0 hP hS (Option.some.inj hf) rfl dX3_markOf_54
    · have hf := ite_f hf c6
      by_cases c9 : x1 = 3
      · have hf := ite_t hf c9
        refine lv_tableIn (off := 48) (tgt := 55) hx hb dX3_markOf_7 (by rw [c9]; decide) (by rw [c9]; decide) (by rw [c9]; rfl) (by decide) ?_
        refine lv_iload_n hx hb dX3_markOf_55 rfl (lv_at hl 3 rfl) ?_
        refine lv_iconst (v := 3) hx hb dX3_markOf_56 (by decide) ?_
        refine lv_iload_n hx hb dX3_markOf_57 rfl (lv_at hl 3 rfl) ?_
        refine lv_iconst (v := 0) hx hb dX3_markOf_58 (by decide) ?_
        obtain ⟨v11, h10, hf⟩ := b1_some hf
        refine sys_i hS (sys_runS (As := [.int 3, .int x2, .int 0]) (rest := [.int x2]) C0 KC_ok hP hS (m3_broughtBy l D K ad tL hI S 3 x2 0 h10) gX3_markOf_X3_broughtBy rfl ⟨rfl, rfl⟩ hd_X3_broughtBy ⟨Nat.le_of_ble_eq_true rfl, Nat.le_of_ble_eq_true rfl⟩ hl.1 rfl (Nat.le_of_ble_eq_true rfl) dX3_markOf_59 ⟨Nat.le_refl _, Nat.le_refl _⟩) (fun H locs hP hS => ?_)
        refine lv_isub hx hb dX3_markOf_62 ?_
        exact ret_i C0 hP hS (Option.some.inj hf) rfl dX3_markOf_63
      · have hf := ite_f hf c9
        by_cases c12 : x1 = 4
        · have hf := ite_t hf c12
          refine lv_tableIn (off := 57) (tgt := 64) hx hb dX3_markOf_7 (by rw [c12]; decide) (by rw [c12]; decide) (by rw [c12]; rfl) (by decide) ?_
          refine lv_iload_n hx hb dX3_markOf_64 rfl (lv_at hl 0 rfl) ?_
          refine lv_iconst (v := 1) hx hb dX3_markOf_65 (by decide) ?_
          refine lv_iload_n hx hb dX3_markOf_66 rfl (lv_at hl 3 rfl) ?_
          obtain ⟨v14, h13, hf⟩ := b1_some hf
          refine sys_i hS (sys_runS (As := [.int 1, .int x2]) (rest := [.int v2]) C0 KC_ok hP hS (m3_worthTo l D K ad tL hI S 1 x2 h13) gX3_markOf_X3_worthTo rfl ⟨rfl, rfl⟩ hd_X3_worthTo ⟨Nat.le_of_ble_eq_true rfl, Nat.le_of_ble_eq_true rfl⟩ hl.1 rfl (Nat.le_of_ble_eq_true rfl) dX3_markOf_67 ⟨Nat.le_refl _, Nat.le_refl _⟩) (fun H locs hP hS => ?_)
          refine lv_isub hx hb dX3_markOf_70 ?_
          exact ret_i C0 hP hS (Option.some.inj hf) rfl dX3_markOf_71
        · have hf := ite_f hf c12
          refine lv_tableOut (tgt := 72) hx hb dX3_markOf_7 (by have h0 := lv_neT (a := 1) c3 rfl; have h1 := lv_neT (a := 2) c6 rfl; have h2 := lv_neT (a := 3) c9 rfl; have h3 := lv_neT (a := 4) c12 rfl; omega) (by decide) ?_
          refine lv_iconst (v := 2) hx hb dX3_markOf_72 (by decide) ?_
          refine lv_iload_n hx hb dX3_markOf_73 rfl (lv_at hl 3 rfl) ?_
          obtain ⟨v16, h15, hf⟩ := b1_some hf
          refine sys_i hS (sys_runS (As := [.int 2, .int x2]) (rest := []) C0 KC_ok hP hS (m3_worthTo l D K ad tL hI S 2 x2 h15) gX3_markOf_X3_worthTo rfl ⟨rfl, rfl⟩ hd_X3_worthTo ⟨Nat.le_of_ble_eq_true rfl, Nat.le_of_ble_eq_true rfl⟩ hl.1 rfl (Nat.le_of_ble_eq_true rfl) dX3_markOf_74 ⟨Nat.le_refl _, Nat.le_refl _⟩) (fun H locs hP hS => ?_)
          refine lv_iload_n hx hb dX3_markOf_77 rfl (lv_at hl 0 rfl) ?_
          refine lv_isub hx hb dX3_markOf_78 ?_
          exact ret_i C0 hP hS (Option.some.inj hf) rfl dX3_markOf_79
theorem m3_markOf (l : Launch) (D : va_G) (K : Nat → ClassId) (ad : Nat → Nat) (tL : Nat) (hI : INJ NC ad) (S : Mem) (x0 : Int32) (x1 : Int32) (x2 : Int32) {r : Int32} (hf : f3_markOf x0 x1 x2 = some r) : SysI l yX3_markOf wsX3_markOf rm3_markOf D NC ad (EC K ad) (KC D K tL (IW NC ad)) [.int x0, .int x1, .int x2] S r S :=
  met_of (own := RX3) (by decide) rfl rfl (Nat.le_of_ble_eq_true rfl) (fun _ _ s _ _ _ _ ls C0 _ hP hl => w3_markOf hI C0 S x0 x1 x2 hf s.heap [] ls hP va_S.rf hl)
theorem in_X3_mark_X3 : ∀ w ∈ wsX30, w ∈ wsX3_mark := fun _ h => List.mem_cons_of_mem _ (List.mem_append_left _ (List.mem_append_left _ (List.mem_append_left _ (List.mem_append_right _ h))))
theorem in_X3_mark_X0 : ∀ w ∈ wsX00, w ∈ wsX3_mark := fun _ h => List.mem_cons_of_mem _ (List.mem_append_left _ (List.mem_append_left _ (List.mem_append_right _ h)))
theorem in_X3_mark_X1 : ∀ w ∈ wsX10, w ∈ wsX3_mark := fun _ h => List.mem_cons_of_mem _ (List.mem_append_left _ (List.mem_append_right _ h))
theorem in_X3_mark_X2 : ∀ w ∈ wsX20, w ∈ wsX3_mark := fun _ h => List.mem_cons_of_mem _ (List.mem_append_right _ h)
theorem hd_X3_mark : yX3_mark.cls = RX3 ∧ yX3_mark.cls ≠ "java/lang/invoke/MethodHandle" ∧ yX3_mark.cls ≠ "java/lang/invoke/VarHandle" ∧ (parseMethodDescriptor yX3_mark.desc).map (fun d => d.parameters.length) = some 2 := by decide +kernel
abbrev rm3_mark : Room := { frames := 3, cells := 0, slots := 0, locals := 77 }
set_option maxHeartbeats 4000000 in
set_option maxRecDepth 100000 in
theorem w3_mark {p : Program} {l : Launch} {e : Env} {s : State} {m : MethodId} {args : Array Value} {below : List Frame} {meth : Method} {c : Code} {D : va_G} {K : Nat → ClassId} {ad : Nat → Nat} {tL : Nat} (hI : INJ NC ad) (C0 : Cx p s m args meth c RX3 wsX3_mark cX3_mark 4 (some .int) (KC D K tL (IW NC ad))) {r : Int32} {T : Mem} : ∀ (S : Mem) (x1 : Int32) (x2 : Int32), f3_mark S x1 x2 = some (r, T) → ∀ (H : Heap) (locs : List Loc) (ls : Array Slot), va_P D vwCl (wl NC ad (EC K ad S)) H → va_S (IW NC ad) s.heap H locs → lv_has ls 4 [(0, .ref (ad 0)), (1, .int x1), (2, .int x2)] → W p l e rm3_mark s m args below meth c H locs 0 0 (MQ below (va_Qi (fun (x : Int32) (u : Mem) => x = r ∧ u = T) (fun u t => va_P D vwCl (wl NC ad (EC K ad u)) t.heap) (IW NC ad)) args s 0 0 (IW NC ad)) (F0 m 0 ls []) := by
  have hx := C0.1
  have hb := C0.2.1
  have hts := C0.2.2.2.2.1
  have hown := C0.2.2.2.1
  have hKC := C0.2.2.2.2.2.2.2
  intro S x1 x2 hf H locs ls hP hS hl
  rw [f3_mark] at hf
  refine lv_aload_n hx hb dX3_mark_0 rfl (lv_at hl 0 rfl) ?_
  refine lv_iload_n hx hb dX3_mark_1 rfl (lv_at hl 1 rfl) ?_
  obtain ⟨v2, h1, hf⟩ := b1_some hf
  refine sys_i hS (sys_runV (As := [.int x1]) (rest := []) C0 KC_ok hKC.1 hP hS (by decide) (EC_0 K ad S) rfl (m3_isHouse l D K ad tL hI S x1 h1) gX3_mark_X3_isHouse rfl ⟨rfl, rfl⟩ hd_X3_isHouse ⟨Nat.le_of_ble_eq_true rfl, Nat.le_of_ble_eq_true rfl⟩ hl.1 rfl (Nat.le_of_ble_eq_true rfl) dX3_mark_2 ⟨Nat.le_refl _, Nat.le_refl _⟩) (fun H locs hP hS => ?_)
  refine lv_if_eq (tgt := 18) hx hb dX3_mark_5 (by decide) (fun c3 => ?_) (fun c3 => ?_)
  · have hf := ite_t hf c3
    refine lv_iconst (v := (-1)) hx hb dX3_mark_18 (by decide) ?_
    exact ret_i C0 hP hS (congrArg Prod.fst (Option.some.inj hf)) (congrArg Prod.snd (Option.some.inj hf)) dX3_mark_19
  · have hf := ite_f hf c3
    refine lv_iload_n hx hb dX3_mark_8 rfl (lv_at hl 2 rfl) ?_
    refine lv_if_le (tgt := 18) hx hb dX3_mark_9 (by decide) (fun c4 => ?_) (fun c4 => ?_)
    · have hf := ite_t hf c4
      refine lv_iconst (v := (-1)) hx hb dX3_mark_18 (by decide) ?_
      exact ret_i C0 hP hS (congrArg Prod.fst (Option.some.inj hf)) (congrArg Prod.snd (Option.some.inj hf)) dX3_mark_19
    · have hf := ite_f hf c4
      refine lv_iload_n hx hb dX3_mark_12 rfl (lv_at hl 2 rfl) ?_
      refine lv_bipush (v := 6) hx hb dX3_mark_13 (by decide) ?_
      refine lv_icmp_lt (tgt := 20) hx hb dX3_mark_15 (by decide) (fun c5 => ?_) (fun c5 => ?_)
      · have hf := ite_t hf c5
        refine lv_aload_n hx hb dX3_mark_20 rfl (lv_at hl 0 rfl) ?_
        refine x_get C0 hKC.1 hP (by decide) (EC_0 K ad S) rfl in_X3_mark_X3 4 (by decide) (List.mem_of_getElem? (i := 1) rfl) rfl dX3_mark_21 ?_
        refine x_get C0 hKC.1 hP (by decide) (EC_H K ad S) rfl in_X3_mark_X0 0 (by decide) (List.mem_of_getElem? (i := 2) rfl) rfl dX3_mark_24 ?_
        refine lv_iload_n hx hb dX3_mark_27 rfl (lv_at hl 1 rfl) ?_
        obtain ⟨g6, hf⟩ := gd_some hf
        refine x_iald C0 hKC.1 hP (IC_16 K ad) (t0 := 0) rfl g6 dX3_mark_28 ?_
        refine lv_topi (fun v7 ev7 => ?_)
        have hf := nm_at ev7 hf
        refine lv_istore_n (lv' := [(3, .int v7), (0, .ref (ad 0)), (1, .int x1), (2, .int x2)]) hx hb dX3_mark_29 rfl hl (by decide) rfl (fun ls hl => ?_)
        refine lv_iload_n hx hb dX3_mark_30 rfl (lv_at hl 0 rfl) ?_
        refine lv_iload_n hx hb dX3_mark_31 rfl (lv_at hl 3 rfl) ?_
        obtain ⟨v9, h8, hf⟩ := b1_some hf
        refine sys_i hS (sys_runS (As := [.int v7, .int x2]) (rest := []) C0 KC_ok hP hS (m3_isA l D K ad tL hI S v7 x2 h8) gX3_mark_X3_isA rfl ⟨rfl, rfl⟩ hd_X3_isA ⟨Nat.le_of_ble_eq_true rfl, Nat.le_of_ble_eq_true rfl⟩ hl.1 rfl (Nat.le_of_ble_eq_true rfl) dX3_mark_32 ⟨Nat.le_refl _, Nat.le_refl _⟩) (fun H locs hP hS => ?_)
        refine lv_if_ne (tgt := 44) hx hb dX3_mark_35 (by decide) (fun c10 => ?_) (fun c10 => ?_)
        · have hf := ite_f hf c10
          refine lv_iload_n hx hb dX3_mark_44 rfl (lv_at hl 0 rfl) ?_
          refine lv_iload_n hx hb dX3_mark_45 rfl (lv_at hl 3 rfl) ?_
          refine lv_aload_n hx hb dX3_mark_46 rfl (lv_at hl 1 rfl) ?_
          refine x_get C0 hKC.1 hP (by decide) (EC_0 K ad S) rfl in_X3_mark_X3 5 (by decide) (List.mem_of_getElem? (i := 3) rfl) rfl dX3_mark_47 ?_
          obtain ⟨q12, h11, hf⟩ := b1_some hf
          obtain ⟨g13, hf⟩ := gd_some hf
          refine sys_r hS (sys_runV (As := []) (rest := [.int x2, .int v7]) C0 KC_ok hKC.1 hP hS (ltS (by decide : 0 < 4)) (EC_S K ad S (by decide : 0 < 4)) rfl (m2_now l D K ad tL hI S 0 (by decide : 0 < 4) h11) gX3_mark_X2_now rfl ⟨rfl, rfl⟩ hd_X2_now ⟨Nat.le_of_ble_eq_true rfl, Nat.le_of_ble_eq_true rfl⟩ hl.1 rfl (Nat.le_of_ble_eq_true rfl) dX3_mark_50 ⟨Nat.le_refl _, Nat.le_refl _⟩) (fun H locs hP hS => ?_)
          refine x_get C0 hKC.1 hP (ltM (of_decide_eq_true g13)) (EC_M K ad S (of_decide_eq_true g13)) rfl in_X3_mark_X1 0 (by decide) (List.mem_of_getElem? (i := 4) rfl) rfl dX3_mark_53 ?_
          refine lv_iload_n hx hb dX3_mark_56 rfl (lv_at hl 2 rfl) ?_
          obtain ⟨g14, hf⟩ := gd_some hf
          refine x_iald C0 hKC.1 hP (IC_jar K ad (of_decide_eq_true g13)) (t0 := 0) rfl g14 dX3_mark_57 ?_
          obtain ⟨v16, h15, hf⟩ := b1_some hf
          refine sys_i hS (sys_runS (As := [.int v7, .int x2, .int (gi S (195 + q12) (ix x1))]) (rest := []) C0 KC_ok hP hS (m3_markOf l D K ad tL hI S v7 x2 (gi S (195 + q12) (ix x1)) h15) gX3_mark_X3_markOf rfl ⟨rfl, rfl⟩ hd_X3_markOf ⟨Nat.le_of_ble_eq_true rfl, Nat.le_of_ble_eq_true rfl⟩ hl.1 rfl (Nat.le_of_ble_eq_true rfl) dX3_mark_58 ⟨Nat.le_refl _, Nat.le_refl _⟩) (fun H locs hP hS => ?_)
          exact ret_i C0 hP hS (congrArg Prod.fst (Option.some.inj hf)) (congrArg Prod.snd (Option.some.inj hf)) dX3_mark_61
        · have hf := ite_t hf c10
          refine lv_aload_n hx hb dX3_mark_38 rfl (lv_at hl 1 rfl) ?_
          refine lv_iconst (v := 3) hx hb dX3_mark_39 (by decide) ?_
          obtain ⟨v18, S19, h17, hf⟩ := b2_some hf
          refine sys_i hS (sys_runV (As := [.int 3]) (rest := []) C0 KC_ok hKC.1 hP hS (by decide) (EC_0 K ad S) rfl (m3_foundThat l D K ad tL hI S 3 h17) gX3_mark_X3_foundThat rfl ⟨rfl, rfl⟩ hd_X3_foundThat ⟨Nat.le_of_ble_eq_true rfl, Nat.le_of_ble_eq_true rfl⟩ hl.1 rfl (Nat.le_of_ble_eq_true rfl) dX3_mark_40 ⟨Nat.le_refl _, Nat.le_refl _⟩) (fun H locs hP hS => ?_)
          exact ret_i C0 hP hS (congrArg Prod.fst (Option.some.inj hf)) (congrArg Prod.snd (Option.some.inj hf)) dX3_mark_43
      · have hf := ite_f hf c5
        refine lv_iconst (v := (-1)) hx hb dX3_mark_18 (by decide) ?_
        exact ret_i C0 hP hS (congrArg Prod.fst (Option.some.inj hf)) (congrArg Prod.snd (Option.some.inj hf)) dX3_mark_19
theorem m3_mark (l : Launch) (D : va_G) (K : Nat → ClassId) (ad : Nat → Nat) (tL : Nat) (hI : INJ NC ad) (S : Mem) (x1 : Int32) (x2 : Int32) {r : Int32} {T : Mem} (hf : f3_mark S x1 x2 = some (r, T)) : SysI l yX3_mark wsX3_mark rm3_mark D NC ad (EC K ad) (KC D K tL (IW NC ad)) [.ref (ad 0), .int x1, .int x2] S r T :=
  met_of (own := RX3) (by decide) rfl rfl (Nat.le_of_ble_eq_true rfl) (fun _ _ s _ _ _ _ ls C0 _ hP hl => w3_mark hI C0 S x1 x2 hf s.heap [] ls hP va_S.rf hl)
theorem in_X3_worth_X3 : ∀ w ∈ wsX30, w ∈ wsX3_worth := fun _ h => List.mem_cons_of_mem _ (List.mem_append_left _ (List.mem_append_right _ h))
theorem in_X3_worth_X0 : ∀ w ∈ wsX00, w ∈ wsX3_worth := fun _ h => List.mem_cons_of_mem _ (List.mem_append_right _ h)
theorem hd_X3_worth : yX3_worth.cls = RX3 ∧ yX3_worth.cls ≠ "java/lang/invoke/MethodHandle" ∧ yX3_worth.cls ≠ "java/lang/invoke/VarHandle" ∧ (parseMethodDescriptor yX3_worth.desc).map (fun d => d.parameters.length) = some 2 := by decide +kernel
abbrev rm3_worth : Room := { frames := 2, cells := 0, slots := 0, locals := 53 }
set_option maxHeartbeats 4000000 in
set_option maxRecDepth 100000 in
theorem w3_worth {p : Program} {l : Launch} {e : Env} {s : State} {m : MethodId} {args : Array Value} {below : List Frame} {meth : Method} {c : Code} {D : va_G} {K : Nat → ClassId} {ad : Nat → Nat} {tL : Nat} (hI : INJ NC ad) (C0 : Cx p s m args meth c RX3 wsX3_worth cX3_worth 3 (some .int) (KC D K tL (IW NC ad))) (S : Mem) {r : Int32} : ∀ (x1 : Int32) (x2 : Int32), f3_worth S x1 x2 = some r → ∀ (H : Heap) (locs : List Loc) (ls : Array Slot), va_P D vwCl (wl NC ad (EC K ad S)) H → va_S (IW NC ad) s.heap H locs → lv_has ls 3 [(0, .ref (ad 0)), (1, .int x1), (2, .int x2)] → W p l e rm3_worth s m args below meth c H locs 0 0 (MQ below (va_Qi (fun (x : Int32) (u : Mem) => x = r ∧ u = S) (fun u t => va_P D vwCl (wl NC ad (EC K ad u)) t.heap) (IW NC ad)) args s 0 0 (IW NC ad)) (F0 m 0 ls []) := by
  have hx := C0.1
  have hb := C0.2.1
  have hts := C0.2.2.2.2.1
  have hown := C0.2.2.2.1
  have hKC := C0.2.2.2.2.2.2.2
  intro x1 x2 hf H locs ls hP hS hl
  rw [f3_worth] at hf
  refine lv_aload_n hx hb dX3_worth_0 rfl (lv_at hl 0 rfl) ?_
  refine lv_iload_n hx hb dX3_worth_1 rfl (lv_at hl 1 rfl) ?_
  obtain ⟨v2, h1, hf⟩ := b1_some hf
  refine sys_i hS (sys_runV (As := [.int x1]) (rest := []) C0 KC_ok hKC.1 hP hS (by decide) (EC_0 K ad S) rfl (m3_isHouse l D K ad tL hI S x1 h1) gX3_worth_X3_isHouse rfl ⟨rfl, rfl⟩ hd_X3_isHouse ⟨Nat.le_of_ble_eq_true rfl, Nat.le_of_ble_eq_true rfl⟩ hl.1 rfl (Nat.le_of_ble_eq_true rfl) dX3_worth_2 ⟨Nat.le_refl _, Nat.le_refl _⟩) (fun H locs hP hS => ?_)
  refine lv_if_eq (tgt := 18) hx hb dX3_worth_5 (by decide) (fun c3 => ?_) (fun c3 => ?_)
  · have hf := ite_t hf c3
    refine lv_iconst (v := (-1)) hx hb dX3_worth_18 (by decide) ?_
    exact ret_i C0 hP hS (Option.some.inj hf) rfl dX3_worth_19
  · have hf := ite_f hf c3
    refine lv_iload_n hx hb dX3_worth_8 rfl (lv_at hl 2 rfl) ?_
    refine lv_if_lt (tgt := 18) hx hb dX3_worth_9 (by decide) (fun c4 => ?_) (fun c4 => ?_)
    · have hf := ite_t hf c4
      refine lv_iconst (v := (-1)) hx hb dX3_worth_18 (by decide) ?_
      exact ret_i C0 hP hS (Option.some.inj hf) rfl dX3_worth_19
    · have hf := ite_f hf c4
      refine lv_iload_n hx hb dX3_worth_12 rfl (lv_at hl 2 rfl) ?_
      refine lv_bipush (v := 99) hx hb dX3_worth_13 (by decide) ?_
      refine lv_icmp_le (tgt := 20) hx hb dX3_worth_15 (by decide) (fun c5 => ?_) (fun c5 => ?_)
      · have hf := ite_t hf c5
        refine lv_aload_n hx hb dX3_worth_20 rfl (lv_at hl 0 rfl) ?_
        refine x_get C0 hKC.1 hP (by decide) (EC_0 K ad S) rfl in_X3_worth_X3 4 (by decide) (List.mem_of_getElem? (i := 1) rfl) rfl dX3_worth_21 ?_
        refine x_get C0 hKC.1 hP (by decide) (EC_H K ad S) rfl in_X3_worth_X0 0 (by decide) (List.mem_of_getElem? (i := 2) rfl) rfl dX3_worth_24 ?_
        refine lv_iload_n hx hb dX3_worth_27 rfl (lv_at hl 1 rfl) ?_
        obtain ⟨g6, hf⟩ := gd_some hf
        refine x_iald C0 hKC.1 hP (IC_16 K ad) (t0 := 0) rfl g6 dX3_worth_28 ?_
        refine lv_iload_n hx hb dX3_worth_29 rfl (lv_at hl 2 rfl) ?_
        obtain ⟨v8, h7, hf⟩ := b1_some hf
        refine sys_i hS (sys_runS (As := [.int (gi S 16 (ix x1)), .int x2]) (rest := []) C0 KC_ok hP hS (m3_worthTo l D K ad tL hI S (gi S 16 (ix x1)) x2 h7) gX3_worth_X3_worthTo rfl ⟨rfl, rfl⟩ hd_X3_worthTo ⟨Nat.le_of_ble_eq_true rfl, Nat.le_of_ble_eq_true rfl⟩ hl.1 rfl (Nat.le_of_ble_eq_true rfl) dX3_worth_30 ⟨Nat.le_refl _, Nat.le_refl _⟩) (fun H locs hP hS => ?_)
        exact ret_i C0 hP hS (Option.some.inj hf) rfl dX3_worth_33
      · have hf := ite_f hf c5
        refine lv_iconst (v := (-1)) hx hb dX3_worth_18 (by decide) ?_
        exact ret_i C0 hP hS (Option.some.inj hf) rfl dX3_worth_19
theorem m3_worth (l : Launch) (D : va_G) (K : Nat → ClassId) (ad : Nat → Nat) (tL : Nat) (hI : INJ NC ad) (S : Mem) (x1 : Int32) (x2 : Int32) {r : Int32} (hf : f3_worth S x1 x2 = some r) : SysI l yX3_worth wsX3_worth rm3_worth D NC ad (EC K ad) (KC D K tL (IW NC ad)) [.ref (ad 0), .int x1, .int x2] S r S :=
  met_of (own := RX3) (by decide) rfl rfl (Nat.le_of_ble_eq_true rfl) (fun _ _ s _ _ _ _ ls C0 _ hP hl => w3_worth hI C0 S x1 x2 hf s.heap [] ls hP va_S.rf hl)
