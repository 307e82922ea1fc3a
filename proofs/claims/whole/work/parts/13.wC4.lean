theorem in_X3_mid_X3 : ∀ w ∈ wsX30, w ∈ wsX3_mid := fun _ h => List.mem_cons_of_mem _ (List.mem_append_left _ (List.mem_append_left _ (List.mem_append_left _ (List.mem_append_right _ h))))
theorem in_X3_mid_X0 : ∀ w ∈ wsX00, w ∈ wsX3_mid := fun _ h => List.mem_cons_of_mem _ (List.mem_append_left _ (List.mem_append_left _ (List.mem_append_right _ h)))
theorem in_X3_mid_X1 : ∀ w ∈ wsX10, w ∈ wsX3_mid := fun _ h => List.mem_cons_of_mem _ (List.mem_append_left _ (List.mem_append_right _ h))
theorem in_X3_mid_X2 : ∀ w ∈ wsX20, w ∈ wsX3_mid := fun _ h => List.mem_cons_of_mem _ (List.mem_append_right _ h)
theorem hd_X3_mid : yX3_mid.cls = RX3 ∧ yX3_mid.cls ≠ "java/lang/invoke/MethodHandle" ∧ yX3_mid.cls ≠ "java/lang/invoke/VarHandle" ∧ (parseMethodDescriptor yX3_mid.desc).map (fun d => d.parameters.length) = some 1 := by decide +kernel
abbrev rm3_mid : Room := { frames := 3, cells := 0, slots := 0, locals := 75 }
set_option maxHeartbeats 4000000 in
set_option maxRecDepth 100000 in
theorem w3_mid_b97 {p : Program} {l : Launch} {e : Env} {s : State} {m : MethodId} {args : Array Value} {below : List Frame} {meth : Method} {c : Code} {D : va_G} {K : Nat → ClassId} {ad : Nat → Nat} {tL : Nat} (hI : INJ NC ad) (C0 : Cx p s m args meth c RX3 wsX3_mid cX3_mid 5 (some .int) (KC D K tL (IW NC ad))) {r : Int32} {T : Mem} (k26 : Mem → Int32 → Int32 → Int32 → Option (Int32 × Mem)) (hk26 : ∀ (S : Mem) (x1 : Int32) (x2 : Int32) (x3 : Int32), k26 S x1 x2 x3 = some (r, T) → ∀ (H : Heap) (locs : List Loc) (ls : Array Slot), va_P D vwCl (wl NC ad (EC K ad S)) H → va_S (IW NC ad) s.heap H locs → lv_has ls 5 [(0, .ref (ad 0)), (1, .int x1), (2, .int x2), (3, .int x3)] → W p l e rm3_mid s m args below meth c H locs 0 0 (MQ below (va_Qi (fun (x : Int32) (u : Mem) => x = r ∧ u = T) (fun u t => va_P D vwCl (wl NC ad (EC K ad u)) t.heap) (IW NC ad)) args s 0 0 (IW NC ad)) (F0 m 26 ls [])) : ∀ (S : Mem) (x1 : Int32) (x2 : Int32) (x3 : Int32), f3_mid_b97 k26 S x1 x2 x3 = some (r, T) → ∀ (H : Heap) (locs : List Loc) (ls : Array Slot), va_P D vwCl (wl NC ad (EC K ad S)) H → va_S (IW NC ad) s.heap H locs → lv_has ls 5 [(0, .ref (ad 0)), (1, .int x1), (2, .int x2), (3, .int x3)] → W p l e rm3_mid s m args below meth c H locs 0 0 (MQ below (va_Qi (fun (x : Int32) (u : Mem) => x = r ∧ u = T) (fun u t => va_P D vwCl (wl NC ad (EC K ad u)) t.heap) (IW NC ad)) args s 0 0 (IW NC ad)) (F0 m 97 ls []) := by
  have hx := C0.1
  have hb := C0.2.1
  have hts := C0.2.2.2.2.1
  have hown := C0.2.2.2.1
  have hKC := C0.2.2.2.2.2.2.2
  intro S x1 x2 x3 hf H locs ls hP hS hl
  rw [f3_mid_b97] at hf
  obtain ⟨v1, ev1⟩ : ∃ y : Int32, y = x3 + 1 := ⟨_, rfl⟩
  have hf := nm_at ev1 hf
  refine lv_iinc (v := v1) (lv' := [(3, .int v1), (0, .ref (ad 0)), (1, .int x1), (2, .int x2)]) hx hb dX3_mid_97 hl (k := 3) rfl (by rw [ev1]; rfl) (by decide) rfl (fun ls hl => ?_)
  refine lv_goto (tgt := 26) hx hb dX3_mid_100 (by decide) ?_
  exact hk26 S x1 x2 v1 hf H locs ls hP hS (lv_sub hl [1, 2, 3, 0] rfl)
set_option maxHeartbeats 4000000 in
set_option maxRecDepth 100000 in
theorem w3_mid_b68 {p : Program} {l : Launch} {e : Env} {s : State} {m : MethodId} {args : Array Value} {below : List Frame} {meth : Method} {c : Code} {D : va_G} {K : Nat → ClassId} {ad : Nat → Nat} {tL : Nat} (hI : INJ NC ad) (C0 : Cx p s m args meth c RX3 wsX3_mid cX3_mid 5 (some .int) (KC D K tL (IW NC ad))) {r : Int32} {T : Mem} (k26 : Mem → Int32 → Int32 → Int32 → Option (Int32 × Mem)) (hk26 : ∀ (S : Mem) (x1 : Int32) (x2 : Int32) (x3 : Int32), k26 S x1 x2 x3 = some (r, T) → ∀ (H : Heap) (locs : List Loc) (ls : Array Slot), va_P D vwCl (wl NC ad (EC K ad S)) H → va_S (IW NC ad) s.heap H locs → lv_has ls 5 [(0, .ref (ad 0)), (1, .int x1), (2, .int x2), (3, .int x3)] → W p l e rm3_mid s m args below meth c H locs 0 0 (MQ below (va_Qi (fun (x : Int32) (u : Mem) => x = r ∧ u = T) (fun u t => va_P D vwCl (wl NC ad (EC K ad u)) t.heap) (IW NC ad)) args s 0 0 (IW NC ad)) (F0 m 26 ls [])) : ∀ (S : Mem) (x1 : Int32) (x2 : Int32) (x3 : Int32) (x4 : Int32), f3_mid_b68 k26 S x1 x2 x3 x4 = some (r, T) → ∀ (H : Heap) (locs : List Loc) (ls : Array Slot), va_P D vwCl (wl NC ad (EC K ad S)) H → va_S (IW NC ad) s.heap H locs → lv_has ls 5 [(0, .ref (ad 0)), (1, .int x1), (2, .int x2), (3, .int x3), (4, .int x4)] → W p l e rm3_mid s m args below meth c H locs 0 0 (MQ below (va_Qi (fun (x : Int32) (u : Mem) => x = r ∧ u = T) (fun u t => va_P D vwCl (wl NC ad (EC K ad u)) t.heap) (IW NC ad)) args s 0 0 (IW NC ad)) (F0 m 68 ls []) := by
  have hx := C0.1
  have hb := C0.2.1
  have hts := C0.2.2.2.2.1
  have hown := C0.2.2.2.1
  have hKC := C0.2.2.2.2.2.2.2
  intro S x1 x2 x3 x4 hf H locs ls hP hS hl
  rw [f3_mid_b68] at hf
  refine lv_aload_n hx hb dX3_mid_68 rfl (lv_at hl 0 rfl) ?_
  refine x_get C0 hKC.1 hP (by decide) (EC_0 K ad S) rfl in_X3_mid_X3 4 (by decide) (List.mem_of_getElem? (i := 1) rfl) rfl dX3_mid_69 ?_
  refine lv_iload_n hx hb dX3_mid_72 rfl (lv_at hl 3 rfl) ?_
  refine lv_aload_n hx hb dX3_mid_73 rfl (lv_at hl 0 rfl) ?_
  refine x_get C0 hKC.1 hP (by decide) (EC_0 K ad S) rfl in_X3_mid_X3 4 (by decide) (List.mem_of_getElem? (i := 1) rfl) rfl dX3_mid_74 ?_
  refine lv_iload_n hx hb dX3_mid_77 rfl (lv_at hl 3 rfl) ?_
  refine lv_iload hx hb dX3_mid_78 (lv_at hl 4 rfl) ?_
  refine lv_iconst (v := 1) hx hb dX3_mid_80 (by decide) ?_
  obtain ⟨v2, h1, hf⟩ := b1_some hf
  refine sys_i hS (sys_runV (As := [.int x3, .int x4, .int 1]) (rest := [.int x3, .ref (ad 15)]) C0 KC_ok hKC.1 hP hS (by decide) (EC_H K ad S) rfl (m0_jarBehind l D K ad tL hI S x3 x4 1 h1) gX3_mid_X0_jarBehind rfl ⟨rfl, rfl⟩ hd_X0_jarBehind ⟨Nat.le_of_ble_eq_true rfl, Nat.le_of_ble_eq_true rfl⟩ hl.1 rfl (Nat.le_of_ble_eq_true rfl) dX3_mid_81 ⟨Nat.le_refl _, Nat.le_refl _⟩) (fun H locs hP hS => ?_)
  obtain ⟨v4, h3, hf⟩ := b1_some hf
  refine sys_i hS (sys_runV (As := [.int x3, .int v2]) (rest := []) C0 KC_ok hKC.1 hP hS (by decide) (EC_H K ad S) rfl (m0_comesOff l D K ad tL hI S x3 v2 h3) gX3_mid_X0_comesOff rfl ⟨rfl, rfl⟩ hd_X0_comesOff ⟨Nat.le_of_ble_eq_true rfl, Nat.le_of_ble_eq_true rfl⟩ hl.1 rfl (Nat.le_of_ble_eq_true rfl) dX3_mid_84 ⟨Nat.le_refl _, Nat.le_refl _⟩) (fun H locs hP hS => ?_)
  refine lv_if_eq (tgt := 97) hx hb dX3_mid_87 (by decide) (fun c5 => ?_) (fun c5 => ?_)
  · have hf := ite_t hf c5
    exact w3_mid_b97 hI C0 k26 hk26 S x1 x2 x3 hf H locs ls hP hS (lv_sub hl [0, 1, 2, 3] rfl)
  · have hf := ite_f hf c5
    refine lv_iload_n hx hb dX3_mid_90 rfl (lv_at hl 2 rfl) ?_
    refine lv_bipush (v := 12) hx hb dX3_mid_91 (by decide) ?_
    refine lv_iload_n hx hb dX3_mid_93 rfl (lv_at hl 1 rfl) ?_
    refine lv_isub hx hb dX3_mid_94 ?_
    refine lv_iadd hx hb dX3_mid_95 ?_
    refine lv_topi (fun v6 ev6 => ?_)
    have hf := nm_at ev6 hf
    refine lv_istore_n (lv' := [(2, .int v6), (0, .ref (ad 0)), (1, .int x1), (3, .int x3), (4, .int x4)]) hx hb dX3_mid_96 rfl hl (by decide) rfl (fun ls hl => ?_)
    exact w3_mid_b97 hI C0 k26 hk26 S x1 v6 x3 hf H locs ls hP hS (lv_sub hl [1, 2, 0, 3] rfl)
set_option maxHeartbeats 4000000 in
set_option maxRecDepth 100000 in
theorem w3_mid_b26 {p : Program} {l : Launch} {e : Env} {s : State} {m : MethodId} {args : Array Value} {below : List Frame} {meth : Method} {c : Code} {D : va_G} {K : Nat → ClassId} {ad : Nat → Nat} {tL : Nat} (hI : INJ NC ad) (C0 : Cx p s m args meth c RX3 wsX3_mid cX3_mid 5 (some .int) (KC D K tL (IW NC ad))) {r : Int32} {T : Mem} : ∀ (n : Nat), ∀ (S : Mem) (x1 : Int32) (x2 : Int32) (x3 : Int32), f3_mid_b26 n S x1 x2 x3 = some (r, T) → ∀ (H : Heap) (locs : List Loc) (ls : Array Slot), va_P D vwCl (wl NC ad (EC K ad S)) H → va_S (IW NC ad) s.heap H locs → lv_has ls 5 [(0, .ref (ad 0)), (1, .int x1), (2, .int x2), (3, .int x3)] → W p l e rm3_mid s m args below meth c H locs 0 0 (MQ below (va_Qi (fun (x : Int32) (u : Mem) => x = r ∧ u = T) (fun u t => va_P D vwCl (wl NC ad (EC K ad u)) t.heap) (IW NC ad)) args s 0 0 (IW NC ad)) (F0 m 26 ls []) := by
  have hx := C0.1
  have hb := C0.2.1
  have hts := C0.2.2.2.2.1
  have hown := C0.2.2.2.1
  have hKC := C0.2.2.2.2.2.2.2
  intro n
  induction n with
  | zero =>
    intro S x1 x2 x3 hf
    rw [f3_mid_b26] at hf
    cases hf
  | succ n ih =>
    intro S x1 x2 x3 hf H locs ls hP hS hl
    rw [f3_mid_b26] at hf
    refine lv_iload_n hx hb dX3_mid_26 rfl (lv_at hl 3 rfl) ?_
    refine lv_aload_n hx hb dX3_mid_27 rfl (lv_at hl 0 rfl) ?_
    refine x_get C0 hKC.1 hP (by decide) (EC_0 K ad S) rfl in_X3_mid_X3 4 (by decide) (List.mem_of_getElem? (i := 1) rfl) rfl dX3_mid_28 ?_
    refine x_get C0 hKC.1 hP (by decide) (EC_H K ad S) rfl in_X3_mid_X0 3 (by decide) (List.mem_of_getElem? (i := 2) rfl) rfl dX3_mid_31 ?_
    refine lv_icmp_ge (tgt := 103) hx hb dX3_mid_34 (by decide) (fun c1 => ?_) (fun c1 => ?_)
    · have hf := ite_t hf c1
      refine lv_aload_n hx hb dX3_mid_103 rfl (lv_at hl 0 rfl) ?_
      refine lv_iload_n hx hb dX3_mid_104 rfl (lv_at hl 2 rfl) ?_
      refine lv_i2l (v := (Int32.toInt64 x2)) hx hb dX3_mid_105 rfl ?_
      refine lv_ldc2 (v := 12) hx hb hown (hts _ (List.mem_of_getElem? (i := 5) rfl)) dX3_mid_106 ?_
      obtain ⟨v3, S4, h2, hf⟩ := b2_some hf
      refine sys_i hS (sys_runV (As := [.long (Int32.toInt64 x2), .long 12]) (rest := []) C0 KC_ok hKC.1 hP hS (by decide) (EC_0 K ad S) rfl (m3_tellChance l D K ad tL hI S (Int32.toInt64 x2) 12 h2) gX3_mid_X3_tellChance rfl ⟨rfl, rfl⟩ hd_X3_tellChance ⟨Nat.le_of_ble_eq_true rfl, Nat.le_of_ble_eq_true rfl⟩ hl.1 rfl (Nat.le_of_ble_eq_true rfl) dX3_mid_109 ⟨Nat.le_refl _, Nat.le_refl _⟩) (fun H locs hP hS => ?_)
      exact ret_i C0 hP hS (congrArg Prod.fst (Option.some.inj hf)) (congrArg Prod.snd (Option.some.inj hf)) dX3_mid_112
    · have hf := ite_f hf c1
      refine lv_aload_n hx hb dX3_mid_37 rfl (lv_at hl 0 rfl) ?_
      refine x_get C0 hKC.1 hP (by decide) (EC_0 K ad S) rfl in_X3_mid_X3 5 (by decide) (List.mem_of_getElem? (i := 3) rfl) rfl dX3_mid_38 ?_
      obtain ⟨q6, h5, hf⟩ := b1_some hf
      obtain ⟨g7, hf⟩ := gd_some hf
      refine sys_r hS (sys_runV (As := []) (rest := []) C0 KC_ok hKC.1 hP hS (ltS (by decide : 0 < 4)) (EC_S K ad S (by decide : 0 < 4)) rfl (m2_now l D K ad tL hI S 0 (by decide : 0 < 4) h5) gX3_mid_X2_now rfl ⟨rfl, rfl⟩ hd_X2_now ⟨Nat.le_of_ble_eq_true rfl, Nat.le_of_ble_eq_true rfl⟩ hl.1 rfl (Nat.le_of_ble_eq_true rfl) dX3_mid_41 ⟨Nat.le_refl _, Nat.le_refl _⟩) (fun H locs hP hS => ?_)
      refine x_get C0 hKC.1 hP (ltM (of_decide_eq_true g7)) (EC_M K ad S (of_decide_eq_true g7)) rfl in_X3_mid_X1 0 (by decide) (List.mem_of_getElem? (i := 4) rfl) rfl dX3_mid_44 ?_
      refine lv_iload_n hx hb dX3_mid_47 rfl (lv_at hl 3 rfl) ?_
      obtain ⟨g8, hf⟩ := gd_some hf
      refine x_iald C0 hKC.1 hP (IC_jar K ad (of_decide_eq_true g7)) (t0 := 0) rfl g8 dX3_mid_48 ?_
      refine lv_topi (fun v9 ev9 => ?_)
      have hf := nm_at ev9 hf
      refine lv_istore (lv' := [(4, .int v9), (0, .ref (ad 0)), (1, .int x1), (2, .int x2), (3, .int x3)]) hx hb dX3_mid_49 hl (by decide) rfl (fun ls hl => ?_)
      refine lv_aload_n hx hb dX3_mid_51 rfl (lv_at hl 1 rfl) ?_
      refine x_get C0 hKC.1 hP (by decide) (EC_0 K ad S) rfl in_X3_mid_X3 4 (by decide) (List.mem_of_getElem? (i := 1) rfl) rfl dX3_mid_52 ?_
      refine lv_iload_n hx hb dX3_mid_55 rfl (lv_at hl 4 rfl) ?_
      refine lv_iload hx hb dX3_mid_56 (lv_at hl 0 rfl) ?_
      obtain ⟨v11, h10, hf⟩ := b1_some hf
      refine sys_i hS (sys_runV (As := [.int x3, .int v9]) (rest := []) C0 KC_ok hKC.1 hP hS (by decide) (EC_H K ad S) rfl (m0_comesOff l D K ad tL hI S x3 v9 h10) gX3_mid_X0_comesOff rfl ⟨rfl, rfl⟩ hd_X0_comesOff ⟨Nat.le_of_ble_eq_true rfl, Nat.le_of_ble_eq_true rfl⟩ hl.1 rfl (Nat.le_of_ble_eq_true rfl) dX3_mid_58 ⟨Nat.le_refl _, Nat.le_refl _⟩) (fun H locs hP hS => ?_)
      refine lv_if_eq (tgt := 68) hx hb dX3_mid_61 (by decide) (fun c12 => ?_) (fun c12 => ?_)
      · have hf := ite_t hf c12
        exact w3_mid_b68 hI C0 (f3_mid_b26 n) ih S x1 x2 x3 v9 hf H locs ls hP hS (lv_sub hl [1, 2, 3, 4, 0] rfl)
      · have hf := ite_f hf c12
        refine lv_iload_n hx hb dX3_mid_64 rfl (lv_at hl 3 rfl) ?_
        refine lv_iload_n hx hb dX3_mid_65 rfl (lv_at hl 2 rfl) ?_
        refine lv_iadd hx hb dX3_mid_66 ?_
        refine lv_topi (fun v13 ev13 => ?_)
        have hf := nm_at ev13 hf
        refine lv_istore_n (lv' := [(2, .int v13), (4, .int v9), (0, .ref (ad 0)), (1, .int x1), (3, .int x3)]) hx hb dX3_mid_67 rfl hl (by decide) rfl (fun ls hl => ?_)
        exact w3_mid_b68 hI C0 (f3_mid_b26 n) ih S x1 v13 x3 v9 hf H locs ls hP hS (lv_sub hl [2, 3, 0, 4, 1] rfl)
set_option maxHeartbeats 4000000 in
set_option maxRecDepth 100000 in
theorem w3_mid {p : Program} {l : Launch} {e : Env} {s : State} {m : MethodId} {args : Array Value} {below : List Frame} {meth : Method} {c : Code} {D : va_G} {K : Nat → ClassId} {ad : Nat → Nat} {tL : Nat} (hI : INJ NC ad) (C0 : Cx p s m args meth c RX3 wsX3_mid cX3_mid 5 (some .int) (KC D K tL (IW NC ad))) {r : Int32} {T : Mem} : ∀ (S : Mem) (x1 : Int32), f3_mid S x1 = some (r, T) → ∀ (H : Heap) (locs : List Loc) (ls : Array Slot), va_P D vwCl (wl NC ad (EC K ad S)) H → va_S (IW NC ad) s.heap H locs → lv_has ls 5 [(0, .ref (ad 0)), (1, .int x1)] → W p l e rm3_mid s m args below meth c H locs 0 0 (MQ below (va_Qi (fun (x : Int32) (u : Mem) => x = r ∧ u = T) (fun u t => va_P D vwCl (wl NC ad (EC K ad u)) t.heap) (IW NC ad)) args s 0 0 (IW NC ad)) (F0 m 0 ls []) := by
  have hx := C0.1
  have hb := C0.2.1
  have hts := C0.2.2.2.2.1
  have hown := C0.2.2.2.1
  have hKC := C0.2.2.2.2.2.2.2
  intro S x1 hf H locs ls hP hS hl
  rw [f3_mid] at hf
  refine lv_iload_n hx hb dX3_mid_0 rfl (lv_at hl 1 rfl) ?_
  obtain ⟨v2, h1, hf⟩ := b1_some hf
  refine sys_i hS (sys_runS (As := [.int x1]) (rest := []) C0 KC_ok hP hS (m3_isTwelfths l D K ad tL hI S x1 h1) gX3_mid_X3_isTwelfths rfl ⟨rfl, rfl⟩ hd_X3_isTwelfths ⟨Nat.le_of_ble_eq_true rfl, Nat.le_of_ble_eq_true rfl⟩ hl.1 rfl (Nat.le_of_ble_eq_true rfl) dX3_mid_1 ⟨Nat.le_refl _, Nat.le_refl _⟩) (fun H locs hP hS => ?_)
  refine lv_if_ne (tgt := 9) hx hb dX3_mid_4 (by decide) (fun c3 => ?_) (fun c3 => ?_)
  · have hf := ite_f hf c3
    refine lv_aload_n hx hb dX3_mid_9 rfl (lv_at hl 0 rfl) ?_
    refine x_get C0 hKC.1 hP (by decide) (EC_0 K ad S) rfl in_X3_mid_X3 4 (by decide) (List.mem_of_getElem? (i := 1) rfl) rfl dX3_mid_10 ?_
    refine x_get C0 hKC.1 hP (by decide) (EC_H K ad S) rfl in_X3_mid_X0 3 (by decide) (List.mem_of_getElem? (i := 2) rfl) rfl dX3_mid_13 ?_
    refine lv_if_ne (tgt := 22) hx hb dX3_mid_16 (by decide) (fun c4 => ?_) (fun c4 => ?_)
    · have hf := ite_f hf c4
      refine lv_iconst (v := 0) hx hb dX3_mid_22 (by decide) ?_
      refine lv_istore_n (lv' := [(2, .int 0), (0, .ref (ad 0)), (1, .int x1)]) hx hb dX3_mid_23 rfl hl (by decide) rfl (fun ls hl => ?_)
      refine lv_iconst (v := 0) hx hb dX3_mid_24 (by decide) ?_
      refine lv_istore_n (lv' := [(3, .int 0), (2, .int 0), (0, .ref (ad 0)), (1, .int x1)]) hx hb dX3_mid_25 rfl hl (by decide) rfl (fun ls hl => ?_)
      exact w3_mid_b26 hI C0 FU S x1 0 0 hf H locs ls hP hS (lv_sub hl [2, 3, 1, 0] rfl)
    · have hf := ite_t hf c4
      refine lv_bipush (v := (-4)) hx hb dX3_mid_19 (by decide) ?_
      exact ret_i C0 hP hS (congrArg Prod.fst (Option.some.inj hf)) (congrArg Prod.snd (Option.some.inj hf)) dX3_mid_21
  · have hf := ite_t hf c3
    refine lv_iconst (v := (-1)) hx hb dX3_mid_7 (by decide) ?_
    exact ret_i C0 hP hS (congrArg Prod.fst (Option.some.inj hf)) (congrArg Prod.snd (Option.some.inj hf)) dX3_mid_8
theorem m3_mid (l : Launch) (D : va_G) (K : Nat → ClassId) (ad : Nat → Nat) (tL : Nat) (hI : INJ NC ad) (S : Mem) (x1 : Int32) {r : Int32} {T : Mem} (hf : f3_mid S x1 = some (r, T)) : SysI l yX3_mid wsX3_mid rm3_mid D NC ad (EC K ad) (KC D K tL (IW NC ad)) [.ref (ad 0), .int x1] S r T :=
  met_of (own := RX3) (by decide) rfl rfl (Nat.le_of_ble_eq_true rfl) (fun _ _ s _ _ _ _ ls C0 _ hP hl => w3_mid hI C0 S x1 hf s.heap [] ls hP va_S.rf hl)
theorem in_X3_doByLot_X3 : ∀ w ∈ wsX30, w ∈ wsX3_doByLot := fun _ h => List.mem_cons_of_mem _ (List.mem_append_left _ (List.mem_append_left _ (List.mem_append_right _ h)))
theorem in_X3_doByLot_X0 : ∀ w ∈ wsX00, w ∈ wsX3_doByLot := fun _ h => List.mem_cons_of_mem _ (List.mem_append_left _ (List.mem_append_right _ h))
theorem in_X3_doByLot_X1 : ∀ w ∈ wsX10, w ∈ wsX3_doByLot := fun _ h => List.mem_cons_of_mem _ (List.mem_append_right _ h)
theorem hd_X3_doByLot : yX3_doByLot.cls = RX3 ∧ yX3_doByLot.cls ≠ "java/lang/invoke/MethodHandle" ∧ yX3_doByLot.cls ≠ "java/lang/invoke/VarHandle" ∧ (parseMethodDescriptor yX3_doByLot.desc).map (fun d => d.parameters.length) = some 2 := by decide +kernel
abbrev rm3_doByLot : Room := { frames := 5, cells := 0, slots := 0, locals := 123 }
set_option maxHeartbeats 4000000 in
set_option maxRecDepth 100000 in
theorem w3_doByLot {p : Program} {l : Launch} {e : Env} {s : State} {m : MethodId} {args : Array Value} {below : List Frame} {meth : Method} {c : Code} {D : va_G} {K : Nat → ClassId} {ad : Nat → Nat} {tL : Nat} (hI : INJ NC ad) (C0 : Cx p s m args meth c RX3 wsX3_doByLot cX3_doByLot 4 none (KC D K tL (IW NC ad))) {T : Mem} : ∀ (S : Mem) (q1 : Nat) (x2 : Int32), q1 < 165 → f3_doByLot S q1 x2 = some T → ∀ (H : Heap) (locs : List Loc) (ls : Array Slot), va_P D vwCl (wl NC ad (EC K ad S)) H → va_S (IW NC ad) s.heap H locs → lv_has ls 4 [(0, .ref (ad 0)), (1, .ref (ad (30 + q1))), (2, .int x2)] → W p l e rm3_doByLot s m args below meth c H locs 0 0 (MQ below (va_Qv (fun (u : Mem) => u = T) (fun u t => va_P D vwCl (wl NC ad (EC K ad u)) t.heap) (IW NC ad)) args s 0 0 (IW NC ad)) (F0 m 0 ls []) := by
  have hx := C0.1
  have hb := C0.2.1
  have hts := C0.2.2.2.2.1
  have hown := C0.2.2.2.1
  have hKC := C0.2.2.2.2.2.2.2
  intro S q1 x2 hq1 hf H locs ls hP hS hl
  rw [f3_doByLot] at hf
  refine lv_aload_n hx hb dX3_doByLot_0 rfl (lv_at hl 0 rfl) ?_
  refine x_get C0 hKC.1 hP (by decide) (EC_0 K ad S) rfl in_X3_doByLot_X3 4 (by decide) (List.mem_of_getElem? (i := 1) rfl) rfl dX3_doByLot_1 ?_
  refine x_get C0 hKC.1 hP (by decide) (EC_H K ad S) rfl in_X3_doByLot_X0 3 (by decide) (List.mem_of_getElem? (i := 2) rfl) rfl dX3_doByLot_4 ?_
  refine lv_if_ne (tgt := 11) hx hb dX3_doByLot_7 (by decide) (fun c1 => ?_) (fun c1 => ?_)
  · have hf := ite_f hf c1
    refine lv_iload_n hx hb dX3_doByLot_11 rfl (lv_at hl 2 rfl) ?_
    refine lv_bipush (v := 8) hx hb dX3_doByLot_12 (by decide) ?_
    refine lv_idiv hx hb dX3_doByLot_14 (by decide) ?_
    refine lv_aload_n hx hb dX3_doByLot_15 rfl (lv_at hl 0 rfl) ?_
    refine x_get C0 hKC.1 hP (by decide) (EC_0 K ad S) rfl in_X3_doByLot_X3 4 (by decide) (List.mem_of_getElem? (i := 1) rfl) rfl dX3_doByLot_16 ?_
    refine x_get C0 hKC.1 hP (by decide) (EC_H K ad S) rfl in_X3_doByLot_X0 3 (by decide) (List.mem_of_getElem? (i := 2) rfl) rfl dX3_doByLot_19 ?_
    obtain ⟨g2, hf⟩ := gd_some hf
    refine lv_irem hx hb dX3_doByLot_22 (of_decide_eq_true g2) ?_
    refine lv_topi (fun v3 ev3 => ?_)
    have hf := nm_at ev3 hf
    refine lv_istore_n (lv' := [(3, .int v3), (0, .ref (ad 0)), (1, .ref (ad (30 + q1))), (2, .int x2)]) hx hb dX3_doByLot_23 rfl hl (by decide) rfl (fun ls hl => ?_)
    refine lv_iload_n hx hb dX3_doByLot_24 rfl (lv_at hl 3 rfl) ?_
    refine lv_bipush (v := 8) hx hb dX3_doByLot_25 (by decide) ?_
    refine lv_irem hx hb dX3_doByLot_27 (by decide) ?_
    by_cases c4 : (x2 - x2 / 8 * 8) = 0
    · have hf := ite_t hf c4
      refine lv_tableIn (off := 28) (tgt := 56) hx hb dX3_doByLot_28 (by rw [c4]; decide) (by rw [c4]; decide) (by rw [c4]; rfl) (by decide) ?_
      refine lv_aload_n hx hb dX3_doByLot_56 rfl (lv_at hl 2 rfl) ?_
      refine lv_aload_n hx hb dX3_doByLot_57 rfl (lv_at hl 1 rfl) ?_
      refine x_get C0 hKC.1 hP (by decide) (EC_0 K ad S) rfl in_X3_doByLot_X3 4 (by decide) (List.mem_of_getElem? (i := 1) rfl) rfl dX3_doByLot_58 ?_
      obtain ⟨v6, S7, h5, hf⟩ := b2_some hf
      refine sys_i hS (sys_runV (As := [.ref (ad 15)]) (rest := []) C0 KC_ok hKC.1 hP hS (ltM hq1) (EC_M K ad S hq1) rfl (m1_shareOut l D K ad tL hI S q1 hq1 h5) gX3_doByLot_X1_shareOut rfl ⟨rfl, rfl⟩ hd_X1_shareOut ⟨Nat.le_of_ble_eq_true rfl, Nat.le_of_ble_eq_true rfl⟩ hl.1 rfl (Nat.le_of_ble_eq_true rfl) dX3_doByLot_61 ⟨Nat.le_refl _, Nat.le_refl _⟩) (fun H locs hP hS => ?_)
      refine lv_pop hx hb dX3_doByLot_64 rfl ?_
      refine lv_goto (tgt := 125) hx hb dX3_doByLot_65 (by decide) ?_
      exact ret_v C0 hP hS (Option.some.inj hf) dX3_doByLot_125
    · have hf := ite_f hf c4
      by_cases c8 : (x2 - x2 / 8 * 8) = 1
      · have hf := ite_t hf c8
        refine lv_tableIn (off := 40) (tgt := 68) hx hb dX3_doByLot_28 (by rw [c8]; decide) (by rw [c8]; decide) (by rw [c8]; rfl) (by decide) ?_
        refine lv_aload_n hx hb dX3_doByLot_68 rfl (lv_at hl 2 rfl) ?_
        refine lv_iload_n hx hb dX3_doByLot_69 rfl (lv_at hl 0 rfl) ?_
        refine lv_aload_n hx hb dX3_doByLot_70 rfl (lv_at hl 2 rfl) ?_
        refine x_get C0 hKC.1 hP (ltM hq1) (EC_M K ad S hq1) rfl in_X3_doByLot_X1 0 (by decide) (List.mem_of_getElem? (i := 3) rfl) rfl dX3_doByLot_71 ?_
        refine lv_iload_n hx hb dX3_doByLot_74 rfl (lv_at hl 0 rfl) ?_
        obtain ⟨g9, hf⟩ := gd_some hf
        refine x_iald C0 hKC.1 hP (IC_jar K ad hq1) (t0 := 0) rfl g9 dX3_doByLot_75 ?_
        obtain ⟨v11, h10, hf⟩ := b1_some hf
        refine sys_i hS (sys_runS (As := [.int (gi S (195 + q1) (ix v3))]) (rest := [.int v3, .ref (ad (30 + q1))]) C0 KC_ok hP hS (m3_leftByTurn l D K ad tL hI S (gi S (195 + q1) (ix v3)) h10) gX3_doByLot_X3_leftByTurn rfl ⟨rfl, rfl⟩ hd_X3_leftByTurn ⟨Nat.le_of_ble_eq_true rfl, Nat.le_of_ble_eq_true rfl⟩ hl.1 rfl (Nat.le_of_ble_eq_true rfl) dX3_doByLot_76 ⟨Nat.le_refl _, Nat.le_refl _⟩) (fun H locs hP hS => ?_)
        obtain ⟨S13, h12, hf⟩ := b1_some hf
        refine sys_v hS (sys_runV (As := [.int v3, .int v11]) (rest := []) C0 KC_ok hKC.1 hP hS (ltM hq1) (EC_M K ad S hq1) rfl (m1_toQuay l D K ad tL hI S q1 v3 v11 hq1 h12) gX3_doByLot_X1_toQuay rfl ⟨rfl, rfl⟩ hd_X1_toQuay ⟨Nat.le_of_ble_eq_true rfl, Nat.le_of_ble_eq_true rfl⟩ hl.1 rfl (Nat.le_of_ble_eq_true rfl) dX3_doByLot_79 ⟨Nat.le_refl _, Nat.le_refl _⟩) (fun H locs hP hS => ?_)
        refine lv_goto (tgt := 125) hx hb dX3_doByLot_82 (by decide) ?_
        exact ret_v C0 hP hS (Option.some.inj hf) dX3_doByLot_125
      · have hf := ite_f hf c8
        by_cases c14 : (x2 - x2 / 8 * 8) = 2
        · have hf := ite_t hf c14
          refine lv_tableIn (off := 57) (tgt := 85) hx hb dX3_doByLot_28 (by rw [c14]; decide) (by rw [c14]; decide) (by rw [c14]; rfl) (by decide) ?_
          refine lv_aload_n hx hb dX3_doByLot_85 rfl (lv_at hl 2 rfl) ?_
          refine lv_iload_n hx hb dX3_doByLot_86 rfl (lv_at hl 0 rfl) ?_
          refine lv_aload_n hx hb dX3_doByLot_87 rfl (lv_at hl 2 rfl) ?_
          refine x_get C0 hKC.1 hP (ltM hq1) (EC_M K ad S hq1) rfl in_X3_doByLot_X1 0 (by decide) (List.mem_of_getElem? (i := 3) rfl) rfl dX3_doByLot_88 ?_
          refine lv_iload_n hx hb dX3_doByLot_91 rfl (lv_at hl 0 rfl) ?_
          obtain ⟨g15, hf⟩ := gd_some hf
          refine x_iald C0 hKC.1 hP (IC_jar K ad hq1) (t0 := 0) rfl g15 dX3_doByLot_92 ?_
          refine lv_aload_n hx hb dX3_doByLot_93 rfl (lv_at hl 2 rfl) ?_
          refine x_get C0 hKC.1 hP (ltM hq1) (EC_M K ad S hq1) rfl in_X3_doByLot_X1 2 (by decide) (List.mem_of_getElem? (i := 4) rfl) rfl dX3_doByLot_94 ?_
          obtain ⟨v17, h16, hf⟩ := b1_some hf
          refine sys_i hS (sys_runS (As := [.int (gi S (195 + q1) (ix v3)), .int (gi S (30 + q1) 2)]) (rest := [.int v3, .ref (ad (30 + q1))]) C0 KC_ok hP hS (m3_takenByTurn l D K ad tL hI S (gi S (195 + q1) (ix v3)) (gi S (30 + q1) 2) h16) gX3_doByLot_X3_takenByTurn rfl ⟨rfl, rfl⟩ hd_X3_takenByTurn ⟨Nat.le_of_ble_eq_true rfl, Nat.le_of_ble_eq_true rfl⟩ hl.1 rfl (Nat.le_of_ble_eq_true rfl) dX3_doByLot_97 ⟨Nat.le_refl _, Nat.le_refl _⟩) (fun H locs hP hS => ?_)
          refine lv_ineg hx hb dX3_doByLot_100 ?_
          obtain ⟨S19, h18, hf⟩ := b1_some hf
          refine sys_v hS (sys_runV (As := [.int v3, .int (-v17)]) (rest := []) C0 KC_ok hKC.1 hP hS (ltM hq1) (EC_M K ad S hq1) rfl (m1_toQuay l D K ad tL hI S q1 v3 (-v17) hq1 h18) gX3_doByLot_X1_toQuay rfl ⟨rfl, rfl⟩ hd_X1_toQuay ⟨Nat.le_of_ble_eq_true rfl, Nat.le_of_ble_eq_true rfl⟩ hl.1 rfl (Nat.le_of_ble_eq_true rfl) dX3_doByLot_101 ⟨Nat.le_refl _, Nat.le_refl _⟩) (fun H locs hP hS => ?_)
          refine lv_goto (tgt := 125) hx hb dX3_doByLot_104 (by decide) ?_
          exact ret_v C0 hP hS (Option.some.inj hf) dX3_doByLot_125
        · have hf := ite_f hf c14
          refine lv_tableOut (tgt := 107) hx hb dX3_doByLot_28 (by have h0 := lv_neT (a := 0) c4 rfl; have h1 := lv_neT (a := 1) c8 rfl; have h2 := lv_neT (a := 2) c14 rfl; omega) (by decide) ?_
          refine lv_aload_n hx hb dX3_doByLot_107 rfl (lv_at hl 2 rfl) ?_
          refine x_get C0 hKC.1 hP (ltM hq1) (EC_M K ad S hq1) rfl in_X3_doByLot_X1 1 (by decide) (List.mem_of_getElem? (i := 5) rfl) rfl dX3_doByLot_108 ?_
          refine lv_bipush (v := 99) hx hb dX3_doByLot_111 (by decide) ?_
          refine lv_icmp_ge (tgt := 125) hx hb dX3_doByLot_113 (by decide) (fun c20 => ?_) (fun c20 => ?_)
          · have hf := ite_t hf c20
            exact ret_v C0 hP hS (Option.some.inj hf) dX3_doByLot_125
          · have hf := ite_f hf c20
            refine lv_aload_n hx hb dX3_doByLot_116 rfl (lv_at hl 2 rfl) ?_
            refine lv_aload_n hx hb dX3_doByLot_117 rfl (lv_at hl 1 rfl) ?_
            refine x_get C0 hKC.1 hP (by decide) (EC_0 K ad S) rfl in_X3_doByLot_X3 4 (by decide) (List.mem_of_getElem? (i := 1) rfl) rfl dX3_doByLot_118 ?_
            refine lv_iconst (v := 1) hx hb dX3_doByLot_121 (by decide) ?_
            obtain ⟨S22, h21, hf⟩ := b1_some hf
            refine sys_v hS (sys_runV (As := [.ref (ad 15), .int 1]) (rest := []) C0 KC_ok hKC.1 hP hS (ltM hq1) (EC_M K ad S hq1) rfl (m1_passDays l D K ad tL hI S q1 1 hq1 h21) gX3_doByLot_X1_passDays rfl ⟨rfl, rfl⟩ hd_X1_passDays ⟨Nat.le_of_ble_eq_true rfl, Nat.le_of_ble_eq_true rfl⟩ hl.1 rfl (Nat.le_of_ble_eq_true rfl) dX3_doByLot_122 ⟨Nat.le_refl _, Nat.le_refl _⟩) (fun H locs hP hS => ?_)
            exact ret_v C0 hP hS (Option.some.inj hf) dX3_doByLot_125
  · have hf := ite_t hf c1
    exact ret_v C0 hP hS (Option.some.inj hf) dX3_doByLot_10
theorem m3_doByLot (l : Launch) (D : va_G) (K : Nat → ClassId) (ad : Nat → Nat) (tL : Nat) (hI : INJ NC ad) (S : Mem) (q1 : Nat) (x2 : Int32) (hq1 : q1 < 165) {T : Mem} (hf : f3_doByLot S q1 x2 = some T) : SysV l yX3_doByLot wsX3_doByLot rm3_doByLot D NC ad (EC K ad) (KC D K tL (IW NC ad)) [.ref (ad 0), .ref (ad (30 + q1)), .int x2] S T :=
  met_of (own := RX3) (by decide) rfl rfl (Nat.le_of_ble_eq_true rfl) (fun _ _ s _ _ _ _ ls C0 _ hP hl => w3_doByLot hI C0 S q1 x2 hq1 hf s.heap [] ls hP va_S.rf hl)
theorem in_X3_lots_X3 : ∀ w ∈ wsX30, w ∈ wsX3_lots := fun _ h => List.mem_cons_of_mem _ (List.mem_append_left _ (List.mem_append_left _ (List.mem_append_left _ (List.mem_append_right _ h))))
theorem in_X3_lots_X0 : ∀ w ∈ wsX00, w ∈ wsX3_lots := fun _ h => List.mem_cons_of_mem _ (List.mem_append_left _ (List.mem_append_left _ (List.mem_append_right _ h)))
theorem in_X3_lots_X2 : ∀ w ∈ wsX20, w ∈ wsX3_lots := fun _ h => List.mem_cons_of_mem _ (List.mem_append_left _ (List.mem_append_right _ h))
theorem in_X3_lots_X1 : ∀ w ∈ wsX10, w ∈ wsX3_lots := fun _ h => List.mem_cons_of_mem _ (List.mem_append_right _ h)
theorem hd_X3_lots : yX3_lots.cls = RX3 ∧ yX3_lots.cls ≠ "java/lang/invoke/MethodHandle" ∧ yX3_lots.cls ≠ "java/lang/invoke/VarHandle" ∧ (parseMethodDescriptor yX3_lots.desc).map (fun d => d.parameters.length) = some 2 := by decide +kernel
abbrev rm3_lots : Room := { frames := 6, cells := 0, slots := 0, locals := 146 }
set_option maxHeartbeats 4000000 in
set_option maxRecDepth 100000 in
theorem w3_lots_b60 {p : Program} {l : Launch} {e : Env} {s : State} {m : MethodId} {args : Array Value} {below : List Frame} {meth : Method} {c : Code} {D : va_G} {K : Nat → ClassId} {ad : Nat → Nat} {tL : Nat} (hI : INJ NC ad) (C0 : Cx p s m args meth c RX3 wsX3_lots cX3_lots 6 (some .int) (KC D K tL (IW NC ad))) {r : Int32} {T : Mem} : ∀ (n : Nat), ∀ (S : Mem) (x1 : Int32) (x3 : Int64) (x5 : Int32), f3_lots_b60 n S x1 x3 x5 = some (r, T) → ∀ (H : Heap) (locs : List Loc) (ls : Array Slot), va_P D vwCl (wl NC ad (EC K ad S)) H → va_S (IW NC ad) s.heap H locs → lv_has ls 6 [(0, .ref (ad 0)), (1, .int x1), (3, .long x3), (5, .int x5)] → W p l e rm3_lots s m args below meth c H locs 0 0 (MQ below (va_Qi (fun (x : Int32) (u : Mem) => x = r ∧ u = T) (fun u t => va_P D vwCl (wl NC ad (EC K ad u)) t.heap) (IW NC ad)) args s 0 0 (IW NC ad)) (F0 m 60 ls []) := by
  have hx := C0.1
  have hb := C0.2.1
  have hts := C0.2.2.2.2.1
  have hown := C0.2.2.2.1
  have hKC := C0.2.2.2.2.2.2.2
  intro n
  induction n with
  | zero =>
    intro S x1 x3 x5 hf
    rw [f3_lots_b60] at hf
    cases hf
  | succ n ih =>
    intro S x1 x3 x5 hf H locs ls hP hS hl
    rw [f3_lots_b60] at hf
    refine lv_iload hx hb dX3_lots_60 (lv_at hl 3 rfl) ?_
    refine lv_iload_n hx hb dX3_lots_62 rfl (lv_at hl 1 rfl) ?_
    refine lv_icmp_ge (tgt := 95) hx hb dX3_lots_63 (by decide) (fun c1 => ?_) (fun c1 => ?_)
    · have hf := ite_t hf c1
      refine lv_aload_n hx hb dX3_lots_95 rfl (lv_at hl 0 rfl) ?_
      refine x_get C0 hKC.1 hP (by decide) (EC_0 K ad S) rfl in_X3_lots_X3 5 (by decide) (List.mem_of_getElem? (i := 4) rfl) rfl dX3_lots_96 ?_
      obtain ⟨q3, h2, hf⟩ := b1_some hf
      obtain ⟨g4, hf⟩ := gd_some hf
      refine sys_r hS (sys_runV (As := []) (rest := []) C0 KC_ok hKC.1 hP hS (ltS (by decide : 0 < 4)) (EC_S K ad S (by decide : 0 < 4)) rfl (m2_now l D K ad tL hI S 0 (by decide : 0 < 4) h2) gX3_lots_X2_now rfl ⟨rfl, rfl⟩ hd_X2_now ⟨Nat.le_of_ble_eq_true rfl, Nat.le_of_ble_eq_true rfl⟩ hl.1 rfl (Nat.le_of_ble_eq_true rfl) dX3_lots_99 ⟨Nat.le_refl _, Nat.le_refl _⟩) (fun H locs hP hS => ?_)
      refine x_get C0 hKC.1 hP (ltM (of_decide_eq_true g4)) (EC_M K ad S (of_decide_eq_true g4)) rfl in_X3_lots_X1 2 (by decide) (List.mem_of_getElem? (i := 8) rfl) rfl dX3_lots_102 ?_
      exact ret_i C0 hP hS (congrArg Prod.fst (Option.some.inj hf)) (congrArg Prod.snd (Option.some.inj hf)) dX3_lots_105
    · have hf := ite_f hf c1
      refine lv_lload_n hx hb dX3_lots_66 rfl (lv_at hl 2 rfl) ?_
      refine lv_ldc2 (v := 48271) hx hb hown (hts _ (List.mem_of_getElem? (i := 6) rfl)) dX3_lots_67 ?_
      refine lv_lmul hx hb dX3_lots_70 ?_
      refine lv_ldc2 (v := 2147483647) hx hb hown (hts _ (List.mem_of_getElem? (i := 7) rfl)) dX3_lots_71 ?_
      refine lv_lrem hx hb dX3_lots_74 (by decide) ?_
      refine lv_topl (fun v5 ev5 => ?_)
      have hf := nm_at ev5 hf
      refine lv_lstore_n (lv' := [(3, .long v5), (0, .ref (ad 0)), (1, .int x1), (5, .int x5)]) hx hb dX3_lots_75 rfl hl (by decide) rfl (fun ls hl => ?_)
      refine lv_aload_n hx hb dX3_lots_76 rfl (lv_at hl 1 rfl) ?_
      refine lv_aload_n hx hb dX3_lots_77 rfl (lv_at hl 1 rfl) ?_
      refine x_get C0 hKC.1 hP (by decide) (EC_0 K ad S) rfl in_X3_lots_X3 5 (by decide) (List.mem_of_getElem? (i := 4) rfl) rfl dX3_lots_78 ?_
      obtain ⟨q7, S8, h6, hf⟩ := b2_some hf
      obtain ⟨g9, hf⟩ := gd_some hf
      refine sys_r hS (sys_runV (As := []) (rest := [.ref (ad 0)]) C0 KC_ok hKC.1 hP hS (ltS (by decide : 0 < 4)) (EC_S K ad S (by decide : 0 < 4)) rfl (m2_next l D K ad tL hI S 0 (by decide : 0 < 4) h6) gX3_lots_X2_next rfl ⟨rfl, rfl⟩ hd_X2_next ⟨Nat.le_of_ble_eq_true rfl, Nat.le_of_ble_eq_true rfl⟩ hl.1 rfl (Nat.le_of_ble_eq_true rfl) dX3_lots_81 ⟨Nat.le_refl _, Nat.le_refl _⟩) (fun H locs hP hS => ?_)
      refine lv_lload_n hx hb dX3_lots_84 rfl (lv_at hl 0 rfl) ?_
      refine lv_l2i (v := (Int64.toInt32 v5)) hx hb dX3_lots_85 rfl ?_
      obtain ⟨S11, h10, hf⟩ := b1_some hf
      refine sys_v hS (sys_runV (As := [.ref (ad (30 + q7)), .int (Int64.toInt32 v5)]) (rest := []) C0 KC_ok hKC.1 hP hS (by decide) (EC_0 K ad S8) rfl (m3_doByLot l D K ad tL hI S8 q7 (Int64.toInt32 v5) (of_decide_eq_true g9) h10) gX3_lots_X3_doByLot rfl ⟨rfl, rfl⟩ hd_X3_doByLot ⟨Nat.le_of_ble_eq_true rfl, Nat.le_of_ble_eq_true rfl⟩ hl.1 rfl (Nat.le_of_ble_eq_true rfl) dX3_lots_86 ⟨Nat.le_refl _, Nat.le_refl _⟩) (fun H locs hP hS => ?_)
      obtain ⟨v12, ev12⟩ : ∃ y : Int32, y = x5 + 1 := ⟨_, rfl⟩
      have hf := nm_at ev12 hf
      refine lv_iinc (v := v12) (lv' := [(5, .int v12), (3, .long v5), (0, .ref (ad 0)), (1, .int x1)]) hx hb dX3_lots_89 hl (k := 3) rfl (by rw [ev12]; rfl) (by decide) rfl (fun ls hl => ?_)
      refine lv_goto (tgt := 60) hx hb dX3_lots_92 (by decide) ?_
      exact ih S11 x1 v5 v12 hf H locs ls hP hS (lv_sub hl [2, 3, 1, 0] rfl)
set_option maxHeartbeats 4000000 in
set_option maxRecDepth 100000 in
theorem w3_lots {p : Program} {l : Launch} {e : Env} {s : State} {m : MethodId} {args : Array Value} {below : List Frame} {meth : Method} {c : Code} {D : va_G} {K : Nat → ClassId} {ad : Nat → Nat} {tL : Nat} (hI : INJ NC ad) (C0 : Cx p s m args meth c RX3 wsX3_lots cX3_lots 6 (some .int) (KC D K tL (IW NC ad))) {r : Int32} {T : Mem} : ∀ (S : Mem) (x1 : Int32) (x2 : Int32), f3_lots S x1 x2 = some (r, T) → ∀ (H : Heap) (locs : List Loc) (ls : Array Slot), va_P D vwCl (wl NC ad (EC K ad S)) H → va_S (IW NC ad) s.heap H locs → lv_has ls 6 [(0, .ref (ad 0)), (1, .int x1), (2, .int x2)] → W p l e rm3_lots s m args below meth c H locs 0 0 (MQ below (va_Qi (fun (x : Int32) (u : Mem) => x = r ∧ u = T) (fun u t => va_P D vwCl (wl NC ad (EC K ad u)) t.heap) (IW NC ad)) args s 0 0 (IW NC ad)) (F0 m 0 ls []) := by
  have hx := C0.1
  have hb := C0.2.1
  have hts := C0.2.2.2.2.1
  have hown := C0.2.2.2.1
  have hKC := C0.2.2.2.2.2.2.2
  intro S x1 x2 hf H locs ls hP hS hl
  rw [f3_lots] at hf
  refine lv_iload_n hx hb dX3_lots_0 rfl (lv_at hl 1 rfl) ?_
  refine lv_iconst (v := 1) hx hb dX3_lots_1 (by decide) ?_
  refine lv_icmp_lt (tgt := 22) hx hb dX3_lots_2 (by decide) (fun c1 => ?_) (fun c1 => ?_)
  · have hf := ite_t hf c1
    refine lv_iconst (v := (-1)) hx hb dX3_lots_22 (by decide) ?_
    exact ret_i C0 hP hS (congrArg Prod.fst (Option.some.inj hf)) (congrArg Prod.snd (Option.some.inj hf)) dX3_lots_23
  · have hf := ite_f hf c1
    refine lv_iload_n hx hb dX3_lots_5 rfl (lv_at hl 1 rfl) ?_
    refine lv_bipush (v := 20) hx hb dX3_lots_6 (by decide) ?_
    refine lv_icmp_gt (tgt := 22) hx hb dX3_lots_8 (by decide) (fun c2 => ?_) (fun c2 => ?_)
    · have hf := ite_t hf c2
      refine lv_iconst (v := (-1)) hx hb dX3_lots_22 (by decide) ?_
      exact ret_i C0 hP hS (congrArg Prod.fst (Option.some.inj hf)) (congrArg Prod.snd (Option.some.inj hf)) dX3_lots_23
    · have hf := ite_f hf c2
      refine lv_iload_n hx hb dX3_lots_11 rfl (lv_at hl 2 rfl) ?_
      refine lv_iconst (v := 1) hx hb dX3_lots_12 (by decide) ?_
      refine lv_icmp_lt (tgt := 22) hx hb dX3_lots_13 (by decide) (fun c3 => ?_) (fun c3 => ?_)
      · have hf := ite_t hf c3
        refine lv_iconst (v := (-1)) hx hb dX3_lots_22 (by decide) ?_
        exact ret_i C0 hP hS (congrArg Prod.fst (Option.some.inj hf)) (congrArg Prod.snd (Option.some.inj hf)) dX3_lots_23
      · have hf := ite_f hf c3
        refine lv_iload_n hx hb dX3_lots_16 rfl (lv_at hl 2 rfl) ?_
        refine lv_ldc (v := 2147483647) hx hb hown (hts _ (List.mem_of_getElem? (i := 1) rfl)) dX3_lots_17 ?_
        refine lv_icmp_lt (tgt := 24) hx hb dX3_lots_19 (by decide) (fun c4 => ?_) (fun c4 => ?_)
        · have hf := ite_t hf c4
          refine lv_aload_n hx hb dX3_lots_24 rfl (lv_at hl 0 rfl) ?_
          refine x_get C0 hKC.1 hP (by decide) (EC_0 K ad S) rfl in_X3_lots_X3 4 (by decide) (List.mem_of_getElem? (i := 2) rfl) rfl dX3_lots_25 ?_
          refine x_get C0 hKC.1 hP (by decide) (EC_H K ad S) rfl in_X3_lots_X0 3 (by decide) (List.mem_of_getElem? (i := 3) rfl) rfl dX3_lots_28 ?_
          refine lv_if_ne (tgt := 37) hx hb dX3_lots_31 (by decide) (fun c5 => ?_) (fun c5 => ?_)
          · have hf := ite_f hf c5
            refine lv_aload_n hx hb dX3_lots_37 rfl (lv_at hl 0 rfl) ?_
            refine x_get C0 hKC.1 hP (by decide) (EC_0 K ad S) rfl in_X3_lots_X3 5 (by decide) (List.mem_of_getElem? (i := 4) rfl) rfl dX3_lots_38 ?_
            refine x_get C0 hKC.1 hP (ltS (by decide : 0 < 4)) (EC_S K ad S (by decide : 0 < 4)) rfl in_X3_lots_X2 1 (by decide) (List.mem_of_getElem? (i := 5) rfl) rfl dX3_lots_41 ?_
            refine lv_iload_n hx hb dX3_lots_44 rfl (lv_at hl 1 rfl) ?_
            refine lv_iadd hx hb dX3_lots_45 ?_
            refine lv_bipush (v := 40) hx hb dX3_lots_46 (by decide) ?_
            refine lv_icmp_le (tgt := 54) hx hb dX3_lots_48 (by decide) (fun c6 => ?_) (fun c6 => ?_)
            · have hf := ite_t hf c6
              refine lv_iload_n hx hb dX3_lots_54 rfl (lv_at hl 2 rfl) ?_
              refine lv_i2l (v := (Int32.toInt64 x2)) hx hb dX3_lots_55 rfl ?_
              refine lv_topl (fun v7 ev7 => ?_)
              have hf := nm_at ev7 hf
              refine lv_lstore_n (lv' := [(3, .long v7), (0, .ref (ad 0)), (1, .int x1), (2, .int x2)]) hx hb dX3_lots_56 rfl hl (by decide) rfl (fun ls hl => ?_)
              refine lv_iconst (v := 0) hx hb dX3_lots_57 (by decide) ?_
              refine lv_istore (lv' := [(5, .int 0), (3, .long v7), (0, .ref (ad 0)), (1, .int x1), (2, .int x2)]) hx hb dX3_lots_58 hl (by decide) rfl (fun ls hl => ?_)
              exact w3_lots_b60 hI C0 FU S x1 v7 0 hf H locs ls hP hS (lv_sub hl [2, 3, 1, 0] rfl)
            · have hf := ite_f hf c6
              refine lv_bipush (v := (-2)) hx hb dX3_lots_51 (by decide) ?_
              exact ret_i C0 hP hS (congrArg Prod.fst (Option.some.inj hf)) (congrArg Prod.snd (Option.some.inj hf)) dX3_lots_53
          · have hf := ite_t hf c5
            refine lv_bipush (v := (-4)) hx hb dX3_lots_34 (by decide) ?_
            exact ret_i C0 hP hS (congrArg Prod.fst (Option.some.inj hf)) (congrArg Prod.snd (Option.some.inj hf)) dX3_lots_36
        · have hf := ite_f hf c4
          refine lv_iconst (v := (-1)) hx hb dX3_lots_22 (by decide) ?_
          exact ret_i C0 hP hS (congrArg Prod.fst (Option.some.inj hf)) (congrArg Prod.snd (Option.some.inj hf)) dX3_lots_23
theorem m3_lots (l : Launch) (D : va_G) (K : Nat → ClassId) (ad : Nat → Nat) (tL : Nat) (hI : INJ NC ad) (S : Mem) (x1 : Int32) (x2 : Int32) {r : Int32} {T : Mem} (hf : f3_lots S x1 x2 = some (r, T)) : SysI l yX3_lots wsX3_lots rm3_lots D NC ad (EC K ad) (KC D K tL (IW NC ad)) [.ref (ad 0), .int x1, .int x2] S r T :=
  met_of (own := RX3) (by decide) rfl rfl (Nat.le_of_ble_eq_true rfl) (fun _ _ s _ _ _ _ ls C0 _ hP hl => w3_lots hI C0 S x1 x2 hf s.heap [] ls hP va_S.rf hl)
theorem in_X3_asked_X3 : ∀ w ∈ wsX30, w ∈ wsX3_asked := fun _ h => List.mem_cons_of_mem _ (List.mem_append_right _ h)
theorem hd_X3_asked : yX3_asked.cls = RX3 ∧ yX3_asked.cls ≠ "java/lang/invoke/MethodHandle" ∧ yX3_asked.cls ≠ "java/lang/invoke/VarHandle" ∧ (parseMethodDescriptor yX3_asked.desc).map (fun d => d.parameters.length) = some 0 := by decide +kernel
abbrev rm3_asked : Room := { frames := 0, cells := 0, slots := 0, locals := 0 }
set_option maxHeartbeats 4000000 in
set_option maxRecDepth 100000 in
theorem w3_asked {p : Program} {l : Launch} {e : Env} {s : State} {m : MethodId} {args : Array Value} {below : List Frame} {meth : Method} {c : Code} {D : va_G} {K : Nat → ClassId} {ad : Nat → Nat} {tL : Nat} (hI : INJ NC ad) (C0 : Cx p s m args meth c RX3 wsX3_asked cX3_asked 1 (some .int) (KC D K tL (IW NC ad))) (S : Mem) {r : Int32} : f3_asked S = some r → ∀ (H : Heap) (locs : List Loc) (ls : Array Slot), va_P D vwCl (wl NC ad (EC K ad S)) H → va_S (IW NC ad) s.heap H locs → lv_has ls 1 [(0, .ref (ad 0))] → W p l e rm3_asked s m args below meth c H locs 0 0 (MQ below (va_Qi (fun (x : Int32) (u : Mem) => x = r ∧ u = S) (fun u t => va_P D vwCl (wl NC ad (EC K ad u)) t.heap) (IW NC ad)) args s 0 0 (IW NC ad)) (F0 m 0 ls []) := by
  have hx := C0.1
  have hb := C0.2.1
  have hts := C0.2.2.2.2.1
  have hown := C0.2.2.2.1
  have hKC := C0.2.2.2.2.2.2.2
  intro  hf H locs ls hP hS hl
  rw [f3_asked] at hf
  refine lv_aload_n hx hb dX3_asked_0 rfl (lv_at hl 0 rfl) ?_
  refine x_get C0 hKC.1 hP (by decide) (EC_0 K ad S) rfl in_X3_asked_X3 9 (by decide) (List.mem_of_getElem? (i := 1) rfl) rfl dX3_asked_1 ?_
  exact ret_i C0 hP hS (Option.some.inj hf) rfl dX3_asked_4
theorem m3_asked (l : Launch) (D : va_G) (K : Nat → ClassId) (ad : Nat → Nat) (tL : Nat) (hI : INJ NC ad) (S : Mem) {r : Int32} (hf : f3_asked S = some r) : SysI l yX3_asked wsX3_asked rm3_asked D NC ad (EC K ad) (KC D K tL (IW NC ad)) [.ref (ad 0)] S r S :=
  met_of (own := RX3) (by decide) rfl rfl (Nat.le_of_ble_eq_true rfl) (fun _ _ s _ _ _ _ ls C0 _ hP hl => w3_asked hI C0 S hf s.heap [] ls hP va_S.rf hl)
theorem in_X3_upper_X3 : ∀ w ∈ wsX30, w ∈ wsX3_upper := fun _ h => List.mem_cons_of_mem _ (List.mem_append_right _ h)
theorem hd_X3_upper : yX3_upper.cls = RX3 ∧ yX3_upper.cls ≠ "java/lang/invoke/MethodHandle" ∧ yX3_upper.cls ≠ "java/lang/invoke/VarHandle" ∧ (parseMethodDescriptor yX3_upper.desc).map (fun d => d.parameters.length) = some 0 := by decide +kernel
abbrev rm3_upper : Room := { frames := 0, cells := 0, slots := 0, locals := 0 }
set_option maxHeartbeats 4000000 in
set_option maxRecDepth 100000 in
theorem w3_upper {p : Program} {l : Launch} {e : Env} {s : State} {m : MethodId} {args : Array Value} {below : List Frame} {meth : Method} {c : Code} {D : va_G} {K : Nat → ClassId} {ad : Nat → Nat} {tL : Nat} (hI : INJ NC ad) (C0 : Cx p s m args meth c RX3 wsX3_upper cX3_upper 1 (some .long) (KC D K tL (IW NC ad))) (S : Mem) {r : Int64} : f3_upper S = some r → ∀ (H : Heap) (locs : List Loc) (ls : Array Slot), va_P D vwCl (wl NC ad (EC K ad S)) H → va_S (IW NC ad) s.heap H locs → lv_has ls 1 [(0, .ref (ad 0))] → W p l e rm3_upper s m args below meth c H locs 0 0 (MQ below (va_Ql (fun (x : Int64) (u : Mem) => x = r ∧ u = S) (fun u t => va_P D vwCl (wl NC ad (EC K ad u)) t.heap) (IW NC ad)) args s 0 0 (IW NC ad)) (F0 m 0 ls []) := by
  have hx := C0.1
  have hb := C0.2.1
  have hts := C0.2.2.2.2.1
  have hown := C0.2.2.2.1
  have hKC := C0.2.2.2.2.2.2.2
  intro  hf H locs ls hP hS hl
  rw [f3_upper] at hf
  refine lv_aload_n hx hb dX3_upper_0 rfl (lv_at hl 0 rfl) ?_
  refine x_get C0 hKC.1 hP (by decide) (EC_0 K ad S) rfl in_X3_upper_X3 10 (by decide) (List.mem_of_getElem? (i := 1) rfl) rfl dX3_upper_1 ?_
  exact ret_l C0 hP hS (Option.some.inj hf) rfl dX3_upper_4
theorem m3_upper (l : Launch) (D : va_G) (K : Nat → ClassId) (ad : Nat → Nat) (tL : Nat) (hI : INJ NC ad) (S : Mem) {r : Int64} (hf : f3_upper S = some r) : SysL l yX3_upper wsX3_upper rm3_upper D NC ad (EC K ad) (KC D K tL (IW NC ad)) [.ref (ad 0)] S r S :=
  met_of (own := RX3) (by decide) rfl rfl (Nat.le_of_ble_eq_true rfl) (fun _ _ s _ _ _ _ ls C0 _ hP hl => w3_upper hI C0 S hf s.heap [] ls hP va_S.rf hl)
theorem in_X3_lower_X3 : ∀ w ∈ wsX30, w ∈ wsX3_lower := fun _ h => List.mem_cons_of_mem _ (List.mem_append_right _ h)
theorem hd_X3_lower : yX3_lower.cls = RX3 ∧ yX3_lower.cls ≠ "java/lang/invoke/MethodHandle" ∧ yX3_lower.cls ≠ "java/lang/invoke/VarHandle" ∧ (parseMethodDescriptor yX3_lower.desc).map (fun d => d.parameters.length) = some 0 := by decide +kernel
abbrev rm3_lower : Room := { frames := 0, cells := 0, slots := 0, locals := 0 }
set_option maxHeartbeats 4000000 in
set_option maxRecDepth 100000 in
theorem w3_lower {p : Program} {l : Launch} {e : Env} {s : State} {m : MethodId} {args : Array Value} {below : List Frame} {meth : Method} {c : Code} {D : va_G} {K : Nat → ClassId} {ad : Nat → Nat} {tL : Nat} (hI : INJ NC ad) (C0 : Cx p s m args meth c RX3 wsX3_lower cX3_lower 1 (some .long) (KC D K tL (IW NC ad))) (S : Mem) {r : Int64} : f3_lower S = some r → ∀ (H : Heap) (locs : List Loc) (ls : Array Slot), va_P D vwCl (wl NC ad (EC K ad S)) H → va_S (IW NC ad) s.heap H locs → lv_has ls 1 [(0, .ref (ad 0))] → W p l e rm3_lower s m args below meth c H locs 0 0 (MQ below (va_Ql (fun (x : Int64) (u : Mem) => x = r ∧ u = S) (fun u t => va_P D vwCl (wl NC ad (EC K ad u)) t.heap) (IW NC ad)) args s 0 0 (IW NC ad)) (F0 m 0 ls []) := by
  have hx := C0.1
  have hb := C0.2.1
  have hts := C0.2.2.2.2.1
  have hown := C0.2.2.2.1
  have hKC := C0.2.2.2.2.2.2.2
  intro  hf H locs ls hP hS hl
  rw [f3_lower] at hf
  refine lv_aload_n hx hb dX3_lower_0 rfl (lv_at hl 0 rfl) ?_
  refine x_get C0 hKC.1 hP (by decide) (EC_0 K ad S) rfl in_X3_lower_X3 11 (by decide) (List.mem_of_getElem? (i := 1) rfl) rfl dX3_lower_1 ?_
  exact ret_l C0 hP hS (Option.some.inj hf) rfl dX3_lower_4
theorem m3_lower (l : Launch) (D : va_G) (K : Nat → ClassId) (ad : Nat → Nat) (tL : Nat) (hI : INJ NC ad) (S : Mem) {r : Int64} (hf : f3_lower S = some r) : SysL l yX3_lower wsX3_lower rm3_lower D NC ad (EC K ad) (KC D K tL (IW NC ad)) [.ref (ad 0)] S r S :=
  met_of (own := RX3) (by decide) rfl rfl (Nat.le_of_ble_eq_true rfl) (fun _ _ s _ _ _ _ ls C0 _ hP hl => w3_lower hI C0 S hf s.heap [] ls hP va_S.rf hl)
theorem in_X1_inJars_X0 : ∀ w ∈ wsX00, w ∈ wsX1_inJars := fun _ h => List.mem_cons_of_mem _ (List.mem_append_left _ (List.mem_append_right _ h))
theorem in_X1_inJars_X1 : ∀ w ∈ wsX10, w ∈ wsX1_inJars := fun _ h => List.mem_cons_of_mem _ (List.mem_append_right _ h)
theorem hd_X1_inJars : yX1_inJars.cls = RX1 ∧ yX1_inJars.cls ≠ "java/lang/invoke/MethodHandle" ∧ yX1_inJars.cls ≠ "java/lang/invoke/VarHandle" ∧ (parseMethodDescriptor yX1_inJars.desc).map (fun d => d.parameters.length) = some 1 := by decide +kernel
abbrev rm1_inJars : Room := { frames := 0, cells := 0, slots := 0, locals := 0 }
set_option maxHeartbeats 4000000 in
set_option maxRecDepth 100000 in
theorem w1_inJars_b4 {p : Program} {l : Launch} {e : Env} {s : State} {m : MethodId} {args : Array Value} {below : List Frame} {meth : Method} {c : Code} {D : va_G} {K : Nat → ClassId} {ad : Nat → Nat} {tL : Nat} (hI : INJ NC ad) (C0 : Cx p s m args meth c RX1 wsX1_inJars cX1_inJars 4 (some .int) (KC D K tL (IW NC ad))) (S : Mem) {r : Int32} : ∀ (n : Nat), ∀ (q0 : Nat) (x2 : Int32) (x3 : Int32), q0 < 165 → f1_inJars_b4 S n q0 x2 x3 = some r → ∀ (H : Heap) (locs : List Loc) (ls : Array Slot), va_P D vwCl (wl NC ad (EC K ad S)) H → va_S (IW NC ad) s.heap H locs → lv_has ls 4 [(0, .ref (ad (30 + q0))), (1, .ref (ad 15)), (2, .int x2), (3, .int x3)] → W p l e rm1_inJars s m args below meth c H locs 0 0 (MQ below (va_Qi (fun (x : Int32) (u : Mem) => x = r ∧ u = S) (fun u t => va_P D vwCl (wl NC ad (EC K ad u)) t.heap) (IW NC ad)) args s 0 0 (IW NC ad)) (F0 m 4 ls []) := by
  have hx := C0.1
  have hb := C0.2.1
  have hts := C0.2.2.2.2.1
  have hown := C0.2.2.2.1
  have hKC := C0.2.2.2.2.2.2.2
  intro n
  induction n with
  | zero =>
    intro q0 x2 x3 hq0 hf
    rw [f1_inJars_b4] at hf
    cases hf
  | succ n ih =>
    intro q0 x2 x3 hq0 hf H locs ls hP hS hl
    rw [f1_inJars_b4] at hf
    refine lv_iload_n hx hb dX1_inJars_4 rfl (lv_at hl 3 rfl) ?_
    refine lv_aload_n hx hb dX1_inJars_5 rfl (lv_at hl 1 rfl) ?_
    refine x_get C0 hKC.1 hP (by decide) (EC_H K ad S) rfl in_X1_inJars_X0 3 (by decide) (List.mem_of_getElem? (i := 1) rfl) rfl dX1_inJars_6 ?_
    refine lv_icmp_ge (tgt := 27) hx hb dX1_inJars_9 (by decide) (fun c1 => ?_) (fun c1 => ?_)
    · have hf := ite_t hf c1
      refine lv_iload_n hx hb dX1_inJars_27 rfl (lv_at hl 2 rfl) ?_
      exact ret_i C0 hP hS (Option.some.inj hf) rfl dX1_inJars_28
    · have hf := ite_f hf c1
      refine lv_iload_n hx hb dX1_inJars_12 rfl (lv_at hl 2 rfl) ?_
      refine lv_aload_n hx hb dX1_inJars_13 rfl (lv_at hl 0 rfl) ?_
      refine x_get C0 hKC.1 hP (ltM hq0) (EC_M K ad S hq0) rfl in_X1_inJars_X1 0 (by decide) (List.mem_of_getElem? (i := 2) rfl) rfl dX1_inJars_14 ?_
      refine lv_iload_n hx hb dX1_inJars_17 rfl (lv_at hl 3 rfl) ?_
      obtain ⟨g2, hf⟩ := gd_some hf
      refine x_iald C0 hKC.1 hP (IC_jar K ad hq0) (t0 := 0) rfl g2 dX1_inJars_18 ?_
      refine lv_iadd hx hb dX1_inJars_19 ?_
      refine lv_topi (fun v3 ev3 => ?_)
      have hf := nm_at ev3 hf
      refine lv_istore_n (lv' := [(2, .int v3), (0, .ref (ad (30 + q0))), (1, .ref (ad 15)), (3, .int x3)]) hx hb dX1_inJars_20 rfl hl (by decide) rfl (fun ls hl => ?_)
      obtain ⟨v4, ev4⟩ : ∃ y : Int32, y = x3 + 1 := ⟨_, rfl⟩
      have hf := nm_at ev4 hf
      refine lv_iinc (v := v4) (lv' := [(3, .int v4), (2, .int v3), (0, .ref (ad (30 + q0))), (1, .ref (ad 15))]) hx hb dX1_inJars_21 hl (k := 3) rfl (by rw [ev4]; rfl) (by decide) rfl (fun ls hl => ?_)
      refine lv_goto (tgt := 4) hx hb dX1_inJars_24 (by decide) ?_
      exact ih q0 v3 v4 hq0 hf H locs ls hP hS (lv_sub hl [2, 3, 1, 0] rfl)
set_option maxHeartbeats 4000000 in
set_option maxRecDepth 100000 in
theorem w1_inJars {p : Program} {l : Launch} {e : Env} {s : State} {m : MethodId} {args : Array Value} {below : List Frame} {meth : Method} {c : Code} {D : va_G} {K : Nat → ClassId} {ad : Nat → Nat} {tL : Nat} (hI : INJ NC ad) (C0 : Cx p s m args meth c RX1 wsX1_inJars cX1_inJars 4 (some .int) (KC D K tL (IW NC ad))) (S : Mem) {r : Int32} : ∀ (q0 : Nat), q0 < 165 → f1_inJars S q0 = some r → ∀ (H : Heap) (locs : List Loc) (ls : Array Slot), va_P D vwCl (wl NC ad (EC K ad S)) H → va_S (IW NC ad) s.heap H locs → lv_has ls 4 [(0, .ref (ad (30 + q0))), (1, .ref (ad 15))] → W p l e rm1_inJars s m args below meth c H locs 0 0 (MQ below (va_Qi (fun (x : Int32) (u : Mem) => x = r ∧ u = S) (fun u t => va_P D vwCl (wl NC ad (EC K ad u)) t.heap) (IW NC ad)) args s 0 0 (IW NC ad)) (F0 m 0 ls []) := by
  have hx := C0.1
  have hb := C0.2.1
  have hts := C0.2.2.2.2.1
  have hown := C0.2.2.2.1
  have hKC := C0.2.2.2.2.2.2.2
  intro q0 hq0 hf H locs ls hP hS hl
  rw [f1_inJars] at hf
  refine lv_iconst (v := 0) hx hb dX1_inJars_0 (by decide) ?_
  refine lv_istore_n (lv' := [(2, .int 0), (0, .ref (ad (30 + q0))), (1, .ref (ad 15))]) hx hb dX1_inJars_1 rfl hl (by decide) rfl (fun ls hl => ?_)
  refine lv_iconst (v := 0) hx hb dX1_inJars_2 (by decide) ?_
  refine lv_istore_n (lv' := [(3, .int 0), (2, .int 0), (0, .ref (ad (30 + q0))), (1, .ref (ad 15))]) hx hb dX1_inJars_3 rfl hl (by decide) rfl (fun ls hl => ?_)
  exact w1_inJars_b4 hI C0 S FU q0 0 0 hq0 hf H locs ls hP hS (lv_sub hl [2, 3, 1, 0] rfl)
theorem m1_inJars (l : Launch) (D : va_G) (K : Nat → ClassId) (ad : Nat → Nat) (tL : Nat) (hI : INJ NC ad) (S : Mem) (q0 : Nat) (hq0 : q0 < 165) {r : Int32} (hf : f1_inJars S q0 = some r) : SysI l yX1_inJars wsX1_inJars rm1_inJars D NC ad (EC K ad) (KC D K tL (IW NC ad)) [.ref (ad (30 + q0)), .ref (ad 15)] S r S :=
  met_of (own := RX1) (by decide) rfl rfl (Nat.le_of_ble_eq_true rfl) (fun _ _ s _ _ _ _ ls C0 _ hP hl => w1_inJars hI C0 S q0 hq0 hf s.heap [] ls hP va_S.rf hl)
theorem hd_X3_thoseThere : yX3_thoseThere.cls ≠ "java/lang/invoke/MethodHandle" ∧ yX3_thoseThere.cls ≠ "java/lang/invoke/VarHandle" ∧ (parseMethodDescriptor yX3_thoseThere.desc).map (fun d => d.parameters.length) = some 1 := by decide +kernel
abbrev rm3_thoseThere : Room := { frames := 0, cells := 0, slots := 0, locals := 0 }
set_option maxHeartbeats 4000000 in
set_option maxRecDepth 100000 in
theorem w3_thoseThere_b20 {p : Program} {l : Launch} {e : Env} {s : State} {m : MethodId} {args : Array Value} {below : List Frame} {meth : Method} {c : Code} {D : va_G} {K : Nat → ClassId} {ad : Nat → Nat} {tL : Nat} (hI : INJ NC ad) (C0 : Cx p s m args meth c RX3 wsX3_thoseThere cX3_thoseThere 3 (some .int) (KC D K tL (IW NC ad))) (S : Mem) {r : Int32} (k4 : Nat → Nat → Int32 → Int32 → Option Int32) (hk4 : ∀ (a0 : Nat) (a0n : Nat) (x1 : Int32) (x2 : Int32), IC K ad a0 a0n → k4 a0 a0n x1 x2 = some r → ∀ (H : Heap) (locs : List Loc) (ls : Array Slot), va_P D vwCl (wl NC ad (EC K ad S)) H → va_S (IW NC ad) s.heap H locs → lv_has ls 3 [(0, .ref (ad a0)), (1, .int x1), (2, .int x2)] → W p l e rm3_thoseThere s m args below meth c H locs 0 0 (MQ below (va_Qi (fun (x : Int32) (u : Mem) => x = r ∧ u = S) (fun u t => va_P D vwCl (wl NC ad (EC K ad u)) t.heap) (IW NC ad)) args s 0 0 (IW NC ad)) (F0 m 4 ls [])) : ∀ (a0 : Nat) (a0n : Nat) (x1 : Int32) (x2 : Int32), IC K ad a0 a0n → f3_thoseThere_b20 k4 S a0 a0n x1 x2 = some r → ∀ (H : Heap) (locs : List Loc) (ls : Array Slot), va_P D vwCl (wl NC ad (EC K ad S)) H → va_S (IW NC ad) s.heap H locs → lv_has ls 3 [(0, .ref (ad a0)), (1, .int x1), (2, .int x2)] → W p l e rm3_thoseThere s m args below meth c H locs 0 0 (MQ below (va_Qi (fun (x : Int32) (u : Mem) => x = r ∧ u = S) (fun u t => va_P D vwCl (wl NC ad (EC K ad u)) t.heap) (IW NC ad)) args s 0 0 (IW NC ad)) (F0 m 20 ls []) := by
  have hx := C0.1
  have hb := C0.2.1
  have hts := C0.2.2.2.2.1
  have hown := C0.2.2.2.1
  have hKC := C0.2.2.2.2.2.2.2
  intro a0 a0n x1 x2 ha0 hf H locs ls hP hS hl
  rw [f3_thoseThere_b20] at hf
  obtain ⟨v1, ev1⟩ : ∃ y : Int32, y = x2 + 1 := ⟨_, rfl⟩
  have hf := nm_at ev1 hf
  refine lv_iinc (v := v1) (lv' := [(2, .int v1), (0, .ref (ad a0)), (1, .int x1)]) hx hb dX3_thoseThere_20 hl (k := 2) rfl (by rw [ev1]; rfl) (by decide) rfl (fun ls hl => ?_)
  refine lv_goto (tgt := 4) hx hb dX3_thoseThere_23 (by decide) ?_
  exact hk4 a0 a0n x1 v1 ha0 hf H locs ls hP hS (lv_sub hl [1, 2, 0] rfl)
set_option maxHeartbeats 4000000 in
set_option maxRecDepth 100000 in
theorem w3_thoseThere_b4 {p : Program} {l : Launch} {e : Env} {s : State} {m : MethodId} {args : Array Value} {below : List Frame} {meth : Method} {c : Code} {D : va_G} {K : Nat → ClassId} {ad : Nat → Nat} {tL : Nat} (hI : INJ NC ad) (C0 : Cx p s m args meth c RX3 wsX3_thoseThere cX3_thoseThere 3 (some .int) (KC D K tL (IW NC ad))) (S : Mem) {r : Int32} : ∀ (n : Nat), ∀ (a0 : Nat) (a0n : Nat) (x1 : Int32) (x2 : Int32), IC K ad a0 a0n → f3_thoseThere_b4 S n a0 a0n x1 x2 = some r → ∀ (H : Heap) (locs : List Loc) (ls : Array Slot), va_P D vwCl (wl NC ad (EC K ad S)) H → va_S (IW NC ad) s.heap H locs → lv_has ls 3 [(0, .ref (ad a0)), (1, .int x1), (2, .int x2)] → W p l e rm3_thoseThere s m args below meth c H locs 0 0 (MQ below (va_Qi (fun (x : Int32) (u : Mem) => x = r ∧ u = S) (fun u t => va_P D vwCl (wl NC ad (EC K ad u)) t.heap) (IW NC ad)) args s 0 0 (IW NC ad)) (F0 m 4 ls []) := by
  have hx := C0.1
  have hb := C0.2.1
  have hts := C0.2.2.2.2.1
  have hown := C0.2.2.2.1
  have hKC := C0.2.2.2.2.2.2.2
  intro n
  induction n with
  | zero =>
    intro a0 a0n x1 x2 ha0 hf
    rw [f3_thoseThere_b4] at hf
    cases hf
  | succ n ih =>
    intro a0 a0n x1 x2 ha0 hf H locs ls hP hS hl
    rw [f3_thoseThere_b4] at hf
    refine lv_iload_n hx hb dX3_thoseThere_4 rfl (lv_at hl 2 rfl) ?_
    refine lv_aload_n hx hb dX3_thoseThere_5 rfl (lv_at hl 0 rfl) ?_
    refine x_alen C0 hKC.1 hP ha0 (t0 := 0) rfl dX3_thoseThere_6 ?_
    refine lv_icmp_ge (tgt := 26) hx hb dX3_thoseThere_7 (by decide) (fun c1 => ?_) (fun c1 => ?_)
    · have hf := ite_t hf c1
      refine lv_iload_n hx hb dX3_thoseThere_26 rfl (lv_at hl 1 rfl) ?_
      exact ret_i C0 hP hS (Option.some.inj hf) rfl dX3_thoseThere_27
    · have hf := ite_f hf c1
      refine lv_aload_n hx hb dX3_thoseThere_10 rfl (lv_at hl 0 rfl) ?_
      refine lv_iload_n hx hb dX3_thoseThere_11 rfl (lv_at hl 2 rfl) ?_
      obtain ⟨g2, hf⟩ := gd_some hf
      refine x_iald C0 hKC.1 hP ha0 (t0 := 0) rfl g2 dX3_thoseThere_12 ?_
      refine lv_iconst (v := (-1)) hx hb dX3_thoseThere_13 (by decide) ?_
      refine lv_icmp_eq (tgt := 20) hx hb dX3_thoseThere_14 (by decide) (fun c3 => ?_) (fun c3 => ?_)
      · have hf := ite_t hf c3
        exact w3_thoseThere_b20 hI C0 S (f3_thoseThere_b4 S n) ih a0 a0n x1 x2 ha0 hf H locs ls hP hS (lv_sub hl [0, 1, 2] rfl)
      · have hf := ite_f hf c3
        obtain ⟨v4, ev4⟩ : ∃ y : Int32, y = x1 + 1 := ⟨_, rfl⟩
        have hf := nm_at ev4 hf
        refine lv_iinc (v := v4) (lv' := [(1, .int v4), (0, .ref (ad a0)), (2, .int x2)]) hx hb dX3_thoseThere_17 hl (k := 1) rfl (by rw [ev4]; rfl) (by decide) rfl (fun ls hl => ?_)
        exact w3_thoseThere_b20 hI C0 S (f3_thoseThere_b4 S n) ih a0 a0n v4 x2 ha0 hf H locs ls hP hS (lv_sub hl [1, 0, 2] rfl)
set_option maxHeartbeats 4000000 in
set_option maxRecDepth 100000 in
theorem w3_thoseThere {p : Program} {l : Launch} {e : Env} {s : State} {m : MethodId} {args : Array Value} {below : List Frame} {meth : Method} {c : Code} {D : va_G} {K : Nat → ClassId} {ad : Nat → Nat} {tL : Nat} (hI : INJ NC ad) (C0 : Cx p s m args meth c RX3 wsX3_thoseThere cX3_thoseThere 3 (some .int) (KC D K tL (IW NC ad))) (S : Mem) {r : Int32} : ∀ (a0 : Nat) (a0n : Nat), IC K ad a0 a0n → f3_thoseThere S a0 a0n = some r → ∀ (H : Heap) (locs : List Loc) (ls : Array Slot), va_P D vwCl (wl NC ad (EC K ad S)) H → va_S (IW NC ad) s.heap H locs → lv_has ls 3 [(0, .ref (ad a0))] → W p l e rm3_thoseThere s m args below meth c H locs 0 0 (MQ below (va_Qi (fun (x : Int32) (u : Mem) => x = r ∧ u = S) (fun u t => va_P D vwCl (wl NC ad (EC K ad u)) t.heap) (IW NC ad)) args s 0 0 (IW NC ad)) (F0 m 0 ls []) := by
  have hx := C0.1
  have hb := C0.2.1
  have hts := C0.2.2.2.2.1
  have hown := C0.2.2.2.1
  have hKC := C0.2.2.2.2.2.2.2
  intro a0 a0n ha0 hf H locs ls hP hS hl
  rw [f3_thoseThere] at hf
  refine lv_iconst (v := 0) hx hb dX3_thoseThere_0 (by decide) ?_
  refine lv_istore_n (lv' := [(1, .int 0), (0, .ref (ad a0))]) hx hb dX3_thoseThere_1 rfl hl (by decide) rfl (fun ls hl => ?_)
  refine lv_iconst (v := 0) hx hb dX3_thoseThere_2 (by decide) ?_
  refine lv_istore_n (lv' := [(2, .int 0), (1, .int 0), (0, .ref (ad a0))]) hx hb dX3_thoseThere_3 rfl hl (by decide) rfl (fun ls hl => ?_)
  exact w3_thoseThere_b4 hI C0 S FU a0 a0n 0 0 ha0 hf H locs ls hP hS (lv_sub hl [2, 1, 0] rfl)
theorem m3_thoseThere (l : Launch) (D : va_G) (K : Nat → ClassId) (ad : Nat → Nat) (tL : Nat) (hI : INJ NC ad) (S : Mem) (a0 : Nat) (a0n : Nat) (ha0 : IC K ad a0 a0n) {r : Int32} (hf : f3_thoseThere S a0 a0n = some r) : SysI l yX3_thoseThere wsX3_thoseThere rm3_thoseThere D NC ad (EC K ad) (KC D K tL (IW NC ad)) [.ref (ad a0)] S r S :=
  met_of (own := RX3) (by decide) rfl rfl (Nat.le_of_ble_eq_true rfl) (fun _ _ s _ _ _ _ ls C0 _ hP hl => w3_thoseThere hI C0 S a0 a0n ha0 hf s.heap [] ls hP va_S.rf hl)
theorem in_X3_keptThere_X3 : ∀ w ∈ wsX30, w ∈ wsX3_keptThere := fun _ h => List.mem_cons_of_mem _ (List.mem_append_left _ (List.mem_append_right _ h))
theorem in_X3_keptThere_X2 : ∀ w ∈ wsX20, w ∈ wsX3_keptThere := fun _ h => List.mem_cons_of_mem _ (List.mem_append_right _ h)
theorem hd_X3_keptThere : yX3_keptThere.cls = RX3 ∧ yX3_keptThere.cls ≠ "java/lang/invoke/MethodHandle" ∧ yX3_keptThere.cls ≠ "java/lang/invoke/VarHandle" ∧ (parseMethodDescriptor yX3_keptThere.desc).map (fun d => d.parameters.length) = some 0 := by decide +kernel
abbrev rm3_keptThere : Room := { frames := 0, cells := 0, slots := 0, locals := 0 }
set_option maxHeartbeats 4000000 in
set_option maxRecDepth 100000 in
theorem w3_keptThere_b25 {p : Program} {l : Launch} {e : Env} {s : State} {m : MethodId} {args : Array Value} {below : List Frame} {meth : Method} {c : Code} {D : va_G} {K : Nat → ClassId} {ad : Nat → Nat} {tL : Nat} (hI : INJ NC ad) (C0 : Cx p s m args meth c RX3 wsX3_keptThere cX3_keptThere 3 (some .int) (KC D K tL (IW NC ad))) (S : Mem) {r : Int32} (k4 : Int32 → Int32 → Option Int32) (hk4 : ∀ (x1 : Int32) (x2 : Int32), k4 x1 x2 = some r → ∀ (H : Heap) (locs : List Loc) (ls : Array Slot), va_P D vwCl (wl NC ad (EC K ad S)) H → va_S (IW NC ad) s.heap H locs → lv_has ls 3 [(0, .ref (ad 0)), (1, .int x1), (2, .int x2)] → W p l e rm3_keptThere s m args below meth c H locs 0 0 (MQ below (va_Qi (fun (x : Int32) (u : Mem) => x = r ∧ u = S) (fun u t => va_P D vwCl (wl NC ad (EC K ad u)) t.heap) (IW NC ad)) args s 0 0 (IW NC ad)) (F0 m 4 ls [])) : ∀ (x1 : Int32) (x2 : Int32), f3_keptThere_b25 k4 S x1 x2 = some r → ∀ (H : Heap) (locs : List Loc) (ls : Array Slot), va_P D vwCl (wl NC ad (EC K ad S)) H → va_S (IW NC ad) s.heap H locs → lv_has ls 3 [(0, .ref (ad 0)), (1, .int x1), (2, .int x2)] → W p l e rm3_keptThere s m args below meth c H locs 0 0 (MQ below (va_Qi (fun (x : Int32) (u : Mem) => x = r ∧ u = S) (fun u t => va_P D vwCl (wl NC ad (EC K ad u)) t.heap) (IW NC ad)) args s 0 0 (IW NC ad)) (F0 m 25 ls []) := by
  have hx := C0.1
  have hb := C0.2.1
  have hts := C0.2.2.2.2.1
  have hown := C0.2.2.2.1
  have hKC := C0.2.2.2.2.2.2.2
  intro x1 x2 hf H locs ls hP hS hl
  rw [f3_keptThere_b25] at hf
  obtain ⟨v1, ev1⟩ : ∃ y : Int32, y = x2 + 1 := ⟨_, rfl⟩
  have hf := nm_at ev1 hf
  refine lv_iinc (v := v1) (lv' := [(2, .int v1), (0, .ref (ad 0)), (1, .int x1)]) hx hb dX3_keptThere_25 hl (k := 2) rfl (by rw [ev1]; rfl) (by decide) rfl (fun ls hl => ?_)
  refine lv_goto (tgt := 4) hx hb dX3_keptThere_28 (by decide) ?_
  exact hk4 x1 v1 hf H locs ls hP hS (lv_sub hl [1, 2, 0] rfl)
set_option maxHeartbeats 4000000 in
set_option maxRecDepth 100000 in
theorem w3_keptThere_b4 {p : Program} {l : Launch} {e : Env} {s : State} {m : MethodId} {args : Array Value} {below : List Frame} {meth : Method} {c : Code} {D : va_G} {K : Nat → ClassId} {ad : Nat → Nat} {tL : Nat} (hI : INJ NC ad) (C0 : Cx p s m args meth c RX3 wsX3_keptThere cX3_keptThere 3 (some .int) (KC D K tL (IW NC ad))) (S : Mem) {r : Int32} : ∀ (n : Nat), ∀ (x1 : Int32) (x2 : Int32), f3_keptThere_b4 S n x1 x2 = some r → ∀ (H : Heap) (locs : List Loc) (ls : Array Slot), va_P D vwCl (wl NC ad (EC K ad S)) H → va_S (IW NC ad) s.heap H locs → lv_has ls 3 [(0, .ref (ad 0)), (1, .int x1), (2, .int x2)] → W p l e rm3_keptThere s m args below meth c H locs 0 0 (MQ below (va_Qi (fun (x : Int32) (u : Mem) => x = r ∧ u = S) (fun u t => va_P D vwCl (wl NC ad (EC K ad u)) t.heap) (IW NC ad)) args s 0 0 (IW NC ad)) (F0 m 4 ls []) := by
  have hx := C0.1
  have hb := C0.2.1
  have hts := C0.2.2.2.2.1
  have hown := C0.2.2.2.1
  have hKC := C0.2.2.2.2.2.2.2
  intro n
  induction n with
  | zero =>
    intro x1 x2 hf
    rw [f3_keptThere_b4] at hf
    cases hf
  | succ n ih =>
    intro x1 x2 hf H locs ls hP hS hl
    rw [f3_keptThere_b4] at hf
    refine lv_iload_n hx hb dX3_keptThere_4 rfl (lv_at hl 2 rfl) ?_
    refine lv_iconst (v := 3) hx hb dX3_keptThere_5 (by decide) ?_
    refine lv_icmp_ge (tgt := 31) hx hb dX3_keptThere_6 (by decide) (fun c1 => ?_) (fun c1 => ?_)
    · have hf := ite_t hf c1
      refine lv_iload_n hx hb dX3_keptThere_31 rfl (lv_at hl 1 rfl) ?_
      exact ret_i C0 hP hS (Option.some.inj hf) rfl dX3_keptThere_32
    · have hf := ite_f hf c1
      refine lv_aload_n hx hb dX3_keptThere_9 rfl (lv_at hl 0 rfl) ?_
      refine x_get C0 hKC.1 hP (by decide) (EC_0 K ad S) rfl in_X3_keptThere_X3 6 (by decide) (List.mem_of_getElem? (i := 1) rfl) rfl dX3_keptThere_10 ?_
      refine lv_iload_n hx hb dX3_keptThere_13 rfl (lv_at hl 2 rfl) ?_
      obtain ⟨g2, hf⟩ := gd_some hf
      refine x_aald C0 hKC.1 hP (by decide) (EC_KA K ad S) (t0 := 3) rfl rfl g2 dX3_keptThere_14 ?_
      refine x_get C0 hKC.1 hP (ltS (ltK (inb_lt g2))) (EC_S K ad S (ltK (inb_lt g2))) rfl in_X3_keptThere_X2 1 (by decide) (List.mem_of_getElem? (i := 2) rfl) rfl dX3_keptThere_15 ?_
      refine lv_iconst (v := (-1)) hx hb dX3_keptThere_18 (by decide) ?_
      refine lv_icmp_eq (tgt := 25) hx hb dX3_keptThere_19 (by decide) (fun c3 => ?_) (fun c3 => ?_)
      · have hf := ite_t hf c3
        exact w3_keptThere_b25 hI C0 S (f3_keptThere_b4 S n) ih x1 x2 hf H locs ls hP hS (lv_sub hl [0, 1, 2] rfl)
      · have hf := ite_f hf c3
        obtain ⟨v4, ev4⟩ : ∃ y : Int32, y = x1 + 1 := ⟨_, rfl⟩
        have hf := nm_at ev4 hf
        refine lv_iinc (v := v4) (lv' := [(1, .int v4), (0, .ref (ad 0)), (2, .int x2)]) hx hb dX3_keptThere_22 hl (k := 1) rfl (by rw [ev4]; rfl) (by decide) rfl (fun ls hl => ?_)
        exact w3_keptThere_b25 hI C0 S (f3_keptThere_b4 S n) ih v4 x2 hf H locs ls hP hS (lv_sub hl [1, 0, 2] rfl)
set_option maxHeartbeats 4000000 in
set_option maxRecDepth 100000 in
theorem w3_keptThere {p : Program} {l : Launch} {e : Env} {s : State} {m : MethodId} {args : Array Value} {below : List Frame} {meth : Method} {c : Code} {D : va_G} {K : Nat → ClassId} {ad : Nat → Nat} {tL : Nat} (hI : INJ NC ad) (C0 : Cx p s m args meth c RX3 wsX3_keptThere cX3_keptThere 3 (some .int) (KC D K tL (IW NC ad))) (S : Mem) {r : Int32} : f3_keptThere S = some r → ∀ (H : Heap) (locs : List Loc) (ls : Array Slot), va_P D vwCl (wl NC ad (EC K ad S)) H → va_S (IW NC ad) s.heap H locs → lv_has ls 3 [(0, .ref (ad 0))] → W p l e rm3_keptThere s m args below meth c H locs 0 0 (MQ below (va_Qi (fun (x : Int32) (u : Mem) => x = r ∧ u = S) (fun u t => va_P D vwCl (wl NC ad (EC K ad u)) t.heap) (IW NC ad)) args s 0 0 (IW NC ad)) (F0 m 0 ls []) := by
  have hx := C0.1
  have hb := C0.2.1
  have hts := C0.2.2.2.2.1
  have hown := C0.2.2.2.1
  have hKC := C0.2.2.2.2.2.2.2
  intro  hf H locs ls hP hS hl
  rw [f3_keptThere] at hf
  refine lv_iconst (v := 0) hx hb dX3_keptThere_0 (by decide) ?_
  refine lv_istore_n (lv' := [(1, .int 0), (0, .ref (ad 0))]) hx hb dX3_keptThere_1 rfl hl (by decide) rfl (fun ls hl => ?_)
  refine lv_iconst (v := 0) hx hb dX3_keptThere_2 (by decide) ?_
  refine lv_istore_n (lv' := [(2, .int 0), (1, .int 0), (0, .ref (ad 0))]) hx hb dX3_keptThere_3 rfl hl (by decide) rfl (fun ls hl => ?_)
  exact w3_keptThere_b4 hI C0 S FU 0 0 hf H locs ls hP hS (lv_sub hl [2, 1, 0] rfl)
theorem m3_keptThere (l : Launch) (D : va_G) (K : Nat → ClassId) (ad : Nat → Nat) (tL : Nat) (hI : INJ NC ad) (S : Mem) {r : Int32} (hf : f3_keptThere S = some r) : SysI l yX3_keptThere wsX3_keptThere rm3_keptThere D NC ad (EC K ad) (KC D K tL (IW NC ad)) [.ref (ad 0)] S r S :=
  met_of (own := RX3) (by decide) rfl rfl (Nat.le_of_ble_eq_true rfl) (fun _ _ s _ _ _ _ ls C0 _ hP hl => w3_keptThere hI C0 S hf s.heap [] ls hP va_S.rf hl)
theorem in_X0_ofKind_X0 : ∀ w ∈ wsX00, w ∈ wsX0_ofKind := fun _ h => List.mem_cons_of_mem _ (List.mem_append_right _ h)
theorem hd_X0_ofKind : yX0_ofKind.cls = RX0 ∧ yX0_ofKind.cls ≠ "java/lang/invoke/MethodHandle" ∧ yX0_ofKind.cls ≠ "java/lang/invoke/VarHandle" ∧ (parseMethodDescriptor yX0_ofKind.desc).map (fun d => d.parameters.length) = some 1 := by decide +kernel
abbrev rm0_ofKind : Room := { frames := 1, cells := 0, slots := 0, locals := 21 }
set_option maxHeartbeats 4000000 in
set_option maxRecDepth 100000 in
theorem w0_ofKind_b28 {p : Program} {l : Launch} {e : Env} {s : State} {m : MethodId} {args : Array Value} {below : List Frame} {meth : Method} {c : Code} {D : va_G} {K : Nat → ClassId} {ad : Nat → Nat} {tL : Nat} (hI : INJ NC ad) (C0 : Cx p s m args meth c RX0 wsX0_ofKind cX0_ofKind 4 (some .int) (KC D K tL (IW NC ad))) (S : Mem) {r : Int32} (k4 : Int32 → Int32 → Int32 → Option Int32) (hk4 : ∀ (x1 : Int32) (x2 : Int32) (x3 : Int32), k4 x1 x2 x3 = some r → ∀ (H : Heap) (locs : List Loc) (ls : Array Slot), va_P D vwCl (wl NC ad (EC K ad S)) H → va_S (IW NC ad) s.heap H locs → lv_has ls 4 [(0, .ref (ad 15)), (1, .int x1), (2, .int x2), (3, .int x3)] → W p l e rm0_ofKind s m args below meth c H locs 0 0 (MQ below (va_Qi (fun (x : Int32) (u : Mem) => x = r ∧ u = S) (fun u t => va_P D vwCl (wl NC ad (EC K ad u)) t.heap) (IW NC ad)) args s 0 0 (IW NC ad)) (F0 m 4 ls [])) : ∀ (x1 : Int32) (x2 : Int32) (x3 : Int32), f0_ofKind_b28 k4 S x1 x2 x3 = some r → ∀ (H : Heap) (locs : List Loc) (ls : Array Slot), va_P D vwCl (wl NC ad (EC K ad S)) H → va_S (IW NC ad) s.heap H locs → lv_has ls 4 [(0, .ref (ad 15)), (1, .int x1), (2, .int x2), (3, .int x3)] → W p l e rm0_ofKind s m args below meth c H locs 0 0 (MQ below (va_Qi (fun (x : Int32) (u : Mem) => x = r ∧ u = S) (fun u t => va_P D vwCl (wl NC ad (EC K ad u)) t.heap) (IW NC ad)) args s 0 0 (IW NC ad)) (F0 m 28 ls []) := by
  have hx := C0.1
  have hb := C0.2.1
  have hts := C0.2.2.2.2.1
  have hown := C0.2.2.2.1
  have hKC := C0.2.2.2.2.2.2.2
  intro x1 x2 x3 hf H locs ls hP hS hl
  rw [f0_ofKind_b28] at hf
  obtain ⟨v1, ev1⟩ : ∃ y : Int32, y = x3 + 1 := ⟨_, rfl⟩
  have hf := nm_at ev1 hf
  refine lv_iinc (v := v1) (lv' := [(3, .int v1), (0, .ref (ad 15)), (1, .int x1), (2, .int x2)]) hx hb dX0_ofKind_28 hl (k := 3) rfl (by rw [ev1]; rfl) (by decide) rfl (fun ls hl => ?_)
  refine lv_goto (tgt := 4) hx hb dX0_ofKind_31 (by decide) ?_
  exact hk4 x1 x2 v1 hf H locs ls hP hS (lv_sub hl [1, 2, 3, 0] rfl)
set_option maxHeartbeats 4000000 in
set_option maxRecDepth 100000 in
theorem w0_ofKind_b4 {p : Program} {l : Launch} {e : Env} {s : State} {m : MethodId} {args : Array Value} {below : List Frame} {meth : Method} {c : Code} {D : va_G} {K : Nat → ClassId} {ad : Nat → Nat} {tL : Nat} (hI : INJ NC ad) (C0 : Cx p s m args meth c RX0 wsX0_ofKind cX0_ofKind 4 (some .int) (KC D K tL (IW NC ad))) (S : Mem) {r : Int32} : ∀ (n : Nat), ∀ (x1 : Int32) (x2 : Int32) (x3 : Int32), f0_ofKind_b4 S n x1 x2 x3 = some r → ∀ (H : Heap) (locs : List Loc) (ls : Array Slot), va_P D vwCl (wl NC ad (EC K ad S)) H → va_S (IW NC ad) s.heap H locs → lv_has ls 4 [(0, .ref (ad 15)), (1, .int x1), (2, .int x2), (3, .int x3)] → W p l e rm0_ofKind s m args below meth c H locs 0 0 (MQ below (va_Qi (fun (x : Int32) (u : Mem) => x = r ∧ u = S) (fun u t => va_P D vwCl (wl NC ad (EC K ad u)) t.heap) (IW NC ad)) args s 0 0 (IW NC ad)) (F0 m 4 ls []) := by
  have hx := C0.1
  have hb := C0.2.1
  have hts := C0.2.2.2.2.1
  have hown := C0.2.2.2.1
  have hKC := C0.2.2.2.2.2.2.2
  intro n
  induction n with
  | zero =>
    intro x1 x2 x3 hf
    rw [f0_ofKind_b4] at hf
    cases hf
  | succ n ih =>
    intro x1 x2 x3 hf H locs ls hP hS hl
    rw [f0_ofKind_b4] at hf
    refine lv_iload_n hx hb dX0_ofKind_4 rfl (lv_at hl 3 rfl) ?_
    refine lv_aload_n hx hb dX0_ofKind_5 rfl (lv_at hl 0 rfl) ?_
    refine x_get C0 hKC.1 hP (by decide) (EC_H K ad S) rfl in_X0_ofKind_X0 3 (by decide) (List.mem_of_getElem? (i := 1) rfl) rfl dX0_ofKind_6 ?_
    refine lv_icmp_ge (tgt := 34) hx hb dX0_ofKind_9 (by decide) (fun c1 => ?_) (fun c1 => ?_)
    · have hf := ite_t hf c1
      refine lv_iload_n hx hb dX0_ofKind_34 rfl (lv_at hl 2 rfl) ?_
      exact ret_i C0 hP hS (Option.some.inj hf) rfl dX0_ofKind_35
    · have hf := ite_f hf c1
      refine lv_aload_n hx hb dX0_ofKind_12 rfl (lv_at hl 0 rfl) ?_
      refine x_get C0 hKC.1 hP (by decide) (EC_H K ad S) rfl in_X0_ofKind_X0 0 (by decide) (List.mem_of_getElem? (i := 2) rfl) rfl dX0_ofKind_13 ?_
      refine lv_iload_n hx hb dX0_ofKind_16 rfl (lv_at hl 3 rfl) ?_
      obtain ⟨g2, hf⟩ := gd_some hf
      refine x_iald C0 hKC.1 hP (IC_16 K ad) (t0 := 0) rfl g2 dX0_ofKind_17 ?_
      refine lv_iload_n hx hb dX0_ofKind_18 rfl (lv_at hl 1 rfl) ?_
      obtain ⟨v4, h3, hf⟩ := b1_some hf
      refine sys_i hS (sys_runN (As := [.int (gi S 16 (ix x3)), .int x1]) (rest := []) C0 KC_ok hP hS (m3_isA l D K ad tL hI S (gi S 16 (ix x3)) x1 h3) hKC.2.1.2.2.1 gX0_ofKind_X3_isA_n38 (List.mem_of_getElem? (i := 3) rfl) (List.mem_of_getElem? (i := 4) rfl) rfl ⟨rfl, rfl⟩ hd_X3_isA ⟨Nat.le_of_ble_eq_true rfl, Nat.le_of_ble_eq_true rfl⟩ hl.1 rfl (Nat.le_of_ble_eq_true rfl) dX0_ofKind_19 ⟨Nat.le_refl _, Nat.le_refl _⟩) (fun H locs hP hS => ?_)
      refine lv_if_eq (tgt := 28) hx hb dX0_ofKind_22 (by decide) (fun c5 => ?_) (fun c5 => ?_)
      · have hf := ite_t hf c5
        exact w0_ofKind_b28 hI C0 S (f0_ofKind_b4 S n) ih x1 x2 x3 hf H locs ls hP hS (lv_sub hl [0, 1, 2, 3] rfl)
      · have hf := ite_f hf c5
        obtain ⟨v6, ev6⟩ : ∃ y : Int32, y = x2 + 1 := ⟨_, rfl⟩
        have hf := nm_at ev6 hf
        refine lv_iinc (v := v6) (lv' := [(2, .int v6), (0, .ref (ad 15)), (1, .int x1), (3, .int x3)]) hx hb dX0_ofKind_25 hl (k := 2) rfl (by rw [ev6]; rfl) (by decide) rfl (fun ls hl => ?_)
        exact w0_ofKind_b28 hI C0 S (f0_ofKind_b4 S n) ih x1 v6 x3 hf H locs ls hP hS (lv_sub hl [1, 2, 0, 3] rfl)
set_option maxHeartbeats 4000000 in
set_option maxRecDepth 100000 in
theorem w0_ofKind {p : Program} {l : Launch} {e : Env} {s : State} {m : MethodId} {args : Array Value} {below : List Frame} {meth : Method} {c : Code} {D : va_G} {K : Nat → ClassId} {ad : Nat → Nat} {tL : Nat} (hI : INJ NC ad) (C0 : Cx p s m args meth c RX0 wsX0_ofKind cX0_ofKind 4 (some .int) (KC D K tL (IW NC ad))) (S : Mem) {r : Int32} : ∀ (x1 : Int32), f0_ofKind S x1 = some r → ∀ (H : Heap) (locs : List Loc) (ls : Array Slot), va_P D vwCl (wl NC ad (EC K ad S)) H → va_S (IW NC ad) s.heap H locs → lv_has ls 4 [(0, .ref (ad 15)), (1, .int x1)] → W p l e rm0_ofKind s m args below meth c H locs 0 0 (MQ below (va_Qi (fun (x : Int32) (u : Mem) => x = r ∧ u = S) (fun u t => va_P D vwCl (wl NC ad (EC K ad u)) t.heap) (IW NC ad)) args s 0 0 (IW NC ad)) (F0 m 0 ls []) := by
  have hx := C0.1
  have hb := C0.2.1
  have hts := C0.2.2.2.2.1
  have hown := C0.2.2.2.1
  have hKC := C0.2.2.2.2.2.2.2
  intro x1 hf H locs ls hP hS hl
  rw [f0_ofKind] at hf
  refine lv_iconst (v := 0) hx hb dX0_ofKind_0 (by decide) ?_
  refine lv_istore_n (lv' := [(2, .int 0), (0, .ref (ad 15)), (1, .int x1)]) hx hb dX0_ofKind_1 rfl hl (by decide) rfl (fun ls hl => ?_)
  refine lv_iconst (v := 0) hx hb dX0_ofKind_2 (by decide) ?_
  refine lv_istore_n (lv' := [(3, .int 0), (2, .int 0), (0, .ref (ad 15)), (1, .int x1)]) hx hb dX0_ofKind_3 rfl hl (by decide) rfl (fun ls hl => ?_)
  exact w0_ofKind_b4 hI C0 S FU x1 0 0 hf H locs ls hP hS (lv_sub hl [2, 3, 1, 0] rfl)
theorem m0_ofKind (l : Launch) (D : va_G) (K : Nat → ClassId) (ad : Nat → Nat) (tL : Nat) (hI : INJ NC ad) (S : Mem) (x1 : Int32) {r : Int32} (hf : f0_ofKind S x1 = some r) : SysI l yX0_ofKind wsX0_ofKind rm0_ofKind D NC ad (EC K ad) (KC D K tL (IW NC ad)) [.ref (ad 15), .int x1] S r S :=
  met_of (own := RX0) (by decide) rfl rfl (Nat.le_of_ble_eq_true rfl) (fun _ _ s _ _ _ _ ls C0 _ hP hl => w0_ofKind hI C0 S x1 hf s.heap [] ls hP va_S.rf hl)
theorem in_X3_count_X3 : ∀ w ∈ wsX30, w ∈ wsX3_count := fun _ h => List.mem_cons_of_mem _ (List.mem_append_left _ (List.mem_append_left _ (List.mem_append_left _ (List.mem_append_right _ h))))
theorem in_X3_count_X0 : ∀ w ∈ wsX00, w ∈ wsX3_count := fun _ h => List.mem_cons_of_mem _ (List.mem_append_left _ (List.mem_append_left _ (List.mem_append_right _ h)))
theorem in_X3_count_X1 : ∀ w ∈ wsX10, w ∈ wsX3_count := fun _ h => List.mem_cons_of_mem _ (List.mem_append_left _ (List.mem_append_right _ h))
theorem in_X3_count_X2 : ∀ w ∈ wsX20, w ∈ wsX3_count := fun _ h => List.mem_cons_of_mem _ (List.mem_append_right _ h)
theorem hd_X3_count : yX3_count.cls = RX3 ∧ yX3_count.cls ≠ "java/lang/invoke/MethodHandle" ∧ yX3_count.cls ≠ "java/lang/invoke/VarHandle" ∧ (parseMethodDescriptor yX3_count.desc).map (fun d => d.parameters.length) = some 1 := by decide +kernel
abbrev rm3_count : Room := { frames := 4, cells := 0, slots := 0, locals := 99 }
set_option maxHeartbeats 4000000 in
set_option maxRecDepth 100000 in
theorem w3_count {p : Program} {l : Launch} {e : Env} {s : State} {m : MethodId} {args : Array Value} {below : List Frame} {meth : Method} {c : Code} {D : va_G} {K : Nat → ClassId} {ad : Nat → Nat} {tL : Nat} (hI : INJ NC ad) (C0 : Cx p s m args meth c RX3 wsX3_count cX3_count 3 (some .int) (KC D K tL (IW NC ad))) (S : Mem) {r : Int32} : ∀ (x1 : Int32), f3_count S x1 = some r → ∀ (H : Heap) (locs : List Loc) (ls : Array Slot), va_P D vwCl (wl NC ad (EC K ad S)) H → va_S (IW NC ad) s.heap H locs → lv_has ls 3 [(0, .ref (ad 0)), (1, .int x1)] → W p l e rm3_count s m args below meth c H locs 0 0 (MQ below (va_Qi (fun (x : Int32) (u : Mem) => x = r ∧ u = S) (fun u t => va_P D vwCl (wl NC ad (EC K ad u)) t.heap) (IW NC ad)) args s 0 0 (IW NC ad)) (F0 m 0 ls []) := by
  have hx := C0.1
  have hb := C0.2.1
  have hts := C0.2.2.2.2.1
  have hown := C0.2.2.2.1
  have hKC := C0.2.2.2.2.2.2.2
  intro x1 hf H locs ls hP hS hl
  rw [f3_count] at hf
  refine lv_aload_n hx hb dX3_count_0 rfl (lv_at hl 0 rfl) ?_
  refine x_get C0 hKC.1 hP (by decide) (EC_0 K ad S) rfl in_X3_count_X3 5 (by decide) (List.mem_of_getElem? (i := 1) rfl) rfl dX3_count_1 ?_
  obtain ⟨q2, h1, hf⟩ := b1_some hf
  obtain ⟨g3, hf⟩ := gd_some hf
  refine sys_r hS (sys_runV (As := []) (rest := []) C0 KC_ok hKC.1 hP hS (ltS (by decide : 0 < 4)) (EC_S K ad S (by decide : 0 < 4)) rfl (m2_now l D K ad tL hI S 0 (by decide : 0 < 4) h1) gX3_count_X2_now rfl ⟨rfl, rfl⟩ hd_X2_now ⟨Nat.le_of_ble_eq_true rfl, Nat.le_of_ble_eq_true rfl⟩ hl.1 rfl (Nat.le_of_ble_eq_true rfl) dX3_count_4 ⟨Nat.le_refl _, Nat.le_refl _⟩) (fun H locs hP hS => ?_)
  refine lv_astore_n (lv' := [(2, .ref (ad (30 + q2))), (0, .ref (ad 0)), (1, .int x1)]) hx hb dX3_count_7 rfl hl (by decide) rfl (fun ls hl => ?_)
  refine lv_iload_n hx hb dX3_count_8 rfl (lv_at hl 2 rfl) ?_
  by_cases c4 : x1 = 0
  · have hf := ite_t hf c4
    refine lv_tableIn (off := 63) (tgt := 72) hx hb dX3_count_9 (by rw [c4]; decide) (by rw [c4]; decide) (by rw [c4]; rfl) (by decide) ?_
    refine lv_aload_n hx hb dX3_count_72 rfl (lv_at hl 1 rfl) ?_
    refine x_get C0 hKC.1 hP (by decide) (EC_0 K ad S) rfl in_X3_count_X3 4 (by decide) (List.mem_of_getElem? (i := 2) rfl) rfl dX3_count_73 ?_
    refine x_get C0 hKC.1 hP (by decide) (EC_H K ad S) rfl in_X3_count_X0 3 (by decide) (List.mem_of_getElem? (i := 3) rfl) rfl dX3_count_76 ?_
    exact ret_i C0 hP hS (Option.some.inj hf) rfl dX3_count_79
  · have hf := ite_f hf c4
    by_cases c5 : x1 = 1
    · have hf := ite_t hf c5
      refine lv_tableIn (off := 71) (tgt := 80) hx hb dX3_count_9 (by rw [c5]; decide) (by rw [c5]; decide) (by rw [c5]; rfl) (by decide) ?_
      refine lv_aload_n hx hb dX3_count_80 rfl (lv_at hl 0 rfl) ?_
      refine x_get C0 hKC.1 hP (ltM (of_decide_eq_true g3)) (EC_M K ad S (of_decide_eq_true g3)) rfl in_X3_count_X1 1 (by decide) (List.mem_of_getElem? (i := 4) rfl) rfl dX3_count_81 ?_
      exact ret_i C0 hP hS (Option.some.inj hf) rfl dX3_count_84
    · have hf := ite_f hf c5
      by_cases c6 : x1 = 2
      · have hf := ite_t hf c6
        refine lv_tableIn (off := 76) (tgt := 85) hx hb dX3_count_9 (by rw [c6]; decide) (by rw [c6]; decide) (by rw [c6]; rfl) (by decide) ?_
        refine lv_aload_n hx hb dX3_count_85 rfl (lv_at hl 1 rfl) ?_
        refine x_get C0 hKC.1 hP (by decide) (EC_0 K ad S) rfl in_X3_count_X3 5 (by decide) (List.mem_of_getElem? (i := 1) rfl) rfl dX3_count_86 ?_
        refine x_get C0 hKC.1 hP (ltS (by decide : 0 < 4)) (EC_S K ad S (by decide : 0 < 4)) rfl in_X3_count_X2 1 (by decide) (List.mem_of_getElem? (i := 5) rfl) rfl dX3_count_89 ?_
        exact ret_i C0 hP hS (Option.some.inj hf) rfl dX3_count_92
      · have hf := ite_f hf c6
        by_cases c7 : x1 = 3
        · have hf := ite_t hf c7
          refine lv_tableIn (off := 84) (tgt := 93) hx hb dX3_count_9 (by rw [c7]; decide) (by rw [c7]; decide) (by rw [c7]; rfl) (by decide) ?_
          refine lv_aload_n hx hb dX3_count_93 rfl (lv_at hl 0 rfl) ?_
          refine x_get C0 hKC.1 hP (ltM (of_decide_eq_true g3)) (EC_M K ad S (of_decide_eq_true g3)) rfl in_X3_count_X1 2 (by decide) (List.mem_of_getElem? (i := 6) rfl) rfl dX3_count_94 ?_
          exact ret_i C0 hP hS (Option.some.inj hf) rfl dX3_count_97
        · have hf := ite_f hf c7
          by_cases c8 : x1 = 4
          · have hf := ite_t hf c8
            refine lv_tableIn (off := 89) (tgt := 98) hx hb dX3_count_9 (by rw [c8]; decide) (by rw [c8]; decide) (by rw [c8]; rfl) (by decide) ?_
            refine lv_aload_n hx hb dX3_count_98 rfl (lv_at hl 0 rfl) ?_
            refine lv_aload_n hx hb dX3_count_99 rfl (lv_at hl 1 rfl) ?_
            refine x_get C0 hKC.1 hP (by decide) (EC_0 K ad S) rfl in_X3_count_X3 4 (by decide) (List.mem_of_getElem? (i := 2) rfl) rfl dX3_count_100 ?_
            obtain ⟨v10, h9, hf⟩ := b1_some hf
            refine sys_i hS (sys_runV (As := [.ref (ad 15)]) (rest := []) C0 KC_ok hKC.1 hP hS (ltM (of_decide_eq_true g3)) (EC_M K ad S (of_decide_eq_true g3)) rfl (m1_inJars l D K ad tL hI S q2 (of_decide_eq_true g3) h9) gX3_count_X1_inJars rfl ⟨rfl, rfl⟩ hd_X1_inJars ⟨Nat.le_of_ble_eq_true rfl, Nat.le_of_ble_eq_true rfl⟩ hl.1 rfl (Nat.le_of_ble_eq_true rfl) dX3_count_103 ⟨Nat.le_refl _, Nat.le_refl _⟩) (fun H locs hP hS => ?_)
            exact ret_i C0 hP hS (Option.some.inj hf) rfl dX3_count_106
          · have hf := ite_f hf c8
            by_cases c11 : x1 = 5
            · have hf := ite_t hf c11
              refine lv_tableIn (off := 98) (tgt := 107) hx hb dX3_count_9 (by rw [c11]; decide) (by rw [c11]; decide) (by rw [c11]; rfl) (by decide) ?_
              refine lv_aload_n hx hb dX3_count_107 rfl (lv_at hl 0 rfl) ?_
              refine lv_aload_n hx hb dX3_count_108 rfl (lv_at hl 1 rfl) ?_
              refine x_get C0 hKC.1 hP (by decide) (EC_0 K ad S) rfl in_X3_count_X3 4 (by decide) (List.mem_of_getElem? (i := 2) rfl) rfl dX3_count_109 ?_
              obtain ⟨v13, h12, hf⟩ := b1_some hf
              refine sys_i hS (sys_runV (As := [.ref (ad 15)]) (rest := []) C0 KC_ok hKC.1 hP hS (ltM (of_decide_eq_true g3)) (EC_M K ad S (of_decide_eq_true g3)) rfl (m1_worksOff l D K ad tL hI S q2 (of_decide_eq_true g3) h12) gX3_count_X1_worksOff rfl ⟨rfl, rfl⟩ hd_X1_worksOff ⟨Nat.le_of_ble_eq_true rfl, Nat.le_of_ble_eq_true rfl⟩ hl.1 rfl (Nat.le_of_ble_eq_true rfl) dX3_count_112 ⟨Nat.le_refl _, Nat.le_refl _⟩) (fun H locs hP hS => ?_)
              obtain ⟨v15, h14, hf⟩ := b1_some hf
              refine sys_i hS (sys_runS (As := [.int v13]) (rest := []) C0 KC_ok hP hS (m6_bitCount l D K ad tL hI S v13 h14) gX3_count_J6_bitCount_0f7a4 rfl ⟨rfl, rfl⟩ hd_J6_bitCount_0f7a4 ⟨Nat.le_of_ble_eq_true rfl, Nat.le_of_ble_eq_true rfl⟩ hl.1 rfl (Nat.le_of_ble_eq_true rfl) dX3_count_115 ⟨Nat.le_refl _, Nat.le_refl _⟩) (fun H locs hP hS => ?_)
              exact ret_i C0 hP hS (Option.some.inj hf) rfl dX3_count_118
            · have hf := ite_f hf c11
              by_cases c16 : x1 = 6
              · have hf := ite_t hf c16
                refine lv_tableIn (off := 110) (tgt := 119) hx hb dX3_count_9 (by rw [c16]; decide) (by rw [c16]; decide) (by rw [c16]; rfl) (by decide) ?_
                refine lv_aload_n hx hb dX3_count_119 rfl (lv_at hl 0 rfl) ?_
                refine lv_aload_n hx hb dX3_count_120 rfl (lv_at hl 1 rfl) ?_
                refine x_get C0 hKC.1 hP (by decide) (EC_0 K ad S) rfl in_X3_count_X3 4 (by decide) (List.mem_of_getElem? (i := 2) rfl) rfl dX3_count_121 ?_
                obtain ⟨v18, h17, hf⟩ := b1_some hf
                refine sys_i hS (sys_runV (As := [.ref (ad 15)]) (rest := []) C0 KC_ok hKC.1 hP hS (ltM (of_decide_eq_true g3)) (EC_M K ad S (of_decide_eq_true g3)) rfl (m1_brought l D K ad tL hI S q2 (of_decide_eq_true g3) h17) gX3_count_X1_brought rfl ⟨rfl, rfl⟩ hd_X1_brought ⟨Nat.le_of_ble_eq_true rfl, Nat.le_of_ble_eq_true rfl⟩ hl.1 rfl (Nat.le_of_ble_eq_true rfl) dX3_count_124 ⟨Nat.le_refl _, Nat.le_refl _⟩) (fun H locs hP hS => ?_)
                exact ret_i C0 hP hS (Option.some.inj hf) rfl dX3_count_127
              · have hf := ite_f hf c16
                by_cases c19 : x1 = 7
                · have hf := ite_t hf c19
                  refine lv_tableIn (off := 119) (tgt := 128) hx hb dX3_count_9 (by rw [c19]; decide) (by rw [c19]; decide) (by rw [c19]; rfl) (by decide) ?_
                  refine lv_aload_n hx hb dX3_count_128 rfl (lv_at hl 1 rfl) ?_
                  refine x_get C0 hKC.1 hP (by decide) (EC_0 K ad S) rfl in_X3_count_X3 1 (by decide) (List.mem_of_getElem? (i := 7) rfl) rfl dX3_count_129 ?_
                  obtain ⟨v21, h20, hf⟩ := b1_some hf
                  refine sys_i hS (sys_runS (As := [.ref (ad 8)]) (rest := []) C0 KC_ok hP hS (m3_thoseThere l D K ad tL hI S 8 6 (IC_8 K ad) h20) gX3_count_X3_thoseThere rfl ⟨rfl, rfl⟩ hd_X3_thoseThere ⟨Nat.le_of_ble_eq_true rfl, Nat.le_of_ble_eq_true rfl⟩ hl.1 rfl (Nat.le_of_ble_eq_true rfl) dX3_count_132 ⟨Nat.le_refl _, Nat.le_refl _⟩) (fun H locs hP hS => ?_)
                  exact ret_i C0 hP hS (Option.some.inj hf) rfl dX3_count_135
                · have hf := ite_f hf c19
                  by_cases c22 : x1 = 8
                  · have hf := ite_t hf c22
                    refine lv_tableIn (off := 127) (tgt := 136) hx hb dX3_count_9 (by rw [c22]; decide) (by rw [c22]; decide) (by rw [c22]; rfl) (by decide) ?_
                    refine lv_aload_n hx hb dX3_count_136 rfl (lv_at hl 1 rfl) ?_
                    refine x_get C0 hKC.1 hP (by decide) (EC_0 K ad S) rfl in_X3_count_X3 3 (by decide) (List.mem_of_getElem? (i := 8) rfl) rfl dX3_count_137 ?_
                    obtain ⟨v24, h23, hf⟩ := b1_some hf
                    refine sys_i hS (sys_runS (As := [.ref (ad 14)]) (rest := []) C0 KC_ok hP hS (m3_thoseThere l D K ad tL hI S 14 4 (IC_14 K ad) h23) gX3_count_X3_thoseThere rfl ⟨rfl, rfl⟩ hd_X3_thoseThere ⟨Nat.le_of_ble_eq_true rfl, Nat.le_of_ble_eq_true rfl⟩ hl.1 rfl (Nat.le_of_ble_eq_true rfl) dX3_count_140 ⟨Nat.le_refl _, Nat.le_refl _⟩) (fun H locs hP hS => ?_)
                    exact ret_i C0 hP hS (Option.some.inj hf) rfl dX3_count_143
                  · have hf := ite_f hf c22
                    by_cases c25 : x1 = 9
                    · have hf := ite_t hf c25
                      refine lv_tableIn (off := 135) (tgt := 144) hx hb dX3_count_9 (by rw [c25]; decide) (by rw [c25]; decide) (by rw [c25]; rfl) (by decide) ?_
                      refine lv_aload_n hx hb dX3_count_144 rfl (lv_at hl 1 rfl) ?_
                      obtain ⟨v27, h26, hf⟩ := b1_some hf
                      refine sys_i hS (sys_runV (As := []) (rest := []) C0 KC_ok hKC.1 hP hS (by decide) (EC_0 K ad S) rfl (m3_keptThere l D K ad tL hI S h26) gX3_count_X3_keptThere rfl ⟨rfl, rfl⟩ hd_X3_keptThere ⟨Nat.le_of_ble_eq_true rfl, Nat.le_of_ble_eq_true rfl⟩ hl.1 rfl (Nat.le_of_ble_eq_true rfl) dX3_count_145 ⟨Nat.le_refl _, Nat.le_refl _⟩) (fun H locs hP hS => ?_)
                      exact ret_i C0 hP hS (Option.some.inj hf) rfl dX3_count_148
                    · have hf := ite_f hf c25
                      by_cases c28 : x1 = 10
                      · have hf := ite_t hf c28
                        refine lv_tableIn (off := 140) (tgt := 149) hx hb dX3_count_9 (by rw [c28]; decide) (by rw [c28]; decide) (by rw [c28]; rfl) (by decide) ?_
                        refine lv_aload_n hx hb dX3_count_149 rfl (lv_at hl 1 rfl) ?_
                        refine x_get C0 hKC.1 hP (by decide) (EC_0 K ad S) rfl in_X3_count_X3 4 (by decide) (List.mem_of_getElem? (i := 2) rfl) rfl dX3_count_150 ?_
                        refine lv_iconst (v := 1) hx hb dX3_count_153 (by decide) ?_
                        obtain ⟨v30, h29, hf⟩ := b1_some hf
                        refine sys_i hS (sys_runV (As := [.int 1]) (rest := []) C0 KC_ok hKC.1 hP hS (by decide) (EC_H K ad S) rfl (m0_ofKind l D K ad tL hI S 1 h29) gX3_count_X0_ofKind rfl ⟨rfl, rfl⟩ hd_X0_ofKind ⟨Nat.le_of_ble_eq_true rfl, Nat.le_of_ble_eq_true rfl⟩ hl.1 rfl (Nat.le_of_ble_eq_true rfl) dX3_count_154 ⟨Nat.le_refl _, Nat.le_refl _⟩) (fun H locs hP hS => ?_)
                        exact ret_i C0 hP hS (Option.some.inj hf) rfl dX3_count_157
                      · have hf := ite_f hf c28
                        by_cases c31 : x1 = 11
                        · have hf := ite_t hf c31
                          refine lv_tableIn (off := 149) (tgt := 158) hx hb dX3_count_9 (by rw [c31]; decide) (by rw [c31]; decide) (by rw [c31]; rfl) (by decide) ?_
                          refine lv_aload_n hx hb dX3_count_158 rfl (lv_at hl 1 rfl) ?_
                          refine x_get C0 hKC.1 hP (by decide) (EC_0 K ad S) rfl in_X3_count_X3 4 (by decide) (List.mem_of_getElem? (i := 2) rfl) rfl dX3_count_159 ?_
                          refine lv_iconst (v := 2) hx hb dX3_count_162 (by decide) ?_
                          obtain ⟨v33, h32, hf⟩ := b1_some hf
                          refine sys_i hS (sys_runV (As := [.int 2]) (rest := []) C0 KC_ok hKC.1 hP hS (by decide) (EC_H K ad S) rfl (m0_ofKind l D K ad tL hI S 2 h32) gX3_count_X0_ofKind rfl ⟨rfl, rfl⟩ hd_X0_ofKind ⟨Nat.le_of_ble_eq_true rfl, Nat.le_of_ble_eq_true rfl⟩ hl.1 rfl (Nat.le_of_ble_eq_true rfl) dX3_count_163 ⟨Nat.le_refl _, Nat.le_refl _⟩) (fun H locs hP hS => ?_)
                          exact ret_i C0 hP hS (Option.some.inj hf) rfl dX3_count_166
                        · have hf := ite_f hf c31
                          refine lv_tableOut (tgt := 167) hx hb dX3_count_9 (by have h0 := lv_neT (a := 0) c4 rfl; have h1 := lv_neT (a := 1) c5 rfl; have h2 := lv_neT (a := 2) c6 rfl; have h3 := lv_neT (a := 3) c7 rfl; have h4 := lv_neT (a := 4) c8 rfl; have h5 := lv_neT (a := 5) c11 rfl; have h6 := lv_neT (a := 6) c16 rfl; have h7 := lv_neT (a := 7) c19 rfl; have h8 := lv_neT (a := 8) c22 rfl; have h9 := lv_neT (a := 9) c25 rfl; have h10 := lv_neT (a := 10) c28 rfl; have h11 := lv_neT (a := 11) c31 rfl; omega) (by decide) ?_
                          refine lv_iconst (v := (-1)) hx hb dX3_count_167 (by decide) ?_
                          exact ret_i C0 hP hS (Option.some.inj hf) rfl dX3_count_168
theorem m3_count (l : Launch) (D : va_G) (K : Nat → ClassId) (ad : Nat → Nat) (tL : Nat) (hI : INJ NC ad) (S : Mem) (x1 : Int32) {r : Int32} (hf : f3_count S x1 = some r) : SysI l yX3_count wsX3_count rm3_count D NC ad (EC K ad) (KC D K tL (IW NC ad)) [.ref (ad 0), .int x1] S r S :=
  met_of (own := RX3) (by decide) rfl rfl (Nat.le_of_ble_eq_true rfl) (fun _ _ s _ _ _ _ ls C0 _ hP hl => w3_count hI C0 S x1 hf s.heap [] ls hP va_S.rf hl)
theorem in_X3_finding_X3 : ∀ w ∈ wsX30, w ∈ wsX3_finding := fun _ h => List.mem_cons_of_mem _ (List.mem_append_right _ h)
theorem hd_X3_finding : yX3_finding.cls = RX3 ∧ yX3_finding.cls ≠ "java/lang/invoke/MethodHandle" ∧ yX3_finding.cls ≠ "java/lang/invoke/VarHandle" ∧ (parseMethodDescriptor yX3_finding.desc).map (fun d => d.parameters.length) = some 0 := by decide +kernel
abbrev rm3_finding : Room := { frames := 0, cells := 0, slots := 0, locals := 0 }
set_option maxHeartbeats 4000000 in
set_option maxRecDepth 100000 in
theorem w3_finding {p : Program} {l : Launch} {e : Env} {s : State} {m : MethodId} {args : Array Value} {below : List Frame} {meth : Method} {c : Code} {D : va_G} {K : Nat → ClassId} {ad : Nat → Nat} {tL : Nat} (hI : INJ NC ad) (C0 : Cx p s m args meth c RX3 wsX3_finding cX3_finding 1 (some .int) (KC D K tL (IW NC ad))) (S : Mem) {r : Int32} : f3_finding S = some r → ∀ (H : Heap) (locs : List Loc) (ls : Array Slot), va_P D vwCl (wl NC ad (EC K ad S)) H → va_S (IW NC ad) s.heap H locs → lv_has ls 1 [(0, .ref (ad 0))] → W p l e rm3_finding s m args below meth c H locs 0 0 (MQ below (va_Qi (fun (x : Int32) (u : Mem) => x = r ∧ u = S) (fun u t => va_P D vwCl (wl NC ad (EC K ad u)) t.heap) (IW NC ad)) args s 0 0 (IW NC ad)) (F0 m 0 ls []) := by
  have hx := C0.1
  have hb := C0.2.1
  have hts := C0.2.2.2.2.1
  have hown := C0.2.2.2.1
  have hKC := C0.2.2.2.2.2.2.2
  intro  hf H locs ls hP hS hl
  rw [f3_finding] at hf
  refine lv_aload_n hx hb dX3_finding_0 rfl (lv_at hl 0 rfl) ?_
  refine x_get C0 hKC.1 hP (by decide) (EC_0 K ad S) rfl in_X3_finding_X3 12 (by decide) (List.mem_of_getElem? (i := 1) rfl) rfl dX3_finding_1 ?_
  exact ret_i C0 hP hS (Option.some.inj hf) rfl dX3_finding_4
theorem m3_finding (l : Launch) (D : va_G) (K : Nat → ClassId) (ad : Nat → Nat) (tL : Nat) (hI : INJ NC ad) (S : Mem) {r : Int32} (hf : f3_finding S = some r) : SysI l yX3_finding wsX3_finding rm3_finding D NC ad (EC K ad) (KC D K tL (IW NC ad)) [.ref (ad 0)] S r S :=
  met_of (own := RX3) (by decide) rfl rfl (Nat.le_of_ble_eq_true rfl) (fun _ _ s _ _ _ _ ls C0 _ hP hl => w3_finding hI C0 S hf s.heap [] ls hP va_S.rf hl)
theorem in_X3_findings_X3 : ∀ w ∈ wsX30, w ∈ wsX3_findings := fun _ h => List.mem_cons_of_mem _ (List.mem_append_right _ h)
theorem hd_X3_findings : yX3_findings.cls = RX3 ∧ yX3_findings.cls ≠ "java/lang/invoke/MethodHandle" ∧ yX3_findings.cls ≠ "java/lang/invoke/VarHandle" ∧ (parseMethodDescriptor yX3_findings.desc).map (fun d => d.parameters.length) = some 1 := by decide +kernel
abbrev rm3_findings : Room := { frames := 0, cells := 0, slots := 0, locals := 0 }
set_option maxHeartbeats 4000000 in
set_option maxRecDepth 100000 in
theorem w3_findings {p : Program} {l : Launch} {e : Env} {s : State} {m : MethodId} {args : Array Value} {below : List Frame} {meth : Method} {c : Code} {D : va_G} {K : Nat → ClassId} {ad : Nat → Nat} {tL : Nat} (hI : INJ NC ad) (C0 : Cx p s m args meth c RX3 wsX3_findings cX3_findings 2 (some .int) (KC D K tL (IW NC ad))) (S : Mem) {r : Int32} : ∀ (x1 : Int32), f3_findings S x1 = some r → ∀ (H : Heap) (locs : List Loc) (ls : Array Slot), va_P D vwCl (wl NC ad (EC K ad S)) H → va_S (IW NC ad) s.heap H locs → lv_has ls 2 [(0, .ref (ad 0)), (1, .int x1)] → W p l e rm3_findings s m args below meth c H locs 0 0 (MQ below (va_Qi (fun (x : Int32) (u : Mem) => x = r ∧ u = S) (fun u t => va_P D vwCl (wl NC ad (EC K ad u)) t.heap) (IW NC ad)) args s 0 0 (IW NC ad)) (F0 m 0 ls []) := by
  have hx := C0.1
  have hb := C0.2.1
  have hts := C0.2.2.2.2.1
  have hown := C0.2.2.2.1
  have hKC := C0.2.2.2.2.2.2.2
  intro x1 hf H locs ls hP hS hl
  rw [f3_findings] at hf
  refine lv_iload_n hx hb dX3_findings_0 rfl (lv_at hl 1 rfl) ?_
  refine lv_iconst (v := 1) hx hb dX3_findings_1 (by decide) ?_
  refine lv_icmp_lt (tgt := 10) hx hb dX3_findings_2 (by decide) (fun c1 => ?_) (fun c1 => ?_)
  · have hf := ite_t hf c1
    refine lv_iconst (v := (-1)) hx hb dX3_findings_10 (by decide) ?_
    exact ret_i C0 hP hS (Option.some.inj hf) rfl dX3_findings_11
  · have hf := ite_f hf c1
    refine lv_iload_n hx hb dX3_findings_5 rfl (lv_at hl 1 rfl) ?_
    refine lv_iconst (v := 5) hx hb dX3_findings_6 (by decide) ?_
    refine lv_icmp_le (tgt := 12) hx hb dX3_findings_7 (by decide) (fun c2 => ?_) (fun c2 => ?_)
    · have hf := ite_t hf c2
      refine lv_aload_n hx hb dX3_findings_12 rfl (lv_at hl 0 rfl) ?_
      refine x_get C0 hKC.1 hP (by decide) (EC_0 K ad S) rfl in_X3_findings_X3 13 (by decide) (List.mem_of_getElem? (i := 1) rfl) rfl dX3_findings_13 ?_
      refine lv_iload_n hx hb dX3_findings_16 rfl (lv_at hl 1 rfl) ?_
      obtain ⟨g3, hf⟩ := gd_some hf
      refine x_iald C0 hKC.1 hP (IC_21 K ad) (t0 := 0) rfl g3 dX3_findings_17 ?_
      exact ret_i C0 hP hS (Option.some.inj hf) rfl dX3_findings_18
    · have hf := ite_f hf c2
      refine lv_iconst (v := (-1)) hx hb dX3_findings_10 (by decide) ?_
      exact ret_i C0 hP hS (Option.some.inj hf) rfl dX3_findings_11
theorem m3_findings (l : Launch) (D : va_G) (K : Nat → ClassId) (ad : Nat → Nat) (tL : Nat) (hI : INJ NC ad) (S : Mem) (x1 : Int32) {r : Int32} (hf : f3_findings S x1 = some r) : SysI l yX3_findings wsX3_findings rm3_findings D NC ad (EC K ad) (KC D K tL (IW NC ad)) [.ref (ad 0), .int x1] S r S :=
  met_of (own := RX3) (by decide) rfl rfl (Nat.le_of_ble_eq_true rfl) (fun _ _ s _ _ _ _ ls C0 _ hP hl => w3_findings hI C0 S x1 hf s.heap [] ls hP va_S.rf hl)
theorem in_X3_digestRows_X3 : ∀ w ∈ wsX30, w ∈ wsX3_digestRows := fun _ h => List.mem_cons_of_mem _ (List.mem_append_right _ h)
theorem hd_X3_digestRows : yX3_digestRows.cls = RX3 ∧ yX3_digestRows.cls ≠ "java/lang/invoke/MethodHandle" ∧ yX3_digestRows.cls ≠ "java/lang/invoke/VarHandle" ∧ (parseMethodDescriptor yX3_digestRows.desc).map (fun d => d.parameters.length) = some 1 := by decide +kernel
abbrev rm3_digestRows : Room := { frames := 0, cells := 0, slots := 0, locals := 0 }
set_option maxHeartbeats 4000000 in
set_option maxRecDepth 100000 in
theorem w3_digestRows_b30 {p : Program} {l : Launch} {e : Env} {s : State} {m : MethodId} {args : Array Value} {below : List Frame} {meth : Method} {c : Code} {D : va_G} {K : Nat → ClassId} {ad : Nat → Nat} {tL : Nat} (hI : INJ NC ad) (C0 : Cx p s m args meth c RX3 wsX3_digestRows cX3_digestRows 7 (some .long) (KC D K tL (IW NC ad))) (S : Mem) {r : Int64} (k5 : Int64 → Int32 → Option Int64) (hk5 : ∀ (x3 : Int64) (x5 : Int32), k5 x3 x5 = some r → ∀ (H : Heap) (locs : List Loc) (ls : Array Slot), va_P D vwCl (wl NC ad (EC K ad S)) H → va_S (IW NC ad) s.heap H locs → lv_has ls 7 [(0, .ref (ad 0)), (3, .long x3), (5, .int x5)] → W p l e rm3_digestRows s m args below meth c H locs 0 0 (MQ below (va_Ql (fun (x : Int64) (u : Mem) => x = r ∧ u = S) (fun u t => va_P D vwCl (wl NC ad (EC K ad u)) t.heap) (IW NC ad)) args s 0 0 (IW NC ad)) (F0 m 5 ls [])) : ∀ (n : Nat), ∀ (x3 : Int64) (x5 : Int32) (x6 : Int32), f3_digestRows_b30 k5 S n x3 x5 x6 = some r → ∀ (H : Heap) (locs : List Loc) (ls : Array Slot), va_P D vwCl (wl NC ad (EC K ad S)) H → va_S (IW NC ad) s.heap H locs → lv_has ls 7 [(0, .ref (ad 0)), (3, .long x3), (5, .int x5), (6, .int x6)] → W p l e rm3_digestRows s m args below meth c H locs 0 0 (MQ below (va_Ql (fun (x : Int64) (u : Mem) => x = r ∧ u = S) (fun u t => va_P D vwCl (wl NC ad (EC K ad u)) t.heap) (IW NC ad)) args s 0 0 (IW NC ad)) (F0 m 30 ls []) := by
  have hx := C0.1
  have hb := C0.2.1
  have hts := C0.2.2.2.2.1
  have hown := C0.2.2.2.1
  have hKC := C0.2.2.2.2.2.2.2
  intro n
  induction n with
  | zero =>
    intro x3 x5 x6 hf
    rw [f3_digestRows_b30] at hf
    cases hf
  | succ n ih =>
    intro x3 x5 x6 hf H locs ls hP hS hl
    rw [f3_digestRows_b30] at hf
    refine lv_iload hx hb dX3_digestRows_30 (lv_at hl 3 rfl) ?_
    refine lv_aload_n hx hb dX3_digestRows_32 rfl (lv_at hl 0 rfl) ?_
    refine x_get C0 hKC.1 hP (by decide) (EC_0 K ad S) rfl in_X3_digestRows_X3 1 (by decide) (List.mem_of_getElem? (i := 2) rfl) rfl dX3_digestRows_33 ?_
    refine lv_iload hx hb dX3_digestRows_36 (lv_at hl 2 rfl) ?_
    obtain ⟨g1, hf⟩ := gd_some hf
    refine x_iald C0 hKC.1 hP (IC_8 K ad) (t0 := 0) rfl g1 dX3_digestRows_38 ?_
    refine lv_icmp_ge (tgt := 66) hx hb dX3_digestRows_39 (by decide) (fun c2 => ?_) (fun c2 => ?_)
    · have hf := ite_t hf c2
      obtain ⟨v3, ev3⟩ : ∃ y : Int32, y = x5 + 1 := ⟨_, rfl⟩
      have hf := nm_at ev3 hf
      refine lv_iinc (v := v3) (lv' := [(5, .int v3), (0, .ref (ad 0)), (3, .long x3), (6, .int x6)]) hx hb dX3_digestRows_66 hl (k := 2) rfl (by rw [ev3]; rfl) (by decide) rfl (fun ls hl => ?_)
      refine lv_goto (tgt := 5) hx hb dX3_digestRows_69 (by decide) ?_
      exact hk5 x3 v3 hf H locs ls hP hS (lv_sub hl [1, 2, 0] rfl)
    · have hf := ite_f hf c2
      refine lv_ldc2 (v := 31) hx hb hown (hts _ (List.mem_of_getElem? (i := 1) rfl)) dX3_digestRows_42 ?_
      refine lv_lload_n hx hb dX3_digestRows_45 rfl (lv_at hl 1 rfl) ?_
      refine lv_lmul hx hb dX3_digestRows_46 ?_
      refine lv_aload_n hx hb dX3_digestRows_47 rfl (lv_at hl 0 rfl) ?_
      refine x_get C0 hKC.1 hP (by decide) (EC_0 K ad S) rfl in_X3_digestRows_X3 0 (by decide) (List.mem_of_getElem? (i := 3) rfl) rfl dX3_digestRows_48 ?_
      refine lv_iload hx hb dX3_digestRows_51 (lv_at hl 2 rfl) ?_
      obtain ⟨g4, hf⟩ := gd_some hf
      refine x_aald C0 hKC.1 hP (by decide) (EC_RR K ad S) (t0 := 4) rfl rfl g4 dX3_digestRows_53 ?_
      refine lv_iload hx hb dX3_digestRows_54 (lv_at hl 3 rfl) ?_
      obtain ⟨g5, hf⟩ := gd_some hf
      refine x_iald C0 hKC.1 hP (IC_row K ad (inb_lt g4)) (t0 := 0) rfl g5 dX3_digestRows_56 ?_
      refine lv_i2l (v := (Int32.toInt64 (gi S (2 + (ix x5)) (ix x6)))) hx hb dX3_digestRows_57 rfl ?_
      refine lv_ladd hx hb dX3_digestRows_58 ?_
      refine lv_topl (fun v6 ev6 => ?_)
      have hf := nm_at ev6 hf
      refine lv_lstore_n (lv' := [(3, .long v6), (0, .ref (ad 0)), (5, .int x5), (6, .int x6)]) hx hb dX3_digestRows_59 rfl hl (by decide) rfl (fun ls hl => ?_)
      obtain ⟨v7, ev7⟩ : ∃ y : Int32, y = x6 + 1 := ⟨_, rfl⟩
      have hf := nm_at ev7 hf
      refine lv_iinc (v := v7) (lv' := [(6, .int v7), (3, .long v6), (0, .ref (ad 0)), (5, .int x5)]) hx hb dX3_digestRows_60 hl (k := 3) rfl (by rw [ev7]; rfl) (by decide) rfl (fun ls hl => ?_)
      refine lv_goto (tgt := 30) hx hb dX3_digestRows_63 (by decide) ?_
      exact ih v6 x5 v7 hf H locs ls hP hS (lv_sub hl [2, 1, 3, 0] rfl)
set_option maxHeartbeats 4000000 in
set_option maxRecDepth 100000 in
theorem w3_digestRows_b5 {p : Program} {l : Launch} {e : Env} {s : State} {m : MethodId} {args : Array Value} {below : List Frame} {meth : Method} {c : Code} {D : va_G} {K : Nat → ClassId} {ad : Nat → Nat} {tL : Nat} (hI : INJ NC ad) (C0 : Cx p s m args meth c RX3 wsX3_digestRows cX3_digestRows 7 (some .long) (KC D K tL (IW NC ad))) (S : Mem) {r : Int64} : ∀ (n : Nat), ∀ (x3 : Int64) (x5 : Int32), f3_digestRows_b5 S n x3 x5 = some r → ∀ (H : Heap) (locs : List Loc) (ls : Array Slot), va_P D vwCl (wl NC ad (EC K ad S)) H → va_S (IW NC ad) s.heap H locs → lv_has ls 7 [(0, .ref (ad 0)), (3, .long x3), (5, .int x5)] → W p l e rm3_digestRows s m args below meth c H locs 0 0 (MQ below (va_Ql (fun (x : Int64) (u : Mem) => x = r ∧ u = S) (fun u t => va_P D vwCl (wl NC ad (EC K ad u)) t.heap) (IW NC ad)) args s 0 0 (IW NC ad)) (F0 m 5 ls []) := by
  have hx := C0.1
  have hb := C0.2.1
  have hts := C0.2.2.2.2.1
  have hown := C0.2.2.2.1
  have hKC := C0.2.2.2.2.2.2.2
  intro n
  induction n with
  | zero =>
    intro x3 x5 hf
    rw [f3_digestRows_b5] at hf
    cases hf
  | succ n ih =>
    intro x3 x5 hf H locs ls hP hS hl
    rw [f3_digestRows_b5] at hf
    refine lv_iload hx hb dX3_digestRows_5 (lv_at hl 2 rfl) ?_
    refine lv_bipush (v := 6) hx hb dX3_digestRows_7 (by decide) ?_
    refine lv_icmp_ge (tgt := 72) hx hb dX3_digestRows_9 (by decide) (fun c1 => ?_) (fun c1 => ?_)
    · have hf := ite_t hf c1
      refine lv_lload_n hx hb dX3_digestRows_72 rfl (lv_at hl 1 rfl) ?_
      exact ret_l C0 hP hS (Option.some.inj hf) rfl dX3_digestRows_73
    · have hf := ite_f hf c1
      refine lv_ldc2 (v := 31) hx hb hown (hts _ (List.mem_of_getElem? (i := 1) rfl)) dX3_digestRows_12 ?_
      refine lv_lload_n hx hb dX3_digestRows_15 rfl (lv_at hl 1 rfl) ?_
      refine lv_lmul hx hb dX3_digestRows_16 ?_
      refine lv_aload_n hx hb dX3_digestRows_17 rfl (lv_at hl 0 rfl) ?_
      refine x_get C0 hKC.1 hP (by decide) (EC_0 K ad S) rfl in_X3_digestRows_X3 1 (by decide) (List.mem_of_getElem? (i := 2) rfl) rfl dX3_digestRows_18 ?_
      refine lv_iload hx hb dX3_digestRows_21 (lv_at hl 2 rfl) ?_
      obtain ⟨g2, hf⟩ := gd_some hf
      refine x_iald C0 hKC.1 hP (IC_8 K ad) (t0 := 0) rfl g2 dX3_digestRows_23 ?_
      refine lv_i2l (v := (Int32.toInt64 (gi S 8 (ix x5)))) hx hb dX3_digestRows_24 rfl ?_
      refine lv_ladd hx hb dX3_digestRows_25 ?_
      refine lv_topl (fun v3 ev3 => ?_)
      have hf := nm_at ev3 hf
      refine lv_lstore_n (lv' := [(3, .long v3), (0, .ref (ad 0)), (5, .int x5)]) hx hb dX3_digestRows_26 rfl hl (by decide) rfl (fun ls hl => ?_)
      refine lv_iconst (v := 0) hx hb dX3_digestRows_27 (by decide) ?_
      refine lv_istore (lv' := [(6, .int 0), (3, .long v3), (0, .ref (ad 0)), (5, .int x5)]) hx hb dX3_digestRows_28 hl (by decide) rfl (fun ls hl => ?_)
      exact w3_digestRows_b30 hI C0 S (f3_digestRows_b5 S n) ih FU v3 x5 0 hf H locs ls hP hS (lv_sub hl [2, 1, 3, 0] rfl)
set_option maxHeartbeats 4000000 in
set_option maxRecDepth 100000 in
theorem w3_digestRows {p : Program} {l : Launch} {e : Env} {s : State} {m : MethodId} {args : Array Value} {below : List Frame} {meth : Method} {c : Code} {D : va_G} {K : Nat → ClassId} {ad : Nat → Nat} {tL : Nat} (hI : INJ NC ad) (C0 : Cx p s m args meth c RX3 wsX3_digestRows cX3_digestRows 7 (some .long) (KC D K tL (IW NC ad))) (S : Mem) {r : Int64} : ∀ (x1 : Int64), f3_digestRows S x1 = some r → ∀ (H : Heap) (locs : List Loc) (ls : Array Slot), va_P D vwCl (wl NC ad (EC K ad S)) H → va_S (IW NC ad) s.heap H locs → lv_has ls 7 [(0, .ref (ad 0)), (1, .long x1)] → W p l e rm3_digestRows s m args below meth c H locs 0 0 (MQ below (va_Ql (fun (x : Int64) (u : Mem) => x = r ∧ u = S) (fun u t => va_P D vwCl (wl NC ad (EC K ad u)) t.heap) (IW NC ad)) args s 0 0 (IW NC ad)) (F0 m 0 ls []) := by
  have hx := C0.1
  have hb := C0.2.1
  have hts := C0.2.2.2.2.1
  have hown := C0.2.2.2.1
  have hKC := C0.2.2.2.2.2.2.2
  intro x1 hf H locs ls hP hS hl
  rw [f3_digestRows] at hf
  refine lv_lload_n hx hb dX3_digestRows_0 rfl (lv_at hl 1 rfl) ?_
  refine lv_lstore_n (lv' := [(3, .long x1), (0, .ref (ad 0)), (1, .long x1)]) hx hb dX3_digestRows_1 rfl hl (by decide) rfl (fun ls hl => ?_)
  refine lv_iconst (v := 0) hx hb dX3_digestRows_2 (by decide) ?_
  refine lv_istore (lv' := [(5, .int 0), (3, .long x1), (0, .ref (ad 0)), (1, .long x1)]) hx hb dX3_digestRows_3 hl (by decide) rfl (fun ls hl => ?_)
  exact w3_digestRows_b5 hI C0 S FU x1 0 hf H locs ls hP hS (lv_sub hl [2, 1, 0] rfl)
theorem m3_digestRows (l : Launch) (D : va_G) (K : Nat → ClassId) (ad : Nat → Nat) (tL : Nat) (hI : INJ NC ad) (S : Mem) (x1 : Int64) {r : Int64} (hf : f3_digestRows S x1 = some r) : SysL l yX3_digestRows wsX3_digestRows rm3_digestRows D NC ad (EC K ad) (KC D K tL (IW NC ad)) [.ref (ad 0), .long x1] S r S :=
  met_of (own := RX3) (by decide) rfl rfl (Nat.le_of_ble_eq_true rfl) (fun _ _ s _ _ _ _ ls C0 _ hP hl => w3_digestRows hI C0 S x1 hf s.heap [] ls hP va_S.rf hl)
theorem in_X3_digestTexts_X3 : ∀ w ∈ wsX30, w ∈ wsX3_digestTexts := fun _ h => List.mem_cons_of_mem _ (List.mem_append_right _ h)
theorem hd_X3_digestTexts : yX3_digestTexts.cls = RX3 ∧ yX3_digestTexts.cls ≠ "java/lang/invoke/MethodHandle" ∧ yX3_digestTexts.cls ≠ "java/lang/invoke/VarHandle" ∧ (parseMethodDescriptor yX3_digestTexts.desc).map (fun d => d.parameters.length) = some 1 := by decide +kernel
abbrev rm3_digestTexts : Room := { frames := 0, cells := 0, slots := 0, locals := 0 }
set_option maxHeartbeats 4000000 in
set_option maxRecDepth 100000 in
theorem w3_digestTexts_b29 {p : Program} {l : Launch} {e : Env} {s : State} {m : MethodId} {args : Array Value} {below : List Frame} {meth : Method} {c : Code} {D : va_G} {K : Nat → ClassId} {ad : Nat → Nat} {tL : Nat} (hI : INJ NC ad) (C0 : Cx p s m args meth c RX3 wsX3_digestTexts cX3_digestTexts 7 (some .long) (KC D K tL (IW NC ad))) (S : Mem) {r : Int64} (k5 : Int64 → Int32 → Option Int64) (hk5 : ∀ (x3 : Int64) (x5 : Int32), k5 x3 x5 = some r → ∀ (H : Heap) (locs : List Loc) (ls : Array Slot), va_P D vwCl (wl NC ad (EC K ad S)) H → va_S (IW NC ad) s.heap H locs → lv_has ls 7 [(0, .ref (ad 0)), (3, .long x3), (5, .int x5)] → W p l e rm3_digestTexts s m args below meth c H locs 0 0 (MQ below (va_Ql (fun (x : Int64) (u : Mem) => x = r ∧ u = S) (fun u t => va_P D vwCl (wl NC ad (EC K ad u)) t.heap) (IW NC ad)) args s 0 0 (IW NC ad)) (F0 m 5 ls [])) : ∀ (n : Nat), ∀ (x3 : Int64) (x5 : Int32) (x6 : Int32), f3_digestTexts_b29 k5 S n x3 x5 x6 = some r → ∀ (H : Heap) (locs : List Loc) (ls : Array Slot), va_P D vwCl (wl NC ad (EC K ad S)) H → va_S (IW NC ad) s.heap H locs → lv_has ls 7 [(0, .ref (ad 0)), (3, .long x3), (5, .int x5), (6, .int x6)] → W p l e rm3_digestTexts s m args below meth c H locs 0 0 (MQ below (va_Ql (fun (x : Int64) (u : Mem) => x = r ∧ u = S) (fun u t => va_P D vwCl (wl NC ad (EC K ad u)) t.heap) (IW NC ad)) args s 0 0 (IW NC ad)) (F0 m 29 ls []) := by
  have hx := C0.1
  have hb := C0.2.1
  have hts := C0.2.2.2.2.1
  have hown := C0.2.2.2.1
  have hKC := C0.2.2.2.2.2.2.2
  intro n
  induction n with
  | zero =>
    intro x3 x5 x6 hf
    rw [f3_digestTexts_b29] at hf
    cases hf
  | succ n ih =>
    intro x3 x5 x6 hf H locs ls hP hS hl
    rw [f3_digestTexts_b29] at hf
    refine lv_iload hx hb dX3_digestTexts_29 (lv_at hl 3 rfl) ?_
    refine lv_aload_n hx hb dX3_digestTexts_31 rfl (lv_at hl 0 rfl) ?_
    refine x_get C0 hKC.1 hP (by decide) (EC_0 K ad S) rfl in_X3_digestTexts_X3 3 (by decide) (List.mem_of_getElem? (i := 2) rfl) rfl dX3_digestTexts_32 ?_
    refine lv_iload hx hb dX3_digestTexts_35 (lv_at hl 2 rfl) ?_
    obtain ⟨g1, hf⟩ := gd_some hf
    refine x_iald C0 hKC.1 hP (IC_14 K ad) (t0 := 0) rfl g1 dX3_digestTexts_37 ?_
    refine lv_icmp_ge (tgt := 65) hx hb dX3_digestTexts_38 (by decide) (fun c2 => ?_) (fun c2 => ?_)
    · have hf := ite_t hf c2
      obtain ⟨v3, ev3⟩ : ∃ y : Int32, y = x5 + 1 := ⟨_, rfl⟩
      have hf := nm_at ev3 hf
      refine lv_iinc (v := v3) (lv' := [(5, .int v3), (0, .ref (ad 0)), (3, .long x3), (6, .int x6)]) hx hb dX3_digestTexts_65 hl (k := 2) rfl (by rw [ev3]; rfl) (by decide) rfl (fun ls hl => ?_)
      refine lv_goto (tgt := 5) hx hb dX3_digestTexts_68 (by decide) ?_
      exact hk5 x3 v3 hf H locs ls hP hS (lv_sub hl [1, 2, 0] rfl)
    · have hf := ite_f hf c2
      refine lv_ldc2 (v := 31) hx hb hown (hts _ (List.mem_of_getElem? (i := 1) rfl)) dX3_digestTexts_41 ?_
      refine lv_lload_n hx hb dX3_digestTexts_44 rfl (lv_at hl 1 rfl) ?_
      refine lv_lmul hx hb dX3_digestTexts_45 ?_
      refine lv_aload_n hx hb dX3_digestTexts_46 rfl (lv_at hl 0 rfl) ?_
      refine x_get C0 hKC.1 hP (by decide) (EC_0 K ad S) rfl in_X3_digestTexts_X3 2 (by decide) (List.mem_of_getElem? (i := 3) rfl) rfl dX3_digestTexts_47 ?_
      refine lv_iload hx hb dX3_digestTexts_50 (lv_at hl 2 rfl) ?_
      obtain ⟨g4, hf⟩ := gd_some hf
      refine x_aald C0 hKC.1 hP (by decide) (EC_TT K ad S) (t0 := 5) rfl rfl g4 dX3_digestTexts_52 ?_
      refine lv_iload hx hb dX3_digestTexts_53 (lv_at hl 3 rfl) ?_
      obtain ⟨g5, hf⟩ := gd_some hf
      refine x_bald C0 hKC.1 hP (BC_txt K ad (inb_lt g4)) (t0 := 1) rfl g5 dX3_digestTexts_55 ?_
      refine lv_i2l (v := (Int32.toInt64 (gi S (10 + (ix x5)) (ix x6)))) hx hb dX3_digestTexts_56 rfl ?_
      refine lv_ladd hx hb dX3_digestTexts_57 ?_
      refine lv_topl (fun v6 ev6 => ?_)
      have hf := nm_at ev6 hf
      refine lv_lstore_n (lv' := [(3, .long v6), (0, .ref (ad 0)), (5, .int x5), (6, .int x6)]) hx hb dX3_digestTexts_58 rfl hl (by decide) rfl (fun ls hl => ?_)
      obtain ⟨v7, ev7⟩ : ∃ y : Int32, y = x6 + 1 := ⟨_, rfl⟩
      have hf := nm_at ev7 hf
      refine lv_iinc (v := v7) (lv' := [(6, .int v7), (3, .long v6), (0, .ref (ad 0)), (5, .int x5)]) hx hb dX3_digestTexts_59 hl (k := 3) rfl (by rw [ev7]; rfl) (by decide) rfl (fun ls hl => ?_)
      refine lv_goto (tgt := 29) hx hb dX3_digestTexts_62 (by decide) ?_
      exact ih v6 x5 v7 hf H locs ls hP hS (lv_sub hl [2, 1, 3, 0] rfl)
set_option maxHeartbeats 4000000 in
set_option maxRecDepth 100000 in
theorem w3_digestTexts_b5 {p : Program} {l : Launch} {e : Env} {s : State} {m : MethodId} {args : Array Value} {below : List Frame} {meth : Method} {c : Code} {D : va_G} {K : Nat → ClassId} {ad : Nat → Nat} {tL : Nat} (hI : INJ NC ad) (C0 : Cx p s m args meth c RX3 wsX3_digestTexts cX3_digestTexts 7 (some .long) (KC D K tL (IW NC ad))) (S : Mem) {r : Int64} : ∀ (n : Nat), ∀ (x3 : Int64) (x5 : Int32), f3_digestTexts_b5 S n x3 x5 = some r → ∀ (H : Heap) (locs : List Loc) (ls : Array Slot), va_P D vwCl (wl NC ad (EC K ad S)) H → va_S (IW NC ad) s.heap H locs → lv_has ls 7 [(0, .ref (ad 0)), (3, .long x3), (5, .int x5)] → W p l e rm3_digestTexts s m args below meth c H locs 0 0 (MQ below (va_Ql (fun (x : Int64) (u : Mem) => x = r ∧ u = S) (fun u t => va_P D vwCl (wl NC ad (EC K ad u)) t.heap) (IW NC ad)) args s 0 0 (IW NC ad)) (F0 m 5 ls []) := by
  have hx := C0.1
  have hb := C0.2.1
  have hts := C0.2.2.2.2.1
  have hown := C0.2.2.2.1
  have hKC := C0.2.2.2.2.2.2.2
  intro n
  induction n with
  | zero =>
    intro x3 x5 hf
    rw [f3_digestTexts_b5] at hf
    cases hf
  | succ n ih =>
    intro x3 x5 hf H locs ls hP hS hl
    rw [f3_digestTexts_b5] at hf
    refine lv_iload hx hb dX3_digestTexts_5 (lv_at hl 2 rfl) ?_
    refine lv_iconst (v := 4) hx hb dX3_digestTexts_7 (by decide) ?_
    refine lv_icmp_ge (tgt := 71) hx hb dX3_digestTexts_8 (by decide) (fun c1 => ?_) (fun c1 => ?_)
    · have hf := ite_t hf c1
      refine lv_lload_n hx hb dX3_digestTexts_71 rfl (lv_at hl 1 rfl) ?_
      exact ret_l C0 hP hS (Option.some.inj hf) rfl dX3_digestTexts_72
    · have hf := ite_f hf c1
      refine lv_ldc2 (v := 31) hx hb hown (hts _ (List.mem_of_getElem? (i := 1) rfl)) dX3_digestTexts_11 ?_
      refine lv_lload_n hx hb dX3_digestTexts_14 rfl (lv_at hl 1 rfl) ?_
      refine lv_lmul hx hb dX3_digestTexts_15 ?_
      refine lv_aload_n hx hb dX3_digestTexts_16 rfl (lv_at hl 0 rfl) ?_
      refine x_get C0 hKC.1 hP (by decide) (EC_0 K ad S) rfl in_X3_digestTexts_X3 3 (by decide) (List.mem_of_getElem? (i := 2) rfl) rfl dX3_digestTexts_17 ?_
      refine lv_iload hx hb dX3_digestTexts_20 (lv_at hl 2 rfl) ?_
      obtain ⟨g2, hf⟩ := gd_some hf
      refine x_iald C0 hKC.1 hP (IC_14 K ad) (t0 := 0) rfl g2 dX3_digestTexts_22 ?_
      refine lv_i2l (v := (Int32.toInt64 (gi S 14 (ix x5)))) hx hb dX3_digestTexts_23 rfl ?_
      refine lv_ladd hx hb dX3_digestTexts_24 ?_
      refine lv_topl (fun v3 ev3 => ?_)
      have hf := nm_at ev3 hf
      refine lv_lstore_n (lv' := [(3, .long v3), (0, .ref (ad 0)), (5, .int x5)]) hx hb dX3_digestTexts_25 rfl hl (by decide) rfl (fun ls hl => ?_)
      refine lv_iconst (v := 0) hx hb dX3_digestTexts_26 (by decide) ?_
      refine lv_istore (lv' := [(6, .int 0), (3, .long v3), (0, .ref (ad 0)), (5, .int x5)]) hx hb dX3_digestTexts_27 hl (by decide) rfl (fun ls hl => ?_)
      exact w3_digestTexts_b29 hI C0 S (f3_digestTexts_b5 S n) ih FU v3 x5 0 hf H locs ls hP hS (lv_sub hl [2, 1, 3, 0] rfl)
set_option maxHeartbeats 4000000 in
set_option maxRecDepth 100000 in
theorem w3_digestTexts {p : Program} {l : Launch} {e : Env} {s : State} {m : MethodId} {args : Array Value} {below : List Frame} {meth : Method} {c : Code} {D : va_G} {K : Nat → ClassId} {ad : Nat → Nat} {tL : Nat} (hI : INJ NC ad) (C0 : Cx p s m args meth c RX3 wsX3_digestTexts cX3_digestTexts 7 (some .long) (KC D K tL (IW NC ad))) (S : Mem) {r : Int64} : ∀ (x1 : Int64), f3_digestTexts S x1 = some r → ∀ (H : Heap) (locs : List Loc) (ls : Array Slot), va_P D vwCl (wl NC ad (EC K ad S)) H → va_S (IW NC ad) s.heap H locs → lv_has ls 7 [(0, .ref (ad 0)), (1, .long x1)] → W p l e rm3_digestTexts s m args below meth c H locs 0 0 (MQ below (va_Ql (fun (x : Int64) (u : Mem) => x = r ∧ u = S) (fun u t => va_P D vwCl (wl NC ad (EC K ad u)) t.heap) (IW NC ad)) args s 0 0 (IW NC ad)) (F0 m 0 ls []) := by
  have hx := C0.1
  have hb := C0.2.1
  have hts := C0.2.2.2.2.1
  have hown := C0.2.2.2.1
  have hKC := C0.2.2.2.2.2.2.2
  intro x1 hf H locs ls hP hS hl
  rw [f3_digestTexts] at hf
  refine lv_lload_n hx hb dX3_digestTexts_0 rfl (lv_at hl 1 rfl) ?_
  refine lv_lstore_n (lv' := [(3, .long x1), (0, .ref (ad 0)), (1, .long x1)]) hx hb dX3_digestTexts_1 rfl hl (by decide) rfl (fun ls hl => ?_)
  refine lv_iconst (v := 0) hx hb dX3_digestTexts_2 (by decide) ?_
  refine lv_istore (lv' := [(5, .int 0), (3, .long x1), (0, .ref (ad 0)), (1, .long x1)]) hx hb dX3_digestTexts_3 hl (by decide) rfl (fun ls hl => ?_)
  exact w3_digestTexts_b5 hI C0 S FU x1 0 hf H locs ls hP hS (lv_sub hl [2, 1, 0] rfl)
theorem m3_digestTexts (l : Launch) (D : va_G) (K : Nat → ClassId) (ad : Nat → Nat) (tL : Nat) (hI : INJ NC ad) (S : Mem) (x1 : Int64) {r : Int64} (hf : f3_digestTexts S x1 = some r) : SysL l yX3_digestTexts wsX3_digestTexts rm3_digestTexts D NC ad (EC K ad) (KC D K tL (IW NC ad)) [.ref (ad 0), .long x1] S r S :=
  met_of (own := RX3) (by decide) rfl rfl (Nat.le_of_ble_eq_true rfl) (fun _ _ s _ _ _ _ ls C0 _ hP hl => w3_digestTexts hI C0 S x1 hf s.heap [] ls hP va_S.rf hl)
theorem in_X3_digest_X3 : ∀ w ∈ wsX30, w ∈ wsX3_digest := fun _ h => List.mem_cons_of_mem _ (List.mem_append_left _ (List.mem_append_left _ (List.mem_append_left _ (List.mem_append_right _ h))))
theorem in_X3_digest_X0 : ∀ w ∈ wsX00, w ∈ wsX3_digest := fun _ h => List.mem_cons_of_mem _ (List.mem_append_left _ (List.mem_append_left _ (List.mem_append_right _ h)))
theorem in_X3_digest_X2 : ∀ w ∈ wsX20, w ∈ wsX3_digest := fun _ h => List.mem_cons_of_mem _ (List.mem_append_left _ (List.mem_append_right _ h))
theorem in_X3_digest_X1 : ∀ w ∈ wsX10, w ∈ wsX3_digest := fun _ h => List.mem_cons_of_mem _ (List.mem_append_right _ h)
theorem hd_X3_digest : yX3_digest.cls = RX3 ∧ yX3_digest.cls ≠ "java/lang/invoke/MethodHandle" ∧ yX3_digest.cls ≠ "java/lang/invoke/VarHandle" ∧ (parseMethodDescriptor yX3_digest.desc).map (fun d => d.parameters.length) = some 0 := by decide +kernel
abbrev rm3_digest : Room := { frames := 5, cells := 0, slots := 0, locals := 121 }
set_option maxHeartbeats 4000000 in
set_option maxRecDepth 100000 in
theorem w3_digest_b83 {p : Program} {l : Launch} {e : Env} {s : State} {m : MethodId} {args : Array Value} {below : List Frame} {meth : Method} {c : Code} {D : va_G} {K : Nat → ClassId} {ad : Nat → Nat} {tL : Nat} (hI : INJ NC ad) (C0 : Cx p s m args meth c RX3 wsX3_digest cX3_digest 5 (some .long) (KC D K tL (IW NC ad))) (S : Mem) {r : Int64} : ∀ (n : Nat), ∀ (x1 : Int64) (x3 : Int32), f3_digest_b83 S n x1 x3 = some r → ∀ (H : Heap) (locs : List Loc) (ls : Array Slot), va_P D vwCl (wl NC ad (EC K ad S)) H → va_S (IW NC ad) s.heap H locs → lv_has ls 5 [(0, .ref (ad 0)), (1, .long x1), (3, .int x3)] → W p l e rm3_digest s m args below meth c H locs 0 0 (MQ below (va_Ql (fun (x : Int64) (u : Mem) => x = r ∧ u = S) (fun u t => va_P D vwCl (wl NC ad (EC K ad u)) t.heap) (IW NC ad)) args s 0 0 (IW NC ad)) (F0 m 83 ls []) := by
  have hx := C0.1
  have hb := C0.2.1
  have hts := C0.2.2.2.2.1
  have hown := C0.2.2.2.1
  have hKC := C0.2.2.2.2.2.2.2
  intro n
  induction n with
  | zero =>
    intro x1 x3 hf
    rw [f3_digest_b83] at hf
    cases hf
  | succ n ih =>
    intro x1 x3 hf H locs ls hP hS hl
    rw [f3_digest_b83] at hf
    refine lv_iload_n hx hb dX3_digest_83 rfl (lv_at hl 2 rfl) ?_
    refine lv_iconst (v := 3) hx hb dX3_digest_84 (by decide) ?_
    refine lv_icmp_ge (tgt := 111) hx hb dX3_digest_85 (by decide) (fun c1 => ?_) (fun c1 => ?_)
    · have hf := ite_t hf c1
      refine lv_aload_n hx hb dX3_digest_111 rfl (lv_at hl 0 rfl) ?_
      refine lv_aload_n hx hb dX3_digest_112 rfl (lv_at hl 0 rfl) ?_
      refine lv_lload_n hx hb dX3_digest_113 rfl (lv_at hl 1 rfl) ?_
      obtain ⟨v3, h2, hf⟩ := b1_some hf
      refine sys_l hS (sys_runV (As := [.long x1]) (rest := [.ref (ad 0)]) C0 KC_ok hKC.1 hP hS (by decide) (EC_0 K ad S) rfl (m3_digestRows l D K ad tL hI S x1 h2) gX3_digest_X3_digestRows rfl ⟨rfl, rfl⟩ hd_X3_digestRows ⟨Nat.le_of_ble_eq_true rfl, Nat.le_of_ble_eq_true rfl⟩ hl.1 rfl (Nat.le_of_ble_eq_true rfl) dX3_digest_114 ⟨Nat.le_refl _, Nat.le_refl _⟩) (fun H locs hP hS => ?_)
      obtain ⟨v5, h4, hf⟩ := b1_some hf
      refine sys_l hS (sys_runV (As := [.long v3]) (rest := []) C0 KC_ok hKC.1 hP hS (by decide) (EC_0 K ad S) rfl (m3_digestTexts l D K ad tL hI S v3 h4) gX3_digest_X3_digestTexts rfl ⟨rfl, rfl⟩ hd_X3_digestTexts ⟨Nat.le_of_ble_eq_true rfl, Nat.le_of_ble_eq_true rfl⟩ hl.1 rfl (Nat.le_of_ble_eq_true rfl) dX3_digest_117 ⟨Nat.le_refl _, Nat.le_refl _⟩) (fun H locs hP hS => ?_)
      exact ret_l C0 hP hS (Option.some.inj hf) rfl dX3_digest_120
    · have hf := ite_f hf c1
      refine lv_ldc2 (v := 31) hx hb hown (hts _ (List.mem_of_getElem? (i := 2) rfl)) dX3_digest_88 ?_
      refine lv_lload_n hx hb dX3_digest_91 rfl (lv_at hl 1 rfl) ?_
      refine lv_lmul hx hb dX3_digest_92 ?_
      refine lv_aload_n hx hb dX3_digest_93 rfl (lv_at hl 0 rfl) ?_
      refine x_get C0 hKC.1 hP (by decide) (EC_0 K ad S) rfl in_X3_digest_X3 6 (by decide) (List.mem_of_getElem? (i := 5) rfl) rfl dX3_digest_94 ?_
      refine lv_iload_n hx hb dX3_digest_97 rfl (lv_at hl 2 rfl) ?_
      obtain ⟨g6, hf⟩ := gd_some hf
      refine x_aald C0 hKC.1 hP (by decide) (EC_KA K ad S) (t0 := 3) rfl rfl g6 dX3_digest_98 ?_
      refine x_get C0 hKC.1 hP (ltS (ltK (inb_lt g6))) (EC_S K ad S (ltK (inb_lt g6))) rfl in_X3_digest_X2 1 (by decide) (List.mem_of_getElem? (i := 6) rfl) rfl dX3_digest_99 ?_
      refine lv_i2l (v := (Int32.toInt64 (gi S (22 + (1 + (ix x3))) 1))) hx hb dX3_digest_102 rfl ?_
      refine lv_ladd hx hb dX3_digest_103 ?_
      refine lv_topl (fun v7 ev7 => ?_)
      have hf := nm_at ev7 hf
      refine lv_lstore_n (lv' := [(1, .long v7), (0, .ref (ad 0)), (3, .int x3)]) hx hb dX3_digest_104 rfl hl (by decide) rfl (fun ls hl => ?_)
      obtain ⟨v8, ev8⟩ : ∃ y : Int32, y = x3 + 1 := ⟨_, rfl⟩
      have hf := nm_at ev8 hf
      refine lv_iinc (v := v8) (lv' := [(3, .int v8), (1, .long v7), (0, .ref (ad 0))]) hx hb dX3_digest_105 hl (k := 2) rfl (by rw [ev8]; rfl) (by decide) rfl (fun ls hl => ?_)
      refine lv_goto (tgt := 83) hx hb dX3_digest_108 (by decide) ?_
      exact ih v7 v8 hf H locs ls hP hS (lv_sub hl [2, 1, 0] rfl)
set_option maxHeartbeats 4000000 in
set_option maxRecDepth 100000 in
theorem w3_digest_b47 {p : Program} {l : Launch} {e : Env} {s : State} {m : MethodId} {args : Array Value} {below : List Frame} {meth : Method} {c : Code} {D : va_G} {K : Nat → ClassId} {ad : Nat → Nat} {tL : Nat} (hI : INJ NC ad) (C0 : Cx p s m args meth c RX3 wsX3_digest cX3_digest 5 (some .long) (KC D K tL (IW NC ad))) (S : Mem) {r : Int64} (k33 : Int64 → Int32 → Option Int64) (hk33 : ∀ (x1 : Int64) (x3 : Int32), k33 x1 x3 = some r → ∀ (H : Heap) (locs : List Loc) (ls : Array Slot), va_P D vwCl (wl NC ad (EC K ad S)) H → va_S (IW NC ad) s.heap H locs → lv_has ls 5 [(0, .ref (ad 0)), (1, .long x1), (3, .int x3)] → W p l e rm3_digest s m args below meth c H locs 0 0 (MQ below (va_Ql (fun (x : Int64) (u : Mem) => x = r ∧ u = S) (fun u t => va_P D vwCl (wl NC ad (EC K ad u)) t.heap) (IW NC ad)) args s 0 0 (IW NC ad)) (F0 m 33 ls [])) : ∀ (n : Nat), ∀ (x1 : Int64) (x3 : Int32) (x4 : Int32), f3_digest_b47 k33 S n x1 x3 x4 = some r → ∀ (H : Heap) (locs : List Loc) (ls : Array Slot), va_P D vwCl (wl NC ad (EC K ad S)) H → va_S (IW NC ad) s.heap H locs → lv_has ls 5 [(0, .ref (ad 0)), (1, .long x1), (3, .int x3), (4, .int x4)] → W p l e rm3_digest s m args below meth c H locs 0 0 (MQ below (va_Ql (fun (x : Int64) (u : Mem) => x = r ∧ u = S) (fun u t => va_P D vwCl (wl NC ad (EC K ad u)) t.heap) (IW NC ad)) args s 0 0 (IW NC ad)) (F0 m 47 ls []) := by
  have hx := C0.1
  have hb := C0.2.1
  have hts := C0.2.2.2.2.1
  have hown := C0.2.2.2.1
  have hKC := C0.2.2.2.2.2.2.2
  intro n
  induction n with
  | zero =>
    intro x1 x3 x4 hf
    rw [f3_digest_b47] at hf
    cases hf
  | succ n ih =>
    intro x1 x3 x4 hf H locs ls hP hS hl
    rw [f3_digest_b47] at hf
    refine lv_iload hx hb dX3_digest_47 (lv_at hl 3 rfl) ?_
    refine lv_bipush (v := 7) hx hb dX3_digest_49 (by decide) ?_
    refine lv_icmp_ge (tgt := 75) hx hb dX3_digest_51 (by decide) (fun c1 => ?_) (fun c1 => ?_)
    · have hf := ite_t hf c1
      obtain ⟨v2, ev2⟩ : ∃ y : Int32, y = x3 + 1 := ⟨_, rfl⟩
      have hf := nm_at ev2 hf
      refine lv_iinc (v := v2) (lv' := [(3, .int v2), (0, .ref (ad 0)), (1, .long x1), (4, .int x4)]) hx hb dX3_digest_75 hl (k := 2) rfl (by rw [ev2]; rfl) (by decide) rfl (fun ls hl => ?_)
      refine lv_goto (tgt := 33) hx hb dX3_digest_78 (by decide) ?_
      exact hk33 x1 v2 hf H locs ls hP hS (lv_sub hl [1, 2, 0] rfl)
    · have hf := ite_f hf c1
      refine lv_ldc2 (v := 31) hx hb hown (hts _ (List.mem_of_getElem? (i := 2) rfl)) dX3_digest_54 ?_
      refine lv_lload_n hx hb dX3_digest_57 rfl (lv_at hl 1 rfl) ?_
      refine lv_lmul hx hb dX3_digest_58 ?_
      refine lv_aload_n hx hb dX3_digest_59 rfl (lv_at hl 0 rfl) ?_
      refine lv_iload_n hx hb dX3_digest_60 rfl (lv_at hl 2 rfl) ?_
      refine lv_iload hx hb dX3_digest_61 (lv_at hl 3 rfl) ?_
      obtain ⟨v4, h3, hf⟩ := b1_some hf
      refine sys_i hS (sys_runV (As := [.int x3, .int x4]) (rest := [.long (31 * x1)]) C0 KC_ok hKC.1 hP hS (by decide) (EC_0 K ad S) rfl (m3_ofHouse l D K ad tL hI S x3 x4 h3) gX3_digest_X3_ofHouse rfl ⟨rfl, rfl⟩ hd_X3_ofHouse ⟨Nat.le_of_ble_eq_true rfl, Nat.le_of_ble_eq_true rfl⟩ hl.1 rfl (Nat.le_of_ble_eq_true rfl) dX3_digest_63 ⟨Nat.le_refl _, Nat.le_refl _⟩) (fun H locs hP hS => ?_)
      refine lv_i2l (v := (Int32.toInt64 v4)) hx hb dX3_digest_66 rfl ?_
      refine lv_ladd hx hb dX3_digest_67 ?_
      refine lv_topl (fun v5 ev5 => ?_)
      have hf := nm_at ev5 hf
      refine lv_lstore_n (lv' := [(1, .long v5), (0, .ref (ad 0)), (3, .int x3), (4, .int x4)]) hx hb dX3_digest_68 rfl hl (by decide) rfl (fun ls hl => ?_)
      obtain ⟨v6, ev6⟩ : ∃ y : Int32, y = x4 + 1 := ⟨_, rfl⟩
      have hf := nm_at ev6 hf
      refine lv_iinc (v := v6) (lv' := [(4, .int v6), (1, .long v5), (0, .ref (ad 0)), (3, .int x3)]) hx hb dX3_digest_69 hl (k := 3) rfl (by rw [ev6]; rfl) (by decide) rfl (fun ls hl => ?_)
      refine lv_goto (tgt := 47) hx hb dX3_digest_72 (by decide) ?_
      exact ih v5 x3 v6 hf H locs ls hP hS (lv_sub hl [2, 1, 3, 0] rfl)
set_option maxHeartbeats 4000000 in
set_option maxRecDepth 100000 in
theorem w3_digest_b33 {p : Program} {l : Launch} {e : Env} {s : State} {m : MethodId} {args : Array Value} {below : List Frame} {meth : Method} {c : Code} {D : va_G} {K : Nat → ClassId} {ad : Nat → Nat} {tL : Nat} (hI : INJ NC ad) (C0 : Cx p s m args meth c RX3 wsX3_digest cX3_digest 5 (some .long) (KC D K tL (IW NC ad))) (S : Mem) {r : Int64} : ∀ (n : Nat), ∀ (x1 : Int64) (x3 : Int32), f3_digest_b33 S n x1 x3 = some r → ∀ (H : Heap) (locs : List Loc) (ls : Array Slot), va_P D vwCl (wl NC ad (EC K ad S)) H → va_S (IW NC ad) s.heap H locs → lv_has ls 5 [(0, .ref (ad 0)), (1, .long x1), (3, .int x3)] → W p l e rm3_digest s m args below meth c H locs 0 0 (MQ below (va_Ql (fun (x : Int64) (u : Mem) => x = r ∧ u = S) (fun u t => va_P D vwCl (wl NC ad (EC K ad u)) t.heap) (IW NC ad)) args s 0 0 (IW NC ad)) (F0 m 33 ls []) := by
  have hx := C0.1
  have hb := C0.2.1
  have hts := C0.2.2.2.2.1
  have hown := C0.2.2.2.1
  have hKC := C0.2.2.2.2.2.2.2
  intro n
  induction n with
  | zero =>
    intro x1 x3 hf
    rw [f3_digest_b33] at hf
    cases hf
  | succ n ih =>
    intro x1 x3 hf H locs ls hP hS hl
    rw [f3_digest_b33] at hf
    refine lv_iload_n hx hb dX3_digest_33 rfl (lv_at hl 2 rfl) ?_
    refine lv_aload_n hx hb dX3_digest_34 rfl (lv_at hl 0 rfl) ?_
    refine x_get C0 hKC.1 hP (by decide) (EC_0 K ad S) rfl in_X3_digest_X3 4 (by decide) (List.mem_of_getElem? (i := 3) rfl) rfl dX3_digest_35 ?_
    refine x_get C0 hKC.1 hP (by decide) (EC_H K ad S) rfl in_X3_digest_X0 3 (by decide) (List.mem_of_getElem? (i := 4) rfl) rfl dX3_digest_38 ?_
    refine lv_icmp_ge (tgt := 81) hx hb dX3_digest_41 (by decide) (fun c1 => ?_) (fun c1 => ?_)
    · have hf := ite_t hf c1
      refine lv_iconst (v := 0) hx hb dX3_digest_81 (by decide) ?_
      refine lv_istore_n (lv' := [(3, .int 0), (0, .ref (ad 0)), (1, .long x1)]) hx hb dX3_digest_82 rfl hl (by decide) rfl (fun ls hl => ?_)
      exact w3_digest_b83 hI C0 S FU x1 0 hf H locs ls hP hS (lv_sub hl [1, 2, 0] rfl)
    · have hf := ite_f hf c1
      refine lv_iconst (v := 0) hx hb dX3_digest_44 (by decide) ?_
      refine lv_istore (lv' := [(4, .int 0), (0, .ref (ad 0)), (1, .long x1), (3, .int x3)]) hx hb dX3_digest_45 hl (by decide) rfl (fun ls hl => ?_)
      exact w3_digest_b47 hI C0 S (f3_digest_b33 S n) ih FU x1 x3 0 hf H locs ls hP hS (lv_sub hl [1, 2, 3, 0] rfl)
set_option maxHeartbeats 4000000 in
set_option maxRecDepth 100000 in
theorem w3_digest_b6 {p : Program} {l : Launch} {e : Env} {s : State} {m : MethodId} {args : Array Value} {below : List Frame} {meth : Method} {c : Code} {D : va_G} {K : Nat → ClassId} {ad : Nat → Nat} {tL : Nat} (hI : INJ NC ad) (C0 : Cx p s m args meth c RX3 wsX3_digest cX3_digest 5 (some .long) (KC D K tL (IW NC ad))) (S : Mem) {r : Int64} : ∀ (n : Nat), ∀ (x1 : Int64) (x3 : Int32), f3_digest_b6 S n x1 x3 = some r → ∀ (H : Heap) (locs : List Loc) (ls : Array Slot), va_P D vwCl (wl NC ad (EC K ad S)) H → va_S (IW NC ad) s.heap H locs → lv_has ls 5 [(0, .ref (ad 0)), (1, .long x1), (3, .int x3)] → W p l e rm3_digest s m args below meth c H locs 0 0 (MQ below (va_Ql (fun (x : Int64) (u : Mem) => x = r ∧ u = S) (fun u t => va_P D vwCl (wl NC ad (EC K ad u)) t.heap) (IW NC ad)) args s 0 0 (IW NC ad)) (F0 m 6 ls []) := by
  have hx := C0.1
  have hb := C0.2.1
  have hts := C0.2.2.2.2.1
  have hown := C0.2.2.2.1
  have hKC := C0.2.2.2.2.2.2.2
  intro n
  induction n with
  | zero =>
    intro x1 x3 hf
    rw [f3_digest_b6] at hf
    cases hf
  | succ n ih =>
    intro x1 x3 hf H locs ls hP hS hl
    rw [f3_digest_b6] at hf
    refine lv_iload_n hx hb dX3_digest_6 rfl (lv_at hl 2 rfl) ?_
    refine lv_bipush (v := 12) hx hb dX3_digest_7 (by decide) ?_
    refine lv_icmp_ge (tgt := 31) hx hb dX3_digest_9 (by decide) (fun c1 => ?_) (fun c1 => ?_)
    · have hf := ite_t hf c1
      refine lv_iconst (v := 0) hx hb dX3_digest_31 (by decide) ?_
      refine lv_istore_n (lv' := [(3, .int 0), (0, .ref (ad 0)), (1, .long x1)]) hx hb dX3_digest_32 rfl hl (by decide) rfl (fun ls hl => ?_)
      exact w3_digest_b33 hI C0 S FU x1 0 hf H locs ls hP hS (lv_sub hl [1, 2, 0] rfl)
    · have hf := ite_f hf c1
      refine lv_ldc2 (v := 31) hx hb hown (hts _ (List.mem_of_getElem? (i := 2) rfl)) dX3_digest_12 ?_
      refine lv_lload_n hx hb dX3_digest_15 rfl (lv_at hl 1 rfl) ?_
      refine lv_lmul hx hb dX3_digest_16 ?_
      refine lv_aload_n hx hb dX3_digest_17 rfl (lv_at hl 0 rfl) ?_
      refine lv_iload_n hx hb dX3_digest_18 rfl (lv_at hl 2 rfl) ?_
      obtain ⟨v3, h2, hf⟩ := b1_some hf
      refine sys_i hS (sys_runV (As := [.int x3]) (rest := [.long (31 * x1)]) C0 KC_ok hKC.1 hP hS (by decide) (EC_0 K ad S) rfl (m3_count l D K ad tL hI S x3 h2) gX3_digest_X3_count rfl ⟨rfl, rfl⟩ hd_X3_count ⟨Nat.le_of_ble_eq_true rfl, Nat.le_of_ble_eq_true rfl⟩ hl.1 rfl (Nat.le_of_ble_eq_true rfl) dX3_digest_19 ⟨Nat.le_refl _, Nat.le_refl _⟩) (fun H locs hP hS => ?_)
      refine lv_i2l (v := (Int32.toInt64 v3)) hx hb dX3_digest_22 rfl ?_
      refine lv_ladd hx hb dX3_digest_23 ?_
      refine lv_topl (fun v4 ev4 => ?_)
      have hf := nm_at ev4 hf
      refine lv_lstore_n (lv' := [(1, .long v4), (0, .ref (ad 0)), (3, .int x3)]) hx hb dX3_digest_24 rfl hl (by decide) rfl (fun ls hl => ?_)
      obtain ⟨v5, ev5⟩ : ∃ y : Int32, y = x3 + 1 := ⟨_, rfl⟩
      have hf := nm_at ev5 hf
      refine lv_iinc (v := v5) (lv' := [(3, .int v5), (1, .long v4), (0, .ref (ad 0))]) hx hb dX3_digest_25 hl (k := 2) rfl (by rw [ev5]; rfl) (by decide) rfl (fun ls hl => ?_)
      refine lv_goto (tgt := 6) hx hb dX3_digest_28 (by decide) ?_
      exact ih v4 v5 hf H locs ls hP hS (lv_sub hl [2, 1, 0] rfl)
set_option maxHeartbeats 4000000 in
set_option maxRecDepth 100000 in
theorem w3_digest {p : Program} {l : Launch} {e : Env} {s : State} {m : MethodId} {args : Array Value} {below : List Frame} {meth : Method} {c : Code} {D : va_G} {K : Nat → ClassId} {ad : Nat → Nat} {tL : Nat} (hI : INJ NC ad) (C0 : Cx p s m args meth c RX3 wsX3_digest cX3_digest 5 (some .long) (KC D K tL (IW NC ad))) (S : Mem) {r : Int64} : f3_digest S = some r → ∀ (H : Heap) (locs : List Loc) (ls : Array Slot), va_P D vwCl (wl NC ad (EC K ad S)) H → va_S (IW NC ad) s.heap H locs → lv_has ls 5 [(0, .ref (ad 0))] → W p l e rm3_digest s m args below meth c H locs 0 0 (MQ below (va_Ql (fun (x : Int64) (u : Mem) => x = r ∧ u = S) (fun u t => va_P D vwCl (wl NC ad (EC K ad u)) t.heap) (IW NC ad)) args s 0 0 (IW NC ad)) (F0 m 0 ls []) := by
  have hx := C0.1
  have hb := C0.2.1
  have hts := C0.2.2.2.2.1
  have hown := C0.2.2.2.1
  have hKC := C0.2.2.2.2.2.2.2
  intro  hf H locs ls hP hS hl
  rw [f3_digest] at hf
  refine lv_ldc2 (v := 17) hx hb hown (hts _ (List.mem_of_getElem? (i := 1) rfl)) dX3_digest_0 ?_
  refine lv_lstore_n (lv' := [(1, .long 17), (0, .ref (ad 0))]) hx hb dX3_digest_3 rfl hl (by decide) rfl (fun ls hl => ?_)
  refine lv_iconst (v := 0) hx hb dX3_digest_4 (by decide) ?_
  refine lv_istore_n (lv' := [(3, .int 0), (1, .long 17), (0, .ref (ad 0))]) hx hb dX3_digest_5 rfl hl (by decide) rfl (fun ls hl => ?_)
  exact w3_digest_b6 hI C0 S FU 17 0 hf H locs ls hP hS (lv_sub hl [2, 1, 0] rfl)
theorem m3_digest (l : Launch) (D : va_G) (K : Nat → ClassId) (ad : Nat → Nat) (tL : Nat) (hI : INJ NC ad) (S : Mem) {r : Int64} (hf : f3_digest S = some r) : SysL l yX3_digest wsX3_digest rm3_digest D NC ad (EC K ad) (KC D K tL (IW NC ad)) [.ref (ad 0)] S r S :=
  met_of (own := RX3) (by decide) rfl rfl (Nat.le_of_ble_eq_true rfl) (fun _ _ s _ _ _ _ ls C0 _ hP hl => w3_digest hI C0 S hf s.heap [] ls hP va_S.rf hl)
