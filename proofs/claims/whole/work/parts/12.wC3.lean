theorem in_X3_worksByLending_X3 : ∀ w ∈ wsX30, w ∈ wsX3_worksByLending := fun _ h => List.mem_cons_of_mem _ (List.mem_append_left _ (List.mem_append_left _ (List.mem_append_left _ (List.mem_append_right _ h))))
theorem in_X3_worksByLending_X1 : ∀ w ∈ wsX10, w ∈ wsX3_worksByLending := fun _ h => List.mem_cons_of_mem _ (List.mem_append_left _ (List.mem_append_left _ (List.mem_append_right _ h)))
theorem in_X3_worksByLending_X2 : ∀ w ∈ wsX20, w ∈ wsX3_worksByLending := fun _ h => List.mem_cons_of_mem _ (List.mem_append_left _ (List.mem_append_right _ h))
theorem in_X3_worksByLending_X0 : ∀ w ∈ wsX00, w ∈ wsX3_worksByLending := fun _ h => List.mem_cons_of_mem _ (List.mem_append_right _ h)
theorem hd_X3_worksByLending : yX3_worksByLending.cls = RX3 ∧ yX3_worksByLending.cls ≠ "java/lang/invoke/MethodHandle" ∧ yX3_worksByLending.cls ≠ "java/lang/invoke/VarHandle" ∧ (parseMethodDescriptor yX3_worksByLending.desc).map (fun d => d.parameters.length) = some 3 := by decide +kernel
abbrev rm3_worksByLending : Room := { frames := 4, cells := 0, slots := 0, locals := 117 }
set_option maxHeartbeats 4000000 in
set_option maxRecDepth 100000 in
theorem w3_worksByLending {p : Program} {l : Launch} {e : Env} {s : State} {m : MethodId} {args : Array Value} {below : List Frame} {meth : Method} {c : Code} {D : va_G} {K : Nat → ClassId} {ad : Nat → Nat} {tL : Nat} (hI : INJ NC ad) (C0 : Cx p s m args meth c RX3 wsX3_worksByLending cX3_worksByLending 5 (some .int) (KC D K tL (IW NC ad))) {r : Int32} {T : Mem} : ∀ (S : Mem) (x1 : Int32) (x2 : Int32) (x3 : Int32), f3_worksByLending S x1 x2 x3 = some (r, T) → ∀ (H : Heap) (locs : List Loc) (ls : Array Slot), va_P D vwCl (wl NC ad (EC K ad S)) H → va_S (IW NC ad) s.heap H locs → lv_has ls 5 [(0, .ref (ad 0)), (1, .int x1), (2, .int x2), (3, .int x3)] → W p l e rm3_worksByLending s m args below meth c H locs 0 0 (MQ below (va_Qi (fun (x : Int32) (u : Mem) => x = r ∧ u = T) (fun u t => va_P D vwCl (wl NC ad (EC K ad u)) t.heap) (IW NC ad)) args s 0 0 (IW NC ad)) (F0 m 0 ls []) := by
  have hx := C0.1
  have hb := C0.2.1
  have hts := C0.2.2.2.2.1
  have hown := C0.2.2.2.1
  have hKC := C0.2.2.2.2.2.2.2
  intro S x1 x2 x3 hf H locs ls hP hS hl
  rw [f3_worksByLending] at hf
  refine lv_aload_n hx hb dX3_worksByLending_0 rfl (lv_at hl 0 rfl) ?_
  refine x_get C0 hKC.1 hP (by decide) (EC_0 K ad S) rfl in_X3_worksByLending_X3 5 (by decide) (List.mem_of_getElem? (i := 1) rfl) rfl dX3_worksByLending_1 ?_
  obtain ⟨q2, h1, hf⟩ := b1_some hf
  obtain ⟨g3, hf⟩ := gd_some hf
  refine sys_r hS (sys_runV (As := []) (rest := []) C0 KC_ok hKC.1 hP hS (ltS (by decide : 0 < 4)) (EC_S K ad S (by decide : 0 < 4)) rfl (m2_now l D K ad tL hI S 0 (by decide : 0 < 4) h1) gX3_worksByLending_X2_now rfl ⟨rfl, rfl⟩ hd_X2_now ⟨Nat.le_of_ble_eq_true rfl, Nat.le_of_ble_eq_true rfl⟩ hl.1 rfl (Nat.le_of_ble_eq_true rfl) dX3_worksByLending_4 ⟨Nat.le_refl _, Nat.le_refl _⟩) (fun H locs hP hS => ?_)
  refine lv_astore (lv' := [(4, .ref (ad (30 + q2))), (0, .ref (ad 0)), (1, .int x1), (2, .int x2), (3, .int x3)]) hx hb dX3_worksByLending_7 hl (by decide) rfl (fun ls hl => ?_)
  refine lv_iload_n hx hb dX3_worksByLending_9 rfl (lv_at hl 2 rfl) ?_
  refine lv_iload_n hx hb dX3_worksByLending_10 rfl (lv_at hl 3 rfl) ?_
  refine lv_icmp_eq (tgt := 25) hx hb dX3_worksByLending_11 (by decide) (fun c4 => ?_) (fun c4 => ?_)
  · have hf := ite_t hf c4
    refine lv_bipush (v := (-9)) hx hb dX3_worksByLending_25 (by decide) ?_
    exact ret_i C0 hP hS (congrArg Prod.fst (Option.some.inj hf)) (congrArg Prod.snd (Option.some.inj hf)) dX3_worksByLending_27
  · have hf := ite_f hf c4
    refine lv_aload hx hb dX3_worksByLending_14 (lv_at hl 0 rfl) ?_
    refine x_get C0 hKC.1 hP (ltM (of_decide_eq_true g3)) (EC_M K ad S (of_decide_eq_true g3)) rfl in_X3_worksByLending_X1 0 (by decide) (List.mem_of_getElem? (i := 2) rfl) rfl dX3_worksByLending_16 ?_
    refine lv_iload_n hx hb dX3_worksByLending_19 rfl (lv_at hl 2 rfl) ?_
    obtain ⟨g5, hf⟩ := gd_some hf
    refine x_iald C0 hKC.1 hP (IC_jar K ad (of_decide_eq_true g3)) (t0 := 0) rfl g5 dX3_worksByLending_20 ?_
    refine lv_iload_n hx hb dX3_worksByLending_21 rfl (lv_at hl 4 rfl) ?_
    refine lv_icmp_ge (tgt := 28) hx hb dX3_worksByLending_22 (by decide) (fun c6 => ?_) (fun c6 => ?_)
    · have hf := ite_t hf c6
      refine lv_aload_n hx hb dX3_worksByLending_28 rfl (lv_at hl 1 rfl) ?_
      refine x_get C0 hKC.1 hP (by decide) (EC_0 K ad S) rfl in_X3_worksByLending_X3 7 (by decide) (List.mem_of_getElem? (i := 3) rfl) rfl dX3_worksByLending_29 ?_
      refine lv_aload hx hb dX3_worksByLending_32 (lv_at hl 0 rfl) ?_
      obtain ⟨S8, h7, hf⟩ := b1_some hf
      refine sys_v hS (sys_runV (As := [.ref (ad (30 + q2))]) (rest := []) C0 KC_ok hKC.1 hP hS (ltM (by decide : 164 < 165)) (EC_M K ad S (by decide : 164 < 165)) rfl (m1_become l D K ad tL hI S 164 q2 (by decide : 164 < 165) (of_decide_eq_true g3) h7) gX3_worksByLending_X1_become rfl ⟨rfl, rfl⟩ hd_X1_become ⟨Nat.le_of_ble_eq_true rfl, Nat.le_of_ble_eq_true rfl⟩ hl.1 rfl (Nat.le_of_ble_eq_true rfl) dX3_worksByLending_34 ⟨Nat.le_refl _, Nat.le_refl _⟩) (fun H locs hP hS => ?_)
      refine lv_aload_n hx hb dX3_worksByLending_37 rfl (lv_at hl 1 rfl) ?_
      refine x_get C0 hKC.1 hP (by decide) (EC_0 K ad S8) rfl in_X3_worksByLending_X3 7 (by decide) (List.mem_of_getElem? (i := 3) rfl) rfl dX3_worksByLending_38 ?_
      refine lv_iload_n hx hb dX3_worksByLending_41 rfl (lv_at hl 2 rfl) ?_
      refine lv_iload_n hx hb dX3_worksByLending_42 rfl (lv_at hl 3 rfl) ?_
      refine lv_iload_n hx hb dX3_worksByLending_43 rfl (lv_at hl 4 rfl) ?_
      obtain ⟨S10, h9, hf⟩ := b1_some hf
      refine sys_v hS (sys_runV (As := [.int x1, .int x2, .int x3]) (rest := []) C0 KC_ok hKC.1 hP hS (ltM (by decide : 164 < 165)) (EC_M K ad S8 (by decide : 164 < 165)) rfl (m1_pass l D K ad tL hI S8 164 x1 x2 x3 (by decide : 164 < 165) h9) gX3_worksByLending_X1_pass rfl ⟨rfl, rfl⟩ hd_X1_pass ⟨Nat.le_of_ble_eq_true rfl, Nat.le_of_ble_eq_true rfl⟩ hl.1 rfl (Nat.le_of_ble_eq_true rfl) dX3_worksByLending_44 ⟨Nat.le_refl _, Nat.le_refl _⟩) (fun H locs hP hS => ?_)
      refine lv_aload_n hx hb dX3_worksByLending_47 rfl (lv_at hl 1 rfl) ?_
      refine x_get C0 hKC.1 hP (by decide) (EC_0 K ad S10) rfl in_X3_worksByLending_X3 7 (by decide) (List.mem_of_getElem? (i := 3) rfl) rfl dX3_worksByLending_48 ?_
      refine lv_aload_n hx hb dX3_worksByLending_51 rfl (lv_at hl 1 rfl) ?_
      refine x_get C0 hKC.1 hP (by decide) (EC_0 K ad S10) rfl in_X3_worksByLending_X3 4 (by decide) (List.mem_of_getElem? (i := 4) rfl) rfl dX3_worksByLending_52 ?_
      obtain ⟨v12, h11, hf⟩ := b1_some hf
      refine sys_i hS (sys_runV (As := [.ref (ad 15)]) (rest := []) C0 KC_ok hKC.1 hP hS (ltM (by decide : 164 < 165)) (EC_M K ad S10 (by decide : 164 < 165)) rfl (m1_worksOff l D K ad tL hI S10 164 (by decide : 164 < 165) h11) gX3_worksByLending_X1_worksOff rfl ⟨rfl, rfl⟩ hd_X1_worksOff ⟨Nat.le_of_ble_eq_true rfl, Nat.le_of_ble_eq_true rfl⟩ hl.1 rfl (Nat.le_of_ble_eq_true rfl) dX3_worksByLending_55 ⟨Nat.le_refl _, Nat.le_refl _⟩) (fun H locs hP hS => ?_)
      obtain ⟨v14, h13, hf⟩ := b1_some hf
      refine sys_i hS (sys_runS (As := [.int v12]) (rest := []) C0 KC_ok hP hS (m6_bitCount l D K ad tL hI S10 v12 h13) gX3_worksByLending_J6_bitCount_0f7a4 rfl ⟨rfl, rfl⟩ hd_J6_bitCount_0f7a4 ⟨Nat.le_of_ble_eq_true rfl, Nat.le_of_ble_eq_true rfl⟩ hl.1 rfl (Nat.le_of_ble_eq_true rfl) dX3_worksByLending_58 ⟨Nat.le_refl _, Nat.le_refl _⟩) (fun H locs hP hS => ?_)
      exact ret_i C0 hP hS (congrArg Prod.fst (Option.some.inj hf)) (congrArg Prod.snd (Option.some.inj hf)) dX3_worksByLending_61
    · have hf := ite_f hf c6
      refine lv_bipush (v := (-9)) hx hb dX3_worksByLending_25 (by decide) ?_
      exact ret_i C0 hP hS (congrArg Prod.fst (Option.some.inj hf)) (congrArg Prod.snd (Option.some.inj hf)) dX3_worksByLending_27
theorem m3_worksByLending (l : Launch) (D : va_G) (K : Nat → ClassId) (ad : Nat → Nat) (tL : Nat) (hI : INJ NC ad) (S : Mem) (x1 : Int32) (x2 : Int32) (x3 : Int32) {r : Int32} {T : Mem} (hf : f3_worksByLending S x1 x2 x3 = some (r, T)) : SysI l yX3_worksByLending wsX3_worksByLending rm3_worksByLending D NC ad (EC K ad) (KC D K tL (IW NC ad)) [.ref (ad 0), .int x1, .int x2, .int x3] S r T :=
  met_of (own := RX3) (by decide) rfl rfl (Nat.le_of_ble_eq_true rfl) (fun _ _ s _ _ _ _ ls C0 _ hP hl => w3_worksByLending hI C0 S x1 x2 x3 hf s.heap [] ls hP va_S.rf hl)
theorem in_X3_lending_X3 : ∀ w ∈ wsX30, w ∈ wsX3_lending := fun _ h => List.mem_cons_of_mem _ (List.mem_append_left _ (List.mem_append_left _ (List.mem_append_left _ (List.mem_append_right _ h))))
theorem in_X3_lending_X0 : ∀ w ∈ wsX00, w ∈ wsX3_lending := fun _ h => List.mem_cons_of_mem _ (List.mem_append_left _ (List.mem_append_left _ (List.mem_append_right _ h)))
theorem in_X3_lending_X2 : ∀ w ∈ wsX20, w ∈ wsX3_lending := fun _ h => List.mem_cons_of_mem _ (List.mem_append_left _ (List.mem_append_right _ h))
theorem in_X3_lending_X1 : ∀ w ∈ wsX10, w ∈ wsX3_lending := fun _ h => List.mem_cons_of_mem _ (List.mem_append_right _ h)
theorem hd_X3_lending : yX3_lending.cls = RX3 ∧ yX3_lending.cls ≠ "java/lang/invoke/MethodHandle" ∧ yX3_lending.cls ≠ "java/lang/invoke/VarHandle" ∧ (parseMethodDescriptor yX3_lending.desc).map (fun d => d.parameters.length) = some 1 := by decide +kernel
abbrev rm3_lending : Room := { frames := 5, cells := 0, slots := 0, locals := 141 }
set_option maxHeartbeats 4000000 in
set_option maxRecDepth 100000 in
theorem w3_lending_b102 {p : Program} {l : Launch} {e : Env} {s : State} {m : MethodId} {args : Array Value} {below : List Frame} {meth : Method} {c : Code} {D : va_G} {K : Nat → ClassId} {ad : Nat → Nat} {tL : Nat} (hI : INJ NC ad) (C0 : Cx p s m args meth c RX3 wsX3_lending cX3_lending 7 (some .int) (KC D K tL (IW NC ad))) {r : Int32} {T : Mem} (k46 : Mem → Int32 → Int32 → Int32 → Int32 → Option (Int32 × Mem)) (hk46 : ∀ (S : Mem) (x1 : Int32) (x2 : Int32) (x3 : Int32) (x4 : Int32), k46 S x1 x2 x3 x4 = some (r, T) → ∀ (H : Heap) (locs : List Loc) (ls : Array Slot), va_P D vwCl (wl NC ad (EC K ad S)) H → va_S (IW NC ad) s.heap H locs → lv_has ls 7 [(0, .ref (ad 0)), (1, .int x1), (2, .int x2), (3, .int x3), (4, .int x4)] → W p l e rm3_lending s m args below meth c H locs 0 0 (MQ below (va_Qi (fun (x : Int32) (u : Mem) => x = r ∧ u = T) (fun u t => va_P D vwCl (wl NC ad (EC K ad u)) t.heap) (IW NC ad)) args s 0 0 (IW NC ad)) (F0 m 46 ls [])) (k61 : Mem → Int32 → Int32 → Int32 → Int32 → Int32 → Option (Int32 × Mem)) (hk61 : ∀ (S : Mem) (x1 : Int32) (x2 : Int32) (x3 : Int32) (x4 : Int32) (x5 : Int32), k61 S x1 x2 x3 x4 x5 = some (r, T) → ∀ (H : Heap) (locs : List Loc) (ls : Array Slot), va_P D vwCl (wl NC ad (EC K ad S)) H → va_S (IW NC ad) s.heap H locs → lv_has ls 7 [(0, .ref (ad 0)), (1, .int x1), (2, .int x2), (3, .int x3), (4, .int x4), (5, .int x5)] → W p l e rm3_lending s m args below meth c H locs 0 0 (MQ below (va_Qi (fun (x : Int32) (u : Mem) => x = r ∧ u = T) (fun u t => va_P D vwCl (wl NC ad (EC K ad u)) t.heap) (IW NC ad)) args s 0 0 (IW NC ad)) (F0 m 61 ls [])) : ∀ (S : Mem) (x1 : Int32) (x2 : Int32) (x3 : Int32) (x4 : Int32) (x5 : Int32), f3_lending_b102 k46 k61 S x1 x2 x3 x4 x5 = some (r, T) → ∀ (H : Heap) (locs : List Loc) (ls : Array Slot), va_P D vwCl (wl NC ad (EC K ad S)) H → va_S (IW NC ad) s.heap H locs → lv_has ls 7 [(0, .ref (ad 0)), (1, .int x1), (2, .int x2), (3, .int x3), (4, .int x4), (5, .int x5)] → W p l e rm3_lending s m args below meth c H locs 0 0 (MQ below (va_Qi (fun (x : Int32) (u : Mem) => x = r ∧ u = T) (fun u t => va_P D vwCl (wl NC ad (EC K ad u)) t.heap) (IW NC ad)) args s 0 0 (IW NC ad)) (F0 m 102 ls []) := by
  have hx := C0.1
  have hb := C0.2.1
  have hts := C0.2.2.2.2.1
  have hown := C0.2.2.2.1
  have hKC := C0.2.2.2.2.2.2.2
  intro S x1 x2 x3 x4 x5 hf H locs ls hP hS hl
  rw [f3_lending_b102] at hf
  obtain ⟨v1, ev1⟩ : ∃ y : Int32, y = x5 + 1 := ⟨_, rfl⟩
  have hf := nm_at ev1 hf
  refine lv_iinc (v := v1) (lv' := [(5, .int v1), (0, .ref (ad 0)), (1, .int x1), (2, .int x2), (3, .int x3), (4, .int x4)]) hx hb dX3_lending_102 hl (k := 5) rfl (by rw [ev1]; rfl) (by decide) rfl (fun ls hl => ?_)
  refine lv_goto (tgt := 61) hx hb dX3_lending_105 (by decide) ?_
  exact hk61 S x1 x2 x3 x4 v1 hf H locs ls hP hS (lv_sub hl [1, 2, 3, 4, 5, 0] rfl)
set_option maxHeartbeats 4000000 in
set_option maxRecDepth 100000 in
theorem w3_lending_b61 {p : Program} {l : Launch} {e : Env} {s : State} {m : MethodId} {args : Array Value} {below : List Frame} {meth : Method} {c : Code} {D : va_G} {K : Nat → ClassId} {ad : Nat → Nat} {tL : Nat} (hI : INJ NC ad) (C0 : Cx p s m args meth c RX3 wsX3_lending cX3_lending 7 (some .int) (KC D K tL (IW NC ad))) {r : Int32} {T : Mem} (k46 : Mem → Int32 → Int32 → Int32 → Int32 → Option (Int32 × Mem)) (hk46 : ∀ (S : Mem) (x1 : Int32) (x2 : Int32) (x3 : Int32) (x4 : Int32), k46 S x1 x2 x3 x4 = some (r, T) → ∀ (H : Heap) (locs : List Loc) (ls : Array Slot), va_P D vwCl (wl NC ad (EC K ad S)) H → va_S (IW NC ad) s.heap H locs → lv_has ls 7 [(0, .ref (ad 0)), (1, .int x1), (2, .int x2), (3, .int x3), (4, .int x4)] → W p l e rm3_lending s m args below meth c H locs 0 0 (MQ below (va_Qi (fun (x : Int32) (u : Mem) => x = r ∧ u = T) (fun u t => va_P D vwCl (wl NC ad (EC K ad u)) t.heap) (IW NC ad)) args s 0 0 (IW NC ad)) (F0 m 46 ls [])) : ∀ (n : Nat), ∀ (S : Mem) (x1 : Int32) (x2 : Int32) (x3 : Int32) (x4 : Int32) (x5 : Int32), f3_lending_b61 k46 n S x1 x2 x3 x4 x5 = some (r, T) → ∀ (H : Heap) (locs : List Loc) (ls : Array Slot), va_P D vwCl (wl NC ad (EC K ad S)) H → va_S (IW NC ad) s.heap H locs → lv_has ls 7 [(0, .ref (ad 0)), (1, .int x1), (2, .int x2), (3, .int x3), (4, .int x4), (5, .int x5)] → W p l e rm3_lending s m args below meth c H locs 0 0 (MQ below (va_Qi (fun (x : Int32) (u : Mem) => x = r ∧ u = T) (fun u t => va_P D vwCl (wl NC ad (EC K ad u)) t.heap) (IW NC ad)) args s 0 0 (IW NC ad)) (F0 m 61 ls []) := by
  have hx := C0.1
  have hb := C0.2.1
  have hts := C0.2.2.2.2.1
  have hown := C0.2.2.2.1
  have hKC := C0.2.2.2.2.2.2.2
  intro n
  induction n with
  | zero =>
    intro S x1 x2 x3 x4 x5 hf
    rw [f3_lending_b61] at hf
    cases hf
  | succ n ih =>
    intro S x1 x2 x3 x4 x5 hf H locs ls hP hS hl
    rw [f3_lending_b61] at hf
    refine lv_iload hx hb dX3_lending_61 (lv_at hl 5 rfl) ?_
    refine lv_aload_n hx hb dX3_lending_63 rfl (lv_at hl 0 rfl) ?_
    refine x_get C0 hKC.1 hP (by decide) (EC_0 K ad S) rfl in_X3_lending_X3 4 (by decide) (List.mem_of_getElem? (i := 1) rfl) rfl dX3_lending_64 ?_
    refine x_get C0 hKC.1 hP (by decide) (EC_H K ad S) rfl in_X3_lending_X0 3 (by decide) (List.mem_of_getElem? (i := 2) rfl) rfl dX3_lending_67 ?_
    refine lv_icmp_ge (tgt := 108) hx hb dX3_lending_70 (by decide) (fun c1 => ?_) (fun c1 => ?_)
    · have hf := ite_t hf c1
      obtain ⟨v2, ev2⟩ : ∃ y : Int32, y = x4 + 1 := ⟨_, rfl⟩
      have hf := nm_at ev2 hf
      refine lv_iinc (v := v2) (lv' := [(4, .int v2), (0, .ref (ad 0)), (1, .int x1), (2, .int x2), (3, .int x3), (5, .int x5)]) hx hb dX3_lending_108 hl (k := 4) rfl (by rw [ev2]; rfl) (by decide) rfl (fun ls hl => ?_)
      refine lv_goto (tgt := 46) hx hb dX3_lending_111 (by decide) ?_
      exact hk46 S x1 x2 x3 v2 hf H locs ls hP hS (lv_sub hl [1, 2, 3, 4, 0] rfl)
    · have hf := ite_f hf c1
      refine lv_aload_n hx hb dX3_lending_73 rfl (lv_at hl 0 rfl) ?_
      refine lv_iload hx hb dX3_lending_74 (lv_at hl 4 rfl) ?_
      refine lv_iload hx hb dX3_lending_76 (lv_at hl 5 rfl) ?_
      refine lv_iload_n hx hb dX3_lending_78 rfl (lv_at hl 1 rfl) ?_
      obtain ⟨v4, S5, h3, hf⟩ := b2_some hf
      refine sys_i hS (sys_runV (As := [.int x4, .int x5, .int x1]) (rest := []) C0 KC_ok hKC.1 hP hS (by decide) (EC_0 K ad S) rfl (m3_worksByLending l D K ad tL hI S x4 x5 x1 h3) gX3_lending_X3_worksByLending rfl ⟨rfl, rfl⟩ hd_X3_worksByLending ⟨Nat.le_of_ble_eq_true rfl, Nat.le_of_ble_eq_true rfl⟩ hl.1 rfl (Nat.le_of_ble_eq_true rfl) dX3_lending_79 ⟨Nat.le_refl _, Nat.le_refl _⟩) (fun H locs hP hS => ?_)
      refine lv_istore (lv' := [(6, .int v4), (0, .ref (ad 0)), (1, .int x1), (2, .int x2), (3, .int x3), (4, .int x4), (5, .int x5)]) hx hb dX3_lending_82 hl (by decide) rfl (fun ls hl => ?_)
      refine lv_iload hx hb dX3_lending_84 (lv_at hl 0 rfl) ?_
      refine lv_iload_n hx hb dX3_lending_86 rfl (lv_at hl 3 rfl) ?_
      refine lv_icmp_le (tgt := 102) hx hb dX3_lending_87 (by decide) (fun c6 => ?_) (fun c6 => ?_)
      · have hf := ite_t hf c6
        exact w3_lending_b102 hI C0 k46 hk46 (f3_lending_b61 k46 n) ih S5 x1 x2 x3 x4 x5 hf H locs ls hP hS (lv_sub hl [1, 2, 3, 4, 5, 6] rfl)
      · have hf := ite_f hf c6
        refine lv_iload hx hb dX3_lending_90 (lv_at hl 0 rfl) ?_
        refine lv_istore_n (lv' := [(2, .int v4), (6, .int v4), (0, .ref (ad 0)), (1, .int x1), (3, .int x3), (4, .int x4), (5, .int x5)]) hx hb dX3_lending_92 rfl hl (by decide) rfl (fun ls hl => ?_)
        refine lv_bipush (v := 10) hx hb dX3_lending_93 (by decide) ?_
        refine lv_iload hx hb dX3_lending_95 (lv_at hl 5 rfl) ?_
        refine lv_imul hx hb dX3_lending_97 ?_
        refine lv_iload hx hb dX3_lending_98 (lv_at hl 6 rfl) ?_
        refine lv_iadd hx hb dX3_lending_100 ?_
        refine lv_topi (fun v7 ev7 => ?_)
        have hf := nm_at ev7 hf
        refine lv_istore_n (lv' := [(3, .int v7), (2, .int v4), (6, .int v4), (0, .ref (ad 0)), (1, .int x1), (4, .int x4), (5, .int x5)]) hx hb dX3_lending_101 rfl hl (by decide) rfl (fun ls hl => ?_)
        exact w3_lending_b102 hI C0 k46 hk46 (f3_lending_b61 k46 n) ih S5 x1 v4 v7 x4 x5 hf H locs ls hP hS (lv_sub hl [3, 4, 1, 0, 5, 6] rfl)
set_option maxHeartbeats 4000000 in
set_option maxRecDepth 100000 in
theorem w3_lending_b46 {p : Program} {l : Launch} {e : Env} {s : State} {m : MethodId} {args : Array Value} {below : List Frame} {meth : Method} {c : Code} {D : va_G} {K : Nat → ClassId} {ad : Nat → Nat} {tL : Nat} (hI : INJ NC ad) (C0 : Cx p s m args meth c RX3 wsX3_lending cX3_lending 7 (some .int) (KC D K tL (IW NC ad))) {r : Int32} {T : Mem} : ∀ (n : Nat), ∀ (S : Mem) (x1 : Int32) (x2 : Int32) (x3 : Int32) (x4 : Int32), f3_lending_b46 n S x1 x2 x3 x4 = some (r, T) → ∀ (H : Heap) (locs : List Loc) (ls : Array Slot), va_P D vwCl (wl NC ad (EC K ad S)) H → va_S (IW NC ad) s.heap H locs → lv_has ls 7 [(0, .ref (ad 0)), (1, .int x1), (2, .int x2), (3, .int x3), (4, .int x4)] → W p l e rm3_lending s m args below meth c H locs 0 0 (MQ below (va_Qi (fun (x : Int32) (u : Mem) => x = r ∧ u = T) (fun u t => va_P D vwCl (wl NC ad (EC K ad u)) t.heap) (IW NC ad)) args s 0 0 (IW NC ad)) (F0 m 46 ls []) := by
  have hx := C0.1
  have hb := C0.2.1
  have hts := C0.2.2.2.2.1
  have hown := C0.2.2.2.1
  have hKC := C0.2.2.2.2.2.2.2
  intro n
  induction n with
  | zero =>
    intro S x1 x2 x3 x4 hf
    rw [f3_lending_b46] at hf
    cases hf
  | succ n ih =>
    intro S x1 x2 x3 x4 hf H locs ls hP hS hl
    rw [f3_lending_b46] at hf
    refine lv_iload hx hb dX3_lending_46 (lv_at hl 4 rfl) ?_
    refine lv_aload_n hx hb dX3_lending_48 rfl (lv_at hl 0 rfl) ?_
    refine x_get C0 hKC.1 hP (by decide) (EC_0 K ad S) rfl in_X3_lending_X3 4 (by decide) (List.mem_of_getElem? (i := 1) rfl) rfl dX3_lending_49 ?_
    refine x_get C0 hKC.1 hP (by decide) (EC_H K ad S) rfl in_X3_lending_X0 3 (by decide) (List.mem_of_getElem? (i := 2) rfl) rfl dX3_lending_52 ?_
    refine lv_icmp_ge (tgt := 114) hx hb dX3_lending_55 (by decide) (fun c1 => ?_) (fun c1 => ?_)
    · have hf := ite_t hf c1
      refine lv_iload_n hx hb dX3_lending_114 rfl (lv_at hl 3 rfl) ?_
      refine lv_bipush (v := (-9)) hx hb dX3_lending_115 (by decide) ?_
      refine lv_icmp_eq (tgt := 125) hx hb dX3_lending_117 (by decide) (fun c2 => ?_) (fun c2 => ?_)
      · have hf := ite_t hf c2
        refine lv_iload_n hx hb dX3_lending_125 rfl (lv_at hl 3 rfl) ?_
        exact ret_i C0 hP hS (congrArg Prod.fst (Option.some.inj hf)) (congrArg Prod.snd (Option.some.inj hf)) dX3_lending_126
      · have hf := ite_f hf c2
        refine lv_aload_n hx hb dX3_lending_120 rfl (lv_at hl 0 rfl) ?_
        refine lv_iload_n hx hb dX3_lending_121 rfl (lv_at hl 2 rfl) ?_
        refine x_puti C0 hKC.1 hI (EC_loc K ad) hP hS (by decide) (EC_0 K ad S) rfl tyX3 tyX3_ok nmX3 in_X3_lending_X3 9 (by decide) (List.mem_of_getElem? (i := 4) rfl) rfl (tyX3_ok 9 (by decide)) (Nat.le_of_ble_eq_true rfl) (EC_p9 K ad S _) dX3_lending_122 (fun S3 eS3 H locs hP hS => ?_)
        have hf := nm_at eS3 hf
        refine lv_iload_n hx hb dX3_lending_125 rfl (lv_at hl 3 rfl) ?_
        exact ret_i C0 hP hS (congrArg Prod.fst (Option.some.inj hf)) (congrArg Prod.snd (Option.some.inj hf)) dX3_lending_126
    · have hf := ite_f hf c1
      refine lv_iconst (v := 0) hx hb dX3_lending_58 (by decide) ?_
      refine lv_istore (lv' := [(5, .int 0), (0, .ref (ad 0)), (1, .int x1), (2, .int x2), (3, .int x3), (4, .int x4)]) hx hb dX3_lending_59 hl (by decide) rfl (fun ls hl => ?_)
      exact w3_lending_b61 hI C0 (f3_lending_b46 n) ih FU S x1 x2 x3 x4 0 hf H locs ls hP hS (lv_sub hl [1, 2, 3, 4, 5, 0] rfl)
set_option maxHeartbeats 4000000 in
set_option maxRecDepth 100000 in
theorem w3_lending {p : Program} {l : Launch} {e : Env} {s : State} {m : MethodId} {args : Array Value} {below : List Frame} {meth : Method} {c : Code} {D : va_G} {K : Nat → ClassId} {ad : Nat → Nat} {tL : Nat} (hI : INJ NC ad) (C0 : Cx p s m args meth c RX3 wsX3_lending cX3_lending 7 (some .int) (KC D K tL (IW NC ad))) {r : Int32} {T : Mem} : ∀ (S : Mem) (x1 : Int32), f3_lending S x1 = some (r, T) → ∀ (H : Heap) (locs : List Loc) (ls : Array Slot), va_P D vwCl (wl NC ad (EC K ad S)) H → va_S (IW NC ad) s.heap H locs → lv_has ls 7 [(0, .ref (ad 0)), (1, .int x1)] → W p l e rm3_lending s m args below meth c H locs 0 0 (MQ below (va_Qi (fun (x : Int32) (u : Mem) => x = r ∧ u = T) (fun u t => va_P D vwCl (wl NC ad (EC K ad u)) t.heap) (IW NC ad)) args s 0 0 (IW NC ad)) (F0 m 0 ls []) := by
  have hx := C0.1
  have hb := C0.2.1
  have hts := C0.2.2.2.2.1
  have hown := C0.2.2.2.1
  have hKC := C0.2.2.2.2.2.2.2
  intro S x1 hf H locs ls hP hS hl
  rw [f3_lending] at hf
  refine lv_iload_n hx hb dX3_lending_0 rfl (lv_at hl 1 rfl) ?_
  obtain ⟨v2, h1, hf⟩ := b1_some hf
  refine sys_i hS (sys_runS (As := [.int x1]) (rest := []) C0 KC_ok hP hS (m3_isCup l D K ad tL hI S x1 h1) gX3_lending_X3_isCup rfl ⟨rfl, rfl⟩ hd_X3_isCup ⟨Nat.le_of_ble_eq_true rfl, Nat.le_of_ble_eq_true rfl⟩ hl.1 rfl (Nat.le_of_ble_eq_true rfl) dX3_lending_1 ⟨Nat.le_refl _, Nat.le_refl _⟩) (fun H locs hP hS => ?_)
  refine lv_if_ne (tgt := 9) hx hb dX3_lending_4 (by decide) (fun c3 => ?_) (fun c3 => ?_)
  · have hf := ite_f hf c3
    refine lv_aload_n hx hb dX3_lending_9 rfl (lv_at hl 0 rfl) ?_
    refine x_get C0 hKC.1 hP (by decide) (EC_0 K ad S) rfl in_X3_lending_X3 4 (by decide) (List.mem_of_getElem? (i := 1) rfl) rfl dX3_lending_10 ?_
    refine x_get C0 hKC.1 hP (by decide) (EC_H K ad S) rfl in_X3_lending_X0 3 (by decide) (List.mem_of_getElem? (i := 2) rfl) rfl dX3_lending_13 ?_
    refine lv_if_ne (tgt := 22) hx hb dX3_lending_16 (by decide) (fun c4 => ?_) (fun c4 => ?_)
    · have hf := ite_f hf c4
      refine lv_aload_n hx hb dX3_lending_22 rfl (lv_at hl 0 rfl) ?_
      refine x_get C0 hKC.1 hP (by decide) (EC_0 K ad S) rfl in_X3_lending_X3 5 (by decide) (List.mem_of_getElem? (i := 3) rfl) rfl dX3_lending_23 ?_
      obtain ⟨q6, h5, hf⟩ := b1_some hf
      obtain ⟨g7, hf⟩ := gd_some hf
      refine sys_r hS (sys_runV (As := []) (rest := []) C0 KC_ok hKC.1 hP hS (ltS (by decide : 0 < 4)) (EC_S K ad S (by decide : 0 < 4)) rfl (m2_now l D K ad tL hI S 0 (by decide : 0 < 4) h5) gX3_lending_X2_now rfl ⟨rfl, rfl⟩ hd_X2_now ⟨Nat.le_of_ble_eq_true rfl, Nat.le_of_ble_eq_true rfl⟩ hl.1 rfl (Nat.le_of_ble_eq_true rfl) dX3_lending_26 ⟨Nat.le_refl _, Nat.le_refl _⟩) (fun H locs hP hS => ?_)
      refine lv_aload_n hx hb dX3_lending_29 rfl (lv_at hl 0 rfl) ?_
      refine x_get C0 hKC.1 hP (by decide) (EC_0 K ad S) rfl in_X3_lending_X3 4 (by decide) (List.mem_of_getElem? (i := 1) rfl) rfl dX3_lending_30 ?_
      obtain ⟨v9, h8, hf⟩ := b1_some hf
      refine sys_i hS (sys_runV (As := [.ref (ad 15)]) (rest := []) C0 KC_ok hKC.1 hP hS (ltM (of_decide_eq_true g7)) (EC_M K ad S (of_decide_eq_true g7)) rfl (m1_worksOff l D K ad tL hI S q6 (of_decide_eq_true g7) h8) gX3_lending_X1_worksOff rfl ⟨rfl, rfl⟩ hd_X1_worksOff ⟨Nat.le_of_ble_eq_true rfl, Nat.le_of_ble_eq_true rfl⟩ hl.1 rfl (Nat.le_of_ble_eq_true rfl) dX3_lending_33 ⟨Nat.le_refl _, Nat.le_refl _⟩) (fun H locs hP hS => ?_)
      obtain ⟨v11, h10, hf⟩ := b1_some hf
      refine sys_i hS (sys_runS (As := [.int v9]) (rest := []) C0 KC_ok hP hS (m6_bitCount l D K ad tL hI S v9 h10) gX3_lending_J6_bitCount_0f7a4 rfl ⟨rfl, rfl⟩ hd_J6_bitCount_0f7a4 ⟨Nat.le_of_ble_eq_true rfl, Nat.le_of_ble_eq_true rfl⟩ hl.1 rfl (Nat.le_of_ble_eq_true rfl) dX3_lending_36 ⟨Nat.le_refl _, Nat.le_refl _⟩) (fun H locs hP hS => ?_)
      refine lv_istore_n (lv' := [(2, .int v11), (0, .ref (ad 0)), (1, .int x1)]) hx hb dX3_lending_39 rfl hl (by decide) rfl (fun ls hl => ?_)
      refine lv_bipush (v := (-9)) hx hb dX3_lending_40 (by decide) ?_
      refine lv_istore_n (lv' := [(3, .int (-9)), (2, .int v11), (0, .ref (ad 0)), (1, .int x1)]) hx hb dX3_lending_42 rfl hl (by decide) rfl (fun ls hl => ?_)
      refine lv_iconst (v := 0) hx hb dX3_lending_43 (by decide) ?_
      refine lv_istore (lv' := [(4, .int 0), (3, .int (-9)), (2, .int v11), (0, .ref (ad 0)), (1, .int x1)]) hx hb dX3_lending_44 hl (by decide) rfl (fun ls hl => ?_)
      exact w3_lending_b46 hI C0 FU S x1 v11 (-9) 0 hf H locs ls hP hS (lv_sub hl [3, 4, 2, 1, 0] rfl)
    · have hf := ite_t hf c4
      refine lv_bipush (v := (-4)) hx hb dX3_lending_19 (by decide) ?_
      exact ret_i C0 hP hS (congrArg Prod.fst (Option.some.inj hf)) (congrArg Prod.snd (Option.some.inj hf)) dX3_lending_21
  · have hf := ite_t hf c3
    refine lv_iconst (v := (-1)) hx hb dX3_lending_7 (by decide) ?_
    exact ret_i C0 hP hS (congrArg Prod.fst (Option.some.inj hf)) (congrArg Prod.snd (Option.some.inj hf)) dX3_lending_8
theorem m3_lending (l : Launch) (D : va_G) (K : Nat → ClassId) (ad : Nat → Nat) (tL : Nat) (hI : INJ NC ad) (S : Mem) (x1 : Int32) {r : Int32} {T : Mem} (hf : f3_lending S x1 = some (r, T)) : SysI l yX3_lending wsX3_lending rm3_lending D NC ad (EC K ad) (KC D K tL (IW NC ad)) [.ref (ad 0), .int x1] S r T :=
  met_of (own := RX3) (by decide) rfl rfl (Nat.le_of_ble_eq_true rfl) (fun _ _ s _ _ _ _ ls C0 _ hP hl => w3_lending hI C0 S x1 hf s.heap [] ls hP va_S.rf hl)
theorem in_X3_broughtWithGreedy_X3 : ∀ w ∈ wsX30, w ∈ wsX3_broughtWithGreedy := fun _ h => List.mem_cons_of_mem _ (List.mem_append_left _ (List.mem_append_left _ (List.mem_append_left _ (List.mem_append_right _ h))))
theorem in_X3_broughtWithGreedy_X0 : ∀ w ∈ wsX00, w ∈ wsX3_broughtWithGreedy := fun _ h => List.mem_cons_of_mem _ (List.mem_append_left _ (List.mem_append_left _ (List.mem_append_right _ h)))
theorem in_X3_broughtWithGreedy_X1 : ∀ w ∈ wsX10, w ∈ wsX3_broughtWithGreedy := fun _ h => List.mem_cons_of_mem _ (List.mem_append_left _ (List.mem_append_right _ h))
theorem in_X3_broughtWithGreedy_X2 : ∀ w ∈ wsX20, w ∈ wsX3_broughtWithGreedy := fun _ h => List.mem_cons_of_mem _ (List.mem_append_right _ h)
theorem hd_X3_broughtWithGreedy : yX3_broughtWithGreedy.cls = RX3 ∧ yX3_broughtWithGreedy.cls ≠ "java/lang/invoke/MethodHandle" ∧ yX3_broughtWithGreedy.cls ≠ "java/lang/invoke/VarHandle" ∧ (parseMethodDescriptor yX3_broughtWithGreedy.desc).map (fun d => d.parameters.length) = some 1 := by decide +kernel
abbrev rm3_broughtWithGreedy : Room := { frames := 2, cells := 0, slots := 0, locals := 54 }
set_option maxHeartbeats 4000000 in
set_option maxRecDepth 100000 in
theorem w3_broughtWithGreedy_b48 {p : Program} {l : Launch} {e : Env} {s : State} {m : MethodId} {args : Array Value} {below : List Frame} {meth : Method} {c : Code} {D : va_G} {K : Nat → ClassId} {ad : Nat → Nat} {tL : Nat} (hI : INJ NC ad) (C0 : Cx p s m args meth c RX3 wsX3_broughtWithGreedy cX3_broughtWithGreedy 6 (some .int) (KC D K tL (IW NC ad))) (S : Mem) {r : Int32} (k13 : Int32 → Nat → Int32 → Int32 → Option Int32) (hk13 : ∀ (x1 : Int32) (q2 : Nat) (x3 : Int32) (x4 : Int32), q2 < 165 → k13 x1 q2 x3 x4 = some r → ∀ (H : Heap) (locs : List Loc) (ls : Array Slot), va_P D vwCl (wl NC ad (EC K ad S)) H → va_S (IW NC ad) s.heap H locs → lv_has ls 6 [(0, .ref (ad 0)), (1, .int x1), (2, .ref (ad (30 + q2))), (3, .int x3), (4, .int x4)] → W p l e rm3_broughtWithGreedy s m args below meth c H locs 0 0 (MQ below (va_Qi (fun (x : Int32) (u : Mem) => x = r ∧ u = S) (fun u t => va_P D vwCl (wl NC ad (EC K ad u)) t.heap) (IW NC ad)) args s 0 0 (IW NC ad)) (F0 m 13 ls [])) : ∀ (x1 : Int32) (q2 : Nat) (x3 : Int32) (x4 : Int32) (t0 : Int32), q2 < 165 → f3_broughtWithGreedy_b48 k13 S x1 q2 x3 x4 t0 = some r → ∀ (H : Heap) (locs : List Loc) (ls : Array Slot), va_P D vwCl (wl NC ad (EC K ad S)) H → va_S (IW NC ad) s.heap H locs → lv_has ls 6 [(0, .ref (ad 0)), (1, .int x1), (2, .ref (ad (30 + q2))), (3, .int x3), (4, .int x4)] → W p l e rm3_broughtWithGreedy s m args below meth c H locs 0 0 (MQ below (va_Qi (fun (x : Int32) (u : Mem) => x = r ∧ u = S) (fun u t => va_P D vwCl (wl NC ad (EC K ad u)) t.heap) (IW NC ad)) args s 0 0 (IW NC ad)) (F0 m 48 ls [.int t0]) := by
  have hx := C0.1
  have hb := C0.2.1
  have hts := C0.2.2.2.2.1
  have hown := C0.2.2.2.1
  have hKC := C0.2.2.2.2.2.2.2
  intro x1 q2 x3 x4 t0 hq2 hf H locs ls hP hS hl
  rw [f3_broughtWithGreedy_b48] at hf
  refine lv_istore (lv' := [(5, .int t0), (0, .ref (ad 0)), (1, .int x1), (2, .ref (ad (30 + q2))), (3, .int x3), (4, .int x4)]) hx hb dX3_broughtWithGreedy_48 hl (by decide) rfl (fun ls hl => ?_)
  refine lv_iload_n hx hb dX3_broughtWithGreedy_50 rfl (lv_at hl 4 rfl) ?_
  refine lv_iload hx hb dX3_broughtWithGreedy_51 (lv_at hl 0 rfl) ?_
  refine lv_aload_n hx hb dX3_broughtWithGreedy_53 rfl (lv_at hl 3 rfl) ?_
  refine x_get C0 hKC.1 hP (ltM hq2) (EC_M K ad S hq2) rfl in_X3_broughtWithGreedy_X1 0 (by decide) (List.mem_of_getElem? (i := 5) rfl) rfl dX3_broughtWithGreedy_54 ?_
  refine lv_iload hx hb dX3_broughtWithGreedy_57 (lv_at hl 5 rfl) ?_
  obtain ⟨g1, hf⟩ := gd_some hf
  refine x_iald C0 hKC.1 hP (IC_jar K ad hq2) (t0 := 0) rfl g1 dX3_broughtWithGreedy_59 ?_
  refine lv_aload_n hx hb dX3_broughtWithGreedy_60 rfl (lv_at hl 3 rfl) ?_
  refine x_get C0 hKC.1 hP (ltM hq2) (EC_M K ad S hq2) rfl in_X3_broughtWithGreedy_X1 1 (by decide) (List.mem_of_getElem? (i := 6) rfl) rfl dX3_broughtWithGreedy_61 ?_
  obtain ⟨v3, h2, hf⟩ := b1_some hf
  refine sys_i hS (sys_runS (As := [.int t0, .int (gi S (195 + q2) (ix x4)), .int (gi S (30 + q2) 1)]) (rest := [.int x3]) C0 KC_ok hP hS (m3_broughtBy l D K ad tL hI S t0 (gi S (195 + q2) (ix x4)) (gi S (30 + q2) 1) h2) gX3_broughtWithGreedy_X3_broughtBy rfl ⟨rfl, rfl⟩ hd_X3_broughtBy ⟨Nat.le_of_ble_eq_true rfl, Nat.le_of_ble_eq_true rfl⟩ hl.1 rfl (Nat.le_of_ble_eq_true rfl) dX3_broughtWithGreedy_64 ⟨Nat.le_refl _, Nat.le_refl _⟩) (fun H locs hP hS => ?_)
  refine lv_iadd hx hb dX3_broughtWithGreedy_67 ?_
  refine lv_topi (fun v4 ev4 => ?_)
  have hf := nm_at ev4 hf
  refine lv_istore_n (lv' := [(3, .int v4), (5, .int t0), (0, .ref (ad 0)), (1, .int x1), (2, .ref (ad (30 + q2))), (4, .int x4)]) hx hb dX3_broughtWithGreedy_68 rfl hl (by decide) rfl (fun ls hl => ?_)
  obtain ⟨v5, ev5⟩ : ∃ y : Int32, y = x4 + 1 := ⟨_, rfl⟩
  have hf := nm_at ev5 hf
  refine lv_iinc (v := v5) (lv' := [(4, .int v5), (3, .int v4), (5, .int t0), (0, .ref (ad 0)), (1, .int x1), (2, .ref (ad (30 + q2)))]) hx hb dX3_broughtWithGreedy_69 hl (k := 5) rfl (by rw [ev5]; rfl) (by decide) rfl (fun ls hl => ?_)
  refine lv_goto (tgt := 13) hx hb dX3_broughtWithGreedy_72 (by decide) ?_
  exact hk13 x1 q2 v4 v5 hq2 hf H locs ls hP hS (lv_sub hl [3, 4, 5, 1, 0] rfl)
set_option maxHeartbeats 4000000 in
set_option maxRecDepth 100000 in
theorem w3_broughtWithGreedy_b13 {p : Program} {l : Launch} {e : Env} {s : State} {m : MethodId} {args : Array Value} {below : List Frame} {meth : Method} {c : Code} {D : va_G} {K : Nat → ClassId} {ad : Nat → Nat} {tL : Nat} (hI : INJ NC ad) (C0 : Cx p s m args meth c RX3 wsX3_broughtWithGreedy cX3_broughtWithGreedy 6 (some .int) (KC D K tL (IW NC ad))) (S : Mem) {r : Int32} : ∀ (n : Nat), ∀ (x1 : Int32) (q2 : Nat) (x3 : Int32) (x4 : Int32), q2 < 165 → f3_broughtWithGreedy_b13 S n x1 q2 x3 x4 = some r → ∀ (H : Heap) (locs : List Loc) (ls : Array Slot), va_P D vwCl (wl NC ad (EC K ad S)) H → va_S (IW NC ad) s.heap H locs → lv_has ls 6 [(0, .ref (ad 0)), (1, .int x1), (2, .ref (ad (30 + q2))), (3, .int x3), (4, .int x4)] → W p l e rm3_broughtWithGreedy s m args below meth c H locs 0 0 (MQ below (va_Qi (fun (x : Int32) (u : Mem) => x = r ∧ u = S) (fun u t => va_P D vwCl (wl NC ad (EC K ad u)) t.heap) (IW NC ad)) args s 0 0 (IW NC ad)) (F0 m 13 ls []) := by
  have hx := C0.1
  have hb := C0.2.1
  have hts := C0.2.2.2.2.1
  have hown := C0.2.2.2.1
  have hKC := C0.2.2.2.2.2.2.2
  intro n
  induction n with
  | zero =>
    intro x1 q2 x3 x4 hq2 hf
    rw [f3_broughtWithGreedy_b13] at hf
    cases hf
  | succ n ih =>
    intro x1 q2 x3 x4 hq2 hf H locs ls hP hS hl
    rw [f3_broughtWithGreedy_b13] at hf
    refine lv_iload hx hb dX3_broughtWithGreedy_13 (lv_at hl 4 rfl) ?_
    refine lv_aload_n hx hb dX3_broughtWithGreedy_15 rfl (lv_at hl 0 rfl) ?_
    refine x_get C0 hKC.1 hP (by decide) (EC_0 K ad S) rfl in_X3_broughtWithGreedy_X3 4 (by decide) (List.mem_of_getElem? (i := 2) rfl) rfl dX3_broughtWithGreedy_16 ?_
    refine x_get C0 hKC.1 hP (by decide) (EC_H K ad S) rfl in_X3_broughtWithGreedy_X0 3 (by decide) (List.mem_of_getElem? (i := 3) rfl) rfl dX3_broughtWithGreedy_19 ?_
    refine lv_icmp_ge (tgt := 75) hx hb dX3_broughtWithGreedy_22 (by decide) (fun c1 => ?_) (fun c1 => ?_)
    · have hf := ite_t hf c1
      refine lv_iload_n hx hb dX3_broughtWithGreedy_75 rfl (lv_at hl 3 rfl) ?_
      exact ret_i C0 hP hS (Option.some.inj hf) rfl dX3_broughtWithGreedy_76
    · have hf := ite_f hf c1
      refine lv_iload_n hx hb dX3_broughtWithGreedy_25 rfl (lv_at hl 1 rfl) ?_
      refine lv_iload hx hb dX3_broughtWithGreedy_26 (lv_at hl 4 rfl) ?_
      obtain ⟨v3, h2, hf⟩ := b1_some hf
      refine sys_i hS (sys_runS (As := [.int x1, .int x4]) (rest := []) C0 KC_ok hP hS (m3_has l D K ad tL hI S x1 x4 h2) gX3_broughtWithGreedy_X3_has rfl ⟨rfl, rfl⟩ hd_X3_has ⟨Nat.le_of_ble_eq_true rfl, Nat.le_of_ble_eq_true rfl⟩ hl.1 rfl (Nat.le_of_ble_eq_true rfl) dX3_broughtWithGreedy_28 ⟨Nat.le_refl _, Nat.le_refl _⟩) (fun H locs hP hS => ?_)
      refine lv_if_eq (tgt := 38) hx hb dX3_broughtWithGreedy_31 (by decide) (fun c4 => ?_) (fun c4 => ?_)
      · have hf := ite_t hf c4
        refine lv_aload_n hx hb dX3_broughtWithGreedy_38 rfl (lv_at hl 0 rfl) ?_
        refine x_get C0 hKC.1 hP (by decide) (EC_0 K ad S) rfl in_X3_broughtWithGreedy_X3 4 (by decide) (List.mem_of_getElem? (i := 2) rfl) rfl dX3_broughtWithGreedy_39 ?_
        refine x_get C0 hKC.1 hP (by decide) (EC_H K ad S) rfl in_X3_broughtWithGreedy_X0 0 (by decide) (List.mem_of_getElem? (i := 4) rfl) rfl dX3_broughtWithGreedy_42 ?_
        refine lv_iload hx hb dX3_broughtWithGreedy_45 (lv_at hl 4 rfl) ?_
        obtain ⟨g5, hf⟩ := gd_some hf
        refine x_iald C0 hKC.1 hP (IC_16 K ad) (t0 := 0) rfl g5 dX3_broughtWithGreedy_47 ?_
        exact w3_broughtWithGreedy_b48 hI C0 S (f3_broughtWithGreedy_b13 S n) ih x1 q2 x3 x4 (gi S 16 (ix x4)) hq2 hf H locs ls hP hS (lv_sub hl [0, 1, 2, 3, 4] rfl)
      · have hf := ite_f hf c4
        refine lv_iconst (v := 3) hx hb dX3_broughtWithGreedy_34 (by decide) ?_
        refine lv_goto (tgt := 48) hx hb dX3_broughtWithGreedy_35 (by decide) ?_
        exact w3_broughtWithGreedy_b48 hI C0 S (f3_broughtWithGreedy_b13 S n) ih x1 q2 x3 x4 3 hq2 hf H locs ls hP hS (lv_sub hl [0, 1, 2, 3, 4] rfl)
set_option maxHeartbeats 4000000 in
set_option maxRecDepth 100000 in
theorem w3_broughtWithGreedy {p : Program} {l : Launch} {e : Env} {s : State} {m : MethodId} {args : Array Value} {below : List Frame} {meth : Method} {c : Code} {D : va_G} {K : Nat → ClassId} {ad : Nat → Nat} {tL : Nat} (hI : INJ NC ad) (C0 : Cx p s m args meth c RX3 wsX3_broughtWithGreedy cX3_broughtWithGreedy 6 (some .int) (KC D K tL (IW NC ad))) (S : Mem) {r : Int32} : ∀ (x1 : Int32), f3_broughtWithGreedy S x1 = some r → ∀ (H : Heap) (locs : List Loc) (ls : Array Slot), va_P D vwCl (wl NC ad (EC K ad S)) H → va_S (IW NC ad) s.heap H locs → lv_has ls 6 [(0, .ref (ad 0)), (1, .int x1)] → W p l e rm3_broughtWithGreedy s m args below meth c H locs 0 0 (MQ below (va_Qi (fun (x : Int32) (u : Mem) => x = r ∧ u = S) (fun u t => va_P D vwCl (wl NC ad (EC K ad u)) t.heap) (IW NC ad)) args s 0 0 (IW NC ad)) (F0 m 0 ls []) := by
  have hx := C0.1
  have hb := C0.2.1
  have hts := C0.2.2.2.2.1
  have hown := C0.2.2.2.1
  have hKC := C0.2.2.2.2.2.2.2
  intro x1 hf H locs ls hP hS hl
  rw [f3_broughtWithGreedy] at hf
  refine lv_aload_n hx hb dX3_broughtWithGreedy_0 rfl (lv_at hl 0 rfl) ?_
  refine x_get C0 hKC.1 hP (by decide) (EC_0 K ad S) rfl in_X3_broughtWithGreedy_X3 5 (by decide) (List.mem_of_getElem? (i := 1) rfl) rfl dX3_broughtWithGreedy_1 ?_
  obtain ⟨q2, h1, hf⟩ := b1_some hf
  obtain ⟨g3, hf⟩ := gd_some hf
  refine sys_r hS (sys_runV (As := []) (rest := []) C0 KC_ok hKC.1 hP hS (ltS (by decide : 0 < 4)) (EC_S K ad S (by decide : 0 < 4)) rfl (m2_now l D K ad tL hI S 0 (by decide : 0 < 4) h1) gX3_broughtWithGreedy_X2_now rfl ⟨rfl, rfl⟩ hd_X2_now ⟨Nat.le_of_ble_eq_true rfl, Nat.le_of_ble_eq_true rfl⟩ hl.1 rfl (Nat.le_of_ble_eq_true rfl) dX3_broughtWithGreedy_4 ⟨Nat.le_refl _, Nat.le_refl _⟩) (fun H locs hP hS => ?_)
  refine lv_astore_n (lv' := [(2, .ref (ad (30 + q2))), (0, .ref (ad 0)), (1, .int x1)]) hx hb dX3_broughtWithGreedy_7 rfl hl (by decide) rfl (fun ls hl => ?_)
  refine lv_iconst (v := 0) hx hb dX3_broughtWithGreedy_8 (by decide) ?_
  refine lv_istore_n (lv' := [(3, .int 0), (2, .ref (ad (30 + q2))), (0, .ref (ad 0)), (1, .int x1)]) hx hb dX3_broughtWithGreedy_9 rfl hl (by decide) rfl (fun ls hl => ?_)
  refine lv_iconst (v := 0) hx hb dX3_broughtWithGreedy_10 (by decide) ?_
  refine lv_istore (lv' := [(4, .int 0), (3, .int 0), (2, .ref (ad (30 + q2))), (0, .ref (ad 0)), (1, .int x1)]) hx hb dX3_broughtWithGreedy_11 hl (by decide) rfl (fun ls hl => ?_)
  exact w3_broughtWithGreedy_b13 hI C0 S FU x1 q2 0 0 (of_decide_eq_true g3) hf H locs ls hP hS (lv_sub hl [3, 4, 2, 1, 0] rfl)
theorem m3_broughtWithGreedy (l : Launch) (D : va_G) (K : Nat → ClassId) (ad : Nat → Nat) (tL : Nat) (hI : INJ NC ad) (S : Mem) (x1 : Int32) {r : Int32} (hf : f3_broughtWithGreedy S x1 = some r) : SysI l yX3_broughtWithGreedy wsX3_broughtWithGreedy rm3_broughtWithGreedy D NC ad (EC K ad) (KC D K tL (IW NC ad)) [.ref (ad 0), .int x1] S r S :=
  met_of (own := RX3) (by decide) rfl rfl (Nat.le_of_ble_eq_true rfl) (fun _ _ s _ _ _ _ ls C0 _ hP hl => w3_broughtWithGreedy hI C0 S x1 hf s.heap [] ls hP va_S.rf hl)
theorem in_X3_tellLeast_X3 : ∀ w ∈ wsX30, w ∈ wsX3_tellLeast := fun _ h => List.mem_cons_of_mem _ (List.mem_append_right _ h)
theorem hd_X3_tellLeast : yX3_tellLeast.cls = RX3 ∧ yX3_tellLeast.cls ≠ "java/lang/invoke/MethodHandle" ∧ yX3_tellLeast.cls ≠ "java/lang/invoke/VarHandle" ∧ (parseMethodDescriptor yX3_tellLeast.desc).map (fun d => d.parameters.length) = some 2 := by decide +kernel
abbrev rm3_tellLeast : Room := { frames := 0, cells := 0, slots := 0, locals := 0 }
set_option maxHeartbeats 4000000 in
set_option maxRecDepth 100000 in
theorem w3_tellLeast {p : Program} {l : Launch} {e : Env} {s : State} {m : MethodId} {args : Array Value} {below : List Frame} {meth : Method} {c : Code} {D : va_G} {K : Nat → ClassId} {ad : Nat → Nat} {tL : Nat} (hI : INJ NC ad) (C0 : Cx p s m args meth c RX3 wsX3_tellLeast cX3_tellLeast 3 (some .int) (KC D K tL (IW NC ad))) {r : Int32} {T : Mem} : ∀ (S : Mem) (x1 : Int32) (x2 : Int32), f3_tellLeast S x1 x2 = some (r, T) → ∀ (H : Heap) (locs : List Loc) (ls : Array Slot), va_P D vwCl (wl NC ad (EC K ad S)) H → va_S (IW NC ad) s.heap H locs → lv_has ls 3 [(0, .ref (ad 0)), (1, .int x1), (2, .int x2)] → W p l e rm3_tellLeast s m args below meth c H locs 0 0 (MQ below (va_Qi (fun (x : Int32) (u : Mem) => x = r ∧ u = T) (fun u t => va_P D vwCl (wl NC ad (EC K ad u)) t.heap) (IW NC ad)) args s 0 0 (IW NC ad)) (F0 m 0 ls []) := by
  have hx := C0.1
  have hb := C0.2.1
  have hts := C0.2.2.2.2.1
  have hown := C0.2.2.2.1
  have hKC := C0.2.2.2.2.2.2.2
  intro S x1 x2 hf H locs ls hP hS hl
  rw [f3_tellLeast] at hf
  refine lv_iload_n hx hb dX3_tellLeast_0 rfl (lv_at hl 1 rfl) ?_
  refine lv_if_ne (tgt := 7) hx hb dX3_tellLeast_1 (by decide) (fun c1 => ?_) (fun c1 => ?_)
  · have hf := ite_f hf c1
    refine lv_aload_n hx hb dX3_tellLeast_7 rfl (lv_at hl 0 rfl) ?_
    refine lv_iload_n hx hb dX3_tellLeast_8 rfl (lv_at hl 2 rfl) ?_
    refine x_puti C0 hKC.1 hI (EC_loc K ad) hP hS (by decide) (EC_0 K ad S) rfl tyX3 tyX3_ok nmX3 in_X3_tellLeast_X3 9 (by decide) (List.mem_of_getElem? (i := 1) rfl) rfl (tyX3_ok 9 (by decide)) (Nat.le_of_ble_eq_true rfl) (EC_p9 K ad S _) dX3_tellLeast_9 (fun S2 eS2 H locs hP hS => ?_)
    have hf := nm_at eS2 hf
    refine lv_iload_n hx hb dX3_tellLeast_12 rfl (lv_at hl 1 rfl) ?_
    exact ret_i C0 hP hS (congrArg Prod.fst (Option.some.inj hf)) (congrArg Prod.snd (Option.some.inj hf)) dX3_tellLeast_13
  · have hf := ite_t hf c1
    refine lv_bipush (v := (-9)) hx hb dX3_tellLeast_4 (by decide) ?_
    exact ret_i C0 hP hS (congrArg Prod.fst (Option.some.inj hf)) (congrArg Prod.snd (Option.some.inj hf)) dX3_tellLeast_6
theorem m3_tellLeast (l : Launch) (D : va_G) (K : Nat → ClassId) (ad : Nat → Nat) (tL : Nat) (hI : INJ NC ad) (S : Mem) (x1 : Int32) (x2 : Int32) {r : Int32} {T : Mem} (hf : f3_tellLeast S x1 x2 = some (r, T)) : SysI l yX3_tellLeast wsX3_tellLeast rm3_tellLeast D NC ad (EC K ad) (KC D K tL (IW NC ad)) [.ref (ad 0), .int x1, .int x2] S r T :=
  met_of (own := RX3) (by decide) rfl rfl (Nat.le_of_ble_eq_true rfl) (fun _ _ s _ _ _ _ ls C0 _ hP hl => w3_tellLeast hI C0 S x1 x2 hf s.heap [] ls hP va_S.rf hl)
theorem in_X3_greedy_X3 : ∀ w ∈ wsX30, w ∈ wsX3_greedy := fun _ h => List.mem_cons_of_mem _ (List.mem_append_left _ (List.mem_append_left _ (List.mem_append_left _ (List.mem_append_right _ h))))
theorem in_X3_greedy_X0 : ∀ w ∈ wsX00, w ∈ wsX3_greedy := fun _ h => List.mem_cons_of_mem _ (List.mem_append_left _ (List.mem_append_left _ (List.mem_append_right _ h)))
theorem in_X3_greedy_X1 : ∀ w ∈ wsX10, w ∈ wsX3_greedy := fun _ h => List.mem_cons_of_mem _ (List.mem_append_left _ (List.mem_append_right _ h))
theorem in_X3_greedy_X2 : ∀ w ∈ wsX20, w ∈ wsX3_greedy := fun _ h => List.mem_cons_of_mem _ (List.mem_append_right _ h)
theorem hd_X3_greedy : yX3_greedy.cls = RX3 ∧ yX3_greedy.cls ≠ "java/lang/invoke/MethodHandle" ∧ yX3_greedy.cls ≠ "java/lang/invoke/VarHandle" ∧ (parseMethodDescriptor yX3_greedy.desc).map (fun d => d.parameters.length) = some 1 := by decide +kernel
abbrev rm3_greedy : Room := { frames := 3, cells := 0, slots := 0, locals := 79 }
set_option maxHeartbeats 4000000 in
set_option maxRecDepth 100000 in
theorem w3_greedy_b74 {p : Program} {l : Launch} {e : Env} {s : State} {m : MethodId} {args : Array Value} {below : List Frame} {meth : Method} {c : Code} {D : va_G} {K : Nat → ClassId} {ad : Nat → Nat} {tL : Nat} (hI : INJ NC ad) (C0 : Cx p s m args meth c RX3 wsX3_greedy cX3_greedy 5 (some .int) (KC D K tL (IW NC ad))) {r : Int32} {T : Mem} (k34 : Mem → Int32 → Int32 → Int32 → Int32 → Option (Int32 × Mem)) (hk34 : ∀ (S : Mem) (x1 : Int32) (x2 : Int32) (x3 : Int32) (x4 : Int32), k34 S x1 x2 x3 x4 = some (r, T) → ∀ (H : Heap) (locs : List Loc) (ls : Array Slot), va_P D vwCl (wl NC ad (EC K ad S)) H → va_S (IW NC ad) s.heap H locs → lv_has ls 5 [(0, .ref (ad 0)), (1, .int x1), (2, .int x2), (3, .int x3), (4, .int x4)] → W p l e rm3_greedy s m args below meth c H locs 0 0 (MQ below (va_Qi (fun (x : Int32) (u : Mem) => x = r ∧ u = T) (fun u t => va_P D vwCl (wl NC ad (EC K ad u)) t.heap) (IW NC ad)) args s 0 0 (IW NC ad)) (F0 m 34 ls [])) : ∀ (S : Mem) (x1 : Int32) (x2 : Int32) (x3 : Int32) (x4 : Int32), f3_greedy_b74 k34 S x1 x2 x3 x4 = some (r, T) → ∀ (H : Heap) (locs : List Loc) (ls : Array Slot), va_P D vwCl (wl NC ad (EC K ad S)) H → va_S (IW NC ad) s.heap H locs → lv_has ls 5 [(0, .ref (ad 0)), (1, .int x1), (2, .int x2), (3, .int x3), (4, .int x4)] → W p l e rm3_greedy s m args below meth c H locs 0 0 (MQ below (va_Qi (fun (x : Int32) (u : Mem) => x = r ∧ u = T) (fun u t => va_P D vwCl (wl NC ad (EC K ad u)) t.heap) (IW NC ad)) args s 0 0 (IW NC ad)) (F0 m 74 ls []) := by
  have hx := C0.1
  have hb := C0.2.1
  have hts := C0.2.2.2.2.1
  have hown := C0.2.2.2.1
  have hKC := C0.2.2.2.2.2.2.2
  intro S x1 x2 x3 x4 hf H locs ls hP hS hl
  rw [f3_greedy_b74] at hf
  obtain ⟨v1, ev1⟩ : ∃ y : Int32, y = x4 + 1 := ⟨_, rfl⟩
  have hf := nm_at ev1 hf
  refine lv_iinc (v := v1) (lv' := [(4, .int v1), (0, .ref (ad 0)), (1, .int x1), (2, .int x2), (3, .int x3)]) hx hb dX3_greedy_74 hl (k := 4) rfl (by rw [ev1]; rfl) (by decide) rfl (fun ls hl => ?_)
  refine lv_goto (tgt := 34) hx hb dX3_greedy_77 (by decide) ?_
  exact hk34 S x1 x2 x3 v1 hf H locs ls hP hS (lv_sub hl [1, 2, 3, 4, 0] rfl)
set_option maxHeartbeats 4000000 in
set_option maxRecDepth 100000 in
theorem w3_greedy_b73 {p : Program} {l : Launch} {e : Env} {s : State} {m : MethodId} {args : Array Value} {below : List Frame} {meth : Method} {c : Code} {D : va_G} {K : Nat → ClassId} {ad : Nat → Nat} {tL : Nat} (hI : INJ NC ad) (C0 : Cx p s m args meth c RX3 wsX3_greedy cX3_greedy 5 (some .int) (KC D K tL (IW NC ad))) {r : Int32} {T : Mem} (k34 : Mem → Int32 → Int32 → Int32 → Int32 → Option (Int32 × Mem)) (hk34 : ∀ (S : Mem) (x1 : Int32) (x2 : Int32) (x3 : Int32) (x4 : Int32), k34 S x1 x2 x3 x4 = some (r, T) → ∀ (H : Heap) (locs : List Loc) (ls : Array Slot), va_P D vwCl (wl NC ad (EC K ad S)) H → va_S (IW NC ad) s.heap H locs → lv_has ls 5 [(0, .ref (ad 0)), (1, .int x1), (2, .int x2), (3, .int x3), (4, .int x4)] → W p l e rm3_greedy s m args below meth c H locs 0 0 (MQ below (va_Qi (fun (x : Int32) (u : Mem) => x = r ∧ u = T) (fun u t => va_P D vwCl (wl NC ad (EC K ad u)) t.heap) (IW NC ad)) args s 0 0 (IW NC ad)) (F0 m 34 ls [])) : ∀ (S : Mem) (x1 : Int32) (x2 : Int32) (x4 : Int32) (t0 : Int32), f3_greedy_b73 k34 S x1 x2 x4 t0 = some (r, T) → ∀ (H : Heap) (locs : List Loc) (ls : Array Slot), va_P D vwCl (wl NC ad (EC K ad S)) H → va_S (IW NC ad) s.heap H locs → lv_has ls 5 [(0, .ref (ad 0)), (1, .int x1), (2, .int x2), (4, .int x4)] → W p l e rm3_greedy s m args below meth c H locs 0 0 (MQ below (va_Qi (fun (x : Int32) (u : Mem) => x = r ∧ u = T) (fun u t => va_P D vwCl (wl NC ad (EC K ad u)) t.heap) (IW NC ad)) args s 0 0 (IW NC ad)) (F0 m 73 ls [.int t0]) := by
  have hx := C0.1
  have hb := C0.2.1
  have hts := C0.2.2.2.2.1
  have hown := C0.2.2.2.1
  have hKC := C0.2.2.2.2.2.2.2
  intro S x1 x2 x4 t0 hf H locs ls hP hS hl
  rw [f3_greedy_b73] at hf
  refine lv_istore_n (lv' := [(3, .int t0), (0, .ref (ad 0)), (1, .int x1), (2, .int x2), (4, .int x4)]) hx hb dX3_greedy_73 rfl hl (by decide) rfl (fun ls hl => ?_)
  exact w3_greedy_b74 hI C0 k34 hk34 S x1 x2 t0 x4 hf H locs ls hP hS (lv_sub hl [1, 2, 3, 0, 4] rfl)
set_option maxHeartbeats 4000000 in
set_option maxRecDepth 100000 in
theorem w3_greedy_b34 {p : Program} {l : Launch} {e : Env} {s : State} {m : MethodId} {args : Array Value} {below : List Frame} {meth : Method} {c : Code} {D : va_G} {K : Nat → ClassId} {ad : Nat → Nat} {tL : Nat} (hI : INJ NC ad) (C0 : Cx p s m args meth c RX3 wsX3_greedy cX3_greedy 5 (some .int) (KC D K tL (IW NC ad))) {r : Int32} {T : Mem} : ∀ (n : Nat), ∀ (S : Mem) (x1 : Int32) (x2 : Int32) (x3 : Int32) (x4 : Int32), f3_greedy_b34 n S x1 x2 x3 x4 = some (r, T) → ∀ (H : Heap) (locs : List Loc) (ls : Array Slot), va_P D vwCl (wl NC ad (EC K ad S)) H → va_S (IW NC ad) s.heap H locs → lv_has ls 5 [(0, .ref (ad 0)), (1, .int x1), (2, .int x2), (3, .int x3), (4, .int x4)] → W p l e rm3_greedy s m args below meth c H locs 0 0 (MQ below (va_Qi (fun (x : Int32) (u : Mem) => x = r ∧ u = T) (fun u t => va_P D vwCl (wl NC ad (EC K ad u)) t.heap) (IW NC ad)) args s 0 0 (IW NC ad)) (F0 m 34 ls []) := by
  have hx := C0.1
  have hb := C0.2.1
  have hts := C0.2.2.2.2.1
  have hown := C0.2.2.2.1
  have hKC := C0.2.2.2.2.2.2.2
  intro n
  induction n with
  | zero =>
    intro S x1 x2 x3 x4 hf
    rw [f3_greedy_b34] at hf
    cases hf
  | succ n ih =>
    intro S x1 x2 x3 x4 hf H locs ls hP hS hl
    rw [f3_greedy_b34] at hf
    refine lv_iload hx hb dX3_greedy_34 (lv_at hl 4 rfl) ?_
    refine lv_iconst (v := 1) hx hb dX3_greedy_36 (by decide) ?_
    refine lv_aload_n hx hb dX3_greedy_37 rfl (lv_at hl 0 rfl) ?_
    refine x_get C0 hKC.1 hP (by decide) (EC_0 K ad S) rfl in_X3_greedy_X3 4 (by decide) (List.mem_of_getElem? (i := 1) rfl) rfl dX3_greedy_38 ?_
    refine x_get C0 hKC.1 hP (by decide) (EC_H K ad S) rfl in_X3_greedy_X0 3 (by decide) (List.mem_of_getElem? (i := 2) rfl) rfl dX3_greedy_41 ?_
    refine lv_ishl hx hb dX3_greedy_44 ?_
    refine lv_icmp_ge (tgt := 80) hx hb dX3_greedy_45 (by decide) (fun c1 => ?_) (fun c1 => ?_)
    · have hf := ite_t hf c1
      refine lv_aload_n hx hb dX3_greedy_80 rfl (lv_at hl 0 rfl) ?_
      refine lv_iload_n hx hb dX3_greedy_81 rfl (lv_at hl 2 rfl) ?_
      refine lv_iload_n hx hb dX3_greedy_82 rfl (lv_at hl 3 rfl) ?_
      obtain ⟨v3, S4, h2, hf⟩ := b2_some hf
      refine sys_i hS (sys_runV (As := [.int x2, .int x3]) (rest := []) C0 KC_ok hKC.1 hP hS (by decide) (EC_0 K ad S) rfl (m3_tellLeast l D K ad tL hI S x2 x3 h2) gX3_greedy_X3_tellLeast rfl ⟨rfl, rfl⟩ hd_X3_tellLeast ⟨Nat.le_of_ble_eq_true rfl, Nat.le_of_ble_eq_true rfl⟩ hl.1 rfl (Nat.le_of_ble_eq_true rfl) dX3_greedy_83 ⟨Nat.le_refl _, Nat.le_refl _⟩) (fun H locs hP hS => ?_)
      exact ret_i C0 hP hS (congrArg Prod.fst (Option.some.inj hf)) (congrArg Prod.snd (Option.some.inj hf)) dX3_greedy_86
    · have hf := ite_f hf c1
      refine lv_aload_n hx hb dX3_greedy_48 rfl (lv_at hl 0 rfl) ?_
      refine lv_iload hx hb dX3_greedy_49 (lv_at hl 4 rfl) ?_
      obtain ⟨v6, h5, hf⟩ := b1_some hf
      refine sys_i hS (sys_runV (As := [.int x4]) (rest := []) C0 KC_ok hKC.1 hP hS (by decide) (EC_0 K ad S) rfl (m3_broughtWithGreedy l D K ad tL hI S x4 h5) gX3_greedy_X3_broughtWithGreedy rfl ⟨rfl, rfl⟩ hd_X3_broughtWithGreedy ⟨Nat.le_of_ble_eq_true rfl, Nat.le_of_ble_eq_true rfl⟩ hl.1 rfl (Nat.le_of_ble_eq_true rfl) dX3_greedy_51 ⟨Nat.le_refl _, Nat.le_refl _⟩) (fun H locs hP hS => ?_)
      refine lv_iload_n hx hb dX3_greedy_54 rfl (lv_at hl 1 rfl) ?_
      refine lv_icmp_ne (tgt := 74) hx hb dX3_greedy_55 (by decide) (fun c7 => ?_) (fun c7 => ?_)
      · have hf := ite_f hf c7
        exact w3_greedy_b74 hI C0 (f3_greedy_b34 n) ih S x1 x2 x3 x4 hf H locs ls hP hS (lv_sub hl [0, 1, 2, 3, 4] rfl)
      · have hf := ite_t hf c7
        obtain ⟨v8, ev8⟩ : ∃ y : Int32, y = x2 + 1 := ⟨_, rfl⟩
        have hf := nm_at ev8 hf
        refine lv_iinc (v := v8) (lv' := [(2, .int v8), (0, .ref (ad 0)), (1, .int x1), (3, .int x3), (4, .int x4)]) hx hb dX3_greedy_58 hl (k := 2) rfl (by rw [ev8]; rfl) (by decide) rfl (fun ls hl => ?_)
        refine lv_iload_n hx hb dX3_greedy_61 rfl (lv_at hl 3 rfl) ?_
        refine lv_bipush (v := (-9)) hx hb dX3_greedy_62 (by decide) ?_
        refine lv_icmp_ne (tgt := 72) hx hb dX3_greedy_64 (by decide) (fun c9 => ?_) (fun c9 => ?_)
        · have hf := ite_f hf c9
          refine lv_iload_n hx hb dX3_greedy_72 rfl (lv_at hl 3 rfl) ?_
          exact w3_greedy_b73 hI C0 (f3_greedy_b34 n) ih S x1 v8 x4 x3 hf H locs ls hP hS (lv_sub hl [1, 2, 0, 4] rfl)
        · have hf := ite_t hf c9
          refine lv_iload hx hb dX3_greedy_67 (lv_at hl 4 rfl) ?_
          refine lv_goto (tgt := 73) hx hb dX3_greedy_69 (by decide) ?_
          exact w3_greedy_b73 hI C0 (f3_greedy_b34 n) ih S x1 v8 x4 x4 hf H locs ls hP hS (lv_sub hl [1, 2, 0, 4] rfl)
set_option maxHeartbeats 4000000 in
set_option maxRecDepth 100000 in
theorem w3_greedy {p : Program} {l : Launch} {e : Env} {s : State} {m : MethodId} {args : Array Value} {below : List Frame} {meth : Method} {c : Code} {D : va_G} {K : Nat → ClassId} {ad : Nat → Nat} {tL : Nat} (hI : INJ NC ad) (C0 : Cx p s m args meth c RX3 wsX3_greedy cX3_greedy 5 (some .int) (KC D K tL (IW NC ad))) {r : Int32} {T : Mem} : ∀ (S : Mem) (x1 : Int32), f3_greedy S x1 = some (r, T) → ∀ (H : Heap) (locs : List Loc) (ls : Array Slot), va_P D vwCl (wl NC ad (EC K ad S)) H → va_S (IW NC ad) s.heap H locs → lv_has ls 5 [(0, .ref (ad 0)), (1, .int x1)] → W p l e rm3_greedy s m args below meth c H locs 0 0 (MQ below (va_Qi (fun (x : Int32) (u : Mem) => x = r ∧ u = T) (fun u t => va_P D vwCl (wl NC ad (EC K ad u)) t.heap) (IW NC ad)) args s 0 0 (IW NC ad)) (F0 m 0 ls []) := by
  have hx := C0.1
  have hb := C0.2.1
  have hts := C0.2.2.2.2.1
  have hown := C0.2.2.2.1
  have hKC := C0.2.2.2.2.2.2.2
  intro S x1 hf H locs ls hP hS hl
  rw [f3_greedy] at hf
  refine lv_iload_n hx hb dX3_greedy_0 rfl (lv_at hl 1 rfl) ?_
  refine lv_if_lt (tgt := 11) hx hb dX3_greedy_1 (by decide) (fun c1 => ?_) (fun c1 => ?_)
  · have hf := ite_t hf c1
    refine lv_iconst (v := (-1)) hx hb dX3_greedy_11 (by decide) ?_
    exact ret_i C0 hP hS (congrArg Prod.fst (Option.some.inj hf)) (congrArg Prod.snd (Option.some.inj hf)) dX3_greedy_12
  · have hf := ite_f hf c1
    refine lv_iload_n hx hb dX3_greedy_4 rfl (lv_at hl 1 rfl) ?_
    refine lv_sipush (v := 999) hx hb dX3_greedy_5 (by decide) ?_
    refine lv_icmp_le (tgt := 13) hx hb dX3_greedy_8 (by decide) (fun c2 => ?_) (fun c2 => ?_)
    · have hf := ite_t hf c2
      refine lv_aload_n hx hb dX3_greedy_13 rfl (lv_at hl 0 rfl) ?_
      refine x_get C0 hKC.1 hP (by decide) (EC_0 K ad S) rfl in_X3_greedy_X3 4 (by decide) (List.mem_of_getElem? (i := 1) rfl) rfl dX3_greedy_14 ?_
      refine x_get C0 hKC.1 hP (by decide) (EC_H K ad S) rfl in_X3_greedy_X0 3 (by decide) (List.mem_of_getElem? (i := 2) rfl) rfl dX3_greedy_17 ?_
      refine lv_if_ne (tgt := 26) hx hb dX3_greedy_20 (by decide) (fun c3 => ?_) (fun c3 => ?_)
      · have hf := ite_f hf c3
        refine lv_iconst (v := 0) hx hb dX3_greedy_26 (by decide) ?_
        refine lv_istore_n (lv' := [(2, .int 0), (0, .ref (ad 0)), (1, .int x1)]) hx hb dX3_greedy_27 rfl hl (by decide) rfl (fun ls hl => ?_)
        refine lv_bipush (v := (-9)) hx hb dX3_greedy_28 (by decide) ?_
        refine lv_istore_n (lv' := [(3, .int (-9)), (2, .int 0), (0, .ref (ad 0)), (1, .int x1)]) hx hb dX3_greedy_30 rfl hl (by decide) rfl (fun ls hl => ?_)
        refine lv_iconst (v := 0) hx hb dX3_greedy_31 (by decide) ?_
        refine lv_istore (lv' := [(4, .int 0), (3, .int (-9)), (2, .int 0), (0, .ref (ad 0)), (1, .int x1)]) hx hb dX3_greedy_32 hl (by decide) rfl (fun ls hl => ?_)
        exact w3_greedy_b34 hI C0 FU S x1 0 (-9) 0 hf H locs ls hP hS (lv_sub hl [3, 4, 2, 1, 0] rfl)
      · have hf := ite_t hf c3
        refine lv_bipush (v := (-4)) hx hb dX3_greedy_23 (by decide) ?_
        exact ret_i C0 hP hS (congrArg Prod.fst (Option.some.inj hf)) (congrArg Prod.snd (Option.some.inj hf)) dX3_greedy_25
    · have hf := ite_f hf c2
      refine lv_iconst (v := (-1)) hx hb dX3_greedy_11 (by decide) ?_
      exact ret_i C0 hP hS (congrArg Prod.fst (Option.some.inj hf)) (congrArg Prod.snd (Option.some.inj hf)) dX3_greedy_12
theorem m3_greedy (l : Launch) (D : va_G) (K : Nat → ClassId) (ad : Nat → Nat) (tL : Nat) (hI : INJ NC ad) (S : Mem) (x1 : Int32) {r : Int32} {T : Mem} (hf : f3_greedy S x1 = some (r, T)) : SysI l yX3_greedy wsX3_greedy rm3_greedy D NC ad (EC K ad) (KC D K tL (IW NC ad)) [.ref (ad 0), .int x1] S r T :=
  met_of (own := RX3) (by decide) rfl rfl (Nat.le_of_ble_eq_true rfl) (fun _ _ s _ _ _ _ ls C0 _ hP hl => w3_greedy hI C0 S x1 hf s.heap [] ls hP va_S.rf hl)
theorem in_X3_pairsRefusal_X3 : ∀ w ∈ wsX30, w ∈ wsX3_pairsRefusal := fun _ h => List.mem_cons_of_mem _ (List.mem_append_left _ (List.mem_append_right _ h))
theorem in_X3_pairsRefusal_X0 : ∀ w ∈ wsX00, w ∈ wsX3_pairsRefusal := fun _ h => List.mem_cons_of_mem _ (List.mem_append_right _ h)
theorem hd_X3_pairsRefusal : yX3_pairsRefusal.cls = RX3 ∧ yX3_pairsRefusal.cls ≠ "java/lang/invoke/MethodHandle" ∧ yX3_pairsRefusal.cls ≠ "java/lang/invoke/VarHandle" ∧ (parseMethodDescriptor yX3_pairsRefusal.desc).map (fun d => d.parameters.length) = some 2 := by decide +kernel
abbrev rm3_pairsRefusal : Room := { frames := 2, cells := 0, slots := 0, locals := 42 }
set_option maxHeartbeats 4000000 in
set_option maxRecDepth 100000 in
theorem w3_pairsRefusal_b96 {p : Program} {l : Launch} {e : Env} {s : State} {m : MethodId} {args : Array Value} {below : List Frame} {meth : Method} {c : Code} {D : va_G} {K : Nat → ClassId} {ad : Nat → Nat} {tL : Nat} (hI : INJ NC ad) (C0 : Cx p s m args meth c RX3 wsX3_pairsRefusal cX3_pairsRefusal 6 (some .int) (KC D K tL (IW NC ad))) {r : Int32} {T : Mem} : ∀ (S : Mem), f3_pairsRefusal_b96 S = some (r, T) → ∀ (H : Heap) (locs : List Loc) (ls : Array Slot), va_P D vwCl (wl NC ad (EC K ad S)) H → va_S (IW NC ad) s.heap H locs → lv_has ls 6 [(0, .ref (ad 0))] → W p l e rm3_pairsRefusal s m args below meth c H locs 0 0 (MQ below (va_Qi (fun (x : Int32) (u : Mem) => x = r ∧ u = T) (fun u t => va_P D vwCl (wl NC ad (EC K ad u)) t.heap) (IW NC ad)) args s 0 0 (IW NC ad)) (F0 m 96 ls []) := by
  have hx := C0.1
  have hb := C0.2.1
  have hts := C0.2.2.2.2.1
  have hown := C0.2.2.2.1
  have hKC := C0.2.2.2.2.2.2.2
  intro S hf H locs ls hP hS hl
  rw [f3_pairsRefusal_b96] at hf
  refine lv_aload_n hx hb dX3_pairsRefusal_96 rfl (lv_at hl 0 rfl) ?_
  refine lv_iconst (v := 3) hx hb dX3_pairsRefusal_97 (by decide) ?_
  obtain ⟨v2, S3, h1, hf⟩ := b2_some hf
  refine sys_i hS (sys_runV (As := [.int 3]) (rest := []) C0 KC_ok hKC.1 hP hS (by decide) (EC_0 K ad S) rfl (m3_foundThat l D K ad tL hI S 3 h1) gX3_pairsRefusal_X3_foundThat rfl ⟨rfl, rfl⟩ hd_X3_foundThat ⟨Nat.le_of_ble_eq_true rfl, Nat.le_of_ble_eq_true rfl⟩ hl.1 rfl (Nat.le_of_ble_eq_true rfl) dX3_pairsRefusal_98 ⟨Nat.le_refl _, Nat.le_refl _⟩) (fun H locs hP hS => ?_)
  exact ret_i C0 hP hS (congrArg Prod.fst (Option.some.inj hf)) (congrArg Prod.snd (Option.some.inj hf)) dX3_pairsRefusal_101
set_option maxHeartbeats 4000000 in
set_option maxRecDepth 100000 in
theorem w3_pairsRefusal_b68 {p : Program} {l : Launch} {e : Env} {s : State} {m : MethodId} {args : Array Value} {below : List Frame} {meth : Method} {c : Code} {D : va_G} {K : Nat → ClassId} {ad : Nat → Nat} {tL : Nat} (hI : INJ NC ad) (C0 : Cx p s m args meth c RX3 wsX3_pairsRefusal cX3_pairsRefusal 6 (some .int) (KC D K tL (IW NC ad))) {r : Int32} {T : Mem} (k42 : Mem → Int32 → Int32 → Option (Int32 × Mem)) (hk42 : ∀ (S : Mem) (x2 : Int32) (x4 : Int32), k42 S x2 x4 = some (r, T) → ∀ (H : Heap) (locs : List Loc) (ls : Array Slot), va_P D vwCl (wl NC ad (EC K ad S)) H → va_S (IW NC ad) s.heap H locs → lv_has ls 6 [(0, .ref (ad 0)), (2, .int x2), (4, .int x4)] → W p l e rm3_pairsRefusal s m args below meth c H locs 0 0 (MQ below (va_Qi (fun (x : Int32) (u : Mem) => x = r ∧ u = T) (fun u t => va_P D vwCl (wl NC ad (EC K ad u)) t.heap) (IW NC ad)) args s 0 0 (IW NC ad)) (F0 m 42 ls [])) : ∀ (S : Mem) (x2 : Int32) (x4 : Int32) (t0 : Int32), f3_pairsRefusal_b68 k42 S x2 x4 t0 = some (r, T) → ∀ (H : Heap) (locs : List Loc) (ls : Array Slot), va_P D vwCl (wl NC ad (EC K ad S)) H → va_S (IW NC ad) s.heap H locs → lv_has ls 6 [(0, .ref (ad 0)), (2, .int x2), (4, .int x4)] → W p l e rm3_pairsRefusal s m args below meth c H locs 0 0 (MQ below (va_Qi (fun (x : Int32) (u : Mem) => x = r ∧ u = T) (fun u t => va_P D vwCl (wl NC ad (EC K ad u)) t.heap) (IW NC ad)) args s 0 0 (IW NC ad)) (F0 m 68 ls [.int t0]) := by
  have hx := C0.1
  have hb := C0.2.1
  have hts := C0.2.2.2.2.1
  have hown := C0.2.2.2.1
  have hKC := C0.2.2.2.2.2.2.2
  intro S x2 x4 t0 hf H locs ls hP hS hl
  rw [f3_pairsRefusal_b68] at hf
  refine lv_istore (lv' := [(5, .int t0), (0, .ref (ad 0)), (2, .int x2), (4, .int x4)]) hx hb dX3_pairsRefusal_68 hl (by decide) rfl (fun ls hl => ?_)
  refine lv_aload_n hx hb dX3_pairsRefusal_70 rfl (lv_at hl 1 rfl) ?_
  refine x_get C0 hKC.1 hP (by decide) (EC_0 K ad S) rfl in_X3_pairsRefusal_X3 0 (by decide) (List.mem_of_getElem? (i := 2) rfl) rfl dX3_pairsRefusal_71 ?_
  refine lv_iload_n hx hb dX3_pairsRefusal_74 rfl (lv_at hl 2 rfl) ?_
  obtain ⟨g1, hf⟩ := gd_some hf
  refine x_aald C0 hKC.1 hP (by decide) (EC_RR K ad S) (t0 := 4) rfl rfl g1 dX3_pairsRefusal_75 ?_
  refine lv_iload hx hb dX3_pairsRefusal_76 (lv_at hl 3 rfl) ?_
  obtain ⟨g2, hf⟩ := gd_some hf
  refine x_iald C0 hKC.1 hP (IC_row K ad (inb_lt g1)) (t0 := 0) rfl g2 dX3_pairsRefusal_78 ?_
  refine lv_if_lt (tgt := 96) hx hb dX3_pairsRefusal_79 (by decide) (fun c3 => ?_) (fun c3 => ?_)
  · have hf := ite_t hf c3
    exact w3_pairsRefusal_b96 hI C0 S hf H locs ls hP hS (lv_sub hl [1] rfl)
  · have hf := ite_f hf c3
    refine lv_aload_n hx hb dX3_pairsRefusal_82 rfl (lv_at hl 1 rfl) ?_
    refine x_get C0 hKC.1 hP (by decide) (EC_0 K ad S) rfl in_X3_pairsRefusal_X3 0 (by decide) (List.mem_of_getElem? (i := 2) rfl) rfl dX3_pairsRefusal_83 ?_
    refine lv_iload_n hx hb dX3_pairsRefusal_86 rfl (lv_at hl 2 rfl) ?_
    obtain ⟨g4, hf⟩ := gd_some hf
    refine x_aald C0 hKC.1 hP (by decide) (EC_RR K ad S) (t0 := 4) rfl rfl g4 dX3_pairsRefusal_87 ?_
    refine lv_iload hx hb dX3_pairsRefusal_88 (lv_at hl 3 rfl) ?_
    obtain ⟨g5, hf⟩ := gd_some hf
    refine x_iald C0 hKC.1 hP (IC_row K ad (inb_lt g4)) (t0 := 0) rfl g5 dX3_pairsRefusal_90 ?_
    refine lv_iload hx hb dX3_pairsRefusal_91 (lv_at hl 0 rfl) ?_
    refine lv_icmp_le (tgt := 102) hx hb dX3_pairsRefusal_93 (by decide) (fun c6 => ?_) (fun c6 => ?_)
    · have hf := ite_t hf c6
      obtain ⟨v7, ev7⟩ : ∃ y : Int32, y = x4 + 1 := ⟨_, rfl⟩
      have hf := nm_at ev7 hf
      refine lv_iinc (v := v7) (lv' := [(4, .int v7), (5, .int t0), (0, .ref (ad 0)), (2, .int x2)]) hx hb dX3_pairsRefusal_102 hl (k := 3) rfl (by rw [ev7]; rfl) (by decide) rfl (fun ls hl => ?_)
      refine lv_goto (tgt := 42) hx hb dX3_pairsRefusal_105 (by decide) ?_
      exact hk42 S x2 v7 hf H locs ls hP hS (lv_sub hl [2, 3, 0] rfl)
    · have hf := ite_f hf c6
      exact w3_pairsRefusal_b96 hI C0 S hf H locs ls hP hS (lv_sub hl [1] rfl)
set_option maxHeartbeats 4000000 in
set_option maxRecDepth 100000 in
theorem w3_pairsRefusal_b42 {p : Program} {l : Launch} {e : Env} {s : State} {m : MethodId} {args : Array Value} {below : List Frame} {meth : Method} {c : Code} {D : va_G} {K : Nat → ClassId} {ad : Nat → Nat} {tL : Nat} (hI : INJ NC ad) (C0 : Cx p s m args meth c RX3 wsX3_pairsRefusal cX3_pairsRefusal 6 (some .int) (KC D K tL (IW NC ad))) {r : Int32} {T : Mem} : ∀ (n : Nat), ∀ (S : Mem) (x2 : Int32) (x4 : Int32), f3_pairsRefusal_b42 n S x2 x4 = some (r, T) → ∀ (H : Heap) (locs : List Loc) (ls : Array Slot), va_P D vwCl (wl NC ad (EC K ad S)) H → va_S (IW NC ad) s.heap H locs → lv_has ls 6 [(0, .ref (ad 0)), (2, .int x2), (4, .int x4)] → W p l e rm3_pairsRefusal s m args below meth c H locs 0 0 (MQ below (va_Qi (fun (x : Int32) (u : Mem) => x = r ∧ u = T) (fun u t => va_P D vwCl (wl NC ad (EC K ad u)) t.heap) (IW NC ad)) args s 0 0 (IW NC ad)) (F0 m 42 ls []) := by
  have hx := C0.1
  have hb := C0.2.1
  have hts := C0.2.2.2.2.1
  have hown := C0.2.2.2.1
  have hKC := C0.2.2.2.2.2.2.2
  intro n
  induction n with
  | zero =>
    intro S x2 x4 hf
    rw [f3_pairsRefusal_b42] at hf
    cases hf
  | succ n ih =>
    intro S x2 x4 hf H locs ls hP hS hl
    rw [f3_pairsRefusal_b42] at hf
    refine lv_iload hx hb dX3_pairsRefusal_42 (lv_at hl 2 rfl) ?_
    refine lv_aload_n hx hb dX3_pairsRefusal_44 rfl (lv_at hl 0 rfl) ?_
    refine x_get C0 hKC.1 hP (by decide) (EC_0 K ad S) rfl in_X3_pairsRefusal_X3 1 (by decide) (List.mem_of_getElem? (i := 1) rfl) rfl dX3_pairsRefusal_45 ?_
    refine lv_iload_n hx hb dX3_pairsRefusal_48 rfl (lv_at hl 1 rfl) ?_
    obtain ⟨g1, hf⟩ := gd_some hf
    refine x_iald C0 hKC.1 hP (IC_8 K ad) (t0 := 0) rfl g1 dX3_pairsRefusal_49 ?_
    refine lv_icmp_ge (tgt := 108) hx hb dX3_pairsRefusal_50 (by decide) (fun c2 => ?_) (fun c2 => ?_)
    · have hf := ite_t hf c2
      refine lv_iconst (v := 0) hx hb dX3_pairsRefusal_108 (by decide) ?_
      exact ret_i C0 hP hS (congrArg Prod.fst (Option.some.inj hf)) (congrArg Prod.snd (Option.some.inj hf)) dX3_pairsRefusal_109
    · have hf := ite_f hf c2
      refine lv_iload hx hb dX3_pairsRefusal_53 (lv_at hl 2 rfl) ?_
      refine lv_iconst (v := 2) hx hb dX3_pairsRefusal_55 (by decide) ?_
      refine lv_irem hx hb dX3_pairsRefusal_56 (by decide) ?_
      refine lv_if_ne (tgt := 65) hx hb dX3_pairsRefusal_57 (by decide) (fun c3 => ?_) (fun c3 => ?_)
      · have hf := ite_f hf c3
        refine lv_sipush (v := 300) hx hb dX3_pairsRefusal_65 (by decide) ?_
        exact w3_pairsRefusal_b68 hI C0 (f3_pairsRefusal_b42 n) ih S x2 x4 300 hf H locs ls hP hS (lv_sub hl [0, 1, 2] rfl)
      · have hf := ite_t hf c3
        refine lv_bipush (v := 99) hx hb dX3_pairsRefusal_60 (by decide) ?_
        refine lv_goto (tgt := 68) hx hb dX3_pairsRefusal_62 (by decide) ?_
        exact w3_pairsRefusal_b68 hI C0 (f3_pairsRefusal_b42 n) ih S x2 x4 99 hf H locs ls hP hS (lv_sub hl [0, 1, 2] rfl)
set_option maxHeartbeats 4000000 in
set_option maxRecDepth 100000 in
theorem w3_pairsRefusal {p : Program} {l : Launch} {e : Env} {s : State} {m : MethodId} {args : Array Value} {below : List Frame} {meth : Method} {c : Code} {D : va_G} {K : Nat → ClassId} {ad : Nat → Nat} {tL : Nat} (hI : INJ NC ad) (C0 : Cx p s m args meth c RX3 wsX3_pairsRefusal cX3_pairsRefusal 6 (some .int) (KC D K tL (IW NC ad))) {r : Int32} {T : Mem} : ∀ (S : Mem) (x1 : Int32) (x2 : Int32), f3_pairsRefusal S x1 x2 = some (r, T) → ∀ (H : Heap) (locs : List Loc) (ls : Array Slot), va_P D vwCl (wl NC ad (EC K ad S)) H → va_S (IW NC ad) s.heap H locs → lv_has ls 6 [(0, .ref (ad 0)), (1, .int x1), (2, .int x2)] → W p l e rm3_pairsRefusal s m args below meth c H locs 0 0 (MQ below (va_Qi (fun (x : Int32) (u : Mem) => x = r ∧ u = T) (fun u t => va_P D vwCl (wl NC ad (EC K ad u)) t.heap) (IW NC ad)) args s 0 0 (IW NC ad)) (F0 m 0 ls []) := by
  have hx := C0.1
  have hb := C0.2.1
  have hts := C0.2.2.2.2.1
  have hown := C0.2.2.2.1
  have hKC := C0.2.2.2.2.2.2.2
  intro S x1 x2 hf H locs ls hP hS hl
  rw [f3_pairsRefusal] at hf
  refine lv_aload_n hx hb dX3_pairsRefusal_0 rfl (lv_at hl 0 rfl) ?_
  refine lv_iload_n hx hb dX3_pairsRefusal_1 rfl (lv_at hl 1 rfl) ?_
  obtain ⟨v2, h1, hf⟩ := b1_some hf
  refine sys_i hS (sys_runV (As := [.int x1]) (rest := []) C0 KC_ok hKC.1 hP hS (by decide) (EC_0 K ad S) rfl (m3_isHouse l D K ad tL hI S x1 h1) gX3_pairsRefusal_X3_isHouse rfl ⟨rfl, rfl⟩ hd_X3_isHouse ⟨Nat.le_of_ble_eq_true rfl, Nat.le_of_ble_eq_true rfl⟩ hl.1 rfl (Nat.le_of_ble_eq_true rfl) dX3_pairsRefusal_2 ⟨Nat.le_refl _, Nat.le_refl _⟩) (fun H locs hP hS => ?_)
  refine lv_if_ne (tgt := 10) hx hb dX3_pairsRefusal_5 (by decide) (fun c3 => ?_) (fun c3 => ?_)
  · have hf := ite_f hf c3
    refine lv_aload_n hx hb dX3_pairsRefusal_10 rfl (lv_at hl 0 rfl) ?_
    refine lv_iload_n hx hb dX3_pairsRefusal_11 rfl (lv_at hl 2 rfl) ?_
    obtain ⟨v5, S6, h4, hf⟩ := b2_some hf
    refine sys_i hS (sys_runV (As := [.int x2]) (rest := []) C0 KC_ok hKC.1 hP hS (by decide) (EC_0 K ad S) rfl (m3_rowRefusal l D K ad tL hI S x2 h4) gX3_pairsRefusal_X3_rowRefusal rfl ⟨rfl, rfl⟩ hd_X3_rowRefusal ⟨Nat.le_of_ble_eq_true rfl, Nat.le_of_ble_eq_true rfl⟩ hl.1 rfl (Nat.le_of_ble_eq_true rfl) dX3_pairsRefusal_12 ⟨Nat.le_refl _, Nat.le_refl _⟩) (fun H locs hP hS => ?_)
    refine lv_istore_n (lv' := [(3, .int v5), (0, .ref (ad 0)), (1, .int x1), (2, .int x2)]) hx hb dX3_pairsRefusal_15 rfl hl (by decide) rfl (fun ls hl => ?_)
    refine lv_iload_n hx hb dX3_pairsRefusal_16 rfl (lv_at hl 0 rfl) ?_
    refine lv_if_eq (tgt := 22) hx hb dX3_pairsRefusal_17 (by decide) (fun c7 => ?_) (fun c7 => ?_)
    · have hf := ite_t hf c7
      refine lv_aload_n hx hb dX3_pairsRefusal_22 rfl (lv_at hl 1 rfl) ?_
      refine x_get C0 hKC.1 hP (by decide) (EC_0 K ad S6) rfl in_X3_pairsRefusal_X3 1 (by decide) (List.mem_of_getElem? (i := 1) rfl) rfl dX3_pairsRefusal_23 ?_
      refine lv_iload_n hx hb dX3_pairsRefusal_26 rfl (lv_at hl 3 rfl) ?_
      obtain ⟨g8, hf⟩ := gd_some hf
      refine x_iald C0 hKC.1 hP (IC_8 K ad) (t0 := 0) rfl g8 dX3_pairsRefusal_27 ?_
      refine lv_iconst (v := 2) hx hb dX3_pairsRefusal_28 (by decide) ?_
      refine lv_irem hx hb dX3_pairsRefusal_29 (by decide) ?_
      refine lv_if_eq (tgt := 39) hx hb dX3_pairsRefusal_30 (by decide) (fun c9 => ?_) (fun c9 => ?_)
      · have hf := ite_t hf c9
        refine lv_iconst (v := 0) hx hb dX3_pairsRefusal_39 (by decide) ?_
        refine lv_istore (lv' := [(4, .int 0), (3, .int v5), (0, .ref (ad 0)), (1, .int x1), (2, .int x2)]) hx hb dX3_pairsRefusal_40 hl (by decide) rfl (fun ls hl => ?_)
        exact w3_pairsRefusal_b42 hI C0 FU S6 x2 0 hf H locs ls hP hS (lv_sub hl [2, 4, 0] rfl)
      · have hf := ite_f hf c9
        refine lv_aload_n hx hb dX3_pairsRefusal_33 rfl (lv_at hl 1 rfl) ?_
        refine lv_iconst (v := 5) hx hb dX3_pairsRefusal_34 (by decide) ?_
        obtain ⟨v11, S12, h10, hf⟩ := b2_some hf
        refine sys_i hS (sys_runV (As := [.int 5]) (rest := []) C0 KC_ok hKC.1 hP hS (by decide) (EC_0 K ad S6) rfl (m3_foundThat l D K ad tL hI S6 5 h10) gX3_pairsRefusal_X3_foundThat rfl ⟨rfl, rfl⟩ hd_X3_foundThat ⟨Nat.le_of_ble_eq_true rfl, Nat.le_of_ble_eq_true rfl⟩ hl.1 rfl (Nat.le_of_ble_eq_true rfl) dX3_pairsRefusal_35 ⟨Nat.le_refl _, Nat.le_refl _⟩) (fun H locs hP hS => ?_)
        exact ret_i C0 hP hS (congrArg Prod.fst (Option.some.inj hf)) (congrArg Prod.snd (Option.some.inj hf)) dX3_pairsRefusal_38
    · have hf := ite_f hf c7
      refine lv_iload_n hx hb dX3_pairsRefusal_20 rfl (lv_at hl 0 rfl) ?_
      exact ret_i C0 hP hS (congrArg Prod.fst (Option.some.inj hf)) (congrArg Prod.snd (Option.some.inj hf)) dX3_pairsRefusal_21
  · have hf := ite_t hf c3
    refine lv_iconst (v := (-1)) hx hb dX3_pairsRefusal_8 (by decide) ?_
    exact ret_i C0 hP hS (congrArg Prod.fst (Option.some.inj hf)) (congrArg Prod.snd (Option.some.inj hf)) dX3_pairsRefusal_9
theorem m3_pairsRefusal (l : Launch) (D : va_G) (K : Nat → ClassId) (ad : Nat → Nat) (tL : Nat) (hI : INJ NC ad) (S : Mem) (x1 : Int32) (x2 : Int32) {r : Int32} {T : Mem} (hf : f3_pairsRefusal S x1 x2 = some (r, T)) : SysI l yX3_pairsRefusal wsX3_pairsRefusal rm3_pairsRefusal D NC ad (EC K ad) (KC D K tL (IW NC ad)) [.ref (ad 0), .int x1, .int x2] S r T :=
  met_of (own := RX3) (by decide) rfl rfl (Nat.le_of_ble_eq_true rfl) (fun _ _ s _ _ _ _ ls C0 _ hP hl => w3_pairsRefusal hI C0 S x1 x2 hf s.heap [] ls hP va_S.rf hl)
theorem hd_X3_kindsByPairs : yX3_kindsByPairs.cls ≠ "java/lang/invoke/MethodHandle" ∧ yX3_kindsByPairs.cls ≠ "java/lang/invoke/VarHandle" ∧ (parseMethodDescriptor yX3_kindsByPairs.desc).map (fun d => d.parameters.length) = some 2 := by decide +kernel
abbrev rm3_kindsByPairs : Room := { frames := 2, cells := 0, slots := 0, locals := 53 }
set_option maxHeartbeats 4000000 in
set_option maxRecDepth 100000 in
theorem w3_kindsByPairs_b70 {p : Program} {l : Launch} {e : Env} {s : State} {m : MethodId} {args : Array Value} {below : List Frame} {meth : Method} {c : Code} {D : va_G} {K : Nat → ClassId} {ad : Nat → Nat} {tL : Nat} (hI : INJ NC ad) (C0 : Cx p s m args meth c RX3 wsX3_kindsByPairs cX3_kindsByPairs 6 (some .int) (KC D K tL (IW NC ad))) (S : Mem) {r : Int32} (k4 : Nat → Nat → Int32 → Int32 → Int32 → Option Int32) (hk4 : ∀ (a0 : Nat) (a0n : Nat) (x1 : Int32) (x2 : Int32) (x3 : Int32), IC K ad a0 a0n → k4 a0 a0n x1 x2 x3 = some r → ∀ (H : Heap) (locs : List Loc) (ls : Array Slot), va_P D vwCl (wl NC ad (EC K ad S)) H → va_S (IW NC ad) s.heap H locs → lv_has ls 6 [(0, .ref (ad a0)), (1, .int x1), (2, .int x2), (3, .int x3)] → W p l e rm3_kindsByPairs s m args below meth c H locs 0 0 (MQ below (va_Qi (fun (x : Int32) (u : Mem) => x = r ∧ u = S) (fun u t => va_P D vwCl (wl NC ad (EC K ad u)) t.heap) (IW NC ad)) args s 0 0 (IW NC ad)) (F0 m 4 ls [])) : ∀ (a0 : Nat) (a0n : Nat) (x1 : Int32) (x2 : Int32) (x3 : Int32), IC K ad a0 a0n → f3_kindsByPairs_b70 k4 S a0 a0n x1 x2 x3 = some r → ∀ (H : Heap) (locs : List Loc) (ls : Array Slot), va_P D vwCl (wl NC ad (EC K ad S)) H → va_S (IW NC ad) s.heap H locs → lv_has ls 6 [(0, .ref (ad a0)), (1, .int x1), (2, .int x2), (3, .int x3)] → W p l e rm3_kindsByPairs s m args below meth c H locs 0 0 (MQ below (va_Qi (fun (x : Int32) (u : Mem) => x = r ∧ u = S) (fun u t => va_P D vwCl (wl NC ad (EC K ad u)) t.heap) (IW NC ad)) args s 0 0 (IW NC ad)) (F0 m 70 ls []) := by
  have hx := C0.1
  have hb := C0.2.1
  have hts := C0.2.2.2.2.1
  have hown := C0.2.2.2.1
  have hKC := C0.2.2.2.2.2.2.2
  intro a0 a0n x1 x2 x3 ha0 hf H locs ls hP hS hl
  rw [f3_kindsByPairs_b70] at hf
  obtain ⟨v1, ev1⟩ : ∃ y : Int32, y = x3 + 1 := ⟨_, rfl⟩
  have hf := nm_at ev1 hf
  refine lv_iinc (v := v1) (lv' := [(3, .int v1), (0, .ref (ad a0)), (1, .int x1), (2, .int x2)]) hx hb dX3_kindsByPairs_70 hl (k := 3) rfl (by rw [ev1]; rfl) (by decide) rfl (fun ls hl => ?_)
  refine lv_goto (tgt := 4) hx hb dX3_kindsByPairs_73 (by decide) ?_
  exact hk4 a0 a0n x1 x2 v1 ha0 hf H locs ls hP hS (lv_sub hl [1, 2, 3, 0] rfl)
set_option maxHeartbeats 4000000 in
set_option maxRecDepth 100000 in
theorem w3_kindsByPairs_b51 {p : Program} {l : Launch} {e : Env} {s : State} {m : MethodId} {args : Array Value} {below : List Frame} {meth : Method} {c : Code} {D : va_G} {K : Nat → ClassId} {ad : Nat → Nat} {tL : Nat} (hI : INJ NC ad) (C0 : Cx p s m args meth c RX3 wsX3_kindsByPairs cX3_kindsByPairs 6 (some .int) (KC D K tL (IW NC ad))) (S : Mem) {r : Int32} (k4 : Nat → Nat → Int32 → Int32 → Int32 → Option Int32) (hk4 : ∀ (a0 : Nat) (a0n : Nat) (x1 : Int32) (x2 : Int32) (x3 : Int32), IC K ad a0 a0n → k4 a0 a0n x1 x2 x3 = some r → ∀ (H : Heap) (locs : List Loc) (ls : Array Slot), va_P D vwCl (wl NC ad (EC K ad S)) H → va_S (IW NC ad) s.heap H locs → lv_has ls 6 [(0, .ref (ad a0)), (1, .int x1), (2, .int x2), (3, .int x3)] → W p l e rm3_kindsByPairs s m args below meth c H locs 0 0 (MQ below (va_Qi (fun (x : Int32) (u : Mem) => x = r ∧ u = S) (fun u t => va_P D vwCl (wl NC ad (EC K ad u)) t.heap) (IW NC ad)) args s 0 0 (IW NC ad)) (F0 m 4 ls [])) (k16 : Nat → Nat → Int32 → Int32 → Int32 → Int32 → Int32 → Option Int32) (hk16 : ∀ (a0 : Nat) (a0n : Nat) (x1 : Int32) (x2 : Int32) (x3 : Int32) (x4 : Int32) (x5 : Int32), IC K ad a0 a0n → k16 a0 a0n x1 x2 x3 x4 x5 = some r → ∀ (H : Heap) (locs : List Loc) (ls : Array Slot), va_P D vwCl (wl NC ad (EC K ad S)) H → va_S (IW NC ad) s.heap H locs → lv_has ls 6 [(0, .ref (ad a0)), (1, .int x1), (2, .int x2), (3, .int x3), (4, .int x4), (5, .int x5)] → W p l e rm3_kindsByPairs s m args below meth c H locs 0 0 (MQ below (va_Qi (fun (x : Int32) (u : Mem) => x = r ∧ u = S) (fun u t => va_P D vwCl (wl NC ad (EC K ad u)) t.heap) (IW NC ad)) args s 0 0 (IW NC ad)) (F0 m 16 ls [])) : ∀ (a0 : Nat) (a0n : Nat) (x1 : Int32) (x2 : Int32) (x3 : Int32) (x5 : Int32) (t0 : Int32), IC K ad a0 a0n → f3_kindsByPairs_b51 k4 k16 S a0 a0n x1 x2 x3 x5 t0 = some r → ∀ (H : Heap) (locs : List Loc) (ls : Array Slot), va_P D vwCl (wl NC ad (EC K ad S)) H → va_S (IW NC ad) s.heap H locs → lv_has ls 6 [(0, .ref (ad a0)), (1, .int x1), (2, .int x2), (3, .int x3), (5, .int x5)] → W p l e rm3_kindsByPairs s m args below meth c H locs 0 0 (MQ below (va_Qi (fun (x : Int32) (u : Mem) => x = r ∧ u = S) (fun u t => va_P D vwCl (wl NC ad (EC K ad u)) t.heap) (IW NC ad)) args s 0 0 (IW NC ad)) (F0 m 51 ls [.int t0]) := by
  have hx := C0.1
  have hb := C0.2.1
  have hts := C0.2.2.2.2.1
  have hown := C0.2.2.2.1
  have hKC := C0.2.2.2.2.2.2.2
  intro a0 a0n x1 x2 x3 x5 t0 ha0 hf H locs ls hP hS hl
  rw [f3_kindsByPairs_b51] at hf
  refine lv_istore (lv' := [(4, .int t0), (0, .ref (ad a0)), (1, .int x1), (2, .int x2), (3, .int x3), (5, .int x5)]) hx hb dX3_kindsByPairs_51 hl (by decide) rfl (fun ls hl => ?_)
  obtain ⟨v1, ev1⟩ : ∃ y : Int32, y = x5 + 2 := ⟨_, rfl⟩
  have hf := nm_at ev1 hf
  refine lv_iinc (v := v1) (lv' := [(5, .int v1), (4, .int t0), (0, .ref (ad a0)), (1, .int x1), (2, .int x2), (3, .int x3)]) hx hb dX3_kindsByPairs_53 hl (k := 5) rfl (by rw [ev1]; rfl) (by decide) rfl (fun ls hl => ?_)
  refine lv_goto (tgt := 16) hx hb dX3_kindsByPairs_56 (by decide) ?_
  exact hk16 a0 a0n x1 x2 x3 t0 v1 ha0 hf H locs ls hP hS (lv_sub hl [2, 3, 4, 5, 1, 0] rfl)
set_option maxHeartbeats 4000000 in
set_option maxRecDepth 100000 in
theorem w3_kindsByPairs_b50 {p : Program} {l : Launch} {e : Env} {s : State} {m : MethodId} {args : Array Value} {below : List Frame} {meth : Method} {c : Code} {D : va_G} {K : Nat → ClassId} {ad : Nat → Nat} {tL : Nat} (hI : INJ NC ad) (C0 : Cx p s m args meth c RX3 wsX3_kindsByPairs cX3_kindsByPairs 6 (some .int) (KC D K tL (IW NC ad))) (S : Mem) {r : Int32} (k4 : Nat → Nat → Int32 → Int32 → Int32 → Option Int32) (hk4 : ∀ (a0 : Nat) (a0n : Nat) (x1 : Int32) (x2 : Int32) (x3 : Int32), IC K ad a0 a0n → k4 a0 a0n x1 x2 x3 = some r → ∀ (H : Heap) (locs : List Loc) (ls : Array Slot), va_P D vwCl (wl NC ad (EC K ad S)) H → va_S (IW NC ad) s.heap H locs → lv_has ls 6 [(0, .ref (ad a0)), (1, .int x1), (2, .int x2), (3, .int x3)] → W p l e rm3_kindsByPairs s m args below meth c H locs 0 0 (MQ below (va_Qi (fun (x : Int32) (u : Mem) => x = r ∧ u = S) (fun u t => va_P D vwCl (wl NC ad (EC K ad u)) t.heap) (IW NC ad)) args s 0 0 (IW NC ad)) (F0 m 4 ls [])) (k16 : Nat → Nat → Int32 → Int32 → Int32 → Int32 → Int32 → Option Int32) (hk16 : ∀ (a0 : Nat) (a0n : Nat) (x1 : Int32) (x2 : Int32) (x3 : Int32) (x4 : Int32) (x5 : Int32), IC K ad a0 a0n → k16 a0 a0n x1 x2 x3 x4 x5 = some r → ∀ (H : Heap) (locs : List Loc) (ls : Array Slot), va_P D vwCl (wl NC ad (EC K ad S)) H → va_S (IW NC ad) s.heap H locs → lv_has ls 6 [(0, .ref (ad a0)), (1, .int x1), (2, .int x2), (3, .int x3), (4, .int x4), (5, .int x5)] → W p l e rm3_kindsByPairs s m args below meth c H locs 0 0 (MQ below (va_Qi (fun (x : Int32) (u : Mem) => x = r ∧ u = S) (fun u t => va_P D vwCl (wl NC ad (EC K ad u)) t.heap) (IW NC ad)) args s 0 0 (IW NC ad)) (F0 m 16 ls [])) : ∀ (a0 : Nat) (a0n : Nat) (x1 : Int32) (x2 : Int32) (x3 : Int32) (x5 : Int32), IC K ad a0 a0n → f3_kindsByPairs_b50 k4 k16 S a0 a0n x1 x2 x3 x5 = some r → ∀ (H : Heap) (locs : List Loc) (ls : Array Slot), va_P D vwCl (wl NC ad (EC K ad S)) H → va_S (IW NC ad) s.heap H locs → lv_has ls 6 [(0, .ref (ad a0)), (1, .int x1), (2, .int x2), (3, .int x3), (5, .int x5)] → W p l e rm3_kindsByPairs s m args below meth c H locs 0 0 (MQ below (va_Qi (fun (x : Int32) (u : Mem) => x = r ∧ u = S) (fun u t => va_P D vwCl (wl NC ad (EC K ad u)) t.heap) (IW NC ad)) args s 0 0 (IW NC ad)) (F0 m 50 ls []) := by
  have hx := C0.1
  have hb := C0.2.1
  have hts := C0.2.2.2.2.1
  have hown := C0.2.2.2.1
  have hKC := C0.2.2.2.2.2.2.2
  intro a0 a0n x1 x2 x3 x5 ha0 hf H locs ls hP hS hl
  rw [f3_kindsByPairs_b50] at hf
  refine lv_iconst (v := 0) hx hb dX3_kindsByPairs_50 (by decide) ?_
  exact w3_kindsByPairs_b51 hI C0 S k4 hk4 k16 hk16 a0 a0n x1 x2 x3 x5 0 ha0 hf H locs ls hP hS (lv_sub hl [0, 1, 2, 3, 4] rfl)
set_option maxHeartbeats 4000000 in
set_option maxRecDepth 100000 in
theorem w3_kindsByPairs_b16 {p : Program} {l : Launch} {e : Env} {s : State} {m : MethodId} {args : Array Value} {below : List Frame} {meth : Method} {c : Code} {D : va_G} {K : Nat → ClassId} {ad : Nat → Nat} {tL : Nat} (hI : INJ NC ad) (C0 : Cx p s m args meth c RX3 wsX3_kindsByPairs cX3_kindsByPairs 6 (some .int) (KC D K tL (IW NC ad))) (S : Mem) {r : Int32} (k4 : Nat → Nat → Int32 → Int32 → Int32 → Option Int32) (hk4 : ∀ (a0 : Nat) (a0n : Nat) (x1 : Int32) (x2 : Int32) (x3 : Int32), IC K ad a0 a0n → k4 a0 a0n x1 x2 x3 = some r → ∀ (H : Heap) (locs : List Loc) (ls : Array Slot), va_P D vwCl (wl NC ad (EC K ad S)) H → va_S (IW NC ad) s.heap H locs → lv_has ls 6 [(0, .ref (ad a0)), (1, .int x1), (2, .int x2), (3, .int x3)] → W p l e rm3_kindsByPairs s m args below meth c H locs 0 0 (MQ below (va_Qi (fun (x : Int32) (u : Mem) => x = r ∧ u = S) (fun u t => va_P D vwCl (wl NC ad (EC K ad u)) t.heap) (IW NC ad)) args s 0 0 (IW NC ad)) (F0 m 4 ls [])) : ∀ (n : Nat), ∀ (a0 : Nat) (a0n : Nat) (x1 : Int32) (x2 : Int32) (x3 : Int32) (x4 : Int32) (x5 : Int32), IC K ad a0 a0n → f3_kindsByPairs_b16 k4 S n a0 a0n x1 x2 x3 x4 x5 = some r → ∀ (H : Heap) (locs : List Loc) (ls : Array Slot), va_P D vwCl (wl NC ad (EC K ad S)) H → va_S (IW NC ad) s.heap H locs → lv_has ls 6 [(0, .ref (ad a0)), (1, .int x1), (2, .int x2), (3, .int x3), (4, .int x4), (5, .int x5)] → W p l e rm3_kindsByPairs s m args below meth c H locs 0 0 (MQ below (va_Qi (fun (x : Int32) (u : Mem) => x = r ∧ u = S) (fun u t => va_P D vwCl (wl NC ad (EC K ad u)) t.heap) (IW NC ad)) args s 0 0 (IW NC ad)) (F0 m 16 ls []) := by
  have hx := C0.1
  have hb := C0.2.1
  have hts := C0.2.2.2.2.1
  have hown := C0.2.2.2.1
  have hKC := C0.2.2.2.2.2.2.2
  intro n
  induction n with
  | zero =>
    intro a0 a0n x1 x2 x3 x4 x5 ha0 hf
    rw [f3_kindsByPairs_b16] at hf
    cases hf
  | succ n ih =>
    intro a0 a0n x1 x2 x3 x4 x5 ha0 hf H locs ls hP hS hl
    rw [f3_kindsByPairs_b16] at hf
    refine lv_iload hx hb dX3_kindsByPairs_16 (lv_at hl 5 rfl) ?_
    refine lv_iconst (v := 1) hx hb dX3_kindsByPairs_18 (by decide) ?_
    refine lv_iadd hx hb dX3_kindsByPairs_19 ?_
    refine lv_iload_n hx hb dX3_kindsByPairs_20 rfl (lv_at hl 1 rfl) ?_
    refine lv_icmp_ge (tgt := 59) hx hb dX3_kindsByPairs_21 (by decide) (fun c1 => ?_) (fun c1 => ?_)
    · have hf := ite_t hf c1
      refine lv_iload hx hb dX3_kindsByPairs_59 (lv_at hl 4 rfl) ?_
      refine lv_if_eq (tgt := 70) hx hb dX3_kindsByPairs_61 (by decide) (fun c2 => ?_) (fun c2 => ?_)
      · have hf := ite_t hf c2
        exact w3_kindsByPairs_b70 hI C0 S k4 hk4 a0 a0n x1 x2 x3 ha0 hf H locs ls hP hS (lv_sub hl [0, 1, 2, 3] rfl)
      · have hf := ite_f hf c2
        refine lv_iload_n hx hb dX3_kindsByPairs_64 rfl (lv_at hl 2 rfl) ?_
        refine lv_iconst (v := 1) hx hb dX3_kindsByPairs_65 (by decide) ?_
        refine lv_iload_n hx hb dX3_kindsByPairs_66 rfl (lv_at hl 3 rfl) ?_
        refine lv_ishl hx hb dX3_kindsByPairs_67 ?_
        refine lv_ior hx hb dX3_kindsByPairs_68 ?_
        refine lv_topi (fun v3 ev3 => ?_)
        have hf := nm_at ev3 hf
        refine lv_istore_n (lv' := [(2, .int v3), (0, .ref (ad a0)), (1, .int x1), (3, .int x3), (4, .int x4), (5, .int x5)]) hx hb dX3_kindsByPairs_69 rfl hl (by decide) rfl (fun ls hl => ?_)
        exact w3_kindsByPairs_b70 hI C0 S k4 hk4 a0 a0n x1 v3 x3 ha0 hf H locs ls hP hS (lv_sub hl [1, 2, 0, 3] rfl)
    · have hf := ite_f hf c1
      refine lv_iload hx hb dX3_kindsByPairs_24 (lv_at hl 4 rfl) ?_
      refine lv_if_eq (tgt := 50) hx hb dX3_kindsByPairs_26 (by decide) (fun c4 => ?_) (fun c4 => ?_)
      · have hf := ite_t hf c4
        exact w3_kindsByPairs_b50 hI C0 S k4 hk4 (f3_kindsByPairs_b16 k4 S n) ih a0 a0n x1 x2 x3 x5 ha0 hf H locs ls hP hS (lv_sub hl [0, 1, 2, 3, 5] rfl)
      · have hf := ite_f hf c4
        refine lv_iload_n hx hb dX3_kindsByPairs_29 rfl (lv_at hl 3 rfl) ?_
        refine lv_aload_n hx hb dX3_kindsByPairs_30 rfl (lv_at hl 0 rfl) ?_
        refine lv_iload hx hb dX3_kindsByPairs_31 (lv_at hl 5 rfl) ?_
        obtain ⟨g5, hf⟩ := gd_some hf
        refine x_iald C0 hKC.1 hP ha0 (t0 := 0) rfl g5 dX3_kindsByPairs_33 ?_
        obtain ⟨v7, h6, hf⟩ := b1_some hf
        refine sys_i hS (sys_runS (As := [.int x3, .int (gi S a0 (ix x5))]) (rest := []) C0 KC_ok hP hS (m3_worthTo l D K ad tL hI S x3 (gi S a0 (ix x5)) h6) gX3_kindsByPairs_X3_worthTo rfl ⟨rfl, rfl⟩ hd_X3_worthTo ⟨Nat.le_of_ble_eq_true rfl, Nat.le_of_ble_eq_true rfl⟩ hl.1 rfl (Nat.le_of_ble_eq_true rfl) dX3_kindsByPairs_34 ⟨Nat.le_refl _, Nat.le_refl _⟩) (fun H locs hP hS => ?_)
        refine lv_aload_n hx hb dX3_kindsByPairs_37 rfl (lv_at hl 0 rfl) ?_
        refine lv_iload hx hb dX3_kindsByPairs_38 (lv_at hl 5 rfl) ?_
        refine lv_iconst (v := 1) hx hb dX3_kindsByPairs_40 (by decide) ?_
        refine lv_iadd hx hb dX3_kindsByPairs_41 ?_
        obtain ⟨g8, hf⟩ := gd_some hf
        refine x_iald C0 hKC.1 hP ha0 (t0 := 0) rfl g8 dX3_kindsByPairs_42 ?_
        refine lv_icmp_ne (tgt := 50) hx hb dX3_kindsByPairs_43 (by decide) (fun c9 => ?_) (fun c9 => ?_)
        · have hf := ite_f hf c9
          exact w3_kindsByPairs_b50 hI C0 S k4 hk4 (f3_kindsByPairs_b16 k4 S n) ih a0 a0n x1 x2 x3 x5 ha0 hf H locs ls hP hS (lv_sub hl [0, 1, 2, 3, 5] rfl)
        · have hf := ite_t hf c9
          refine lv_iconst (v := 1) hx hb dX3_kindsByPairs_46 (by decide) ?_
          refine lv_goto (tgt := 51) hx hb dX3_kindsByPairs_47 (by decide) ?_
          exact w3_kindsByPairs_b51 hI C0 S k4 hk4 (f3_kindsByPairs_b16 k4 S n) ih a0 a0n x1 x2 x3 x5 1 ha0 hf H locs ls hP hS (lv_sub hl [0, 1, 2, 3, 5] rfl)
set_option maxHeartbeats 4000000 in
set_option maxRecDepth 100000 in
theorem w3_kindsByPairs_b4 {p : Program} {l : Launch} {e : Env} {s : State} {m : MethodId} {args : Array Value} {below : List Frame} {meth : Method} {c : Code} {D : va_G} {K : Nat → ClassId} {ad : Nat → Nat} {tL : Nat} (hI : INJ NC ad) (C0 : Cx p s m args meth c RX3 wsX3_kindsByPairs cX3_kindsByPairs 6 (some .int) (KC D K tL (IW NC ad))) (S : Mem) {r : Int32} : ∀ (n : Nat), ∀ (a0 : Nat) (a0n : Nat) (x1 : Int32) (x2 : Int32) (x3 : Int32), IC K ad a0 a0n → f3_kindsByPairs_b4 S n a0 a0n x1 x2 x3 = some r → ∀ (H : Heap) (locs : List Loc) (ls : Array Slot), va_P D vwCl (wl NC ad (EC K ad S)) H → va_S (IW NC ad) s.heap H locs → lv_has ls 6 [(0, .ref (ad a0)), (1, .int x1), (2, .int x2), (3, .int x3)] → W p l e rm3_kindsByPairs s m args below meth c H locs 0 0 (MQ below (va_Qi (fun (x : Int32) (u : Mem) => x = r ∧ u = S) (fun u t => va_P D vwCl (wl NC ad (EC K ad u)) t.heap) (IW NC ad)) args s 0 0 (IW NC ad)) (F0 m 4 ls []) := by
  have hx := C0.1
  have hb := C0.2.1
  have hts := C0.2.2.2.2.1
  have hown := C0.2.2.2.1
  have hKC := C0.2.2.2.2.2.2.2
  intro n
  induction n with
  | zero =>
    intro a0 a0n x1 x2 x3 ha0 hf
    rw [f3_kindsByPairs_b4] at hf
    cases hf
  | succ n ih =>
    intro a0 a0n x1 x2 x3 ha0 hf H locs ls hP hS hl
    rw [f3_kindsByPairs_b4] at hf
    refine lv_iload_n hx hb dX3_kindsByPairs_4 rfl (lv_at hl 3 rfl) ?_
    refine lv_bipush (v := 6) hx hb dX3_kindsByPairs_5 (by decide) ?_
    refine lv_icmp_ge (tgt := 76) hx hb dX3_kindsByPairs_7 (by decide) (fun c1 => ?_) (fun c1 => ?_)
    · have hf := ite_t hf c1
      refine lv_iload_n hx hb dX3_kindsByPairs_76 rfl (lv_at hl 2 rfl) ?_
      exact ret_i C0 hP hS (Option.some.inj hf) rfl dX3_kindsByPairs_77
    · have hf := ite_f hf c1
      refine lv_iconst (v := 1) hx hb dX3_kindsByPairs_10 (by decide) ?_
      refine lv_istore (lv' := [(4, .int 1), (0, .ref (ad a0)), (1, .int x1), (2, .int x2), (3, .int x3)]) hx hb dX3_kindsByPairs_11 hl (by decide) rfl (fun ls hl => ?_)
      refine lv_iconst (v := 0) hx hb dX3_kindsByPairs_13 (by decide) ?_
      refine lv_istore (lv' := [(5, .int 0), (4, .int 1), (0, .ref (ad a0)), (1, .int x1), (2, .int x2), (3, .int x3)]) hx hb dX3_kindsByPairs_14 hl (by decide) rfl (fun ls hl => ?_)
      exact w3_kindsByPairs_b16 hI C0 S (f3_kindsByPairs_b4 S n) ih FU a0 a0n x1 x2 x3 1 0 ha0 hf H locs ls hP hS (lv_sub hl [2, 3, 4, 5, 1, 0] rfl)
set_option maxHeartbeats 4000000 in
set_option maxRecDepth 100000 in
theorem w3_kindsByPairs {p : Program} {l : Launch} {e : Env} {s : State} {m : MethodId} {args : Array Value} {below : List Frame} {meth : Method} {c : Code} {D : va_G} {K : Nat → ClassId} {ad : Nat → Nat} {tL : Nat} (hI : INJ NC ad) (C0 : Cx p s m args meth c RX3 wsX3_kindsByPairs cX3_kindsByPairs 6 (some .int) (KC D K tL (IW NC ad))) (S : Mem) {r : Int32} : ∀ (a0 : Nat) (a0n : Nat) (x1 : Int32), IC K ad a0 a0n → f3_kindsByPairs S a0 a0n x1 = some r → ∀ (H : Heap) (locs : List Loc) (ls : Array Slot), va_P D vwCl (wl NC ad (EC K ad S)) H → va_S (IW NC ad) s.heap H locs → lv_has ls 6 [(0, .ref (ad a0)), (1, .int x1)] → W p l e rm3_kindsByPairs s m args below meth c H locs 0 0 (MQ below (va_Qi (fun (x : Int32) (u : Mem) => x = r ∧ u = S) (fun u t => va_P D vwCl (wl NC ad (EC K ad u)) t.heap) (IW NC ad)) args s 0 0 (IW NC ad)) (F0 m 0 ls []) := by
  have hx := C0.1
  have hb := C0.2.1
  have hts := C0.2.2.2.2.1
  have hown := C0.2.2.2.1
  have hKC := C0.2.2.2.2.2.2.2
  intro a0 a0n x1 ha0 hf H locs ls hP hS hl
  rw [f3_kindsByPairs] at hf
  refine lv_iconst (v := 0) hx hb dX3_kindsByPairs_0 (by decide) ?_
  refine lv_istore_n (lv' := [(2, .int 0), (0, .ref (ad a0)), (1, .int x1)]) hx hb dX3_kindsByPairs_1 rfl hl (by decide) rfl (fun ls hl => ?_)
  refine lv_iconst (v := 0) hx hb dX3_kindsByPairs_2 (by decide) ?_
  refine lv_istore_n (lv' := [(3, .int 0), (2, .int 0), (0, .ref (ad a0)), (1, .int x1)]) hx hb dX3_kindsByPairs_3 rfl hl (by decide) rfl (fun ls hl => ?_)
  exact w3_kindsByPairs_b4 hI C0 S FU a0 a0n x1 0 0 ha0 hf H locs ls hP hS (lv_sub hl [2, 3, 1, 0] rfl)
theorem m3_kindsByPairs (l : Launch) (D : va_G) (K : Nat → ClassId) (ad : Nat → Nat) (tL : Nat) (hI : INJ NC ad) (S : Mem) (a0 : Nat) (a0n : Nat) (x1 : Int32) (ha0 : IC K ad a0 a0n) {r : Int32} (hf : f3_kindsByPairs S a0 a0n x1 = some r) : SysI l yX3_kindsByPairs wsX3_kindsByPairs rm3_kindsByPairs D NC ad (EC K ad) (KC D K tL (IW NC ad)) [.ref (ad a0), .int x1] S r S :=
  met_of (own := RX3) (by decide) rfl rfl (Nat.le_of_ble_eq_true rfl) (fun _ _ s _ _ _ _ ls C0 _ hP hl => w3_kindsByPairs hI C0 S a0 a0n x1 ha0 hf s.heap [] ls hP va_S.rf hl)
theorem in_X3_kinds_X3 : ∀ w ∈ wsX30, w ∈ wsX3_kinds := fun _ h => List.mem_cons_of_mem _ (List.mem_append_left _ (List.mem_append_right _ h))
theorem in_X3_kinds_X0 : ∀ w ∈ wsX00, w ∈ wsX3_kinds := fun _ h => List.mem_cons_of_mem _ (List.mem_append_right _ h)
theorem hd_X3_kinds : yX3_kinds.cls = RX3 ∧ yX3_kinds.cls ≠ "java/lang/invoke/MethodHandle" ∧ yX3_kinds.cls ≠ "java/lang/invoke/VarHandle" ∧ (parseMethodDescriptor yX3_kinds.desc).map (fun d => d.parameters.length) = some 2 := by decide +kernel
abbrev rm3_kinds : Room := { frames := 3, cells := 0, slots := 0, locals := 78 }
set_option maxHeartbeats 4000000 in
set_option maxRecDepth 100000 in
theorem w3_kinds {p : Program} {l : Launch} {e : Env} {s : State} {m : MethodId} {args : Array Value} {below : List Frame} {meth : Method} {c : Code} {D : va_G} {K : Nat → ClassId} {ad : Nat → Nat} {tL : Nat} (hI : INJ NC ad) (C0 : Cx p s m args meth c RX3 wsX3_kinds cX3_kinds 4 (some .int) (KC D K tL (IW NC ad))) {r : Int32} {T : Mem} : ∀ (S : Mem) (x1 : Int32) (x2 : Int32), f3_kinds S x1 x2 = some (r, T) → ∀ (H : Heap) (locs : List Loc) (ls : Array Slot), va_P D vwCl (wl NC ad (EC K ad S)) H → va_S (IW NC ad) s.heap H locs → lv_has ls 4 [(0, .ref (ad 0)), (1, .int x1), (2, .int x2)] → W p l e rm3_kinds s m args below meth c H locs 0 0 (MQ below (va_Qi (fun (x : Int32) (u : Mem) => x = r ∧ u = T) (fun u t => va_P D vwCl (wl NC ad (EC K ad u)) t.heap) (IW NC ad)) args s 0 0 (IW NC ad)) (F0 m 0 ls []) := by
  have hx := C0.1
  have hb := C0.2.1
  have hts := C0.2.2.2.2.1
  have hown := C0.2.2.2.1
  have hKC := C0.2.2.2.2.2.2.2
  intro S x1 x2 hf H locs ls hP hS hl
  rw [f3_kinds] at hf
  refine lv_aload_n hx hb dX3_kinds_0 rfl (lv_at hl 0 rfl) ?_
  refine lv_iload_n hx hb dX3_kinds_1 rfl (lv_at hl 1 rfl) ?_
  refine lv_iload_n hx hb dX3_kinds_2 rfl (lv_at hl 2 rfl) ?_
  obtain ⟨v2, S3, h1, hf⟩ := b2_some hf
  refine sys_i hS (sys_runV (As := [.int x1, .int x2]) (rest := []) C0 KC_ok hKC.1 hP hS (by decide) (EC_0 K ad S) rfl (m3_pairsRefusal l D K ad tL hI S x1 x2 h1) gX3_kinds_X3_pairsRefusal rfl ⟨rfl, rfl⟩ hd_X3_pairsRefusal ⟨Nat.le_of_ble_eq_true rfl, Nat.le_of_ble_eq_true rfl⟩ hl.1 rfl (Nat.le_of_ble_eq_true rfl) dX3_kinds_3 ⟨Nat.le_refl _, Nat.le_refl _⟩) (fun H locs hP hS => ?_)
  refine lv_istore_n (lv' := [(3, .int v2), (0, .ref (ad 0)), (1, .int x1), (2, .int x2)]) hx hb dX3_kinds_6 rfl hl (by decide) rfl (fun ls hl => ?_)
  refine lv_iload_n hx hb dX3_kinds_7 rfl (lv_at hl 0 rfl) ?_
  refine lv_if_eq (tgt := 15) hx hb dX3_kinds_8 (by decide) (fun c4 => ?_) (fun c4 => ?_)
  · have hf := ite_t hf c4
    refine lv_aload_n hx hb dX3_kinds_15 rfl (lv_at hl 1 rfl) ?_
    refine x_get C0 hKC.1 hP (by decide) (EC_0 K ad S3) rfl in_X3_kinds_X3 0 (by decide) (List.mem_of_getElem? (i := 1) rfl) rfl dX3_kinds_16 ?_
    refine lv_iload_n hx hb dX3_kinds_19 rfl (lv_at hl 3 rfl) ?_
    obtain ⟨g5, hf⟩ := gd_some hf
    refine x_aald C0 hKC.1 hP (by decide) (EC_RR K ad S3) (t0 := 4) rfl rfl g5 dX3_kinds_20 ?_
    refine lv_aload_n hx hb dX3_kinds_21 rfl (lv_at hl 1 rfl) ?_
    refine x_get C0 hKC.1 hP (by decide) (EC_0 K ad S3) rfl in_X3_kinds_X3 1 (by decide) (List.mem_of_getElem? (i := 2) rfl) rfl dX3_kinds_22 ?_
    refine lv_iload_n hx hb dX3_kinds_25 rfl (lv_at hl 3 rfl) ?_
    obtain ⟨g6, hf⟩ := gd_some hf
    refine x_iald C0 hKC.1 hP (IC_8 K ad) (t0 := 0) rfl g6 dX3_kinds_26 ?_
    obtain ⟨v8, h7, hf⟩ := b1_some hf
    refine sys_i hS (sys_runS (As := [.ref (ad (2 + (ix x2))), .int (gi S3 8 (ix x2))]) (rest := []) C0 KC_ok hP hS (m3_kindsByPairs l D K ad tL hI S3 (2 + (ix x2)) 40 (gi S3 8 (ix x2)) (IC_row K ad (inb_lt g5)) h7) gX3_kinds_X3_kindsByPairs rfl ⟨rfl, rfl⟩ hd_X3_kindsByPairs ⟨Nat.le_of_ble_eq_true rfl, Nat.le_of_ble_eq_true rfl⟩ hl.1 rfl (Nat.le_of_ble_eq_true rfl) dX3_kinds_27 ⟨Nat.le_refl _, Nat.le_refl _⟩) (fun H locs hP hS => ?_)
    exact ret_i C0 hP hS (congrArg Prod.fst (Option.some.inj hf)) (congrArg Prod.snd (Option.some.inj hf)) dX3_kinds_30
  · have hf := ite_f hf c4
    refine lv_iload_n hx hb dX3_kinds_11 rfl (lv_at hl 0 rfl) ?_
    refine lv_goto (tgt := 30) hx hb dX3_kinds_12 (by decide) ?_
    exact ret_i C0 hP hS (congrArg Prod.fst (Option.some.inj hf)) (congrArg Prod.snd (Option.some.inj hf)) dX3_kinds_30
theorem m3_kinds (l : Launch) (D : va_G) (K : Nat → ClassId) (ad : Nat → Nat) (tL : Nat) (hI : INJ NC ad) (S : Mem) (x1 : Int32) (x2 : Int32) {r : Int32} {T : Mem} (hf : f3_kinds S x1 x2 = some (r, T)) : SysI l yX3_kinds wsX3_kinds rm3_kinds D NC ad (EC K ad) (KC D K tL (IW NC ad)) [.ref (ad 0), .int x1, .int x2] S r T :=
  met_of (own := RX3) (by decide) rfl rfl (Nat.le_of_ble_eq_true rfl) (fun _ _ s _ _ _ _ ls C0 _ hP hl => w3_kinds hI C0 S x1 x2 hf s.heap [] ls hP va_S.rf hl)
theorem hd_X3_partAlike : yX3_partAlike.cls ≠ "java/lang/invoke/MethodHandle" ∧ yX3_partAlike.cls ≠ "java/lang/invoke/VarHandle" ∧ (parseMethodDescriptor yX3_partAlike.desc).map (fun d => d.parameters.length) = some 3 := by decide +kernel
abbrev rm3_partAlike : Room := { frames := 2, cells := 0, slots := 0, locals := 53 }
set_option maxHeartbeats 4000000 in
set_option maxRecDepth 100000 in
theorem w3_partAlike_b34 {p : Program} {l : Launch} {e : Env} {s : State} {m : MethodId} {args : Array Value} {below : List Frame} {meth : Method} {c : Code} {D : va_G} {K : Nat → ClassId} {ad : Nat → Nat} {tL : Nat} (hI : INJ NC ad) (C0 : Cx p s m args meth c RX3 wsX3_partAlike cX3_partAlike 5 (some .int) (KC D K tL (IW NC ad))) (S : Mem) {r : Int32} (k5 : Int32 → Int32 → Int32 → Int32 → Int32 → Option Int32) (hk5 : ∀ (x0 : Int32) (x1 : Int32) (x2 : Int32) (x3 : Int32) (x4 : Int32), k5 x0 x1 x2 x3 x4 = some r → ∀ (H : Heap) (locs : List Loc) (ls : Array Slot), va_P D vwCl (wl NC ad (EC K ad S)) H → va_S (IW NC ad) s.heap H locs → lv_has ls 5 [(0, .int x0), (1, .int x1), (2, .int x2), (3, .int x3), (4, .int x4)] → W p l e rm3_partAlike s m args below meth c H locs 0 0 (MQ below (va_Qi (fun (x : Int32) (u : Mem) => x = r ∧ u = S) (fun u t => va_P D vwCl (wl NC ad (EC K ad u)) t.heap) (IW NC ad)) args s 0 0 (IW NC ad)) (F0 m 5 ls [])) : ∀ (x0 : Int32) (x1 : Int32) (x2 : Int32) (x3 : Int32) (x4 : Int32), f3_partAlike_b34 k5 x0 x1 x2 x3 x4 = some r → ∀ (H : Heap) (locs : List Loc) (ls : Array Slot), va_P D vwCl (wl NC ad (EC K ad S)) H → va_S (IW NC ad) s.heap H locs → lv_has ls 5 [(0, .int x0), (1, .int x1), (2, .int x2), (3, .int x3), (4, .int x4)] → W p l e rm3_partAlike s m args below meth c H locs 0 0 (MQ below (va_Qi (fun (x : Int32) (u : Mem) => x = r ∧ u = S) (fun u t => va_P D vwCl (wl NC ad (EC K ad u)) t.heap) (IW NC ad)) args s 0 0 (IW NC ad)) (F0 m 34 ls []) := by
  have hx := C0.1
  have hb := C0.2.1
  have hts := C0.2.2.2.2.1
  have hown := C0.2.2.2.1
  have hKC := C0.2.2.2.2.2.2.2
  intro x0 x1 x2 x3 x4 hf H locs ls hP hS hl
  rw [f3_partAlike_b34] at hf
  obtain ⟨v1, ev1⟩ : ∃ y : Int32, y = x4 + 1 := ⟨_, rfl⟩
  have hf := nm_at ev1 hf
  refine lv_iinc (v := v1) (lv' := [(4, .int v1), (0, .int x0), (1, .int x1), (2, .int x2), (3, .int x3)]) hx hb dX3_partAlike_34 hl (k := 4) rfl (by rw [ev1]; rfl) (by decide) rfl (fun ls hl => ?_)
  refine lv_goto (tgt := 5) hx hb dX3_partAlike_37 (by decide) ?_
  exact hk5 x0 x1 x2 x3 v1 hf H locs ls hP hS (lv_sub hl [1, 2, 3, 4, 0] rfl)
set_option maxHeartbeats 4000000 in
set_option maxRecDepth 100000 in
theorem w3_partAlike_b5 {p : Program} {l : Launch} {e : Env} {s : State} {m : MethodId} {args : Array Value} {below : List Frame} {meth : Method} {c : Code} {D : va_G} {K : Nat → ClassId} {ad : Nat → Nat} {tL : Nat} (hI : INJ NC ad) (C0 : Cx p s m args meth c RX3 wsX3_partAlike cX3_partAlike 5 (some .int) (KC D K tL (IW NC ad))) (S : Mem) {r : Int32} : ∀ (n : Nat), ∀ (x0 : Int32) (x1 : Int32) (x2 : Int32) (x3 : Int32) (x4 : Int32), f3_partAlike_b5 n x0 x1 x2 x3 x4 = some r → ∀ (H : Heap) (locs : List Loc) (ls : Array Slot), va_P D vwCl (wl NC ad (EC K ad S)) H → va_S (IW NC ad) s.heap H locs → lv_has ls 5 [(0, .int x0), (1, .int x1), (2, .int x2), (3, .int x3), (4, .int x4)] → W p l e rm3_partAlike s m args below meth c H locs 0 0 (MQ below (va_Qi (fun (x : Int32) (u : Mem) => x = r ∧ u = S) (fun u t => va_P D vwCl (wl NC ad (EC K ad u)) t.heap) (IW NC ad)) args s 0 0 (IW NC ad)) (F0 m 5 ls []) := by
  have hx := C0.1
  have hb := C0.2.1
  have hts := C0.2.2.2.2.1
  have hown := C0.2.2.2.1
  have hKC := C0.2.2.2.2.2.2.2
  intro n
  induction n with
  | zero =>
    intro x0 x1 x2 x3 x4 hf
    rw [f3_partAlike_b5] at hf
    cases hf
  | succ n ih =>
    intro x0 x1 x2 x3 x4 hf H locs ls hP hS hl
    rw [f3_partAlike_b5] at hf
    refine lv_iload hx hb dX3_partAlike_5 (lv_at hl 4 rfl) ?_
    refine lv_bipush (v := 6) hx hb dX3_partAlike_7 (by decide) ?_
    refine lv_icmp_ge (tgt := 40) hx hb dX3_partAlike_9 (by decide) (fun c1 => ?_) (fun c1 => ?_)
    · have hf := ite_t hf c1
      refine lv_iload_n hx hb dX3_partAlike_40 rfl (lv_at hl 3 rfl) ?_
      exact ret_i C0 hP hS (Option.some.inj hf) rfl dX3_partAlike_41
    · have hf := ite_f hf c1
      refine lv_iload_n hx hb dX3_partAlike_12 rfl (lv_at hl 0 rfl) ?_
      refine lv_iload hx hb dX3_partAlike_13 (lv_at hl 4 rfl) ?_
      obtain ⟨v3, h2, hf⟩ := b1_some hf
      refine sys_i hS (sys_runS (As := [.int x0, .int x4]) (rest := []) C0 KC_ok hP hS (m3_has l D K ad tL hI S x0 x4 h2) gX3_partAlike_X3_has rfl ⟨rfl, rfl⟩ hd_X3_has ⟨Nat.le_of_ble_eq_true rfl, Nat.le_of_ble_eq_true rfl⟩ hl.1 rfl (Nat.le_of_ble_eq_true rfl) dX3_partAlike_15 ⟨Nat.le_refl _, Nat.le_refl _⟩) (fun H locs hP hS => ?_)
      refine lv_if_eq (tgt := 34) hx hb dX3_partAlike_18 (by decide) (fun c4 => ?_) (fun c4 => ?_)
      · have hf := ite_t hf c4
        exact w3_partAlike_b34 hI C0 S (f3_partAlike_b5 n) ih x0 x1 x2 x3 x4 hf H locs ls hP hS (lv_sub hl [0, 1, 2, 3, 4] rfl)
      · have hf := ite_f hf c4
        refine lv_iload hx hb dX3_partAlike_21 (lv_at hl 4 rfl) ?_
        refine lv_iload_n hx hb dX3_partAlike_23 rfl (lv_at hl 1 rfl) ?_
        obtain ⟨v6, h5, hf⟩ := b1_some hf
        refine sys_i hS (sys_runS (As := [.int x4, .int x1]) (rest := []) C0 KC_ok hP hS (m3_worthTo l D K ad tL hI S x4 x1 h5) gX3_partAlike_X3_worthTo rfl ⟨rfl, rfl⟩ hd_X3_worthTo ⟨Nat.le_of_ble_eq_true rfl, Nat.le_of_ble_eq_true rfl⟩ hl.1 rfl (Nat.le_of_ble_eq_true rfl) dX3_partAlike_24 ⟨Nat.le_refl _, Nat.le_refl _⟩) (fun H locs hP hS => ?_)
        refine lv_iload_n hx hb dX3_partAlike_27 rfl (lv_at hl 2 rfl) ?_
        refine lv_icmp_ne (tgt := 34) hx hb dX3_partAlike_28 (by decide) (fun c7 => ?_) (fun c7 => ?_)
        · have hf := ite_f hf c7
          exact w3_partAlike_b34 hI C0 S (f3_partAlike_b5 n) ih x0 x1 x2 x3 x4 hf H locs ls hP hS (lv_sub hl [0, 1, 2, 3, 4] rfl)
        · have hf := ite_t hf c7
          obtain ⟨v8, ev8⟩ : ∃ y : Int32, y = x3 + 1 := ⟨_, rfl⟩
          have hf := nm_at ev8 hf
          refine lv_iinc (v := v8) (lv' := [(3, .int v8), (0, .int x0), (1, .int x1), (2, .int x2), (4, .int x4)]) hx hb dX3_partAlike_31 hl (k := 3) rfl (by rw [ev8]; rfl) (by decide) rfl (fun ls hl => ?_)
          exact w3_partAlike_b34 hI C0 S (f3_partAlike_b5 n) ih x0 x1 x2 v8 x4 hf H locs ls hP hS (lv_sub hl [1, 2, 3, 0, 4] rfl)
set_option maxHeartbeats 4000000 in
set_option maxRecDepth 100000 in
theorem w3_partAlike {p : Program} {l : Launch} {e : Env} {s : State} {m : MethodId} {args : Array Value} {below : List Frame} {meth : Method} {c : Code} {D : va_G} {K : Nat → ClassId} {ad : Nat → Nat} {tL : Nat} (hI : INJ NC ad) (C0 : Cx p s m args meth c RX3 wsX3_partAlike cX3_partAlike 5 (some .int) (KC D K tL (IW NC ad))) (S : Mem) {r : Int32} : ∀ (x0 : Int32) (x1 : Int32) (x2 : Int32), f3_partAlike x0 x1 x2 = some r → ∀ (H : Heap) (locs : List Loc) (ls : Array Slot), va_P D vwCl (wl NC ad (EC K ad S)) H → va_S (IW NC ad) s.heap H locs → lv_has ls 5 [(0, .int x0), (1, .int x1), (2, .int x2)] → W p l e rm3_partAlike s m args below meth c H locs 0 0 (MQ below (va_Qi (fun (x : Int32) (u : Mem) => x = r ∧ u = S) (fun u t => va_P D vwCl (wl NC ad (EC K ad u)) t.heap) (IW NC ad)) args s 0 0 (IW NC ad)) (F0 m 0 ls []) := by
  have hx := C0.1
  have hb := C0.2.1
  have hts := C0.2.2.2.2.1
  have hown := C0.2.2.2.1
  have hKC := C0.2.2.2.2.2.2.2
  intro x0 x1 x2 hf H locs ls hP hS hl
  rw [f3_partAlike] at hf
  refine lv_iconst (v := 0) hx hb dX3_partAlike_0 (by decide) ?_
  refine lv_istore_n (lv' := [(3, .int 0), (0, .int x0), (1, .int x1), (2, .int x2)]) hx hb dX3_partAlike_1 rfl hl (by decide) rfl (fun ls hl => ?_)
  refine lv_iconst (v := 0) hx hb dX3_partAlike_2 (by decide) ?_
  refine lv_istore (lv' := [(4, .int 0), (3, .int 0), (0, .int x0), (1, .int x1), (2, .int x2)]) hx hb dX3_partAlike_3 hl (by decide) rfl (fun ls hl => ?_)
  exact w3_partAlike_b5 hI C0 S FU x0 x1 x2 0 0 hf H locs ls hP hS (lv_sub hl [2, 3, 4, 1, 0] rfl)
theorem m3_partAlike (l : Launch) (D : va_G) (K : Nat → ClassId) (ad : Nat → Nat) (tL : Nat) (hI : INJ NC ad) (S : Mem) (x0 : Int32) (x1 : Int32) (x2 : Int32) {r : Int32} (hf : f3_partAlike x0 x1 x2 = some r) : SysI l yX3_partAlike wsX3_partAlike rm3_partAlike D NC ad (EC K ad) (KC D K tL (IW NC ad)) [.int x0, .int x1, .int x2] S r S :=
  met_of (own := RX3) (by decide) rfl rfl (Nat.le_of_ble_eq_true rfl) (fun _ _ s _ _ _ _ ls C0 _ hP hl => w3_partAlike hI C0 S x0 x1 x2 hf s.heap [] ls hP va_S.rf hl)
theorem hd_X3_greatestPart : yX3_greatestPart.cls ≠ "java/lang/invoke/MethodHandle" ∧ yX3_greatestPart.cls ≠ "java/lang/invoke/VarHandle" ∧ (parseMethodDescriptor yX3_greatestPart.desc).map (fun d => d.parameters.length) = some 2 := by decide +kernel
abbrev rm3_greatestPart : Room := { frames := 3, cells := 0, slots := 0, locals := 77 }
set_option maxHeartbeats 4000000 in
set_option maxRecDepth 100000 in
theorem w3_greatestPart_b33 {p : Program} {l : Launch} {e : Env} {s : State} {m : MethodId} {args : Array Value} {below : List Frame} {meth : Method} {c : Code} {D : va_G} {K : Nat → ClassId} {ad : Nat → Nat} {tL : Nat} (hI : INJ NC ad) (C0 : Cx p s m args meth c RX3 wsX3_greatestPart cX3_greatestPart 4 (some .int) (KC D K tL (IW NC ad))) (S : Mem) {r : Int32} (k4 : Int32 → Int32 → Int32 → Int32 → Option Int32) (hk4 : ∀ (x0 : Int32) (x1 : Int32) (x2 : Int32) (x3 : Int32), k4 x0 x1 x2 x3 = some r → ∀ (H : Heap) (locs : List Loc) (ls : Array Slot), va_P D vwCl (wl NC ad (EC K ad S)) H → va_S (IW NC ad) s.heap H locs → lv_has ls 4 [(0, .int x0), (1, .int x1), (2, .int x2), (3, .int x3)] → W p l e rm3_greatestPart s m args below meth c H locs 0 0 (MQ below (va_Qi (fun (x : Int32) (u : Mem) => x = r ∧ u = S) (fun u t => va_P D vwCl (wl NC ad (EC K ad u)) t.heap) (IW NC ad)) args s 0 0 (IW NC ad)) (F0 m 4 ls [])) : ∀ (x0 : Int32) (x1 : Int32) (x2 : Int32) (x3 : Int32), f3_greatestPart_b33 k4 x0 x1 x2 x3 = some r → ∀ (H : Heap) (locs : List Loc) (ls : Array Slot), va_P D vwCl (wl NC ad (EC K ad S)) H → va_S (IW NC ad) s.heap H locs → lv_has ls 4 [(0, .int x0), (1, .int x1), (2, .int x2), (3, .int x3)] → W p l e rm3_greatestPart s m args below meth c H locs 0 0 (MQ below (va_Qi (fun (x : Int32) (u : Mem) => x = r ∧ u = S) (fun u t => va_P D vwCl (wl NC ad (EC K ad u)) t.heap) (IW NC ad)) args s 0 0 (IW NC ad)) (F0 m 33 ls []) := by
  have hx := C0.1
  have hb := C0.2.1
  have hts := C0.2.2.2.2.1
  have hown := C0.2.2.2.1
  have hKC := C0.2.2.2.2.2.2.2
  intro x0 x1 x2 x3 hf H locs ls hP hS hl
  rw [f3_greatestPart_b33] at hf
  obtain ⟨v1, ev1⟩ : ∃ y : Int32, y = x3 + 1 := ⟨_, rfl⟩
  have hf := nm_at ev1 hf
  refine lv_iinc (v := v1) (lv' := [(3, .int v1), (0, .int x0), (1, .int x1), (2, .int x2)]) hx hb dX3_greatestPart_33 hl (k := 3) rfl (by rw [ev1]; rfl) (by decide) rfl (fun ls hl => ?_)
  refine lv_goto (tgt := 4) hx hb dX3_greatestPart_36 (by decide) ?_
  exact hk4 x0 x1 x2 v1 hf H locs ls hP hS (lv_sub hl [1, 2, 3, 0] rfl)
set_option maxHeartbeats 4000000 in
set_option maxRecDepth 100000 in
theorem w3_greatestPart_b4 {p : Program} {l : Launch} {e : Env} {s : State} {m : MethodId} {args : Array Value} {below : List Frame} {meth : Method} {c : Code} {D : va_G} {K : Nat → ClassId} {ad : Nat → Nat} {tL : Nat} (hI : INJ NC ad) (C0 : Cx p s m args meth c RX3 wsX3_greatestPart cX3_greatestPart 4 (some .int) (KC D K tL (IW NC ad))) (S : Mem) {r : Int32} : ∀ (n : Nat), ∀ (x0 : Int32) (x1 : Int32) (x2 : Int32) (x3 : Int32), f3_greatestPart_b4 n x0 x1 x2 x3 = some r → ∀ (H : Heap) (locs : List Loc) (ls : Array Slot), va_P D vwCl (wl NC ad (EC K ad S)) H → va_S (IW NC ad) s.heap H locs → lv_has ls 4 [(0, .int x0), (1, .int x1), (2, .int x2), (3, .int x3)] → W p l e rm3_greatestPart s m args below meth c H locs 0 0 (MQ below (va_Qi (fun (x : Int32) (u : Mem) => x = r ∧ u = S) (fun u t => va_P D vwCl (wl NC ad (EC K ad u)) t.heap) (IW NC ad)) args s 0 0 (IW NC ad)) (F0 m 4 ls []) := by
  have hx := C0.1
  have hb := C0.2.1
  have hts := C0.2.2.2.2.1
  have hown := C0.2.2.2.1
  have hKC := C0.2.2.2.2.2.2.2
  intro n
  induction n with
  | zero =>
    intro x0 x1 x2 x3 hf
    rw [f3_greatestPart_b4] at hf
    cases hf
  | succ n ih =>
    intro x0 x1 x2 x3 hf H locs ls hP hS hl
    rw [f3_greatestPart_b4] at hf
    refine lv_iload_n hx hb dX3_greatestPart_4 rfl (lv_at hl 3 rfl) ?_
    refine lv_bipush (v := 6) hx hb dX3_greatestPart_5 (by decide) ?_
    refine lv_icmp_ge (tgt := 39) hx hb dX3_greatestPart_7 (by decide) (fun c1 => ?_) (fun c1 => ?_)
    · have hf := ite_t hf c1
      refine lv_iload_n hx hb dX3_greatestPart_39 rfl (lv_at hl 2 rfl) ?_
      exact ret_i C0 hP hS (Option.some.inj hf) rfl dX3_greatestPart_40
    · have hf := ite_f hf c1
      refine lv_iload_n hx hb dX3_greatestPart_10 rfl (lv_at hl 0 rfl) ?_
      refine lv_iload_n hx hb dX3_greatestPart_11 rfl (lv_at hl 3 rfl) ?_
      obtain ⟨v3, h2, hf⟩ := b1_some hf
      refine sys_i hS (sys_runS (As := [.int x0, .int x3]) (rest := []) C0 KC_ok hP hS (m3_has l D K ad tL hI S x0 x3 h2) gX3_greatestPart_X3_has rfl ⟨rfl, rfl⟩ hd_X3_has ⟨Nat.le_of_ble_eq_true rfl, Nat.le_of_ble_eq_true rfl⟩ hl.1 rfl (Nat.le_of_ble_eq_true rfl) dX3_greatestPart_12 ⟨Nat.le_refl _, Nat.le_refl _⟩) (fun H locs hP hS => ?_)
      refine lv_if_eq (tgt := 33) hx hb dX3_greatestPart_15 (by decide) (fun c4 => ?_) (fun c4 => ?_)
      · have hf := ite_t hf c4
        exact w3_greatestPart_b33 hI C0 S (f3_greatestPart_b4 n) ih x0 x1 x2 x3 hf H locs ls hP hS (lv_sub hl [0, 1, 2, 3] rfl)
      · have hf := ite_f hf c4
        refine lv_iload_n hx hb dX3_greatestPart_18 rfl (lv_at hl 2 rfl) ?_
        refine lv_iload_n hx hb dX3_greatestPart_19 rfl (lv_at hl 0 rfl) ?_
        refine lv_iload_n hx hb dX3_greatestPart_20 rfl (lv_at hl 1 rfl) ?_
        refine lv_iload_n hx hb dX3_greatestPart_21 rfl (lv_at hl 3 rfl) ?_
        refine lv_iload_n hx hb dX3_greatestPart_22 rfl (lv_at hl 1 rfl) ?_
        obtain ⟨v6, h5, hf⟩ := b1_some hf
        refine sys_i hS (sys_runS (As := [.int x3, .int x1]) (rest := [.int x1, .int x0, .int x2]) C0 KC_ok hP hS (m3_worthTo l D K ad tL hI S x3 x1 h5) gX3_greatestPart_X3_worthTo rfl ⟨rfl, rfl⟩ hd_X3_worthTo ⟨Nat.le_of_ble_eq_true rfl, Nat.le_of_ble_eq_true rfl⟩ hl.1 rfl (Nat.le_of_ble_eq_true rfl) dX3_greatestPart_23 ⟨Nat.le_refl _, Nat.le_refl _⟩) (fun H locs hP hS => ?_)
        obtain ⟨v8, h7, hf⟩ := b1_some hf
        refine sys_i hS (sys_runS (As := [.int x0, .int x1, .int v6]) (rest := [.int x2]) C0 KC_ok hP hS (m3_partAlike l D K ad tL hI S x0 x1 v6 h7) gX3_greatestPart_X3_partAlike rfl ⟨rfl, rfl⟩ hd_X3_partAlike ⟨Nat.le_of_ble_eq_true rfl, Nat.le_of_ble_eq_true rfl⟩ hl.1 rfl (Nat.le_of_ble_eq_true rfl) dX3_greatestPart_26 ⟨Nat.le_refl _, Nat.le_refl _⟩) (fun H locs hP hS => ?_)
        refine va_mmax hx hb (C0.2.2.1.trans hl.1.symm) hown (hts _ (List.mem_of_getElem? (i := 1) rfl)) (hts _ (List.mem_of_getElem? (i := 2) rfl)) (hts _ (List.mem_of_getElem? (i := 3) rfl)) (hts _ (List.mem_of_getElem? (i := 4) rfl)) (Nat.le_of_ble_eq_true rfl) (Nat.le_of_ble_eq_true rfl) (Nat.le_refl _) (Nat.le_refl _) dX3_greatestPart_29 ?_
        refine lv_topi (fun v9 ev9 => ?_)
        have hf := nm_at ev9 hf
        refine lv_istore_n (lv' := [(2, .int v9), (0, .int x0), (1, .int x1), (3, .int x3)]) hx hb dX3_greatestPart_32 rfl hl (by decide) rfl (fun ls hl => ?_)
        exact w3_greatestPart_b33 hI C0 S (f3_greatestPart_b4 n) ih x0 x1 v9 x3 hf H locs ls hP hS (lv_sub hl [1, 2, 0, 3] rfl)
set_option maxHeartbeats 4000000 in
set_option maxRecDepth 100000 in
theorem w3_greatestPart {p : Program} {l : Launch} {e : Env} {s : State} {m : MethodId} {args : Array Value} {below : List Frame} {meth : Method} {c : Code} {D : va_G} {K : Nat → ClassId} {ad : Nat → Nat} {tL : Nat} (hI : INJ NC ad) (C0 : Cx p s m args meth c RX3 wsX3_greatestPart cX3_greatestPart 4 (some .int) (KC D K tL (IW NC ad))) (S : Mem) {r : Int32} : ∀ (x0 : Int32) (x1 : Int32), f3_greatestPart x0 x1 = some r → ∀ (H : Heap) (locs : List Loc) (ls : Array Slot), va_P D vwCl (wl NC ad (EC K ad S)) H → va_S (IW NC ad) s.heap H locs → lv_has ls 4 [(0, .int x0), (1, .int x1)] → W p l e rm3_greatestPart s m args below meth c H locs 0 0 (MQ below (va_Qi (fun (x : Int32) (u : Mem) => x = r ∧ u = S) (fun u t => va_P D vwCl (wl NC ad (EC K ad u)) t.heap) (IW NC ad)) args s 0 0 (IW NC ad)) (F0 m 0 ls []) := by
  have hx := C0.1
  have hb := C0.2.1
  have hts := C0.2.2.2.2.1
  have hown := C0.2.2.2.1
  have hKC := C0.2.2.2.2.2.2.2
  intro x0 x1 hf H locs ls hP hS hl
  rw [f3_greatestPart] at hf
  refine lv_iconst (v := 0) hx hb dX3_greatestPart_0 (by decide) ?_
  refine lv_istore_n (lv' := [(2, .int 0), (0, .int x0), (1, .int x1)]) hx hb dX3_greatestPart_1 rfl hl (by decide) rfl (fun ls hl => ?_)
  refine lv_iconst (v := 0) hx hb dX3_greatestPart_2 (by decide) ?_
  refine lv_istore_n (lv' := [(3, .int 0), (2, .int 0), (0, .int x0), (1, .int x1)]) hx hb dX3_greatestPart_3 rfl hl (by decide) rfl (fun ls hl => ?_)
  exact w3_greatestPart_b4 hI C0 S FU x0 x1 0 0 hf H locs ls hP hS (lv_sub hl [2, 3, 1, 0] rfl)
theorem m3_greatestPart (l : Launch) (D : va_G) (K : Nat → ClassId) (ad : Nat → Nat) (tL : Nat) (hI : INJ NC ad) (S : Mem) (x0 : Int32) (x1 : Int32) {r : Int32} (hf : f3_greatestPart x0 x1 = some r) : SysI l yX3_greatestPart wsX3_greatestPart rm3_greatestPart D NC ad (EC K ad) (KC D K tL (IW NC ad)) [.int x0, .int x1] S r S :=
  met_of (own := RX3) (by decide) rfl rfl (Nat.le_of_ble_eq_true rfl) (fun _ _ s _ _ _ _ ls C0 _ hP hl => w3_greatestPart hI C0 S x0 x1 hf s.heap [] ls hP va_S.rf hl)
theorem in_X3_test_X3 : ∀ w ∈ wsX30, w ∈ wsX3_test := fun _ h => List.mem_cons_of_mem _ (List.mem_append_left _ (List.mem_append_right _ h))
theorem in_X3_test_X0 : ∀ w ∈ wsX00, w ∈ wsX3_test := fun _ h => List.mem_cons_of_mem _ (List.mem_append_right _ h)
theorem hd_X3_test : yX3_test.cls = RX3 ∧ yX3_test.cls ≠ "java/lang/invoke/MethodHandle" ∧ yX3_test.cls ≠ "java/lang/invoke/VarHandle" ∧ (parseMethodDescriptor yX3_test.desc).map (fun d => d.parameters.length) = some 2 := by decide +kernel
abbrev rm3_test : Room := { frames := 4, cells := 0, slots := 0, locals := 100 }
set_option maxHeartbeats 4000000 in
set_option maxRecDepth 100000 in
theorem w3_test_b79 {p : Program} {l : Launch} {e : Env} {s : State} {m : MethodId} {args : Array Value} {below : List Frame} {meth : Method} {c : Code} {D : va_G} {K : Nat → ClassId} {ad : Nat → Nat} {tL : Nat} (hI : INJ NC ad) (C0 : Cx p s m args meth c RX3 wsX3_test cX3_test 9 (some .int) (KC D K tL (IW NC ad))) {r : Int32} {T : Mem} (k48 : Mem → Int32 → Int32 → Int32 → Int32 → Option (Int32 × Mem)) (hk48 : ∀ (S : Mem) (x4 : Int32) (x5 : Int32) (x6 : Int32) (x7 : Int32), k48 S x4 x5 x6 x7 = some (r, T) → ∀ (H : Heap) (locs : List Loc) (ls : Array Slot), va_P D vwCl (wl NC ad (EC K ad S)) H → va_S (IW NC ad) s.heap H locs → lv_has ls 9 [(0, .ref (ad 0)), (4, .int x4), (5, .int x5), (6, .int x6), (7, .int x7)] → W p l e rm3_test s m args below meth c H locs 0 0 (MQ below (va_Qi (fun (x : Int32) (u : Mem) => x = r ∧ u = T) (fun u t => va_P D vwCl (wl NC ad (EC K ad u)) t.heap) (IW NC ad)) args s 0 0 (IW NC ad)) (F0 m 48 ls [])) : ∀ (S : Mem) (x4 : Int32) (x5 : Int32) (x6 : Int32) (x7 : Int32), f3_test_b79 k48 S x4 x5 x6 x7 = some (r, T) → ∀ (H : Heap) (locs : List Loc) (ls : Array Slot), va_P D vwCl (wl NC ad (EC K ad S)) H → va_S (IW NC ad) s.heap H locs → lv_has ls 9 [(0, .ref (ad 0)), (4, .int x4), (5, .int x5), (6, .int x6), (7, .int x7)] → W p l e rm3_test s m args below meth c H locs 0 0 (MQ below (va_Qi (fun (x : Int32) (u : Mem) => x = r ∧ u = T) (fun u t => va_P D vwCl (wl NC ad (EC K ad u)) t.heap) (IW NC ad)) args s 0 0 (IW NC ad)) (F0 m 79 ls []) := by
  have hx := C0.1
  have hb := C0.2.1
  have hts := C0.2.2.2.2.1
  have hown := C0.2.2.2.1
  have hKC := C0.2.2.2.2.2.2.2
  intro S x4 x5 x6 x7 hf H locs ls hP hS hl
  rw [f3_test_b79] at hf
  obtain ⟨v1, ev1⟩ : ∃ y : Int32, y = x7 + 1 := ⟨_, rfl⟩
  have hf := nm_at ev1 hf
  refine lv_iinc (v := v1) (lv' := [(7, .int v1), (0, .ref (ad 0)), (4, .int x4), (5, .int x5), (6, .int x6)]) hx hb dX3_test_79 hl (k := 4) rfl (by rw [ev1]; rfl) (by decide) rfl (fun ls hl => ?_)
  refine lv_goto (tgt := 48) hx hb dX3_test_82 (by decide) ?_
  exact hk48 S x4 x5 x6 v1 hf H locs ls hP hS (lv_sub hl [1, 2, 3, 4, 0] rfl)
set_option maxHeartbeats 4000000 in
set_option maxRecDepth 100000 in
theorem w3_test_b48 {p : Program} {l : Launch} {e : Env} {s : State} {m : MethodId} {args : Array Value} {below : List Frame} {meth : Method} {c : Code} {D : va_G} {K : Nat → ClassId} {ad : Nat → Nat} {tL : Nat} (hI : INJ NC ad) (C0 : Cx p s m args meth c RX3 wsX3_test cX3_test 9 (some .int) (KC D K tL (IW NC ad))) {r : Int32} {T : Mem} : ∀ (n : Nat), ∀ (S : Mem) (x4 : Int32) (x5 : Int32) (x6 : Int32) (x7 : Int32), f3_test_b48 n S x4 x5 x6 x7 = some (r, T) → ∀ (H : Heap) (locs : List Loc) (ls : Array Slot), va_P D vwCl (wl NC ad (EC K ad S)) H → va_S (IW NC ad) s.heap H locs → lv_has ls 9 [(0, .ref (ad 0)), (4, .int x4), (5, .int x5), (6, .int x6), (7, .int x7)] → W p l e rm3_test s m args below meth c H locs 0 0 (MQ below (va_Qi (fun (x : Int32) (u : Mem) => x = r ∧ u = T) (fun u t => va_P D vwCl (wl NC ad (EC K ad u)) t.heap) (IW NC ad)) args s 0 0 (IW NC ad)) (F0 m 48 ls []) := by
  have hx := C0.1
  have hb := C0.2.1
  have hts := C0.2.2.2.2.1
  have hown := C0.2.2.2.1
  have hKC := C0.2.2.2.2.2.2.2
  intro n
  induction n with
  | zero =>
    intro S x4 x5 x6 x7 hf
    rw [f3_test_b48] at hf
    cases hf
  | succ n ih =>
    intro S x4 x5 x6 x7 hf H locs ls hP hS hl
    rw [f3_test_b48] at hf
    refine lv_iload hx hb dX3_test_48 (lv_at hl 4 rfl) ?_
    refine lv_bipush (v := 99) hx hb dX3_test_50 (by decide) ?_
    refine lv_icmp_gt (tgt := 85) hx hb dX3_test_52 (by decide) (fun c1 => ?_) (fun c1 => ?_)
    · have hf := ite_t hf c1
      refine lv_aload_n hx hb dX3_test_85 rfl (lv_at hl 0 rfl) ?_
      refine lv_iload hx hb dX3_test_86 (lv_at hl 2 rfl) ?_
      refine x_puti C0 hKC.1 hI (EC_loc K ad) hP hS (by decide) (EC_0 K ad S) rfl tyX3 tyX3_ok nmX3 in_X3_test_X3 9 (by decide) (List.mem_of_getElem? (i := 3) rfl) rfl (tyX3_ok 9 (by decide)) (Nat.le_of_ble_eq_true rfl) (EC_p9 K ad S _) dX3_test_88 (fun S2 eS2 H locs hP hS => ?_)
      have hf := nm_at eS2 hf
      refine lv_iload hx hb dX3_test_91 (lv_at hl 3 rfl) ?_
      exact ret_i C0 hP hS (congrArg Prod.fst (Option.some.inj hf)) (congrArg Prod.snd (Option.some.inj hf)) dX3_test_93
    · have hf := ite_f hf c1
      refine lv_iload hx hb dX3_test_55 (lv_at hl 1 rfl) ?_
      refine lv_iload hx hb dX3_test_57 (lv_at hl 4 rfl) ?_
      obtain ⟨v4, h3, hf⟩ := b1_some hf
      refine sys_i hS (sys_runS (As := [.int x4, .int x7]) (rest := []) C0 KC_ok hP hS (m3_greatestPart l D K ad tL hI S x4 x7 h3) gX3_test_X3_greatestPart rfl ⟨rfl, rfl⟩ hd_X3_greatestPart ⟨Nat.le_of_ble_eq_true rfl, Nat.le_of_ble_eq_true rfl⟩ hl.1 rfl (Nat.le_of_ble_eq_true rfl) dX3_test_59 ⟨Nat.le_refl _, Nat.le_refl _⟩) (fun H locs hP hS => ?_)
      refine lv_istore (lv' := [(8, .int v4), (0, .ref (ad 0)), (4, .int x4), (5, .int x5), (6, .int x6), (7, .int x7)]) hx hb dX3_test_62 hl (by decide) rfl (fun ls hl => ?_)
      refine lv_iload hx hb dX3_test_64 (lv_at hl 0 rfl) ?_
      refine lv_iload hx hb dX3_test_66 (lv_at hl 3 rfl) ?_
      refine lv_icmp_ge (tgt := 79) hx hb dX3_test_68 (by decide) (fun c5 => ?_) (fun c5 => ?_)
      · have hf := ite_t hf c5
        exact w3_test_b79 hI C0 (f3_test_b48 n) ih S x4 x5 x6 x7 hf H locs ls hP hS (lv_sub hl [1, 2, 3, 4, 5] rfl)
      · have hf := ite_f hf c5
        refine lv_iload hx hb dX3_test_71 (lv_at hl 0 rfl) ?_
        refine lv_istore (lv' := [(5, .int v4), (8, .int v4), (0, .ref (ad 0)), (4, .int x4), (6, .int x6), (7, .int x7)]) hx hb dX3_test_73 hl (by decide) rfl (fun ls hl => ?_)
        refine lv_iload hx hb dX3_test_75 (lv_at hl 5 rfl) ?_
        refine lv_istore (lv' := [(6, .int x7), (5, .int v4), (8, .int v4), (0, .ref (ad 0)), (4, .int x4), (7, .int x7)]) hx hb dX3_test_77 hl (by decide) rfl (fun ls hl => ?_)
        exact w3_test_b79 hI C0 (f3_test_b48 n) ih S x4 v4 x7 x7 hf H locs ls hP hS (lv_sub hl [3, 4, 1, 0, 5] rfl)
set_option maxHeartbeats 4000000 in
set_option maxRecDepth 100000 in
theorem w3_test {p : Program} {l : Launch} {e : Env} {s : State} {m : MethodId} {args : Array Value} {below : List Frame} {meth : Method} {c : Code} {D : va_G} {K : Nat → ClassId} {ad : Nat → Nat} {tL : Nat} (hI : INJ NC ad) (C0 : Cx p s m args meth c RX3 wsX3_test cX3_test 9 (some .int) (KC D K tL (IW NC ad))) {r : Int32} {T : Mem} : ∀ (S : Mem) (x1 : Int32) (x2 : Int32), f3_test S x1 x2 = some (r, T) → ∀ (H : Heap) (locs : List Loc) (ls : Array Slot), va_P D vwCl (wl NC ad (EC K ad S)) H → va_S (IW NC ad) s.heap H locs → lv_has ls 9 [(0, .ref (ad 0)), (1, .int x1), (2, .int x2)] → W p l e rm3_test s m args below meth c H locs 0 0 (MQ below (va_Qi (fun (x : Int32) (u : Mem) => x = r ∧ u = T) (fun u t => va_P D vwCl (wl NC ad (EC K ad u)) t.heap) (IW NC ad)) args s 0 0 (IW NC ad)) (F0 m 0 ls []) := by
  have hx := C0.1
  have hb := C0.2.1
  have hts := C0.2.2.2.2.1
  have hown := C0.2.2.2.1
  have hKC := C0.2.2.2.2.2.2.2
  intro S x1 x2 hf H locs ls hP hS hl
  rw [f3_test] at hf
  refine lv_aload_n hx hb dX3_test_0 rfl (lv_at hl 0 rfl) ?_
  refine lv_iload_n hx hb dX3_test_1 rfl (lv_at hl 1 rfl) ?_
  refine lv_iload_n hx hb dX3_test_2 rfl (lv_at hl 2 rfl) ?_
  obtain ⟨v2, S3, h1, hf⟩ := b2_some hf
  refine sys_i hS (sys_runV (As := [.int x1, .int x2]) (rest := []) C0 KC_ok hKC.1 hP hS (by decide) (EC_0 K ad S) rfl (m3_pairsRefusal l D K ad tL hI S x1 x2 h1) gX3_test_X3_pairsRefusal rfl ⟨rfl, rfl⟩ hd_X3_pairsRefusal ⟨Nat.le_of_ble_eq_true rfl, Nat.le_of_ble_eq_true rfl⟩ hl.1 rfl (Nat.le_of_ble_eq_true rfl) dX3_test_3 ⟨Nat.le_refl _, Nat.le_refl _⟩) (fun H locs hP hS => ?_)
  refine lv_istore_n (lv' := [(3, .int v2), (0, .ref (ad 0)), (1, .int x1), (2, .int x2)]) hx hb dX3_test_6 rfl hl (by decide) rfl (fun ls hl => ?_)
  refine lv_iload_n hx hb dX3_test_7 rfl (lv_at hl 0 rfl) ?_
  refine lv_if_eq (tgt := 13) hx hb dX3_test_8 (by decide) (fun c4 => ?_) (fun c4 => ?_)
  · have hf := ite_t hf c4
    refine lv_aload_n hx hb dX3_test_13 rfl (lv_at hl 1 rfl) ?_
    refine x_get C0 hKC.1 hP (by decide) (EC_0 K ad S3) rfl in_X3_test_X3 0 (by decide) (List.mem_of_getElem? (i := 1) rfl) rfl dX3_test_14 ?_
    refine lv_iload_n hx hb dX3_test_17 rfl (lv_at hl 3 rfl) ?_
    obtain ⟨g5, hf⟩ := gd_some hf
    refine x_aald C0 hKC.1 hP (by decide) (EC_RR K ad S3) (t0 := 4) rfl rfl g5 dX3_test_18 ?_
    refine lv_aload_n hx hb dX3_test_19 rfl (lv_at hl 1 rfl) ?_
    refine x_get C0 hKC.1 hP (by decide) (EC_0 K ad S3) rfl in_X3_test_X3 1 (by decide) (List.mem_of_getElem? (i := 2) rfl) rfl dX3_test_20 ?_
    refine lv_iload_n hx hb dX3_test_23 rfl (lv_at hl 3 rfl) ?_
    obtain ⟨g6, hf⟩ := gd_some hf
    refine x_iald C0 hKC.1 hP (IC_8 K ad) (t0 := 0) rfl g6 dX3_test_24 ?_
    obtain ⟨v8, h7, hf⟩ := b1_some hf
    refine sys_i hS (sys_runS (As := [.ref (ad (2 + (ix x2))), .int (gi S3 8 (ix x2))]) (rest := []) C0 KC_ok hP hS (m3_kindsByPairs l D K ad tL hI S3 (2 + (ix x2)) 40 (gi S3 8 (ix x2)) (IC_row K ad (inb_lt g5)) h7) gX3_test_X3_kindsByPairs rfl ⟨rfl, rfl⟩ hd_X3_kindsByPairs ⟨Nat.le_of_ble_eq_true rfl, Nat.le_of_ble_eq_true rfl⟩ hl.1 rfl (Nat.le_of_ble_eq_true rfl) dX3_test_25 ⟨Nat.le_refl _, Nat.le_refl _⟩) (fun H locs hP hS => ?_)
    refine lv_istore (lv' := [(4, .int v8), (3, .int v2), (0, .ref (ad 0)), (1, .int x1), (2, .int x2)]) hx hb dX3_test_28 hl (by decide) rfl (fun ls hl => ?_)
    refine lv_iload hx hb dX3_test_30 (lv_at hl 0 rfl) ?_
    refine lv_if_ne (tgt := 38) hx hb dX3_test_32 (by decide) (fun c9 => ?_) (fun c9 => ?_)
    · have hf := ite_f hf c9
      refine lv_bipush (v := 7) hx hb dX3_test_38 (by decide) ?_
      refine lv_istore (lv' := [(5, .int 7), (4, .int v8), (3, .int v2), (0, .ref (ad 0)), (1, .int x1), (2, .int x2)]) hx hb dX3_test_40 hl (by decide) rfl (fun ls hl => ?_)
      refine lv_iconst (v := 0) hx hb dX3_test_42 (by decide) ?_
      refine lv_istore (lv' := [(6, .int 0), (5, .int 7), (4, .int v8), (3, .int v2), (0, .ref (ad 0)), (1, .int x1), (2, .int x2)]) hx hb dX3_test_43 hl (by decide) rfl (fun ls hl => ?_)
      refine lv_iconst (v := 0) hx hb dX3_test_45 (by decide) ?_
      refine lv_istore (lv' := [(7, .int 0), (6, .int 0), (5, .int 7), (4, .int v8), (3, .int v2), (0, .ref (ad 0)), (1, .int x1), (2, .int x2)]) hx hb dX3_test_46 hl (by decide) rfl (fun ls hl => ?_)
      exact w3_test_b48 hI C0 FU S3 v8 7 0 0 hf H locs ls hP hS (lv_sub hl [5, 3, 2, 1, 0] rfl)
    · have hf := ite_t hf c9
      refine lv_bipush (v := (-9)) hx hb dX3_test_35 (by decide) ?_
      exact ret_i C0 hP hS (congrArg Prod.fst (Option.some.inj hf)) (congrArg Prod.snd (Option.some.inj hf)) dX3_test_37
  · have hf := ite_f hf c4
    refine lv_iload_n hx hb dX3_test_11 rfl (lv_at hl 0 rfl) ?_
    exact ret_i C0 hP hS (congrArg Prod.fst (Option.some.inj hf)) (congrArg Prod.snd (Option.some.inj hf)) dX3_test_12
theorem m3_test (l : Launch) (D : va_G) (K : Nat → ClassId) (ad : Nat → Nat) (tL : Nat) (hI : INJ NC ad) (S : Mem) (x1 : Int32) (x2 : Int32) {r : Int32} {T : Mem} (hf : f3_test S x1 x2 = some (r, T)) : SysI l yX3_test wsX3_test rm3_test D NC ad (EC K ad) (KC D K tL (IW NC ad)) [.ref (ad 0), .int x1, .int x2] S r T :=
  met_of (own := RX3) (by decide) rfl rfl (Nat.le_of_ble_eq_true rfl) (fun _ _ s _ _ _ _ ls C0 _ hP hl => w3_test hI C0 S x1 x2 hf s.heap [] ls hP va_S.rf hl)
theorem in_X3_jars_X3 : ∀ w ∈ wsX30, w ∈ wsX3_jars := fun _ h => List.mem_cons_of_mem _ (List.mem_append_left _ (List.mem_append_right _ h))
theorem in_X3_jars_X0 : ∀ w ∈ wsX00, w ∈ wsX3_jars := fun _ h => List.mem_cons_of_mem _ (List.mem_append_right _ h)
theorem hd_X3_jars : yX3_jars.cls = RX3 ∧ yX3_jars.cls ≠ "java/lang/invoke/MethodHandle" ∧ yX3_jars.cls ≠ "java/lang/invoke/VarHandle" ∧ (parseMethodDescriptor yX3_jars.desc).map (fun d => d.parameters.length) = some 2 := by decide +kernel
abbrev rm3_jars : Room := { frames := 2, cells := 0, slots := 0, locals := 53 }
set_option maxHeartbeats 4000000 in
set_option maxRecDepth 100000 in
theorem w3_jars_b74 {p : Program} {l : Launch} {e : Env} {s : State} {m : MethodId} {args : Array Value} {below : List Frame} {meth : Method} {c : Code} {D : va_G} {K : Nat → ClassId} {ad : Nat → Nat} {tL : Nat} (hI : INJ NC ad) (C0 : Cx p s m args meth c RX3 wsX3_jars cX3_jars 6 (some .int) (KC D K tL (IW NC ad))) {r : Int32} {T : Mem} (k30 : Mem → Int32 → Int32 → Int32 → Int32 → Int32 → Option (Int32 × Mem)) (hk30 : ∀ (S : Mem) (x1 : Int32) (x2 : Int32) (x3 : Int32) (x4 : Int32) (x5 : Int32), k30 S x1 x2 x3 x4 x5 = some (r, T) → ∀ (H : Heap) (locs : List Loc) (ls : Array Slot), va_P D vwCl (wl NC ad (EC K ad S)) H → va_S (IW NC ad) s.heap H locs → lv_has ls 6 [(0, .ref (ad 0)), (1, .int x1), (2, .int x2), (3, .int x3), (4, .int x4), (5, .int x5)] → W p l e rm3_jars s m args below meth c H locs 0 0 (MQ below (va_Qi (fun (x : Int32) (u : Mem) => x = r ∧ u = T) (fun u t => va_P D vwCl (wl NC ad (EC K ad u)) t.heap) (IW NC ad)) args s 0 0 (IW NC ad)) (F0 m 30 ls [])) : ∀ (S : Mem) (x1 : Int32) (x2 : Int32) (x3 : Int32) (x4 : Int32) (x5 : Int32), f3_jars_b74 k30 S x1 x2 x3 x4 x5 = some (r, T) → ∀ (H : Heap) (locs : List Loc) (ls : Array Slot), va_P D vwCl (wl NC ad (EC K ad S)) H → va_S (IW NC ad) s.heap H locs → lv_has ls 6 [(0, .ref (ad 0)), (1, .int x1), (2, .int x2), (3, .int x3), (4, .int x4), (5, .int x5)] → W p l e rm3_jars s m args below meth c H locs 0 0 (MQ below (va_Qi (fun (x : Int32) (u : Mem) => x = r ∧ u = T) (fun u t => va_P D vwCl (wl NC ad (EC K ad u)) t.heap) (IW NC ad)) args s 0 0 (IW NC ad)) (F0 m 74 ls []) := by
  have hx := C0.1
  have hb := C0.2.1
  have hts := C0.2.2.2.2.1
  have hown := C0.2.2.2.1
  have hKC := C0.2.2.2.2.2.2.2
  intro S x1 x2 x3 x4 x5 hf H locs ls hP hS hl
  rw [f3_jars_b74] at hf
  obtain ⟨v1, ev1⟩ : ∃ y : Int32, y = x5 + 1 := ⟨_, rfl⟩
  have hf := nm_at ev1 hf
  refine lv_iinc (v := v1) (lv' := [(5, .int v1), (0, .ref (ad 0)), (1, .int x1), (2, .int x2), (3, .int x3), (4, .int x4)]) hx hb dX3_jars_74 hl (k := 5) rfl (by rw [ev1]; rfl) (by decide) rfl (fun ls hl => ?_)
  refine lv_goto (tgt := 30) hx hb dX3_jars_77 (by decide) ?_
  exact hk30 S x1 x2 x3 x4 v1 hf H locs ls hP hS (lv_sub hl [1, 2, 3, 4, 5, 0] rfl)
set_option maxHeartbeats 4000000 in
set_option maxRecDepth 100000 in
theorem w3_jars_b72 {p : Program} {l : Launch} {e : Env} {s : State} {m : MethodId} {args : Array Value} {below : List Frame} {meth : Method} {c : Code} {D : va_G} {K : Nat → ClassId} {ad : Nat → Nat} {tL : Nat} (hI : INJ NC ad) (C0 : Cx p s m args meth c RX3 wsX3_jars cX3_jars 6 (some .int) (KC D K tL (IW NC ad))) {r : Int32} {T : Mem} (k30 : Mem → Int32 → Int32 → Int32 → Int32 → Int32 → Option (Int32 × Mem)) (hk30 : ∀ (S : Mem) (x1 : Int32) (x2 : Int32) (x3 : Int32) (x4 : Int32) (x5 : Int32), k30 S x1 x2 x3 x4 x5 = some (r, T) → ∀ (H : Heap) (locs : List Loc) (ls : Array Slot), va_P D vwCl (wl NC ad (EC K ad S)) H → va_S (IW NC ad) s.heap H locs → lv_has ls 6 [(0, .ref (ad 0)), (1, .int x1), (2, .int x2), (3, .int x3), (4, .int x4), (5, .int x5)] → W p l e rm3_jars s m args below meth c H locs 0 0 (MQ below (va_Qi (fun (x : Int32) (u : Mem) => x = r ∧ u = T) (fun u t => va_P D vwCl (wl NC ad (EC K ad u)) t.heap) (IW NC ad)) args s 0 0 (IW NC ad)) (F0 m 30 ls [])) : ∀ (S : Mem) (x1 : Int32) (x2 : Int32) (x3 : Int32) (x5 : Int32) (t0 : Int32), f3_jars_b72 k30 S x1 x2 x3 x5 t0 = some (r, T) → ∀ (H : Heap) (locs : List Loc) (ls : Array Slot), va_P D vwCl (wl NC ad (EC K ad S)) H → va_S (IW NC ad) s.heap H locs → lv_has ls 6 [(0, .ref (ad 0)), (1, .int x1), (2, .int x2), (3, .int x3), (5, .int x5)] → W p l e rm3_jars s m args below meth c H locs 0 0 (MQ below (va_Qi (fun (x : Int32) (u : Mem) => x = r ∧ u = T) (fun u t => va_P D vwCl (wl NC ad (EC K ad u)) t.heap) (IW NC ad)) args s 0 0 (IW NC ad)) (F0 m 72 ls [.int t0]) := by
  have hx := C0.1
  have hb := C0.2.1
  have hts := C0.2.2.2.2.1
  have hown := C0.2.2.2.1
  have hKC := C0.2.2.2.2.2.2.2
  intro S x1 x2 x3 x5 t0 hf H locs ls hP hS hl
  rw [f3_jars_b72] at hf
  refine lv_istore (lv' := [(4, .int t0), (0, .ref (ad 0)), (1, .int x1), (2, .int x2), (3, .int x3), (5, .int x5)]) hx hb dX3_jars_72 hl (by decide) rfl (fun ls hl => ?_)
  exact w3_jars_b74 hI C0 k30 hk30 S x1 x2 x3 t0 x5 hf H locs ls hP hS (lv_sub hl [1, 2, 3, 4, 0, 5] rfl)
set_option maxHeartbeats 4000000 in
set_option maxRecDepth 100000 in
theorem w3_jars_b30 {p : Program} {l : Launch} {e : Env} {s : State} {m : MethodId} {args : Array Value} {below : List Frame} {meth : Method} {c : Code} {D : va_G} {K : Nat → ClassId} {ad : Nat → Nat} {tL : Nat} (hI : INJ NC ad) (C0 : Cx p s m args meth c RX3 wsX3_jars cX3_jars 6 (some .int) (KC D K tL (IW NC ad))) {r : Int32} {T : Mem} : ∀ (n : Nat), ∀ (S : Mem) (x1 : Int32) (x2 : Int32) (x3 : Int32) (x4 : Int32) (x5 : Int32), f3_jars_b30 n S x1 x2 x3 x4 x5 = some (r, T) → ∀ (H : Heap) (locs : List Loc) (ls : Array Slot), va_P D vwCl (wl NC ad (EC K ad S)) H → va_S (IW NC ad) s.heap H locs → lv_has ls 6 [(0, .ref (ad 0)), (1, .int x1), (2, .int x2), (3, .int x3), (4, .int x4), (5, .int x5)] → W p l e rm3_jars s m args below meth c H locs 0 0 (MQ below (va_Qi (fun (x : Int32) (u : Mem) => x = r ∧ u = T) (fun u t => va_P D vwCl (wl NC ad (EC K ad u)) t.heap) (IW NC ad)) args s 0 0 (IW NC ad)) (F0 m 30 ls []) := by
  have hx := C0.1
  have hb := C0.2.1
  have hts := C0.2.2.2.2.1
  have hown := C0.2.2.2.1
  have hKC := C0.2.2.2.2.2.2.2
  intro n
  induction n with
  | zero =>
    intro S x1 x2 x3 x4 x5 hf
    rw [f3_jars_b30] at hf
    cases hf
  | succ n ih =>
    intro S x1 x2 x3 x4 x5 hf H locs ls hP hS hl
    rw [f3_jars_b30] at hf
    refine lv_iload hx hb dX3_jars_30 (lv_at hl 5 rfl) ?_
    refine lv_bipush (v := 99) hx hb dX3_jars_32 (by decide) ?_
    refine lv_icmp_gt (tgt := 80) hx hb dX3_jars_34 (by decide) (fun c1 => ?_) (fun c1 => ?_)
    · have hf := ite_t hf c1
      refine lv_aload_n hx hb dX3_jars_80 rfl (lv_at hl 0 rfl) ?_
      refine lv_iload_n hx hb dX3_jars_81 rfl (lv_at hl 3 rfl) ?_
      refine lv_iload hx hb dX3_jars_82 (lv_at hl 4 rfl) ?_
      obtain ⟨v3, S4, h2, hf⟩ := b2_some hf
      refine sys_i hS (sys_runV (As := [.int x3, .int x4]) (rest := []) C0 KC_ok hKC.1 hP hS (by decide) (EC_0 K ad S) rfl (m3_tellLeast l D K ad tL hI S x3 x4 h2) gX3_jars_X3_tellLeast rfl ⟨rfl, rfl⟩ hd_X3_tellLeast ⟨Nat.le_of_ble_eq_true rfl, Nat.le_of_ble_eq_true rfl⟩ hl.1 rfl (Nat.le_of_ble_eq_true rfl) dX3_jars_84 ⟨Nat.le_refl _, Nat.le_refl _⟩) (fun H locs hP hS => ?_)
      exact ret_i C0 hP hS (congrArg Prod.fst (Option.some.inj hf)) (congrArg Prod.snd (Option.some.inj hf)) dX3_jars_87
    · have hf := ite_f hf c1
      refine lv_aload_n hx hb dX3_jars_37 rfl (lv_at hl 0 rfl) ?_
      refine x_get C0 hKC.1 hP (by decide) (EC_0 K ad S) rfl in_X3_jars_X3 4 (by decide) (List.mem_of_getElem? (i := 1) rfl) rfl dX3_jars_38 ?_
      refine x_get C0 hKC.1 hP (by decide) (EC_H K ad S) rfl in_X3_jars_X0 0 (by decide) (List.mem_of_getElem? (i := 2) rfl) rfl dX3_jars_41 ?_
      refine lv_iload_n hx hb dX3_jars_44 rfl (lv_at hl 1 rfl) ?_
      obtain ⟨g5, hf⟩ := gd_some hf
      refine x_iald C0 hKC.1 hP (IC_16 K ad) (t0 := 0) rfl g5 dX3_jars_45 ?_
      refine lv_iload hx hb dX3_jars_46 (lv_at hl 5 rfl) ?_
      obtain ⟨v7, h6, hf⟩ := b1_some hf
      refine sys_i hS (sys_runS (As := [.int (gi S 16 (ix x1)), .int x5]) (rest := []) C0 KC_ok hP hS (m3_worthTo l D K ad tL hI S (gi S 16 (ix x1)) x5 h6) gX3_jars_X3_worthTo rfl ⟨rfl, rfl⟩ hd_X3_worthTo ⟨Nat.le_of_ble_eq_true rfl, Nat.le_of_ble_eq_true rfl⟩ hl.1 rfl (Nat.le_of_ble_eq_true rfl) dX3_jars_48 ⟨Nat.le_refl _, Nat.le_refl _⟩) (fun H locs hP hS => ?_)
      refine lv_iload_n hx hb dX3_jars_51 rfl (lv_at hl 2 rfl) ?_
      refine lv_icmp_ne (tgt := 74) hx hb dX3_jars_52 (by decide) (fun c8 => ?_) (fun c8 => ?_)
      · have hf := ite_f hf c8
        exact w3_jars_b74 hI C0 (f3_jars_b30 n) ih S x1 x2 x3 x4 x5 hf H locs ls hP hS (lv_sub hl [0, 1, 2, 3, 4, 5] rfl)
      · have hf := ite_t hf c8
        obtain ⟨v9, ev9⟩ : ∃ y : Int32, y = x3 + 1 := ⟨_, rfl⟩
        have hf := nm_at ev9 hf
        refine lv_iinc (v := v9) (lv' := [(3, .int v9), (0, .ref (ad 0)), (1, .int x1), (2, .int x2), (4, .int x4), (5, .int x5)]) hx hb dX3_jars_55 hl (k := 3) rfl (by rw [ev9]; rfl) (by decide) rfl (fun ls hl => ?_)
        refine lv_iload hx hb dX3_jars_58 (lv_at hl 4 rfl) ?_
        refine lv_bipush (v := (-9)) hx hb dX3_jars_60 (by decide) ?_
        refine lv_icmp_ne (tgt := 70) hx hb dX3_jars_62 (by decide) (fun c10 => ?_) (fun c10 => ?_)
        · have hf := ite_f hf c10
          refine lv_iload hx hb dX3_jars_70 (lv_at hl 4 rfl) ?_
          exact w3_jars_b72 hI C0 (f3_jars_b30 n) ih S x1 x2 v9 x5 x4 hf H locs ls hP hS (lv_sub hl [1, 2, 3, 0, 5] rfl)
        · have hf := ite_t hf c10
          refine lv_iload hx hb dX3_jars_65 (lv_at hl 5 rfl) ?_
          refine lv_goto (tgt := 72) hx hb dX3_jars_67 (by decide) ?_
          exact w3_jars_b72 hI C0 (f3_jars_b30 n) ih S x1 x2 v9 x5 x5 hf H locs ls hP hS (lv_sub hl [1, 2, 3, 0, 5] rfl)
set_option maxHeartbeats 4000000 in
set_option maxRecDepth 100000 in
theorem w3_jars {p : Program} {l : Launch} {e : Env} {s : State} {m : MethodId} {args : Array Value} {below : List Frame} {meth : Method} {c : Code} {D : va_G} {K : Nat → ClassId} {ad : Nat → Nat} {tL : Nat} (hI : INJ NC ad) (C0 : Cx p s m args meth c RX3 wsX3_jars cX3_jars 6 (some .int) (KC D K tL (IW NC ad))) {r : Int32} {T : Mem} : ∀ (S : Mem) (x1 : Int32) (x2 : Int32), f3_jars S x1 x2 = some (r, T) → ∀ (H : Heap) (locs : List Loc) (ls : Array Slot), va_P D vwCl (wl NC ad (EC K ad S)) H → va_S (IW NC ad) s.heap H locs → lv_has ls 6 [(0, .ref (ad 0)), (1, .int x1), (2, .int x2)] → W p l e rm3_jars s m args below meth c H locs 0 0 (MQ below (va_Qi (fun (x : Int32) (u : Mem) => x = r ∧ u = T) (fun u t => va_P D vwCl (wl NC ad (EC K ad u)) t.heap) (IW NC ad)) args s 0 0 (IW NC ad)) (F0 m 0 ls []) := by
  have hx := C0.1
  have hb := C0.2.1
  have hts := C0.2.2.2.2.1
  have hown := C0.2.2.2.1
  have hKC := C0.2.2.2.2.2.2.2
  intro S x1 x2 hf H locs ls hP hS hl
  rw [f3_jars] at hf
  refine lv_aload_n hx hb dX3_jars_0 rfl (lv_at hl 0 rfl) ?_
  refine lv_iload_n hx hb dX3_jars_1 rfl (lv_at hl 1 rfl) ?_
  obtain ⟨v2, h1, hf⟩ := b1_some hf
  refine sys_i hS (sys_runV (As := [.int x1]) (rest := []) C0 KC_ok hKC.1 hP hS (by decide) (EC_0 K ad S) rfl (m3_isHouse l D K ad tL hI S x1 h1) gX3_jars_X3_isHouse rfl ⟨rfl, rfl⟩ hd_X3_isHouse ⟨Nat.le_of_ble_eq_true rfl, Nat.le_of_ble_eq_true rfl⟩ hl.1 rfl (Nat.le_of_ble_eq_true rfl) dX3_jars_2 ⟨Nat.le_refl _, Nat.le_refl _⟩) (fun H locs hP hS => ?_)
  refine lv_if_eq (tgt := 19) hx hb dX3_jars_5 (by decide) (fun c3 => ?_) (fun c3 => ?_)
  · have hf := ite_t hf c3
    refine lv_iconst (v := (-1)) hx hb dX3_jars_19 (by decide) ?_
    exact ret_i C0 hP hS (congrArg Prod.fst (Option.some.inj hf)) (congrArg Prod.snd (Option.some.inj hf)) dX3_jars_20
  · have hf := ite_f hf c3
    refine lv_iload_n hx hb dX3_jars_8 rfl (lv_at hl 2 rfl) ?_
    refine lv_if_lt (tgt := 19) hx hb dX3_jars_9 (by decide) (fun c4 => ?_) (fun c4 => ?_)
    · have hf := ite_t hf c4
      refine lv_iconst (v := (-1)) hx hb dX3_jars_19 (by decide) ?_
      exact ret_i C0 hP hS (congrArg Prod.fst (Option.some.inj hf)) (congrArg Prod.snd (Option.some.inj hf)) dX3_jars_20
    · have hf := ite_f hf c4
      refine lv_iload_n hx hb dX3_jars_12 rfl (lv_at hl 2 rfl) ?_
      refine lv_sipush (v := 300) hx hb dX3_jars_13 (by decide) ?_
      refine lv_icmp_le (tgt := 21) hx hb dX3_jars_16 (by decide) (fun c5 => ?_) (fun c5 => ?_)
      · have hf := ite_t hf c5
        refine lv_iconst (v := 0) hx hb dX3_jars_21 (by decide) ?_
        refine lv_istore_n (lv' := [(3, .int 0), (0, .ref (ad 0)), (1, .int x1), (2, .int x2)]) hx hb dX3_jars_22 rfl hl (by decide) rfl (fun ls hl => ?_)
        refine lv_bipush (v := (-9)) hx hb dX3_jars_23 (by decide) ?_
        refine lv_istore (lv' := [(4, .int (-9)), (3, .int 0), (0, .ref (ad 0)), (1, .int x1), (2, .int x2)]) hx hb dX3_jars_25 hl (by decide) rfl (fun ls hl => ?_)
        refine lv_iconst (v := 0) hx hb dX3_jars_27 (by decide) ?_
        refine lv_istore (lv' := [(5, .int 0), (4, .int (-9)), (3, .int 0), (0, .ref (ad 0)), (1, .int x1), (2, .int x2)]) hx hb dX3_jars_28 hl (by decide) rfl (fun ls hl => ?_)
        exact w3_jars_b30 hI C0 FU S x1 x2 0 (-9) 0 hf H locs ls hP hS (lv_sub hl [3, 4, 5, 2, 1, 0] rfl)
      · have hf := ite_f hf c5
        refine lv_iconst (v := (-1)) hx hb dX3_jars_19 (by decide) ?_
        exact ret_i C0 hP hS (congrArg Prod.fst (Option.some.inj hf)) (congrArg Prod.snd (Option.some.inj hf)) dX3_jars_20
theorem m3_jars (l : Launch) (D : va_G) (K : Nat → ClassId) (ad : Nat → Nat) (tL : Nat) (hI : INJ NC ad) (S : Mem) (x1 : Int32) (x2 : Int32) {r : Int32} {T : Mem} (hf : f3_jars S x1 x2 = some (r, T)) : SysI l yX3_jars wsX3_jars rm3_jars D NC ad (EC K ad) (KC D K tL (IW NC ad)) [.ref (ad 0), .int x1, .int x2] S r T :=
  met_of (own := RX3) (by decide) rfl rfl (Nat.le_of_ble_eq_true rfl) (fun _ _ s _ _ _ _ ls C0 _ hP hl => w3_jars hI C0 S x1 x2 hf s.heap [] ls hP va_S.rf hl)
theorem hd_X3_takenByTurn : yX3_takenByTurn.cls ≠ "java/lang/invoke/MethodHandle" ∧ yX3_takenByTurn.cls ≠ "java/lang/invoke/VarHandle" ∧ (parseMethodDescriptor yX3_takenByTurn.desc).map (fun d => d.parameters.length) = some 2 := by decide +kernel
abbrev rm3_takenByTurn : Room := { frames := 1, cells := 0, slots := 0, locals := 32 }
set_option maxHeartbeats 4000000 in
set_option maxRecDepth 100000 in
theorem w3_takenByTurn {p : Program} {l : Launch} {e : Env} {s : State} {m : MethodId} {args : Array Value} {below : List Frame} {meth : Method} {c : Code} {D : va_G} {K : Nat → ClassId} {ad : Nat → Nat} {tL : Nat} (hI : INJ NC ad) (C0 : Cx p s m args meth c RX3 wsX3_takenByTurn cX3_takenByTurn 2 (some .int) (KC D K tL (IW NC ad))) (S : Mem) {r : Int32} : ∀ (x0 : Int32) (x1 : Int32), f3_takenByTurn x0 x1 = some r → ∀ (H : Heap) (locs : List Loc) (ls : Array Slot), va_P D vwCl (wl NC ad (EC K ad S)) H → va_S (IW NC ad) s.heap H locs → lv_has ls 2 [(0, .int x0), (1, .int x1)] → W p l e rm3_takenByTurn s m args below meth c H locs 0 0 (MQ below (va_Qi (fun (x : Int32) (u : Mem) => x = r ∧ u = S) (fun u t => va_P D vwCl (wl NC ad (EC K ad u)) t.heap) (IW NC ad)) args s 0 0 (IW NC ad)) (F0 m 0 ls []) := by
  have hx := C0.1
  have hb := C0.2.1
  have hts := C0.2.2.2.2.1
  have hown := C0.2.2.2.1
  have hKC := C0.2.2.2.2.2.2.2
  intro x0 x1 hf H locs ls hP hS hl
  rw [f3_takenByTurn] at hf
  refine lv_bipush (v := 9) hx hb dX3_takenByTurn_0 (by decide) ?_
  refine lv_iload_n hx hb dX3_takenByTurn_2 rfl (lv_at hl 1 rfl) ?_
  refine lv_bipush (v := 99) hx hb dX3_takenByTurn_3 (by decide) ?_
  refine lv_iload_n hx hb dX3_takenByTurn_5 rfl (lv_at hl 0 rfl) ?_
  refine lv_isub hx hb dX3_takenByTurn_6 ?_
  refine va_mmin hx hb (C0.2.2.1.trans hl.1.symm) hown (hts _ (List.mem_of_getElem? (i := 1) rfl)) (hts _ (List.mem_of_getElem? (i := 2) rfl)) (hts _ (List.mem_of_getElem? (i := 3) rfl)) (hts _ (List.mem_of_getElem? (i := 4) rfl)) (Nat.le_of_ble_eq_true rfl) (Nat.le_of_ble_eq_true rfl) (Nat.le_refl _) (Nat.le_refl _) dX3_takenByTurn_7 ?_
  refine va_mmin hx hb (C0.2.2.1.trans hl.1.symm) hown (hts _ (List.mem_of_getElem? (i := 1) rfl)) (hts _ (List.mem_of_getElem? (i := 2) rfl)) (hts _ (List.mem_of_getElem? (i := 3) rfl)) (hts _ (List.mem_of_getElem? (i := 4) rfl)) (Nat.le_of_ble_eq_true rfl) (Nat.le_of_ble_eq_true rfl) (Nat.le_refl _) (Nat.le_refl _) dX3_takenByTurn_10 ?_
  exact ret_i C0 hP hS (Option.some.inj hf) rfl dX3_takenByTurn_13
theorem m3_takenByTurn (l : Launch) (D : va_G) (K : Nat → ClassId) (ad : Nat → Nat) (tL : Nat) (hI : INJ NC ad) (S : Mem) (x0 : Int32) (x1 : Int32) {r : Int32} (hf : f3_takenByTurn x0 x1 = some r) : SysI l yX3_takenByTurn wsX3_takenByTurn rm3_takenByTurn D NC ad (EC K ad) (KC D K tL (IW NC ad)) [.int x0, .int x1] S r S :=
  met_of (own := RX3) (by decide) rfl rfl (Nat.le_of_ble_eq_true rfl) (fun _ _ s _ _ _ _ ls C0 _ hP hl => w3_takenByTurn hI C0 S x0 x1 hf s.heap [] ls hP va_S.rf hl)
theorem hd_X3_leftByTurn : yX3_leftByTurn.cls ≠ "java/lang/invoke/MethodHandle" ∧ yX3_leftByTurn.cls ≠ "java/lang/invoke/VarHandle" ∧ (parseMethodDescriptor yX3_leftByTurn.desc).map (fun d => d.parameters.length) = some 1 := by decide +kernel
abbrev rm3_leftByTurn : Room := { frames := 1, cells := 0, slots := 0, locals := 32 }
set_option maxHeartbeats 4000000 in
set_option maxRecDepth 100000 in
theorem w3_leftByTurn {p : Program} {l : Launch} {e : Env} {s : State} {m : MethodId} {args : Array Value} {below : List Frame} {meth : Method} {c : Code} {D : va_G} {K : Nat → ClassId} {ad : Nat → Nat} {tL : Nat} (hI : INJ NC ad) (C0 : Cx p s m args meth c RX3 wsX3_leftByTurn cX3_leftByTurn 1 (some .int) (KC D K tL (IW NC ad))) (S : Mem) {r : Int32} : ∀ (x0 : Int32), f3_leftByTurn x0 = some r → ∀ (H : Heap) (locs : List Loc) (ls : Array Slot), va_P D vwCl (wl NC ad (EC K ad S)) H → va_S (IW NC ad) s.heap H locs → lv_has ls 1 [(0, .int x0)] → W p l e rm3_leftByTurn s m args below meth c H locs 0 0 (MQ below (va_Qi (fun (x : Int32) (u : Mem) => x = r ∧ u = S) (fun u t => va_P D vwCl (wl NC ad (EC K ad u)) t.heap) (IW NC ad)) args s 0 0 (IW NC ad)) (F0 m 0 ls []) := by
  have hx := C0.1
  have hb := C0.2.1
  have hts := C0.2.2.2.2.1
  have hown := C0.2.2.2.1
  have hKC := C0.2.2.2.2.2.2.2
  intro x0 hf H locs ls hP hS hl
  rw [f3_leftByTurn] at hf
  refine lv_bipush (v := 9) hx hb dX3_leftByTurn_0 (by decide) ?_
  refine lv_iload_n hx hb dX3_leftByTurn_2 rfl (lv_at hl 0 rfl) ?_
  refine va_mmin hx hb (C0.2.2.1.trans hl.1.symm) hown (hts _ (List.mem_of_getElem? (i := 1) rfl)) (hts _ (List.mem_of_getElem? (i := 2) rfl)) (hts _ (List.mem_of_getElem? (i := 3) rfl)) (hts _ (List.mem_of_getElem? (i := 4) rfl)) (Nat.le_of_ble_eq_true rfl) (Nat.le_of_ble_eq_true rfl) (Nat.le_refl _) (Nat.le_refl _) dX3_leftByTurn_3 ?_
  exact ret_i C0 hP hS (Option.some.inj hf) rfl dX3_leftByTurn_6
theorem m3_leftByTurn (l : Launch) (D : va_G) (K : Nat → ClassId) (ad : Nat → Nat) (tL : Nat) (hI : INJ NC ad) (S : Mem) (x0 : Int32) {r : Int32} (hf : f3_leftByTurn x0 = some r) : SysI l yX3_leftByTurn wsX3_leftByTurn rm3_leftByTurn D NC ad (EC K ad) (KC D K tL (IW NC ad)) [.int x0] S r S :=
  met_of (own := RX3) (by decide) rfl rfl (Nat.le_of_ble_eq_true rfl) (fun _ _ s _ _ _ _ ls C0 _ hP hl => w3_leftByTurn hI C0 S x0 hf s.heap [] ls hP va_S.rf hl)
theorem hd_X3_lead : yX3_lead.cls ≠ "java/lang/invoke/MethodHandle" ∧ yX3_lead.cls ≠ "java/lang/invoke/VarHandle" ∧ (parseMethodDescriptor yX3_lead.desc).map (fun d => d.parameters.length) = some 6 := by decide +kernel
abbrev rm3_lead (n : Nat) : Room := { frames := n + 2, cells := 0, slots := 0, locals := 28 * n + 53 }
set_option maxHeartbeats 4000000 in
set_option maxRecDepth 100000 in
theorem w3_lead {p : Program} {l : Launch} {e : Env} {s : State} {m : MethodId} {args : Array Value} {below : List Frame} {meth : Method} {c : Code} {D : va_G} {K : Nat → ClassId} {ad : Nat → Nat} {tL : Nat} (hI : INJ NC ad) (C0 : Cx p s m args meth c RX3 wsX3_lead cX3_lead 9 (some .int) (KC D K tL (IW NC ad))) (S : Mem) {r : Int32} (n0 : Nat) (ih : ∀ (S : Mem) (x0 : Int32) (x1 : Int32) (x2 : Int32) (x3 : Int32) (x4 : Int32) (x5 : Int32) {r : Int32}, f3_lead n0 x0 x1 x2 x3 x4 x5 = some r → SysI l yX3_lead wsX3_lead (rm3_lead n0) D NC ad (EC K ad) (KC D K tL (IW NC ad)) [.int x0, .int x1, .int x2, .int x3, .int x4, .int x5] S r S) : ∀ (x0 : Int32) (x1 : Int32) (x2 : Int32) (x3 : Int32) (x4 : Int32) (x5 : Int32), f3_lead (n0 + 1) x0 x1 x2 x3 x4 x5 = some r → ∀ (H : Heap) (locs : List Loc) (ls : Array Slot), va_P D vwCl (wl NC ad (EC K ad S)) H → va_S (IW NC ad) s.heap H locs → lv_has ls 9 [(0, .int x0), (1, .int x1), (2, .int x2), (3, .int x3), (4, .int x4), (5, .int x5)] → W p l e (rm3_lead (n0 + 1)) s m args below meth c H locs 0 0 (MQ below (va_Qi (fun (x : Int32) (u : Mem) => x = r ∧ u = S) (fun u t => va_P D vwCl (wl NC ad (EC K ad u)) t.heap) (IW NC ad)) args s 0 0 (IW NC ad)) (F0 m 0 ls []) := by
  have hx := C0.1
  have hb := C0.2.1
  have hts := C0.2.2.2.2.1
  have hown := C0.2.2.2.1
  have hKC := C0.2.2.2.2.2.2.2
  intro x0 x1 x2 x3 x4 x5 hf H locs ls hP hS hl
  rw [f3_lead] at hf
  refine lv_iload hx hb dX3_lead_0 (lv_at hl 5 rfl) ?_
  refine lv_if_gt (tgt := 17) hx hb dX3_lead_2 (by decide) (fun c1 => ?_) (fun c1 => ?_)
  · have hf := ite_t hf c1
    refine lv_iload_n hx hb dX3_lead_17 rfl (lv_at hl 1 rfl) ?_
    refine lv_iload hx hb dX3_lead_18 (lv_at hl 4 rfl) ?_
    obtain ⟨v3, h2, hf⟩ := b1_some hf
    refine sys_i hS (sys_runS (As := [.int x1, .int x4]) (rest := []) C0 KC_ok hP hS (m3_takenByTurn l D K ad tL hI S x1 x4 h2) gX3_lead_X3_takenByTurn rfl ⟨rfl, rfl⟩ hd_X3_takenByTurn ⟨Nat.le_of_ble_eq_true rfl, Nat.le_of_ble_eq_true rfl⟩ hl.1 rfl (Nat.le_of_ble_eq_true rfl) dX3_lead_20 ⟨Nat.le_refl _, Nat.le_refl _⟩) (fun H locs hP hS => ?_)
    refine lv_istore (lv' := [(6, .int v3), (0, .int x0), (1, .int x1), (2, .int x2), (3, .int x3), (4, .int x4), (5, .int x5)]) hx hb dX3_lead_23 hl (by decide) rfl (fun ls hl => ?_)
    refine lv_iload_n hx hb dX3_lead_25 rfl (lv_at hl 2 rfl) ?_
    obtain ⟨v5, h4, hf⟩ := b1_some hf
    refine sys_i hS (sys_runS (As := [.int x1]) (rest := []) C0 KC_ok hP hS (m3_leftByTurn l D K ad tL hI S x1 h4) gX3_lead_X3_leftByTurn rfl ⟨rfl, rfl⟩ hd_X3_leftByTurn ⟨Nat.le_of_ble_eq_true rfl, Nat.le_of_ble_eq_true rfl⟩ hl.1 rfl (Nat.le_of_ble_eq_true rfl) dX3_lead_26 ⟨Nat.le_refl _, Nat.le_refl _⟩) (fun H locs hP hS => ?_)
    refine lv_istore (lv' := [(7, .int v5), (6, .int v3), (0, .int x0), (1, .int x1), (2, .int x2), (3, .int x3), (4, .int x4), (5, .int x5)]) hx hb dX3_lead_29 hl (by decide) rfl (fun ls hl => ?_)
    refine lv_iload_n hx hb dX3_lead_31 rfl (lv_at hl 4 rfl) ?_
    refine lv_iload_n hx hb dX3_lead_32 rfl (lv_at hl 5 rfl) ?_
    refine lv_iload_n hx hb dX3_lead_33 rfl (lv_at hl 2 rfl) ?_
    refine lv_iload_n hx hb dX3_lead_34 rfl (lv_at hl 3 rfl) ?_
    refine lv_iload hx hb dX3_lead_35 (lv_at hl 6 rfl) ?_
    refine lv_iload hx hb dX3_lead_37 (lv_at hl 7 rfl) ?_
    refine lv_iconst (v := 1) hx hb dX3_lead_39 (by decide) ?_
    refine lv_isub hx hb dX3_lead_40 ?_
    obtain ⟨v7, h6, hf⟩ := b1_some hf
    refine sys_i hS (sys_runS (As := [.int x2, .int x3, .int x0, .int x1, .int x4, .int (x5 - 1)]) (rest := []) C0 KC_ok hP hS (ih S x2 x3 x0 x1 x4 (x5 - 1) h6) gX3_lead_X3_lead rfl ⟨rfl, rfl⟩ hd_X3_lead ⟨by simp [rm3_lead], by simp [rm3_lead]; omega⟩ hl.1 rfl (Nat.le_of_ble_eq_true rfl) dX3_lead_41 ⟨Nat.le_refl _, Nat.le_refl _⟩) (fun H locs hP hS => ?_)
    refine lv_ineg hx hb dX3_lead_44 ?_
    refine lv_topi (fun v8 ev8 => ?_)
    have hf := nm_at ev8 hf
    refine lv_istore (lv' := [(8, .int v8), (7, .int v5), (6, .int v3), (0, .int x0), (1, .int x1), (2, .int x2), (3, .int x3), (4, .int x4), (5, .int x5)]) hx hb dX3_lead_45 hl (by decide) rfl (fun ls hl => ?_)
    refine lv_iload hx hb dX3_lead_47 (lv_at hl 0 rfl) ?_
    refine lv_iload_n hx hb dX3_lead_49 rfl (lv_at hl 5 rfl) ?_
    refine lv_iload_n hx hb dX3_lead_50 rfl (lv_at hl 6 rfl) ?_
    refine lv_iload_n hx hb dX3_lead_51 rfl (lv_at hl 3 rfl) ?_
    refine lv_iload_n hx hb dX3_lead_52 rfl (lv_at hl 4 rfl) ?_
    refine lv_iload hx hb dX3_lead_53 (lv_at hl 2 rfl) ?_
    refine lv_iadd hx hb dX3_lead_55 ?_
    refine lv_iload hx hb dX3_lead_56 (lv_at hl 7 rfl) ?_
    refine lv_iload hx hb dX3_lead_58 (lv_at hl 2 rfl) ?_
    refine lv_isub hx hb dX3_lead_60 ?_
    refine lv_iload hx hb dX3_lead_61 (lv_at hl 8 rfl) ?_
    refine lv_iconst (v := 1) hx hb dX3_lead_63 (by decide) ?_
    refine lv_isub hx hb dX3_lead_64 ?_
    obtain ⟨v10, h9, hf⟩ := b1_some hf
    refine sys_i hS (sys_runS (As := [.int x2, .int x3, .int x0, .int (x1 + v3), .int (x4 - v3), .int (x5 - 1)]) (rest := [.int v8]) C0 KC_ok hP hS (ih S x2 x3 x0 (x1 + v3) (x4 - v3) (x5 - 1) h9) gX3_lead_X3_lead rfl ⟨rfl, rfl⟩ hd_X3_lead ⟨by simp [rm3_lead], by simp [rm3_lead]; omega⟩ hl.1 rfl (Nat.le_of_ble_eq_true rfl) dX3_lead_65 ⟨Nat.le_refl _, Nat.le_refl _⟩) (fun H locs hP hS => ?_)
    refine lv_ineg hx hb dX3_lead_68 ?_
    refine va_mmax hx hb (C0.2.2.1.trans hl.1.symm) hown (hts _ (List.mem_of_getElem? (i := 1) rfl)) (hts _ (List.mem_of_getElem? (i := 2) rfl)) (hts _ (List.mem_of_getElem? (i := 3) rfl)) (hts _ (List.mem_of_getElem? (i := 4) rfl)) (Nat.le_of_ble_eq_true rfl) (Nat.le_of_ble_eq_true rfl) (Nat.le_refl _) (Nat.le_refl _) dX3_lead_69 ?_
    refine lv_topi (fun v11 ev11 => ?_)
    have hf := nm_at ev11 hf
    refine lv_istore (lv' := [(8, .int v11), (7, .int v5), (6, .int v3), (0, .int x0), (1, .int x1), (2, .int x2), (3, .int x3), (4, .int x4), (5, .int x5)]) hx hb dX3_lead_72 hl (by decide) rfl (fun ls hl => ?_)
    refine lv_iload hx hb dX3_lead_74 (lv_at hl 0 rfl) ?_
    refine lv_iload_n hx hb dX3_lead_76 rfl (lv_at hl 5 rfl) ?_
    refine lv_iload_n hx hb dX3_lead_77 rfl (lv_at hl 6 rfl) ?_
    refine lv_iload_n hx hb dX3_lead_78 rfl (lv_at hl 3 rfl) ?_
    refine lv_iload_n hx hb dX3_lead_79 rfl (lv_at hl 4 rfl) ?_
    refine lv_iload hx hb dX3_lead_80 (lv_at hl 1 rfl) ?_
    refine lv_isub hx hb dX3_lead_82 ?_
    refine lv_iload hx hb dX3_lead_83 (lv_at hl 7 rfl) ?_
    refine lv_iload hx hb dX3_lead_85 (lv_at hl 1 rfl) ?_
    refine lv_iadd hx hb dX3_lead_87 ?_
    refine lv_iload hx hb dX3_lead_88 (lv_at hl 8 rfl) ?_
    refine lv_iconst (v := 1) hx hb dX3_lead_90 (by decide) ?_
    refine lv_isub hx hb dX3_lead_91 ?_
    obtain ⟨v13, h12, hf⟩ := b1_some hf
    refine sys_i hS (sys_runS (As := [.int x2, .int x3, .int x0, .int (x1 - v5), .int (x4 + v5), .int (x5 - 1)]) (rest := [.int v11]) C0 KC_ok hP hS (ih S x2 x3 x0 (x1 - v5) (x4 + v5) (x5 - 1) h12) gX3_lead_X3_lead rfl ⟨rfl, rfl⟩ hd_X3_lead ⟨by simp [rm3_lead], by simp [rm3_lead]; omega⟩ hl.1 rfl (Nat.le_of_ble_eq_true rfl) dX3_lead_92 ⟨Nat.le_refl _, Nat.le_refl _⟩) (fun H locs hP hS => ?_)
    refine lv_ineg hx hb dX3_lead_95 ?_
    refine va_mmax hx hb (C0.2.2.1.trans hl.1.symm) hown (hts _ (List.mem_of_getElem? (i := 1) rfl)) (hts _ (List.mem_of_getElem? (i := 2) rfl)) (hts _ (List.mem_of_getElem? (i := 3) rfl)) (hts _ (List.mem_of_getElem? (i := 4) rfl)) (Nat.le_of_ble_eq_true rfl) (Nat.le_of_ble_eq_true rfl) (Nat.le_refl _) (Nat.le_refl _) dX3_lead_96 ?_
    exact ret_i C0 hP hS (Option.some.inj hf) rfl dX3_lead_99
  · have hf := ite_f hf c1
    refine lv_iload_n hx hb dX3_lead_5 rfl (lv_at hl 0 rfl) ?_
    refine lv_iload_n hx hb dX3_lead_6 rfl (lv_at hl 1 rfl) ?_
    obtain ⟨v15, h14, hf⟩ := b1_some hf
    refine sys_i hS (sys_runS (As := [.int x0, .int x1]) (rest := []) C0 KC_ok hP hS (m3_worthTo l D K ad tL hI S x0 x1 h14) gX3_lead_X3_worthTo rfl ⟨rfl, rfl⟩ hd_X3_worthTo ⟨Nat.le_of_ble_eq_true rfl, Nat.le_of_ble_eq_true rfl⟩ hl.1 rfl (Nat.le_of_ble_eq_true rfl) dX3_lead_7 ⟨Nat.le_refl _, Nat.le_refl _⟩) (fun H locs hP hS => ?_)
    refine lv_iload_n hx hb dX3_lead_10 rfl (lv_at hl 2 rfl) ?_
    refine lv_iload_n hx hb dX3_lead_11 rfl (lv_at hl 3 rfl) ?_
    obtain ⟨v17, h16, hf⟩ := b1_some hf
    refine sys_i hS (sys_runS (As := [.int x2, .int x3]) (rest := [.int v15]) C0 KC_ok hP hS (m3_worthTo l D K ad tL hI S x2 x3 h16) gX3_lead_X3_worthTo rfl ⟨rfl, rfl⟩ hd_X3_worthTo ⟨Nat.le_of_ble_eq_true rfl, Nat.le_of_ble_eq_true rfl⟩ hl.1 rfl (Nat.le_of_ble_eq_true rfl) dX3_lead_12 ⟨Nat.le_refl _, Nat.le_refl _⟩) (fun H locs hP hS => ?_)
    refine lv_isub hx hb dX3_lead_15 ?_
    exact ret_i C0 hP hS (Option.some.inj hf) rfl dX3_lead_16
theorem m3_lead (l : Launch) (D : va_G) (K : Nat → ClassId) (ad : Nat → Nat) (tL : Nat) (hI : INJ NC ad) : ∀ (n : Nat), ∀ (S : Mem) (x0 : Int32) (x1 : Int32) (x2 : Int32) (x3 : Int32) (x4 : Int32) (x5 : Int32) {r : Int32}, f3_lead n x0 x1 x2 x3 x4 x5 = some r → SysI l yX3_lead wsX3_lead (rm3_lead n) D NC ad (EC K ad) (KC D K tL (IW NC ad)) [.int x0, .int x1, .int x2, .int x3, .int x4, .int x5] S r S := by
  intro n
  induction n with
  | zero =>
    intro S x0 x1 x2 x3 x4 x5 r hf
    rw [f3_lead] at hf
    cases hf
  | succ n ih =>
    intro S x0 x1 x2 x3 x4 x5 r hf
    exact met_of (own := RX3) (by decide) rfl rfl (Nat.le_of_ble_eq_true rfl) (fun _ _ s _ _ _ _ ls C0 _ hP hl => w3_lead hI C0 S n (fun S x0 x1 x2 x3 x4 x5 r hf => ih S x0 x1 x2 x3 x4 x5 hf) x0 x1 x2 x3 x4 x5 hf s.heap [] ls hP va_S.rf hl)
theorem in_X3_duel_X3 : ∀ w ∈ wsX30, w ∈ wsX3_duel := fun _ h => List.mem_cons_of_mem _ (List.mem_append_left _ (List.mem_append_left _ (List.mem_append_left _ (List.mem_append_right _ h))))
theorem in_X3_duel_X0 : ∀ w ∈ wsX00, w ∈ wsX3_duel := fun _ h => List.mem_cons_of_mem _ (List.mem_append_left _ (List.mem_append_left _ (List.mem_append_right _ h)))
theorem in_X3_duel_X1 : ∀ w ∈ wsX10, w ∈ wsX3_duel := fun _ h => List.mem_cons_of_mem _ (List.mem_append_left _ (List.mem_append_right _ h))
theorem in_X3_duel_X2 : ∀ w ∈ wsX20, w ∈ wsX3_duel := fun _ h => List.mem_cons_of_mem _ (List.mem_append_right _ h)
theorem hd_X3_duel : yX3_duel.cls = RX3 ∧ yX3_duel.cls ≠ "java/lang/invoke/MethodHandle" ∧ yX3_duel.cls ≠ "java/lang/invoke/VarHandle" ∧ (parseMethodDescriptor yX3_duel.desc).map (fun d => d.parameters.length) = some 3 := by decide +kernel
abbrev rm3_duel : Room := { frames := 11, cells := 0, slots := 0, locals := 305 }
set_option maxHeartbeats 4000000 in
set_option maxRecDepth 100000 in
theorem w3_duel {p : Program} {l : Launch} {e : Env} {s : State} {m : MethodId} {args : Array Value} {below : List Frame} {meth : Method} {c : Code} {D : va_G} {K : Nat → ClassId} {ad : Nat → Nat} {tL : Nat} (hI : INJ NC ad) (C0 : Cx p s m args meth c RX3 wsX3_duel cX3_duel 5 (some .int) (KC D K tL (IW NC ad))) (S : Mem) {r : Int32} : ∀ (x1 : Int32) (x2 : Int32) (x3 : Int32), f3_duel S x1 x2 x3 = some r → ∀ (H : Heap) (locs : List Loc) (ls : Array Slot), va_P D vwCl (wl NC ad (EC K ad S)) H → va_S (IW NC ad) s.heap H locs → lv_has ls 5 [(0, .ref (ad 0)), (1, .int x1), (2, .int x2), (3, .int x3)] → W p l e rm3_duel s m args below meth c H locs 0 0 (MQ below (va_Qi (fun (x : Int32) (u : Mem) => x = r ∧ u = S) (fun u t => va_P D vwCl (wl NC ad (EC K ad u)) t.heap) (IW NC ad)) args s 0 0 (IW NC ad)) (F0 m 0 ls []) := by
  have hx := C0.1
  have hb := C0.2.1
  have hts := C0.2.2.2.2.1
  have hown := C0.2.2.2.1
  have hKC := C0.2.2.2.2.2.2.2
  intro x1 x2 x3 hf H locs ls hP hS hl
  rw [f3_duel] at hf
  refine lv_aload_n hx hb dX3_duel_0 rfl (lv_at hl 0 rfl) ?_
  refine lv_iload_n hx hb dX3_duel_1 rfl (lv_at hl 1 rfl) ?_
  obtain ⟨v2, h1, hf⟩ := b1_some hf
  refine sys_i hS (sys_runV (As := [.int x1]) (rest := []) C0 KC_ok hKC.1 hP hS (by decide) (EC_0 K ad S) rfl (m3_isHouse l D K ad tL hI S x1 h1) gX3_duel_X3_isHouse rfl ⟨rfl, rfl⟩ hd_X3_isHouse ⟨Nat.le_of_ble_eq_true rfl, Nat.le_of_ble_eq_true rfl⟩ hl.1 rfl (Nat.le_of_ble_eq_true rfl) dX3_duel_2 ⟨Nat.le_refl _, Nat.le_refl _⟩) (fun H locs hP hS => ?_)
  refine lv_if_eq (tgt := 31) hx hb dX3_duel_5 (by decide) (fun c3 => ?_) (fun c3 => ?_)
  · have hf := ite_t hf c3
    refine lv_iconst (v := (-1)) hx hb dX3_duel_31 (by decide) ?_
    exact ret_i C0 hP hS (Option.some.inj hf) rfl dX3_duel_32
  · have hf := ite_f hf c3
    refine lv_aload_n hx hb dX3_duel_8 rfl (lv_at hl 0 rfl) ?_
    refine lv_iload_n hx hb dX3_duel_9 rfl (lv_at hl 2 rfl) ?_
    obtain ⟨v5, h4, hf⟩ := b1_some hf
    refine sys_i hS (sys_runV (As := [.int x2]) (rest := []) C0 KC_ok hKC.1 hP hS (by decide) (EC_0 K ad S) rfl (m3_isHouse l D K ad tL hI S x2 h4) gX3_duel_X3_isHouse rfl ⟨rfl, rfl⟩ hd_X3_isHouse ⟨Nat.le_of_ble_eq_true rfl, Nat.le_of_ble_eq_true rfl⟩ hl.1 rfl (Nat.le_of_ble_eq_true rfl) dX3_duel_10 ⟨Nat.le_refl _, Nat.le_refl _⟩) (fun H locs hP hS => ?_)
    refine lv_if_eq (tgt := 31) hx hb dX3_duel_13 (by decide) (fun c6 => ?_) (fun c6 => ?_)
    · have hf := ite_t hf c6
      refine lv_iconst (v := (-1)) hx hb dX3_duel_31 (by decide) ?_
      exact ret_i C0 hP hS (Option.some.inj hf) rfl dX3_duel_32
    · have hf := ite_f hf c6
      refine lv_iload_n hx hb dX3_duel_16 rfl (lv_at hl 1 rfl) ?_
      refine lv_iload_n hx hb dX3_duel_17 rfl (lv_at hl 2 rfl) ?_
      refine lv_icmp_eq (tgt := 31) hx hb dX3_duel_18 (by decide) (fun c7 => ?_) (fun c7 => ?_)
      · have hf := ite_t hf c7
        refine lv_iconst (v := (-1)) hx hb dX3_duel_31 (by decide) ?_
        exact ret_i C0 hP hS (Option.some.inj hf) rfl dX3_duel_32
      · have hf := ite_f hf c7
        refine lv_iload_n hx hb dX3_duel_21 rfl (lv_at hl 3 rfl) ?_
        refine lv_if_lt (tgt := 31) hx hb dX3_duel_22 (by decide) (fun c8 => ?_) (fun c8 => ?_)
        · have hf := ite_t hf c8
          refine lv_iconst (v := (-1)) hx hb dX3_duel_31 (by decide) ?_
          exact ret_i C0 hP hS (Option.some.inj hf) rfl dX3_duel_32
        · have hf := ite_f hf c8
          refine lv_iload_n hx hb dX3_duel_25 rfl (lv_at hl 3 rfl) ?_
          refine lv_bipush (v := 6) hx hb dX3_duel_26 (by decide) ?_
          refine lv_icmp_le (tgt := 33) hx hb dX3_duel_28 (by decide) (fun c9 => ?_) (fun c9 => ?_)
          · have hf := ite_t hf c9
            refine lv_aload_n hx hb dX3_duel_33 rfl (lv_at hl 0 rfl) ?_
            refine x_get C0 hKC.1 hP (by decide) (EC_0 K ad S) rfl in_X3_duel_X3 5 (by decide) (List.mem_of_getElem? (i := 1) rfl) rfl dX3_duel_34 ?_
            obtain ⟨q11, h10, hf⟩ := b1_some hf
            obtain ⟨g12, hf⟩ := gd_some hf
            refine sys_r hS (sys_runV (As := []) (rest := []) C0 KC_ok hKC.1 hP hS (ltS (by decide : 0 < 4)) (EC_S K ad S (by decide : 0 < 4)) rfl (m2_now l D K ad tL hI S 0 (by decide : 0 < 4) h10) gX3_duel_X2_now rfl ⟨rfl, rfl⟩ hd_X2_now ⟨Nat.le_of_ble_eq_true rfl, Nat.le_of_ble_eq_true rfl⟩ hl.1 rfl (Nat.le_of_ble_eq_true rfl) dX3_duel_37 ⟨Nat.le_refl _, Nat.le_refl _⟩) (fun H locs hP hS => ?_)
            refine lv_astore (lv' := [(4, .ref (ad (30 + q11))), (0, .ref (ad 0)), (1, .int x1), (2, .int x2), (3, .int x3)]) hx hb dX3_duel_40 hl (by decide) rfl (fun ls hl => ?_)
            refine lv_sipush (v := 500) hx hb dX3_duel_42 (by decide) ?_
            refine lv_aload_n hx hb dX3_duel_45 rfl (lv_at hl 1 rfl) ?_
            refine x_get C0 hKC.1 hP (by decide) (EC_0 K ad S) rfl in_X3_duel_X3 4 (by decide) (List.mem_of_getElem? (i := 2) rfl) rfl dX3_duel_46 ?_
            refine x_get C0 hKC.1 hP (by decide) (EC_H K ad S) rfl in_X3_duel_X0 0 (by decide) (List.mem_of_getElem? (i := 3) rfl) rfl dX3_duel_49 ?_
            refine lv_iload_n hx hb dX3_duel_52 rfl (lv_at hl 2 rfl) ?_
            obtain ⟨g13, hf⟩ := gd_some hf
            refine x_iald C0 hKC.1 hP (IC_16 K ad) (t0 := 0) rfl g13 dX3_duel_53 ?_
            refine lv_aload hx hb dX3_duel_54 (lv_at hl 0 rfl) ?_
            refine x_get C0 hKC.1 hP (ltM (of_decide_eq_true g12)) (EC_M K ad S (of_decide_eq_true g12)) rfl in_X3_duel_X1 0 (by decide) (List.mem_of_getElem? (i := 4) rfl) rfl dX3_duel_56 ?_
            refine lv_iload_n hx hb dX3_duel_59 rfl (lv_at hl 2 rfl) ?_
            obtain ⟨g14, hf⟩ := gd_some hf
            refine x_iald C0 hKC.1 hP (IC_jar K ad (of_decide_eq_true g12)) (t0 := 0) rfl g14 dX3_duel_60 ?_
            refine lv_aload_n hx hb dX3_duel_61 rfl (lv_at hl 1 rfl) ?_
            refine x_get C0 hKC.1 hP (by decide) (EC_0 K ad S) rfl in_X3_duel_X3 4 (by decide) (List.mem_of_getElem? (i := 2) rfl) rfl dX3_duel_62 ?_
            refine x_get C0 hKC.1 hP (by decide) (EC_H K ad S) rfl in_X3_duel_X0 0 (by decide) (List.mem_of_getElem? (i := 3) rfl) rfl dX3_duel_65 ?_
            refine lv_iload_n hx hb dX3_duel_68 rfl (lv_at hl 3 rfl) ?_
            obtain ⟨g15, hf⟩ := gd_some hf
            refine x_iald C0 hKC.1 hP (IC_16 K ad) (t0 := 0) rfl g15 dX3_duel_69 ?_
            refine lv_aload hx hb dX3_duel_70 (lv_at hl 0 rfl) ?_
            refine x_get C0 hKC.1 hP (ltM (of_decide_eq_true g12)) (EC_M K ad S (of_decide_eq_true g12)) rfl in_X3_duel_X1 0 (by decide) (List.mem_of_getElem? (i := 4) rfl) rfl dX3_duel_72 ?_
            refine lv_iload_n hx hb dX3_duel_75 rfl (lv_at hl 3 rfl) ?_
            obtain ⟨g16, hf⟩ := gd_some hf
            refine x_iald C0 hKC.1 hP (IC_jar K ad (of_decide_eq_true g12)) (t0 := 0) rfl g16 dX3_duel_76 ?_
            refine lv_aload hx hb dX3_duel_77 (lv_at hl 0 rfl) ?_
            refine x_get C0 hKC.1 hP (ltM (of_decide_eq_true g12)) (EC_M K ad S (of_decide_eq_true g12)) rfl in_X3_duel_X1 2 (by decide) (List.mem_of_getElem? (i := 5) rfl) rfl dX3_duel_79 ?_
            refine lv_iload_n hx hb dX3_duel_82 rfl (lv_at hl 4 rfl) ?_
            obtain ⟨v18, h17, hf⟩ := b1_some hf
            refine sys_i hS (sys_runS (As := [.int (gi S 16 (ix x1)), .int (gi S (195 + q11) (ix x1)), .int (gi S 16 (ix x2)), .int (gi S (195 + q11) (ix x2)), .int (gi S (30 + q11) 2), .int x3]) (rest := [.int 500]) C0 KC_ok hP hS (m3_lead l D K ad tL hI 8 S (gi S 16 (ix x1)) (gi S (195 + q11) (ix x1)) (gi S 16 (ix x2)) (gi S (195 + q11) (ix x2)) (gi S (30 + q11) 2) x3 h17) gX3_duel_X3_lead rfl ⟨rfl, rfl⟩ hd_X3_lead ⟨Nat.le_of_ble_eq_true rfl, Nat.le_of_ble_eq_true rfl⟩ hl.1 rfl (Nat.le_of_ble_eq_true rfl) dX3_duel_83 ⟨Nat.le_refl _, Nat.le_refl _⟩) (fun H locs hP hS => ?_)
            refine lv_iadd hx hb dX3_duel_86 ?_
            exact ret_i C0 hP hS (Option.some.inj hf) rfl dX3_duel_87
          · have hf := ite_f hf c9
            refine lv_iconst (v := (-1)) hx hb dX3_duel_31 (by decide) ?_
            exact ret_i C0 hP hS (Option.some.inj hf) rfl dX3_duel_32
theorem m3_duel (l : Launch) (D : va_G) (K : Nat → ClassId) (ad : Nat → Nat) (tL : Nat) (hI : INJ NC ad) (S : Mem) (x1 : Int32) (x2 : Int32) (x3 : Int32) {r : Int32} (hf : f3_duel S x1 x2 x3 = some r) : SysI l yX3_duel wsX3_duel rm3_duel D NC ad (EC K ad) (KC D K tL (IW NC ad)) [.ref (ad 0), .int x1, .int x2, .int x3] S r S :=
  met_of (own := RX3) (by decide) rfl rfl (Nat.le_of_ble_eq_true rfl) (fun _ _ s _ _ _ _ ls C0 _ hP hl => w3_duel hI C0 S x1 x2 x3 hf s.heap [] ls hP va_S.rf hl)
theorem hd_X3_isTwelfths : yX3_isTwelfths.cls ≠ "java/lang/invoke/MethodHandle" ∧ yX3_isTwelfths.cls ≠ "java/lang/invoke/VarHandle" ∧ (parseMethodDescriptor yX3_isTwelfths.desc).map (fun d => d.parameters.length) = some 1 := by decide +kernel
abbrev rm3_isTwelfths : Room := { frames := 0, cells := 0, slots := 0, locals := 0 }
set_option maxHeartbeats 4000000 in
set_option maxRecDepth 100000 in
theorem w3_isTwelfths {p : Program} {l : Launch} {e : Env} {s : State} {m : MethodId} {args : Array Value} {below : List Frame} {meth : Method} {c : Code} {D : va_G} {K : Nat → ClassId} {ad : Nat → Nat} {tL : Nat} (hI : INJ NC ad) (C0 : Cx p s m args meth c RX3 wsX3_isTwelfths cX3_isTwelfths 1 (some .boolean) (KC D K tL (IW NC ad))) (S : Mem) {r : Int32} : ∀ (x0 : Int32), f3_isTwelfths x0 = some r → ∀ (H : Heap) (locs : List Loc) (ls : Array Slot), va_P D vwCl (wl NC ad (EC K ad S)) H → va_S (IW NC ad) s.heap H locs → lv_has ls 1 [(0, .int x0)] → W p l e rm3_isTwelfths s m args below meth c H locs 0 0 (MQ below (va_Qi (fun (x : Int32) (u : Mem) => x = r ∧ u = S) (fun u t => va_P D vwCl (wl NC ad (EC K ad u)) t.heap) (IW NC ad)) args s 0 0 (IW NC ad)) (F0 m 0 ls []) := by
  have hx := C0.1
  have hb := C0.2.1
  have hts := C0.2.2.2.2.1
  have hown := C0.2.2.2.1
  have hKC := C0.2.2.2.2.2.2.2
  intro x0 hf H locs ls hP hS hl
  rw [f3_isTwelfths] at hf
  refine lv_iload_n hx hb dX3_isTwelfths_0 rfl (lv_at hl 0 rfl) ?_
  refine lv_if_lt (tgt := 14) hx hb dX3_isTwelfths_1 (by decide) (fun c1 => ?_) (fun c1 => ?_)
  · have hf := ite_t hf c1
    refine lv_iconst (v := 0) hx hb dX3_isTwelfths_14 (by decide) ?_
    exact ret_z C0 hP hS (Or.inl rfl) (Option.some.inj hf) rfl dX3_isTwelfths_15
  · have hf := ite_f hf c1
    refine lv_iload_n hx hb dX3_isTwelfths_4 rfl (lv_at hl 0 rfl) ?_
    refine lv_bipush (v := 12) hx hb dX3_isTwelfths_5 (by decide) ?_
    refine lv_icmp_gt (tgt := 14) hx hb dX3_isTwelfths_7 (by decide) (fun c2 => ?_) (fun c2 => ?_)
    · have hf := ite_t hf c2
      refine lv_iconst (v := 0) hx hb dX3_isTwelfths_14 (by decide) ?_
      exact ret_z C0 hP hS (Or.inl rfl) (Option.some.inj hf) rfl dX3_isTwelfths_15
    · have hf := ite_f hf c2
      refine lv_iconst (v := 1) hx hb dX3_isTwelfths_10 (by decide) ?_
      refine lv_goto (tgt := 15) hx hb dX3_isTwelfths_11 (by decide) ?_
      exact ret_z C0 hP hS (Or.inr rfl) (Option.some.inj hf) rfl dX3_isTwelfths_15
theorem m3_isTwelfths (l : Launch) (D : va_G) (K : Nat → ClassId) (ad : Nat → Nat) (tL : Nat) (hI : INJ NC ad) (S : Mem) (x0 : Int32) {r : Int32} (hf : f3_isTwelfths x0 = some r) : SysI l yX3_isTwelfths wsX3_isTwelfths rm3_isTwelfths D NC ad (EC K ad) (KC D K tL (IW NC ad)) [.int x0] S r S :=
  met_of (own := RX3) (by decide) rfl rfl (Nat.le_of_ble_eq_true rfl) (fun _ _ s _ _ _ _ ls C0 _ hP hl => w3_isTwelfths hI C0 S x0 hf s.heap [] ls hP va_S.rf hl)
theorem in_X3_partOf_X3 : ∀ w ∈ wsX30, w ∈ wsX3_partOf := fun _ h => List.mem_cons_of_mem _ (List.mem_append_left _ (List.mem_append_right _ h))
theorem in_X3_partOf_X0 : ∀ w ∈ wsX00, w ∈ wsX3_partOf := fun _ h => List.mem_cons_of_mem _ (List.mem_append_right _ h)
theorem hd_X3_partOf : yX3_partOf.cls = RX3 ∧ yX3_partOf.cls ≠ "java/lang/invoke/MethodHandle" ∧ yX3_partOf.cls ≠ "java/lang/invoke/VarHandle" ∧ (parseMethodDescriptor yX3_partOf.desc).map (fun d => d.parameters.length) = some 2 := by decide +kernel
abbrev rm3_partOf : Room := { frames := 1, cells := 0, slots := 0, locals := 21 }
set_option maxHeartbeats 4000000 in
set_option maxRecDepth 100000 in
theorem w3_partOf_b37 {p : Program} {l : Launch} {e : Env} {s : State} {m : MethodId} {args : Array Value} {below : List Frame} {meth : Method} {c : Code} {D : va_G} {K : Nat → ClassId} {ad : Nat → Nat} {tL : Nat} (hI : INJ NC ad) (C0 : Cx p s m args meth c RX3 wsX3_partOf cX3_partOf 6 (some .long) (KC D K tL (IW NC ad))) (S : Mem) {r : Int64} (k5 : Int32 → Int32 → Int64 → Int32 → Option Int64) (hk5 : ∀ (x1 : Int32) (x2 : Int32) (x3 : Int64) (x5 : Int32), k5 x1 x2 x3 x5 = some r → ∀ (H : Heap) (locs : List Loc) (ls : Array Slot), va_P D vwCl (wl NC ad (EC K ad S)) H → va_S (IW NC ad) s.heap H locs → lv_has ls 6 [(0, .ref (ad 0)), (1, .int x1), (2, .int x2), (3, .long x3), (5, .int x5)] → W p l e rm3_partOf s m args below meth c H locs 0 0 (MQ below (va_Ql (fun (x : Int64) (u : Mem) => x = r ∧ u = S) (fun u t => va_P D vwCl (wl NC ad (EC K ad u)) t.heap) (IW NC ad)) args s 0 0 (IW NC ad)) (F0 m 5 ls [])) : ∀ (x1 : Int32) (x2 : Int32) (x5 : Int32) (t0 : Int64) (t1 : Int64), f3_partOf_b37 k5 S x1 x2 x5 t0 t1 = some r → ∀ (H : Heap) (locs : List Loc) (ls : Array Slot), va_P D vwCl (wl NC ad (EC K ad S)) H → va_S (IW NC ad) s.heap H locs → lv_has ls 6 [(0, .ref (ad 0)), (1, .int x1), (2, .int x2), (5, .int x5)] → W p l e rm3_partOf s m args below meth c H locs 0 0 (MQ below (va_Ql (fun (x : Int64) (u : Mem) => x = r ∧ u = S) (fun u t => va_P D vwCl (wl NC ad (EC K ad u)) t.heap) (IW NC ad)) args s 0 0 (IW NC ad)) (F0 m 37 ls [.long t1, .long t0]) := by
  have hx := C0.1
  have hb := C0.2.1
  have hts := C0.2.2.2.2.1
  have hown := C0.2.2.2.1
  have hKC := C0.2.2.2.2.2.2.2
  intro x1 x2 x5 t0 t1 hf H locs ls hP hS hl
  rw [f3_partOf_b37] at hf
  refine lv_lmul hx hb dX3_partOf_37 ?_
  refine lv_topl (fun v1 ev1 => ?_)
  have hf := nm_at ev1 hf
  refine lv_lstore_n (lv' := [(3, .long v1), (0, .ref (ad 0)), (1, .int x1), (2, .int x2), (5, .int x5)]) hx hb dX3_partOf_38 rfl hl (by decide) rfl (fun ls hl => ?_)
  obtain ⟨v2, ev2⟩ : ∃ y : Int32, y = x5 + 1 := ⟨_, rfl⟩
  have hf := nm_at ev2 hf
  refine lv_iinc (v := v2) (lv' := [(5, .int v2), (3, .long v1), (0, .ref (ad 0)), (1, .int x1), (2, .int x2)]) hx hb dX3_partOf_39 hl (k := 4) rfl (by rw [ev2]; rfl) (by decide) rfl (fun ls hl => ?_)
  refine lv_goto (tgt := 5) hx hb dX3_partOf_42 (by decide) ?_
  exact hk5 x1 x2 v1 v2 hf H locs ls hP hS (lv_sub hl [2, 3, 4, 1, 0] rfl)
set_option maxHeartbeats 4000000 in
set_option maxRecDepth 100000 in
theorem w3_partOf_b5 {p : Program} {l : Launch} {e : Env} {s : State} {m : MethodId} {args : Array Value} {below : List Frame} {meth : Method} {c : Code} {D : va_G} {K : Nat → ClassId} {ad : Nat → Nat} {tL : Nat} (hI : INJ NC ad) (C0 : Cx p s m args meth c RX3 wsX3_partOf cX3_partOf 6 (some .long) (KC D K tL (IW NC ad))) (S : Mem) {r : Int64} : ∀ (n : Nat), ∀ (x1 : Int32) (x2 : Int32) (x3 : Int64) (x5 : Int32), f3_partOf_b5 S n x1 x2 x3 x5 = some r → ∀ (H : Heap) (locs : List Loc) (ls : Array Slot), va_P D vwCl (wl NC ad (EC K ad S)) H → va_S (IW NC ad) s.heap H locs → lv_has ls 6 [(0, .ref (ad 0)), (1, .int x1), (2, .int x2), (3, .long x3), (5, .int x5)] → W p l e rm3_partOf s m args below meth c H locs 0 0 (MQ below (va_Ql (fun (x : Int64) (u : Mem) => x = r ∧ u = S) (fun u t => va_P D vwCl (wl NC ad (EC K ad u)) t.heap) (IW NC ad)) args s 0 0 (IW NC ad)) (F0 m 5 ls []) := by
  have hx := C0.1
  have hb := C0.2.1
  have hts := C0.2.2.2.2.1
  have hown := C0.2.2.2.1
  have hKC := C0.2.2.2.2.2.2.2
  intro n
  induction n with
  | zero =>
    intro x1 x2 x3 x5 hf
    rw [f3_partOf_b5] at hf
    cases hf
  | succ n ih =>
    intro x1 x2 x3 x5 hf H locs ls hP hS hl
    rw [f3_partOf_b5] at hf
    refine lv_iload hx hb dX3_partOf_5 (lv_at hl 4 rfl) ?_
    refine lv_aload_n hx hb dX3_partOf_7 rfl (lv_at hl 0 rfl) ?_
    refine x_get C0 hKC.1 hP (by decide) (EC_0 K ad S) rfl in_X3_partOf_X3 4 (by decide) (List.mem_of_getElem? (i := 1) rfl) rfl dX3_partOf_8 ?_
    refine x_get C0 hKC.1 hP (by decide) (EC_H K ad S) rfl in_X3_partOf_X0 3 (by decide) (List.mem_of_getElem? (i := 2) rfl) rfl dX3_partOf_11 ?_
    refine lv_icmp_ge (tgt := 45) hx hb dX3_partOf_14 (by decide) (fun c1 => ?_) (fun c1 => ?_)
    · have hf := ite_t hf c1
      refine lv_lload_n hx hb dX3_partOf_45 rfl (lv_at hl 3 rfl) ?_
      exact ret_l C0 hP hS (Option.some.inj hf) rfl dX3_partOf_46
    · have hf := ite_f hf c1
      refine lv_lload_n hx hb dX3_partOf_17 rfl (lv_at hl 3 rfl) ?_
      refine lv_iload_n hx hb dX3_partOf_18 rfl (lv_at hl 1 rfl) ?_
      refine lv_iload hx hb dX3_partOf_19 (lv_at hl 4 rfl) ?_
      obtain ⟨v3, h2, hf⟩ := b1_some hf
      refine sys_i hS (sys_runS (As := [.int x1, .int x5]) (rest := [.long x3]) C0 KC_ok hP hS (m3_has l D K ad tL hI S x1 x5 h2) gX3_partOf_X3_has rfl ⟨rfl, rfl⟩ hd_X3_has ⟨Nat.le_of_ble_eq_true rfl, Nat.le_of_ble_eq_true rfl⟩ hl.1 rfl (Nat.le_of_ble_eq_true rfl) dX3_partOf_21 ⟨Nat.le_refl _, Nat.le_refl _⟩) (fun H locs hP hS => ?_)
      refine lv_if_eq (tgt := 32) hx hb dX3_partOf_24 (by decide) (fun c4 => ?_) (fun c4 => ?_)
      · have hf := ite_t hf c4
        refine lv_bipush (v := 12) hx hb dX3_partOf_32 (by decide) ?_
        refine lv_iload_n hx hb dX3_partOf_34 rfl (lv_at hl 2 rfl) ?_
        refine lv_isub hx hb dX3_partOf_35 ?_
        refine lv_i2l (v := (Int32.toInt64 (12 - x2))) hx hb dX3_partOf_36 rfl ?_
        exact w3_partOf_b37 hI C0 S (f3_partOf_b5 S n) ih x1 x2 x5 x3 (Int32.toInt64 (12 - x2)) hf H locs ls hP hS (lv_sub hl [0, 1, 2, 4] rfl)
      · have hf := ite_f hf c4
        refine lv_iload_n hx hb dX3_partOf_27 rfl (lv_at hl 2 rfl) ?_
        refine lv_i2l (v := (Int32.toInt64 x2)) hx hb dX3_partOf_28 rfl ?_
        refine lv_goto (tgt := 37) hx hb dX3_partOf_29 (by decide) ?_
        exact w3_partOf_b37 hI C0 S (f3_partOf_b5 S n) ih x1 x2 x5 x3 (Int32.toInt64 x2) hf H locs ls hP hS (lv_sub hl [0, 1, 2, 4] rfl)
set_option maxHeartbeats 4000000 in
set_option maxRecDepth 100000 in
theorem w3_partOf {p : Program} {l : Launch} {e : Env} {s : State} {m : MethodId} {args : Array Value} {below : List Frame} {meth : Method} {c : Code} {D : va_G} {K : Nat → ClassId} {ad : Nat → Nat} {tL : Nat} (hI : INJ NC ad) (C0 : Cx p s m args meth c RX3 wsX3_partOf cX3_partOf 6 (some .long) (KC D K tL (IW NC ad))) (S : Mem) {r : Int64} : ∀ (x1 : Int32) (x2 : Int32), f3_partOf S x1 x2 = some r → ∀ (H : Heap) (locs : List Loc) (ls : Array Slot), va_P D vwCl (wl NC ad (EC K ad S)) H → va_S (IW NC ad) s.heap H locs → lv_has ls 6 [(0, .ref (ad 0)), (1, .int x1), (2, .int x2)] → W p l e rm3_partOf s m args below meth c H locs 0 0 (MQ below (va_Ql (fun (x : Int64) (u : Mem) => x = r ∧ u = S) (fun u t => va_P D vwCl (wl NC ad (EC K ad u)) t.heap) (IW NC ad)) args s 0 0 (IW NC ad)) (F0 m 0 ls []) := by
  have hx := C0.1
  have hb := C0.2.1
  have hts := C0.2.2.2.2.1
  have hown := C0.2.2.2.1
  have hKC := C0.2.2.2.2.2.2.2
  intro x1 x2 hf H locs ls hP hS hl
  rw [f3_partOf] at hf
  refine lv_lconst (v := 1) hx hb dX3_partOf_0 (by decide) ?_
  refine lv_lstore_n (lv' := [(3, .long 1), (0, .ref (ad 0)), (1, .int x1), (2, .int x2)]) hx hb dX3_partOf_1 rfl hl (by decide) rfl (fun ls hl => ?_)
  refine lv_iconst (v := 0) hx hb dX3_partOf_2 (by decide) ?_
  refine lv_istore (lv' := [(5, .int 0), (3, .long 1), (0, .ref (ad 0)), (1, .int x1), (2, .int x2)]) hx hb dX3_partOf_3 hl (by decide) rfl (fun ls hl => ?_)
  exact w3_partOf_b5 hI C0 S FU x1 x2 1 0 hf H locs ls hP hS (lv_sub hl [2, 3, 4, 1, 0] rfl)
theorem m3_partOf (l : Launch) (D : va_G) (K : Nat → ClassId) (ad : Nat → Nat) (tL : Nat) (hI : INJ NC ad) (S : Mem) (x1 : Int32) (x2 : Int32) {r : Int64} (hf : f3_partOf S x1 x2 = some r) : SysL l yX3_partOf wsX3_partOf rm3_partOf D NC ad (EC K ad) (KC D K tL (IW NC ad)) [.ref (ad 0), .int x1, .int x2] S r S :=
  met_of (own := RX3) (by decide) rfl rfl (Nat.le_of_ble_eq_true rfl) (fun _ _ s _ _ _ _ ls C0 _ hP hl => w3_partOf hI C0 S x1 x2 hf s.heap [] ls hP va_S.rf hl)
theorem in_X3_worksWithIdle_X3 : ∀ w ∈ wsX30, w ∈ wsX3_worksWithIdle := fun _ h => List.mem_cons_of_mem _ (List.mem_append_left _ (List.mem_append_left _ (List.mem_append_left _ (List.mem_append_right _ h))))
theorem in_X3_worksWithIdle_X0 : ∀ w ∈ wsX00, w ∈ wsX3_worksWithIdle := fun _ h => List.mem_cons_of_mem _ (List.mem_append_left _ (List.mem_append_left _ (List.mem_append_right _ h)))
theorem in_X3_worksWithIdle_X1 : ∀ w ∈ wsX10, w ∈ wsX3_worksWithIdle := fun _ h => List.mem_cons_of_mem _ (List.mem_append_left _ (List.mem_append_right _ h))
theorem in_X3_worksWithIdle_X2 : ∀ w ∈ wsX20, w ∈ wsX3_worksWithIdle := fun _ h => List.mem_cons_of_mem _ (List.mem_append_right _ h)
theorem hd_X3_worksWithIdle : yX3_worksWithIdle.cls = RX3 ∧ yX3_worksWithIdle.cls ≠ "java/lang/invoke/MethodHandle" ∧ yX3_worksWithIdle.cls ≠ "java/lang/invoke/VarHandle" ∧ (parseMethodDescriptor yX3_worksWithIdle.desc).map (fun d => d.parameters.length) = some 1 := by decide +kernel
abbrev rm3_worksWithIdle : Room := { frames := 3, cells := 0, slots := 0, locals := 75 }
set_option maxHeartbeats 4000000 in
set_option maxRecDepth 100000 in
theorem w3_worksWithIdle_b74 {p : Program} {l : Launch} {e : Env} {s : State} {m : MethodId} {args : Array Value} {below : List Frame} {meth : Method} {c : Code} {D : va_G} {K : Nat → ClassId} {ad : Nat → Nat} {tL : Nat} (hI : INJ NC ad) (C0 : Cx p s m args meth c RX3 wsX3_worksWithIdle cX3_worksWithIdle 6 (some .int) (KC D K tL (IW NC ad))) (S : Mem) {r : Int32} (k13 : Int32 → Nat → Int32 → Int32 → Option Int32) (hk13 : ∀ (x1 : Int32) (q2 : Nat) (x3 : Int32) (x4 : Int32), q2 < 165 → k13 x1 q2 x3 x4 = some r → ∀ (H : Heap) (locs : List Loc) (ls : Array Slot), va_P D vwCl (wl NC ad (EC K ad S)) H → va_S (IW NC ad) s.heap H locs → lv_has ls 6 [(0, .ref (ad 0)), (1, .int x1), (2, .ref (ad (30 + q2))), (3, .int x3), (4, .int x4)] → W p l e rm3_worksWithIdle s m args below meth c H locs 0 0 (MQ below (va_Qi (fun (x : Int32) (u : Mem) => x = r ∧ u = S) (fun u t => va_P D vwCl (wl NC ad (EC K ad u)) t.heap) (IW NC ad)) args s 0 0 (IW NC ad)) (F0 m 13 ls [])) : ∀ (x1 : Int32) (q2 : Nat) (x3 : Int32) (x4 : Int32), q2 < 165 → f3_worksWithIdle_b74 k13 S x1 q2 x3 x4 = some r → ∀ (H : Heap) (locs : List Loc) (ls : Array Slot), va_P D vwCl (wl NC ad (EC K ad S)) H → va_S (IW NC ad) s.heap H locs → lv_has ls 6 [(0, .ref (ad 0)), (1, .int x1), (2, .ref (ad (30 + q2))), (3, .int x3), (4, .int x4)] → W p l e rm3_worksWithIdle s m args below meth c H locs 0 0 (MQ below (va_Qi (fun (x : Int32) (u : Mem) => x = r ∧ u = S) (fun u t => va_P D vwCl (wl NC ad (EC K ad u)) t.heap) (IW NC ad)) args s 0 0 (IW NC ad)) (F0 m 74 ls []) := by
  have hx := C0.1
  have hb := C0.2.1
  have hts := C0.2.2.2.2.1
  have hown := C0.2.2.2.1
  have hKC := C0.2.2.2.2.2.2.2
  intro x1 q2 x3 x4 hq2 hf H locs ls hP hS hl
  rw [f3_worksWithIdle_b74] at hf
  obtain ⟨v1, ev1⟩ : ∃ y : Int32, y = x4 + 1 := ⟨_, rfl⟩
  have hf := nm_at ev1 hf
  refine lv_iinc (v := v1) (lv' := [(4, .int v1), (0, .ref (ad 0)), (1, .int x1), (2, .ref (ad (30 + q2))), (3, .int x3)]) hx hb dX3_worksWithIdle_74 hl (k := 4) rfl (by rw [ev1]; rfl) (by decide) rfl (fun ls hl => ?_)
  refine lv_goto (tgt := 13) hx hb dX3_worksWithIdle_77 (by decide) ?_
  exact hk13 x1 q2 x3 v1 hq2 hf H locs ls hP hS (lv_sub hl [1, 2, 3, 4, 0] rfl)
set_option maxHeartbeats 4000000 in
set_option maxRecDepth 100000 in
theorem w3_worksWithIdle_b39 {p : Program} {l : Launch} {e : Env} {s : State} {m : MethodId} {args : Array Value} {below : List Frame} {meth : Method} {c : Code} {D : va_G} {K : Nat → ClassId} {ad : Nat → Nat} {tL : Nat} (hI : INJ NC ad) (C0 : Cx p s m args meth c RX3 wsX3_worksWithIdle cX3_worksWithIdle 6 (some .int) (KC D K tL (IW NC ad))) (S : Mem) {r : Int32} (k13 : Int32 → Nat → Int32 → Int32 → Option Int32) (hk13 : ∀ (x1 : Int32) (q2 : Nat) (x3 : Int32) (x4 : Int32), q2 < 165 → k13 x1 q2 x3 x4 = some r → ∀ (H : Heap) (locs : List Loc) (ls : Array Slot), va_P D vwCl (wl NC ad (EC K ad S)) H → va_S (IW NC ad) s.heap H locs → lv_has ls 6 [(0, .ref (ad 0)), (1, .int x1), (2, .ref (ad (30 + q2))), (3, .int x3), (4, .int x4)] → W p l e rm3_worksWithIdle s m args below meth c H locs 0 0 (MQ below (va_Qi (fun (x : Int32) (u : Mem) => x = r ∧ u = S) (fun u t => va_P D vwCl (wl NC ad (EC K ad u)) t.heap) (IW NC ad)) args s 0 0 (IW NC ad)) (F0 m 13 ls [])) : ∀ (x1 : Int32) (q2 : Nat) (x3 : Int32) (x4 : Int32) (t0 : Int32), q2 < 165 → f3_worksWithIdle_b39 k13 S x1 q2 x3 x4 t0 = some r → ∀ (H : Heap) (locs : List Loc) (ls : Array Slot), va_P D vwCl (wl NC ad (EC K ad S)) H → va_S (IW NC ad) s.heap H locs → lv_has ls 6 [(0, .ref (ad 0)), (1, .int x1), (2, .ref (ad (30 + q2))), (3, .int x3), (4, .int x4)] → W p l e rm3_worksWithIdle s m args below meth c H locs 0 0 (MQ below (va_Qi (fun (x : Int32) (u : Mem) => x = r ∧ u = S) (fun u t => va_P D vwCl (wl NC ad (EC K ad u)) t.heap) (IW NC ad)) args s 0 0 (IW NC ad)) (F0 m 39 ls [.int t0]) := by
  have hx := C0.1
  have hb := C0.2.1
  have hts := C0.2.2.2.2.1
  have hown := C0.2.2.2.1
  have hKC := C0.2.2.2.2.2.2.2
  intro x1 q2 x3 x4 t0 hq2 hf H locs ls hP hS hl
  rw [f3_worksWithIdle_b39] at hf
  refine lv_istore (lv' := [(5, .int t0), (0, .ref (ad 0)), (1, .int x1), (2, .ref (ad (30 + q2))), (3, .int x3), (4, .int x4)]) hx hb dX3_worksWithIdle_39 hl (by decide) rfl (fun ls hl => ?_)
  refine lv_aload_n hx hb dX3_worksWithIdle_41 rfl (lv_at hl 1 rfl) ?_
  refine x_get C0 hKC.1 hP (by decide) (EC_0 K ad S) rfl in_X3_worksWithIdle_X3 4 (by decide) (List.mem_of_getElem? (i := 2) rfl) rfl dX3_worksWithIdle_42 ?_
  refine lv_iload hx hb dX3_worksWithIdle_45 (lv_at hl 5 rfl) ?_
  refine lv_aload_n hx hb dX3_worksWithIdle_47 rfl (lv_at hl 1 rfl) ?_
  refine x_get C0 hKC.1 hP (by decide) (EC_0 K ad S) rfl in_X3_worksWithIdle_X3 4 (by decide) (List.mem_of_getElem? (i := 2) rfl) rfl dX3_worksWithIdle_48 ?_
  refine lv_iload hx hb dX3_worksWithIdle_51 (lv_at hl 5 rfl) ?_
  refine lv_aload_n hx hb dX3_worksWithIdle_53 rfl (lv_at hl 3 rfl) ?_
  refine x_get C0 hKC.1 hP (ltM hq2) (EC_M K ad S hq2) rfl in_X3_worksWithIdle_X1 0 (by decide) (List.mem_of_getElem? (i := 4) rfl) rfl dX3_worksWithIdle_54 ?_
  refine lv_iload hx hb dX3_worksWithIdle_57 (lv_at hl 5 rfl) ?_
  obtain ⟨g1, hf⟩ := gd_some hf
  refine x_iald C0 hKC.1 hP (IC_jar K ad hq2) (t0 := 0) rfl g1 dX3_worksWithIdle_59 ?_
  refine lv_iload hx hb dX3_worksWithIdle_60 (lv_at hl 0 rfl) ?_
  obtain ⟨v3, h2, hf⟩ := b1_some hf
  refine sys_i hS (sys_runV (As := [.int x4, .int (gi S (195 + q2) (ix x4)), .int t0]) (rest := [.int x4, .ref (ad 15)]) C0 KC_ok hKC.1 hP hS (by decide) (EC_H K ad S) rfl (m0_jarBehind l D K ad tL hI S x4 (gi S (195 + q2) (ix x4)) t0 h2) gX3_worksWithIdle_X0_jarBehind rfl ⟨rfl, rfl⟩ hd_X0_jarBehind ⟨Nat.le_of_ble_eq_true rfl, Nat.le_of_ble_eq_true rfl⟩ hl.1 rfl (Nat.le_of_ble_eq_true rfl) dX3_worksWithIdle_62 ⟨Nat.le_refl _, Nat.le_refl _⟩) (fun H locs hP hS => ?_)
  obtain ⟨v5, h4, hf⟩ := b1_some hf
  refine sys_i hS (sys_runV (As := [.int x4, .int v3]) (rest := []) C0 KC_ok hKC.1 hP hS (by decide) (EC_H K ad S) rfl (m0_comesOff l D K ad tL hI S x4 v3 h4) gX3_worksWithIdle_X0_comesOff rfl ⟨rfl, rfl⟩ hd_X0_comesOff ⟨Nat.le_of_ble_eq_true rfl, Nat.le_of_ble_eq_true rfl⟩ hl.1 rfl (Nat.le_of_ble_eq_true rfl) dX3_worksWithIdle_65 ⟨Nat.le_refl _, Nat.le_refl _⟩) (fun H locs hP hS => ?_)
  refine lv_if_eq (tgt := 74) hx hb dX3_worksWithIdle_68 (by decide) (fun c6 => ?_) (fun c6 => ?_)
  · have hf := ite_t hf c6
    exact w3_worksWithIdle_b74 hI C0 S k13 hk13 x1 q2 x3 x4 hq2 hf H locs ls hP hS (lv_sub hl [1, 2, 3, 4, 5] rfl)
  · have hf := ite_f hf c6
    obtain ⟨v7, ev7⟩ : ∃ y : Int32, y = x3 + 1 := ⟨_, rfl⟩
    have hf := nm_at ev7 hf
    refine lv_iinc (v := v7) (lv' := [(3, .int v7), (5, .int t0), (0, .ref (ad 0)), (1, .int x1), (2, .ref (ad (30 + q2))), (4, .int x4)]) hx hb dX3_worksWithIdle_71 hl (k := 4) rfl (by rw [ev7]; rfl) (by decide) rfl (fun ls hl => ?_)
    exact w3_worksWithIdle_b74 hI C0 S k13 hk13 x1 q2 v7 x4 hq2 hf H locs ls hP hS (lv_sub hl [2, 3, 4, 0, 5] rfl)
set_option maxHeartbeats 4000000 in
set_option maxRecDepth 100000 in
theorem w3_worksWithIdle_b13 {p : Program} {l : Launch} {e : Env} {s : State} {m : MethodId} {args : Array Value} {below : List Frame} {meth : Method} {c : Code} {D : va_G} {K : Nat → ClassId} {ad : Nat → Nat} {tL : Nat} (hI : INJ NC ad) (C0 : Cx p s m args meth c RX3 wsX3_worksWithIdle cX3_worksWithIdle 6 (some .int) (KC D K tL (IW NC ad))) (S : Mem) {r : Int32} : ∀ (n : Nat), ∀ (x1 : Int32) (q2 : Nat) (x3 : Int32) (x4 : Int32), q2 < 165 → f3_worksWithIdle_b13 S n x1 q2 x3 x4 = some r → ∀ (H : Heap) (locs : List Loc) (ls : Array Slot), va_P D vwCl (wl NC ad (EC K ad S)) H → va_S (IW NC ad) s.heap H locs → lv_has ls 6 [(0, .ref (ad 0)), (1, .int x1), (2, .ref (ad (30 + q2))), (3, .int x3), (4, .int x4)] → W p l e rm3_worksWithIdle s m args below meth c H locs 0 0 (MQ below (va_Qi (fun (x : Int32) (u : Mem) => x = r ∧ u = S) (fun u t => va_P D vwCl (wl NC ad (EC K ad u)) t.heap) (IW NC ad)) args s 0 0 (IW NC ad)) (F0 m 13 ls []) := by
  have hx := C0.1
  have hb := C0.2.1
  have hts := C0.2.2.2.2.1
  have hown := C0.2.2.2.1
  have hKC := C0.2.2.2.2.2.2.2
  intro n
  induction n with
  | zero =>
    intro x1 q2 x3 x4 hq2 hf
    rw [f3_worksWithIdle_b13] at hf
    cases hf
  | succ n ih =>
    intro x1 q2 x3 x4 hq2 hf H locs ls hP hS hl
    rw [f3_worksWithIdle_b13] at hf
    refine lv_iload hx hb dX3_worksWithIdle_13 (lv_at hl 4 rfl) ?_
    refine lv_aload_n hx hb dX3_worksWithIdle_15 rfl (lv_at hl 0 rfl) ?_
    refine x_get C0 hKC.1 hP (by decide) (EC_0 K ad S) rfl in_X3_worksWithIdle_X3 4 (by decide) (List.mem_of_getElem? (i := 2) rfl) rfl dX3_worksWithIdle_16 ?_
    refine x_get C0 hKC.1 hP (by decide) (EC_H K ad S) rfl in_X3_worksWithIdle_X0 3 (by decide) (List.mem_of_getElem? (i := 3) rfl) rfl dX3_worksWithIdle_19 ?_
    refine lv_icmp_ge (tgt := 80) hx hb dX3_worksWithIdle_22 (by decide) (fun c1 => ?_) (fun c1 => ?_)
    · have hf := ite_t hf c1
      refine lv_iload_n hx hb dX3_worksWithIdle_80 rfl (lv_at hl 3 rfl) ?_
      exact ret_i C0 hP hS (Option.some.inj hf) rfl dX3_worksWithIdle_81
    · have hf := ite_f hf c1
      refine lv_iload_n hx hb dX3_worksWithIdle_25 rfl (lv_at hl 1 rfl) ?_
      refine lv_iload hx hb dX3_worksWithIdle_26 (lv_at hl 4 rfl) ?_
      obtain ⟨v3, h2, hf⟩ := b1_some hf
      refine sys_i hS (sys_runS (As := [.int x1, .int x4]) (rest := []) C0 KC_ok hP hS (m3_has l D K ad tL hI S x1 x4 h2) gX3_worksWithIdle_X3_has rfl ⟨rfl, rfl⟩ hd_X3_has ⟨Nat.le_of_ble_eq_true rfl, Nat.le_of_ble_eq_true rfl⟩ hl.1 rfl (Nat.le_of_ble_eq_true rfl) dX3_worksWithIdle_28 ⟨Nat.le_refl _, Nat.le_refl _⟩) (fun H locs hP hS => ?_)
      refine lv_if_eq (tgt := 38) hx hb dX3_worksWithIdle_31 (by decide) (fun c4 => ?_) (fun c4 => ?_)
      · have hf := ite_t hf c4
        refine lv_iconst (v := 1) hx hb dX3_worksWithIdle_38 (by decide) ?_
        exact w3_worksWithIdle_b39 hI C0 S (f3_worksWithIdle_b13 S n) ih x1 q2 x3 x4 1 hq2 hf H locs ls hP hS (lv_sub hl [0, 1, 2, 3, 4] rfl)
      · have hf := ite_f hf c4
        refine lv_iconst (v := 0) hx hb dX3_worksWithIdle_34 (by decide) ?_
        refine lv_goto (tgt := 39) hx hb dX3_worksWithIdle_35 (by decide) ?_
        exact w3_worksWithIdle_b39 hI C0 S (f3_worksWithIdle_b13 S n) ih x1 q2 x3 x4 0 hq2 hf H locs ls hP hS (lv_sub hl [0, 1, 2, 3, 4] rfl)
set_option maxHeartbeats 4000000 in
set_option maxRecDepth 100000 in
theorem w3_worksWithIdle {p : Program} {l : Launch} {e : Env} {s : State} {m : MethodId} {args : Array Value} {below : List Frame} {meth : Method} {c : Code} {D : va_G} {K : Nat → ClassId} {ad : Nat → Nat} {tL : Nat} (hI : INJ NC ad) (C0 : Cx p s m args meth c RX3 wsX3_worksWithIdle cX3_worksWithIdle 6 (some .int) (KC D K tL (IW NC ad))) (S : Mem) {r : Int32} : ∀ (x1 : Int32), f3_worksWithIdle S x1 = some r → ∀ (H : Heap) (locs : List Loc) (ls : Array Slot), va_P D vwCl (wl NC ad (EC K ad S)) H → va_S (IW NC ad) s.heap H locs → lv_has ls 6 [(0, .ref (ad 0)), (1, .int x1)] → W p l e rm3_worksWithIdle s m args below meth c H locs 0 0 (MQ below (va_Qi (fun (x : Int32) (u : Mem) => x = r ∧ u = S) (fun u t => va_P D vwCl (wl NC ad (EC K ad u)) t.heap) (IW NC ad)) args s 0 0 (IW NC ad)) (F0 m 0 ls []) := by
  have hx := C0.1
  have hb := C0.2.1
  have hts := C0.2.2.2.2.1
  have hown := C0.2.2.2.1
  have hKC := C0.2.2.2.2.2.2.2
  intro x1 hf H locs ls hP hS hl
  rw [f3_worksWithIdle] at hf
  refine lv_aload_n hx hb dX3_worksWithIdle_0 rfl (lv_at hl 0 rfl) ?_
  refine x_get C0 hKC.1 hP (by decide) (EC_0 K ad S) rfl in_X3_worksWithIdle_X3 5 (by decide) (List.mem_of_getElem? (i := 1) rfl) rfl dX3_worksWithIdle_1 ?_
  obtain ⟨q2, h1, hf⟩ := b1_some hf
  obtain ⟨g3, hf⟩ := gd_some hf
  refine sys_r hS (sys_runV (As := []) (rest := []) C0 KC_ok hKC.1 hP hS (ltS (by decide : 0 < 4)) (EC_S K ad S (by decide : 0 < 4)) rfl (m2_now l D K ad tL hI S 0 (by decide : 0 < 4) h1) gX3_worksWithIdle_X2_now rfl ⟨rfl, rfl⟩ hd_X2_now ⟨Nat.le_of_ble_eq_true rfl, Nat.le_of_ble_eq_true rfl⟩ hl.1 rfl (Nat.le_of_ble_eq_true rfl) dX3_worksWithIdle_4 ⟨Nat.le_refl _, Nat.le_refl _⟩) (fun H locs hP hS => ?_)
  refine lv_astore_n (lv' := [(2, .ref (ad (30 + q2))), (0, .ref (ad 0)), (1, .int x1)]) hx hb dX3_worksWithIdle_7 rfl hl (by decide) rfl (fun ls hl => ?_)
  refine lv_iconst (v := 0) hx hb dX3_worksWithIdle_8 (by decide) ?_
  refine lv_istore_n (lv' := [(3, .int 0), (2, .ref (ad (30 + q2))), (0, .ref (ad 0)), (1, .int x1)]) hx hb dX3_worksWithIdle_9 rfl hl (by decide) rfl (fun ls hl => ?_)
  refine lv_iconst (v := 0) hx hb dX3_worksWithIdle_10 (by decide) ?_
  refine lv_istore (lv' := [(4, .int 0), (3, .int 0), (2, .ref (ad (30 + q2))), (0, .ref (ad 0)), (1, .int x1)]) hx hb dX3_worksWithIdle_11 hl (by decide) rfl (fun ls hl => ?_)
  exact w3_worksWithIdle_b13 hI C0 S FU x1 q2 0 0 (of_decide_eq_true g3) hf H locs ls hP hS (lv_sub hl [3, 4, 2, 1, 0] rfl)
theorem m3_worksWithIdle (l : Launch) (D : va_G) (K : Nat → ClassId) (ad : Nat → Nat) (tL : Nat) (hI : INJ NC ad) (S : Mem) (x1 : Int32) {r : Int32} (hf : f3_worksWithIdle S x1 = some r) : SysI l yX3_worksWithIdle wsX3_worksWithIdle rm3_worksWithIdle D NC ad (EC K ad) (KC D K tL (IW NC ad)) [.ref (ad 0), .int x1] S r S :=
  met_of (own := RX3) (by decide) rfl rfl (Nat.le_of_ble_eq_true rfl) (fun _ _ s _ _ _ _ ls C0 _ hP hl => w3_worksWithIdle hI C0 S x1 hf s.heap [] ls hP va_S.rf hl)
theorem hd_X3_greatestCommon : yX3_greatestCommon.cls ≠ "java/lang/invoke/MethodHandle" ∧ yX3_greatestCommon.cls ≠ "java/lang/invoke/VarHandle" ∧ (parseMethodDescriptor yX3_greatestCommon.desc).map (fun d => d.parameters.length) = some 2 := by decide +kernel
abbrev rm3_greatestCommon : Room := { frames := 0, cells := 0, slots := 0, locals := 0 }
set_option maxHeartbeats 4000000 in
set_option maxRecDepth 100000 in
theorem w3_greatestCommon_b9 {p : Program} {l : Launch} {e : Env} {s : State} {m : MethodId} {args : Array Value} {below : List Frame} {meth : Method} {c : Code} {D : va_G} {K : Nat → ClassId} {ad : Nat → Nat} {tL : Nat} (hI : INJ NC ad) (C0 : Cx p s m args meth c RX3 wsX3_greatestCommon cX3_greatestCommon 11 (some .long) (KC D K tL (IW NC ad))) (S : Mem) {r : Int64} : ∀ (n : Nat), ∀ (x4 : Int64) (x6 : Int64) (x8 : Int32), f3_greatestCommon_b9 n x4 x6 x8 = some r → ∀ (H : Heap) (locs : List Loc) (ls : Array Slot), va_P D vwCl (wl NC ad (EC K ad S)) H → va_S (IW NC ad) s.heap H locs → lv_has ls 11 [(4, .long x4), (6, .long x6), (8, .int x8)] → W p l e rm3_greatestCommon s m args below meth c H locs 0 0 (MQ below (va_Ql (fun (x : Int64) (u : Mem) => x = r ∧ u = S) (fun u t => va_P D vwCl (wl NC ad (EC K ad u)) t.heap) (IW NC ad)) args s 0 0 (IW NC ad)) (F0 m 9 ls []) := by
  have hx := C0.1
  have hb := C0.2.1
  have hts := C0.2.2.2.2.1
  have hown := C0.2.2.2.1
  have hKC := C0.2.2.2.2.2.2.2
  intro n
  induction n with
  | zero =>
    intro x4 x6 x8 hf
    rw [f3_greatestCommon_b9] at hf
    cases hf
  | succ n ih =>
    intro x4 x6 x8 hf H locs ls hP hS hl
    rw [f3_greatestCommon_b9] at hf
    refine lv_iload hx hb dX3_greatestCommon_9 (lv_at hl 2 rfl) ?_
    refine lv_bipush (v := 100) hx hb dX3_greatestCommon_11 (by decide) ?_
    refine lv_icmp_ge (tgt := 44) hx hb dX3_greatestCommon_13 (by decide) (fun c1 => ?_) (fun c1 => ?_)
    · have hf := ite_t hf c1
      refine lv_lload hx hb dX3_greatestCommon_44 (lv_at hl 0 rfl) ?_
      exact ret_l C0 hP hS (Option.some.inj hf) rfl dX3_greatestCommon_46
    · have hf := ite_f hf c1
      refine lv_lload hx hb dX3_greatestCommon_16 (lv_at hl 1 rfl) ?_
      refine lv_lconst (v := 0) hx hb dX3_greatestCommon_18 (by decide) ?_
      refine W.lcmp hx hb dX3_greatestCommon_19 ?_
      refine lv_if_eq (tgt := 44) hx hb dX3_greatestCommon_20 (by decide) (fun c2 => ?_) (fun c2 => ?_)
      · have hf := ite_t hf c2
        refine lv_lload hx hb dX3_greatestCommon_44 (lv_at hl 0 rfl) ?_
        exact ret_l C0 hP hS (Option.some.inj hf) rfl dX3_greatestCommon_46
      · have hf := ite_f hf c2
        refine lv_lload hx hb dX3_greatestCommon_23 (lv_at hl 0 rfl) ?_
        refine lv_lload hx hb dX3_greatestCommon_25 (lv_at hl 1 rfl) ?_
        obtain ⟨g3, hf⟩ := gd_some hf
        refine lv_lrem hx hb dX3_greatestCommon_27 (of_decide_eq_true g3) ?_
        refine lv_topl (fun v4 ev4 => ?_)
        have hf := nm_at ev4 hf
        refine lv_lstore (lv' := [(9, .long v4), (4, .long x4), (6, .long x6), (8, .int x8)]) hx hb dX3_greatestCommon_28 hl (by decide) rfl (fun ls hl => ?_)
        refine lv_lload hx hb dX3_greatestCommon_30 (lv_at hl 2 rfl) ?_
        refine lv_lstore (lv' := [(4, .long x6), (9, .long v4), (6, .long x6), (8, .int x8)]) hx hb dX3_greatestCommon_32 hl (by decide) rfl (fun ls hl => ?_)
        refine lv_lload hx hb dX3_greatestCommon_34 (lv_at hl 1 rfl) ?_
        refine lv_lstore (lv' := [(6, .long v4), (4, .long x6), (9, .long v4), (8, .int x8)]) hx hb dX3_greatestCommon_36 hl (by decide) rfl (fun ls hl => ?_)
        obtain ⟨v5, ev5⟩ : ∃ y : Int32, y = x8 + 1 := ⟨_, rfl⟩
        have hf := nm_at ev5 hf
        refine lv_iinc (v := v5) (lv' := [(8, .int v5), (6, .long v4), (4, .long x6), (9, .long v4)]) hx hb dX3_greatestCommon_38 hl (k := 3) rfl (by rw [ev5]; rfl) (by decide) rfl (fun ls hl => ?_)
        refine lv_goto (tgt := 9) hx hb dX3_greatestCommon_41 (by decide) ?_
        exact ih x6 v4 v5 hf H locs ls hP hS (lv_sub hl [2, 1, 0] rfl)
set_option maxHeartbeats 4000000 in
set_option maxRecDepth 100000 in
theorem w3_greatestCommon {p : Program} {l : Launch} {e : Env} {s : State} {m : MethodId} {args : Array Value} {below : List Frame} {meth : Method} {c : Code} {D : va_G} {K : Nat → ClassId} {ad : Nat → Nat} {tL : Nat} (hI : INJ NC ad) (C0 : Cx p s m args meth c RX3 wsX3_greatestCommon cX3_greatestCommon 11 (some .long) (KC D K tL (IW NC ad))) (S : Mem) {r : Int64} : ∀ (x0 : Int64) (x2 : Int64), f3_greatestCommon x0 x2 = some r → ∀ (H : Heap) (locs : List Loc) (ls : Array Slot), va_P D vwCl (wl NC ad (EC K ad S)) H → va_S (IW NC ad) s.heap H locs → lv_has ls 11 [(0, .long x0), (2, .long x2)] → W p l e rm3_greatestCommon s m args below meth c H locs 0 0 (MQ below (va_Ql (fun (x : Int64) (u : Mem) => x = r ∧ u = S) (fun u t => va_P D vwCl (wl NC ad (EC K ad u)) t.heap) (IW NC ad)) args s 0 0 (IW NC ad)) (F0 m 0 ls []) := by
  have hx := C0.1
  have hb := C0.2.1
  have hts := C0.2.2.2.2.1
  have hown := C0.2.2.2.1
  have hKC := C0.2.2.2.2.2.2.2
  intro x0 x2 hf H locs ls hP hS hl
  rw [f3_greatestCommon] at hf
  refine lv_lload_n hx hb dX3_greatestCommon_0 rfl (lv_at hl 0 rfl) ?_
  refine lv_lstore (lv' := [(4, .long x0), (0, .long x0), (2, .long x2)]) hx hb dX3_greatestCommon_1 hl (by decide) rfl (fun ls hl => ?_)
  refine lv_lload_n hx hb dX3_greatestCommon_3 rfl (lv_at hl 2 rfl) ?_
  refine lv_lstore (lv' := [(6, .long x2), (4, .long x0), (0, .long x0), (2, .long x2)]) hx hb dX3_greatestCommon_4 hl (by decide) rfl (fun ls hl => ?_)
  refine lv_iconst (v := 0) hx hb dX3_greatestCommon_6 (by decide) ?_
  refine lv_istore (lv' := [(8, .int 0), (6, .long x2), (4, .long x0), (0, .long x0), (2, .long x2)]) hx hb dX3_greatestCommon_7 hl (by decide) rfl (fun ls hl => ?_)
  exact w3_greatestCommon_b9 hI C0 S FU x0 x2 0 hf H locs ls hP hS (lv_sub hl [2, 1, 0] rfl)
theorem m3_greatestCommon (l : Launch) (D : va_G) (K : Nat → ClassId) (ad : Nat → Nat) (tL : Nat) (hI : INJ NC ad) (S : Mem) (x0 : Int64) (x2 : Int64) {r : Int64} (hf : f3_greatestCommon x0 x2 = some r) : SysL l yX3_greatestCommon wsX3_greatestCommon rm3_greatestCommon D NC ad (EC K ad) (KC D K tL (IW NC ad)) [.long x0, .long x2] S r S :=
  met_of (own := RX3) (by decide) rfl rfl (Nat.le_of_ble_eq_true rfl) (fun _ _ s _ _ _ _ ls C0 _ hP hl => w3_greatestCommon hI C0 S x0 x2 hf s.heap [] ls hP va_S.rf hl)
theorem in_X3_tellChance_X3 : ∀ w ∈ wsX30, w ∈ wsX3_tellChance := fun _ h => List.mem_cons_of_mem _ (List.mem_append_right _ h)
theorem hd_X3_tellChance : yX3_tellChance.cls = RX3 ∧ yX3_tellChance.cls ≠ "java/lang/invoke/MethodHandle" ∧ yX3_tellChance.cls ≠ "java/lang/invoke/VarHandle" ∧ (parseMethodDescriptor yX3_tellChance.desc).map (fun d => d.parameters.length) = some 2 := by decide +kernel
abbrev rm3_tellChance : Room := { frames := 1, cells := 0, slots := 0, locals := 30 }
set_option maxHeartbeats 4000000 in
set_option maxRecDepth 100000 in
theorem w3_tellChance {p : Program} {l : Launch} {e : Env} {s : State} {m : MethodId} {args : Array Value} {below : List Frame} {meth : Method} {c : Code} {D : va_G} {K : Nat → ClassId} {ad : Nat → Nat} {tL : Nat} (hI : INJ NC ad) (C0 : Cx p s m args meth c RX3 wsX3_tellChance cX3_tellChance 7 (some .int) (KC D K tL (IW NC ad))) {r : Int32} {T : Mem} : ∀ (S : Mem) (x1 : Int64) (x3 : Int64), f3_tellChance S x1 x3 = some (r, T) → ∀ (H : Heap) (locs : List Loc) (ls : Array Slot), va_P D vwCl (wl NC ad (EC K ad S)) H → va_S (IW NC ad) s.heap H locs → lv_has ls 7 [(0, .ref (ad 0)), (1, .long x1), (3, .long x3)] → W p l e rm3_tellChance s m args below meth c H locs 0 0 (MQ below (va_Qi (fun (x : Int32) (u : Mem) => x = r ∧ u = T) (fun u t => va_P D vwCl (wl NC ad (EC K ad u)) t.heap) (IW NC ad)) args s 0 0 (IW NC ad)) (F0 m 0 ls []) := by
  have hx := C0.1
  have hb := C0.2.1
  have hts := C0.2.2.2.2.1
  have hown := C0.2.2.2.1
  have hKC := C0.2.2.2.2.2.2.2
  intro S x1 x3 hf H locs ls hP hS hl
  rw [f3_tellChance] at hf
  refine lv_lload_n hx hb dX3_tellChance_0 rfl (lv_at hl 1 rfl) ?_
  refine lv_lload_n hx hb dX3_tellChance_1 rfl (lv_at hl 2 rfl) ?_
  obtain ⟨v2, h1, hf⟩ := b1_some hf
  refine sys_l hS (sys_runS (As := [.long x1, .long x3]) (rest := []) C0 KC_ok hP hS (m3_greatestCommon l D K ad tL hI S x1 x3 h1) gX3_tellChance_X3_greatestCommon rfl ⟨rfl, rfl⟩ hd_X3_greatestCommon ⟨Nat.le_of_ble_eq_true rfl, Nat.le_of_ble_eq_true rfl⟩ hl.1 rfl (Nat.le_of_ble_eq_true rfl) dX3_tellChance_2 ⟨Nat.le_refl _, Nat.le_refl _⟩) (fun H locs hP hS => ?_)
  refine lv_lstore (lv' := [(5, .long v2), (0, .ref (ad 0)), (1, .long x1), (3, .long x3)]) hx hb dX3_tellChance_5 hl (by decide) rfl (fun ls hl => ?_)
  refine lv_lload hx hb dX3_tellChance_7 (lv_at hl 0 rfl) ?_
  refine lv_lconst (v := 0) hx hb dX3_tellChance_9 (by decide) ?_
  refine W.lcmp hx hb dX3_tellChance_10 ?_
  refine lv_if_ne (tgt := 17) hx hb dX3_tellChance_11 (by decide) (fun c3 => ?_) (fun c3 => ?_)
  · have hf := ite_f hf c3
    refine lv_aload_n hx hb dX3_tellChance_17 rfl (lv_at hl 1 rfl) ?_
    refine lv_lload_n hx hb dX3_tellChance_18 rfl (lv_at hl 2 rfl) ?_
    refine lv_lload hx hb dX3_tellChance_19 (lv_at hl 0 rfl) ?_
    obtain ⟨g4, hf⟩ := gd_some hf
    refine lv_ldiv hx hb dX3_tellChance_21 (of_decide_eq_true g4) ?_
    refine x_putl C0 hKC.1 hI hP hS (by decide) (EC_0 K ad S) rfl tyX3 tyX3_ok nmX3 in_X3_tellChance_X3 10 0 (by decide) (List.mem_of_getElem? (i := 1) rfl) rfl (tyX3_ok 10 (by decide)) (Nat.le_of_ble_eq_true rfl) (EC_p10 K ad S _) (EC_ul K ad S 0 _) dX3_tellChance_22 (fun S5 eS5 H locs hP hS => ?_)
    have hf := nm_at eS5 hf
    refine lv_aload_n hx hb dX3_tellChance_25 rfl (lv_at hl 1 rfl) ?_
    refine lv_lload_n hx hb dX3_tellChance_26 rfl (lv_at hl 3 rfl) ?_
    refine lv_lload hx hb dX3_tellChance_27 (lv_at hl 0 rfl) ?_
    obtain ⟨g6, hf⟩ := gd_some hf
    refine lv_ldiv hx hb dX3_tellChance_29 (of_decide_eq_true g6) ?_
    refine x_putl C0 hKC.1 hI hP hS (by decide) (EC_0 K ad S5) rfl tyX3 tyX3_ok nmX3 in_X3_tellChance_X3 11 1 (by decide) (List.mem_of_getElem? (i := 2) rfl) rfl (tyX3_ok 11 (by decide)) (Nat.le_of_ble_eq_true rfl) (EC_p11 K ad S5 _) (EC_ul K ad S5 1 _) dX3_tellChance_30 (fun S7 eS7 H locs hP hS => ?_)
    have hf := nm_at eS7 hf
    refine lv_iconst (v := 1) hx hb dX3_tellChance_33 (by decide) ?_
    exact ret_i C0 hP hS (congrArg Prod.fst (Option.some.inj hf)) (congrArg Prod.snd (Option.some.inj hf)) dX3_tellChance_34
  · have hf := ite_t hf c3
    refine lv_bipush (v := (-9)) hx hb dX3_tellChance_14 (by decide) ?_
    exact ret_i C0 hP hS (congrArg Prod.fst (Option.some.inj hf)) (congrArg Prod.snd (Option.some.inj hf)) dX3_tellChance_16
theorem m3_tellChance (l : Launch) (D : va_G) (K : Nat → ClassId) (ad : Nat → Nat) (tL : Nat) (hI : INJ NC ad) (S : Mem) (x1 : Int64) (x3 : Int64) {r : Int32} {T : Mem} (hf : f3_tellChance S x1 x3 = some (r, T)) : SysI l yX3_tellChance wsX3_tellChance rm3_tellChance D NC ad (EC K ad) (KC D K tL (IW NC ad)) [.ref (ad 0), .long x1, .long x3] S r T :=
  met_of (own := RX3) (by decide) rfl rfl (Nat.le_of_ble_eq_true rfl) (fun _ _ s _ _ _ _ ls C0 _ hP hl => w3_tellChance hI C0 S x1 x3 hf s.heap [] ls hP va_S.rf hl)
theorem in_X3_odds_X3 : ∀ w ∈ wsX30, w ∈ wsX3_odds := fun _ h => List.mem_cons_of_mem _ (List.mem_append_left _ (List.mem_append_left _ (List.mem_append_left _ (List.mem_append_right _ h))))
theorem in_X3_odds_X0 : ∀ w ∈ wsX00, w ∈ wsX3_odds := fun _ h => List.mem_cons_of_mem _ (List.mem_append_left _ (List.mem_append_left _ (List.mem_append_right _ h)))
theorem in_X3_odds_X1 : ∀ w ∈ wsX10, w ∈ wsX3_odds := fun _ h => List.mem_cons_of_mem _ (List.mem_append_left _ (List.mem_append_right _ h))
theorem in_X3_odds_X2 : ∀ w ∈ wsX20, w ∈ wsX3_odds := fun _ h => List.mem_cons_of_mem _ (List.mem_append_right _ h)
theorem hd_X3_odds : yX3_odds.cls = RX3 ∧ yX3_odds.cls ≠ "java/lang/invoke/MethodHandle" ∧ yX3_odds.cls ≠ "java/lang/invoke/VarHandle" ∧ (parseMethodDescriptor yX3_odds.desc).map (fun d => d.parameters.length) = some 2 := by decide +kernel
abbrev rm3_odds : Room := { frames := 4, cells := 0, slots := 0, locals := 100 }
set_option maxHeartbeats 4000000 in
set_option maxRecDepth 100000 in
theorem w3_odds_b85 {p : Program} {l : Launch} {e : Env} {s : State} {m : MethodId} {args : Array Value} {below : List Frame} {meth : Method} {c : Code} {D : va_G} {K : Nat → ClassId} {ad : Nat → Nat} {tL : Nat} (hI : INJ NC ad) (C0 : Cx p s m args meth c RX3 wsX3_odds cX3_odds 10 (some .int) (KC D K tL (IW NC ad))) {r : Int32} {T : Mem} (k40 : Mem → Int32 → Int32 → Int64 → Int64 → Int32 → Option (Int32 × Mem)) (hk40 : ∀ (S : Mem) (x1 : Int32) (x2 : Int32) (x3 : Int64) (x5 : Int64) (x7 : Int32), k40 S x1 x2 x3 x5 x7 = some (r, T) → ∀ (H : Heap) (locs : List Loc) (ls : Array Slot), va_P D vwCl (wl NC ad (EC K ad S)) H → va_S (IW NC ad) s.heap H locs → lv_has ls 10 [(0, .ref (ad 0)), (1, .int x1), (2, .int x2), (3, .long x3), (5, .long x5), (7, .int x7)] → W p l e rm3_odds s m args below meth c H locs 0 0 (MQ below (va_Qi (fun (x : Int32) (u : Mem) => x = r ∧ u = T) (fun u t => va_P D vwCl (wl NC ad (EC K ad u)) t.heap) (IW NC ad)) args s 0 0 (IW NC ad)) (F0 m 40 ls [])) : ∀ (S : Mem) (x1 : Int32) (x2 : Int32) (x3 : Int64) (x5 : Int64) (x7 : Int32), f3_odds_b85 k40 S x1 x2 x3 x5 x7 = some (r, T) → ∀ (H : Heap) (locs : List Loc) (ls : Array Slot), va_P D vwCl (wl NC ad (EC K ad S)) H → va_S (IW NC ad) s.heap H locs → lv_has ls 10 [(0, .ref (ad 0)), (1, .int x1), (2, .int x2), (3, .long x3), (5, .long x5), (7, .int x7)] → W p l e rm3_odds s m args below meth c H locs 0 0 (MQ below (va_Qi (fun (x : Int32) (u : Mem) => x = r ∧ u = T) (fun u t => va_P D vwCl (wl NC ad (EC K ad u)) t.heap) (IW NC ad)) args s 0 0 (IW NC ad)) (F0 m 85 ls []) := by
  have hx := C0.1
  have hb := C0.2.1
  have hts := C0.2.2.2.2.1
  have hown := C0.2.2.2.1
  have hKC := C0.2.2.2.2.2.2.2
  intro S x1 x2 x3 x5 x7 hf H locs ls hP hS hl
  rw [f3_odds_b85] at hf
  obtain ⟨v1, ev1⟩ : ∃ y : Int32, y = x7 + 1 := ⟨_, rfl⟩
  have hf := nm_at ev1 hf
  refine lv_iinc (v := v1) (lv' := [(7, .int v1), (0, .ref (ad 0)), (1, .int x1), (2, .int x2), (3, .long x3), (5, .long x5)]) hx hb dX3_odds_85 hl (k := 5) rfl (by rw [ev1]; rfl) (by decide) rfl (fun ls hl => ?_)
  refine lv_goto (tgt := 40) hx hb dX3_odds_88 (by decide) ?_
  exact hk40 S x1 x2 x3 x5 v1 hf H locs ls hP hS (lv_sub hl [1, 2, 3, 4, 5, 0] rfl)
set_option maxHeartbeats 4000000 in
set_option maxRecDepth 100000 in
theorem w3_odds_b40 {p : Program} {l : Launch} {e : Env} {s : State} {m : MethodId} {args : Array Value} {below : List Frame} {meth : Method} {c : Code} {D : va_G} {K : Nat → ClassId} {ad : Nat → Nat} {tL : Nat} (hI : INJ NC ad) (C0 : Cx p s m args meth c RX3 wsX3_odds cX3_odds 10 (some .int) (KC D K tL (IW NC ad))) {r : Int32} {T : Mem} : ∀ (n : Nat), ∀ (S : Mem) (x1 : Int32) (x2 : Int32) (x3 : Int64) (x5 : Int64) (x7 : Int32), f3_odds_b40 n S x1 x2 x3 x5 x7 = some (r, T) → ∀ (H : Heap) (locs : List Loc) (ls : Array Slot), va_P D vwCl (wl NC ad (EC K ad S)) H → va_S (IW NC ad) s.heap H locs → lv_has ls 10 [(0, .ref (ad 0)), (1, .int x1), (2, .int x2), (3, .long x3), (5, .long x5), (7, .int x7)] → W p l e rm3_odds s m args below meth c H locs 0 0 (MQ below (va_Qi (fun (x : Int32) (u : Mem) => x = r ∧ u = T) (fun u t => va_P D vwCl (wl NC ad (EC K ad u)) t.heap) (IW NC ad)) args s 0 0 (IW NC ad)) (F0 m 40 ls []) := by
  have hx := C0.1
  have hb := C0.2.1
  have hts := C0.2.2.2.2.1
  have hown := C0.2.2.2.1
  have hKC := C0.2.2.2.2.2.2.2
  intro n
  induction n with
  | zero =>
    intro S x1 x2 x3 x5 x7 hf
    rw [f3_odds_b40] at hf
    cases hf
  | succ n ih =>
    intro S x1 x2 x3 x5 x7 hf H locs ls hP hS hl
    rw [f3_odds_b40] at hf
    refine lv_iload hx hb dX3_odds_40 (lv_at hl 5 rfl) ?_
    refine lv_iconst (v := 1) hx hb dX3_odds_42 (by decide) ?_
    refine lv_aload_n hx hb dX3_odds_43 rfl (lv_at hl 0 rfl) ?_
    refine x_get C0 hKC.1 hP (by decide) (EC_0 K ad S) rfl in_X3_odds_X3 4 (by decide) (List.mem_of_getElem? (i := 1) rfl) rfl dX3_odds_44 ?_
    refine x_get C0 hKC.1 hP (by decide) (EC_H K ad S) rfl in_X3_odds_X0 3 (by decide) (List.mem_of_getElem? (i := 2) rfl) rfl dX3_odds_47 ?_
    refine lv_ishl hx hb dX3_odds_50 ?_
    refine lv_icmp_ge (tgt := 91) hx hb dX3_odds_51 (by decide) (fun c1 => ?_) (fun c1 => ?_)
    · have hf := ite_t hf c1
      refine lv_aload_n hx hb dX3_odds_91 rfl (lv_at hl 0 rfl) ?_
      refine lv_lload_n hx hb dX3_odds_92 rfl (lv_at hl 3 rfl) ?_
      refine lv_lload hx hb dX3_odds_93 (lv_at hl 4 rfl) ?_
      obtain ⟨v3, S4, h2, hf⟩ := b2_some hf
      refine sys_i hS (sys_runV (As := [.long x3, .long x5]) (rest := []) C0 KC_ok hKC.1 hP hS (by decide) (EC_0 K ad S) rfl (m3_tellChance l D K ad tL hI S x3 x5 h2) gX3_odds_X3_tellChance rfl ⟨rfl, rfl⟩ hd_X3_tellChance ⟨Nat.le_of_ble_eq_true rfl, Nat.le_of_ble_eq_true rfl⟩ hl.1 rfl (Nat.le_of_ble_eq_true rfl) dX3_odds_95 ⟨Nat.le_refl _, Nat.le_refl _⟩) (fun H locs hP hS => ?_)
      exact ret_i C0 hP hS (congrArg Prod.fst (Option.some.inj hf)) (congrArg Prod.snd (Option.some.inj hf)) dX3_odds_98
    · have hf := ite_f hf c1
      refine lv_aload_n hx hb dX3_odds_54 rfl (lv_at hl 0 rfl) ?_
      refine lv_iload hx hb dX3_odds_55 (lv_at hl 5 rfl) ?_
      refine lv_iload_n hx hb dX3_odds_57 rfl (lv_at hl 2 rfl) ?_
      obtain ⟨v6, h5, hf⟩ := b1_some hf
      refine sys_l hS (sys_runV (As := [.int x7, .int x2]) (rest := []) C0 KC_ok hKC.1 hP hS (by decide) (EC_0 K ad S) rfl (m3_partOf l D K ad tL hI S x7 x2 h5) gX3_odds_X3_partOf rfl ⟨rfl, rfl⟩ hd_X3_partOf ⟨Nat.le_of_ble_eq_true rfl, Nat.le_of_ble_eq_true rfl⟩ hl.1 rfl (Nat.le_of_ble_eq_true rfl) dX3_odds_58 ⟨Nat.le_refl _, Nat.le_refl _⟩) (fun H locs hP hS => ?_)
      refine lv_lstore (lv' := [(8, .long v6), (0, .ref (ad 0)), (1, .int x1), (2, .int x2), (3, .long x3), (5, .long x5), (7, .int x7)]) hx hb dX3_odds_61 hl (by decide) rfl (fun ls hl => ?_)
      refine lv_lload hx hb dX3_odds_63 (lv_at hl 5 rfl) ?_
      refine lv_lload hx hb dX3_odds_65 (lv_at hl 0 rfl) ?_
      refine lv_ladd hx hb dX3_odds_67 ?_
      refine lv_topl (fun v7 ev7 => ?_)
      have hf := nm_at ev7 hf
      refine lv_lstore (lv' := [(5, .long v7), (8, .long v6), (0, .ref (ad 0)), (1, .int x1), (2, .int x2), (3, .long x3), (7, .int x7)]) hx hb dX3_odds_68 hl (by decide) rfl (fun ls hl => ?_)
      refine lv_aload_n hx hb dX3_odds_70 rfl (lv_at hl 2 rfl) ?_
      refine lv_iload hx hb dX3_odds_71 (lv_at hl 6 rfl) ?_
      obtain ⟨v9, h8, hf⟩ := b1_some hf
      refine sys_i hS (sys_runV (As := [.int x7]) (rest := []) C0 KC_ok hKC.1 hP hS (by decide) (EC_0 K ad S) rfl (m3_worksWithIdle l D K ad tL hI S x7 h8) gX3_odds_X3_worksWithIdle rfl ⟨rfl, rfl⟩ hd_X3_worksWithIdle ⟨Nat.le_of_ble_eq_true rfl, Nat.le_of_ble_eq_true rfl⟩ hl.1 rfl (Nat.le_of_ble_eq_true rfl) dX3_odds_73 ⟨Nat.le_refl _, Nat.le_refl _⟩) (fun H locs hP hS => ?_)
      refine lv_iload_n hx hb dX3_odds_76 rfl (lv_at hl 3 rfl) ?_
      refine lv_icmp_lt (tgt := 85) hx hb dX3_odds_77 (by decide) (fun c10 => ?_) (fun c10 => ?_)
      · have hf := ite_t hf c10
        exact w3_odds_b85 hI C0 (f3_odds_b40 n) ih S x1 x2 x3 v7 x7 hf H locs ls hP hS (lv_sub hl [2, 3, 4, 5, 0, 6] rfl)
      · have hf := ite_f hf c10
        refine lv_lload_n hx hb dX3_odds_80 rfl (lv_at hl 5 rfl) ?_
        refine lv_lload hx hb dX3_odds_81 (lv_at hl 1 rfl) ?_
        refine lv_ladd hx hb dX3_odds_83 ?_
        refine lv_topl (fun v11 ev11 => ?_)
        have hf := nm_at ev11 hf
        refine lv_lstore_n (lv' := [(3, .long v11), (5, .long v7), (8, .long v6), (0, .ref (ad 0)), (1, .int x1), (2, .int x2), (7, .int x7)]) hx hb dX3_odds_84 rfl hl (by decide) rfl (fun ls hl => ?_)
        exact w3_odds_b85 hI C0 (f3_odds_b40 n) ih S x1 x2 v11 v7 x7 hf H locs ls hP hS (lv_sub hl [3, 4, 5, 0, 1, 6] rfl)
set_option maxHeartbeats 4000000 in
set_option maxRecDepth 100000 in
theorem w3_odds {p : Program} {l : Launch} {e : Env} {s : State} {m : MethodId} {args : Array Value} {below : List Frame} {meth : Method} {c : Code} {D : va_G} {K : Nat → ClassId} {ad : Nat → Nat} {tL : Nat} (hI : INJ NC ad) (C0 : Cx p s m args meth c RX3 wsX3_odds cX3_odds 10 (some .int) (KC D K tL (IW NC ad))) {r : Int32} {T : Mem} : ∀ (S : Mem) (x1 : Int32) (x2 : Int32), f3_odds S x1 x2 = some (r, T) → ∀ (H : Heap) (locs : List Loc) (ls : Array Slot), va_P D vwCl (wl NC ad (EC K ad S)) H → va_S (IW NC ad) s.heap H locs → lv_has ls 10 [(0, .ref (ad 0)), (1, .int x1), (2, .int x2)] → W p l e rm3_odds s m args below meth c H locs 0 0 (MQ below (va_Qi (fun (x : Int32) (u : Mem) => x = r ∧ u = T) (fun u t => va_P D vwCl (wl NC ad (EC K ad u)) t.heap) (IW NC ad)) args s 0 0 (IW NC ad)) (F0 m 0 ls []) := by
  have hx := C0.1
  have hb := C0.2.1
  have hts := C0.2.2.2.2.1
  have hown := C0.2.2.2.1
  have hKC := C0.2.2.2.2.2.2.2
  intro S x1 x2 hf H locs ls hP hS hl
  rw [f3_odds] at hf
  refine lv_iload_n hx hb dX3_odds_0 rfl (lv_at hl 1 rfl) ?_
  refine lv_if_lt (tgt := 17) hx hb dX3_odds_1 (by decide) (fun c1 => ?_) (fun c1 => ?_)
  · have hf := ite_t hf c1
    refine lv_iconst (v := (-1)) hx hb dX3_odds_17 (by decide) ?_
    exact ret_i C0 hP hS (congrArg Prod.fst (Option.some.inj hf)) (congrArg Prod.snd (Option.some.inj hf)) dX3_odds_18
  · have hf := ite_f hf c1
    refine lv_iload_n hx hb dX3_odds_4 rfl (lv_at hl 1 rfl) ?_
    refine lv_bipush (v := 7) hx hb dX3_odds_5 (by decide) ?_
    refine lv_icmp_gt (tgt := 17) hx hb dX3_odds_7 (by decide) (fun c2 => ?_) (fun c2 => ?_)
    · have hf := ite_t hf c2
      refine lv_iconst (v := (-1)) hx hb dX3_odds_17 (by decide) ?_
      exact ret_i C0 hP hS (congrArg Prod.fst (Option.some.inj hf)) (congrArg Prod.snd (Option.some.inj hf)) dX3_odds_18
    · have hf := ite_f hf c2
      refine lv_iload_n hx hb dX3_odds_10 rfl (lv_at hl 2 rfl) ?_
      obtain ⟨v4, h3, hf⟩ := b1_some hf
      refine sys_i hS (sys_runS (As := [.int x2]) (rest := []) C0 KC_ok hP hS (m3_isTwelfths l D K ad tL hI S x2 h3) gX3_odds_X3_isTwelfths rfl ⟨rfl, rfl⟩ hd_X3_isTwelfths ⟨Nat.le_of_ble_eq_true rfl, Nat.le_of_ble_eq_true rfl⟩ hl.1 rfl (Nat.le_of_ble_eq_true rfl) dX3_odds_11 ⟨Nat.le_refl _, Nat.le_refl _⟩) (fun H locs hP hS => ?_)
      refine lv_if_ne (tgt := 19) hx hb dX3_odds_14 (by decide) (fun c5 => ?_) (fun c5 => ?_)
      · have hf := ite_f hf c5
        refine lv_aload_n hx hb dX3_odds_19 rfl (lv_at hl 0 rfl) ?_
        refine x_get C0 hKC.1 hP (by decide) (EC_0 K ad S) rfl in_X3_odds_X3 4 (by decide) (List.mem_of_getElem? (i := 1) rfl) rfl dX3_odds_20 ?_
        refine x_get C0 hKC.1 hP (by decide) (EC_H K ad S) rfl in_X3_odds_X0 3 (by decide) (List.mem_of_getElem? (i := 2) rfl) rfl dX3_odds_23 ?_
        refine lv_if_ne (tgt := 32) hx hb dX3_odds_26 (by decide) (fun c6 => ?_) (fun c6 => ?_)
        · have hf := ite_f hf c6
          refine lv_lconst (v := 0) hx hb dX3_odds_32 (by decide) ?_
          refine lv_lstore_n (lv' := [(3, .long 0), (0, .ref (ad 0)), (1, .int x1), (2, .int x2)]) hx hb dX3_odds_33 rfl hl (by decide) rfl (fun ls hl => ?_)
          refine lv_lconst (v := 0) hx hb dX3_odds_34 (by decide) ?_
          refine lv_lstore (lv' := [(5, .long 0), (3, .long 0), (0, .ref (ad 0)), (1, .int x1), (2, .int x2)]) hx hb dX3_odds_35 hl (by decide) rfl (fun ls hl => ?_)
          refine lv_iconst (v := 0) hx hb dX3_odds_37 (by decide) ?_
          refine lv_istore (lv' := [(7, .int 0), (5, .long 0), (3, .long 0), (0, .ref (ad 0)), (1, .int x1), (2, .int x2)]) hx hb dX3_odds_38 hl (by decide) rfl (fun ls hl => ?_)
          exact w3_odds_b40 hI C0 FU S x1 x2 0 0 0 hf H locs ls hP hS (lv_sub hl [3, 4, 5, 2, 1, 0] rfl)
        · have hf := ite_t hf c6
          refine lv_bipush (v := (-4)) hx hb dX3_odds_29 (by decide) ?_
          exact ret_i C0 hP hS (congrArg Prod.fst (Option.some.inj hf)) (congrArg Prod.snd (Option.some.inj hf)) dX3_odds_31
      · have hf := ite_t hf c5
        refine lv_iconst (v := (-1)) hx hb dX3_odds_17 (by decide) ?_
        exact ret_i C0 hP hS (congrArg Prod.fst (Option.some.inj hf)) (congrArg Prod.snd (Option.some.inj hf)) dX3_odds_18
theorem m3_odds (l : Launch) (D : va_G) (K : Nat → ClassId) (ad : Nat → Nat) (tL : Nat) (hI : INJ NC ad) (S : Mem) (x1 : Int32) (x2 : Int32) {r : Int32} {T : Mem} (hf : f3_odds S x1 x2 = some (r, T)) : SysI l yX3_odds wsX3_odds rm3_odds D NC ad (EC K ad) (KC D K tL (IW NC ad)) [.ref (ad 0), .int x1, .int x2] S r T :=
  met_of (own := RX3) (by decide) rfl rfl (Nat.le_of_ble_eq_true rfl) (fun _ _ s _ _ _ _ ls C0 _ hP hl => w3_odds hI C0 S x1 x2 hf s.heap [] ls hP va_S.rf hl)
