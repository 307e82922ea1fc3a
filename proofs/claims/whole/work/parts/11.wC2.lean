theorem in_X2_isFull_X2 : ∀ w ∈ wsX20, w ∈ wsX2_isFull := fun _ h => List.mem_cons_of_mem _ (List.mem_append_right _ h)
theorem hd_X2_isFull : yX2_isFull.cls = RX2 ∧ yX2_isFull.cls ≠ "java/lang/invoke/MethodHandle" ∧ yX2_isFull.cls ≠ "java/lang/invoke/VarHandle" ∧ (parseMethodDescriptor yX2_isFull.desc).map (fun d => d.parameters.length) = some 0 := by decide +kernel
abbrev rm2_isFull : Room := { frames := 0, cells := 0, slots := 0, locals := 0 }
set_option maxHeartbeats 4000000 in
set_option maxRecDepth 100000 in
theorem w2_isFull {p : Program} {l : Launch} {e : Env} {s : State} {m : MethodId} {args : Array Value} {below : List Frame} {meth : Method} {c : Code} {D : va_G} {K : Nat → ClassId} {ad : Nat → Nat} {tL : Nat} (hI : INJ NC ad) (C0 : Cx p s m args meth c RX2 wsX2_isFull cX2_isFull 1 (some .boolean) (KC D K tL (IW NC ad))) (S : Mem) {r : Int32} : ∀ (s0 : Nat), s0 < 4 → f2_isFull S s0 = some r → ∀ (H : Heap) (locs : List Loc) (ls : Array Slot), va_P D vwCl (wl NC ad (EC K ad S)) H → va_S (IW NC ad) s.heap H locs → lv_has ls 1 [(0, .ref (ad (22 + s0)))] → W p l e rm2_isFull s m args below meth c H locs 0 0 (MQ below (va_Qi (fun (x : Int32) (u : Mem) => x = r ∧ u = S) (fun u t => va_P D vwCl (wl NC ad (EC K ad u)) t.heap) (IW NC ad)) args s 0 0 (IW NC ad)) (F0 m 0 ls []) := by
  have hx := C0.1
  have hb := C0.2.1
  have hts := C0.2.2.2.2.1
  have hown := C0.2.2.2.1
  have hKC := C0.2.2.2.2.2.2.2
  intro s0 hs0 hf H locs ls hP hS hl
  rw [f2_isFull] at hf
  refine lv_aload_n hx hb dX2_isFull_0 rfl (lv_at hl 0 rfl) ?_
  refine x_get C0 hKC.1 hP (ltS hs0) (EC_S K ad S hs0) rfl in_X2_isFull_X2 1 (by decide) (List.mem_of_getElem? (i := 1) rfl) rfl dX2_isFull_1 ?_
  refine lv_bipush (v := 40) hx hb dX2_isFull_4 (by decide) ?_
  refine lv_icmp_lt (tgt := 13) hx hb dX2_isFull_6 (by decide) (fun c1 => ?_) (fun c1 => ?_)
  · have hf := ite_t hf c1
    refine lv_iconst (v := 0) hx hb dX2_isFull_13 (by decide) ?_
    exact ret_z C0 hP hS (Or.inl rfl) (Option.some.inj hf) rfl dX2_isFull_14
  · have hf := ite_f hf c1
    refine lv_iconst (v := 1) hx hb dX2_isFull_9 (by decide) ?_
    refine lv_goto (tgt := 14) hx hb dX2_isFull_10 (by decide) ?_
    exact ret_z C0 hP hS (Or.inr rfl) (Option.some.inj hf) rfl dX2_isFull_14
theorem m2_isFull (l : Launch) (D : va_G) (K : Nat → ClassId) (ad : Nat → Nat) (tL : Nat) (hI : INJ NC ad) (S : Mem) (s0 : Nat) (hs0 : s0 < 4) {r : Int32} (hf : f2_isFull S s0 = some r) : SysI l yX2_isFull wsX2_isFull rm2_isFull D NC ad (EC K ad) (KC D K tL (IW NC ad)) [.ref (ad (22 + s0))] S r S :=
  met_of (own := RX2) (by decide) rfl rfl (Nat.le_of_ble_eq_true rfl) (fun _ _ s _ _ _ _ ls C0 _ hP hl => w2_isFull hI C0 S s0 hs0 hf s.heap [] ls hP va_S.rf hl)
theorem in_X1_become_X1 : ∀ w ∈ wsX10, w ∈ wsX1_become := fun _ h => List.mem_cons_of_mem _ (List.mem_append_right _ h)
theorem hd_X1_become : yX1_become.cls = RX1 ∧ yX1_become.cls ≠ "java/lang/invoke/MethodHandle" ∧ yX1_become.cls ≠ "java/lang/invoke/VarHandle" ∧ (parseMethodDescriptor yX1_become.desc).map (fun d => d.parameters.length) = some 1 := by decide +kernel
abbrev rm1_become : Room := { frames := 1, cells := 0, slots := 0, locals := 96 }
set_option maxHeartbeats 4000000 in
set_option maxRecDepth 100000 in
theorem w1_become {p : Program} {l : Launch} {e : Env} {s : State} {m : MethodId} {args : Array Value} {below : List Frame} {meth : Method} {c : Code} {D : va_G} {K : Nat → ClassId} {ad : Nat → Nat} {tL : Nat} (hI : INJ NC ad) (C0 : Cx p s m args meth c RX1 wsX1_become cX1_become 2 none (KC D K tL (IW NC ad))) {T : Mem} : ∀ (S : Mem) (q0 : Nat) (q1 : Nat), q0 < 165 → q1 < 165 → f1_become S q0 q1 = some T → ∀ (H : Heap) (locs : List Loc) (ls : Array Slot), va_P D vwCl (wl NC ad (EC K ad S)) H → va_S (IW NC ad) s.heap H locs → lv_has ls 2 [(0, .ref (ad (30 + q0))), (1, .ref (ad (30 + q1)))] → W p l e rm1_become s m args below meth c H locs 0 0 (MQ below (va_Qv (fun (u : Mem) => u = T) (fun u t => va_P D vwCl (wl NC ad (EC K ad u)) t.heap) (IW NC ad)) args s 0 0 (IW NC ad)) (F0 m 0 ls []) := by
  have hx := C0.1
  have hb := C0.2.1
  have hts := C0.2.2.2.2.1
  have hown := C0.2.2.2.1
  have hKC := C0.2.2.2.2.2.2.2
  intro S q0 q1 hq0 hq1 hf H locs ls hP hS hl
  rw [f1_become] at hf
  refine lv_aload_n hx hb dX1_become_0 rfl (lv_at hl 1 rfl) ?_
  refine x_get C0 hKC.1 hP (ltM hq1) (EC_M K ad S hq1) rfl in_X1_become_X1 0 (by decide) (List.mem_of_getElem? (i := 1) rfl) rfl dX1_become_1 ?_
  refine lv_iconst (v := 0) hx hb dX1_become_4 (by decide) ?_
  refine lv_aload_n hx hb dX1_become_5 rfl (lv_at hl 0 rfl) ?_
  refine x_get C0 hKC.1 hP (ltM hq0) (EC_M K ad S hq0) rfl in_X1_become_X1 0 (by decide) (List.mem_of_getElem? (i := 1) rfl) rfl dX1_become_6 ?_
  refine lv_iconst (v := 0) hx hb dX1_become_9 (by decide) ?_
  refine lv_bipush (v := 7) hx hb dX1_become_10 (by decide) ?_
  obtain ⟨g1, hf⟩ := gd_some hf
  refine x_copy C0 hKC.1 hI (EC_loc K ad) hP hS hl.1 (List.mem_of_getElem? (i := 2) rfl) (List.mem_of_getElem? (i := 3) rfl) (List.mem_of_getElem? (i := 4) rfl) (List.mem_of_getElem? (i := 5) rfl) (IC_jar K ad hq1) (IC_jar K ad hq0) (t0 := 0) rfl g1 (Nat.le_of_ble_eq_true rfl) (Nat.le_of_ble_eq_true rfl) dX1_become_12 (fun S2 eS2 H locs hP hS => ?_)
  have hf := nm_at eS2 hf
  refine lv_aload_n hx hb dX1_become_15 rfl (lv_at hl 0 rfl) ?_
  refine lv_aload_n hx hb dX1_become_16 rfl (lv_at hl 1 rfl) ?_
  refine x_get C0 hKC.1 hP (ltM hq1) (EC_M K ad S2 hq1) rfl in_X1_become_X1 1 (by decide) (List.mem_of_getElem? (i := 6) rfl) rfl dX1_become_17 ?_
  refine x_puti C0 hKC.1 hI (EC_loc K ad) hP hS (ltM hq0) (EC_M K ad S2 hq0) rfl tyX1 tyX1_ok nmX1 in_X1_become_X1 1 (by decide) (List.mem_of_getElem? (i := 6) rfl) rfl (tyX1_ok 1 (by decide)) (Nat.le_of_ble_eq_true rfl) (EC_pM1 K ad S2 _ hq0) dX1_become_20 (fun S3 eS3 H locs hP hS => ?_)
  have hf := nm_at eS3 hf
  refine lv_aload_n hx hb dX1_become_23 rfl (lv_at hl 0 rfl) ?_
  refine lv_aload_n hx hb dX1_become_24 rfl (lv_at hl 1 rfl) ?_
  refine x_get C0 hKC.1 hP (ltM hq1) (EC_M K ad S3 hq1) rfl in_X1_become_X1 2 (by decide) (List.mem_of_getElem? (i := 7) rfl) rfl dX1_become_25 ?_
  refine x_puti C0 hKC.1 hI (EC_loc K ad) hP hS (ltM hq0) (EC_M K ad S3 hq0) rfl tyX1 tyX1_ok nmX1 in_X1_become_X1 2 (by decide) (List.mem_of_getElem? (i := 7) rfl) rfl (tyX1_ok 2 (by decide)) (Nat.le_of_ble_eq_true rfl) (EC_pM2 K ad S3 _ hq0) dX1_become_28 (fun S4 eS4 H locs hP hS => ?_)
  have hf := nm_at eS4 hf
  exact ret_v C0 hP hS (Option.some.inj hf) dX1_become_31
theorem m1_become (l : Launch) (D : va_G) (K : Nat → ClassId) (ad : Nat → Nat) (tL : Nat) (hI : INJ NC ad) (S : Mem) (q0 : Nat) (q1 : Nat) (hq0 : q0 < 165) (hq1 : q1 < 165) {T : Mem} (hf : f1_become S q0 q1 = some T) : SysV l yX1_become wsX1_become rm1_become D NC ad (EC K ad) (KC D K tL (IW NC ad)) [.ref (ad (30 + q0)), .ref (ad (30 + q1))] S T :=
  met_of (own := RX1) (by decide) rfl rfl (Nat.le_of_ble_eq_true rfl) (fun _ _ s _ _ _ _ ls C0 _ hP hl => w1_become hI C0 S q0 q1 hq0 hq1 hf s.heap [] ls hP va_S.rf hl)
theorem in_X2_next_X2 : ∀ w ∈ wsX20, w ∈ wsX2_next := fun _ h => List.mem_cons_of_mem _ (List.mem_append_left _ (List.mem_append_right _ h))
theorem in_X2_next_X1 : ∀ w ∈ wsX10, w ∈ wsX2_next := fun _ h => List.mem_cons_of_mem _ (List.mem_append_right _ h)
theorem hd_X2_next : yX2_next.cls = RX2 ∧ yX2_next.cls ≠ "java/lang/invoke/MethodHandle" ∧ yX2_next.cls ≠ "java/lang/invoke/VarHandle" ∧ (parseMethodDescriptor yX2_next.desc).map (fun d => d.parameters.length) = some 0 := by decide +kernel
abbrev rm2_next : Room := { frames := 2, cells := 0, slots := 0, locals := 117 }
set_option maxHeartbeats 4000000 in
set_option maxRecDepth 100000 in
theorem w2_next {p : Program} {l : Launch} {e : Env} {s : State} {m : MethodId} {args : Array Value} {below : List Frame} {meth : Method} {c : Code} {D : va_G} {K : Nat → ClassId} {ad : Nat → Nat} {tL : Nat} (hI : INJ NC ad) (C0 : Cx p s m args meth c RX2 wsX2_next cX2_next 1 (some (.object "LuckJars$Moment")) (KC D K tL (IW NC ad))) {r : Nat} {T : Mem} : ∀ (S : Mem) (s0 : Nat), s0 < 4 → f2_next S s0 = some (r, T) → ∀ (H : Heap) (locs : List Loc) (ls : Array Slot), va_P D vwCl (wl NC ad (EC K ad S)) H → va_S (IW NC ad) s.heap H locs → lv_has ls 1 [(0, .ref (ad (22 + s0)))] → W p l e rm2_next s m args below meth c H locs 0 0 (MQ below (va_Qr (fun (u : Mem) => u = T) (fun u b t => b = ad (30 + r) ∧ va_P D vwCl (wl NC ad (EC K ad u)) t.heap) (IW NC ad)) args s 0 0 (IW NC ad)) (F0 m 0 ls []) := by
  have hx := C0.1
  have hb := C0.2.1
  have hts := C0.2.2.2.2.1
  have hown := C0.2.2.2.1
  have hKC := C0.2.2.2.2.2.2.2
  intro S s0 hs0 hf H locs ls hP hS hl
  rw [f2_next] at hf
  refine lv_aload_n hx hb dX2_next_0 rfl (lv_at hl 0 rfl) ?_
  refine x_get C0 hKC.1 hP (ltS hs0) (EC_S K ad S hs0) rfl in_X2_next_X2 0 (by decide) (List.mem_of_getElem? (i := 1) rfl) rfl dX2_next_1 ?_
  refine lv_aload_n hx hb dX2_next_4 rfl (lv_at hl 0 rfl) ?_
  refine x_get C0 hKC.1 hP (ltS hs0) (EC_S K ad S hs0) rfl in_X2_next_X2 1 (by decide) (List.mem_of_getElem? (i := 2) rfl) rfl dX2_next_5 ?_
  refine lv_iconst (v := 1) hx hb dX2_next_8 (by decide) ?_
  refine lv_iadd hx hb dX2_next_9 ?_
  obtain ⟨g1, hf⟩ := gd_some hf
  refine x_aald C0 hKC.1 hP (ltMA hs0) (EC_MA K ad S hs0) (t0 := 2) rfl rfl g1 dX2_next_10 ?_
  refine lv_aload_n hx hb dX2_next_11 rfl (lv_at hl 0 rfl) ?_
  refine x_get C0 hKC.1 hP (ltS hs0) (EC_S K ad S hs0) rfl in_X2_next_X2 0 (by decide) (List.mem_of_getElem? (i := 1) rfl) rfl dX2_next_12 ?_
  refine lv_aload_n hx hb dX2_next_15 rfl (lv_at hl 0 rfl) ?_
  refine x_get C0 hKC.1 hP (ltS hs0) (EC_S K ad S hs0) rfl in_X2_next_X2 1 (by decide) (List.mem_of_getElem? (i := 2) rfl) rfl dX2_next_16 ?_
  obtain ⟨g2, hf⟩ := gd_some hf
  refine x_aald C0 hKC.1 hP (ltMA hs0) (EC_MA K ad S hs0) (t0 := 2) rfl rfl g2 dX2_next_19 ?_
  obtain ⟨S4, h3, hf⟩ := b1_some hf
  refine sys_v hS (sys_runV (As := [.ref (ad (30 + (41 * s0 + (ix (gi S (22 + s0) 1)))))]) (rest := []) C0 KC_ok hKC.1 hP hS (ltM (ltQ hs0 (inb_lt g1))) (EC_M K ad S (ltQ hs0 (inb_lt g1))) rfl (m1_become l D K ad tL hI S (41 * s0 + (ix ((gi S (22 + s0) 1) + 1))) (41 * s0 + (ix (gi S (22 + s0) 1))) (ltQ hs0 (inb_lt g1)) (ltQ hs0 (inb_lt g2)) h3) gX2_next_X1_become rfl ⟨rfl, rfl⟩ hd_X1_become ⟨Nat.le_of_ble_eq_true rfl, Nat.le_of_ble_eq_true rfl⟩ hl.1 rfl (Nat.le_of_ble_eq_true rfl) dX2_next_20 ⟨Nat.le_refl _, Nat.le_refl _⟩) (fun H locs hP hS => ?_)
  refine lv_aload_n hx hb dX2_next_23 rfl (lv_at hl 0 rfl) ?_
  refine lv_dup hx hb dX2_next_24 rfl ?_
  refine x_get C0 hKC.1 hP (ltS hs0) (EC_S K ad S4 hs0) rfl in_X2_next_X2 1 (by decide) (List.mem_of_getElem? (i := 2) rfl) rfl dX2_next_25 ?_
  refine lv_iconst (v := 1) hx hb dX2_next_28 (by decide) ?_
  refine lv_iadd hx hb dX2_next_29 ?_
  refine x_puti C0 hKC.1 hI (EC_loc K ad) hP hS (ltS hs0) (EC_S K ad S4 hs0) rfl tyX2 tyX2_ok nmX2 in_X2_next_X2 1 (by decide) (List.mem_of_getElem? (i := 2) rfl) rfl (tyX2_ok 1 (by decide)) (Nat.le_of_ble_eq_true rfl) (EC_pS K ad S4 _ hs0) dX2_next_30 (fun S5 eS5 H locs hP hS => ?_)
  have hf := nm_at eS5 hf
  refine lv_aload_n hx hb dX2_next_33 rfl (lv_at hl 0 rfl) ?_
  refine x_get C0 hKC.1 hP (ltS hs0) (EC_S K ad S5 hs0) rfl in_X2_next_X2 0 (by decide) (List.mem_of_getElem? (i := 1) rfl) rfl dX2_next_34 ?_
  refine lv_aload_n hx hb dX2_next_37 rfl (lv_at hl 0 rfl) ?_
  refine x_get C0 hKC.1 hP (ltS hs0) (EC_S K ad S5 hs0) rfl in_X2_next_X2 1 (by decide) (List.mem_of_getElem? (i := 2) rfl) rfl dX2_next_38 ?_
  obtain ⟨g6, hf⟩ := gd_some hf
  refine x_aald C0 hKC.1 hP (ltMA hs0) (EC_MA K ad S5 hs0) (t0 := 2) rfl rfl g6 dX2_next_41 ?_
  exact ret_r C0 hP hS (congrArg (fun z => 30 + z) (congrArg Prod.fst (Option.some.inj hf))) (congrArg Prod.snd (Option.some.inj hf)) dX2_next_42
theorem m2_next (l : Launch) (D : va_G) (K : Nat → ClassId) (ad : Nat → Nat) (tL : Nat) (hI : INJ NC ad) (S : Mem) (s0 : Nat) (hs0 : s0 < 4) {r : Nat} {T : Mem} (hf : f2_next S s0 = some (r, T)) : SysR l yX2_next wsX2_next rm2_next D NC ad (EC K ad) (KC D K tL (IW NC ad)) [.ref (ad (22 + s0))] S (30 + r) T :=
  met_of (own := RX2) (by decide) rfl rfl (Nat.le_of_ble_eq_true rfl) (fun _ _ s _ _ _ _ ls C0 _ hP hl => w2_next hI C0 S s0 hs0 hf s.heap [] ls hP va_S.rf hl)
theorem in_X0_jarBehind_X0 : ∀ w ∈ wsX00, w ∈ wsX0_jarBehind := fun _ h => List.mem_cons_of_mem _ (List.mem_append_right _ h)
theorem hd_X0_jarBehind : yX0_jarBehind.cls = RX0 ∧ yX0_jarBehind.cls ≠ "java/lang/invoke/MethodHandle" ∧ yX0_jarBehind.cls ≠ "java/lang/invoke/VarHandle" ∧ (parseMethodDescriptor yX0_jarBehind.desc).map (fun d => d.parameters.length) = some 3 := by decide +kernel
abbrev rm0_jarBehind : Room := { frames := 1, cells := 0, slots := 0, locals := 32 }
set_option maxHeartbeats 4000000 in
set_option maxRecDepth 100000 in
theorem w0_jarBehind {p : Program} {l : Launch} {e : Env} {s : State} {m : MethodId} {args : Array Value} {below : List Frame} {meth : Method} {c : Code} {D : va_G} {K : Nat → ClassId} {ad : Nat → Nat} {tL : Nat} (hI : INJ NC ad) (C0 : Cx p s m args meth c RX0 wsX0_jarBehind cX0_jarBehind 4 (some .int) (KC D K tL (IW NC ad))) (S : Mem) {r : Int32} : ∀ (x1 : Int32) (x2 : Int32) (x3 : Int32), f0_jarBehind S x1 x2 x3 = some r → ∀ (H : Heap) (locs : List Loc) (ls : Array Slot), va_P D vwCl (wl NC ad (EC K ad S)) H → va_S (IW NC ad) s.heap H locs → lv_has ls 4 [(0, .ref (ad 15)), (1, .int x1), (2, .int x2), (3, .int x3)] → W p l e rm0_jarBehind s m args below meth c H locs 0 0 (MQ below (va_Qi (fun (x : Int32) (u : Mem) => x = r ∧ u = S) (fun u t => va_P D vwCl (wl NC ad (EC K ad u)) t.heap) (IW NC ad)) args s 0 0 (IW NC ad)) (F0 m 0 ls []) := by
  have hx := C0.1
  have hb := C0.2.1
  have hts := C0.2.2.2.2.1
  have hown := C0.2.2.2.1
  have hKC := C0.2.2.2.2.2.2.2
  intro x1 x2 x3 hf H locs ls hP hS hl
  rw [f0_jarBehind] at hf
  refine lv_bipush (v := 99) hx hb dX0_jarBehind_0 (by decide) ?_
  refine lv_iload_n hx hb dX0_jarBehind_2 rfl (lv_at hl 2 rfl) ?_
  refine lv_iload_n hx hb dX0_jarBehind_3 rfl (lv_at hl 3 rfl) ?_
  refine lv_aload_n hx hb dX0_jarBehind_4 rfl (lv_at hl 0 rfl) ?_
  refine x_get C0 hKC.1 hP (by decide) (EC_H K ad S) rfl in_X0_jarBehind_X0 1 (by decide) (List.mem_of_getElem? (i := 1) rfl) rfl dX0_jarBehind_5 ?_
  refine lv_iload_n hx hb dX0_jarBehind_8 rfl (lv_at hl 1 rfl) ?_
  obtain ⟨g1, hf⟩ := gd_some hf
  refine x_iald C0 hKC.1 hP (IC_17 K ad) (t0 := 0) rfl g1 dX0_jarBehind_9 ?_
  refine lv_imul hx hb dX0_jarBehind_10 ?_
  refine lv_iadd hx hb dX0_jarBehind_11 ?_
  refine va_mmin hx hb (C0.2.2.1.trans hl.1.symm) hown (hts _ (List.mem_of_getElem? (i := 2) rfl)) (hts _ (List.mem_of_getElem? (i := 3) rfl)) (hts _ (List.mem_of_getElem? (i := 4) rfl)) (hts _ (List.mem_of_getElem? (i := 5) rfl)) (Nat.le_of_ble_eq_true rfl) (Nat.le_of_ble_eq_true rfl) (Nat.le_refl _) (Nat.le_refl _) dX0_jarBehind_12 ?_
  exact ret_i C0 hP hS (Option.some.inj hf) rfl dX0_jarBehind_15
theorem m0_jarBehind (l : Launch) (D : va_G) (K : Nat → ClassId) (ad : Nat → Nat) (tL : Nat) (hI : INJ NC ad) (S : Mem) (x1 : Int32) (x2 : Int32) (x3 : Int32) {r : Int32} (hf : f0_jarBehind S x1 x2 x3 = some r) : SysI l yX0_jarBehind wsX0_jarBehind rm0_jarBehind D NC ad (EC K ad) (KC D K tL (IW NC ad)) [.ref (ad 15), .int x1, .int x2, .int x3] S r S :=
  met_of (own := RX0) (by decide) rfl rfl (Nat.le_of_ble_eq_true rfl) (fun _ _ s _ _ _ _ ls C0 _ hP hl => w0_jarBehind hI C0 S x1 x2 x3 hf s.heap [] ls hP va_S.rf hl)
theorem in_X1_passDays_X0 : ∀ w ∈ wsX00, w ∈ wsX1_passDays := fun _ h => List.mem_cons_of_mem _ (List.mem_append_left _ (List.mem_append_right _ h))
theorem in_X1_passDays_X1 : ∀ w ∈ wsX10, w ∈ wsX1_passDays := fun _ h => List.mem_cons_of_mem _ (List.mem_append_right _ h)
theorem hd_X1_passDays : yX1_passDays.cls = RX1 ∧ yX1_passDays.cls ≠ "java/lang/invoke/MethodHandle" ∧ yX1_passDays.cls ≠ "java/lang/invoke/VarHandle" ∧ (parseMethodDescriptor yX1_passDays.desc).map (fun d => d.parameters.length) = some 2 := by decide +kernel
abbrev rm1_passDays : Room := { frames := 2, cells := 0, slots := 0, locals := 55 }
set_option maxHeartbeats 4000000 in
set_option maxRecDepth 100000 in
theorem w1_passDays_b2 {p : Program} {l : Launch} {e : Env} {s : State} {m : MethodId} {args : Array Value} {below : List Frame} {meth : Method} {c : Code} {D : va_G} {K : Nat → ClassId} {ad : Nat → Nat} {tL : Nat} (hI : INJ NC ad) (C0 : Cx p s m args meth c RX1 wsX1_passDays cX1_passDays 4 none (KC D K tL (IW NC ad))) {T : Mem} : ∀ (n : Nat), ∀ (S : Mem) (q0 : Nat) (x2 : Int32) (x3 : Int32), q0 < 165 → f1_passDays_b2 n S q0 x2 x3 = some T → ∀ (H : Heap) (locs : List Loc) (ls : Array Slot), va_P D vwCl (wl NC ad (EC K ad S)) H → va_S (IW NC ad) s.heap H locs → lv_has ls 4 [(0, .ref (ad (30 + q0))), (1, .ref (ad 15)), (2, .int x2), (3, .int x3)] → W p l e rm1_passDays s m args below meth c H locs 0 0 (MQ below (va_Qv (fun (u : Mem) => u = T) (fun u t => va_P D vwCl (wl NC ad (EC K ad u)) t.heap) (IW NC ad)) args s 0 0 (IW NC ad)) (F0 m 2 ls []) := by
  have hx := C0.1
  have hb := C0.2.1
  have hts := C0.2.2.2.2.1
  have hown := C0.2.2.2.1
  have hKC := C0.2.2.2.2.2.2.2
  intro n
  induction n with
  | zero =>
    intro S q0 x2 x3 hq0 hf
    rw [f1_passDays_b2] at hf
    cases hf
  | succ n ih =>
    intro S q0 x2 x3 hq0 hf H locs ls hP hS hl
    rw [f1_passDays_b2] at hf
    refine lv_iload_n hx hb dX1_passDays_2 rfl (lv_at hl 3 rfl) ?_
    refine lv_aload_n hx hb dX1_passDays_3 rfl (lv_at hl 1 rfl) ?_
    refine x_get C0 hKC.1 hP (by decide) (EC_H K ad S) rfl in_X1_passDays_X0 3 (by decide) (List.mem_of_getElem? (i := 1) rfl) rfl dX1_passDays_4 ?_
    refine lv_icmp_ge (tgt := 34) hx hb dX1_passDays_7 (by decide) (fun c1 => ?_) (fun c1 => ?_)
    · have hf := ite_t hf c1
      refine lv_aload_n hx hb dX1_passDays_34 rfl (lv_at hl 0 rfl) ?_
      refine lv_dup hx hb dX1_passDays_35 rfl ?_
      refine x_get C0 hKC.1 hP (ltM hq0) (EC_M K ad S hq0) rfl in_X1_passDays_X1 1 (by decide) (List.mem_of_getElem? (i := 3) rfl) rfl dX1_passDays_36 ?_
      refine lv_iload_n hx hb dX1_passDays_39 rfl (lv_at hl 2 rfl) ?_
      refine lv_iadd hx hb dX1_passDays_40 ?_
      refine x_puti C0 hKC.1 hI (EC_loc K ad) hP hS (ltM hq0) (EC_M K ad S hq0) rfl tyX1 tyX1_ok nmX1 in_X1_passDays_X1 1 (by decide) (List.mem_of_getElem? (i := 3) rfl) rfl (tyX1_ok 1 (by decide)) (Nat.le_of_ble_eq_true rfl) (EC_pM1 K ad S _ hq0) dX1_passDays_41 (fun S2 eS2 H locs hP hS => ?_)
      have hf := nm_at eS2 hf
      exact ret_v C0 hP hS (Option.some.inj hf) dX1_passDays_44
    · have hf := ite_f hf c1
      refine lv_aload_n hx hb dX1_passDays_10 rfl (lv_at hl 0 rfl) ?_
      refine x_get C0 hKC.1 hP (ltM hq0) (EC_M K ad S hq0) rfl in_X1_passDays_X1 0 (by decide) (List.mem_of_getElem? (i := 2) rfl) rfl dX1_passDays_11 ?_
      refine lv_iload_n hx hb dX1_passDays_14 rfl (lv_at hl 3 rfl) ?_
      refine lv_aload_n hx hb dX1_passDays_15 rfl (lv_at hl 1 rfl) ?_
      refine lv_iload_n hx hb dX1_passDays_16 rfl (lv_at hl 3 rfl) ?_
      refine lv_aload_n hx hb dX1_passDays_17 rfl (lv_at hl 0 rfl) ?_
      refine x_get C0 hKC.1 hP (ltM hq0) (EC_M K ad S hq0) rfl in_X1_passDays_X1 0 (by decide) (List.mem_of_getElem? (i := 2) rfl) rfl dX1_passDays_18 ?_
      refine lv_iload_n hx hb dX1_passDays_21 rfl (lv_at hl 3 rfl) ?_
      obtain ⟨g3, hf⟩ := gd_some hf
      refine x_iald C0 hKC.1 hP (IC_jar K ad hq0) (t0 := 0) rfl g3 dX1_passDays_22 ?_
      refine lv_iload_n hx hb dX1_passDays_23 rfl (lv_at hl 2 rfl) ?_
      obtain ⟨v5, h4, hf⟩ := b1_some hf
      refine sys_i hS (sys_runV (As := [.int x3, .int (gi S (195 + q0) (ix x3)), .int x2]) (rest := [.int x3, .ref (ad (195 + q0))]) C0 KC_ok hKC.1 hP hS (by decide) (EC_H K ad S) rfl (m0_jarBehind l D K ad tL hI S x3 (gi S (195 + q0) (ix x3)) x2 h4) gX1_passDays_X0_jarBehind rfl ⟨rfl, rfl⟩ hd_X0_jarBehind ⟨Nat.le_of_ble_eq_true rfl, Nat.le_of_ble_eq_true rfl⟩ hl.1 rfl (Nat.le_of_ble_eq_true rfl) dX1_passDays_24 ⟨Nat.le_refl _, Nat.le_refl _⟩) (fun H locs hP hS => ?_)
      obtain ⟨g6, hf⟩ := gd_some hf
      refine x_iast C0 hKC.1 hI (EC_loc K ad) hP hS (IC_jar K ad hq0) (t0 := 0) rfl g6 dX1_passDays_27 (fun S7 eS7 H locs hP hS => ?_)
      have hf := nm_at eS7 hf
      obtain ⟨v8, ev8⟩ : ∃ y : Int32, y = x3 + 1 := ⟨_, rfl⟩
      have hf := nm_at ev8 hf
      refine lv_iinc (v := v8) (lv' := [(3, .int v8), (0, .ref (ad (30 + q0))), (1, .ref (ad 15)), (2, .int x2)]) hx hb dX1_passDays_28 hl (k := 3) rfl (by rw [ev8]; rfl) (by decide) rfl (fun ls hl => ?_)
      refine lv_goto (tgt := 2) hx hb dX1_passDays_31 (by decide) ?_
      exact ih S7 q0 x2 v8 hq0 hf H locs ls hP hS (lv_sub hl [1, 2, 3, 0] rfl)
set_option maxHeartbeats 4000000 in
set_option maxRecDepth 100000 in
theorem w1_passDays {p : Program} {l : Launch} {e : Env} {s : State} {m : MethodId} {args : Array Value} {below : List Frame} {meth : Method} {c : Code} {D : va_G} {K : Nat → ClassId} {ad : Nat → Nat} {tL : Nat} (hI : INJ NC ad) (C0 : Cx p s m args meth c RX1 wsX1_passDays cX1_passDays 4 none (KC D K tL (IW NC ad))) {T : Mem} : ∀ (S : Mem) (q0 : Nat) (x2 : Int32), q0 < 165 → f1_passDays S q0 x2 = some T → ∀ (H : Heap) (locs : List Loc) (ls : Array Slot), va_P D vwCl (wl NC ad (EC K ad S)) H → va_S (IW NC ad) s.heap H locs → lv_has ls 4 [(0, .ref (ad (30 + q0))), (1, .ref (ad 15)), (2, .int x2)] → W p l e rm1_passDays s m args below meth c H locs 0 0 (MQ below (va_Qv (fun (u : Mem) => u = T) (fun u t => va_P D vwCl (wl NC ad (EC K ad u)) t.heap) (IW NC ad)) args s 0 0 (IW NC ad)) (F0 m 0 ls []) := by
  have hx := C0.1
  have hb := C0.2.1
  have hts := C0.2.2.2.2.1
  have hown := C0.2.2.2.1
  have hKC := C0.2.2.2.2.2.2.2
  intro S q0 x2 hq0 hf H locs ls hP hS hl
  rw [f1_passDays] at hf
  refine lv_iconst (v := 0) hx hb dX1_passDays_0 (by decide) ?_
  refine lv_istore_n (lv' := [(3, .int 0), (0, .ref (ad (30 + q0))), (1, .ref (ad 15)), (2, .int x2)]) hx hb dX1_passDays_1 rfl hl (by decide) rfl (fun ls hl => ?_)
  exact w1_passDays_b2 hI C0 FU S q0 x2 0 hq0 hf H locs ls hP hS (lv_sub hl [1, 2, 3, 0] rfl)
theorem m1_passDays (l : Launch) (D : va_G) (K : Nat → ClassId) (ad : Nat → Nat) (tL : Nat) (hI : INJ NC ad) (S : Mem) (q0 : Nat) (x2 : Int32) (hq0 : q0 < 165) {T : Mem} (hf : f1_passDays S q0 x2 = some T) : SysV l yX1_passDays wsX1_passDays rm1_passDays D NC ad (EC K ad) (KC D K tL (IW NC ad)) [.ref (ad (30 + q0)), .ref (ad 15), .int x2] S T :=
  met_of (own := RX1) (by decide) rfl rfl (Nat.le_of_ble_eq_true rfl) (fun _ _ s _ _ _ _ ls C0 _ hP hl => w1_passDays hI C0 S q0 x2 hq0 hf s.heap [] ls hP va_S.rf hl)
theorem in_X3_day_X3 : ∀ w ∈ wsX30, w ∈ wsX3_day := fun _ h => List.mem_cons_of_mem _ (List.mem_append_left _ (List.mem_append_left _ (List.mem_append_left _ (List.mem_append_right _ h))))
theorem in_X3_day_X0 : ∀ w ∈ wsX00, w ∈ wsX3_day := fun _ h => List.mem_cons_of_mem _ (List.mem_append_left _ (List.mem_append_left _ (List.mem_append_right _ h)))
theorem in_X3_day_X1 : ∀ w ∈ wsX10, w ∈ wsX3_day := fun _ h => List.mem_cons_of_mem _ (List.mem_append_left _ (List.mem_append_right _ h))
theorem in_X3_day_X2 : ∀ w ∈ wsX20, w ∈ wsX3_day := fun _ h => List.mem_cons_of_mem _ (List.mem_append_right _ h)
theorem hd_X3_day : yX3_day.cls = RX3 ∧ yX3_day.cls ≠ "java/lang/invoke/MethodHandle" ∧ yX3_day.cls ≠ "java/lang/invoke/VarHandle" ∧ (parseMethodDescriptor yX3_day.desc).map (fun d => d.parameters.length) = some 0 := by decide +kernel
abbrev rm3_day : Room := { frames := 3, cells := 0, slots := 0, locals := 137 }
set_option maxHeartbeats 4000000 in
set_option maxRecDepth 100000 in
theorem w3_day {p : Program} {l : Launch} {e : Env} {s : State} {m : MethodId} {args : Array Value} {below : List Frame} {meth : Method} {c : Code} {D : va_G} {K : Nat → ClassId} {ad : Nat → Nat} {tL : Nat} (hI : INJ NC ad) (C0 : Cx p s m args meth c RX3 wsX3_day cX3_day 2 (some .int) (KC D K tL (IW NC ad))) {r : Int32} {T : Mem} : ∀ (S : Mem), f3_day S = some (r, T) → ∀ (H : Heap) (locs : List Loc) (ls : Array Slot), va_P D vwCl (wl NC ad (EC K ad S)) H → va_S (IW NC ad) s.heap H locs → lv_has ls 2 [(0, .ref (ad 0))] → W p l e rm3_day s m args below meth c H locs 0 0 (MQ below (va_Qi (fun (x : Int32) (u : Mem) => x = r ∧ u = T) (fun u t => va_P D vwCl (wl NC ad (EC K ad u)) t.heap) (IW NC ad)) args s 0 0 (IW NC ad)) (F0 m 0 ls []) := by
  have hx := C0.1
  have hb := C0.2.1
  have hts := C0.2.2.2.2.1
  have hown := C0.2.2.2.1
  have hKC := C0.2.2.2.2.2.2.2
  intro S hf H locs ls hP hS hl
  rw [f3_day] at hf
  refine lv_aload_n hx hb dX3_day_0 rfl (lv_at hl 0 rfl) ?_
  refine x_get C0 hKC.1 hP (by decide) (EC_0 K ad S) rfl in_X3_day_X3 4 (by decide) (List.mem_of_getElem? (i := 1) rfl) rfl dX3_day_1 ?_
  refine x_get C0 hKC.1 hP (by decide) (EC_H K ad S) rfl in_X3_day_X0 3 (by decide) (List.mem_of_getElem? (i := 2) rfl) rfl dX3_day_4 ?_
  refine lv_if_eq (tgt := 25) hx hb dX3_day_7 (by decide) (fun c1 => ?_) (fun c1 => ?_)
  · have hf := ite_t hf c1
    refine lv_bipush (v := (-4)) hx hb dX3_day_25 (by decide) ?_
    exact ret_i C0 hP hS (congrArg Prod.fst (Option.some.inj hf)) (congrArg Prod.snd (Option.some.inj hf)) dX3_day_27
  · have hf := ite_f hf c1
    refine lv_aload_n hx hb dX3_day_10 rfl (lv_at hl 0 rfl) ?_
    refine x_get C0 hKC.1 hP (by decide) (EC_0 K ad S) rfl in_X3_day_X3 5 (by decide) (List.mem_of_getElem? (i := 3) rfl) rfl dX3_day_11 ?_
    obtain ⟨q3, h2, hf⟩ := b1_some hf
    obtain ⟨g4, hf⟩ := gd_some hf
    refine sys_r hS (sys_runV (As := []) (rest := []) C0 KC_ok hKC.1 hP hS (ltS (by decide : 0 < 4)) (EC_S K ad S (by decide : 0 < 4)) rfl (m2_now l D K ad tL hI S 0 (by decide : 0 < 4) h2) gX3_day_X2_now rfl ⟨rfl, rfl⟩ hd_X2_now ⟨Nat.le_of_ble_eq_true rfl, Nat.le_of_ble_eq_true rfl⟩ hl.1 rfl (Nat.le_of_ble_eq_true rfl) dX3_day_14 ⟨Nat.le_refl _, Nat.le_refl _⟩) (fun H locs hP hS => ?_)
    refine x_get C0 hKC.1 hP (ltM (of_decide_eq_true g4)) (EC_M K ad S (of_decide_eq_true g4)) rfl in_X3_day_X1 1 (by decide) (List.mem_of_getElem? (i := 4) rfl) rfl dX3_day_17 ?_
    refine lv_bipush (v := 99) hx hb dX3_day_20 (by decide) ?_
    refine lv_icmp_lt (tgt := 28) hx hb dX3_day_22 (by decide) (fun c5 => ?_) (fun c5 => ?_)
    · have hf := ite_t hf c5
      refine lv_aload_n hx hb dX3_day_28 rfl (lv_at hl 0 rfl) ?_
      refine x_get C0 hKC.1 hP (by decide) (EC_0 K ad S) rfl in_X3_day_X3 5 (by decide) (List.mem_of_getElem? (i := 3) rfl) rfl dX3_day_29 ?_
      obtain ⟨v7, h6, hf⟩ := b1_some hf
      refine sys_i hS (sys_runV (As := []) (rest := []) C0 KC_ok hKC.1 hP hS (ltS (by decide : 0 < 4)) (EC_S K ad S (by decide : 0 < 4)) rfl (m2_isFull l D K ad tL hI S 0 (by decide : 0 < 4) h6) gX3_day_X2_isFull rfl ⟨rfl, rfl⟩ hd_X2_isFull ⟨Nat.le_of_ble_eq_true rfl, Nat.le_of_ble_eq_true rfl⟩ hl.1 rfl (Nat.le_of_ble_eq_true rfl) dX3_day_32 ⟨Nat.le_refl _, Nat.le_refl _⟩) (fun H locs hP hS => ?_)
      refine lv_if_eq (tgt := 41) hx hb dX3_day_35 (by decide) (fun c8 => ?_) (fun c8 => ?_)
      · have hf := ite_t hf c8
        refine lv_aload_n hx hb dX3_day_41 rfl (lv_at hl 0 rfl) ?_
        refine x_get C0 hKC.1 hP (by decide) (EC_0 K ad S) rfl in_X3_day_X3 5 (by decide) (List.mem_of_getElem? (i := 3) rfl) rfl dX3_day_42 ?_
        obtain ⟨q10, S11, h9, hf⟩ := b2_some hf
        obtain ⟨g12, hf⟩ := gd_some hf
        refine sys_r hS (sys_runV (As := []) (rest := []) C0 KC_ok hKC.1 hP hS (ltS (by decide : 0 < 4)) (EC_S K ad S (by decide : 0 < 4)) rfl (m2_next l D K ad tL hI S 0 (by decide : 0 < 4) h9) gX3_day_X2_next rfl ⟨rfl, rfl⟩ hd_X2_next ⟨Nat.le_of_ble_eq_true rfl, Nat.le_of_ble_eq_true rfl⟩ hl.1 rfl (Nat.le_of_ble_eq_true rfl) dX3_day_45 ⟨Nat.le_refl _, Nat.le_refl _⟩) (fun H locs hP hS => ?_)
        refine lv_astore_n (lv' := [(1, .ref (ad (30 + q10))), (0, .ref (ad 0))]) hx hb dX3_day_48 rfl hl (by decide) rfl (fun ls hl => ?_)
        refine lv_aload_n hx hb dX3_day_49 rfl (lv_at hl 0 rfl) ?_
        refine lv_aload_n hx hb dX3_day_50 rfl (lv_at hl 1 rfl) ?_
        refine x_get C0 hKC.1 hP (by decide) (EC_0 K ad S11) rfl in_X3_day_X3 4 (by decide) (List.mem_of_getElem? (i := 1) rfl) rfl dX3_day_51 ?_
        refine lv_iconst (v := 1) hx hb dX3_day_54 (by decide) ?_
        obtain ⟨S14, h13, hf⟩ := b1_some hf
        refine sys_v hS (sys_runV (As := [.ref (ad 15), .int 1]) (rest := []) C0 KC_ok hKC.1 hP hS (ltM (of_decide_eq_true g12)) (EC_M K ad S11 (of_decide_eq_true g12)) rfl (m1_passDays l D K ad tL hI S11 q10 1 (of_decide_eq_true g12) h13) gX3_day_X1_passDays rfl ⟨rfl, rfl⟩ hd_X1_passDays ⟨Nat.le_of_ble_eq_true rfl, Nat.le_of_ble_eq_true rfl⟩ hl.1 rfl (Nat.le_of_ble_eq_true rfl) dX3_day_55 ⟨Nat.le_refl _, Nat.le_refl _⟩) (fun H locs hP hS => ?_)
        refine lv_aload_n hx hb dX3_day_58 rfl (lv_at hl 0 rfl) ?_
        refine x_get C0 hKC.1 hP (ltM (of_decide_eq_true g12)) (EC_M K ad S14 (of_decide_eq_true g12)) rfl in_X3_day_X1 1 (by decide) (List.mem_of_getElem? (i := 4) rfl) rfl dX3_day_59 ?_
        exact ret_i C0 hP hS (congrArg Prod.fst (Option.some.inj hf)) (congrArg Prod.snd (Option.some.inj hf)) dX3_day_62
      · have hf := ite_f hf c8
        refine lv_bipush (v := (-2)) hx hb dX3_day_38 (by decide) ?_
        exact ret_i C0 hP hS (congrArg Prod.fst (Option.some.inj hf)) (congrArg Prod.snd (Option.some.inj hf)) dX3_day_40
    · have hf := ite_f hf c5
      refine lv_bipush (v := (-4)) hx hb dX3_day_25 (by decide) ?_
      exact ret_i C0 hP hS (congrArg Prod.fst (Option.some.inj hf)) (congrArg Prod.snd (Option.some.inj hf)) dX3_day_27
theorem m3_day (l : Launch) (D : va_G) (K : Nat → ClassId) (ad : Nat → Nat) (tL : Nat) (hI : INJ NC ad) (S : Mem) {r : Int32} {T : Mem} (hf : f3_day S = some (r, T)) : SysI l yX3_day wsX3_day rm3_day D NC ad (EC K ad) (KC D K tL (IW NC ad)) [.ref (ad 0)] S r T :=
  met_of (own := RX3) (by decide) rfl rfl (Nat.le_of_ble_eq_true rfl) (fun _ _ s _ _ _ _ ls C0 _ hP hl => w3_day hI C0 S hf s.heap [] ls hP va_S.rf hl)
theorem in_X1_brought_X0 : ∀ w ∈ wsX00, w ∈ wsX1_brought := fun _ h => List.mem_cons_of_mem _ (List.mem_append_left _ (List.mem_append_right _ h))
theorem in_X1_brought_X1 : ∀ w ∈ wsX10, w ∈ wsX1_brought := fun _ h => List.mem_cons_of_mem _ (List.mem_append_right _ h)
theorem hd_X1_brought : yX1_brought.cls = RX1 ∧ yX1_brought.cls ≠ "java/lang/invoke/MethodHandle" ∧ yX1_brought.cls ≠ "java/lang/invoke/VarHandle" ∧ (parseMethodDescriptor yX1_brought.desc).map (fun d => d.parameters.length) = some 1 := by decide +kernel
abbrev rm1_brought : Room := { frames := 3, cells := 0, slots := 0, locals := 76 }
set_option maxHeartbeats 4000000 in
set_option maxRecDepth 100000 in
theorem w1_brought_b4 {p : Program} {l : Launch} {e : Env} {s : State} {m : MethodId} {args : Array Value} {below : List Frame} {meth : Method} {c : Code} {D : va_G} {K : Nat → ClassId} {ad : Nat → Nat} {tL : Nat} (hI : INJ NC ad) (C0 : Cx p s m args meth c RX1 wsX1_brought cX1_brought 4 (some .int) (KC D K tL (IW NC ad))) (S : Mem) {r : Int32} : ∀ (n : Nat), ∀ (q0 : Nat) (x2 : Int32) (x3 : Int32), q0 < 165 → f1_brought_b4 S n q0 x2 x3 = some r → ∀ (H : Heap) (locs : List Loc) (ls : Array Slot), va_P D vwCl (wl NC ad (EC K ad S)) H → va_S (IW NC ad) s.heap H locs → lv_has ls 4 [(0, .ref (ad (30 + q0))), (1, .ref (ad 15)), (2, .int x2), (3, .int x3)] → W p l e rm1_brought s m args below meth c H locs 0 0 (MQ below (va_Qi (fun (x : Int32) (u : Mem) => x = r ∧ u = S) (fun u t => va_P D vwCl (wl NC ad (EC K ad u)) t.heap) (IW NC ad)) args s 0 0 (IW NC ad)) (F0 m 4 ls []) := by
  have hx := C0.1
  have hb := C0.2.1
  have hts := C0.2.2.2.2.1
  have hown := C0.2.2.2.1
  have hKC := C0.2.2.2.2.2.2.2
  intro n
  induction n with
  | zero =>
    intro q0 x2 x3 hq0 hf
    rw [f1_brought_b4] at hf
    cases hf
  | succ n ih =>
    intro q0 x2 x3 hq0 hf H locs ls hP hS hl
    rw [f1_brought_b4] at hf
    refine lv_iload_n hx hb dX1_brought_4 rfl (lv_at hl 3 rfl) ?_
    refine lv_aload_n hx hb dX1_brought_5 rfl (lv_at hl 1 rfl) ?_
    refine x_get C0 hKC.1 hP (by decide) (EC_H K ad S) rfl in_X1_brought_X0 3 (by decide) (List.mem_of_getElem? (i := 1) rfl) rfl dX1_brought_6 ?_
    refine lv_icmp_ge (tgt := 27) hx hb dX1_brought_9 (by decide) (fun c1 => ?_) (fun c1 => ?_)
    · have hf := ite_t hf c1
      refine lv_iload_n hx hb dX1_brought_27 rfl (lv_at hl 2 rfl) ?_
      exact ret_i C0 hP hS (Option.some.inj hf) rfl dX1_brought_28
    · have hf := ite_f hf c1
      refine lv_iload_n hx hb dX1_brought_12 rfl (lv_at hl 2 rfl) ?_
      refine lv_aload_n hx hb dX1_brought_13 rfl (lv_at hl 0 rfl) ?_
      refine lv_aload_n hx hb dX1_brought_14 rfl (lv_at hl 1 rfl) ?_
      refine lv_iload_n hx hb dX1_brought_15 rfl (lv_at hl 3 rfl) ?_
      obtain ⟨v3, h2, hf⟩ := b1_some hf
      refine sys_i hS (sys_runV (As := [.ref (ad 15), .int x3]) (rest := [.int x2]) C0 KC_ok hKC.1 hP hS (ltM hq0) (EC_M K ad S hq0) rfl (m1_bringsOf l D K ad tL hI S q0 x3 hq0 h2) gX1_brought_X1_bringsOf rfl ⟨rfl, rfl⟩ hd_X1_bringsOf ⟨Nat.le_of_ble_eq_true rfl, Nat.le_of_ble_eq_true rfl⟩ hl.1 rfl (Nat.le_of_ble_eq_true rfl) dX1_brought_16 ⟨Nat.le_refl _, Nat.le_refl _⟩) (fun H locs hP hS => ?_)
      refine lv_iadd hx hb dX1_brought_19 ?_
      refine lv_topi (fun v4 ev4 => ?_)
      have hf := nm_at ev4 hf
      refine lv_istore_n (lv' := [(2, .int v4), (0, .ref (ad (30 + q0))), (1, .ref (ad 15)), (3, .int x3)]) hx hb dX1_brought_20 rfl hl (by decide) rfl (fun ls hl => ?_)
      obtain ⟨v5, ev5⟩ : ∃ y : Int32, y = x3 + 1 := ⟨_, rfl⟩
      have hf := nm_at ev5 hf
      refine lv_iinc (v := v5) (lv' := [(3, .int v5), (2, .int v4), (0, .ref (ad (30 + q0))), (1, .ref (ad 15))]) hx hb dX1_brought_21 hl (k := 3) rfl (by rw [ev5]; rfl) (by decide) rfl (fun ls hl => ?_)
      refine lv_goto (tgt := 4) hx hb dX1_brought_24 (by decide) ?_
      exact ih q0 v4 v5 hq0 hf H locs ls hP hS (lv_sub hl [2, 3, 1, 0] rfl)
set_option maxHeartbeats 4000000 in
set_option maxRecDepth 100000 in
theorem w1_brought {p : Program} {l : Launch} {e : Env} {s : State} {m : MethodId} {args : Array Value} {below : List Frame} {meth : Method} {c : Code} {D : va_G} {K : Nat → ClassId} {ad : Nat → Nat} {tL : Nat} (hI : INJ NC ad) (C0 : Cx p s m args meth c RX1 wsX1_brought cX1_brought 4 (some .int) (KC D K tL (IW NC ad))) (S : Mem) {r : Int32} : ∀ (q0 : Nat), q0 < 165 → f1_brought S q0 = some r → ∀ (H : Heap) (locs : List Loc) (ls : Array Slot), va_P D vwCl (wl NC ad (EC K ad S)) H → va_S (IW NC ad) s.heap H locs → lv_has ls 4 [(0, .ref (ad (30 + q0))), (1, .ref (ad 15))] → W p l e rm1_brought s m args below meth c H locs 0 0 (MQ below (va_Qi (fun (x : Int32) (u : Mem) => x = r ∧ u = S) (fun u t => va_P D vwCl (wl NC ad (EC K ad u)) t.heap) (IW NC ad)) args s 0 0 (IW NC ad)) (F0 m 0 ls []) := by
  have hx := C0.1
  have hb := C0.2.1
  have hts := C0.2.2.2.2.1
  have hown := C0.2.2.2.1
  have hKC := C0.2.2.2.2.2.2.2
  intro q0 hq0 hf H locs ls hP hS hl
  rw [f1_brought] at hf
  refine lv_iconst (v := 0) hx hb dX1_brought_0 (by decide) ?_
  refine lv_istore_n (lv' := [(2, .int 0), (0, .ref (ad (30 + q0))), (1, .ref (ad 15))]) hx hb dX1_brought_1 rfl hl (by decide) rfl (fun ls hl => ?_)
  refine lv_iconst (v := 0) hx hb dX1_brought_2 (by decide) ?_
  refine lv_istore_n (lv' := [(3, .int 0), (2, .int 0), (0, .ref (ad (30 + q0))), (1, .ref (ad 15))]) hx hb dX1_brought_3 rfl hl (by decide) rfl (fun ls hl => ?_)
  exact w1_brought_b4 hI C0 S FU q0 0 0 hq0 hf H locs ls hP hS (lv_sub hl [2, 3, 1, 0] rfl)
theorem m1_brought (l : Launch) (D : va_G) (K : Nat → ClassId) (ad : Nat → Nat) (tL : Nat) (hI : INJ NC ad) (S : Mem) (q0 : Nat) (hq0 : q0 < 165) {r : Int32} (hf : f1_brought S q0 = some r) : SysI l yX1_brought wsX1_brought rm1_brought D NC ad (EC K ad) (KC D K tL (IW NC ad)) [.ref (ad (30 + q0)), .ref (ad 15)] S r S :=
  met_of (own := RX1) (by decide) rfl rfl (Nat.le_of_ble_eq_true rfl) (fun _ _ s _ _ _ _ ls C0 _ hP hl => w1_brought hI C0 S q0 hq0 hf s.heap [] ls hP va_S.rf hl)
theorem in_X1_receive_X1 : ∀ w ∈ wsX10, w ∈ wsX1_receive := fun _ h => List.mem_cons_of_mem _ (List.mem_append_right _ h)
theorem hd_X1_receive : yX1_receive.cls = RX1 ∧ yX1_receive.cls ≠ "java/lang/invoke/MethodHandle" ∧ yX1_receive.cls ≠ "java/lang/invoke/VarHandle" ∧ (parseMethodDescriptor yX1_receive.desc).map (fun d => d.parameters.length) = some 2 := by decide +kernel
abbrev rm1_receive : Room := { frames := 1, cells := 0, slots := 0, locals := 32 }
set_option maxHeartbeats 4000000 in
set_option maxRecDepth 100000 in
theorem w1_receive {p : Program} {l : Launch} {e : Env} {s : State} {m : MethodId} {args : Array Value} {below : List Frame} {meth : Method} {c : Code} {D : va_G} {K : Nat → ClassId} {ad : Nat → Nat} {tL : Nat} (hI : INJ NC ad) (C0 : Cx p s m args meth c RX1 wsX1_receive cX1_receive 4 none (KC D K tL (IW NC ad))) {T : Mem} : ∀ (S : Mem) (q0 : Nat) (x1 : Int32) (x2 : Int32), q0 < 165 → f1_receive S q0 x1 x2 = some T → ∀ (H : Heap) (locs : List Loc) (ls : Array Slot), va_P D vwCl (wl NC ad (EC K ad S)) H → va_S (IW NC ad) s.heap H locs → lv_has ls 4 [(0, .ref (ad (30 + q0))), (1, .int x1), (2, .int x2)] → W p l e rm1_receive s m args below meth c H locs 0 0 (MQ below (va_Qv (fun (u : Mem) => u = T) (fun u t => va_P D vwCl (wl NC ad (EC K ad u)) t.heap) (IW NC ad)) args s 0 0 (IW NC ad)) (F0 m 0 ls []) := by
  have hx := C0.1
  have hb := C0.2.1
  have hts := C0.2.2.2.2.1
  have hown := C0.2.2.2.1
  have hKC := C0.2.2.2.2.2.2.2
  intro S q0 x1 x2 hq0 hf H locs ls hP hS hl
  rw [f1_receive] at hf
  refine lv_iload_n hx hb dX1_receive_0 rfl (lv_at hl 2 rfl) ?_
  refine lv_bipush (v := 99) hx hb dX1_receive_1 (by decide) ?_
  refine lv_aload_n hx hb dX1_receive_3 rfl (lv_at hl 0 rfl) ?_
  refine x_get C0 hKC.1 hP (ltM hq0) (EC_M K ad S hq0) rfl in_X1_receive_X1 0 (by decide) (List.mem_of_getElem? (i := 1) rfl) rfl dX1_receive_4 ?_
  refine lv_iload_n hx hb dX1_receive_7 rfl (lv_at hl 1 rfl) ?_
  obtain ⟨g1, hf⟩ := gd_some hf
  refine x_iald C0 hKC.1 hP (IC_jar K ad hq0) (t0 := 0) rfl g1 dX1_receive_8 ?_
  refine lv_isub hx hb dX1_receive_9 ?_
  refine va_mmin hx hb (C0.2.2.1.trans hl.1.symm) hown (hts _ (List.mem_of_getElem? (i := 2) rfl)) (hts _ (List.mem_of_getElem? (i := 3) rfl)) (hts _ (List.mem_of_getElem? (i := 4) rfl)) (hts _ (List.mem_of_getElem? (i := 5) rfl)) (Nat.le_of_ble_eq_true rfl) (Nat.le_of_ble_eq_true rfl) (Nat.le_refl _) (Nat.le_refl _) dX1_receive_10 ?_
  refine lv_topi (fun v2 ev2 => ?_)
  have hf := nm_at ev2 hf
  refine lv_istore_n (lv' := [(3, .int v2), (0, .ref (ad (30 + q0))), (1, .int x1), (2, .int x2)]) hx hb dX1_receive_13 rfl hl (by decide) rfl (fun ls hl => ?_)
  refine lv_aload_n hx hb dX1_receive_14 rfl (lv_at hl 1 rfl) ?_
  refine x_get C0 hKC.1 hP (ltM hq0) (EC_M K ad S hq0) rfl in_X1_receive_X1 0 (by decide) (List.mem_of_getElem? (i := 1) rfl) rfl dX1_receive_15 ?_
  refine lv_iload_n hx hb dX1_receive_18 rfl (lv_at hl 2 rfl) ?_
  refine lv_dup2_11 hx hb dX1_receive_19 rfl rfl ?_
  obtain ⟨g3, hf⟩ := gd_some hf
  refine x_iald C0 hKC.1 hP (IC_jar K ad hq0) (t0 := 0) rfl g3 dX1_receive_20 ?_
  refine lv_iload_n hx hb dX1_receive_21 rfl (lv_at hl 0 rfl) ?_
  refine lv_iadd hx hb dX1_receive_22 ?_
  obtain ⟨g4, hf⟩ := gd_some hf
  refine x_iast C0 hKC.1 hI (EC_loc K ad) hP hS (IC_jar K ad hq0) (t0 := 0) rfl g4 dX1_receive_23 (fun S5 eS5 H locs hP hS => ?_)
  have hf := nm_at eS5 hf
  refine lv_aload_n hx hb dX1_receive_24 rfl (lv_at hl 1 rfl) ?_
  refine lv_dup hx hb dX1_receive_25 rfl ?_
  refine x_get C0 hKC.1 hP (ltM hq0) (EC_M K ad S5 hq0) rfl in_X1_receive_X1 2 (by decide) (List.mem_of_getElem? (i := 6) rfl) rfl dX1_receive_26 ?_
  refine lv_iload_n hx hb dX1_receive_29 rfl (lv_at hl 3 rfl) ?_
  refine lv_iload_n hx hb dX1_receive_30 rfl (lv_at hl 0 rfl) ?_
  refine lv_isub hx hb dX1_receive_31 ?_
  refine lv_iadd hx hb dX1_receive_32 ?_
  refine x_puti C0 hKC.1 hI (EC_loc K ad) hP hS (ltM hq0) (EC_M K ad S5 hq0) rfl tyX1 tyX1_ok nmX1 in_X1_receive_X1 2 (by decide) (List.mem_of_getElem? (i := 6) rfl) rfl (tyX1_ok 2 (by decide)) (Nat.le_of_ble_eq_true rfl) (EC_pM2 K ad S5 _ hq0) dX1_receive_33 (fun S6 eS6 H locs hP hS => ?_)
  have hf := nm_at eS6 hf
  exact ret_v C0 hP hS (Option.some.inj hf) dX1_receive_36
theorem m1_receive (l : Launch) (D : va_G) (K : Nat → ClassId) (ad : Nat → Nat) (tL : Nat) (hI : INJ NC ad) (S : Mem) (q0 : Nat) (x1 : Int32) (x2 : Int32) (hq0 : q0 < 165) {T : Mem} (hf : f1_receive S q0 x1 x2 = some T) : SysV l yX1_receive wsX1_receive rm1_receive D NC ad (EC K ad) (KC D K tL (IW NC ad)) [.ref (ad (30 + q0)), .int x1, .int x2] S T :=
  met_of (own := RX1) (by decide) rfl rfl (Nat.le_of_ble_eq_true rfl) (fun _ _ s _ _ _ _ ls C0 _ hP hl => w1_receive hI C0 S q0 x1 x2 hq0 hf s.heap [] ls hP va_S.rf hl)
theorem in_X1_shareOut_X0 : ∀ w ∈ wsX00, w ∈ wsX1_shareOut := fun _ h => List.mem_cons_of_mem _ (List.mem_append_left _ (List.mem_append_right _ h))
theorem in_X1_shareOut_X1 : ∀ w ∈ wsX10, w ∈ wsX1_shareOut := fun _ h => List.mem_cons_of_mem _ (List.mem_append_right _ h)
theorem hd_X1_shareOut : yX1_shareOut.cls = RX1 ∧ yX1_shareOut.cls ≠ "java/lang/invoke/MethodHandle" ∧ yX1_shareOut.cls ≠ "java/lang/invoke/VarHandle" ∧ (parseMethodDescriptor yX1_shareOut.desc).map (fun d => d.parameters.length) = some 1 := by decide +kernel
abbrev rm1_shareOut : Room := { frames := 4, cells := 0, slots := 0, locals := 99 }
set_option maxHeartbeats 4000000 in
set_option maxRecDepth 100000 in
theorem w1_shareOut_b40 {p : Program} {l : Launch} {e : Env} {s : State} {m : MethodId} {args : Array Value} {below : List Frame} {meth : Method} {c : Code} {D : va_G} {K : Nat → ClassId} {ad : Nat → Nat} {tL : Nat} (hI : INJ NC ad) (C0 : Cx p s m args meth c RX1 wsX1_shareOut cX1_shareOut 5 (some .int) (KC D K tL (IW NC ad))) {r : Int32} {T : Mem} : ∀ (n : Nat), ∀ (S : Mem) (q0 : Nat) (x3 : Int32) (x4 : Int32), q0 < 165 → f1_shareOut_b40 n S q0 x3 x4 = some (r, T) → ∀ (H : Heap) (locs : List Loc) (ls : Array Slot), va_P D vwCl (wl NC ad (EC K ad S)) H → va_S (IW NC ad) s.heap H locs → lv_has ls 5 [(0, .ref (ad (30 + q0))), (1, .ref (ad 15)), (3, .int x3), (4, .int x4)] → W p l e rm1_shareOut s m args below meth c H locs 0 0 (MQ below (va_Qi (fun (x : Int32) (u : Mem) => x = r ∧ u = T) (fun u t => va_P D vwCl (wl NC ad (EC K ad u)) t.heap) (IW NC ad)) args s 0 0 (IW NC ad)) (F0 m 40 ls []) := by
  have hx := C0.1
  have hb := C0.2.1
  have hts := C0.2.2.2.2.1
  have hown := C0.2.2.2.1
  have hKC := C0.2.2.2.2.2.2.2
  intro n
  induction n with
  | zero =>
    intro S q0 x3 x4 hq0 hf
    rw [f1_shareOut_b40] at hf
    cases hf
  | succ n ih =>
    intro S q0 x3 x4 hq0 hf H locs ls hP hS hl
    rw [f1_shareOut_b40] at hf
    refine lv_iload hx hb dX1_shareOut_40 (lv_at hl 3 rfl) ?_
    refine lv_aload_n hx hb dX1_shareOut_42 rfl (lv_at hl 1 rfl) ?_
    refine x_get C0 hKC.1 hP (by decide) (EC_H K ad S) rfl in_X1_shareOut_X0 3 (by decide) (List.mem_of_getElem? (i := 1) rfl) rfl dX1_shareOut_43 ?_
    refine lv_icmp_ge (tgt := 79) hx hb dX1_shareOut_46 (by decide) (fun c1 => ?_) (fun c1 => ?_)
    · have hf := ite_t hf c1
      refine lv_iload_n hx hb dX1_shareOut_79 rfl (lv_at hl 2 rfl) ?_
      exact ret_i C0 hP hS (congrArg Prod.fst (Option.some.inj hf)) (congrArg Prod.snd (Option.some.inj hf)) dX1_shareOut_80
    · have hf := ite_f hf c1
      refine lv_aload_n hx hb dX1_shareOut_49 rfl (lv_at hl 0 rfl) ?_
      refine x_get C0 hKC.1 hP (ltM hq0) (EC_M K ad S hq0) rfl in_X1_shareOut_X1 0 (by decide) (List.mem_of_getElem? (i := 3) rfl) rfl dX1_shareOut_50 ?_
      refine lv_iload hx hb dX1_shareOut_53 (lv_at hl 3 rfl) ?_
      refine lv_dup2_11 hx hb dX1_shareOut_55 rfl rfl ?_
      obtain ⟨g2, hf⟩ := gd_some hf
      refine x_iald C0 hKC.1 hP (IC_jar K ad hq0) (t0 := 0) rfl g2 dX1_shareOut_56 ?_
      refine lv_aload_n hx hb dX1_shareOut_57 rfl (lv_at hl 0 rfl) ?_
      refine lv_aload_n hx hb dX1_shareOut_58 rfl (lv_at hl 1 rfl) ?_
      refine lv_iload hx hb dX1_shareOut_59 (lv_at hl 3 rfl) ?_
      obtain ⟨v4, h3, hf⟩ := b1_some hf
      refine sys_i hS (sys_runV (As := [.ref (ad 15), .int x4]) (rest := [.int (gi S (195 + q0) (ix x4)), .int x4, .ref (ad (195 + q0))]) C0 KC_ok hKC.1 hP hS (ltM hq0) (EC_M K ad S hq0) rfl (m1_bringsOf l D K ad tL hI S q0 x4 hq0 h3) gX1_shareOut_X1_bringsOf rfl ⟨rfl, rfl⟩ hd_X1_bringsOf ⟨Nat.le_of_ble_eq_true rfl, Nat.le_of_ble_eq_true rfl⟩ hl.1 rfl (Nat.le_of_ble_eq_true rfl) dX1_shareOut_61 ⟨Nat.le_refl _, Nat.le_refl _⟩) (fun H locs hP hS => ?_)
      refine lv_isub hx hb dX1_shareOut_64 ?_
      obtain ⟨g5, hf⟩ := gd_some hf
      refine x_iast C0 hKC.1 hI (EC_loc K ad) hP hS (IC_jar K ad hq0) (t0 := 0) rfl g5 dX1_shareOut_65 (fun S6 eS6 H locs hP hS => ?_)
      have hf := nm_at eS6 hf
      refine lv_aload_n hx hb dX1_shareOut_66 rfl (lv_at hl 0 rfl) ?_
      refine lv_iload hx hb dX1_shareOut_67 (lv_at hl 3 rfl) ?_
      refine lv_iload_n hx hb dX1_shareOut_69 rfl (lv_at hl 2 rfl) ?_
      obtain ⟨S8, h7, hf⟩ := b1_some hf
      refine sys_v hS (sys_runV (As := [.int x4, .int x3]) (rest := []) C0 KC_ok hKC.1 hP hS (ltM hq0) (EC_M K ad S6 hq0) rfl (m1_receive l D K ad tL hI S6 q0 x4 x3 hq0 h7) gX1_shareOut_X1_receive rfl ⟨rfl, rfl⟩ hd_X1_receive ⟨Nat.le_of_ble_eq_true rfl, Nat.le_of_ble_eq_true rfl⟩ hl.1 rfl (Nat.le_of_ble_eq_true rfl) dX1_shareOut_70 ⟨Nat.le_refl _, Nat.le_refl _⟩) (fun H locs hP hS => ?_)
      obtain ⟨v9, ev9⟩ : ∃ y : Int32, y = x4 + 1 := ⟨_, rfl⟩
      have hf := nm_at ev9 hf
      refine lv_iinc (v := v9) (lv' := [(4, .int v9), (0, .ref (ad (30 + q0))), (1, .ref (ad 15)), (3, .int x3)]) hx hb dX1_shareOut_73 hl (k := 3) rfl (by rw [ev9]; rfl) (by decide) rfl (fun ls hl => ?_)
      refine lv_goto (tgt := 40) hx hb dX1_shareOut_76 (by decide) ?_
      exact ih S8 q0 x3 v9 hq0 hf H locs ls hP hS (lv_sub hl [1, 2, 3, 0] rfl)
set_option maxHeartbeats 4000000 in
set_option maxRecDepth 100000 in
theorem w1_shareOut {p : Program} {l : Launch} {e : Env} {s : State} {m : MethodId} {args : Array Value} {below : List Frame} {meth : Method} {c : Code} {D : va_G} {K : Nat → ClassId} {ad : Nat → Nat} {tL : Nat} (hI : INJ NC ad) (C0 : Cx p s m args meth c RX1 wsX1_shareOut cX1_shareOut 5 (some .int) (KC D K tL (IW NC ad))) {r : Int32} {T : Mem} : ∀ (S : Mem) (q0 : Nat), q0 < 165 → f1_shareOut S q0 = some (r, T) → ∀ (H : Heap) (locs : List Loc) (ls : Array Slot), va_P D vwCl (wl NC ad (EC K ad S)) H → va_S (IW NC ad) s.heap H locs → lv_has ls 5 [(0, .ref (ad (30 + q0))), (1, .ref (ad 15))] → W p l e rm1_shareOut s m args below meth c H locs 0 0 (MQ below (va_Qi (fun (x : Int32) (u : Mem) => x = r ∧ u = T) (fun u t => va_P D vwCl (wl NC ad (EC K ad u)) t.heap) (IW NC ad)) args s 0 0 (IW NC ad)) (F0 m 0 ls []) := by
  have hx := C0.1
  have hb := C0.2.1
  have hts := C0.2.2.2.2.1
  have hown := C0.2.2.2.1
  have hKC := C0.2.2.2.2.2.2.2
  intro S q0 hq0 hf H locs ls hP hS hl
  rw [f1_shareOut] at hf
  refine lv_aload_n hx hb dX1_shareOut_0 rfl (lv_at hl 1 rfl) ?_
  refine x_get C0 hKC.1 hP (by decide) (EC_H K ad S) rfl in_X1_shareOut_X0 3 (by decide) (List.mem_of_getElem? (i := 1) rfl) rfl dX1_shareOut_1 ?_
  refine lv_if_ne (tgt := 9) hx hb dX1_shareOut_4 (by decide) (fun c1 => ?_) (fun c1 => ?_)
  · have hf := ite_f hf c1
    refine lv_aload_n hx hb dX1_shareOut_9 rfl (lv_at hl 0 rfl) ?_
    refine x_get C0 hKC.1 hP (ltM hq0) (EC_M K ad S hq0) rfl in_X1_shareOut_X1 2 (by decide) (List.mem_of_getElem? (i := 2) rfl) rfl dX1_shareOut_10 ?_
    refine lv_aload_n hx hb dX1_shareOut_13 rfl (lv_at hl 0 rfl) ?_
    refine lv_aload_n hx hb dX1_shareOut_14 rfl (lv_at hl 1 rfl) ?_
    obtain ⟨v3, h2, hf⟩ := b1_some hf
    refine sys_i hS (sys_runV (As := [.ref (ad 15)]) (rest := [.int (gi S (30 + q0) 2)]) C0 KC_ok hKC.1 hP hS (ltM hq0) (EC_M K ad S hq0) rfl (m1_brought l D K ad tL hI S q0 hq0 h2) gX1_shareOut_X1_brought rfl ⟨rfl, rfl⟩ hd_X1_brought ⟨Nat.le_of_ble_eq_true rfl, Nat.le_of_ble_eq_true rfl⟩ hl.1 rfl (Nat.le_of_ble_eq_true rfl) dX1_shareOut_15 ⟨Nat.le_refl _, Nat.le_refl _⟩) (fun H locs hP hS => ?_)
    refine lv_iadd hx hb dX1_shareOut_18 ?_
    refine lv_topi (fun v4 ev4 => ?_)
    have hf := nm_at ev4 hf
    refine lv_istore_n (lv' := [(2, .int v4), (0, .ref (ad (30 + q0))), (1, .ref (ad 15))]) hx hb dX1_shareOut_19 rfl hl (by decide) rfl (fun ls hl => ?_)
    refine lv_iload_n hx hb dX1_shareOut_20 rfl (lv_at hl 0 rfl) ?_
    refine lv_aload_n hx hb dX1_shareOut_21 rfl (lv_at hl 2 rfl) ?_
    refine x_get C0 hKC.1 hP (by decide) (EC_H K ad S) rfl in_X1_shareOut_X0 3 (by decide) (List.mem_of_getElem? (i := 1) rfl) rfl dX1_shareOut_22 ?_
    obtain ⟨g5, hf⟩ := gd_some hf
    refine lv_idiv hx hb dX1_shareOut_25 (of_decide_eq_true g5) ?_
    refine lv_topi (fun v6 ev6 => ?_)
    have hf := nm_at ev6 hf
    refine lv_istore_n (lv' := [(3, .int v6), (2, .int v4), (0, .ref (ad (30 + q0))), (1, .ref (ad 15))]) hx hb dX1_shareOut_26 rfl hl (by decide) rfl (fun ls hl => ?_)
    refine lv_aload_n hx hb dX1_shareOut_27 rfl (lv_at hl 2 rfl) ?_
    refine lv_iload_n hx hb dX1_shareOut_28 rfl (lv_at hl 1 rfl) ?_
    refine lv_aload_n hx hb dX1_shareOut_29 rfl (lv_at hl 3 rfl) ?_
    refine x_get C0 hKC.1 hP (by decide) (EC_H K ad S) rfl in_X1_shareOut_X0 3 (by decide) (List.mem_of_getElem? (i := 1) rfl) rfl dX1_shareOut_30 ?_
    obtain ⟨g7, hf⟩ := gd_some hf
    refine lv_irem hx hb dX1_shareOut_33 (of_decide_eq_true g7) ?_
    refine x_puti C0 hKC.1 hI (EC_loc K ad) hP hS (ltM hq0) (EC_M K ad S hq0) rfl tyX1 tyX1_ok nmX1 in_X1_shareOut_X1 2 (by decide) (List.mem_of_getElem? (i := 2) rfl) rfl (tyX1_ok 2 (by decide)) (Nat.le_of_ble_eq_true rfl) (EC_pM2 K ad S _ hq0) dX1_shareOut_34 (fun S8 eS8 H locs hP hS => ?_)
    have hf := nm_at eS8 hf
    refine lv_iconst (v := 0) hx hb dX1_shareOut_37 (by decide) ?_
    refine lv_istore (lv' := [(4, .int 0), (3, .int v6), (2, .int v4), (0, .ref (ad (30 + q0))), (1, .ref (ad 15))]) hx hb dX1_shareOut_38 hl (by decide) rfl (fun ls hl => ?_)
    exact w1_shareOut_b40 hI C0 FU S8 q0 v6 0 hq0 hf H locs ls hP hS (lv_sub hl [3, 4, 1, 0] rfl)
  · have hf := ite_t hf c1
    refine lv_iconst (v := 0) hx hb dX1_shareOut_7 (by decide) ?_
    exact ret_i C0 hP hS (congrArg Prod.fst (Option.some.inj hf)) (congrArg Prod.snd (Option.some.inj hf)) dX1_shareOut_8
theorem m1_shareOut (l : Launch) (D : va_G) (K : Nat → ClassId) (ad : Nat → Nat) (tL : Nat) (hI : INJ NC ad) (S : Mem) (q0 : Nat) (hq0 : q0 < 165) {r : Int32} {T : Mem} (hf : f1_shareOut S q0 = some (r, T)) : SysI l yX1_shareOut wsX1_shareOut rm1_shareOut D NC ad (EC K ad) (KC D K tL (IW NC ad)) [.ref (ad (30 + q0)), .ref (ad 15)] S r T :=
  met_of (own := RX1) (by decide) rfl rfl (Nat.le_of_ble_eq_true rfl) (fun _ _ s _ _ _ _ ls C0 _ hP hl => w1_shareOut hI C0 S q0 hq0 hf s.heap [] ls hP va_S.rf hl)
theorem in_X3_spring_X3 : ∀ w ∈ wsX30, w ∈ wsX3_spring := fun _ h => List.mem_cons_of_mem _ (List.mem_append_left _ (List.mem_append_left _ (List.mem_append_left _ (List.mem_append_right _ h))))
theorem in_X3_spring_X0 : ∀ w ∈ wsX00, w ∈ wsX3_spring := fun _ h => List.mem_cons_of_mem _ (List.mem_append_left _ (List.mem_append_left _ (List.mem_append_right _ h)))
theorem in_X3_spring_X1 : ∀ w ∈ wsX10, w ∈ wsX3_spring := fun _ h => List.mem_cons_of_mem _ (List.mem_append_left _ (List.mem_append_right _ h))
theorem in_X3_spring_X2 : ∀ w ∈ wsX20, w ∈ wsX3_spring := fun _ h => List.mem_cons_of_mem _ (List.mem_append_right _ h)
theorem hd_X3_spring : yX3_spring.cls = RX3 ∧ yX3_spring.cls ≠ "java/lang/invoke/MethodHandle" ∧ yX3_spring.cls ≠ "java/lang/invoke/VarHandle" ∧ (parseMethodDescriptor yX3_spring.desc).map (fun d => d.parameters.length) = some 0 := by decide +kernel
abbrev rm3_spring : Room := { frames := 5, cells := 0, slots := 0, locals := 137 }
set_option maxHeartbeats 4000000 in
set_option maxRecDepth 100000 in
theorem w3_spring {p : Program} {l : Launch} {e : Env} {s : State} {m : MethodId} {args : Array Value} {below : List Frame} {meth : Method} {c : Code} {D : va_G} {K : Nat → ClassId} {ad : Nat → Nat} {tL : Nat} (hI : INJ NC ad) (C0 : Cx p s m args meth c RX3 wsX3_spring cX3_spring 3 (some .int) (KC D K tL (IW NC ad))) {r : Int32} {T : Mem} : ∀ (S : Mem), f3_spring S = some (r, T) → ∀ (H : Heap) (locs : List Loc) (ls : Array Slot), va_P D vwCl (wl NC ad (EC K ad S)) H → va_S (IW NC ad) s.heap H locs → lv_has ls 3 [(0, .ref (ad 0))] → W p l e rm3_spring s m args below meth c H locs 0 0 (MQ below (va_Qi (fun (x : Int32) (u : Mem) => x = r ∧ u = T) (fun u t => va_P D vwCl (wl NC ad (EC K ad u)) t.heap) (IW NC ad)) args s 0 0 (IW NC ad)) (F0 m 0 ls []) := by
  have hx := C0.1
  have hb := C0.2.1
  have hts := C0.2.2.2.2.1
  have hown := C0.2.2.2.1
  have hKC := C0.2.2.2.2.2.2.2
  intro S hf H locs ls hP hS hl
  rw [f3_spring] at hf
  refine lv_aload_n hx hb dX3_spring_0 rfl (lv_at hl 0 rfl) ?_
  refine x_get C0 hKC.1 hP (by decide) (EC_0 K ad S) rfl in_X3_spring_X3 4 (by decide) (List.mem_of_getElem? (i := 1) rfl) rfl dX3_spring_1 ?_
  refine x_get C0 hKC.1 hP (by decide) (EC_H K ad S) rfl in_X3_spring_X0 3 (by decide) (List.mem_of_getElem? (i := 2) rfl) rfl dX3_spring_4 ?_
  refine lv_if_ne (tgt := 13) hx hb dX3_spring_7 (by decide) (fun c1 => ?_) (fun c1 => ?_)
  · have hf := ite_f hf c1
    refine lv_aload_n hx hb dX3_spring_13 rfl (lv_at hl 0 rfl) ?_
    refine x_get C0 hKC.1 hP (by decide) (EC_0 K ad S) rfl in_X3_spring_X3 5 (by decide) (List.mem_of_getElem? (i := 3) rfl) rfl dX3_spring_14 ?_
    obtain ⟨v3, h2, hf⟩ := b1_some hf
    refine sys_i hS (sys_runV (As := []) (rest := []) C0 KC_ok hKC.1 hP hS (ltS (by decide : 0 < 4)) (EC_S K ad S (by decide : 0 < 4)) rfl (m2_isFull l D K ad tL hI S 0 (by decide : 0 < 4) h2) gX3_spring_X2_isFull rfl ⟨rfl, rfl⟩ hd_X2_isFull ⟨Nat.le_of_ble_eq_true rfl, Nat.le_of_ble_eq_true rfl⟩ hl.1 rfl (Nat.le_of_ble_eq_true rfl) dX3_spring_17 ⟨Nat.le_refl _, Nat.le_refl _⟩) (fun H locs hP hS => ?_)
    refine lv_if_eq (tgt := 26) hx hb dX3_spring_20 (by decide) (fun c4 => ?_) (fun c4 => ?_)
    · have hf := ite_t hf c4
      refine lv_aload_n hx hb dX3_spring_26 rfl (lv_at hl 0 rfl) ?_
      refine x_get C0 hKC.1 hP (by decide) (EC_0 K ad S) rfl in_X3_spring_X3 5 (by decide) (List.mem_of_getElem? (i := 3) rfl) rfl dX3_spring_27 ?_
      obtain ⟨q6, S7, h5, hf⟩ := b2_some hf
      obtain ⟨g8, hf⟩ := gd_some hf
      refine sys_r hS (sys_runV (As := []) (rest := []) C0 KC_ok hKC.1 hP hS (ltS (by decide : 0 < 4)) (EC_S K ad S (by decide : 0 < 4)) rfl (m2_next l D K ad tL hI S 0 (by decide : 0 < 4) h5) gX3_spring_X2_next rfl ⟨rfl, rfl⟩ hd_X2_next ⟨Nat.le_of_ble_eq_true rfl, Nat.le_of_ble_eq_true rfl⟩ hl.1 rfl (Nat.le_of_ble_eq_true rfl) dX3_spring_30 ⟨Nat.le_refl _, Nat.le_refl _⟩) (fun H locs hP hS => ?_)
      refine lv_astore_n (lv' := [(1, .ref (ad (30 + q6))), (0, .ref (ad 0))]) hx hb dX3_spring_33 rfl hl (by decide) rfl (fun ls hl => ?_)
      refine lv_aload_n hx hb dX3_spring_34 rfl (lv_at hl 0 rfl) ?_
      refine lv_aload_n hx hb dX3_spring_35 rfl (lv_at hl 1 rfl) ?_
      refine x_get C0 hKC.1 hP (by decide) (EC_0 K ad S7) rfl in_X3_spring_X3 4 (by decide) (List.mem_of_getElem? (i := 1) rfl) rfl dX3_spring_36 ?_
      obtain ⟨v10, S11, h9, hf⟩ := b2_some hf
      refine sys_i hS (sys_runV (As := [.ref (ad 15)]) (rest := []) C0 KC_ok hKC.1 hP hS (ltM (of_decide_eq_true g8)) (EC_M K ad S7 (of_decide_eq_true g8)) rfl (m1_shareOut l D K ad tL hI S7 q6 (of_decide_eq_true g8) h9) gX3_spring_X1_shareOut rfl ⟨rfl, rfl⟩ hd_X1_shareOut ⟨Nat.le_of_ble_eq_true rfl, Nat.le_of_ble_eq_true rfl⟩ hl.1 rfl (Nat.le_of_ble_eq_true rfl) dX3_spring_39 ⟨Nat.le_refl _, Nat.le_refl _⟩) (fun H locs hP hS => ?_)
      refine lv_istore_n (lv' := [(2, .int v10), (1, .ref (ad (30 + q6))), (0, .ref (ad 0))]) hx hb dX3_spring_42 rfl hl (by decide) rfl (fun ls hl => ?_)
      refine lv_aload_n hx hb dX3_spring_43 rfl (lv_at hl 2 rfl) ?_
      refine lv_aload_n hx hb dX3_spring_44 rfl (lv_at hl 1 rfl) ?_
      refine x_get C0 hKC.1 hP (ltM (of_decide_eq_true g8)) (EC_M K ad S11 (of_decide_eq_true g8)) rfl in_X3_spring_X1 2 (by decide) (List.mem_of_getElem? (i := 4) rfl) rfl dX3_spring_45 ?_
      refine x_puti C0 hKC.1 hI (EC_loc K ad) hP hS (by decide) (EC_0 K ad S11) rfl tyX3 tyX3_ok nmX3 in_X3_spring_X3 9 (by decide) (List.mem_of_getElem? (i := 5) rfl) rfl (tyX3_ok 9 (by decide)) (Nat.le_of_ble_eq_true rfl) (EC_p9 K ad S11 _) dX3_spring_48 (fun S12 eS12 H locs hP hS => ?_)
      have hf := nm_at eS12 hf
      refine lv_iload_n hx hb dX3_spring_51 rfl (lv_at hl 0 rfl) ?_
      exact ret_i C0 hP hS (congrArg Prod.fst (Option.some.inj hf)) (congrArg Prod.snd (Option.some.inj hf)) dX3_spring_52
    · have hf := ite_f hf c4
      refine lv_bipush (v := (-2)) hx hb dX3_spring_23 (by decide) ?_
      exact ret_i C0 hP hS (congrArg Prod.fst (Option.some.inj hf)) (congrArg Prod.snd (Option.some.inj hf)) dX3_spring_25
  · have hf := ite_t hf c1
    refine lv_bipush (v := (-4)) hx hb dX3_spring_10 (by decide) ?_
    exact ret_i C0 hP hS (congrArg Prod.fst (Option.some.inj hf)) (congrArg Prod.snd (Option.some.inj hf)) dX3_spring_12
theorem m3_spring (l : Launch) (D : va_G) (K : Nat → ClassId) (ad : Nat → Nat) (tL : Nat) (hI : INJ NC ad) (S : Mem) {r : Int32} {T : Mem} (hf : f3_spring S = some (r, T)) : SysI l yX3_spring wsX3_spring rm3_spring D NC ad (EC K ad) (KC D K tL (IW NC ad)) [.ref (ad 0)] S r T :=
  met_of (own := RX3) (by decide) rfl rfl (Nat.le_of_ble_eq_true rfl) (fun _ _ s _ _ _ _ ls C0 _ hP hl => w3_spring hI C0 S hf s.heap [] ls hP va_S.rf hl)
theorem hd_X3_isCup : yX3_isCup.cls ≠ "java/lang/invoke/MethodHandle" ∧ yX3_isCup.cls ≠ "java/lang/invoke/VarHandle" ∧ (parseMethodDescriptor yX3_isCup.desc).map (fun d => d.parameters.length) = some 1 := by decide +kernel
abbrev rm3_isCup : Room := { frames := 0, cells := 0, slots := 0, locals := 0 }
set_option maxHeartbeats 4000000 in
set_option maxRecDepth 100000 in
theorem w3_isCup {p : Program} {l : Launch} {e : Env} {s : State} {m : MethodId} {args : Array Value} {below : List Frame} {meth : Method} {c : Code} {D : va_G} {K : Nat → ClassId} {ad : Nat → Nat} {tL : Nat} (hI : INJ NC ad) (C0 : Cx p s m args meth c RX3 wsX3_isCup cX3_isCup 1 (some .boolean) (KC D K tL (IW NC ad))) (S : Mem) {r : Int32} : ∀ (x0 : Int32), f3_isCup x0 = some r → ∀ (H : Heap) (locs : List Loc) (ls : Array Slot), va_P D vwCl (wl NC ad (EC K ad S)) H → va_S (IW NC ad) s.heap H locs → lv_has ls 1 [(0, .int x0)] → W p l e rm3_isCup s m args below meth c H locs 0 0 (MQ below (va_Qi (fun (x : Int32) (u : Mem) => x = r ∧ u = S) (fun u t => va_P D vwCl (wl NC ad (EC K ad u)) t.heap) (IW NC ad)) args s 0 0 (IW NC ad)) (F0 m 0 ls []) := by
  have hx := C0.1
  have hb := C0.2.1
  have hts := C0.2.2.2.2.1
  have hown := C0.2.2.2.1
  have hKC := C0.2.2.2.2.2.2.2
  intro x0 hf H locs ls hP hS hl
  rw [f3_isCup] at hf
  refine lv_iload_n hx hb dX3_isCup_0 rfl (lv_at hl 0 rfl) ?_
  refine lv_iconst (v := 1) hx hb dX3_isCup_1 (by decide) ?_
  refine lv_icmp_lt (tgt := 15) hx hb dX3_isCup_2 (by decide) (fun c1 => ?_) (fun c1 => ?_)
  · have hf := ite_t hf c1
    refine lv_iconst (v := 0) hx hb dX3_isCup_15 (by decide) ?_
    exact ret_z C0 hP hS (Or.inl rfl) (Option.some.inj hf) rfl dX3_isCup_16
  · have hf := ite_f hf c1
    refine lv_iload_n hx hb dX3_isCup_5 rfl (lv_at hl 0 rfl) ?_
    refine lv_bipush (v := 99) hx hb dX3_isCup_6 (by decide) ?_
    refine lv_icmp_gt (tgt := 15) hx hb dX3_isCup_8 (by decide) (fun c2 => ?_) (fun c2 => ?_)
    · have hf := ite_t hf c2
      refine lv_iconst (v := 0) hx hb dX3_isCup_15 (by decide) ?_
      exact ret_z C0 hP hS (Or.inl rfl) (Option.some.inj hf) rfl dX3_isCup_16
    · have hf := ite_f hf c2
      refine lv_iconst (v := 1) hx hb dX3_isCup_11 (by decide) ?_
      refine lv_goto (tgt := 16) hx hb dX3_isCup_12 (by decide) ?_
      exact ret_z C0 hP hS (Or.inr rfl) (Option.some.inj hf) rfl dX3_isCup_16
theorem m3_isCup (l : Launch) (D : va_G) (K : Nat → ClassId) (ad : Nat → Nat) (tL : Nat) (hI : INJ NC ad) (S : Mem) (x0 : Int32) {r : Int32} (hf : f3_isCup x0 = some r) : SysI l yX3_isCup wsX3_isCup rm3_isCup D NC ad (EC K ad) (KC D K tL (IW NC ad)) [.int x0] S r S :=
  met_of (own := RX3) (by decide) rfl rfl (Nat.le_of_ble_eq_true rfl) (fun _ _ s _ _ _ _ ls C0 _ hP hl => w3_isCup hI C0 S x0 hf s.heap [] ls hP va_S.rf hl)
theorem in_X1_pass_X1 : ∀ w ∈ wsX10, w ∈ wsX1_pass := fun _ h => List.mem_cons_of_mem _ (List.mem_append_right _ h)
theorem hd_X1_pass : yX1_pass.cls = RX1 ∧ yX1_pass.cls ≠ "java/lang/invoke/MethodHandle" ∧ yX1_pass.cls ≠ "java/lang/invoke/VarHandle" ∧ (parseMethodDescriptor yX1_pass.desc).map (fun d => d.parameters.length) = some 3 := by decide +kernel
abbrev rm1_pass : Room := { frames := 2, cells := 0, slots := 0, locals := 55 }
set_option maxHeartbeats 4000000 in
set_option maxRecDepth 100000 in
theorem w1_pass {p : Program} {l : Launch} {e : Env} {s : State} {m : MethodId} {args : Array Value} {below : List Frame} {meth : Method} {c : Code} {D : va_G} {K : Nat → ClassId} {ad : Nat → Nat} {tL : Nat} (hI : INJ NC ad) (C0 : Cx p s m args meth c RX1 wsX1_pass cX1_pass 4 none (KC D K tL (IW NC ad))) {T : Mem} : ∀ (S : Mem) (q0 : Nat) (x1 : Int32) (x2 : Int32) (x3 : Int32), q0 < 165 → f1_pass S q0 x1 x2 x3 = some T → ∀ (H : Heap) (locs : List Loc) (ls : Array Slot), va_P D vwCl (wl NC ad (EC K ad S)) H → va_S (IW NC ad) s.heap H locs → lv_has ls 4 [(0, .ref (ad (30 + q0))), (1, .int x1), (2, .int x2), (3, .int x3)] → W p l e rm1_pass s m args below meth c H locs 0 0 (MQ below (va_Qv (fun (u : Mem) => u = T) (fun u t => va_P D vwCl (wl NC ad (EC K ad u)) t.heap) (IW NC ad)) args s 0 0 (IW NC ad)) (F0 m 0 ls []) := by
  have hx := C0.1
  have hb := C0.2.1
  have hts := C0.2.2.2.2.1
  have hown := C0.2.2.2.1
  have hKC := C0.2.2.2.2.2.2.2
  intro S q0 x1 x2 x3 hq0 hf H locs ls hP hS hl
  rw [f1_pass] at hf
  refine lv_aload_n hx hb dX1_pass_0 rfl (lv_at hl 0 rfl) ?_
  refine x_get C0 hKC.1 hP (ltM hq0) (EC_M K ad S hq0) rfl in_X1_pass_X1 0 (by decide) (List.mem_of_getElem? (i := 1) rfl) rfl dX1_pass_1 ?_
  refine lv_iload_n hx hb dX1_pass_4 rfl (lv_at hl 1 rfl) ?_
  refine lv_dup2_11 hx hb dX1_pass_5 rfl rfl ?_
  obtain ⟨g1, hf⟩ := gd_some hf
  refine x_iald C0 hKC.1 hP (IC_jar K ad hq0) (t0 := 0) rfl g1 dX1_pass_6 ?_
  refine lv_iload_n hx hb dX1_pass_7 rfl (lv_at hl 3 rfl) ?_
  refine lv_isub hx hb dX1_pass_8 ?_
  obtain ⟨g2, hf⟩ := gd_some hf
  refine x_iast C0 hKC.1 hI (EC_loc K ad) hP hS (IC_jar K ad hq0) (t0 := 0) rfl g2 dX1_pass_9 (fun S3 eS3 H locs hP hS => ?_)
  have hf := nm_at eS3 hf
  refine lv_aload_n hx hb dX1_pass_10 rfl (lv_at hl 0 rfl) ?_
  refine lv_iload_n hx hb dX1_pass_11 rfl (lv_at hl 2 rfl) ?_
  refine lv_iload_n hx hb dX1_pass_12 rfl (lv_at hl 3 rfl) ?_
  obtain ⟨S5, h4, hf⟩ := b1_some hf
  refine sys_v hS (sys_runV (As := [.int x2, .int x3]) (rest := []) C0 KC_ok hKC.1 hP hS (ltM hq0) (EC_M K ad S3 hq0) rfl (m1_receive l D K ad tL hI S3 q0 x2 x3 hq0 h4) gX1_pass_X1_receive rfl ⟨rfl, rfl⟩ hd_X1_receive ⟨Nat.le_of_ble_eq_true rfl, Nat.le_of_ble_eq_true rfl⟩ hl.1 rfl (Nat.le_of_ble_eq_true rfl) dX1_pass_13 ⟨Nat.le_refl _, Nat.le_refl _⟩) (fun H locs hP hS => ?_)
  exact ret_v C0 hP hS (Option.some.inj hf) dX1_pass_16
theorem m1_pass (l : Launch) (D : va_G) (K : Nat → ClassId) (ad : Nat → Nat) (tL : Nat) (hI : INJ NC ad) (S : Mem) (q0 : Nat) (x1 : Int32) (x2 : Int32) (x3 : Int32) (hq0 : q0 < 165) {T : Mem} (hf : f1_pass S q0 x1 x2 x3 = some T) : SysV l yX1_pass wsX1_pass rm1_pass D NC ad (EC K ad) (KC D K tL (IW NC ad)) [.ref (ad (30 + q0)), .int x1, .int x2, .int x3] S T :=
  met_of (own := RX1) (by decide) rfl rfl (Nat.le_of_ble_eq_true rfl) (fun _ _ s _ _ _ _ ls C0 _ hP hl => w1_pass hI C0 S q0 x1 x2 x3 hq0 hf s.heap [] ls hP va_S.rf hl)
theorem in_X3_lend_X3 : ∀ w ∈ wsX30, w ∈ wsX3_lend := fun _ h => List.mem_cons_of_mem _ (List.mem_append_left _ (List.mem_append_left _ (List.mem_append_left _ (List.mem_append_right _ h))))
theorem in_X3_lend_X1 : ∀ w ∈ wsX10, w ∈ wsX3_lend := fun _ h => List.mem_cons_of_mem _ (List.mem_append_left _ (List.mem_append_left _ (List.mem_append_right _ h)))
theorem in_X3_lend_X0 : ∀ w ∈ wsX00, w ∈ wsX3_lend := fun _ h => List.mem_cons_of_mem _ (List.mem_append_left _ (List.mem_append_right _ h))
theorem in_X3_lend_X2 : ∀ w ∈ wsX20, w ∈ wsX3_lend := fun _ h => List.mem_cons_of_mem _ (List.mem_append_right _ h)
theorem hd_X3_lend : yX3_lend.cls = RX3 ∧ yX3_lend.cls ≠ "java/lang/invoke/MethodHandle" ∧ yX3_lend.cls ≠ "java/lang/invoke/VarHandle" ∧ (parseMethodDescriptor yX3_lend.desc).map (fun d => d.parameters.length) = some 3 := by decide +kernel
abbrev rm3_lend : Room := { frames := 3, cells := 0, slots := 0, locals := 137 }
set_option maxHeartbeats 4000000 in
set_option maxRecDepth 100000 in
theorem w3_lend {p : Program} {l : Launch} {e : Env} {s : State} {m : MethodId} {args : Array Value} {below : List Frame} {meth : Method} {c : Code} {D : va_G} {K : Nat → ClassId} {ad : Nat → Nat} {tL : Nat} (hI : INJ NC ad) (C0 : Cx p s m args meth c RX3 wsX3_lend cX3_lend 5 (some .int) (KC D K tL (IW NC ad))) {r : Int32} {T : Mem} : ∀ (S : Mem) (x1 : Int32) (x2 : Int32) (x3 : Int32), f3_lend S x1 x2 x3 = some (r, T) → ∀ (H : Heap) (locs : List Loc) (ls : Array Slot), va_P D vwCl (wl NC ad (EC K ad S)) H → va_S (IW NC ad) s.heap H locs → lv_has ls 5 [(0, .ref (ad 0)), (1, .int x1), (2, .int x2), (3, .int x3)] → W p l e rm3_lend s m args below meth c H locs 0 0 (MQ below (va_Qi (fun (x : Int32) (u : Mem) => x = r ∧ u = T) (fun u t => va_P D vwCl (wl NC ad (EC K ad u)) t.heap) (IW NC ad)) args s 0 0 (IW NC ad)) (F0 m 0 ls []) := by
  have hx := C0.1
  have hb := C0.2.1
  have hts := C0.2.2.2.2.1
  have hown := C0.2.2.2.1
  have hKC := C0.2.2.2.2.2.2.2
  intro S x1 x2 x3 hf H locs ls hP hS hl
  rw [f3_lend] at hf
  refine lv_aload_n hx hb dX3_lend_0 rfl (lv_at hl 0 rfl) ?_
  refine lv_iload_n hx hb dX3_lend_1 rfl (lv_at hl 1 rfl) ?_
  obtain ⟨v2, h1, hf⟩ := b1_some hf
  refine sys_i hS (sys_runV (As := [.int x1]) (rest := []) C0 KC_ok hKC.1 hP hS (by decide) (EC_0 K ad S) rfl (m3_isHouse l D K ad tL hI S x1 h1) gX3_lend_X3_isHouse rfl ⟨rfl, rfl⟩ hd_X3_isHouse ⟨Nat.le_of_ble_eq_true rfl, Nat.le_of_ble_eq_true rfl⟩ hl.1 rfl (Nat.le_of_ble_eq_true rfl) dX3_lend_2 ⟨Nat.le_refl _, Nat.le_refl _⟩) (fun H locs hP hS => ?_)
  refine lv_if_eq (tgt := 28) hx hb dX3_lend_5 (by decide) (fun c3 => ?_) (fun c3 => ?_)
  · have hf := ite_t hf c3
    refine lv_iconst (v := (-1)) hx hb dX3_lend_28 (by decide) ?_
    exact ret_i C0 hP hS (congrArg Prod.fst (Option.some.inj hf)) (congrArg Prod.snd (Option.some.inj hf)) dX3_lend_29
  · have hf := ite_f hf c3
    refine lv_aload_n hx hb dX3_lend_8 rfl (lv_at hl 0 rfl) ?_
    refine lv_iload_n hx hb dX3_lend_9 rfl (lv_at hl 2 rfl) ?_
    obtain ⟨v5, h4, hf⟩ := b1_some hf
    refine sys_i hS (sys_runV (As := [.int x2]) (rest := []) C0 KC_ok hKC.1 hP hS (by decide) (EC_0 K ad S) rfl (m3_isHouse l D K ad tL hI S x2 h4) gX3_lend_X3_isHouse rfl ⟨rfl, rfl⟩ hd_X3_isHouse ⟨Nat.le_of_ble_eq_true rfl, Nat.le_of_ble_eq_true rfl⟩ hl.1 rfl (Nat.le_of_ble_eq_true rfl) dX3_lend_10 ⟨Nat.le_refl _, Nat.le_refl _⟩) (fun H locs hP hS => ?_)
    refine lv_if_eq (tgt := 28) hx hb dX3_lend_13 (by decide) (fun c6 => ?_) (fun c6 => ?_)
    · have hf := ite_t hf c6
      refine lv_iconst (v := (-1)) hx hb dX3_lend_28 (by decide) ?_
      exact ret_i C0 hP hS (congrArg Prod.fst (Option.some.inj hf)) (congrArg Prod.snd (Option.some.inj hf)) dX3_lend_29
    · have hf := ite_f hf c6
      refine lv_iload_n hx hb dX3_lend_16 rfl (lv_at hl 1 rfl) ?_
      refine lv_iload_n hx hb dX3_lend_17 rfl (lv_at hl 2 rfl) ?_
      refine lv_icmp_eq (tgt := 28) hx hb dX3_lend_18 (by decide) (fun c7 => ?_) (fun c7 => ?_)
      · have hf := ite_t hf c7
        refine lv_iconst (v := (-1)) hx hb dX3_lend_28 (by decide) ?_
        exact ret_i C0 hP hS (congrArg Prod.fst (Option.some.inj hf)) (congrArg Prod.snd (Option.some.inj hf)) dX3_lend_29
      · have hf := ite_f hf c7
        refine lv_iload_n hx hb dX3_lend_21 rfl (lv_at hl 3 rfl) ?_
        obtain ⟨v9, h8, hf⟩ := b1_some hf
        refine sys_i hS (sys_runS (As := [.int x3]) (rest := []) C0 KC_ok hP hS (m3_isCup l D K ad tL hI S x3 h8) gX3_lend_X3_isCup rfl ⟨rfl, rfl⟩ hd_X3_isCup ⟨Nat.le_of_ble_eq_true rfl, Nat.le_of_ble_eq_true rfl⟩ hl.1 rfl (Nat.le_of_ble_eq_true rfl) dX3_lend_22 ⟨Nat.le_refl _, Nat.le_refl _⟩) (fun H locs hP hS => ?_)
        refine lv_if_ne (tgt := 30) hx hb dX3_lend_25 (by decide) (fun c10 => ?_) (fun c10 => ?_)
        · have hf := ite_f hf c10
          refine lv_aload_n hx hb dX3_lend_30 rfl (lv_at hl 0 rfl) ?_
          refine x_get C0 hKC.1 hP (by decide) (EC_0 K ad S) rfl in_X3_lend_X3 5 (by decide) (List.mem_of_getElem? (i := 1) rfl) rfl dX3_lend_31 ?_
          obtain ⟨q12, h11, hf⟩ := b1_some hf
          obtain ⟨g13, hf⟩ := gd_some hf
          refine sys_r hS (sys_runV (As := []) (rest := []) C0 KC_ok hKC.1 hP hS (ltS (by decide : 0 < 4)) (EC_S K ad S (by decide : 0 < 4)) rfl (m2_now l D K ad tL hI S 0 (by decide : 0 < 4) h11) gX3_lend_X2_now rfl ⟨rfl, rfl⟩ hd_X2_now ⟨Nat.le_of_ble_eq_true rfl, Nat.le_of_ble_eq_true rfl⟩ hl.1 rfl (Nat.le_of_ble_eq_true rfl) dX3_lend_34 ⟨Nat.le_refl _, Nat.le_refl _⟩) (fun H locs hP hS => ?_)
          refine x_get C0 hKC.1 hP (ltM (of_decide_eq_true g13)) (EC_M K ad S (of_decide_eq_true g13)) rfl in_X3_lend_X1 0 (by decide) (List.mem_of_getElem? (i := 2) rfl) rfl dX3_lend_37 ?_
          refine lv_iload_n hx hb dX3_lend_40 rfl (lv_at hl 1 rfl) ?_
          obtain ⟨g14, hf⟩ := gd_some hf
          refine x_iald C0 hKC.1 hP (IC_jar K ad (of_decide_eq_true g13)) (t0 := 0) rfl g14 dX3_lend_41 ?_
          refine lv_iload_n hx hb dX3_lend_42 rfl (lv_at hl 3 rfl) ?_
          refine lv_icmp_ge (tgt := 49) hx hb dX3_lend_43 (by decide) (fun c15 => ?_) (fun c15 => ?_)
          · have hf := ite_t hf c15
            refine lv_aload_n hx hb dX3_lend_49 rfl (lv_at hl 0 rfl) ?_
            refine x_get C0 hKC.1 hP (by decide) (EC_0 K ad S) rfl in_X3_lend_X3 5 (by decide) (List.mem_of_getElem? (i := 1) rfl) rfl dX3_lend_50 ?_
            obtain ⟨v17, h16, hf⟩ := b1_some hf
            refine sys_i hS (sys_runV (As := []) (rest := []) C0 KC_ok hKC.1 hP hS (ltS (by decide : 0 < 4)) (EC_S K ad S (by decide : 0 < 4)) rfl (m2_isFull l D K ad tL hI S 0 (by decide : 0 < 4) h16) gX3_lend_X2_isFull rfl ⟨rfl, rfl⟩ hd_X2_isFull ⟨Nat.le_of_ble_eq_true rfl, Nat.le_of_ble_eq_true rfl⟩ hl.1 rfl (Nat.le_of_ble_eq_true rfl) dX3_lend_53 ⟨Nat.le_refl _, Nat.le_refl _⟩) (fun H locs hP hS => ?_)
            refine lv_if_eq (tgt := 62) hx hb dX3_lend_56 (by decide) (fun c18 => ?_) (fun c18 => ?_)
            · have hf := ite_t hf c18
              refine lv_aload_n hx hb dX3_lend_62 rfl (lv_at hl 0 rfl) ?_
              refine x_get C0 hKC.1 hP (by decide) (EC_0 K ad S) rfl in_X3_lend_X3 5 (by decide) (List.mem_of_getElem? (i := 1) rfl) rfl dX3_lend_63 ?_
              obtain ⟨q20, S21, h19, hf⟩ := b2_some hf
              obtain ⟨g22, hf⟩ := gd_some hf
              refine sys_r hS (sys_runV (As := []) (rest := []) C0 KC_ok hKC.1 hP hS (ltS (by decide : 0 < 4)) (EC_S K ad S (by decide : 0 < 4)) rfl (m2_next l D K ad tL hI S 0 (by decide : 0 < 4) h19) gX3_lend_X2_next rfl ⟨rfl, rfl⟩ hd_X2_next ⟨Nat.le_of_ble_eq_true rfl, Nat.le_of_ble_eq_true rfl⟩ hl.1 rfl (Nat.le_of_ble_eq_true rfl) dX3_lend_66 ⟨Nat.le_refl _, Nat.le_refl _⟩) (fun H locs hP hS => ?_)
              refine lv_astore (lv' := [(4, .ref (ad (30 + q20))), (0, .ref (ad 0)), (1, .int x1), (2, .int x2), (3, .int x3)]) hx hb dX3_lend_69 hl (by decide) rfl (fun ls hl => ?_)
              refine lv_aload hx hb dX3_lend_71 (lv_at hl 0 rfl) ?_
              refine lv_iload_n hx hb dX3_lend_73 rfl (lv_at hl 2 rfl) ?_
              refine lv_iload_n hx hb dX3_lend_74 rfl (lv_at hl 3 rfl) ?_
              refine lv_iload_n hx hb dX3_lend_75 rfl (lv_at hl 4 rfl) ?_
              obtain ⟨S24, h23, hf⟩ := b1_some hf
              refine sys_v hS (sys_runV (As := [.int x1, .int x2, .int x3]) (rest := []) C0 KC_ok hKC.1 hP hS (ltM (of_decide_eq_true g22)) (EC_M K ad S21 (of_decide_eq_true g22)) rfl (m1_pass l D K ad tL hI S21 q20 x1 x2 x3 (of_decide_eq_true g22) h23) gX3_lend_X1_pass rfl ⟨rfl, rfl⟩ hd_X1_pass ⟨Nat.le_of_ble_eq_true rfl, Nat.le_of_ble_eq_true rfl⟩ hl.1 rfl (Nat.le_of_ble_eq_true rfl) dX3_lend_76 ⟨Nat.le_refl _, Nat.le_refl _⟩) (fun H locs hP hS => ?_)
              refine lv_aload hx hb dX3_lend_79 (lv_at hl 0 rfl) ?_
              refine x_get C0 hKC.1 hP (ltM (of_decide_eq_true g22)) (EC_M K ad S24 (of_decide_eq_true g22)) rfl in_X3_lend_X1 0 (by decide) (List.mem_of_getElem? (i := 2) rfl) rfl dX3_lend_81 ?_
              refine lv_iload_n hx hb dX3_lend_84 rfl (lv_at hl 3 rfl) ?_
              obtain ⟨g25, hf⟩ := gd_some hf
              refine x_iald C0 hKC.1 hP (IC_jar K ad (of_decide_eq_true g22)) (t0 := 0) rfl g25 dX3_lend_85 ?_
              exact ret_i C0 hP hS (congrArg Prod.fst (Option.some.inj hf)) (congrArg Prod.snd (Option.some.inj hf)) dX3_lend_86
            · have hf := ite_f hf c18
              refine lv_bipush (v := (-2)) hx hb dX3_lend_59 (by decide) ?_
              exact ret_i C0 hP hS (congrArg Prod.fst (Option.some.inj hf)) (congrArg Prod.snd (Option.some.inj hf)) dX3_lend_61
          · have hf := ite_f hf c15
            refine lv_bipush (v := (-4)) hx hb dX3_lend_46 (by decide) ?_
            exact ret_i C0 hP hS (congrArg Prod.fst (Option.some.inj hf)) (congrArg Prod.snd (Option.some.inj hf)) dX3_lend_48
        · have hf := ite_t hf c10
          refine lv_iconst (v := (-1)) hx hb dX3_lend_28 (by decide) ?_
          exact ret_i C0 hP hS (congrArg Prod.fst (Option.some.inj hf)) (congrArg Prod.snd (Option.some.inj hf)) dX3_lend_29
theorem m3_lend (l : Launch) (D : va_G) (K : Nat → ClassId) (ad : Nat → Nat) (tL : Nat) (hI : INJ NC ad) (S : Mem) (x1 : Int32) (x2 : Int32) (x3 : Int32) {r : Int32} {T : Mem} (hf : f3_lend S x1 x2 x3 = some (r, T)) : SysI l yX3_lend wsX3_lend rm3_lend D NC ad (EC K ad) (KC D K tL (IW NC ad)) [.ref (ad 0), .int x1, .int x2, .int x3] S r T :=
  met_of (own := RX3) (by decide) rfl rfl (Nat.le_of_ble_eq_true rfl) (fun _ _ s _ _ _ _ ls C0 _ hP hl => w3_lend hI C0 S x1 x2 x3 hf s.heap [] ls hP va_S.rf hl)
theorem in_X1_toQuay_X1 : ∀ w ∈ wsX10, w ∈ wsX1_toQuay := fun _ h => List.mem_cons_of_mem _ (List.mem_append_right _ h)
theorem hd_X1_toQuay : yX1_toQuay.cls = RX1 ∧ yX1_toQuay.cls ≠ "java/lang/invoke/MethodHandle" ∧ yX1_toQuay.cls ≠ "java/lang/invoke/VarHandle" ∧ (parseMethodDescriptor yX1_toQuay.desc).map (fun d => d.parameters.length) = some 2 := by decide +kernel
abbrev rm1_toQuay : Room := { frames := 0, cells := 0, slots := 0, locals := 0 }
set_option maxHeartbeats 4000000 in
set_option maxRecDepth 100000 in
theorem w1_toQuay {p : Program} {l : Launch} {e : Env} {s : State} {m : MethodId} {args : Array Value} {below : List Frame} {meth : Method} {c : Code} {D : va_G} {K : Nat → ClassId} {ad : Nat → Nat} {tL : Nat} (hI : INJ NC ad) (C0 : Cx p s m args meth c RX1 wsX1_toQuay cX1_toQuay 3 none (KC D K tL (IW NC ad))) {T : Mem} : ∀ (S : Mem) (q0 : Nat) (x1 : Int32) (x2 : Int32), q0 < 165 → f1_toQuay S q0 x1 x2 = some T → ∀ (H : Heap) (locs : List Loc) (ls : Array Slot), va_P D vwCl (wl NC ad (EC K ad S)) H → va_S (IW NC ad) s.heap H locs → lv_has ls 3 [(0, .ref (ad (30 + q0))), (1, .int x1), (2, .int x2)] → W p l e rm1_toQuay s m args below meth c H locs 0 0 (MQ below (va_Qv (fun (u : Mem) => u = T) (fun u t => va_P D vwCl (wl NC ad (EC K ad u)) t.heap) (IW NC ad)) args s 0 0 (IW NC ad)) (F0 m 0 ls []) := by
  have hx := C0.1
  have hb := C0.2.1
  have hts := C0.2.2.2.2.1
  have hown := C0.2.2.2.1
  have hKC := C0.2.2.2.2.2.2.2
  intro S q0 x1 x2 hq0 hf H locs ls hP hS hl
  rw [f1_toQuay] at hf
  refine lv_aload_n hx hb dX1_toQuay_0 rfl (lv_at hl 0 rfl) ?_
  refine x_get C0 hKC.1 hP (ltM hq0) (EC_M K ad S hq0) rfl in_X1_toQuay_X1 0 (by decide) (List.mem_of_getElem? (i := 1) rfl) rfl dX1_toQuay_1 ?_
  refine lv_iload_n hx hb dX1_toQuay_4 rfl (lv_at hl 1 rfl) ?_
  refine lv_dup2_11 hx hb dX1_toQuay_5 rfl rfl ?_
  obtain ⟨g1, hf⟩ := gd_some hf
  refine x_iald C0 hKC.1 hP (IC_jar K ad hq0) (t0 := 0) rfl g1 dX1_toQuay_6 ?_
  refine lv_iload_n hx hb dX1_toQuay_7 rfl (lv_at hl 2 rfl) ?_
  refine lv_isub hx hb dX1_toQuay_8 ?_
  obtain ⟨g2, hf⟩ := gd_some hf
  refine x_iast C0 hKC.1 hI (EC_loc K ad) hP hS (IC_jar K ad hq0) (t0 := 0) rfl g2 dX1_toQuay_9 (fun S3 eS3 H locs hP hS => ?_)
  have hf := nm_at eS3 hf
  refine lv_aload_n hx hb dX1_toQuay_10 rfl (lv_at hl 0 rfl) ?_
  refine lv_dup hx hb dX1_toQuay_11 rfl ?_
  refine x_get C0 hKC.1 hP (ltM hq0) (EC_M K ad S3 hq0) rfl in_X1_toQuay_X1 2 (by decide) (List.mem_of_getElem? (i := 2) rfl) rfl dX1_toQuay_12 ?_
  refine lv_iload_n hx hb dX1_toQuay_15 rfl (lv_at hl 2 rfl) ?_
  refine lv_iadd hx hb dX1_toQuay_16 ?_
  refine x_puti C0 hKC.1 hI (EC_loc K ad) hP hS (ltM hq0) (EC_M K ad S3 hq0) rfl tyX1 tyX1_ok nmX1 in_X1_toQuay_X1 2 (by decide) (List.mem_of_getElem? (i := 2) rfl) rfl (tyX1_ok 2 (by decide)) (Nat.le_of_ble_eq_true rfl) (EC_pM2 K ad S3 _ hq0) dX1_toQuay_17 (fun S4 eS4 H locs hP hS => ?_)
  have hf := nm_at eS4 hf
  exact ret_v C0 hP hS (Option.some.inj hf) dX1_toQuay_20
theorem m1_toQuay (l : Launch) (D : va_G) (K : Nat → ClassId) (ad : Nat → Nat) (tL : Nat) (hI : INJ NC ad) (S : Mem) (q0 : Nat) (x1 : Int32) (x2 : Int32) (hq0 : q0 < 165) {T : Mem} (hf : f1_toQuay S q0 x1 x2 = some T) : SysV l yX1_toQuay wsX1_toQuay rm1_toQuay D NC ad (EC K ad) (KC D K tL (IW NC ad)) [.ref (ad (30 + q0)), .int x1, .int x2] S T :=
  met_of (own := RX1) (by decide) rfl rfl (Nat.le_of_ble_eq_true rfl) (fun _ _ s _ _ _ _ ls C0 _ hP hl => w1_toQuay hI C0 S q0 x1 x2 hq0 hf s.heap [] ls hP va_S.rf hl)
theorem in_X3_leave_X3 : ∀ w ∈ wsX30, w ∈ wsX3_leave := fun _ h => List.mem_cons_of_mem _ (List.mem_append_left _ (List.mem_append_left _ (List.mem_append_left _ (List.mem_append_right _ h))))
theorem in_X3_leave_X1 : ∀ w ∈ wsX10, w ∈ wsX3_leave := fun _ h => List.mem_cons_of_mem _ (List.mem_append_left _ (List.mem_append_left _ (List.mem_append_right _ h)))
theorem in_X3_leave_X0 : ∀ w ∈ wsX00, w ∈ wsX3_leave := fun _ h => List.mem_cons_of_mem _ (List.mem_append_left _ (List.mem_append_right _ h))
theorem in_X3_leave_X2 : ∀ w ∈ wsX20, w ∈ wsX3_leave := fun _ h => List.mem_cons_of_mem _ (List.mem_append_right _ h)
theorem hd_X3_leave : yX3_leave.cls = RX3 ∧ yX3_leave.cls ≠ "java/lang/invoke/MethodHandle" ∧ yX3_leave.cls ≠ "java/lang/invoke/VarHandle" ∧ (parseMethodDescriptor yX3_leave.desc).map (fun d => d.parameters.length) = some 2 := by decide +kernel
abbrev rm3_leave : Room := { frames := 3, cells := 0, slots := 0, locals := 137 }
set_option maxHeartbeats 4000000 in
set_option maxRecDepth 100000 in
theorem w3_leave {p : Program} {l : Launch} {e : Env} {s : State} {m : MethodId} {args : Array Value} {below : List Frame} {meth : Method} {c : Code} {D : va_G} {K : Nat → ClassId} {ad : Nat → Nat} {tL : Nat} (hI : INJ NC ad) (C0 : Cx p s m args meth c RX3 wsX3_leave cX3_leave 4 (some .int) (KC D K tL (IW NC ad))) {r : Int32} {T : Mem} : ∀ (S : Mem) (x1 : Int32) (x2 : Int32), f3_leave S x1 x2 = some (r, T) → ∀ (H : Heap) (locs : List Loc) (ls : Array Slot), va_P D vwCl (wl NC ad (EC K ad S)) H → va_S (IW NC ad) s.heap H locs → lv_has ls 4 [(0, .ref (ad 0)), (1, .int x1), (2, .int x2)] → W p l e rm3_leave s m args below meth c H locs 0 0 (MQ below (va_Qi (fun (x : Int32) (u : Mem) => x = r ∧ u = T) (fun u t => va_P D vwCl (wl NC ad (EC K ad u)) t.heap) (IW NC ad)) args s 0 0 (IW NC ad)) (F0 m 0 ls []) := by
  have hx := C0.1
  have hb := C0.2.1
  have hts := C0.2.2.2.2.1
  have hown := C0.2.2.2.1
  have hKC := C0.2.2.2.2.2.2.2
  intro S x1 x2 hf H locs ls hP hS hl
  rw [f3_leave] at hf
  refine lv_aload_n hx hb dX3_leave_0 rfl (lv_at hl 0 rfl) ?_
  refine lv_iload_n hx hb dX3_leave_1 rfl (lv_at hl 1 rfl) ?_
  obtain ⟨v2, h1, hf⟩ := b1_some hf
  refine sys_i hS (sys_runV (As := [.int x1]) (rest := []) C0 KC_ok hKC.1 hP hS (by decide) (EC_0 K ad S) rfl (m3_isHouse l D K ad tL hI S x1 h1) gX3_leave_X3_isHouse rfl ⟨rfl, rfl⟩ hd_X3_isHouse ⟨Nat.le_of_ble_eq_true rfl, Nat.le_of_ble_eq_true rfl⟩ hl.1 rfl (Nat.le_of_ble_eq_true rfl) dX3_leave_2 ⟨Nat.le_refl _, Nat.le_refl _⟩) (fun H locs hP hS => ?_)
  refine lv_if_eq (tgt := 15) hx hb dX3_leave_5 (by decide) (fun c3 => ?_) (fun c3 => ?_)
  · have hf := ite_t hf c3
    refine lv_iconst (v := (-1)) hx hb dX3_leave_15 (by decide) ?_
    exact ret_i C0 hP hS (congrArg Prod.fst (Option.some.inj hf)) (congrArg Prod.snd (Option.some.inj hf)) dX3_leave_16
  · have hf := ite_f hf c3
    refine lv_iload_n hx hb dX3_leave_8 rfl (lv_at hl 2 rfl) ?_
    obtain ⟨v5, h4, hf⟩ := b1_some hf
    refine sys_i hS (sys_runS (As := [.int x2]) (rest := []) C0 KC_ok hP hS (m3_isCup l D K ad tL hI S x2 h4) gX3_leave_X3_isCup rfl ⟨rfl, rfl⟩ hd_X3_isCup ⟨Nat.le_of_ble_eq_true rfl, Nat.le_of_ble_eq_true rfl⟩ hl.1 rfl (Nat.le_of_ble_eq_true rfl) dX3_leave_9 ⟨Nat.le_refl _, Nat.le_refl _⟩) (fun H locs hP hS => ?_)
    refine lv_if_ne (tgt := 17) hx hb dX3_leave_12 (by decide) (fun c6 => ?_) (fun c6 => ?_)
    · have hf := ite_f hf c6
      refine lv_aload_n hx hb dX3_leave_17 rfl (lv_at hl 0 rfl) ?_
      refine x_get C0 hKC.1 hP (by decide) (EC_0 K ad S) rfl in_X3_leave_X3 5 (by decide) (List.mem_of_getElem? (i := 1) rfl) rfl dX3_leave_18 ?_
      obtain ⟨q8, h7, hf⟩ := b1_some hf
      obtain ⟨g9, hf⟩ := gd_some hf
      refine sys_r hS (sys_runV (As := []) (rest := []) C0 KC_ok hKC.1 hP hS (ltS (by decide : 0 < 4)) (EC_S K ad S (by decide : 0 < 4)) rfl (m2_now l D K ad tL hI S 0 (by decide : 0 < 4) h7) gX3_leave_X2_now rfl ⟨rfl, rfl⟩ hd_X2_now ⟨Nat.le_of_ble_eq_true rfl, Nat.le_of_ble_eq_true rfl⟩ hl.1 rfl (Nat.le_of_ble_eq_true rfl) dX3_leave_21 ⟨Nat.le_refl _, Nat.le_refl _⟩) (fun H locs hP hS => ?_)
      refine x_get C0 hKC.1 hP (ltM (of_decide_eq_true g9)) (EC_M K ad S (of_decide_eq_true g9)) rfl in_X3_leave_X1 0 (by decide) (List.mem_of_getElem? (i := 2) rfl) rfl dX3_leave_24 ?_
      refine lv_iload_n hx hb dX3_leave_27 rfl (lv_at hl 1 rfl) ?_
      obtain ⟨g10, hf⟩ := gd_some hf
      refine x_iald C0 hKC.1 hP (IC_jar K ad (of_decide_eq_true g9)) (t0 := 0) rfl g10 dX3_leave_28 ?_
      refine lv_iload_n hx hb dX3_leave_29 rfl (lv_at hl 2 rfl) ?_
      refine lv_icmp_ge (tgt := 36) hx hb dX3_leave_30 (by decide) (fun c11 => ?_) (fun c11 => ?_)
      · have hf := ite_t hf c11
        refine lv_aload_n hx hb dX3_leave_36 rfl (lv_at hl 0 rfl) ?_
        refine x_get C0 hKC.1 hP (by decide) (EC_0 K ad S) rfl in_X3_leave_X3 5 (by decide) (List.mem_of_getElem? (i := 1) rfl) rfl dX3_leave_37 ?_
        obtain ⟨v13, h12, hf⟩ := b1_some hf
        refine sys_i hS (sys_runV (As := []) (rest := []) C0 KC_ok hKC.1 hP hS (ltS (by decide : 0 < 4)) (EC_S K ad S (by decide : 0 < 4)) rfl (m2_isFull l D K ad tL hI S 0 (by decide : 0 < 4) h12) gX3_leave_X2_isFull rfl ⟨rfl, rfl⟩ hd_X2_isFull ⟨Nat.le_of_ble_eq_true rfl, Nat.le_of_ble_eq_true rfl⟩ hl.1 rfl (Nat.le_of_ble_eq_true rfl) dX3_leave_40 ⟨Nat.le_refl _, Nat.le_refl _⟩) (fun H locs hP hS => ?_)
        refine lv_if_eq (tgt := 49) hx hb dX3_leave_43 (by decide) (fun c14 => ?_) (fun c14 => ?_)
        · have hf := ite_t hf c14
          refine lv_aload_n hx hb dX3_leave_49 rfl (lv_at hl 0 rfl) ?_
          refine x_get C0 hKC.1 hP (by decide) (EC_0 K ad S) rfl in_X3_leave_X3 5 (by decide) (List.mem_of_getElem? (i := 1) rfl) rfl dX3_leave_50 ?_
          obtain ⟨q16, S17, h15, hf⟩ := b2_some hf
          obtain ⟨g18, hf⟩ := gd_some hf
          refine sys_r hS (sys_runV (As := []) (rest := []) C0 KC_ok hKC.1 hP hS (ltS (by decide : 0 < 4)) (EC_S K ad S (by decide : 0 < 4)) rfl (m2_next l D K ad tL hI S 0 (by decide : 0 < 4) h15) gX3_leave_X2_next rfl ⟨rfl, rfl⟩ hd_X2_next ⟨Nat.le_of_ble_eq_true rfl, Nat.le_of_ble_eq_true rfl⟩ hl.1 rfl (Nat.le_of_ble_eq_true rfl) dX3_leave_53 ⟨Nat.le_refl _, Nat.le_refl _⟩) (fun H locs hP hS => ?_)
          refine lv_astore_n (lv' := [(3, .ref (ad (30 + q16))), (0, .ref (ad 0)), (1, .int x1), (2, .int x2)]) hx hb dX3_leave_56 rfl hl (by decide) rfl (fun ls hl => ?_)
          refine lv_aload_n hx hb dX3_leave_57 rfl (lv_at hl 0 rfl) ?_
          refine lv_iload_n hx hb dX3_leave_58 rfl (lv_at hl 2 rfl) ?_
          refine lv_iload_n hx hb dX3_leave_59 rfl (lv_at hl 3 rfl) ?_
          obtain ⟨S20, h19, hf⟩ := b1_some hf
          refine sys_v hS (sys_runV (As := [.int x1, .int x2]) (rest := []) C0 KC_ok hKC.1 hP hS (ltM (of_decide_eq_true g18)) (EC_M K ad S17 (of_decide_eq_true g18)) rfl (m1_toQuay l D K ad tL hI S17 q16 x1 x2 (of_decide_eq_true g18) h19) gX3_leave_X1_toQuay rfl ⟨rfl, rfl⟩ hd_X1_toQuay ⟨Nat.le_of_ble_eq_true rfl, Nat.le_of_ble_eq_true rfl⟩ hl.1 rfl (Nat.le_of_ble_eq_true rfl) dX3_leave_60 ⟨Nat.le_refl _, Nat.le_refl _⟩) (fun H locs hP hS => ?_)
          refine lv_aload_n hx hb dX3_leave_63 rfl (lv_at hl 0 rfl) ?_
          refine x_get C0 hKC.1 hP (ltM (of_decide_eq_true g18)) (EC_M K ad S20 (of_decide_eq_true g18)) rfl in_X3_leave_X1 2 (by decide) (List.mem_of_getElem? (i := 3) rfl) rfl dX3_leave_64 ?_
          exact ret_i C0 hP hS (congrArg Prod.fst (Option.some.inj hf)) (congrArg Prod.snd (Option.some.inj hf)) dX3_leave_67
        · have hf := ite_f hf c14
          refine lv_bipush (v := (-2)) hx hb dX3_leave_46 (by decide) ?_
          exact ret_i C0 hP hS (congrArg Prod.fst (Option.some.inj hf)) (congrArg Prod.snd (Option.some.inj hf)) dX3_leave_48
      · have hf := ite_f hf c11
        refine lv_bipush (v := (-4)) hx hb dX3_leave_33 (by decide) ?_
        exact ret_i C0 hP hS (congrArg Prod.fst (Option.some.inj hf)) (congrArg Prod.snd (Option.some.inj hf)) dX3_leave_35
    · have hf := ite_t hf c6
      refine lv_iconst (v := (-1)) hx hb dX3_leave_15 (by decide) ?_
      exact ret_i C0 hP hS (congrArg Prod.fst (Option.some.inj hf)) (congrArg Prod.snd (Option.some.inj hf)) dX3_leave_16
theorem m3_leave (l : Launch) (D : va_G) (K : Nat → ClassId) (ad : Nat → Nat) (tL : Nat) (hI : INJ NC ad) (S : Mem) (x1 : Int32) (x2 : Int32) {r : Int32} {T : Mem} (hf : f3_leave S x1 x2 = some (r, T)) : SysI l yX3_leave wsX3_leave rm3_leave D NC ad (EC K ad) (KC D K tL (IW NC ad)) [.ref (ad 0), .int x1, .int x2] S r T :=
  met_of (own := RX3) (by decide) rfl rfl (Nat.le_of_ble_eq_true rfl) (fun _ _ s _ _ _ _ ls C0 _ hP hl => w3_leave hI C0 S x1 x2 hf s.heap [] ls hP va_S.rf hl)
theorem in_X3_take_X3 : ∀ w ∈ wsX30, w ∈ wsX3_take := fun _ h => List.mem_cons_of_mem _ (List.mem_append_left _ (List.mem_append_left _ (List.mem_append_left _ (List.mem_append_right _ h))))
theorem in_X3_take_X1 : ∀ w ∈ wsX10, w ∈ wsX3_take := fun _ h => List.mem_cons_of_mem _ (List.mem_append_left _ (List.mem_append_left _ (List.mem_append_right _ h)))
theorem in_X3_take_X0 : ∀ w ∈ wsX00, w ∈ wsX3_take := fun _ h => List.mem_cons_of_mem _ (List.mem_append_left _ (List.mem_append_right _ h))
theorem in_X3_take_X2 : ∀ w ∈ wsX20, w ∈ wsX3_take := fun _ h => List.mem_cons_of_mem _ (List.mem_append_right _ h)
theorem hd_X3_take : yX3_take.cls = RX3 ∧ yX3_take.cls ≠ "java/lang/invoke/MethodHandle" ∧ yX3_take.cls ≠ "java/lang/invoke/VarHandle" ∧ (parseMethodDescriptor yX3_take.desc).map (fun d => d.parameters.length) = some 2 := by decide +kernel
abbrev rm3_take : Room := { frames := 3, cells := 0, slots := 0, locals := 137 }
set_option maxHeartbeats 4000000 in
set_option maxRecDepth 100000 in
theorem w3_take {p : Program} {l : Launch} {e : Env} {s : State} {m : MethodId} {args : Array Value} {below : List Frame} {meth : Method} {c : Code} {D : va_G} {K : Nat → ClassId} {ad : Nat → Nat} {tL : Nat} (hI : INJ NC ad) (C0 : Cx p s m args meth c RX3 wsX3_take cX3_take 5 (some .int) (KC D K tL (IW NC ad))) {r : Int32} {T : Mem} : ∀ (S : Mem) (x1 : Int32) (x2 : Int32), f3_take S x1 x2 = some (r, T) → ∀ (H : Heap) (locs : List Loc) (ls : Array Slot), va_P D vwCl (wl NC ad (EC K ad S)) H → va_S (IW NC ad) s.heap H locs → lv_has ls 5 [(0, .ref (ad 0)), (1, .int x1), (2, .int x2)] → W p l e rm3_take s m args below meth c H locs 0 0 (MQ below (va_Qi (fun (x : Int32) (u : Mem) => x = r ∧ u = T) (fun u t => va_P D vwCl (wl NC ad (EC K ad u)) t.heap) (IW NC ad)) args s 0 0 (IW NC ad)) (F0 m 0 ls []) := by
  have hx := C0.1
  have hb := C0.2.1
  have hts := C0.2.2.2.2.1
  have hown := C0.2.2.2.1
  have hKC := C0.2.2.2.2.2.2.2
  intro S x1 x2 hf H locs ls hP hS hl
  rw [f3_take] at hf
  refine lv_aload_n hx hb dX3_take_0 rfl (lv_at hl 0 rfl) ?_
  refine lv_iload_n hx hb dX3_take_1 rfl (lv_at hl 1 rfl) ?_
  obtain ⟨v2, h1, hf⟩ := b1_some hf
  refine sys_i hS (sys_runV (As := [.int x1]) (rest := []) C0 KC_ok hKC.1 hP hS (by decide) (EC_0 K ad S) rfl (m3_isHouse l D K ad tL hI S x1 h1) gX3_take_X3_isHouse rfl ⟨rfl, rfl⟩ hd_X3_isHouse ⟨Nat.le_of_ble_eq_true rfl, Nat.le_of_ble_eq_true rfl⟩ hl.1 rfl (Nat.le_of_ble_eq_true rfl) dX3_take_2 ⟨Nat.le_refl _, Nat.le_refl _⟩) (fun H locs hP hS => ?_)
  refine lv_if_eq (tgt := 15) hx hb dX3_take_5 (by decide) (fun c3 => ?_) (fun c3 => ?_)
  · have hf := ite_t hf c3
    refine lv_iconst (v := (-1)) hx hb dX3_take_15 (by decide) ?_
    exact ret_i C0 hP hS (congrArg Prod.fst (Option.some.inj hf)) (congrArg Prod.snd (Option.some.inj hf)) dX3_take_16
  · have hf := ite_f hf c3
    refine lv_iload_n hx hb dX3_take_8 rfl (lv_at hl 2 rfl) ?_
    obtain ⟨v5, h4, hf⟩ := b1_some hf
    refine sys_i hS (sys_runS (As := [.int x2]) (rest := []) C0 KC_ok hP hS (m3_isCup l D K ad tL hI S x2 h4) gX3_take_X3_isCup rfl ⟨rfl, rfl⟩ hd_X3_isCup ⟨Nat.le_of_ble_eq_true rfl, Nat.le_of_ble_eq_true rfl⟩ hl.1 rfl (Nat.le_of_ble_eq_true rfl) dX3_take_9 ⟨Nat.le_refl _, Nat.le_refl _⟩) (fun H locs hP hS => ?_)
    refine lv_if_ne (tgt := 17) hx hb dX3_take_12 (by decide) (fun c6 => ?_) (fun c6 => ?_)
    · have hf := ite_f hf c6
      refine lv_aload_n hx hb dX3_take_17 rfl (lv_at hl 0 rfl) ?_
      refine x_get C0 hKC.1 hP (by decide) (EC_0 K ad S) rfl in_X3_take_X3 5 (by decide) (List.mem_of_getElem? (i := 1) rfl) rfl dX3_take_18 ?_
      obtain ⟨q8, h7, hf⟩ := b1_some hf
      obtain ⟨g9, hf⟩ := gd_some hf
      refine sys_r hS (sys_runV (As := []) (rest := []) C0 KC_ok hKC.1 hP hS (ltS (by decide : 0 < 4)) (EC_S K ad S (by decide : 0 < 4)) rfl (m2_now l D K ad tL hI S 0 (by decide : 0 < 4) h7) gX3_take_X2_now rfl ⟨rfl, rfl⟩ hd_X2_now ⟨Nat.le_of_ble_eq_true rfl, Nat.le_of_ble_eq_true rfl⟩ hl.1 rfl (Nat.le_of_ble_eq_true rfl) dX3_take_21 ⟨Nat.le_refl _, Nat.le_refl _⟩) (fun H locs hP hS => ?_)
      refine lv_astore_n (lv' := [(3, .ref (ad (30 + q8))), (0, .ref (ad 0)), (1, .int x1), (2, .int x2)]) hx hb dX3_take_24 rfl hl (by decide) rfl (fun ls hl => ?_)
      refine lv_aload_n hx hb dX3_take_25 rfl (lv_at hl 0 rfl) ?_
      refine x_get C0 hKC.1 hP (ltM (of_decide_eq_true g9)) (EC_M K ad S (of_decide_eq_true g9)) rfl in_X3_take_X1 2 (by decide) (List.mem_of_getElem? (i := 2) rfl) rfl dX3_take_26 ?_
      refine lv_iload_n hx hb dX3_take_29 rfl (lv_at hl 3 rfl) ?_
      refine lv_icmp_lt (tgt := 46) hx hb dX3_take_30 (by decide) (fun c10 => ?_) (fun c10 => ?_)
      · have hf := ite_t hf c10
        refine lv_bipush (v := (-4)) hx hb dX3_take_46 (by decide) ?_
        exact ret_i C0 hP hS (congrArg Prod.fst (Option.some.inj hf)) (congrArg Prod.snd (Option.some.inj hf)) dX3_take_48
      · have hf := ite_f hf c10
        refine lv_aload_n hx hb dX3_take_33 rfl (lv_at hl 0 rfl) ?_
        refine x_get C0 hKC.1 hP (ltM (of_decide_eq_true g9)) (EC_M K ad S (of_decide_eq_true g9)) rfl in_X3_take_X1 0 (by decide) (List.mem_of_getElem? (i := 3) rfl) rfl dX3_take_34 ?_
        refine lv_iload_n hx hb dX3_take_37 rfl (lv_at hl 2 rfl) ?_
        obtain ⟨g11, hf⟩ := gd_some hf
        refine x_iald C0 hKC.1 hP (IC_jar K ad (of_decide_eq_true g9)) (t0 := 0) rfl g11 dX3_take_38 ?_
        refine lv_iload_n hx hb dX3_take_39 rfl (lv_at hl 3 rfl) ?_
        refine lv_iadd hx hb dX3_take_40 ?_
        refine lv_bipush (v := 99) hx hb dX3_take_41 (by decide) ?_
        refine lv_icmp_le (tgt := 49) hx hb dX3_take_43 (by decide) (fun c12 => ?_) (fun c12 => ?_)
        · have hf := ite_t hf c12
          refine lv_aload_n hx hb dX3_take_49 rfl (lv_at hl 1 rfl) ?_
          refine x_get C0 hKC.1 hP (by decide) (EC_0 K ad S) rfl in_X3_take_X3 5 (by decide) (List.mem_of_getElem? (i := 1) rfl) rfl dX3_take_50 ?_
          obtain ⟨v14, h13, hf⟩ := b1_some hf
          refine sys_i hS (sys_runV (As := []) (rest := []) C0 KC_ok hKC.1 hP hS (ltS (by decide : 0 < 4)) (EC_S K ad S (by decide : 0 < 4)) rfl (m2_isFull l D K ad tL hI S 0 (by decide : 0 < 4) h13) gX3_take_X2_isFull rfl ⟨rfl, rfl⟩ hd_X2_isFull ⟨Nat.le_of_ble_eq_true rfl, Nat.le_of_ble_eq_true rfl⟩ hl.1 rfl (Nat.le_of_ble_eq_true rfl) dX3_take_53 ⟨Nat.le_refl _, Nat.le_refl _⟩) (fun H locs hP hS => ?_)
          refine lv_if_eq (tgt := 62) hx hb dX3_take_56 (by decide) (fun c15 => ?_) (fun c15 => ?_)
          · have hf := ite_t hf c15
            refine lv_aload_n hx hb dX3_take_62 rfl (lv_at hl 1 rfl) ?_
            refine x_get C0 hKC.1 hP (by decide) (EC_0 K ad S) rfl in_X3_take_X3 5 (by decide) (List.mem_of_getElem? (i := 1) rfl) rfl dX3_take_63 ?_
            obtain ⟨q17, S18, h16, hf⟩ := b2_some hf
            obtain ⟨g19, hf⟩ := gd_some hf
            refine sys_r hS (sys_runV (As := []) (rest := []) C0 KC_ok hKC.1 hP hS (ltS (by decide : 0 < 4)) (EC_S K ad S (by decide : 0 < 4)) rfl (m2_next l D K ad tL hI S 0 (by decide : 0 < 4) h16) gX3_take_X2_next rfl ⟨rfl, rfl⟩ hd_X2_next ⟨Nat.le_of_ble_eq_true rfl, Nat.le_of_ble_eq_true rfl⟩ hl.1 rfl (Nat.le_of_ble_eq_true rfl) dX3_take_66 ⟨Nat.le_refl _, Nat.le_refl _⟩) (fun H locs hP hS => ?_)
            refine lv_astore (lv' := [(4, .ref (ad (30 + q17))), (3, .ref (ad (30 + q8))), (0, .ref (ad 0)), (1, .int x1), (2, .int x2)]) hx hb dX3_take_69 hl (by decide) rfl (fun ls hl => ?_)
            refine lv_aload hx hb dX3_take_71 (lv_at hl 0 rfl) ?_
            refine lv_iload_n hx hb dX3_take_73 rfl (lv_at hl 3 rfl) ?_
            refine lv_iload_n hx hb dX3_take_74 rfl (lv_at hl 4 rfl) ?_
            refine lv_ineg hx hb dX3_take_75 ?_
            obtain ⟨S21, h20, hf⟩ := b1_some hf
            refine sys_v hS (sys_runV (As := [.int x1, .int (-x2)]) (rest := []) C0 KC_ok hKC.1 hP hS (ltM (of_decide_eq_true g19)) (EC_M K ad S18 (of_decide_eq_true g19)) rfl (m1_toQuay l D K ad tL hI S18 q17 x1 (-x2) (of_decide_eq_true g19) h20) gX3_take_X1_toQuay rfl ⟨rfl, rfl⟩ hd_X1_toQuay ⟨Nat.le_of_ble_eq_true rfl, Nat.le_of_ble_eq_true rfl⟩ hl.1 rfl (Nat.le_of_ble_eq_true rfl) dX3_take_76 ⟨Nat.le_refl _, Nat.le_refl _⟩) (fun H locs hP hS => ?_)
            refine lv_aload hx hb dX3_take_79 (lv_at hl 0 rfl) ?_
            refine x_get C0 hKC.1 hP (ltM (of_decide_eq_true g19)) (EC_M K ad S21 (of_decide_eq_true g19)) rfl in_X3_take_X1 0 (by decide) (List.mem_of_getElem? (i := 3) rfl) rfl dX3_take_81 ?_
            refine lv_iload_n hx hb dX3_take_84 rfl (lv_at hl 3 rfl) ?_
            obtain ⟨g22, hf⟩ := gd_some hf
            refine x_iald C0 hKC.1 hP (IC_jar K ad (of_decide_eq_true g19)) (t0 := 0) rfl g22 dX3_take_85 ?_
            exact ret_i C0 hP hS (congrArg Prod.fst (Option.some.inj hf)) (congrArg Prod.snd (Option.some.inj hf)) dX3_take_86
          · have hf := ite_f hf c15
            refine lv_bipush (v := (-2)) hx hb dX3_take_59 (by decide) ?_
            exact ret_i C0 hP hS (congrArg Prod.fst (Option.some.inj hf)) (congrArg Prod.snd (Option.some.inj hf)) dX3_take_61
        · have hf := ite_f hf c12
          refine lv_bipush (v := (-4)) hx hb dX3_take_46 (by decide) ?_
          exact ret_i C0 hP hS (congrArg Prod.fst (Option.some.inj hf)) (congrArg Prod.snd (Option.some.inj hf)) dX3_take_48
    · have hf := ite_t hf c6
      refine lv_iconst (v := (-1)) hx hb dX3_take_15 (by decide) ?_
      exact ret_i C0 hP hS (congrArg Prod.fst (Option.some.inj hf)) (congrArg Prod.snd (Option.some.inj hf)) dX3_take_16
theorem m3_take (l : Launch) (D : va_G) (K : Nat → ClassId) (ad : Nat → Nat) (tL : Nat) (hI : INJ NC ad) (S : Mem) (x1 : Int32) (x2 : Int32) {r : Int32} {T : Mem} (hf : f3_take S x1 x2 = some (r, T)) : SysI l yX3_take wsX3_take rm3_take D NC ad (EC K ad) (KC D K tL (IW NC ad)) [.ref (ad 0), .int x1, .int x2] S r T :=
  met_of (own := RX3) (by decide) rfl rfl (Nat.le_of_ble_eq_true rfl) (fun _ _ s _ _ _ _ ls C0 _ hP hl => w3_take hI C0 S x1 x2 hf s.heap [] ls hP va_S.rf hl)
theorem in_X3_undo_X3 : ∀ w ∈ wsX30, w ∈ wsX3_undo := fun _ h => List.mem_cons_of_mem _ (List.mem_append_left _ (List.mem_append_right _ h))
theorem in_X3_undo_X2 : ∀ w ∈ wsX20, w ∈ wsX3_undo := fun _ h => List.mem_cons_of_mem _ (List.mem_append_right _ h)
theorem hd_X3_undo : yX3_undo.cls = RX3 ∧ yX3_undo.cls ≠ "java/lang/invoke/MethodHandle" ∧ yX3_undo.cls ≠ "java/lang/invoke/VarHandle" ∧ (parseMethodDescriptor yX3_undo.desc).map (fun d => d.parameters.length) = some 1 := by decide +kernel
abbrev rm3_undo : Room := { frames := 0, cells := 0, slots := 0, locals := 0 }
set_option maxHeartbeats 4000000 in
set_option maxRecDepth 100000 in
theorem w3_undo {p : Program} {l : Launch} {e : Env} {s : State} {m : MethodId} {args : Array Value} {below : List Frame} {meth : Method} {c : Code} {D : va_G} {K : Nat → ClassId} {ad : Nat → Nat} {tL : Nat} (hI : INJ NC ad) (C0 : Cx p s m args meth c RX3 wsX3_undo cX3_undo 3 (some .int) (KC D K tL (IW NC ad))) {r : Int32} {T : Mem} : ∀ (S : Mem) (x1 : Int32), f3_undo S x1 = some (r, T) → ∀ (H : Heap) (locs : List Loc) (ls : Array Slot), va_P D vwCl (wl NC ad (EC K ad S)) H → va_S (IW NC ad) s.heap H locs → lv_has ls 3 [(0, .ref (ad 0)), (1, .int x1)] → W p l e rm3_undo s m args below meth c H locs 0 0 (MQ below (va_Qi (fun (x : Int32) (u : Mem) => x = r ∧ u = T) (fun u t => va_P D vwCl (wl NC ad (EC K ad u)) t.heap) (IW NC ad)) args s 0 0 (IW NC ad)) (F0 m 0 ls []) := by
  have hx := C0.1
  have hb := C0.2.1
  have hts := C0.2.2.2.2.1
  have hown := C0.2.2.2.1
  have hKC := C0.2.2.2.2.2.2.2
  intro S x1 hf H locs ls hP hS hl
  rw [f3_undo] at hf
  refine lv_iload_n hx hb dX3_undo_0 rfl (lv_at hl 1 rfl) ?_
  refine lv_if_lt (tgt := 15) hx hb dX3_undo_1 (by decide) (fun c1 => ?_) (fun c1 => ?_)
  · have hf := ite_t hf c1
    refine lv_iconst (v := (-1)) hx hb dX3_undo_15 (by decide) ?_
    exact ret_i C0 hP hS (congrArg Prod.fst (Option.some.inj hf)) (congrArg Prod.snd (Option.some.inj hf)) dX3_undo_16
  · have hf := ite_f hf c1
    refine lv_iload_n hx hb dX3_undo_4 rfl (lv_at hl 1 rfl) ?_
    refine lv_aload_n hx hb dX3_undo_5 rfl (lv_at hl 0 rfl) ?_
    refine x_get C0 hKC.1 hP (by decide) (EC_0 K ad S) rfl in_X3_undo_X3 5 (by decide) (List.mem_of_getElem? (i := 1) rfl) rfl dX3_undo_6 ?_
    refine x_get C0 hKC.1 hP (ltS (by decide : 0 < 4)) (EC_S K ad S (by decide : 0 < 4)) rfl in_X3_undo_X2 1 (by decide) (List.mem_of_getElem? (i := 2) rfl) rfl dX3_undo_9 ?_
    refine lv_icmp_le (tgt := 17) hx hb dX3_undo_12 (by decide) (fun c2 => ?_) (fun c2 => ?_)
    · have hf := ite_t hf c2
      refine lv_aload_n hx hb dX3_undo_17 rfl (lv_at hl 0 rfl) ?_
      refine x_get C0 hKC.1 hP (by decide) (EC_0 K ad S) rfl in_X3_undo_X3 5 (by decide) (List.mem_of_getElem? (i := 1) rfl) rfl dX3_undo_18 ?_
      refine x_get C0 hKC.1 hP (ltS (by decide : 0 < 4)) (EC_S K ad S (by decide : 0 < 4)) rfl in_X3_undo_X2 1 (by decide) (List.mem_of_getElem? (i := 2) rfl) rfl dX3_undo_21 ?_
      refine lv_iload_n hx hb dX3_undo_24 rfl (lv_at hl 1 rfl) ?_
      refine lv_isub hx hb dX3_undo_25 ?_
      refine lv_topi (fun v3 ev3 => ?_)
      have hf := nm_at ev3 hf
      refine lv_istore_n (lv' := [(2, .int v3), (0, .ref (ad 0)), (1, .int x1)]) hx hb dX3_undo_26 rfl hl (by decide) rfl (fun ls hl => ?_)
      refine lv_aload_n hx hb dX3_undo_27 rfl (lv_at hl 1 rfl) ?_
      refine x_get C0 hKC.1 hP (by decide) (EC_0 K ad S) rfl in_X3_undo_X3 5 (by decide) (List.mem_of_getElem? (i := 1) rfl) rfl dX3_undo_28 ?_
      refine lv_iload_n hx hb dX3_undo_31 rfl (lv_at hl 2 rfl) ?_
      refine x_puti C0 hKC.1 hI (EC_loc K ad) hP hS (ltS (by decide : 0 < 4)) (EC_S K ad S (by decide : 0 < 4)) rfl tyX2 tyX2_ok nmX2 in_X3_undo_X2 1 (by decide) (List.mem_of_getElem? (i := 2) rfl) rfl (tyX2_ok 1 (by decide)) (Nat.le_of_ble_eq_true rfl) (EC_pS K ad S _ (by decide : 0 < 4)) dX3_undo_32 (fun S4 eS4 H locs hP hS => ?_)
      have hf := nm_at eS4 hf
      refine lv_iload_n hx hb dX3_undo_35 rfl (lv_at hl 0 rfl) ?_
      exact ret_i C0 hP hS (congrArg Prod.fst (Option.some.inj hf)) (congrArg Prod.snd (Option.some.inj hf)) dX3_undo_36
    · have hf := ite_f hf c2
      refine lv_iconst (v := (-1)) hx hb dX3_undo_15 (by decide) ?_
      exact ret_i C0 hP hS (congrArg Prod.fst (Option.some.inj hf)) (congrArg Prod.snd (Option.some.inj hf)) dX3_undo_16
theorem m3_undo (l : Launch) (D : va_G) (K : Nat → ClassId) (ad : Nat → Nat) (tL : Nat) (hI : INJ NC ad) (S : Mem) (x1 : Int32) {r : Int32} {T : Mem} (hf : f3_undo S x1 = some (r, T)) : SysI l yX3_undo wsX3_undo rm3_undo D NC ad (EC K ad) (KC D K tL (IW NC ad)) [.ref (ad 0), .int x1] S r T :=
  met_of (own := RX3) (by decide) rfl rfl (Nat.le_of_ble_eq_true rfl) (fun _ _ s _ _ _ _ ls C0 _ hP hl => w3_undo hI C0 S x1 hf s.heap [] ls hP va_S.rf hl)
theorem hd_X3_isKeeping : yX3_isKeeping.cls ≠ "java/lang/invoke/MethodHandle" ∧ yX3_isKeeping.cls ≠ "java/lang/invoke/VarHandle" ∧ (parseMethodDescriptor yX3_isKeeping.desc).map (fun d => d.parameters.length) = some 1 := by decide +kernel
abbrev rm3_isKeeping : Room := { frames := 0, cells := 0, slots := 0, locals := 0 }
set_option maxHeartbeats 4000000 in
set_option maxRecDepth 100000 in
theorem w3_isKeeping {p : Program} {l : Launch} {e : Env} {s : State} {m : MethodId} {args : Array Value} {below : List Frame} {meth : Method} {c : Code} {D : va_G} {K : Nat → ClassId} {ad : Nat → Nat} {tL : Nat} (hI : INJ NC ad) (C0 : Cx p s m args meth c RX3 wsX3_isKeeping cX3_isKeeping 1 (some .boolean) (KC D K tL (IW NC ad))) (S : Mem) {r : Int32} : ∀ (x0 : Int32), f3_isKeeping x0 = some r → ∀ (H : Heap) (locs : List Loc) (ls : Array Slot), va_P D vwCl (wl NC ad (EC K ad S)) H → va_S (IW NC ad) s.heap H locs → lv_has ls 1 [(0, .int x0)] → W p l e rm3_isKeeping s m args below meth c H locs 0 0 (MQ below (va_Qi (fun (x : Int32) (u : Mem) => x = r ∧ u = S) (fun u t => va_P D vwCl (wl NC ad (EC K ad u)) t.heap) (IW NC ad)) args s 0 0 (IW NC ad)) (F0 m 0 ls []) := by
  have hx := C0.1
  have hb := C0.2.1
  have hts := C0.2.2.2.2.1
  have hown := C0.2.2.2.1
  have hKC := C0.2.2.2.2.2.2.2
  intro x0 hf H locs ls hP hS hl
  rw [f3_isKeeping] at hf
  refine lv_iload_n hx hb dX3_isKeeping_0 rfl (lv_at hl 0 rfl) ?_
  refine lv_if_lt (tgt := 13) hx hb dX3_isKeeping_1 (by decide) (fun c1 => ?_) (fun c1 => ?_)
  · have hf := ite_t hf c1
    refine lv_iconst (v := 0) hx hb dX3_isKeeping_13 (by decide) ?_
    exact ret_z C0 hP hS (Or.inl rfl) (Option.some.inj hf) rfl dX3_isKeeping_14
  · have hf := ite_f hf c1
    refine lv_iload_n hx hb dX3_isKeeping_4 rfl (lv_at hl 0 rfl) ?_
    refine lv_iconst (v := 3) hx hb dX3_isKeeping_5 (by decide) ?_
    refine lv_icmp_ge (tgt := 13) hx hb dX3_isKeeping_6 (by decide) (fun c2 => ?_) (fun c2 => ?_)
    · have hf := ite_t hf c2
      refine lv_iconst (v := 0) hx hb dX3_isKeeping_13 (by decide) ?_
      exact ret_z C0 hP hS (Or.inl rfl) (Option.some.inj hf) rfl dX3_isKeeping_14
    · have hf := ite_f hf c2
      refine lv_iconst (v := 1) hx hb dX3_isKeeping_9 (by decide) ?_
      refine lv_goto (tgt := 14) hx hb dX3_isKeeping_10 (by decide) ?_
      exact ret_z C0 hP hS (Or.inr rfl) (Option.some.inj hf) rfl dX3_isKeeping_14
theorem m3_isKeeping (l : Launch) (D : va_G) (K : Nat → ClassId) (ad : Nat → Nat) (tL : Nat) (hI : INJ NC ad) (S : Mem) (x0 : Int32) {r : Int32} (hf : f3_isKeeping x0 = some r) : SysI l yX3_isKeeping wsX3_isKeeping rm3_isKeeping D NC ad (EC K ad) (KC D K tL (IW NC ad)) [.int x0] S r S :=
  met_of (own := RX3) (by decide) rfl rfl (Nat.le_of_ble_eq_true rfl) (fun _ _ s _ _ _ _ ls C0 _ hP hl => w3_isKeeping hI C0 S x0 hf s.heap [] ls hP va_S.rf hl)
theorem in_X2_become_X2 : ∀ w ∈ wsX20, w ∈ wsX2_become := fun _ h => List.mem_cons_of_mem _ (List.mem_append_left _ (List.mem_append_right _ h))
theorem in_X2_become_X1 : ∀ w ∈ wsX10, w ∈ wsX2_become := fun _ h => List.mem_cons_of_mem _ (List.mem_append_right _ h)
theorem hd_X2_become : yX2_become.cls = RX2 ∧ yX2_become.cls ≠ "java/lang/invoke/MethodHandle" ∧ yX2_become.cls ≠ "java/lang/invoke/VarHandle" ∧ (parseMethodDescriptor yX2_become.desc).map (fun d => d.parameters.length) = some 1 := by decide +kernel
abbrev rm2_become : Room := { frames := 2, cells := 0, slots := 0, locals := 117 }
set_option maxHeartbeats 4000000 in
set_option maxRecDepth 100000 in
theorem w2_become_b2 {p : Program} {l : Launch} {e : Env} {s : State} {m : MethodId} {args : Array Value} {below : List Frame} {meth : Method} {c : Code} {D : va_G} {K : Nat → ClassId} {ad : Nat → Nat} {tL : Nat} (hI : INJ NC ad) (C0 : Cx p s m args meth c RX2 wsX2_become cX2_become 3 none (KC D K tL (IW NC ad))) {T : Mem} : ∀ (n : Nat), ∀ (S : Mem) (s0 : Nat) (s1 : Nat) (x2 : Int32), s0 < 4 → s1 < 4 → f2_become_b2 n S s0 s1 x2 = some T → ∀ (H : Heap) (locs : List Loc) (ls : Array Slot), va_P D vwCl (wl NC ad (EC K ad S)) H → va_S (IW NC ad) s.heap H locs → lv_has ls 3 [(0, .ref (ad (22 + s0))), (1, .ref (ad (22 + s1))), (2, .int x2)] → W p l e rm2_become s m args below meth c H locs 0 0 (MQ below (va_Qv (fun (u : Mem) => u = T) (fun u t => va_P D vwCl (wl NC ad (EC K ad u)) t.heap) (IW NC ad)) args s 0 0 (IW NC ad)) (F0 m 2 ls []) := by
  have hx := C0.1
  have hb := C0.2.1
  have hts := C0.2.2.2.2.1
  have hown := C0.2.2.2.1
  have hKC := C0.2.2.2.2.2.2.2
  intro n
  induction n with
  | zero =>
    intro S s0 s1 x2 hs0 hs1 hf
    rw [f2_become_b2] at hf
    cases hf
  | succ n ih =>
    intro S s0 s1 x2 hs0 hs1 hf H locs ls hP hS hl
    rw [f2_become_b2] at hf
    refine lv_iload_n hx hb dX2_become_2 rfl (lv_at hl 2 rfl) ?_
    refine lv_aload_n hx hb dX2_become_3 rfl (lv_at hl 1 rfl) ?_
    refine x_get C0 hKC.1 hP (ltS hs1) (EC_S K ad S hs1) rfl in_X2_become_X2 1 (by decide) (List.mem_of_getElem? (i := 1) rfl) rfl dX2_become_4 ?_
    refine lv_icmp_gt (tgt := 31) hx hb dX2_become_7 (by decide) (fun c1 => ?_) (fun c1 => ?_)
    · have hf := ite_t hf c1
      refine lv_aload_n hx hb dX2_become_31 rfl (lv_at hl 0 rfl) ?_
      refine lv_aload_n hx hb dX2_become_32 rfl (lv_at hl 1 rfl) ?_
      refine x_get C0 hKC.1 hP (ltS hs1) (EC_S K ad S hs1) rfl in_X2_become_X2 1 (by decide) (List.mem_of_getElem? (i := 1) rfl) rfl dX2_become_33 ?_
      refine x_puti C0 hKC.1 hI (EC_loc K ad) hP hS (ltS hs0) (EC_S K ad S hs0) rfl tyX2 tyX2_ok nmX2 in_X2_become_X2 1 (by decide) (List.mem_of_getElem? (i := 1) rfl) rfl (tyX2_ok 1 (by decide)) (Nat.le_of_ble_eq_true rfl) (EC_pS K ad S _ hs0) dX2_become_36 (fun S2 eS2 H locs hP hS => ?_)
      have hf := nm_at eS2 hf
      exact ret_v C0 hP hS (Option.some.inj hf) dX2_become_39
    · have hf := ite_f hf c1
      refine lv_aload_n hx hb dX2_become_10 rfl (lv_at hl 0 rfl) ?_
      refine x_get C0 hKC.1 hP (ltS hs0) (EC_S K ad S hs0) rfl in_X2_become_X2 0 (by decide) (List.mem_of_getElem? (i := 2) rfl) rfl dX2_become_11 ?_
      refine lv_iload_n hx hb dX2_become_14 rfl (lv_at hl 2 rfl) ?_
      obtain ⟨g3, hf⟩ := gd_some hf
      refine x_aald C0 hKC.1 hP (ltMA hs0) (EC_MA K ad S hs0) (t0 := 2) rfl rfl g3 dX2_become_15 ?_
      refine lv_aload_n hx hb dX2_become_16 rfl (lv_at hl 1 rfl) ?_
      refine x_get C0 hKC.1 hP (ltS hs1) (EC_S K ad S hs1) rfl in_X2_become_X2 0 (by decide) (List.mem_of_getElem? (i := 2) rfl) rfl dX2_become_17 ?_
      refine lv_iload_n hx hb dX2_become_20 rfl (lv_at hl 2 rfl) ?_
      obtain ⟨g4, hf⟩ := gd_some hf
      refine x_aald C0 hKC.1 hP (ltMA hs1) (EC_MA K ad S hs1) (t0 := 2) rfl rfl g4 dX2_become_21 ?_
      obtain ⟨S6, h5, hf⟩ := b1_some hf
      refine sys_v hS (sys_runV (As := [.ref (ad (30 + (41 * s1 + (ix x2))))]) (rest := []) C0 KC_ok hKC.1 hP hS (ltM (ltQ hs0 (inb_lt g3))) (EC_M K ad S (ltQ hs0 (inb_lt g3))) rfl (m1_become l D K ad tL hI S (41 * s0 + (ix x2)) (41 * s1 + (ix x2)) (ltQ hs0 (inb_lt g3)) (ltQ hs1 (inb_lt g4)) h5) gX2_become_X1_become rfl ⟨rfl, rfl⟩ hd_X1_become ⟨Nat.le_of_ble_eq_true rfl, Nat.le_of_ble_eq_true rfl⟩ hl.1 rfl (Nat.le_of_ble_eq_true rfl) dX2_become_22 ⟨Nat.le_refl _, Nat.le_refl _⟩) (fun H locs hP hS => ?_)
      obtain ⟨v7, ev7⟩ : ∃ y : Int32, y = x2 + 1 := ⟨_, rfl⟩
      have hf := nm_at ev7 hf
      refine lv_iinc (v := v7) (lv' := [(2, .int v7), (0, .ref (ad (22 + s0))), (1, .ref (ad (22 + s1)))]) hx hb dX2_become_25 hl (k := 2) rfl (by rw [ev7]; rfl) (by decide) rfl (fun ls hl => ?_)
      refine lv_goto (tgt := 2) hx hb dX2_become_28 (by decide) ?_
      exact ih S6 s0 s1 v7 hs0 hs1 hf H locs ls hP hS (lv_sub hl [1, 2, 0] rfl)
set_option maxHeartbeats 4000000 in
set_option maxRecDepth 100000 in
theorem w2_become {p : Program} {l : Launch} {e : Env} {s : State} {m : MethodId} {args : Array Value} {below : List Frame} {meth : Method} {c : Code} {D : va_G} {K : Nat → ClassId} {ad : Nat → Nat} {tL : Nat} (hI : INJ NC ad) (C0 : Cx p s m args meth c RX2 wsX2_become cX2_become 3 none (KC D K tL (IW NC ad))) {T : Mem} : ∀ (S : Mem) (s0 : Nat) (s1 : Nat), s0 < 4 → s1 < 4 → f2_become S s0 s1 = some T → ∀ (H : Heap) (locs : List Loc) (ls : Array Slot), va_P D vwCl (wl NC ad (EC K ad S)) H → va_S (IW NC ad) s.heap H locs → lv_has ls 3 [(0, .ref (ad (22 + s0))), (1, .ref (ad (22 + s1)))] → W p l e rm2_become s m args below meth c H locs 0 0 (MQ below (va_Qv (fun (u : Mem) => u = T) (fun u t => va_P D vwCl (wl NC ad (EC K ad u)) t.heap) (IW NC ad)) args s 0 0 (IW NC ad)) (F0 m 0 ls []) := by
  have hx := C0.1
  have hb := C0.2.1
  have hts := C0.2.2.2.2.1
  have hown := C0.2.2.2.1
  have hKC := C0.2.2.2.2.2.2.2
  intro S s0 s1 hs0 hs1 hf H locs ls hP hS hl
  rw [f2_become] at hf
  refine lv_iconst (v := 0) hx hb dX2_become_0 (by decide) ?_
  refine lv_istore_n (lv' := [(2, .int 0), (0, .ref (ad (22 + s0))), (1, .ref (ad (22 + s1)))]) hx hb dX2_become_1 rfl hl (by decide) rfl (fun ls hl => ?_)
  exact w2_become_b2 hI C0 FU S s0 s1 0 hs0 hs1 hf H locs ls hP hS (lv_sub hl [1, 2, 0] rfl)
theorem m2_become (l : Launch) (D : va_G) (K : Nat → ClassId) (ad : Nat → Nat) (tL : Nat) (hI : INJ NC ad) (S : Mem) (s0 : Nat) (s1 : Nat) (hs0 : s0 < 4) (hs1 : s1 < 4) {T : Mem} (hf : f2_become S s0 s1 = some T) : SysV l yX2_become wsX2_become rm2_become D NC ad (EC K ad) (KC D K tL (IW NC ad)) [.ref (ad (22 + s0)), .ref (ad (22 + s1))] S T :=
  met_of (own := RX2) (by decide) rfl rfl (Nat.le_of_ble_eq_true rfl) (fun _ _ s _ _ _ _ ls C0 _ hP hl => w2_become hI C0 S s0 s1 hs0 hs1 hf s.heap [] ls hP va_S.rf hl)
theorem in_X3_keep_X3 : ∀ w ∈ wsX30, w ∈ wsX3_keep := fun _ h => List.mem_cons_of_mem _ (List.mem_append_left _ (List.mem_append_left _ (List.mem_append_left _ (List.mem_append_right _ h))))
theorem in_X3_keep_X0 : ∀ w ∈ wsX00, w ∈ wsX3_keep := fun _ h => List.mem_cons_of_mem _ (List.mem_append_left _ (List.mem_append_left _ (List.mem_append_right _ h)))
theorem in_X3_keep_X2 : ∀ w ∈ wsX20, w ∈ wsX3_keep := fun _ h => List.mem_cons_of_mem _ (List.mem_append_left _ (List.mem_append_right _ h))
theorem in_X3_keep_X1 : ∀ w ∈ wsX10, w ∈ wsX3_keep := fun _ h => List.mem_cons_of_mem _ (List.mem_append_right _ h)
theorem hd_X3_keep : yX3_keep.cls = RX3 ∧ yX3_keep.cls ≠ "java/lang/invoke/MethodHandle" ∧ yX3_keep.cls ≠ "java/lang/invoke/VarHandle" ∧ (parseMethodDescriptor yX3_keep.desc).map (fun d => d.parameters.length) = some 1 := by decide +kernel
abbrev rm3_keep : Room := { frames := 3, cells := 0, slots := 0, locals := 139 }
set_option maxHeartbeats 4000000 in
set_option maxRecDepth 100000 in
theorem w3_keep {p : Program} {l : Launch} {e : Env} {s : State} {m : MethodId} {args : Array Value} {below : List Frame} {meth : Method} {c : Code} {D : va_G} {K : Nat → ClassId} {ad : Nat → Nat} {tL : Nat} (hI : INJ NC ad) (C0 : Cx p s m args meth c RX3 wsX3_keep cX3_keep 2 (some .int) (KC D K tL (IW NC ad))) {r : Int32} {T : Mem} : ∀ (S : Mem) (x1 : Int32), f3_keep S x1 = some (r, T) → ∀ (H : Heap) (locs : List Loc) (ls : Array Slot), va_P D vwCl (wl NC ad (EC K ad S)) H → va_S (IW NC ad) s.heap H locs → lv_has ls 2 [(0, .ref (ad 0)), (1, .int x1)] → W p l e rm3_keep s m args below meth c H locs 0 0 (MQ below (va_Qi (fun (x : Int32) (u : Mem) => x = r ∧ u = T) (fun u t => va_P D vwCl (wl NC ad (EC K ad u)) t.heap) (IW NC ad)) args s 0 0 (IW NC ad)) (F0 m 0 ls []) := by
  have hx := C0.1
  have hb := C0.2.1
  have hts := C0.2.2.2.2.1
  have hown := C0.2.2.2.1
  have hKC := C0.2.2.2.2.2.2.2
  intro S x1 hf H locs ls hP hS hl
  rw [f3_keep] at hf
  refine lv_iload_n hx hb dX3_keep_0 rfl (lv_at hl 1 rfl) ?_
  obtain ⟨v2, h1, hf⟩ := b1_some hf
  refine sys_i hS (sys_runS (As := [.int x1]) (rest := []) C0 KC_ok hP hS (m3_isKeeping l D K ad tL hI S x1 h1) gX3_keep_X3_isKeeping rfl ⟨rfl, rfl⟩ hd_X3_isKeeping ⟨Nat.le_of_ble_eq_true rfl, Nat.le_of_ble_eq_true rfl⟩ hl.1 rfl (Nat.le_of_ble_eq_true rfl) dX3_keep_1 ⟨Nat.le_refl _, Nat.le_refl _⟩) (fun H locs hP hS => ?_)
  refine lv_if_ne (tgt := 9) hx hb dX3_keep_4 (by decide) (fun c3 => ?_) (fun c3 => ?_)
  · have hf := ite_f hf c3
    refine lv_aload_n hx hb dX3_keep_9 rfl (lv_at hl 0 rfl) ?_
    refine x_get C0 hKC.1 hP (by decide) (EC_0 K ad S) rfl in_X3_keep_X3 4 (by decide) (List.mem_of_getElem? (i := 1) rfl) rfl dX3_keep_10 ?_
    refine x_get C0 hKC.1 hP (by decide) (EC_H K ad S) rfl in_X3_keep_X0 3 (by decide) (List.mem_of_getElem? (i := 2) rfl) rfl dX3_keep_13 ?_
    refine lv_if_ne (tgt := 22) hx hb dX3_keep_16 (by decide) (fun c4 => ?_) (fun c4 => ?_)
    · have hf := ite_f hf c4
      refine lv_aload_n hx hb dX3_keep_22 rfl (lv_at hl 0 rfl) ?_
      refine x_get C0 hKC.1 hP (by decide) (EC_0 K ad S) rfl in_X3_keep_X3 6 (by decide) (List.mem_of_getElem? (i := 3) rfl) rfl dX3_keep_23 ?_
      refine lv_iload_n hx hb dX3_keep_26 rfl (lv_at hl 1 rfl) ?_
      obtain ⟨g5, hf⟩ := gd_some hf
      refine x_aald C0 hKC.1 hP (by decide) (EC_KA K ad S) (t0 := 3) rfl rfl g5 dX3_keep_27 ?_
      refine lv_aload_n hx hb dX3_keep_28 rfl (lv_at hl 0 rfl) ?_
      refine x_get C0 hKC.1 hP (by decide) (EC_0 K ad S) rfl in_X3_keep_X3 5 (by decide) (List.mem_of_getElem? (i := 4) rfl) rfl dX3_keep_29 ?_
      obtain ⟨S7, h6, hf⟩ := b1_some hf
      refine sys_v hS (sys_runV (As := [.ref (ad (22 + 0))]) (rest := []) C0 KC_ok hKC.1 hP hS (ltS (ltK (inb_lt g5))) (EC_S K ad S (ltK (inb_lt g5))) rfl (m2_become l D K ad tL hI S (1 + (ix x1)) 0 (ltK (inb_lt g5)) (by decide : 0 < 4) h6) gX3_keep_X2_become rfl ⟨rfl, rfl⟩ hd_X2_become ⟨Nat.le_of_ble_eq_true rfl, Nat.le_of_ble_eq_true rfl⟩ hl.1 rfl (Nat.le_of_ble_eq_true rfl) dX3_keep_32 ⟨Nat.le_refl _, Nat.le_refl _⟩) (fun H locs hP hS => ?_)
      refine lv_aload_n hx hb dX3_keep_35 rfl (lv_at hl 0 rfl) ?_
      refine x_get C0 hKC.1 hP (by decide) (EC_0 K ad S7) rfl in_X3_keep_X3 5 (by decide) (List.mem_of_getElem? (i := 4) rfl) rfl dX3_keep_36 ?_
      refine x_get C0 hKC.1 hP (ltS (by decide : 0 < 4)) (EC_S K ad S7 (by decide : 0 < 4)) rfl in_X3_keep_X2 1 (by decide) (List.mem_of_getElem? (i := 5) rfl) rfl dX3_keep_39 ?_
      exact ret_i C0 hP hS (congrArg Prod.fst (Option.some.inj hf)) (congrArg Prod.snd (Option.some.inj hf)) dX3_keep_42
    · have hf := ite_t hf c4
      refine lv_bipush (v := (-4)) hx hb dX3_keep_19 (by decide) ?_
      exact ret_i C0 hP hS (congrArg Prod.fst (Option.some.inj hf)) (congrArg Prod.snd (Option.some.inj hf)) dX3_keep_21
  · have hf := ite_t hf c3
    refine lv_iconst (v := (-1)) hx hb dX3_keep_7 (by decide) ?_
    exact ret_i C0 hP hS (congrArg Prod.fst (Option.some.inj hf)) (congrArg Prod.snd (Option.some.inj hf)) dX3_keep_8
theorem m3_keep (l : Launch) (D : va_G) (K : Nat → ClassId) (ad : Nat → Nat) (tL : Nat) (hI : INJ NC ad) (S : Mem) (x1 : Int32) {r : Int32} {T : Mem} (hf : f3_keep S x1 = some (r, T)) : SysI l yX3_keep wsX3_keep rm3_keep D NC ad (EC K ad) (KC D K tL (IW NC ad)) [.ref (ad 0), .int x1] S r T :=
  met_of (own := RX3) (by decide) rfl rfl (Nat.le_of_ble_eq_true rfl) (fun _ _ s _ _ _ _ ls C0 _ hP hl => w3_keep hI C0 S x1 hf s.heap [] ls hP va_S.rf hl)
theorem in_X3_on_X3 : ∀ w ∈ wsX30, w ∈ wsX3_on := fun _ h => List.mem_cons_of_mem _ (List.mem_append_left _ (List.mem_append_left _ (List.mem_append_right _ h)))
theorem in_X3_on_X2 : ∀ w ∈ wsX20, w ∈ wsX3_on := fun _ h => List.mem_cons_of_mem _ (List.mem_append_left _ (List.mem_append_right _ h))
theorem in_X3_on_X1 : ∀ w ∈ wsX10, w ∈ wsX3_on := fun _ h => List.mem_cons_of_mem _ (List.mem_append_right _ h)
theorem hd_X3_on : yX3_on.cls = RX3 ∧ yX3_on.cls ≠ "java/lang/invoke/MethodHandle" ∧ yX3_on.cls ≠ "java/lang/invoke/VarHandle" ∧ (parseMethodDescriptor yX3_on.desc).map (fun d => d.parameters.length) = some 1 := by decide +kernel
abbrev rm3_on : Room := { frames := 3, cells := 0, slots := 0, locals := 139 }
set_option maxHeartbeats 4000000 in
set_option maxRecDepth 100000 in
theorem w3_on {p : Program} {l : Launch} {e : Env} {s : State} {m : MethodId} {args : Array Value} {below : List Frame} {meth : Method} {c : Code} {D : va_G} {K : Nat → ClassId} {ad : Nat → Nat} {tL : Nat} (hI : INJ NC ad) (C0 : Cx p s m args meth c RX3 wsX3_on cX3_on 2 (some .int) (KC D K tL (IW NC ad))) {r : Int32} {T : Mem} : ∀ (S : Mem) (x1 : Int32), f3_on S x1 = some (r, T) → ∀ (H : Heap) (locs : List Loc) (ls : Array Slot), va_P D vwCl (wl NC ad (EC K ad S)) H → va_S (IW NC ad) s.heap H locs → lv_has ls 2 [(0, .ref (ad 0)), (1, .int x1)] → W p l e rm3_on s m args below meth c H locs 0 0 (MQ below (va_Qi (fun (x : Int32) (u : Mem) => x = r ∧ u = T) (fun u t => va_P D vwCl (wl NC ad (EC K ad u)) t.heap) (IW NC ad)) args s 0 0 (IW NC ad)) (F0 m 0 ls []) := by
  have hx := C0.1
  have hb := C0.2.1
  have hts := C0.2.2.2.2.1
  have hown := C0.2.2.2.1
  have hKC := C0.2.2.2.2.2.2.2
  intro S x1 hf H locs ls hP hS hl
  rw [f3_on] at hf
  refine lv_iload_n hx hb dX3_on_0 rfl (lv_at hl 1 rfl) ?_
  obtain ⟨v2, h1, hf⟩ := b1_some hf
  refine sys_i hS (sys_runS (As := [.int x1]) (rest := []) C0 KC_ok hP hS (m3_isKeeping l D K ad tL hI S x1 h1) gX3_on_X3_isKeeping rfl ⟨rfl, rfl⟩ hd_X3_isKeeping ⟨Nat.le_of_ble_eq_true rfl, Nat.le_of_ble_eq_true rfl⟩ hl.1 rfl (Nat.le_of_ble_eq_true rfl) dX3_on_1 ⟨Nat.le_refl _, Nat.le_refl _⟩) (fun H locs hP hS => ?_)
  refine lv_if_ne (tgt := 9) hx hb dX3_on_4 (by decide) (fun c3 => ?_) (fun c3 => ?_)
  · have hf := ite_f hf c3
    refine lv_aload_n hx hb dX3_on_9 rfl (lv_at hl 0 rfl) ?_
    refine x_get C0 hKC.1 hP (by decide) (EC_0 K ad S) rfl in_X3_on_X3 6 (by decide) (List.mem_of_getElem? (i := 1) rfl) rfl dX3_on_10 ?_
    refine lv_iload_n hx hb dX3_on_13 rfl (lv_at hl 1 rfl) ?_
    obtain ⟨g4, hf⟩ := gd_some hf
    refine x_aald C0 hKC.1 hP (by decide) (EC_KA K ad S) (t0 := 3) rfl rfl g4 dX3_on_14 ?_
    refine x_get C0 hKC.1 hP (ltS (ltK (inb_lt g4))) (EC_S K ad S (ltK (inb_lt g4))) rfl in_X3_on_X2 1 (by decide) (List.mem_of_getElem? (i := 2) rfl) rfl dX3_on_15 ?_
    refine lv_iconst (v := (-1)) hx hb dX3_on_18 (by decide) ?_
    refine lv_icmp_ne (tgt := 28) hx hb dX3_on_19 (by decide) (fun c5 => ?_) (fun c5 => ?_)
    · have hf := ite_f hf c5
      refine lv_aload_n hx hb dX3_on_28 rfl (lv_at hl 0 rfl) ?_
      refine x_get C0 hKC.1 hP (by decide) (EC_0 K ad S) rfl in_X3_on_X3 5 (by decide) (List.mem_of_getElem? (i := 3) rfl) rfl dX3_on_29 ?_
      refine lv_aload_n hx hb dX3_on_32 rfl (lv_at hl 0 rfl) ?_
      refine x_get C0 hKC.1 hP (by decide) (EC_0 K ad S) rfl in_X3_on_X3 6 (by decide) (List.mem_of_getElem? (i := 1) rfl) rfl dX3_on_33 ?_
      refine lv_iload_n hx hb dX3_on_36 rfl (lv_at hl 1 rfl) ?_
      obtain ⟨g6, hf⟩ := gd_some hf
      refine x_aald C0 hKC.1 hP (by decide) (EC_KA K ad S) (t0 := 3) rfl rfl g6 dX3_on_37 ?_
      obtain ⟨S8, h7, hf⟩ := b1_some hf
      refine sys_v hS (sys_runV (As := [.ref (ad (22 + (1 + (ix x1))))]) (rest := []) C0 KC_ok hKC.1 hP hS (ltS (by decide : 0 < 4)) (EC_S K ad S (by decide : 0 < 4)) rfl (m2_become l D K ad tL hI S 0 (1 + (ix x1)) (by decide : 0 < 4) (ltK (inb_lt g6)) h7) gX3_on_X2_become rfl ⟨rfl, rfl⟩ hd_X2_become ⟨Nat.le_of_ble_eq_true rfl, Nat.le_of_ble_eq_true rfl⟩ hl.1 rfl (Nat.le_of_ble_eq_true rfl) dX3_on_38 ⟨Nat.le_refl _, Nat.le_refl _⟩) (fun H locs hP hS => ?_)
      refine lv_aload_n hx hb dX3_on_41 rfl (lv_at hl 0 rfl) ?_
      refine x_get C0 hKC.1 hP (by decide) (EC_0 K ad S8) rfl in_X3_on_X3 5 (by decide) (List.mem_of_getElem? (i := 3) rfl) rfl dX3_on_42 ?_
      refine x_get C0 hKC.1 hP (ltS (by decide : 0 < 4)) (EC_S K ad S8 (by decide : 0 < 4)) rfl in_X3_on_X2 1 (by decide) (List.mem_of_getElem? (i := 2) rfl) rfl dX3_on_45 ?_
      exact ret_i C0 hP hS (congrArg Prod.fst (Option.some.inj hf)) (congrArg Prod.snd (Option.some.inj hf)) dX3_on_48
    · have hf := ite_t hf c5
      refine lv_aload_n hx hb dX3_on_22 rfl (lv_at hl 0 rfl) ?_
      refine lv_iconst (v := 1) hx hb dX3_on_23 (by decide) ?_
      obtain ⟨v10, S11, h9, hf⟩ := b2_some hf
      refine sys_i hS (sys_runV (As := [.int 1]) (rest := []) C0 KC_ok hKC.1 hP hS (by decide) (EC_0 K ad S) rfl (m3_foundThat l D K ad tL hI S 1 h9) gX3_on_X3_foundThat rfl ⟨rfl, rfl⟩ hd_X3_foundThat ⟨Nat.le_of_ble_eq_true rfl, Nat.le_of_ble_eq_true rfl⟩ hl.1 rfl (Nat.le_of_ble_eq_true rfl) dX3_on_24 ⟨Nat.le_refl _, Nat.le_refl _⟩) (fun H locs hP hS => ?_)
      exact ret_i C0 hP hS (congrArg Prod.fst (Option.some.inj hf)) (congrArg Prod.snd (Option.some.inj hf)) dX3_on_27
  · have hf := ite_t hf c3
    refine lv_iconst (v := (-1)) hx hb dX3_on_7 (by decide) ?_
    exact ret_i C0 hP hS (congrArg Prod.fst (Option.some.inj hf)) (congrArg Prod.snd (Option.some.inj hf)) dX3_on_8
theorem m3_on (l : Launch) (D : va_G) (K : Nat → ClassId) (ad : Nat → Nat) (tL : Nat) (hI : INJ NC ad) (S : Mem) (x1 : Int32) {r : Int32} {T : Mem} (hf : f3_on S x1 = some (r, T)) : SysI l yX3_on wsX3_on rm3_on D NC ad (EC K ad) (KC D K tL (IW NC ad)) [.ref (ad 0), .int x1] S r T :=
  met_of (own := RX3) (by decide) rfl rfl (Nat.le_of_ble_eq_true rfl) (fun _ _ s _ _ _ _ ls C0 _ hP hl => w3_on hI C0 S x1 hf s.heap [] ls hP va_S.rf hl)
theorem in_X1_worksOff_X0 : ∀ w ∈ wsX00, w ∈ wsX1_worksOff := fun _ h => List.mem_cons_of_mem _ (List.mem_append_left _ (List.mem_append_right _ h))
theorem in_X1_worksOff_X1 : ∀ w ∈ wsX10, w ∈ wsX1_worksOff := fun _ h => List.mem_cons_of_mem _ (List.mem_append_right _ h)
theorem hd_X1_worksOff : yX1_worksOff.cls = RX1 ∧ yX1_worksOff.cls ≠ "java/lang/invoke/MethodHandle" ∧ yX1_worksOff.cls ≠ "java/lang/invoke/VarHandle" ∧ (parseMethodDescriptor yX1_worksOff.desc).map (fun d => d.parameters.length) = some 1 := by decide +kernel
abbrev rm1_worksOff : Room := { frames := 3, cells := 0, slots := 0, locals := 75 }
set_option maxHeartbeats 4000000 in
set_option maxRecDepth 100000 in
theorem w1_worksOff_b32 {p : Program} {l : Launch} {e : Env} {s : State} {m : MethodId} {args : Array Value} {below : List Frame} {meth : Method} {c : Code} {D : va_G} {K : Nat → ClassId} {ad : Nat → Nat} {tL : Nat} (hI : INJ NC ad) (C0 : Cx p s m args meth c RX1 wsX1_worksOff cX1_worksOff 4 (some .int) (KC D K tL (IW NC ad))) (S : Mem) {r : Int32} (k4 : Nat → Int32 → Int32 → Option Int32) (hk4 : ∀ (q0 : Nat) (x2 : Int32) (x3 : Int32), q0 < 165 → k4 q0 x2 x3 = some r → ∀ (H : Heap) (locs : List Loc) (ls : Array Slot), va_P D vwCl (wl NC ad (EC K ad S)) H → va_S (IW NC ad) s.heap H locs → lv_has ls 4 [(0, .ref (ad (30 + q0))), (1, .ref (ad 15)), (2, .int x2), (3, .int x3)] → W p l e rm1_worksOff s m args below meth c H locs 0 0 (MQ below (va_Qi (fun (x : Int32) (u : Mem) => x = r ∧ u = S) (fun u t => va_P D vwCl (wl NC ad (EC K ad u)) t.heap) (IW NC ad)) args s 0 0 (IW NC ad)) (F0 m 4 ls [])) : ∀ (q0 : Nat) (x2 : Int32) (x3 : Int32), q0 < 165 → f1_worksOff_b32 k4 S q0 x2 x3 = some r → ∀ (H : Heap) (locs : List Loc) (ls : Array Slot), va_P D vwCl (wl NC ad (EC K ad S)) H → va_S (IW NC ad) s.heap H locs → lv_has ls 4 [(0, .ref (ad (30 + q0))), (1, .ref (ad 15)), (2, .int x2), (3, .int x3)] → W p l e rm1_worksOff s m args below meth c H locs 0 0 (MQ below (va_Qi (fun (x : Int32) (u : Mem) => x = r ∧ u = S) (fun u t => va_P D vwCl (wl NC ad (EC K ad u)) t.heap) (IW NC ad)) args s 0 0 (IW NC ad)) (F0 m 32 ls []) := by
  have hx := C0.1
  have hb := C0.2.1
  have hts := C0.2.2.2.2.1
  have hown := C0.2.2.2.1
  have hKC := C0.2.2.2.2.2.2.2
  intro q0 x2 x3 hq0 hf H locs ls hP hS hl
  rw [f1_worksOff_b32] at hf
  obtain ⟨v1, ev1⟩ : ∃ y : Int32, y = x3 + 1 := ⟨_, rfl⟩
  have hf := nm_at ev1 hf
  refine lv_iinc (v := v1) (lv' := [(3, .int v1), (0, .ref (ad (30 + q0))), (1, .ref (ad 15)), (2, .int x2)]) hx hb dX1_worksOff_32 hl (k := 3) rfl (by rw [ev1]; rfl) (by decide) rfl (fun ls hl => ?_)
  refine lv_goto (tgt := 4) hx hb dX1_worksOff_35 (by decide) ?_
  exact hk4 q0 x2 v1 hq0 hf H locs ls hP hS (lv_sub hl [1, 2, 3, 0] rfl)
set_option maxHeartbeats 4000000 in
set_option maxRecDepth 100000 in
theorem w1_worksOff_b4 {p : Program} {l : Launch} {e : Env} {s : State} {m : MethodId} {args : Array Value} {below : List Frame} {meth : Method} {c : Code} {D : va_G} {K : Nat → ClassId} {ad : Nat → Nat} {tL : Nat} (hI : INJ NC ad) (C0 : Cx p s m args meth c RX1 wsX1_worksOff cX1_worksOff 4 (some .int) (KC D K tL (IW NC ad))) (S : Mem) {r : Int32} : ∀ (n : Nat), ∀ (q0 : Nat) (x2 : Int32) (x3 : Int32), q0 < 165 → f1_worksOff_b4 S n q0 x2 x3 = some r → ∀ (H : Heap) (locs : List Loc) (ls : Array Slot), va_P D vwCl (wl NC ad (EC K ad S)) H → va_S (IW NC ad) s.heap H locs → lv_has ls 4 [(0, .ref (ad (30 + q0))), (1, .ref (ad 15)), (2, .int x2), (3, .int x3)] → W p l e rm1_worksOff s m args below meth c H locs 0 0 (MQ below (va_Qi (fun (x : Int32) (u : Mem) => x = r ∧ u = S) (fun u t => va_P D vwCl (wl NC ad (EC K ad u)) t.heap) (IW NC ad)) args s 0 0 (IW NC ad)) (F0 m 4 ls []) := by
  have hx := C0.1
  have hb := C0.2.1
  have hts := C0.2.2.2.2.1
  have hown := C0.2.2.2.1
  have hKC := C0.2.2.2.2.2.2.2
  intro n
  induction n with
  | zero =>
    intro q0 x2 x3 hq0 hf
    rw [f1_worksOff_b4] at hf
    cases hf
  | succ n ih =>
    intro q0 x2 x3 hq0 hf H locs ls hP hS hl
    rw [f1_worksOff_b4] at hf
    refine lv_iload_n hx hb dX1_worksOff_4 rfl (lv_at hl 3 rfl) ?_
    refine lv_aload_n hx hb dX1_worksOff_5 rfl (lv_at hl 1 rfl) ?_
    refine x_get C0 hKC.1 hP (by decide) (EC_H K ad S) rfl in_X1_worksOff_X0 3 (by decide) (List.mem_of_getElem? (i := 1) rfl) rfl dX1_worksOff_6 ?_
    refine lv_icmp_ge (tgt := 38) hx hb dX1_worksOff_9 (by decide) (fun c1 => ?_) (fun c1 => ?_)
    · have hf := ite_t hf c1
      refine lv_iload_n hx hb dX1_worksOff_38 rfl (lv_at hl 2 rfl) ?_
      exact ret_i C0 hP hS (Option.some.inj hf) rfl dX1_worksOff_39
    · have hf := ite_f hf c1
      refine lv_aload_n hx hb dX1_worksOff_12 rfl (lv_at hl 1 rfl) ?_
      refine lv_iload_n hx hb dX1_worksOff_13 rfl (lv_at hl 3 rfl) ?_
      refine lv_aload_n hx hb dX1_worksOff_14 rfl (lv_at hl 0 rfl) ?_
      refine x_get C0 hKC.1 hP (ltM hq0) (EC_M K ad S hq0) rfl in_X1_worksOff_X1 0 (by decide) (List.mem_of_getElem? (i := 2) rfl) rfl dX1_worksOff_15 ?_
      refine lv_iload_n hx hb dX1_worksOff_18 rfl (lv_at hl 3 rfl) ?_
      obtain ⟨g2, hf⟩ := gd_some hf
      refine x_iald C0 hKC.1 hP (IC_jar K ad hq0) (t0 := 0) rfl g2 dX1_worksOff_19 ?_
      obtain ⟨v4, h3, hf⟩ := b1_some hf
      refine sys_i hS (sys_runV (As := [.int x3, .int (gi S (195 + q0) (ix x3))]) (rest := []) C0 KC_ok hKC.1 hP hS (by decide) (EC_H K ad S) rfl (m0_comesOff l D K ad tL hI S x3 (gi S (195 + q0) (ix x3)) h3) gX1_worksOff_X0_comesOff rfl ⟨rfl, rfl⟩ hd_X0_comesOff ⟨Nat.le_of_ble_eq_true rfl, Nat.le_of_ble_eq_true rfl⟩ hl.1 rfl (Nat.le_of_ble_eq_true rfl) dX1_worksOff_20 ⟨Nat.le_refl _, Nat.le_refl _⟩) (fun H locs hP hS => ?_)
      refine lv_if_eq (tgt := 32) hx hb dX1_worksOff_23 (by decide) (fun c5 => ?_) (fun c5 => ?_)
      · have hf := ite_t hf c5
        exact w1_worksOff_b32 hI C0 S (f1_worksOff_b4 S n) ih q0 x2 x3 hq0 hf H locs ls hP hS (lv_sub hl [0, 1, 2, 3] rfl)
      · have hf := ite_f hf c5
        refine lv_iload_n hx hb dX1_worksOff_26 rfl (lv_at hl 2 rfl) ?_
        refine lv_iconst (v := 1) hx hb dX1_worksOff_27 (by decide) ?_
        refine lv_iload_n hx hb dX1_worksOff_28 rfl (lv_at hl 3 rfl) ?_
        refine lv_ishl hx hb dX1_worksOff_29 ?_
        refine lv_ior hx hb dX1_worksOff_30 ?_
        refine lv_topi (fun v6 ev6 => ?_)
        have hf := nm_at ev6 hf
        refine lv_istore_n (lv' := [(2, .int v6), (0, .ref (ad (30 + q0))), (1, .ref (ad 15)), (3, .int x3)]) hx hb dX1_worksOff_31 rfl hl (by decide) rfl (fun ls hl => ?_)
        exact w1_worksOff_b32 hI C0 S (f1_worksOff_b4 S n) ih q0 v6 x3 hq0 hf H locs ls hP hS (lv_sub hl [1, 2, 0, 3] rfl)
set_option maxHeartbeats 4000000 in
set_option maxRecDepth 100000 in
theorem w1_worksOff {p : Program} {l : Launch} {e : Env} {s : State} {m : MethodId} {args : Array Value} {below : List Frame} {meth : Method} {c : Code} {D : va_G} {K : Nat → ClassId} {ad : Nat → Nat} {tL : Nat} (hI : INJ NC ad) (C0 : Cx p s m args meth c RX1 wsX1_worksOff cX1_worksOff 4 (some .int) (KC D K tL (IW NC ad))) (S : Mem) {r : Int32} : ∀ (q0 : Nat), q0 < 165 → f1_worksOff S q0 = some r → ∀ (H : Heap) (locs : List Loc) (ls : Array Slot), va_P D vwCl (wl NC ad (EC K ad S)) H → va_S (IW NC ad) s.heap H locs → lv_has ls 4 [(0, .ref (ad (30 + q0))), (1, .ref (ad 15))] → W p l e rm1_worksOff s m args below meth c H locs 0 0 (MQ below (va_Qi (fun (x : Int32) (u : Mem) => x = r ∧ u = S) (fun u t => va_P D vwCl (wl NC ad (EC K ad u)) t.heap) (IW NC ad)) args s 0 0 (IW NC ad)) (F0 m 0 ls []) := by
  have hx := C0.1
  have hb := C0.2.1
  have hts := C0.2.2.2.2.1
  have hown := C0.2.2.2.1
  have hKC := C0.2.2.2.2.2.2.2
  intro q0 hq0 hf H locs ls hP hS hl
  rw [f1_worksOff] at hf
  refine lv_iconst (v := 0) hx hb dX1_worksOff_0 (by decide) ?_
  refine lv_istore_n (lv' := [(2, .int 0), (0, .ref (ad (30 + q0))), (1, .ref (ad 15))]) hx hb dX1_worksOff_1 rfl hl (by decide) rfl (fun ls hl => ?_)
  refine lv_iconst (v := 0) hx hb dX1_worksOff_2 (by decide) ?_
  refine lv_istore_n (lv' := [(3, .int 0), (2, .int 0), (0, .ref (ad (30 + q0))), (1, .ref (ad 15))]) hx hb dX1_worksOff_3 rfl hl (by decide) rfl (fun ls hl => ?_)
  exact w1_worksOff_b4 hI C0 S FU q0 0 0 hq0 hf H locs ls hP hS (lv_sub hl [2, 3, 1, 0] rfl)
theorem m1_worksOff (l : Launch) (D : va_G) (K : Nat → ClassId) (ad : Nat → Nat) (tL : Nat) (hI : INJ NC ad) (S : Mem) (q0 : Nat) (hq0 : q0 < 165) {r : Int32} (hf : f1_worksOff S q0 = some r) : SysI l yX1_worksOff wsX1_worksOff rm1_worksOff D NC ad (EC K ad) (KC D K tL (IW NC ad)) [.ref (ad (30 + q0)), .ref (ad 15)] S r S :=
  met_of (own := RX1) (by decide) rfl rfl (Nat.le_of_ble_eq_true rfl) (fun _ _ s _ _ _ _ ls C0 _ hP hl => w1_worksOff hI C0 S q0 hq0 hf s.heap [] ls hP va_S.rf hl)
theorem hd_J6_bitCount_0f7a4 : yJ6_bitCount_0f7a4.cls ≠ "java/lang/invoke/MethodHandle" ∧ yJ6_bitCount_0f7a4.cls ≠ "java/lang/invoke/VarHandle" ∧ (parseMethodDescriptor yJ6_bitCount_0f7a4.desc).map (fun d => d.parameters.length) = some 1 := by decide +kernel
abbrev rm6_bitCount : Room := { frames := 0, cells := 0, slots := 0, locals := 0 }
set_option maxHeartbeats 4000000 in
set_option maxRecDepth 100000 in
theorem w6_bitCount {p : Program} {l : Launch} {e : Env} {s : State} {m : MethodId} {args : Array Value} {below : List Frame} {meth : Method} {c : Code} {D : va_G} {K : Nat → ClassId} {ad : Nat → Nat} {tL : Nat} (hI : INJ NC ad) (C0 : Cx p s m args meth c RJ6 wsJ6_bitCount_0f7a4 cJ6_bitCount_0f7a4 1 (some .int) (KC D K tL (IW NC ad))) (S : Mem) {r : Int32} : ∀ (x0 : Int32), f6_bitCount x0 = some r → ∀ (H : Heap) (locs : List Loc) (ls : Array Slot), va_P D vwCl (wl NC ad (EC K ad S)) H → va_S (IW NC ad) s.heap H locs → lv_has ls 1 [(0, .int x0)] → W p l e rm6_bitCount s m args below meth c H locs 0 0 (MQ below (va_Qi (fun (x : Int32) (u : Mem) => x = r ∧ u = S) (fun u t => va_P D vwCl (wl NC ad (EC K ad u)) t.heap) (IW NC ad)) args s 0 0 (IW NC ad)) (F0 m 0 ls []) := by
  have hx := C0.1
  have hb := C0.2.1
  have hts := C0.2.2.2.2.1
  have hown := C0.2.2.2.1
  have hKC := C0.2.2.2.2.2.2.2
  intro x0 hf H locs ls hP hS hl
  rw [f6_bitCount] at hf
  refine lv_iload_n hx hb dJ6_bitCount_0f7a4_0 rfl (lv_at hl 0 rfl) ?_
  refine lv_iload_n hx hb dJ6_bitCount_0f7a4_1 rfl (lv_at hl 0 rfl) ?_
  refine lv_iconst (v := 1) hx hb dJ6_bitCount_0f7a4_2 (by decide) ?_
  refine lv_iushr (v := (ush x0 1)) hx hb dJ6_bitCount_0f7a4_3 rfl ?_
  refine lv_ldcw (v := 1431655765) hx hb hown (hts _ (List.mem_of_getElem? (i := 1) rfl)) dJ6_bitCount_0f7a4_4 ?_
  refine lv_iand hx hb dJ6_bitCount_0f7a4_7 ?_
  refine lv_isub hx hb dJ6_bitCount_0f7a4_8 ?_
  refine lv_topi (fun v1 ev1 => ?_)
  have hf := nm_at ev1 hf
  refine lv_istore_n (lv' := [(0, .int v1)]) hx hb dJ6_bitCount_0f7a4_9 rfl hl (by decide) rfl (fun ls hl => ?_)
  refine lv_iload_n hx hb dJ6_bitCount_0f7a4_10 rfl (lv_at hl 0 rfl) ?_
  refine lv_ldcw (v := 858993459) hx hb hown (hts _ (List.mem_of_getElem? (i := 2) rfl)) dJ6_bitCount_0f7a4_11 ?_
  refine lv_iand hx hb dJ6_bitCount_0f7a4_14 ?_
  refine lv_iload_n hx hb dJ6_bitCount_0f7a4_15 rfl (lv_at hl 0 rfl) ?_
  refine lv_iconst (v := 2) hx hb dJ6_bitCount_0f7a4_16 (by decide) ?_
  refine lv_iushr (v := (ush v1 2)) hx hb dJ6_bitCount_0f7a4_17 rfl ?_
  refine lv_ldcw (v := 858993459) hx hb hown (hts _ (List.mem_of_getElem? (i := 2) rfl)) dJ6_bitCount_0f7a4_18 ?_
  refine lv_iand hx hb dJ6_bitCount_0f7a4_21 ?_
  refine lv_iadd hx hb dJ6_bitCount_0f7a4_22 ?_
  refine lv_topi (fun v2 ev2 => ?_)
  have hf := nm_at ev2 hf
  refine lv_istore_n (lv' := [(0, .int v2)]) hx hb dJ6_bitCount_0f7a4_23 rfl hl (by decide) rfl (fun ls hl => ?_)
  refine lv_iload_n hx hb dJ6_bitCount_0f7a4_24 rfl (lv_at hl 0 rfl) ?_
  refine lv_iload_n hx hb dJ6_bitCount_0f7a4_25 rfl (lv_at hl 0 rfl) ?_
  refine lv_iconst (v := 4) hx hb dJ6_bitCount_0f7a4_26 (by decide) ?_
  refine lv_iushr (v := (ush v2 4)) hx hb dJ6_bitCount_0f7a4_27 rfl ?_
  refine lv_iadd hx hb dJ6_bitCount_0f7a4_28 ?_
  refine lv_ldcw (v := 252645135) hx hb hown (hts _ (List.mem_of_getElem? (i := 3) rfl)) dJ6_bitCount_0f7a4_29 ?_
  refine lv_iand hx hb dJ6_bitCount_0f7a4_32 ?_
  refine lv_topi (fun v3 ev3 => ?_)
  have hf := nm_at ev3 hf
  refine lv_istore_n (lv' := [(0, .int v3)]) hx hb dJ6_bitCount_0f7a4_33 rfl hl (by decide) rfl (fun ls hl => ?_)
  refine lv_iload_n hx hb dJ6_bitCount_0f7a4_34 rfl (lv_at hl 0 rfl) ?_
  refine lv_iload_n hx hb dJ6_bitCount_0f7a4_35 rfl (lv_at hl 0 rfl) ?_
  refine lv_bipush (v := 8) hx hb dJ6_bitCount_0f7a4_36 (by decide) ?_
  refine lv_iushr (v := (ush v3 8)) hx hb dJ6_bitCount_0f7a4_38 rfl ?_
  refine lv_iadd hx hb dJ6_bitCount_0f7a4_39 ?_
  refine lv_topi (fun v4 ev4 => ?_)
  have hf := nm_at ev4 hf
  refine lv_istore_n (lv' := [(0, .int v4)]) hx hb dJ6_bitCount_0f7a4_40 rfl hl (by decide) rfl (fun ls hl => ?_)
  refine lv_iload_n hx hb dJ6_bitCount_0f7a4_41 rfl (lv_at hl 0 rfl) ?_
  refine lv_iload_n hx hb dJ6_bitCount_0f7a4_42 rfl (lv_at hl 0 rfl) ?_
  refine lv_bipush (v := 16) hx hb dJ6_bitCount_0f7a4_43 (by decide) ?_
  refine lv_iushr (v := (ush v4 16)) hx hb dJ6_bitCount_0f7a4_45 rfl ?_
  refine lv_iadd hx hb dJ6_bitCount_0f7a4_46 ?_
  refine lv_topi (fun v5 ev5 => ?_)
  have hf := nm_at ev5 hf
  refine lv_istore_n (lv' := [(0, .int v5)]) hx hb dJ6_bitCount_0f7a4_47 rfl hl (by decide) rfl (fun ls hl => ?_)
  refine lv_iload_n hx hb dJ6_bitCount_0f7a4_48 rfl (lv_at hl 0 rfl) ?_
  refine lv_bipush (v := 63) hx hb dJ6_bitCount_0f7a4_49 (by decide) ?_
  refine lv_iand hx hb dJ6_bitCount_0f7a4_51 ?_
  exact ret_i C0 hP hS (Option.some.inj hf) rfl dJ6_bitCount_0f7a4_52
theorem m6_bitCount (l : Launch) (D : va_G) (K : Nat → ClassId) (ad : Nat → Nat) (tL : Nat) (hI : INJ NC ad) (S : Mem) (x0 : Int32) {r : Int32} (hf : f6_bitCount x0 = some r) : SysI l yJ6_bitCount_0f7a4 wsJ6_bitCount_0f7a4 rm6_bitCount D NC ad (EC K ad) (KC D K tL (IW NC ad)) [.int x0] S r S :=
  met_of (own := RJ6) (by decide) rfl rfl (Nat.le_of_ble_eq_true rfl) (fun _ _ s _ _ _ _ ls C0 _ hP hl => w6_bitCount hI C0 S x0 hf s.heap [] ls hP va_S.rf hl)
theorem in_X3_works_X3 : ∀ w ∈ wsX30, w ∈ wsX3_works := fun _ h => List.mem_cons_of_mem _ (List.mem_append_left _ (List.mem_append_left _ (List.mem_append_left _ (List.mem_append_right _ h))))
theorem in_X3_works_X2 : ∀ w ∈ wsX20, w ∈ wsX3_works := fun _ h => List.mem_cons_of_mem _ (List.mem_append_left _ (List.mem_append_left _ (List.mem_append_right _ h)))
theorem in_X3_works_X0 : ∀ w ∈ wsX00, w ∈ wsX3_works := fun _ h => List.mem_cons_of_mem _ (List.mem_append_left _ (List.mem_append_right _ h))
theorem in_X3_works_X1 : ∀ w ∈ wsX10, w ∈ wsX3_works := fun _ h => List.mem_cons_of_mem _ (List.mem_append_right _ h)
theorem hd_X3_works : yX3_works.cls = RX3 ∧ yX3_works.cls ≠ "java/lang/invoke/MethodHandle" ∧ yX3_works.cls ≠ "java/lang/invoke/VarHandle" ∧ (parseMethodDescriptor yX3_works.desc).map (fun d => d.parameters.length) = some 0 := by decide +kernel
abbrev rm3_works : Room := { frames := 4, cells := 0, slots := 0, locals := 98 }
set_option maxHeartbeats 4000000 in
set_option maxRecDepth 100000 in
theorem w3_works {p : Program} {l : Launch} {e : Env} {s : State} {m : MethodId} {args : Array Value} {below : List Frame} {meth : Method} {c : Code} {D : va_G} {K : Nat → ClassId} {ad : Nat → Nat} {tL : Nat} (hI : INJ NC ad) (C0 : Cx p s m args meth c RX3 wsX3_works cX3_works 2 (some .int) (KC D K tL (IW NC ad))) {r : Int32} {T : Mem} : ∀ (S : Mem), f3_works S = some (r, T) → ∀ (H : Heap) (locs : List Loc) (ls : Array Slot), va_P D vwCl (wl NC ad (EC K ad S)) H → va_S (IW NC ad) s.heap H locs → lv_has ls 2 [(0, .ref (ad 0))] → W p l e rm3_works s m args below meth c H locs 0 0 (MQ below (va_Qi (fun (x : Int32) (u : Mem) => x = r ∧ u = T) (fun u t => va_P D vwCl (wl NC ad (EC K ad u)) t.heap) (IW NC ad)) args s 0 0 (IW NC ad)) (F0 m 0 ls []) := by
  have hx := C0.1
  have hb := C0.2.1
  have hts := C0.2.2.2.2.1
  have hown := C0.2.2.2.1
  have hKC := C0.2.2.2.2.2.2.2
  intro S hf H locs ls hP hS hl
  rw [f3_works] at hf
  refine lv_aload_n hx hb dX3_works_0 rfl (lv_at hl 0 rfl) ?_
  refine x_get C0 hKC.1 hP (by decide) (EC_0 K ad S) rfl in_X3_works_X3 5 (by decide) (List.mem_of_getElem? (i := 1) rfl) rfl dX3_works_1 ?_
  obtain ⟨q2, h1, hf⟩ := b1_some hf
  obtain ⟨g3, hf⟩ := gd_some hf
  refine sys_r hS (sys_runV (As := []) (rest := []) C0 KC_ok hKC.1 hP hS (ltS (by decide : 0 < 4)) (EC_S K ad S (by decide : 0 < 4)) rfl (m2_now l D K ad tL hI S 0 (by decide : 0 < 4) h1) gX3_works_X2_now rfl ⟨rfl, rfl⟩ hd_X2_now ⟨Nat.le_of_ble_eq_true rfl, Nat.le_of_ble_eq_true rfl⟩ hl.1 rfl (Nat.le_of_ble_eq_true rfl) dX3_works_4 ⟨Nat.le_refl _, Nat.le_refl _⟩) (fun H locs hP hS => ?_)
  refine lv_aload_n hx hb dX3_works_7 rfl (lv_at hl 0 rfl) ?_
  refine x_get C0 hKC.1 hP (by decide) (EC_0 K ad S) rfl in_X3_works_X3 4 (by decide) (List.mem_of_getElem? (i := 2) rfl) rfl dX3_works_8 ?_
  obtain ⟨v5, h4, hf⟩ := b1_some hf
  refine sys_i hS (sys_runV (As := [.ref (ad 15)]) (rest := []) C0 KC_ok hKC.1 hP hS (ltM (of_decide_eq_true g3)) (EC_M K ad S (of_decide_eq_true g3)) rfl (m1_worksOff l D K ad tL hI S q2 (of_decide_eq_true g3) h4) gX3_works_X1_worksOff rfl ⟨rfl, rfl⟩ hd_X1_worksOff ⟨Nat.le_of_ble_eq_true rfl, Nat.le_of_ble_eq_true rfl⟩ hl.1 rfl (Nat.le_of_ble_eq_true rfl) dX3_works_11 ⟨Nat.le_refl _, Nat.le_refl _⟩) (fun H locs hP hS => ?_)
  refine lv_istore_n (lv' := [(1, .int v5), (0, .ref (ad 0))]) hx hb dX3_works_14 rfl hl (by decide) rfl (fun ls hl => ?_)
  refine lv_aload_n hx hb dX3_works_15 rfl (lv_at hl 1 rfl) ?_
  refine lv_iload_n hx hb dX3_works_16 rfl (lv_at hl 0 rfl) ?_
  obtain ⟨v7, h6, hf⟩ := b1_some hf
  refine sys_i hS (sys_runS (As := [.int v5]) (rest := [.ref (ad 0)]) C0 KC_ok hP hS (m6_bitCount l D K ad tL hI S v5 h6) gX3_works_J6_bitCount_0f7a4 rfl ⟨rfl, rfl⟩ hd_J6_bitCount_0f7a4 ⟨Nat.le_of_ble_eq_true rfl, Nat.le_of_ble_eq_true rfl⟩ hl.1 rfl (Nat.le_of_ble_eq_true rfl) dX3_works_17 ⟨Nat.le_refl _, Nat.le_refl _⟩) (fun H locs hP hS => ?_)
  refine x_puti C0 hKC.1 hI (EC_loc K ad) hP hS (by decide) (EC_0 K ad S) rfl tyX3 tyX3_ok nmX3 in_X3_works_X3 9 (by decide) (List.mem_of_getElem? (i := 3) rfl) rfl (tyX3_ok 9 (by decide)) (Nat.le_of_ble_eq_true rfl) (EC_p9 K ad S _) dX3_works_20 (fun S8 eS8 H locs hP hS => ?_)
  have hf := nm_at eS8 hf
  refine lv_iload_n hx hb dX3_works_23 rfl (lv_at hl 0 rfl) ?_
  exact ret_i C0 hP hS (congrArg Prod.fst (Option.some.inj hf)) (congrArg Prod.snd (Option.some.inj hf)) dX3_works_24
theorem m3_works (l : Launch) (D : va_G) (K : Nat → ClassId) (ad : Nat → Nat) (tL : Nat) (hI : INJ NC ad) (S : Mem) {r : Int32} {T : Mem} (hf : f3_works S = some (r, T)) : SysI l yX3_works wsX3_works rm3_works D NC ad (EC K ad) (KC D K tL (IW NC ad)) [.ref (ad 0)] S r T :=
  met_of (own := RX3) (by decide) rfl rfl (Nat.le_of_ble_eq_true rfl) (fun _ _ s _ _ _ _ ls C0 _ hP hl => w3_works hI C0 S hf s.heap [] ls hP va_S.rf hl)
theorem in_X3_later_X3 : ∀ w ∈ wsX30, w ∈ wsX3_later := fun _ h => List.mem_cons_of_mem _ (List.mem_append_left _ (List.mem_append_left _ (List.mem_append_left _ (List.mem_append_right _ h))))
theorem in_X3_later_X1 : ∀ w ∈ wsX10, w ∈ wsX3_later := fun _ h => List.mem_cons_of_mem _ (List.mem_append_left _ (List.mem_append_left _ (List.mem_append_right _ h)))
theorem in_X3_later_X0 : ∀ w ∈ wsX00, w ∈ wsX3_later := fun _ h => List.mem_cons_of_mem _ (List.mem_append_left _ (List.mem_append_right _ h))
theorem in_X3_later_X2 : ∀ w ∈ wsX20, w ∈ wsX3_later := fun _ h => List.mem_cons_of_mem _ (List.mem_append_right _ h)
theorem hd_X3_later : yX3_later.cls = RX3 ∧ yX3_later.cls ≠ "java/lang/invoke/MethodHandle" ∧ yX3_later.cls ≠ "java/lang/invoke/VarHandle" ∧ (parseMethodDescriptor yX3_later.desc).map (fun d => d.parameters.length) = some 2 := by decide +kernel
abbrev rm3_later : Room := { frames := 5, cells := 0, slots := 0, locals := 123 }
set_option maxHeartbeats 4000000 in
set_option maxRecDepth 100000 in
theorem w3_later {p : Program} {l : Launch} {e : Env} {s : State} {m : MethodId} {args : Array Value} {below : List Frame} {meth : Method} {c : Code} {D : va_G} {K : Nat → ClassId} {ad : Nat → Nat} {tL : Nat} (hI : INJ NC ad) (C0 : Cx p s m args meth c RX3 wsX3_later cX3_later 4 (some .int) (KC D K tL (IW NC ad))) {r : Int32} {T : Mem} : ∀ (S : Mem) (x1 : Int32) (x2 : Int32), f3_later S x1 x2 = some (r, T) → ∀ (H : Heap) (locs : List Loc) (ls : Array Slot), va_P D vwCl (wl NC ad (EC K ad S)) H → va_S (IW NC ad) s.heap H locs → lv_has ls 4 [(0, .ref (ad 0)), (1, .int x1), (2, .int x2)] → W p l e rm3_later s m args below meth c H locs 0 0 (MQ below (va_Qi (fun (x : Int32) (u : Mem) => x = r ∧ u = T) (fun u t => va_P D vwCl (wl NC ad (EC K ad u)) t.heap) (IW NC ad)) args s 0 0 (IW NC ad)) (F0 m 0 ls []) := by
  have hx := C0.1
  have hb := C0.2.1
  have hts := C0.2.2.2.2.1
  have hown := C0.2.2.2.1
  have hKC := C0.2.2.2.2.2.2.2
  intro S x1 x2 hf H locs ls hP hS hl
  rw [f3_later] at hf
  refine lv_aload_n hx hb dX3_later_0 rfl (lv_at hl 0 rfl) ?_
  refine lv_iload_n hx hb dX3_later_1 rfl (lv_at hl 1 rfl) ?_
  obtain ⟨v2, h1, hf⟩ := b1_some hf
  refine sys_i hS (sys_runV (As := [.int x1]) (rest := []) C0 KC_ok hKC.1 hP hS (by decide) (EC_0 K ad S) rfl (m3_isHouse l D K ad tL hI S x1 h1) gX3_later_X3_isHouse rfl ⟨rfl, rfl⟩ hd_X3_isHouse ⟨Nat.le_of_ble_eq_true rfl, Nat.le_of_ble_eq_true rfl⟩ hl.1 rfl (Nat.le_of_ble_eq_true rfl) dX3_later_2 ⟨Nat.le_refl _, Nat.le_refl _⟩) (fun H locs hP hS => ?_)
  refine lv_if_eq (tgt := 18) hx hb dX3_later_5 (by decide) (fun c3 => ?_) (fun c3 => ?_)
  · have hf := ite_t hf c3
    refine lv_iconst (v := (-1)) hx hb dX3_later_18 (by decide) ?_
    exact ret_i C0 hP hS (congrArg Prod.fst (Option.some.inj hf)) (congrArg Prod.snd (Option.some.inj hf)) dX3_later_19
  · have hf := ite_f hf c3
    refine lv_iload_n hx hb dX3_later_8 rfl (lv_at hl 2 rfl) ?_
    refine lv_if_lt (tgt := 18) hx hb dX3_later_9 (by decide) (fun c4 => ?_) (fun c4 => ?_)
    · have hf := ite_t hf c4
      refine lv_iconst (v := (-1)) hx hb dX3_later_18 (by decide) ?_
      exact ret_i C0 hP hS (congrArg Prod.fst (Option.some.inj hf)) (congrArg Prod.snd (Option.some.inj hf)) dX3_later_19
    · have hf := ite_f hf c4
      refine lv_iload_n hx hb dX3_later_12 rfl (lv_at hl 2 rfl) ?_
      refine lv_bipush (v := 60) hx hb dX3_later_13 (by decide) ?_
      refine lv_icmp_le (tgt := 20) hx hb dX3_later_15 (by decide) (fun c5 => ?_) (fun c5 => ?_)
      · have hf := ite_t hf c5
        refine lv_aload_n hx hb dX3_later_20 rfl (lv_at hl 0 rfl) ?_
        refine x_get C0 hKC.1 hP (by decide) (EC_0 K ad S) rfl in_X3_later_X3 7 (by decide) (List.mem_of_getElem? (i := 1) rfl) rfl dX3_later_21 ?_
        refine lv_aload_n hx hb dX3_later_24 rfl (lv_at hl 0 rfl) ?_
        refine x_get C0 hKC.1 hP (by decide) (EC_0 K ad S) rfl in_X3_later_X3 5 (by decide) (List.mem_of_getElem? (i := 2) rfl) rfl dX3_later_25 ?_
        obtain ⟨q7, h6, hf⟩ := b1_some hf
        obtain ⟨g8, hf⟩ := gd_some hf
        refine sys_r hS (sys_runV (As := []) (rest := [.ref (ad (30 + 164))]) C0 KC_ok hKC.1 hP hS (ltS (by decide : 0 < 4)) (EC_S K ad S (by decide : 0 < 4)) rfl (m2_now l D K ad tL hI S 0 (by decide : 0 < 4) h6) gX3_later_X2_now rfl ⟨rfl, rfl⟩ hd_X2_now ⟨Nat.le_of_ble_eq_true rfl, Nat.le_of_ble_eq_true rfl⟩ hl.1 rfl (Nat.le_of_ble_eq_true rfl) dX3_later_28 ⟨Nat.le_refl _, Nat.le_refl _⟩) (fun H locs hP hS => ?_)
        obtain ⟨S10, h9, hf⟩ := b1_some hf
        refine sys_v hS (sys_runV (As := [.ref (ad (30 + q7))]) (rest := []) C0 KC_ok hKC.1 hP hS (ltM (by decide : 164 < 165)) (EC_M K ad S (by decide : 164 < 165)) rfl (m1_become l D K ad tL hI S 164 q7 (by decide : 164 < 165) (of_decide_eq_true g8) h9) gX3_later_X1_become rfl ⟨rfl, rfl⟩ hd_X1_become ⟨Nat.le_of_ble_eq_true rfl, Nat.le_of_ble_eq_true rfl⟩ hl.1 rfl (Nat.le_of_ble_eq_true rfl) dX3_later_31 ⟨Nat.le_refl _, Nat.le_refl _⟩) (fun H locs hP hS => ?_)
        refine lv_aload_n hx hb dX3_later_34 rfl (lv_at hl 0 rfl) ?_
        refine x_get C0 hKC.1 hP (by decide) (EC_0 K ad S10) rfl in_X3_later_X3 7 (by decide) (List.mem_of_getElem? (i := 1) rfl) rfl dX3_later_35 ?_
        refine lv_aload_n hx hb dX3_later_38 rfl (lv_at hl 0 rfl) ?_
        refine x_get C0 hKC.1 hP (by decide) (EC_0 K ad S10) rfl in_X3_later_X3 4 (by decide) (List.mem_of_getElem? (i := 3) rfl) rfl dX3_later_39 ?_
        refine lv_iload_n hx hb dX3_later_42 rfl (lv_at hl 2 rfl) ?_
        obtain ⟨S12, h11, hf⟩ := b1_some hf
        refine sys_v hS (sys_runV (As := [.ref (ad 15), .int x2]) (rest := []) C0 KC_ok hKC.1 hP hS (ltM (by decide : 164 < 165)) (EC_M K ad S10 (by decide : 164 < 165)) rfl (m1_passDays l D K ad tL hI S10 164 x2 (by decide : 164 < 165) h11) gX3_later_X1_passDays rfl ⟨rfl, rfl⟩ hd_X1_passDays ⟨Nat.le_of_ble_eq_true rfl, Nat.le_of_ble_eq_true rfl⟩ hl.1 rfl (Nat.le_of_ble_eq_true rfl) dX3_later_43 ⟨Nat.le_refl _, Nat.le_refl _⟩) (fun H locs hP hS => ?_)
        refine lv_aload_n hx hb dX3_later_46 rfl (lv_at hl 0 rfl) ?_
        refine x_get C0 hKC.1 hP (by decide) (EC_0 K ad S12) rfl in_X3_later_X3 7 (by decide) (List.mem_of_getElem? (i := 1) rfl) rfl dX3_later_47 ?_
        refine x_get C0 hKC.1 hP (ltM (by decide : 164 < 165)) (EC_M K ad S12 (by decide : 164 < 165)) rfl in_X3_later_X1 0 (by decide) (List.mem_of_getElem? (i := 4) rfl) rfl dX3_later_50 ?_
        refine lv_iload_n hx hb dX3_later_53 rfl (lv_at hl 1 rfl) ?_
        obtain ⟨g13, hf⟩ := gd_some hf
        refine x_iald C0 hKC.1 hP (IC_jar K ad (by decide : 164 < 165)) (t0 := 0) rfl g13 dX3_later_54 ?_
        refine lv_topi (fun v14 ev14 => ?_)
        have hf := nm_at ev14 hf
        refine lv_istore_n (lv' := [(3, .int v14), (0, .ref (ad 0)), (1, .int x1), (2, .int x2)]) hx hb dX3_later_55 rfl hl (by decide) rfl (fun ls hl => ?_)
        refine lv_aload_n hx hb dX3_later_56 rfl (lv_at hl 1 rfl) ?_
        refine x_get C0 hKC.1 hP (by decide) (EC_0 K ad S12) rfl in_X3_later_X3 7 (by decide) (List.mem_of_getElem? (i := 1) rfl) rfl dX3_later_57 ?_
        refine lv_aload_n hx hb dX3_later_60 rfl (lv_at hl 1 rfl) ?_
        refine x_get C0 hKC.1 hP (by decide) (EC_0 K ad S12) rfl in_X3_later_X3 4 (by decide) (List.mem_of_getElem? (i := 3) rfl) rfl dX3_later_61 ?_
        obtain ⟨v16, S17, h15, hf⟩ := b2_some hf
        refine sys_i hS (sys_runV (As := [.ref (ad 15)]) (rest := []) C0 KC_ok hKC.1 hP hS (ltM (by decide : 164 < 165)) (EC_M K ad S12 (by decide : 164 < 165)) rfl (m1_shareOut l D K ad tL hI S12 164 (by decide : 164 < 165) h15) gX3_later_X1_shareOut rfl ⟨rfl, rfl⟩ hd_X1_shareOut ⟨Nat.le_of_ble_eq_true rfl, Nat.le_of_ble_eq_true rfl⟩ hl.1 rfl (Nat.le_of_ble_eq_true rfl) dX3_later_64 ⟨Nat.le_refl _, Nat.le_refl _⟩) (fun H locs hP hS => ?_)
        refine lv_pop hx hb dX3_later_67 rfl ?_
        refine lv_aload_n hx hb dX3_later_68 rfl (lv_at hl 1 rfl) ?_
        refine lv_aload_n hx hb dX3_later_69 rfl (lv_at hl 1 rfl) ?_
        refine x_get C0 hKC.1 hP (by decide) (EC_0 K ad S17) rfl in_X3_later_X3 7 (by decide) (List.mem_of_getElem? (i := 1) rfl) rfl dX3_later_70 ?_
        refine x_get C0 hKC.1 hP (ltM (by decide : 164 < 165)) (EC_M K ad S17 (by decide : 164 < 165)) rfl in_X3_later_X1 0 (by decide) (List.mem_of_getElem? (i := 4) rfl) rfl dX3_later_73 ?_
        refine lv_iload_n hx hb dX3_later_76 rfl (lv_at hl 2 rfl) ?_
        obtain ⟨g18, hf⟩ := gd_some hf
        refine x_iald C0 hKC.1 hP (IC_jar K ad (by decide : 164 < 165)) (t0 := 0) rfl g18 dX3_later_77 ?_
        refine x_puti C0 hKC.1 hI (EC_loc K ad) hP hS (by decide) (EC_0 K ad S17) rfl tyX3 tyX3_ok nmX3 in_X3_later_X3 9 (by decide) (List.mem_of_getElem? (i := 5) rfl) rfl (tyX3_ok 9 (by decide)) (Nat.le_of_ble_eq_true rfl) (EC_p9 K ad S17 _) dX3_later_78 (fun S19 eS19 H locs hP hS => ?_)
        have hf := nm_at eS19 hf
        refine lv_iload_n hx hb dX3_later_81 rfl (lv_at hl 0 rfl) ?_
        exact ret_i C0 hP hS (congrArg Prod.fst (Option.some.inj hf)) (congrArg Prod.snd (Option.some.inj hf)) dX3_later_82
      · have hf := ite_f hf c5
        refine lv_iconst (v := (-1)) hx hb dX3_later_18 (by decide) ?_
        exact ret_i C0 hP hS (congrArg Prod.fst (Option.some.inj hf)) (congrArg Prod.snd (Option.some.inj hf)) dX3_later_19
theorem m3_later (l : Launch) (D : va_G) (K : Nat → ClassId) (ad : Nat → Nat) (tL : Nat) (hI : INJ NC ad) (S : Mem) (x1 : Int32) (x2 : Int32) {r : Int32} {T : Mem} (hf : f3_later S x1 x2 = some (r, T)) : SysI l yX3_later wsX3_later rm3_later D NC ad (EC K ad) (KC D K tL (IW NC ad)) [.ref (ad 0), .int x1, .int x2] S r T :=
  met_of (own := RX3) (by decide) rfl rfl (Nat.le_of_ble_eq_true rfl) (fun _ _ s _ _ _ _ ls C0 _ hP hl => w3_later hI C0 S x1 x2 hf s.heap [] ls hP va_S.rf hl)
theorem in_X3_when_X3 : ∀ w ∈ wsX30, w ∈ wsX3_when := fun _ h => List.mem_cons_of_mem _ (List.mem_append_left _ (List.mem_append_left _ (List.mem_append_left _ (List.mem_append_right _ h))))
theorem in_X3_when_X1 : ∀ w ∈ wsX10, w ∈ wsX3_when := fun _ h => List.mem_cons_of_mem _ (List.mem_append_left _ (List.mem_append_left _ (List.mem_append_right _ h)))
theorem in_X3_when_X0 : ∀ w ∈ wsX00, w ∈ wsX3_when := fun _ h => List.mem_cons_of_mem _ (List.mem_append_left _ (List.mem_append_right _ h))
theorem in_X3_when_X2 : ∀ w ∈ wsX20, w ∈ wsX3_when := fun _ h => List.mem_cons_of_mem _ (List.mem_append_right _ h)
theorem hd_X3_when : yX3_when.cls = RX3 ∧ yX3_when.cls ≠ "java/lang/invoke/MethodHandle" ∧ yX3_when.cls ≠ "java/lang/invoke/VarHandle" ∧ (parseMethodDescriptor yX3_when.desc).map (fun d => d.parameters.length) = some 1 := by decide +kernel
abbrev rm3_when : Room := { frames := 3, cells := 0, slots := 0, locals := 75 }
set_option maxHeartbeats 4000000 in
set_option maxRecDepth 100000 in
theorem w3_when_b25 {p : Program} {l : Launch} {e : Env} {s : State} {m : MethodId} {args : Array Value} {below : List Frame} {meth : Method} {c : Code} {D : va_G} {K : Nat → ClassId} {ad : Nat → Nat} {tL : Nat} (hI : INJ NC ad) (C0 : Cx p s m args meth c RX3 wsX3_when cX3_when 5 (some .int) (KC D K tL (IW NC ad))) {r : Int32} {T : Mem} : ∀ (n : Nat), ∀ (S : Mem) (x1 : Int32) (x2 : Int32) (x3 : Int32), f3_when_b25 n S x1 x2 x3 = some (r, T) → ∀ (H : Heap) (locs : List Loc) (ls : Array Slot), va_P D vwCl (wl NC ad (EC K ad S)) H → va_S (IW NC ad) s.heap H locs → lv_has ls 5 [(0, .ref (ad 0)), (1, .int x1), (2, .int x2), (3, .int x3)] → W p l e rm3_when s m args below meth c H locs 0 0 (MQ below (va_Qi (fun (x : Int32) (u : Mem) => x = r ∧ u = T) (fun u t => va_P D vwCl (wl NC ad (EC K ad u)) t.heap) (IW NC ad)) args s 0 0 (IW NC ad)) (F0 m 25 ls []) := by
  have hx := C0.1
  have hb := C0.2.1
  have hts := C0.2.2.2.2.1
  have hown := C0.2.2.2.1
  have hKC := C0.2.2.2.2.2.2.2
  intro n
  induction n with
  | zero =>
    intro S x1 x2 x3 hf
    rw [f3_when_b25] at hf
    cases hf
  | succ n ih =>
    intro S x1 x2 x3 hf H locs ls hP hS hl
    rw [f3_when_b25] at hf
    refine lv_iload_n hx hb dX3_when_25 rfl (lv_at hl 3 rfl) ?_
    refine lv_bipush (v := 60) hx hb dX3_when_26 (by decide) ?_
    refine lv_icmp_gt (tgt := 82) hx hb dX3_when_28 (by decide) (fun c1 => ?_) (fun c1 => ?_)
    · have hf := ite_t hf c1
      refine lv_bipush (v := (-9)) hx hb dX3_when_82 (by decide) ?_
      exact ret_i C0 hP hS (congrArg Prod.fst (Option.some.inj hf)) (congrArg Prod.snd (Option.some.inj hf)) dX3_when_84
    · have hf := ite_f hf c1
      refine lv_aload_n hx hb dX3_when_31 rfl (lv_at hl 0 rfl) ?_
      refine x_get C0 hKC.1 hP (by decide) (EC_0 K ad S) rfl in_X3_when_X3 4 (by decide) (List.mem_of_getElem? (i := 3) rfl) rfl dX3_when_32 ?_
      refine lv_iload_n hx hb dX3_when_35 rfl (lv_at hl 1 rfl) ?_
      refine lv_iload_n hx hb dX3_when_36 rfl (lv_at hl 2 rfl) ?_
      refine lv_iload_n hx hb dX3_when_37 rfl (lv_at hl 3 rfl) ?_
      obtain ⟨v3, h2, hf⟩ := b1_some hf
      refine sys_i hS (sys_runV (As := [.int x1, .int x2, .int x3]) (rest := []) C0 KC_ok hKC.1 hP hS (by decide) (EC_H K ad S) rfl (m0_jarBehind l D K ad tL hI S x1 x2 x3 h2) gX3_when_X0_jarBehind rfl ⟨rfl, rfl⟩ hd_X0_jarBehind ⟨Nat.le_of_ble_eq_true rfl, Nat.le_of_ble_eq_true rfl⟩ hl.1 rfl (Nat.le_of_ble_eq_true rfl) dX3_when_38 ⟨Nat.le_refl _, Nat.le_refl _⟩) (fun H locs hP hS => ?_)
      refine lv_istore (lv' := [(4, .int v3), (0, .ref (ad 0)), (1, .int x1), (2, .int x2), (3, .int x3)]) hx hb dX3_when_41 hl (by decide) rfl (fun ls hl => ?_)
      refine lv_aload_n hx hb dX3_when_43 rfl (lv_at hl 1 rfl) ?_
      refine x_get C0 hKC.1 hP (by decide) (EC_0 K ad S) rfl in_X3_when_X3 4 (by decide) (List.mem_of_getElem? (i := 3) rfl) rfl dX3_when_44 ?_
      refine lv_iload_n hx hb dX3_when_47 rfl (lv_at hl 2 rfl) ?_
      refine lv_iload hx hb dX3_when_48 (lv_at hl 0 rfl) ?_
      obtain ⟨v5, h4, hf⟩ := b1_some hf
      refine sys_i hS (sys_runV (As := [.int x1, .int v3]) (rest := []) C0 KC_ok hKC.1 hP hS (by decide) (EC_H K ad S) rfl (m0_comesOff l D K ad tL hI S x1 v3 h4) gX3_when_X0_comesOff rfl ⟨rfl, rfl⟩ hd_X0_comesOff ⟨Nat.le_of_ble_eq_true rfl, Nat.le_of_ble_eq_true rfl⟩ hl.1 rfl (Nat.le_of_ble_eq_true rfl) dX3_when_50 ⟨Nat.le_refl _, Nat.le_refl _⟩) (fun H locs hP hS => ?_)
      refine lv_if_eq (tgt := 76) hx hb dX3_when_53 (by decide) (fun c6 => ?_) (fun c6 => ?_)
      · have hf := ite_t hf c6
        obtain ⟨v7, ev7⟩ : ∃ y : Int32, y = x3 + 1 := ⟨_, rfl⟩
        have hf := nm_at ev7 hf
        refine lv_iinc (v := v7) (lv' := [(3, .int v7), (4, .int v3), (0, .ref (ad 0)), (1, .int x1), (2, .int x2)]) hx hb dX3_when_76 hl (k := 4) rfl (by rw [ev7]; rfl) (by decide) rfl (fun ls hl => ?_)
        refine lv_goto (tgt := 25) hx hb dX3_when_79 (by decide) ?_
        exact ih S x1 x2 v7 hf H locs ls hP hS (lv_sub hl [2, 3, 4, 0] rfl)
      · have hf := ite_f hf c6
        refine lv_aload_n hx hb dX3_when_56 rfl (lv_at hl 1 rfl) ?_
        refine lv_aload_n hx hb dX3_when_57 rfl (lv_at hl 1 rfl) ?_
        refine x_get C0 hKC.1 hP (by decide) (EC_0 K ad S) rfl in_X3_when_X3 4 (by decide) (List.mem_of_getElem? (i := 3) rfl) rfl dX3_when_58 ?_
        refine x_get C0 hKC.1 hP (by decide) (EC_H K ad S) rfl in_X3_when_X0 0 (by decide) (List.mem_of_getElem? (i := 4) rfl) rfl dX3_when_61 ?_
        refine lv_iload_n hx hb dX3_when_64 rfl (lv_at hl 2 rfl) ?_
        obtain ⟨g8, hf⟩ := gd_some hf
        refine x_iald C0 hKC.1 hP (IC_16 K ad) (t0 := 0) rfl g8 dX3_when_65 ?_
        refine lv_iload hx hb dX3_when_66 (lv_at hl 0 rfl) ?_
        obtain ⟨v10, h9, hf⟩ := b1_some hf
        refine sys_i hS (sys_runS (As := [.int (gi S 16 (ix x1)), .int v3]) (rest := [.ref (ad 0)]) C0 KC_ok hP hS (m3_worthTo l D K ad tL hI S (gi S 16 (ix x1)) v3 h9) gX3_when_X3_worthTo rfl ⟨rfl, rfl⟩ hd_X3_worthTo ⟨Nat.le_of_ble_eq_true rfl, Nat.le_of_ble_eq_true rfl⟩ hl.1 rfl (Nat.le_of_ble_eq_true rfl) dX3_when_68 ⟨Nat.le_refl _, Nat.le_refl _⟩) (fun H locs hP hS => ?_)
        refine x_puti C0 hKC.1 hI (EC_loc K ad) hP hS (by decide) (EC_0 K ad S) rfl tyX3 tyX3_ok nmX3 in_X3_when_X3 9 (by decide) (List.mem_of_getElem? (i := 5) rfl) rfl (tyX3_ok 9 (by decide)) (Nat.le_of_ble_eq_true rfl) (EC_p9 K ad S _) dX3_when_71 (fun S11 eS11 H locs hP hS => ?_)
        have hf := nm_at eS11 hf
        refine lv_iload_n hx hb dX3_when_74 rfl (lv_at hl 4 rfl) ?_
        exact ret_i C0 hP hS (congrArg Prod.fst (Option.some.inj hf)) (congrArg Prod.snd (Option.some.inj hf)) dX3_when_75
set_option maxHeartbeats 4000000 in
set_option maxRecDepth 100000 in
theorem w3_when {p : Program} {l : Launch} {e : Env} {s : State} {m : MethodId} {args : Array Value} {below : List Frame} {meth : Method} {c : Code} {D : va_G} {K : Nat → ClassId} {ad : Nat → Nat} {tL : Nat} (hI : INJ NC ad) (C0 : Cx p s m args meth c RX3 wsX3_when cX3_when 5 (some .int) (KC D K tL (IW NC ad))) {r : Int32} {T : Mem} : ∀ (S : Mem) (x1 : Int32), f3_when S x1 = some (r, T) → ∀ (H : Heap) (locs : List Loc) (ls : Array Slot), va_P D vwCl (wl NC ad (EC K ad S)) H → va_S (IW NC ad) s.heap H locs → lv_has ls 5 [(0, .ref (ad 0)), (1, .int x1)] → W p l e rm3_when s m args below meth c H locs 0 0 (MQ below (va_Qi (fun (x : Int32) (u : Mem) => x = r ∧ u = T) (fun u t => va_P D vwCl (wl NC ad (EC K ad u)) t.heap) (IW NC ad)) args s 0 0 (IW NC ad)) (F0 m 0 ls []) := by
  have hx := C0.1
  have hb := C0.2.1
  have hts := C0.2.2.2.2.1
  have hown := C0.2.2.2.1
  have hKC := C0.2.2.2.2.2.2.2
  intro S x1 hf H locs ls hP hS hl
  rw [f3_when] at hf
  refine lv_aload_n hx hb dX3_when_0 rfl (lv_at hl 0 rfl) ?_
  refine lv_iload_n hx hb dX3_when_1 rfl (lv_at hl 1 rfl) ?_
  obtain ⟨v2, h1, hf⟩ := b1_some hf
  refine sys_i hS (sys_runV (As := [.int x1]) (rest := []) C0 KC_ok hKC.1 hP hS (by decide) (EC_0 K ad S) rfl (m3_isHouse l D K ad tL hI S x1 h1) gX3_when_X3_isHouse rfl ⟨rfl, rfl⟩ hd_X3_isHouse ⟨Nat.le_of_ble_eq_true rfl, Nat.le_of_ble_eq_true rfl⟩ hl.1 rfl (Nat.le_of_ble_eq_true rfl) dX3_when_2 ⟨Nat.le_refl _, Nat.le_refl _⟩) (fun H locs hP hS => ?_)
  refine lv_if_ne (tgt := 10) hx hb dX3_when_5 (by decide) (fun c3 => ?_) (fun c3 => ?_)
  · have hf := ite_f hf c3
    refine lv_aload_n hx hb dX3_when_10 rfl (lv_at hl 0 rfl) ?_
    refine x_get C0 hKC.1 hP (by decide) (EC_0 K ad S) rfl in_X3_when_X3 5 (by decide) (List.mem_of_getElem? (i := 1) rfl) rfl dX3_when_11 ?_
    obtain ⟨q5, h4, hf⟩ := b1_some hf
    obtain ⟨g6, hf⟩ := gd_some hf
    refine sys_r hS (sys_runV (As := []) (rest := []) C0 KC_ok hKC.1 hP hS (ltS (by decide : 0 < 4)) (EC_S K ad S (by decide : 0 < 4)) rfl (m2_now l D K ad tL hI S 0 (by decide : 0 < 4) h4) gX3_when_X2_now rfl ⟨rfl, rfl⟩ hd_X2_now ⟨Nat.le_of_ble_eq_true rfl, Nat.le_of_ble_eq_true rfl⟩ hl.1 rfl (Nat.le_of_ble_eq_true rfl) dX3_when_14 ⟨Nat.le_refl _, Nat.le_refl _⟩) (fun H locs hP hS => ?_)
    refine x_get C0 hKC.1 hP (ltM (of_decide_eq_true g6)) (EC_M K ad S (of_decide_eq_true g6)) rfl in_X3_when_X1 0 (by decide) (List.mem_of_getElem? (i := 2) rfl) rfl dX3_when_17 ?_
    refine lv_iload_n hx hb dX3_when_20 rfl (lv_at hl 1 rfl) ?_
    obtain ⟨g7, hf⟩ := gd_some hf
    refine x_iald C0 hKC.1 hP (IC_jar K ad (of_decide_eq_true g6)) (t0 := 0) rfl g7 dX3_when_21 ?_
    refine lv_topi (fun v8 ev8 => ?_)
    have hf := nm_at ev8 hf
    refine lv_istore_n (lv' := [(2, .int v8), (0, .ref (ad 0)), (1, .int x1)]) hx hb dX3_when_22 rfl hl (by decide) rfl (fun ls hl => ?_)
    refine lv_iconst (v := 0) hx hb dX3_when_23 (by decide) ?_
    refine lv_istore_n (lv' := [(3, .int 0), (2, .int v8), (0, .ref (ad 0)), (1, .int x1)]) hx hb dX3_when_24 rfl hl (by decide) rfl (fun ls hl => ?_)
    exact w3_when_b25 hI C0 FU S x1 v8 0 hf H locs ls hP hS (lv_sub hl [2, 3, 1, 0] rfl)
  · have hf := ite_t hf c3
    refine lv_iconst (v := (-1)) hx hb dX3_when_8 (by decide) ?_
    exact ret_i C0 hP hS (congrArg Prod.fst (Option.some.inj hf)) (congrArg Prod.snd (Option.some.inj hf)) dX3_when_9
theorem m3_when (l : Launch) (D : va_G) (K : Nat → ClassId) (ad : Nat → Nat) (tL : Nat) (hI : INJ NC ad) (S : Mem) (x1 : Int32) {r : Int32} {T : Mem} (hf : f3_when S x1 = some (r, T)) : SysI l yX3_when wsX3_when rm3_when D NC ad (EC K ad) (KC D K tL (IW NC ad)) [.ref (ad 0), .int x1] S r T :=
  met_of (own := RX3) (by decide) rfl rfl (Nat.le_of_ble_eq_true rfl) (fun _ _ s _ _ _ _ ls C0 _ hP hl => w3_when hI C0 S x1 hf s.heap [] ls hP va_S.rf hl)
theorem in_X0_leastMore_X0 : ∀ w ∈ wsX00, w ∈ wsX0_leastMore := fun _ h => List.mem_cons_of_mem _ (List.mem_append_right _ h)
theorem hd_X0_leastMore : yX0_leastMore.cls = RX0 ∧ yX0_leastMore.cls ≠ "java/lang/invoke/MethodHandle" ∧ yX0_leastMore.cls ≠ "java/lang/invoke/VarHandle" ∧ (parseMethodDescriptor yX0_leastMore.desc).map (fun d => d.parameters.length) = some 2 := by decide +kernel
abbrev rm0_leastMore : Room := { frames := 3, cells := 0, slots := 0, locals := 75 }
set_option maxHeartbeats 4000000 in
set_option maxRecDepth 100000 in
theorem w0_leastMore_b2 {p : Program} {l : Launch} {e : Env} {s : State} {m : MethodId} {args : Array Value} {below : List Frame} {meth : Method} {c : Code} {D : va_G} {K : Nat → ClassId} {ad : Nat → Nat} {tL : Nat} (hI : INJ NC ad) (C0 : Cx p s m args meth c RX0 wsX0_leastMore cX0_leastMore 4 (some .int) (KC D K tL (IW NC ad))) (S : Mem) {r : Int32} : ∀ (n : Nat), ∀ (x1 : Int32) (x2 : Int32) (x3 : Int32), f0_leastMore_b2 S n x1 x2 x3 = some r → ∀ (H : Heap) (locs : List Loc) (ls : Array Slot), va_P D vwCl (wl NC ad (EC K ad S)) H → va_S (IW NC ad) s.heap H locs → lv_has ls 4 [(0, .ref (ad 15)), (1, .int x1), (2, .int x2), (3, .int x3)] → W p l e rm0_leastMore s m args below meth c H locs 0 0 (MQ below (va_Qi (fun (x : Int32) (u : Mem) => x = r ∧ u = S) (fun u t => va_P D vwCl (wl NC ad (EC K ad u)) t.heap) (IW NC ad)) args s 0 0 (IW NC ad)) (F0 m 2 ls []) := by
  have hx := C0.1
  have hb := C0.2.1
  have hts := C0.2.2.2.2.1
  have hown := C0.2.2.2.1
  have hKC := C0.2.2.2.2.2.2.2
  intro n
  induction n with
  | zero =>
    intro x1 x2 x3 hf
    rw [f0_leastMore_b2] at hf
    cases hf
  | succ n ih =>
    intro x1 x2 x3 hf H locs ls hP hS hl
    rw [f0_leastMore_b2] at hf
    refine lv_iload_n hx hb dX0_leastMore_2 rfl (lv_at hl 3 rfl) ?_
    refine lv_bipush (v := 99) hx hb dX0_leastMore_3 (by decide) ?_
    refine lv_icmp_gt (tgt := 27) hx hb dX0_leastMore_5 (by decide) (fun c1 => ?_) (fun c1 => ?_)
    · have hf := ite_t hf c1
      refine lv_bipush (v := (-9)) hx hb dX0_leastMore_27 (by decide) ?_
      exact ret_i C0 hP hS (Option.some.inj hf) rfl dX0_leastMore_29
    · have hf := ite_f hf c1
      refine lv_aload_n hx hb dX0_leastMore_8 rfl (lv_at hl 0 rfl) ?_
      refine lv_iload_n hx hb dX0_leastMore_9 rfl (lv_at hl 1 rfl) ?_
      refine lv_iload_n hx hb dX0_leastMore_10 rfl (lv_at hl 3 rfl) ?_
      obtain ⟨v3, h2, hf⟩ := b1_some hf
      refine sys_i hS (sys_runV (As := [.int x1, .int x3]) (rest := []) C0 KC_ok hKC.1 hP hS (by decide) (EC_H K ad S) rfl (m0_comesOff l D K ad tL hI S x1 x3 h2) gX0_leastMore_X0_comesOff rfl ⟨rfl, rfl⟩ hd_X0_comesOff ⟨Nat.le_of_ble_eq_true rfl, Nat.le_of_ble_eq_true rfl⟩ hl.1 rfl (Nat.le_of_ble_eq_true rfl) dX0_leastMore_11 ⟨Nat.le_refl _, Nat.le_refl _⟩) (fun H locs hP hS => ?_)
      refine lv_if_eq (tgt := 21) hx hb dX0_leastMore_14 (by decide) (fun c4 => ?_) (fun c4 => ?_)
      · have hf := ite_t hf c4
        obtain ⟨v5, ev5⟩ : ∃ y : Int32, y = x3 + 1 := ⟨_, rfl⟩
        have hf := nm_at ev5 hf
        refine lv_iinc (v := v5) (lv' := [(3, .int v5), (0, .ref (ad 15)), (1, .int x1), (2, .int x2)]) hx hb dX0_leastMore_21 hl (k := 3) rfl (by rw [ev5]; rfl) (by decide) rfl (fun ls hl => ?_)
        refine lv_goto (tgt := 2) hx hb dX0_leastMore_24 (by decide) ?_
        exact ih x1 x2 v5 hf H locs ls hP hS (lv_sub hl [1, 2, 3, 0] rfl)
      · have hf := ite_f hf c4
        refine lv_iload_n hx hb dX0_leastMore_17 rfl (lv_at hl 3 rfl) ?_
        refine lv_iload_n hx hb dX0_leastMore_18 rfl (lv_at hl 2 rfl) ?_
        refine lv_isub hx hb dX0_leastMore_19 ?_
        exact ret_i C0 hP hS (Option.some.inj hf) rfl dX0_leastMore_20
set_option maxHeartbeats 4000000 in
set_option maxRecDepth 100000 in
theorem w0_leastMore {p : Program} {l : Launch} {e : Env} {s : State} {m : MethodId} {args : Array Value} {below : List Frame} {meth : Method} {c : Code} {D : va_G} {K : Nat → ClassId} {ad : Nat → Nat} {tL : Nat} (hI : INJ NC ad) (C0 : Cx p s m args meth c RX0 wsX0_leastMore cX0_leastMore 4 (some .int) (KC D K tL (IW NC ad))) (S : Mem) {r : Int32} : ∀ (x1 : Int32) (x2 : Int32), f0_leastMore S x1 x2 = some r → ∀ (H : Heap) (locs : List Loc) (ls : Array Slot), va_P D vwCl (wl NC ad (EC K ad S)) H → va_S (IW NC ad) s.heap H locs → lv_has ls 4 [(0, .ref (ad 15)), (1, .int x1), (2, .int x2)] → W p l e rm0_leastMore s m args below meth c H locs 0 0 (MQ below (va_Qi (fun (x : Int32) (u : Mem) => x = r ∧ u = S) (fun u t => va_P D vwCl (wl NC ad (EC K ad u)) t.heap) (IW NC ad)) args s 0 0 (IW NC ad)) (F0 m 0 ls []) := by
  have hx := C0.1
  have hb := C0.2.1
  have hts := C0.2.2.2.2.1
  have hown := C0.2.2.2.1
  have hKC := C0.2.2.2.2.2.2.2
  intro x1 x2 hf H locs ls hP hS hl
  rw [f0_leastMore] at hf
  refine lv_iload_n hx hb dX0_leastMore_0 rfl (lv_at hl 2 rfl) ?_
  refine lv_istore_n (lv' := [(3, .int x2), (0, .ref (ad 15)), (1, .int x1), (2, .int x2)]) hx hb dX0_leastMore_1 rfl hl (by decide) rfl (fun ls hl => ?_)
  exact w0_leastMore_b2 hI C0 S FU x1 x2 x2 hf H locs ls hP hS (lv_sub hl [1, 2, 3, 0] rfl)
theorem m0_leastMore (l : Launch) (D : va_G) (K : Nat → ClassId) (ad : Nat → Nat) (tL : Nat) (hI : INJ NC ad) (S : Mem) (x1 : Int32) (x2 : Int32) {r : Int32} (hf : f0_leastMore S x1 x2 = some r) : SysI l yX0_leastMore wsX0_leastMore rm0_leastMore D NC ad (EC K ad) (KC D K tL (IW NC ad)) [.ref (ad 15), .int x1, .int x2] S r S :=
  met_of (own := RX0) (by decide) rfl rfl (Nat.le_of_ble_eq_true rfl) (fun _ _ s _ _ _ _ ls C0 _ hP hl => w0_leastMore hI C0 S x1 x2 hf s.heap [] ls hP va_S.rf hl)
theorem in_X3_lacks_X3 : ∀ w ∈ wsX30, w ∈ wsX3_lacks := fun _ h => List.mem_cons_of_mem _ (List.mem_append_left _ (List.mem_append_left _ (List.mem_append_left _ (List.mem_append_right _ h))))
theorem in_X3_lacks_X1 : ∀ w ∈ wsX10, w ∈ wsX3_lacks := fun _ h => List.mem_cons_of_mem _ (List.mem_append_left _ (List.mem_append_left _ (List.mem_append_right _ h)))
theorem in_X3_lacks_X0 : ∀ w ∈ wsX00, w ∈ wsX3_lacks := fun _ h => List.mem_cons_of_mem _ (List.mem_append_left _ (List.mem_append_right _ h))
theorem in_X3_lacks_X2 : ∀ w ∈ wsX20, w ∈ wsX3_lacks := fun _ h => List.mem_cons_of_mem _ (List.mem_append_right _ h)
theorem hd_X3_lacks : yX3_lacks.cls = RX3 ∧ yX3_lacks.cls ≠ "java/lang/invoke/MethodHandle" ∧ yX3_lacks.cls ≠ "java/lang/invoke/VarHandle" ∧ (parseMethodDescriptor yX3_lacks.desc).map (fun d => d.parameters.length) = some 1 := by decide +kernel
abbrev rm3_lacks : Room := { frames := 4, cells := 0, slots := 0, locals := 98 }
set_option maxHeartbeats 4000000 in
set_option maxRecDepth 100000 in
theorem w3_lacks {p : Program} {l : Launch} {e : Env} {s : State} {m : MethodId} {args : Array Value} {below : List Frame} {meth : Method} {c : Code} {D : va_G} {K : Nat → ClassId} {ad : Nat → Nat} {tL : Nat} (hI : INJ NC ad) (C0 : Cx p s m args meth c RX3 wsX3_lacks cX3_lacks 4 (some .int) (KC D K tL (IW NC ad))) {r : Int32} {T : Mem} : ∀ (S : Mem) (x1 : Int32), f3_lacks S x1 = some (r, T) → ∀ (H : Heap) (locs : List Loc) (ls : Array Slot), va_P D vwCl (wl NC ad (EC K ad S)) H → va_S (IW NC ad) s.heap H locs → lv_has ls 4 [(0, .ref (ad 0)), (1, .int x1)] → W p l e rm3_lacks s m args below meth c H locs 0 0 (MQ below (va_Qi (fun (x : Int32) (u : Mem) => x = r ∧ u = T) (fun u t => va_P D vwCl (wl NC ad (EC K ad u)) t.heap) (IW NC ad)) args s 0 0 (IW NC ad)) (F0 m 0 ls []) := by
  have hx := C0.1
  have hb := C0.2.1
  have hts := C0.2.2.2.2.1
  have hown := C0.2.2.2.1
  have hKC := C0.2.2.2.2.2.2.2
  intro S x1 hf H locs ls hP hS hl
  rw [f3_lacks] at hf
  refine lv_aload_n hx hb dX3_lacks_0 rfl (lv_at hl 0 rfl) ?_
  refine lv_iload_n hx hb dX3_lacks_1 rfl (lv_at hl 1 rfl) ?_
  obtain ⟨v2, h1, hf⟩ := b1_some hf
  refine sys_i hS (sys_runV (As := [.int x1]) (rest := []) C0 KC_ok hKC.1 hP hS (by decide) (EC_0 K ad S) rfl (m3_isHouse l D K ad tL hI S x1 h1) gX3_lacks_X3_isHouse rfl ⟨rfl, rfl⟩ hd_X3_isHouse ⟨Nat.le_of_ble_eq_true rfl, Nat.le_of_ble_eq_true rfl⟩ hl.1 rfl (Nat.le_of_ble_eq_true rfl) dX3_lacks_2 ⟨Nat.le_refl _, Nat.le_refl _⟩) (fun H locs hP hS => ?_)
  refine lv_if_ne (tgt := 10) hx hb dX3_lacks_5 (by decide) (fun c3 => ?_) (fun c3 => ?_)
  · have hf := ite_f hf c3
    refine lv_aload_n hx hb dX3_lacks_10 rfl (lv_at hl 0 rfl) ?_
    refine x_get C0 hKC.1 hP (by decide) (EC_0 K ad S) rfl in_X3_lacks_X3 5 (by decide) (List.mem_of_getElem? (i := 1) rfl) rfl dX3_lacks_11 ?_
    obtain ⟨q5, h4, hf⟩ := b1_some hf
    obtain ⟨g6, hf⟩ := gd_some hf
    refine sys_r hS (sys_runV (As := []) (rest := []) C0 KC_ok hKC.1 hP hS (ltS (by decide : 0 < 4)) (EC_S K ad S (by decide : 0 < 4)) rfl (m2_now l D K ad tL hI S 0 (by decide : 0 < 4) h4) gX3_lacks_X2_now rfl ⟨rfl, rfl⟩ hd_X2_now ⟨Nat.le_of_ble_eq_true rfl, Nat.le_of_ble_eq_true rfl⟩ hl.1 rfl (Nat.le_of_ble_eq_true rfl) dX3_lacks_14 ⟨Nat.le_refl _, Nat.le_refl _⟩) (fun H locs hP hS => ?_)
    refine x_get C0 hKC.1 hP (ltM (of_decide_eq_true g6)) (EC_M K ad S (of_decide_eq_true g6)) rfl in_X3_lacks_X1 0 (by decide) (List.mem_of_getElem? (i := 2) rfl) rfl dX3_lacks_17 ?_
    refine lv_iload_n hx hb dX3_lacks_20 rfl (lv_at hl 1 rfl) ?_
    obtain ⟨g7, hf⟩ := gd_some hf
    refine x_iald C0 hKC.1 hP (IC_jar K ad (of_decide_eq_true g6)) (t0 := 0) rfl g7 dX3_lacks_21 ?_
    refine lv_topi (fun v8 ev8 => ?_)
    have hf := nm_at ev8 hf
    refine lv_istore_n (lv' := [(2, .int v8), (0, .ref (ad 0)), (1, .int x1)]) hx hb dX3_lacks_22 rfl hl (by decide) rfl (fun ls hl => ?_)
    refine lv_aload_n hx hb dX3_lacks_23 rfl (lv_at hl 1 rfl) ?_
    refine x_get C0 hKC.1 hP (by decide) (EC_0 K ad S) rfl in_X3_lacks_X3 4 (by decide) (List.mem_of_getElem? (i := 3) rfl) rfl dX3_lacks_24 ?_
    refine lv_iload_n hx hb dX3_lacks_27 rfl (lv_at hl 2 rfl) ?_
    refine lv_iload_n hx hb dX3_lacks_28 rfl (lv_at hl 0 rfl) ?_
    obtain ⟨v10, h9, hf⟩ := b1_some hf
    refine sys_i hS (sys_runV (As := [.int x1, .int v8]) (rest := []) C0 KC_ok hKC.1 hP hS (by decide) (EC_H K ad S) rfl (m0_leastMore l D K ad tL hI S x1 v8 h9) gX3_lacks_X0_leastMore rfl ⟨rfl, rfl⟩ hd_X0_leastMore ⟨Nat.le_of_ble_eq_true rfl, Nat.le_of_ble_eq_true rfl⟩ hl.1 rfl (Nat.le_of_ble_eq_true rfl) dX3_lacks_29 ⟨Nat.le_refl _, Nat.le_refl _⟩) (fun H locs hP hS => ?_)
    refine lv_istore_n (lv' := [(3, .int v10), (2, .int v8), (0, .ref (ad 0)), (1, .int x1)]) hx hb dX3_lacks_32 rfl hl (by decide) rfl (fun ls hl => ?_)
    refine lv_iload_n hx hb dX3_lacks_33 rfl (lv_at hl 0 rfl) ?_
    refine lv_bipush (v := (-9)) hx hb dX3_lacks_34 (by decide) ?_
    refine lv_icmp_eq (tgt := 58) hx hb dX3_lacks_36 (by decide) (fun c11 => ?_) (fun c11 => ?_)
    · have hf := ite_t hf c11
      refine lv_iload_n hx hb dX3_lacks_58 rfl (lv_at hl 0 rfl) ?_
      exact ret_i C0 hP hS (congrArg Prod.fst (Option.some.inj hf)) (congrArg Prod.snd (Option.some.inj hf)) dX3_lacks_59
    · have hf := ite_f hf c11
      refine lv_aload_n hx hb dX3_lacks_39 rfl (lv_at hl 2 rfl) ?_
      refine lv_aload_n hx hb dX3_lacks_40 rfl (lv_at hl 2 rfl) ?_
      refine x_get C0 hKC.1 hP (by decide) (EC_0 K ad S) rfl in_X3_lacks_X3 4 (by decide) (List.mem_of_getElem? (i := 3) rfl) rfl dX3_lacks_41 ?_
      refine x_get C0 hKC.1 hP (by decide) (EC_H K ad S) rfl in_X3_lacks_X0 0 (by decide) (List.mem_of_getElem? (i := 4) rfl) rfl dX3_lacks_44 ?_
      refine lv_iload_n hx hb dX3_lacks_47 rfl (lv_at hl 3 rfl) ?_
      obtain ⟨g12, hf⟩ := gd_some hf
      refine x_iald C0 hKC.1 hP (IC_16 K ad) (t0 := 0) rfl g12 dX3_lacks_48 ?_
      refine lv_iload_n hx hb dX3_lacks_49 rfl (lv_at hl 1 rfl) ?_
      refine lv_iload_n hx hb dX3_lacks_50 rfl (lv_at hl 0 rfl) ?_
      refine lv_iadd hx hb dX3_lacks_51 ?_
      obtain ⟨v14, h13, hf⟩ := b1_some hf
      refine sys_i hS (sys_runS (As := [.int (gi S 16 (ix x1)), .int (v8 + v10)]) (rest := [.ref (ad 0)]) C0 KC_ok hP hS (m3_worthTo l D K ad tL hI S (gi S 16 (ix x1)) (v8 + v10) h13) gX3_lacks_X3_worthTo rfl ⟨rfl, rfl⟩ hd_X3_worthTo ⟨Nat.le_of_ble_eq_true rfl, Nat.le_of_ble_eq_true rfl⟩ hl.1 rfl (Nat.le_of_ble_eq_true rfl) dX3_lacks_52 ⟨Nat.le_refl _, Nat.le_refl _⟩) (fun H locs hP hS => ?_)
      refine x_puti C0 hKC.1 hI (EC_loc K ad) hP hS (by decide) (EC_0 K ad S) rfl tyX3 tyX3_ok nmX3 in_X3_lacks_X3 9 (by decide) (List.mem_of_getElem? (i := 5) rfl) rfl (tyX3_ok 9 (by decide)) (Nat.le_of_ble_eq_true rfl) (EC_p9 K ad S _) dX3_lacks_55 (fun S15 eS15 H locs hP hS => ?_)
      have hf := nm_at eS15 hf
      refine lv_iload_n hx hb dX3_lacks_58 rfl (lv_at hl 0 rfl) ?_
      exact ret_i C0 hP hS (congrArg Prod.fst (Option.some.inj hf)) (congrArg Prod.snd (Option.some.inj hf)) dX3_lacks_59
  · have hf := ite_t hf c3
    refine lv_iconst (v := (-1)) hx hb dX3_lacks_8 (by decide) ?_
    exact ret_i C0 hP hS (congrArg Prod.fst (Option.some.inj hf)) (congrArg Prod.snd (Option.some.inj hf)) dX3_lacks_9
theorem m3_lacks (l : Launch) (D : va_G) (K : Nat → ClassId) (ad : Nat → Nat) (tL : Nat) (hI : INJ NC ad) (S : Mem) (x1 : Int32) {r : Int32} {T : Mem} (hf : f3_lacks S x1 = some (r, T)) : SysI l yX3_lacks wsX3_lacks rm3_lacks D NC ad (EC K ad) (KC D K tL (IW NC ad)) [.ref (ad 0), .int x1] S r T :=
  met_of (own := RX3) (by decide) rfl rfl (Nat.le_of_ble_eq_true rfl) (fun _ _ s _ _ _ _ ls C0 _ hP hl => w3_lacks hI C0 S x1 hf s.heap [] ls hP va_S.rf hl)
theorem hd_X3_has : yX3_has.cls ≠ "java/lang/invoke/MethodHandle" ∧ yX3_has.cls ≠ "java/lang/invoke/VarHandle" ∧ (parseMethodDescriptor yX3_has.desc).map (fun d => d.parameters.length) = some 2 := by decide +kernel
abbrev rm3_has : Room := { frames := 0, cells := 0, slots := 0, locals := 0 }
set_option maxHeartbeats 4000000 in
set_option maxRecDepth 100000 in
theorem w3_has {p : Program} {l : Launch} {e : Env} {s : State} {m : MethodId} {args : Array Value} {below : List Frame} {meth : Method} {c : Code} {D : va_G} {K : Nat → ClassId} {ad : Nat → Nat} {tL : Nat} (hI : INJ NC ad) (C0 : Cx p s m args meth c RX3 wsX3_has cX3_has 2 (some .boolean) (KC D K tL (IW NC ad))) (S : Mem) {r : Int32} : ∀ (x0 : Int32) (x1 : Int32), f3_has x0 x1 = some r → ∀ (H : Heap) (locs : List Loc) (ls : Array Slot), va_P D vwCl (wl NC ad (EC K ad S)) H → va_S (IW NC ad) s.heap H locs → lv_has ls 2 [(0, .int x0), (1, .int x1)] → W p l e rm3_has s m args below meth c H locs 0 0 (MQ below (va_Qi (fun (x : Int32) (u : Mem) => x = r ∧ u = S) (fun u t => va_P D vwCl (wl NC ad (EC K ad u)) t.heap) (IW NC ad)) args s 0 0 (IW NC ad)) (F0 m 0 ls []) := by
  have hx := C0.1
  have hb := C0.2.1
  have hts := C0.2.2.2.2.1
  have hown := C0.2.2.2.1
  have hKC := C0.2.2.2.2.2.2.2
  intro x0 x1 hf H locs ls hP hS hl
  rw [f3_has] at hf
  refine lv_iload_n hx hb dX3_has_0 rfl (lv_at hl 0 rfl) ?_
  refine lv_iload_n hx hb dX3_has_1 rfl (lv_at hl 1 rfl) ?_
  refine lv_ishr hx hb dX3_has_2 ?_
  refine lv_iconst (v := 1) hx hb dX3_has_3 (by decide) ?_
  refine lv_iand hx hb dX3_has_4 ?_
  refine lv_if_eq (tgt := 12) hx hb dX3_has_5 (by decide) (fun c1 => ?_) (fun c1 => ?_)
  · have hf := ite_t hf c1
    refine lv_iconst (v := 0) hx hb dX3_has_12 (by decide) ?_
    exact ret_z C0 hP hS (Or.inl rfl) (Option.some.inj hf) rfl dX3_has_13
  · have hf := ite_f hf c1
    refine lv_iconst (v := 1) hx hb dX3_has_8 (by decide) ?_
    refine lv_goto (tgt := 13) hx hb dX3_has_9 (by decide) ?_
    exact ret_z C0 hP hS (Or.inr rfl) (Option.some.inj hf) rfl dX3_has_13
theorem m3_has (l : Launch) (D : va_G) (K : Nat → ClassId) (ad : Nat → Nat) (tL : Nat) (hI : INJ NC ad) (S : Mem) (x0 : Int32) (x1 : Int32) {r : Int32} (hf : f3_has x0 x1 = some r) : SysI l yX3_has wsX3_has rm3_has D NC ad (EC K ad) (KC D K tL (IW NC ad)) [.int x0, .int x1] S r S :=
  met_of (own := RX3) (by decide) rfl rfl (Nat.le_of_ble_eq_true rfl) (fun _ _ s _ _ _ _ ls C0 _ hP hl => w3_has hI C0 S x0 x1 hf s.heap [] ls hP va_S.rf hl)
theorem in_X3_needOf_X3 : ∀ w ∈ wsX30, w ∈ wsX3_needOf := fun _ h => List.mem_cons_of_mem _ (List.mem_append_left _ (List.mem_append_right _ h))
theorem in_X3_needOf_X0 : ∀ w ∈ wsX00, w ∈ wsX3_needOf := fun _ h => List.mem_cons_of_mem _ (List.mem_append_right _ h)
theorem hd_X3_needOf : yX3_needOf.cls = RX3 ∧ yX3_needOf.cls ≠ "java/lang/invoke/MethodHandle" ∧ yX3_needOf.cls ≠ "java/lang/invoke/VarHandle" ∧ (parseMethodDescriptor yX3_needOf.desc).map (fun d => d.parameters.length) = some 1 := by decide +kernel
abbrev rm3_needOf : Room := { frames := 1, cells := 0, slots := 0, locals := 21 }
set_option maxHeartbeats 4000000 in
set_option maxRecDepth 100000 in
theorem w3_needOf_b46 {p : Program} {l : Launch} {e : Env} {s : State} {m : MethodId} {args : Array Value} {below : List Frame} {meth : Method} {c : Code} {D : va_G} {K : Nat → ClassId} {ad : Nat → Nat} {tL : Nat} (hI : INJ NC ad) (C0 : Cx p s m args meth c RX3 wsX3_needOf cX3_needOf 4 (some .int) (KC D K tL (IW NC ad))) (S : Mem) {r : Int32} (k4 : Int32 → Int32 → Int32 → Option Int32) (hk4 : ∀ (x1 : Int32) (x2 : Int32) (x3 : Int32), k4 x1 x2 x3 = some r → ∀ (H : Heap) (locs : List Loc) (ls : Array Slot), va_P D vwCl (wl NC ad (EC K ad S)) H → va_S (IW NC ad) s.heap H locs → lv_has ls 4 [(0, .ref (ad 0)), (1, .int x1), (2, .int x2), (3, .int x3)] → W p l e rm3_needOf s m args below meth c H locs 0 0 (MQ below (va_Qi (fun (x : Int32) (u : Mem) => x = r ∧ u = S) (fun u t => va_P D vwCl (wl NC ad (EC K ad u)) t.heap) (IW NC ad)) args s 0 0 (IW NC ad)) (F0 m 4 ls [])) : ∀ (x1 : Int32) (x2 : Int32) (x3 : Int32), f3_needOf_b46 k4 S x1 x2 x3 = some r → ∀ (H : Heap) (locs : List Loc) (ls : Array Slot), va_P D vwCl (wl NC ad (EC K ad S)) H → va_S (IW NC ad) s.heap H locs → lv_has ls 4 [(0, .ref (ad 0)), (1, .int x1), (2, .int x2), (3, .int x3)] → W p l e rm3_needOf s m args below meth c H locs 0 0 (MQ below (va_Qi (fun (x : Int32) (u : Mem) => x = r ∧ u = S) (fun u t => va_P D vwCl (wl NC ad (EC K ad u)) t.heap) (IW NC ad)) args s 0 0 (IW NC ad)) (F0 m 46 ls []) := by
  have hx := C0.1
  have hb := C0.2.1
  have hts := C0.2.2.2.2.1
  have hown := C0.2.2.2.1
  have hKC := C0.2.2.2.2.2.2.2
  intro x1 x2 x3 hf H locs ls hP hS hl
  rw [f3_needOf_b46] at hf
  obtain ⟨v1, ev1⟩ : ∃ y : Int32, y = x3 + 1 := ⟨_, rfl⟩
  have hf := nm_at ev1 hf
  refine lv_iinc (v := v1) (lv' := [(3, .int v1), (0, .ref (ad 0)), (1, .int x1), (2, .int x2)]) hx hb dX3_needOf_46 hl (k := 3) rfl (by rw [ev1]; rfl) (by decide) rfl (fun ls hl => ?_)
  refine lv_goto (tgt := 4) hx hb dX3_needOf_49 (by decide) ?_
  exact hk4 x1 x2 v1 hf H locs ls hP hS (lv_sub hl [1, 2, 3, 0] rfl)
set_option maxHeartbeats 4000000 in
set_option maxRecDepth 100000 in
theorem w3_needOf_b4 {p : Program} {l : Launch} {e : Env} {s : State} {m : MethodId} {args : Array Value} {below : List Frame} {meth : Method} {c : Code} {D : va_G} {K : Nat → ClassId} {ad : Nat → Nat} {tL : Nat} (hI : INJ NC ad) (C0 : Cx p s m args meth c RX3 wsX3_needOf cX3_needOf 4 (some .int) (KC D K tL (IW NC ad))) (S : Mem) {r : Int32} : ∀ (n : Nat), ∀ (x1 : Int32) (x2 : Int32) (x3 : Int32), f3_needOf_b4 S n x1 x2 x3 = some r → ∀ (H : Heap) (locs : List Loc) (ls : Array Slot), va_P D vwCl (wl NC ad (EC K ad S)) H → va_S (IW NC ad) s.heap H locs → lv_has ls 4 [(0, .ref (ad 0)), (1, .int x1), (2, .int x2), (3, .int x3)] → W p l e rm3_needOf s m args below meth c H locs 0 0 (MQ below (va_Qi (fun (x : Int32) (u : Mem) => x = r ∧ u = S) (fun u t => va_P D vwCl (wl NC ad (EC K ad u)) t.heap) (IW NC ad)) args s 0 0 (IW NC ad)) (F0 m 4 ls []) := by
  have hx := C0.1
  have hb := C0.2.1
  have hts := C0.2.2.2.2.1
  have hown := C0.2.2.2.1
  have hKC := C0.2.2.2.2.2.2.2
  intro n
  induction n with
  | zero =>
    intro x1 x2 x3 hf
    rw [f3_needOf_b4] at hf
    cases hf
  | succ n ih =>
    intro x1 x2 x3 hf H locs ls hP hS hl
    rw [f3_needOf_b4] at hf
    refine lv_iload_n hx hb dX3_needOf_4 rfl (lv_at hl 3 rfl) ?_
    refine lv_aload_n hx hb dX3_needOf_5 rfl (lv_at hl 0 rfl) ?_
    refine x_get C0 hKC.1 hP (by decide) (EC_0 K ad S) rfl in_X3_needOf_X3 4 (by decide) (List.mem_of_getElem? (i := 1) rfl) rfl dX3_needOf_6 ?_
    refine x_get C0 hKC.1 hP (by decide) (EC_H K ad S) rfl in_X3_needOf_X0 3 (by decide) (List.mem_of_getElem? (i := 2) rfl) rfl dX3_needOf_9 ?_
    refine lv_icmp_ge (tgt := 52) hx hb dX3_needOf_12 (by decide) (fun c1 => ?_) (fun c1 => ?_)
    · have hf := ite_t hf c1
      refine lv_iload_n hx hb dX3_needOf_52 rfl (lv_at hl 2 rfl) ?_
      exact ret_i C0 hP hS (Option.some.inj hf) rfl dX3_needOf_53
    · have hf := ite_f hf c1
      refine lv_iload_n hx hb dX3_needOf_15 rfl (lv_at hl 1 rfl) ?_
      refine lv_iload_n hx hb dX3_needOf_16 rfl (lv_at hl 3 rfl) ?_
      obtain ⟨v3, h2, hf⟩ := b1_some hf
      refine sys_i hS (sys_runS (As := [.int x1, .int x3]) (rest := []) C0 KC_ok hP hS (m3_has l D K ad tL hI S x1 x3 h2) gX3_needOf_X3_has rfl ⟨rfl, rfl⟩ hd_X3_has ⟨Nat.le_of_ble_eq_true rfl, Nat.le_of_ble_eq_true rfl⟩ hl.1 rfl (Nat.le_of_ble_eq_true rfl) dX3_needOf_17 ⟨Nat.le_refl _, Nat.le_refl _⟩) (fun H locs hP hS => ?_)
      refine lv_if_eq (tgt := 46) hx hb dX3_needOf_20 (by decide) (fun c4 => ?_) (fun c4 => ?_)
      · have hf := ite_t hf c4
        exact w3_needOf_b46 hI C0 S (f3_needOf_b4 S n) ih x1 x2 x3 hf H locs ls hP hS (lv_sub hl [0, 1, 2, 3] rfl)
      · have hf := ite_f hf c4
        refine lv_aload_n hx hb dX3_needOf_23 rfl (lv_at hl 0 rfl) ?_
        refine x_get C0 hKC.1 hP (by decide) (EC_0 K ad S) rfl in_X3_needOf_X3 8 (by decide) (List.mem_of_getElem? (i := 3) rfl) rfl dX3_needOf_24 ?_
        refine lv_iload_n hx hb dX3_needOf_27 rfl (lv_at hl 3 rfl) ?_
        obtain ⟨g5, hf⟩ := gd_some hf
        refine x_iald C0 hKC.1 hP (IC_20 K ad) (t0 := 0) rfl g5 dX3_needOf_28 ?_
        refine lv_bipush (v := (-9)) hx hb dX3_needOf_29 (by decide) ?_
        refine lv_icmp_ne (tgt := 37) hx hb dX3_needOf_31 (by decide) (fun c6 => ?_) (fun c6 => ?_)
        · have hf := ite_f hf c6
          refine lv_iload_n hx hb dX3_needOf_37 rfl (lv_at hl 2 rfl) ?_
          refine lv_aload_n hx hb dX3_needOf_38 rfl (lv_at hl 0 rfl) ?_
          refine x_get C0 hKC.1 hP (by decide) (EC_0 K ad S) rfl in_X3_needOf_X3 8 (by decide) (List.mem_of_getElem? (i := 3) rfl) rfl dX3_needOf_39 ?_
          refine lv_iload_n hx hb dX3_needOf_42 rfl (lv_at hl 3 rfl) ?_
          obtain ⟨g7, hf⟩ := gd_some hf
          refine x_iald C0 hKC.1 hP (IC_20 K ad) (t0 := 0) rfl g7 dX3_needOf_43 ?_
          refine lv_iadd hx hb dX3_needOf_44 ?_
          refine lv_topi (fun v8 ev8 => ?_)
          have hf := nm_at ev8 hf
          refine lv_istore_n (lv' := [(2, .int v8), (0, .ref (ad 0)), (1, .int x1), (3, .int x3)]) hx hb dX3_needOf_45 rfl hl (by decide) rfl (fun ls hl => ?_)
          exact w3_needOf_b46 hI C0 S (f3_needOf_b4 S n) ih x1 v8 x3 hf H locs ls hP hS (lv_sub hl [1, 2, 0, 3] rfl)
        · have hf := ite_t hf c6
          refine lv_bipush (v := (-9)) hx hb dX3_needOf_34 (by decide) ?_
          exact ret_i C0 hP hS (Option.some.inj hf) rfl dX3_needOf_36
set_option maxHeartbeats 4000000 in
set_option maxRecDepth 100000 in
theorem w3_needOf {p : Program} {l : Launch} {e : Env} {s : State} {m : MethodId} {args : Array Value} {below : List Frame} {meth : Method} {c : Code} {D : va_G} {K : Nat → ClassId} {ad : Nat → Nat} {tL : Nat} (hI : INJ NC ad) (C0 : Cx p s m args meth c RX3 wsX3_needOf cX3_needOf 4 (some .int) (KC D K tL (IW NC ad))) (S : Mem) {r : Int32} : ∀ (x1 : Int32), f3_needOf S x1 = some r → ∀ (H : Heap) (locs : List Loc) (ls : Array Slot), va_P D vwCl (wl NC ad (EC K ad S)) H → va_S (IW NC ad) s.heap H locs → lv_has ls 4 [(0, .ref (ad 0)), (1, .int x1)] → W p l e rm3_needOf s m args below meth c H locs 0 0 (MQ below (va_Qi (fun (x : Int32) (u : Mem) => x = r ∧ u = S) (fun u t => va_P D vwCl (wl NC ad (EC K ad u)) t.heap) (IW NC ad)) args s 0 0 (IW NC ad)) (F0 m 0 ls []) := by
  have hx := C0.1
  have hb := C0.2.1
  have hts := C0.2.2.2.2.1
  have hown := C0.2.2.2.1
  have hKC := C0.2.2.2.2.2.2.2
  intro x1 hf H locs ls hP hS hl
  rw [f3_needOf] at hf
  refine lv_iconst (v := 0) hx hb dX3_needOf_0 (by decide) ?_
  refine lv_istore_n (lv' := [(2, .int 0), (0, .ref (ad 0)), (1, .int x1)]) hx hb dX3_needOf_1 rfl hl (by decide) rfl (fun ls hl => ?_)
  refine lv_iconst (v := 0) hx hb dX3_needOf_2 (by decide) ?_
  refine lv_istore_n (lv' := [(3, .int 0), (2, .int 0), (0, .ref (ad 0)), (1, .int x1)]) hx hb dX3_needOf_3 rfl hl (by decide) rfl (fun ls hl => ?_)
  exact w3_needOf_b4 hI C0 S FU x1 0 0 hf H locs ls hP hS (lv_sub hl [2, 3, 1, 0] rfl)
theorem m3_needOf (l : Launch) (D : va_G) (K : Nat → ClassId) (ad : Nat → Nat) (tL : Nat) (hI : INJ NC ad) (S : Mem) (x1 : Int32) {r : Int32} (hf : f3_needOf S x1 = some r) : SysI l yX3_needOf wsX3_needOf rm3_needOf D NC ad (EC K ad) (KC D K tL (IW NC ad)) [.ref (ad 0), .int x1] S r S :=
  met_of (own := RX3) (by decide) rfl rfl (Nat.le_of_ble_eq_true rfl) (fun _ _ s _ _ _ _ ls C0 _ hP hl => w3_needOf hI C0 S x1 hf s.heap [] ls hP va_S.rf hl)
theorem in_X3_share_X3 : ∀ w ∈ wsX30, w ∈ wsX3_share := fun _ h => List.mem_cons_of_mem _ (List.mem_append_left _ (List.mem_append_left _ (List.mem_append_left _ (List.mem_append_right _ h))))
theorem in_X3_share_X0 : ∀ w ∈ wsX00, w ∈ wsX3_share := fun _ h => List.mem_cons_of_mem _ (List.mem_append_left _ (List.mem_append_left _ (List.mem_append_right _ h)))
theorem in_X3_share_X1 : ∀ w ∈ wsX10, w ∈ wsX3_share := fun _ h => List.mem_cons_of_mem _ (List.mem_append_left _ (List.mem_append_right _ h))
theorem in_X3_share_X2 : ∀ w ∈ wsX20, w ∈ wsX3_share := fun _ h => List.mem_cons_of_mem _ (List.mem_append_right _ h)
theorem hd_X3_share : yX3_share.cls = RX3 ∧ yX3_share.cls ≠ "java/lang/invoke/MethodHandle" ∧ yX3_share.cls ≠ "java/lang/invoke/VarHandle" ∧ (parseMethodDescriptor yX3_share.desc).map (fun d => d.parameters.length) = some 0 := by decide +kernel
abbrev rm3_share : Room := { frames := 4, cells := 0, slots := 0, locals := 98 }
set_option maxHeartbeats 4000000 in
set_option maxRecDepth 100000 in
theorem w3_share_b123 {p : Program} {l : Launch} {e : Env} {s : State} {m : MethodId} {args : Array Value} {below : List Frame} {meth : Method} {c : Code} {D : va_G} {K : Nat → ClassId} {ad : Nat → Nat} {tL : Nat} (hI : INJ NC ad) (C0 : Cx p s m args meth c RX3 wsX3_share cX3_share 6 (some .int) (KC D K tL (IW NC ad))) {r : Int32} {T : Mem} (k67 : Mem → Nat → Int32 → Int32 → Int32 → Option (Int32 × Mem)) (hk67 : ∀ (S : Mem) (q1 : Nat) (x2 : Int32) (x3 : Int32) (x4 : Int32), q1 < 165 → k67 S q1 x2 x3 x4 = some (r, T) → ∀ (H : Heap) (locs : List Loc) (ls : Array Slot), va_P D vwCl (wl NC ad (EC K ad S)) H → va_S (IW NC ad) s.heap H locs → lv_has ls 6 [(0, .ref (ad 0)), (1, .ref (ad (30 + q1))), (2, .int x2), (3, .int x3), (4, .int x4)] → W p l e rm3_share s m args below meth c H locs 0 0 (MQ below (va_Qi (fun (x : Int32) (u : Mem) => x = r ∧ u = T) (fun u t => va_P D vwCl (wl NC ad (EC K ad u)) t.heap) (IW NC ad)) args s 0 0 (IW NC ad)) (F0 m 67 ls [])) : ∀ (S : Mem) (q1 : Nat) (x2 : Int32) (x3 : Int32) (x4 : Int32), q1 < 165 → f3_share_b123 k67 S q1 x2 x3 x4 = some (r, T) → ∀ (H : Heap) (locs : List Loc) (ls : Array Slot), va_P D vwCl (wl NC ad (EC K ad S)) H → va_S (IW NC ad) s.heap H locs → lv_has ls 6 [(0, .ref (ad 0)), (1, .ref (ad (30 + q1))), (2, .int x2), (3, .int x3), (4, .int x4)] → W p l e rm3_share s m args below meth c H locs 0 0 (MQ below (va_Qi (fun (x : Int32) (u : Mem) => x = r ∧ u = T) (fun u t => va_P D vwCl (wl NC ad (EC K ad u)) t.heap) (IW NC ad)) args s 0 0 (IW NC ad)) (F0 m 123 ls []) := by
  have hx := C0.1
  have hb := C0.2.1
  have hts := C0.2.2.2.2.1
  have hown := C0.2.2.2.1
  have hKC := C0.2.2.2.2.2.2.2
  intro S q1 x2 x3 x4 hq1 hf H locs ls hP hS hl
  rw [f3_share_b123] at hf
  obtain ⟨v1, ev1⟩ : ∃ y : Int32, y = x4 + 1 := ⟨_, rfl⟩
  have hf := nm_at ev1 hf
  refine lv_iinc (v := v1) (lv' := [(4, .int v1), (0, .ref (ad 0)), (1, .ref (ad (30 + q1))), (2, .int x2), (3, .int x3)]) hx hb dX3_share_123 hl (k := 4) rfl (by rw [ev1]; rfl) (by decide) rfl (fun ls hl => ?_)
  refine lv_goto (tgt := 67) hx hb dX3_share_126 (by decide) ?_
  exact hk67 S q1 x2 x3 v1 hq1 hf H locs ls hP hS (lv_sub hl [1, 2, 3, 4, 0] rfl)
set_option maxHeartbeats 4000000 in
set_option maxRecDepth 100000 in
theorem w3_share_b67 {p : Program} {l : Launch} {e : Env} {s : State} {m : MethodId} {args : Array Value} {below : List Frame} {meth : Method} {c : Code} {D : va_G} {K : Nat → ClassId} {ad : Nat → Nat} {tL : Nat} (hI : INJ NC ad) (C0 : Cx p s m args meth c RX3 wsX3_share cX3_share 6 (some .int) (KC D K tL (IW NC ad))) {r : Int32} {T : Mem} : ∀ (n : Nat), ∀ (S : Mem) (q1 : Nat) (x2 : Int32) (x3 : Int32) (x4 : Int32), q1 < 165 → f3_share_b67 n S q1 x2 x3 x4 = some (r, T) → ∀ (H : Heap) (locs : List Loc) (ls : Array Slot), va_P D vwCl (wl NC ad (EC K ad S)) H → va_S (IW NC ad) s.heap H locs → lv_has ls 6 [(0, .ref (ad 0)), (1, .ref (ad (30 + q1))), (2, .int x2), (3, .int x3), (4, .int x4)] → W p l e rm3_share s m args below meth c H locs 0 0 (MQ below (va_Qi (fun (x : Int32) (u : Mem) => x = r ∧ u = T) (fun u t => va_P D vwCl (wl NC ad (EC K ad u)) t.heap) (IW NC ad)) args s 0 0 (IW NC ad)) (F0 m 67 ls []) := by
  have hx := C0.1
  have hb := C0.2.1
  have hts := C0.2.2.2.2.1
  have hown := C0.2.2.2.1
  have hKC := C0.2.2.2.2.2.2.2
  intro n
  induction n with
  | zero =>
    intro S q1 x2 x3 x4 hq1 hf
    rw [f3_share_b67] at hf
    cases hf
  | succ n ih =>
    intro S q1 x2 x3 x4 hq1 hf H locs ls hP hS hl
    rw [f3_share_b67] at hf
    refine lv_iload hx hb dX3_share_67 (lv_at hl 4 rfl) ?_
    refine lv_iconst (v := 1) hx hb dX3_share_69 (by decide) ?_
    refine lv_aload_n hx hb dX3_share_70 rfl (lv_at hl 0 rfl) ?_
    refine x_get C0 hKC.1 hP (by decide) (EC_0 K ad S) rfl in_X3_share_X3 4 (by decide) (List.mem_of_getElem? (i := 1) rfl) rfl dX3_share_71 ?_
    refine x_get C0 hKC.1 hP (by decide) (EC_H K ad S) rfl in_X3_share_X0 3 (by decide) (List.mem_of_getElem? (i := 2) rfl) rfl dX3_share_74 ?_
    refine lv_ishl hx hb dX3_share_77 ?_
    refine lv_icmp_ge (tgt := 129) hx hb dX3_share_78 (by decide) (fun c1 => ?_) (fun c1 => ?_)
    · have hf := ite_t hf c1
      refine lv_aload_n hx hb dX3_share_129 rfl (lv_at hl 0 rfl) ?_
      refine lv_iload_n hx hb dX3_share_130 rfl (lv_at hl 3 rfl) ?_
      refine x_puti C0 hKC.1 hI (EC_loc K ad) hP hS (by decide) (EC_0 K ad S) rfl tyX3 tyX3_ok nmX3 in_X3_share_X3 9 (by decide) (List.mem_of_getElem? (i := 7) rfl) rfl (tyX3_ok 9 (by decide)) (Nat.le_of_ble_eq_true rfl) (EC_p9 K ad S _) dX3_share_131 (fun S2 eS2 H locs hP hS => ?_)
      have hf := nm_at eS2 hf
      refine lv_iload_n hx hb dX3_share_134 rfl (lv_at hl 2 rfl) ?_
      exact ret_i C0 hP hS (congrArg Prod.fst (Option.some.inj hf)) (congrArg Prod.snd (Option.some.inj hf)) dX3_share_135
    · have hf := ite_f hf c1
      refine lv_aload_n hx hb dX3_share_81 rfl (lv_at hl 0 rfl) ?_
      refine lv_iload hx hb dX3_share_82 (lv_at hl 4 rfl) ?_
      obtain ⟨v4, h3, hf⟩ := b1_some hf
      refine sys_i hS (sys_runV (As := [.int x4]) (rest := []) C0 KC_ok hKC.1 hP hS (by decide) (EC_0 K ad S) rfl (m3_needOf l D K ad tL hI S x4 h3) gX3_share_X3_needOf rfl ⟨rfl, rfl⟩ hd_X3_needOf ⟨Nat.le_of_ble_eq_true rfl, Nat.le_of_ble_eq_true rfl⟩ hl.1 rfl (Nat.le_of_ble_eq_true rfl) dX3_share_84 ⟨Nat.le_refl _, Nat.le_refl _⟩) (fun H locs hP hS => ?_)
      refine lv_istore (lv' := [(5, .int v4), (0, .ref (ad 0)), (1, .ref (ad (30 + q1))), (2, .int x2), (3, .int x3), (4, .int x4)]) hx hb dX3_share_87 hl (by decide) rfl (fun ls hl => ?_)
      refine lv_iload hx hb dX3_share_89 (lv_at hl 0 rfl) ?_
      refine lv_bipush (v := (-9)) hx hb dX3_share_91 (by decide) ?_
      refine lv_icmp_eq (tgt := 123) hx hb dX3_share_93 (by decide) (fun c5 => ?_) (fun c5 => ?_)
      · have hf := ite_t hf c5
        exact w3_share_b123 hI C0 (f3_share_b67 n) ih S q1 x2 x3 x4 hq1 hf H locs ls hP hS (lv_sub hl [1, 2, 3, 4, 5] rfl)
      · have hf := ite_f hf c5
        refine lv_iload hx hb dX3_share_96 (lv_at hl 0 rfl) ?_
        refine lv_aload_n hx hb dX3_share_98 rfl (lv_at hl 2 rfl) ?_
        refine x_get C0 hKC.1 hP (ltM hq1) (EC_M K ad S hq1) rfl in_X3_share_X1 2 (by decide) (List.mem_of_getElem? (i := 6) rfl) rfl dX3_share_99 ?_
        refine lv_icmp_gt (tgt := 123) hx hb dX3_share_102 (by decide) (fun c6 => ?_) (fun c6 => ?_)
        · have hf := ite_t hf c6
          exact w3_share_b123 hI C0 (f3_share_b67 n) ih S q1 x2 x3 x4 hq1 hf H locs ls hP hS (lv_sub hl [1, 2, 3, 4, 5] rfl)
        · have hf := ite_f hf c6
          refine lv_iload hx hb dX3_share_105 (lv_at hl 5 rfl) ?_
          obtain ⟨v8, h7, hf⟩ := b1_some hf
          refine sys_i hS (sys_runS (As := [.int x4]) (rest := []) C0 KC_ok hP hS (m6_bitCount l D K ad tL hI S x4 h7) gX3_share_J6_bitCount_0f7a4 rfl ⟨rfl, rfl⟩ hd_J6_bitCount_0f7a4 ⟨Nat.le_of_ble_eq_true rfl, Nat.le_of_ble_eq_true rfl⟩ hl.1 rfl (Nat.le_of_ble_eq_true rfl) dX3_share_107 ⟨Nat.le_refl _, Nat.le_refl _⟩) (fun H locs hP hS => ?_)
          refine lv_iload_n hx hb dX3_share_110 rfl (lv_at hl 3 rfl) ?_
          obtain ⟨v10, h9, hf⟩ := b1_some hf
          refine sys_i hS (sys_runS (As := [.int x2]) (rest := [.int v8]) C0 KC_ok hP hS (m6_bitCount l D K ad tL hI S x2 h9) gX3_share_J6_bitCount_0f7a4 rfl ⟨rfl, rfl⟩ hd_J6_bitCount_0f7a4 ⟨Nat.le_of_ble_eq_true rfl, Nat.le_of_ble_eq_true rfl⟩ hl.1 rfl (Nat.le_of_ble_eq_true rfl) dX3_share_111 ⟨Nat.le_refl _, Nat.le_refl _⟩) (fun H locs hP hS => ?_)
          refine lv_icmp_le (tgt := 123) hx hb dX3_share_114 (by decide) (fun c11 => ?_) (fun c11 => ?_)
          · have hf := ite_t hf c11
            exact w3_share_b123 hI C0 (f3_share_b67 n) ih S q1 x2 x3 x4 hq1 hf H locs ls hP hS (lv_sub hl [1, 2, 3, 4, 5] rfl)
          · have hf := ite_f hf c11
            refine lv_iload hx hb dX3_share_117 (lv_at hl 5 rfl) ?_
            refine lv_istore_n (lv' := [(2, .int x4), (5, .int v4), (0, .ref (ad 0)), (1, .ref (ad (30 + q1))), (3, .int x3), (4, .int x4)]) hx hb dX3_share_119 rfl hl (by decide) rfl (fun ls hl => ?_)
            refine lv_iload hx hb dX3_share_120 (lv_at hl 1 rfl) ?_
            refine lv_istore_n (lv' := [(3, .int v4), (2, .int x4), (5, .int v4), (0, .ref (ad 0)), (1, .ref (ad (30 + q1))), (4, .int x4)]) hx hb dX3_share_122 rfl hl (by decide) rfl (fun ls hl => ?_)
            exact w3_share_b123 hI C0 (f3_share_b67 n) ih S q1 x4 v4 x4 hq1 hf H locs ls hP hS (lv_sub hl [3, 4, 1, 0, 5] rfl)
set_option maxHeartbeats 4000000 in
set_option maxRecDepth 100000 in
theorem w3_share_b23 {p : Program} {l : Launch} {e : Env} {s : State} {m : MethodId} {args : Array Value} {below : List Frame} {meth : Method} {c : Code} {D : va_G} {K : Nat → ClassId} {ad : Nat → Nat} {tL : Nat} (hI : INJ NC ad) (C0 : Cx p s m args meth c RX3 wsX3_share cX3_share 6 (some .int) (KC D K tL (IW NC ad))) {r : Int32} {T : Mem} : ∀ (n : Nat), ∀ (S : Mem) (q1 : Nat) (x2 : Int32), q1 < 165 → f3_share_b23 n S q1 x2 = some (r, T) → ∀ (H : Heap) (locs : List Loc) (ls : Array Slot), va_P D vwCl (wl NC ad (EC K ad S)) H → va_S (IW NC ad) s.heap H locs → lv_has ls 6 [(0, .ref (ad 0)), (1, .ref (ad (30 + q1))), (2, .int x2)] → W p l e rm3_share s m args below meth c H locs 0 0 (MQ below (va_Qi (fun (x : Int32) (u : Mem) => x = r ∧ u = T) (fun u t => va_P D vwCl (wl NC ad (EC K ad u)) t.heap) (IW NC ad)) args s 0 0 (IW NC ad)) (F0 m 23 ls []) := by
  have hx := C0.1
  have hb := C0.2.1
  have hts := C0.2.2.2.2.1
  have hown := C0.2.2.2.1
  have hKC := C0.2.2.2.2.2.2.2
  intro n
  induction n with
  | zero =>
    intro S q1 x2 hq1 hf
    rw [f3_share_b23] at hf
    cases hf
  | succ n ih =>
    intro S q1 x2 hq1 hf H locs ls hP hS hl
    rw [f3_share_b23] at hf
    refine lv_iload_n hx hb dX3_share_23 rfl (lv_at hl 2 rfl) ?_
    refine lv_aload_n hx hb dX3_share_24 rfl (lv_at hl 0 rfl) ?_
    refine x_get C0 hKC.1 hP (by decide) (EC_0 K ad S) rfl in_X3_share_X3 4 (by decide) (List.mem_of_getElem? (i := 1) rfl) rfl dX3_share_25 ?_
    refine x_get C0 hKC.1 hP (by decide) (EC_H K ad S) rfl in_X3_share_X0 3 (by decide) (List.mem_of_getElem? (i := 2) rfl) rfl dX3_share_28 ?_
    refine lv_icmp_ge (tgt := 60) hx hb dX3_share_31 (by decide) (fun c1 => ?_) (fun c1 => ?_)
    · have hf := ite_t hf c1
      refine lv_iconst (v := 0) hx hb dX3_share_60 (by decide) ?_
      refine lv_istore_n (lv' := [(2, .int 0), (0, .ref (ad 0)), (1, .ref (ad (30 + q1)))]) hx hb dX3_share_61 rfl hl (by decide) rfl (fun ls hl => ?_)
      refine lv_iconst (v := 0) hx hb dX3_share_62 (by decide) ?_
      refine lv_istore_n (lv' := [(3, .int 0), (2, .int 0), (0, .ref (ad 0)), (1, .ref (ad (30 + q1)))]) hx hb dX3_share_63 rfl hl (by decide) rfl (fun ls hl => ?_)
      refine lv_iconst (v := 1) hx hb dX3_share_64 (by decide) ?_
      refine lv_istore (lv' := [(4, .int 1), (3, .int 0), (2, .int 0), (0, .ref (ad 0)), (1, .ref (ad (30 + q1)))]) hx hb dX3_share_65 hl (by decide) rfl (fun ls hl => ?_)
      exact w3_share_b67 hI C0 FU S q1 0 0 1 hq1 hf H locs ls hP hS (lv_sub hl [3, 4, 2, 1, 0] rfl)
    · have hf := ite_f hf c1
      refine lv_aload_n hx hb dX3_share_34 rfl (lv_at hl 0 rfl) ?_
      refine x_get C0 hKC.1 hP (by decide) (EC_0 K ad S) rfl in_X3_share_X3 8 (by decide) (List.mem_of_getElem? (i := 4) rfl) rfl dX3_share_35 ?_
      refine lv_iload_n hx hb dX3_share_38 rfl (lv_at hl 2 rfl) ?_
      refine lv_aload_n hx hb dX3_share_39 rfl (lv_at hl 0 rfl) ?_
      refine x_get C0 hKC.1 hP (by decide) (EC_0 K ad S) rfl in_X3_share_X3 4 (by decide) (List.mem_of_getElem? (i := 1) rfl) rfl dX3_share_40 ?_
      refine lv_iload_n hx hb dX3_share_43 rfl (lv_at hl 2 rfl) ?_
      refine lv_aload_n hx hb dX3_share_44 rfl (lv_at hl 1 rfl) ?_
      refine x_get C0 hKC.1 hP (ltM hq1) (EC_M K ad S hq1) rfl in_X3_share_X1 0 (by decide) (List.mem_of_getElem? (i := 5) rfl) rfl dX3_share_45 ?_
      refine lv_iload_n hx hb dX3_share_48 rfl (lv_at hl 2 rfl) ?_
      obtain ⟨g2, hf⟩ := gd_some hf
      refine x_iald C0 hKC.1 hP (IC_jar K ad hq1) (t0 := 0) rfl g2 dX3_share_49 ?_
      obtain ⟨v4, h3, hf⟩ := b1_some hf
      refine sys_i hS (sys_runV (As := [.int x2, .int (gi S (195 + q1) (ix x2))]) (rest := [.int x2, .ref (ad 20)]) C0 KC_ok hKC.1 hP hS (by decide) (EC_H K ad S) rfl (m0_leastMore l D K ad tL hI S x2 (gi S (195 + q1) (ix x2)) h3) gX3_share_X0_leastMore rfl ⟨rfl, rfl⟩ hd_X0_leastMore ⟨Nat.le_of_ble_eq_true rfl, Nat.le_of_ble_eq_true rfl⟩ hl.1 rfl (Nat.le_of_ble_eq_true rfl) dX3_share_50 ⟨Nat.le_refl _, Nat.le_refl _⟩) (fun H locs hP hS => ?_)
      obtain ⟨g5, hf⟩ := gd_some hf
      refine x_iast C0 hKC.1 hI (EC_loc K ad) hP hS (IC_20 K ad) (t0 := 0) rfl g5 dX3_share_53 (fun S6 eS6 H locs hP hS => ?_)
      have hf := nm_at eS6 hf
      obtain ⟨v7, ev7⟩ : ∃ y : Int32, y = x2 + 1 := ⟨_, rfl⟩
      have hf := nm_at ev7 hf
      refine lv_iinc (v := v7) (lv' := [(2, .int v7), (0, .ref (ad 0)), (1, .ref (ad (30 + q1)))]) hx hb dX3_share_54 hl (k := 2) rfl (by rw [ev7]; rfl) (by decide) rfl (fun ls hl => ?_)
      refine lv_goto (tgt := 23) hx hb dX3_share_57 (by decide) ?_
      exact ih S6 q1 v7 hq1 hf H locs ls hP hS (lv_sub hl [1, 2, 0] rfl)
set_option maxHeartbeats 4000000 in
set_option maxRecDepth 100000 in
theorem w3_share {p : Program} {l : Launch} {e : Env} {s : State} {m : MethodId} {args : Array Value} {below : List Frame} {meth : Method} {c : Code} {D : va_G} {K : Nat → ClassId} {ad : Nat → Nat} {tL : Nat} (hI : INJ NC ad) (C0 : Cx p s m args meth c RX3 wsX3_share cX3_share 6 (some .int) (KC D K tL (IW NC ad))) {r : Int32} {T : Mem} : ∀ (S : Mem), f3_share S = some (r, T) → ∀ (H : Heap) (locs : List Loc) (ls : Array Slot), va_P D vwCl (wl NC ad (EC K ad S)) H → va_S (IW NC ad) s.heap H locs → lv_has ls 6 [(0, .ref (ad 0))] → W p l e rm3_share s m args below meth c H locs 0 0 (MQ below (va_Qi (fun (x : Int32) (u : Mem) => x = r ∧ u = T) (fun u t => va_P D vwCl (wl NC ad (EC K ad u)) t.heap) (IW NC ad)) args s 0 0 (IW NC ad)) (F0 m 0 ls []) := by
  have hx := C0.1
  have hb := C0.2.1
  have hts := C0.2.2.2.2.1
  have hown := C0.2.2.2.1
  have hKC := C0.2.2.2.2.2.2.2
  intro S hf H locs ls hP hS hl
  rw [f3_share] at hf
  refine lv_aload_n hx hb dX3_share_0 rfl (lv_at hl 0 rfl) ?_
  refine x_get C0 hKC.1 hP (by decide) (EC_0 K ad S) rfl in_X3_share_X3 4 (by decide) (List.mem_of_getElem? (i := 1) rfl) rfl dX3_share_1 ?_
  refine x_get C0 hKC.1 hP (by decide) (EC_H K ad S) rfl in_X3_share_X0 3 (by decide) (List.mem_of_getElem? (i := 2) rfl) rfl dX3_share_4 ?_
  refine lv_if_ne (tgt := 13) hx hb dX3_share_7 (by decide) (fun c1 => ?_) (fun c1 => ?_)
  · have hf := ite_f hf c1
    refine lv_aload_n hx hb dX3_share_13 rfl (lv_at hl 0 rfl) ?_
    refine x_get C0 hKC.1 hP (by decide) (EC_0 K ad S) rfl in_X3_share_X3 5 (by decide) (List.mem_of_getElem? (i := 3) rfl) rfl dX3_share_14 ?_
    obtain ⟨q3, h2, hf⟩ := b1_some hf
    obtain ⟨g4, hf⟩ := gd_some hf
    refine sys_r hS (sys_runV (As := []) (rest := []) C0 KC_ok hKC.1 hP hS (ltS (by decide : 0 < 4)) (EC_S K ad S (by decide : 0 < 4)) rfl (m2_now l D K ad tL hI S 0 (by decide : 0 < 4) h2) gX3_share_X2_now rfl ⟨rfl, rfl⟩ hd_X2_now ⟨Nat.le_of_ble_eq_true rfl, Nat.le_of_ble_eq_true rfl⟩ hl.1 rfl (Nat.le_of_ble_eq_true rfl) dX3_share_17 ⟨Nat.le_refl _, Nat.le_refl _⟩) (fun H locs hP hS => ?_)
    refine lv_astore_n (lv' := [(1, .ref (ad (30 + q3))), (0, .ref (ad 0))]) hx hb dX3_share_20 rfl hl (by decide) rfl (fun ls hl => ?_)
    refine lv_iconst (v := 0) hx hb dX3_share_21 (by decide) ?_
    refine lv_istore_n (lv' := [(2, .int 0), (1, .ref (ad (30 + q3))), (0, .ref (ad 0))]) hx hb dX3_share_22 rfl hl (by decide) rfl (fun ls hl => ?_)
    exact w3_share_b23 hI C0 FU S q3 0 (of_decide_eq_true g4) hf H locs ls hP hS (lv_sub hl [2, 1, 0] rfl)
  · have hf := ite_t hf c1
    refine lv_bipush (v := (-4)) hx hb dX3_share_10 (by decide) ?_
    exact ret_i C0 hP hS (congrArg Prod.fst (Option.some.inj hf)) (congrArg Prod.snd (Option.some.inj hf)) dX3_share_12
theorem m3_share (l : Launch) (D : va_G) (K : Nat → ClassId) (ad : Nat → Nat) (tL : Nat) (hI : INJ NC ad) (S : Mem) {r : Int32} {T : Mem} (hf : f3_share S = some (r, T)) : SysI l yX3_share wsX3_share rm3_share D NC ad (EC K ad) (KC D K tL (IW NC ad)) [.ref (ad 0)] S r T :=
  met_of (own := RX3) (by decide) rfl rfl (Nat.le_of_ble_eq_true rfl) (fun _ _ s _ _ _ _ ls C0 _ hP hl => w3_share hI C0 S hf s.heap [] ls hP va_S.rf hl)
theorem in_X3_best_X3 : ∀ w ∈ wsX30, w ∈ wsX3_best := fun _ h => List.mem_cons_of_mem _ (List.mem_append_left _ (List.mem_append_left _ (List.mem_append_left _ (List.mem_append_right _ h))))
theorem in_X3_best_X0 : ∀ w ∈ wsX00, w ∈ wsX3_best := fun _ h => List.mem_cons_of_mem _ (List.mem_append_left _ (List.mem_append_left _ (List.mem_append_right _ h)))
theorem in_X3_best_X2 : ∀ w ∈ wsX20, w ∈ wsX3_best := fun _ h => List.mem_cons_of_mem _ (List.mem_append_left _ (List.mem_append_right _ h))
theorem in_X3_best_X1 : ∀ w ∈ wsX10, w ∈ wsX3_best := fun _ h => List.mem_cons_of_mem _ (List.mem_append_right _ h)
theorem hd_X3_best : yX3_best.cls = RX3 ∧ yX3_best.cls ≠ "java/lang/invoke/MethodHandle" ∧ yX3_best.cls ≠ "java/lang/invoke/VarHandle" ∧ (parseMethodDescriptor yX3_best.desc).map (fun d => d.parameters.length) = some 0 := by decide +kernel
abbrev rm3_best : Room := { frames := 5, cells := 0, slots := 0, locals := 123 }
set_option maxHeartbeats 4000000 in
set_option maxRecDepth 100000 in
theorem w3_best_b90 {p : Program} {l : Launch} {e : Env} {s : State} {m : MethodId} {args : Array Value} {below : List Frame} {meth : Method} {c : Code} {D : va_G} {K : Nat → ClassId} {ad : Nat → Nat} {tL : Nat} (hI : INJ NC ad) (C0 : Cx p s m args meth c RX3 wsX3_best cX3_best 5 (some .int) (KC D K tL (IW NC ad))) {r : Int32} {T : Mem} (k19 : Mem → Int32 → Int32 → Int32 → Option (Int32 × Mem)) (hk19 : ∀ (S : Mem) (x1 : Int32) (x2 : Int32) (x3 : Int32), k19 S x1 x2 x3 = some (r, T) → ∀ (H : Heap) (locs : List Loc) (ls : Array Slot), va_P D vwCl (wl NC ad (EC K ad S)) H → va_S (IW NC ad) s.heap H locs → lv_has ls 5 [(0, .ref (ad 0)), (1, .int x1), (2, .int x2), (3, .int x3)] → W p l e rm3_best s m args below meth c H locs 0 0 (MQ below (va_Qi (fun (x : Int32) (u : Mem) => x = r ∧ u = T) (fun u t => va_P D vwCl (wl NC ad (EC K ad u)) t.heap) (IW NC ad)) args s 0 0 (IW NC ad)) (F0 m 19 ls [])) : ∀ (S : Mem) (x1 : Int32) (x2 : Int32) (x3 : Int32), f3_best_b90 k19 S x1 x2 x3 = some (r, T) → ∀ (H : Heap) (locs : List Loc) (ls : Array Slot), va_P D vwCl (wl NC ad (EC K ad S)) H → va_S (IW NC ad) s.heap H locs → lv_has ls 5 [(0, .ref (ad 0)), (1, .int x1), (2, .int x2), (3, .int x3)] → W p l e rm3_best s m args below meth c H locs 0 0 (MQ below (va_Qi (fun (x : Int32) (u : Mem) => x = r ∧ u = T) (fun u t => va_P D vwCl (wl NC ad (EC K ad u)) t.heap) (IW NC ad)) args s 0 0 (IW NC ad)) (F0 m 90 ls []) := by
  have hx := C0.1
  have hb := C0.2.1
  have hts := C0.2.2.2.2.1
  have hown := C0.2.2.2.1
  have hKC := C0.2.2.2.2.2.2.2
  intro S x1 x2 x3 hf H locs ls hP hS hl
  rw [f3_best_b90] at hf
  obtain ⟨v1, ev1⟩ : ∃ y : Int32, y = x3 + 1 := ⟨_, rfl⟩
  have hf := nm_at ev1 hf
  refine lv_iinc (v := v1) (lv' := [(3, .int v1), (0, .ref (ad 0)), (1, .int x1), (2, .int x2)]) hx hb dX3_best_90 hl (k := 3) rfl (by rw [ev1]; rfl) (by decide) rfl (fun ls hl => ?_)
  refine lv_goto (tgt := 19) hx hb dX3_best_93 (by decide) ?_
  exact hk19 S x1 x2 v1 hf H locs ls hP hS (lv_sub hl [1, 2, 3, 0] rfl)
set_option maxHeartbeats 4000000 in
set_option maxRecDepth 100000 in
theorem w3_best_b19 {p : Program} {l : Launch} {e : Env} {s : State} {m : MethodId} {args : Array Value} {below : List Frame} {meth : Method} {c : Code} {D : va_G} {K : Nat → ClassId} {ad : Nat → Nat} {tL : Nat} (hI : INJ NC ad) (C0 : Cx p s m args meth c RX3 wsX3_best cX3_best 5 (some .int) (KC D K tL (IW NC ad))) {r : Int32} {T : Mem} : ∀ (n : Nat), ∀ (S : Mem) (x1 : Int32) (x2 : Int32) (x3 : Int32), f3_best_b19 n S x1 x2 x3 = some (r, T) → ∀ (H : Heap) (locs : List Loc) (ls : Array Slot), va_P D vwCl (wl NC ad (EC K ad S)) H → va_S (IW NC ad) s.heap H locs → lv_has ls 5 [(0, .ref (ad 0)), (1, .int x1), (2, .int x2), (3, .int x3)] → W p l e rm3_best s m args below meth c H locs 0 0 (MQ below (va_Qi (fun (x : Int32) (u : Mem) => x = r ∧ u = T) (fun u t => va_P D vwCl (wl NC ad (EC K ad u)) t.heap) (IW NC ad)) args s 0 0 (IW NC ad)) (F0 m 19 ls []) := by
  have hx := C0.1
  have hb := C0.2.1
  have hts := C0.2.2.2.2.1
  have hown := C0.2.2.2.1
  have hKC := C0.2.2.2.2.2.2.2
  intro n
  induction n with
  | zero =>
    intro S x1 x2 x3 hf
    rw [f3_best_b19] at hf
    cases hf
  | succ n ih =>
    intro S x1 x2 x3 hf H locs ls hP hS hl
    rw [f3_best_b19] at hf
    refine lv_iload_n hx hb dX3_best_19 rfl (lv_at hl 3 rfl) ?_
    refine lv_bipush (v := 20) hx hb dX3_best_20 (by decide) ?_
    refine lv_icmp_gt (tgt := 96) hx hb dX3_best_22 (by decide) (fun c1 => ?_) (fun c1 => ?_)
    · have hf := ite_t hf c1
      refine lv_aload_n hx hb dX3_best_96 rfl (lv_at hl 0 rfl) ?_
      refine lv_iload_n hx hb dX3_best_97 rfl (lv_at hl 2 rfl) ?_
      refine x_puti C0 hKC.1 hI (EC_loc K ad) hP hS (by decide) (EC_0 K ad S) rfl tyX3 tyX3_ok nmX3 in_X3_best_X3 9 (by decide) (List.mem_of_getElem? (i := 5) rfl) rfl (tyX3_ok 9 (by decide)) (Nat.le_of_ble_eq_true rfl) (EC_p9 K ad S _) dX3_best_98 (fun S2 eS2 H locs hP hS => ?_)
      have hf := nm_at eS2 hf
      refine lv_iload_n hx hb dX3_best_101 rfl (lv_at hl 1 rfl) ?_
      exact ret_i C0 hP hS (congrArg Prod.fst (Option.some.inj hf)) (congrArg Prod.snd (Option.some.inj hf)) dX3_best_102
    · have hf := ite_f hf c1
      refine lv_aload_n hx hb dX3_best_25 rfl (lv_at hl 0 rfl) ?_
      refine x_get C0 hKC.1 hP (by decide) (EC_0 K ad S) rfl in_X3_best_X3 7 (by decide) (List.mem_of_getElem? (i := 3) rfl) rfl dX3_best_26 ?_
      refine lv_aload_n hx hb dX3_best_29 rfl (lv_at hl 0 rfl) ?_
      refine x_get C0 hKC.1 hP (by decide) (EC_0 K ad S) rfl in_X3_best_X3 5 (by decide) (List.mem_of_getElem? (i := 4) rfl) rfl dX3_best_30 ?_
      obtain ⟨q4, h3, hf⟩ := b1_some hf
      obtain ⟨g5, hf⟩ := gd_some hf
      refine sys_r hS (sys_runV (As := []) (rest := [.ref (ad (30 + 164))]) C0 KC_ok hKC.1 hP hS (ltS (by decide : 0 < 4)) (EC_S K ad S (by decide : 0 < 4)) rfl (m2_now l D K ad tL hI S 0 (by decide : 0 < 4) h3) gX3_best_X2_now rfl ⟨rfl, rfl⟩ hd_X2_now ⟨Nat.le_of_ble_eq_true rfl, Nat.le_of_ble_eq_true rfl⟩ hl.1 rfl (Nat.le_of_ble_eq_true rfl) dX3_best_33 ⟨Nat.le_refl _, Nat.le_refl _⟩) (fun H locs hP hS => ?_)
      obtain ⟨S7, h6, hf⟩ := b1_some hf
      refine sys_v hS (sys_runV (As := [.ref (ad (30 + q4))]) (rest := []) C0 KC_ok hKC.1 hP hS (ltM (by decide : 164 < 165)) (EC_M K ad S (by decide : 164 < 165)) rfl (m1_become l D K ad tL hI S 164 q4 (by decide : 164 < 165) (of_decide_eq_true g5) h6) gX3_best_X1_become rfl ⟨rfl, rfl⟩ hd_X1_become ⟨Nat.le_of_ble_eq_true rfl, Nat.le_of_ble_eq_true rfl⟩ hl.1 rfl (Nat.le_of_ble_eq_true rfl) dX3_best_36 ⟨Nat.le_refl _, Nat.le_refl _⟩) (fun H locs hP hS => ?_)
      refine lv_aload_n hx hb dX3_best_39 rfl (lv_at hl 0 rfl) ?_
      refine x_get C0 hKC.1 hP (by decide) (EC_0 K ad S7) rfl in_X3_best_X3 7 (by decide) (List.mem_of_getElem? (i := 3) rfl) rfl dX3_best_40 ?_
      refine lv_aload_n hx hb dX3_best_43 rfl (lv_at hl 0 rfl) ?_
      refine x_get C0 hKC.1 hP (by decide) (EC_0 K ad S7) rfl in_X3_best_X3 4 (by decide) (List.mem_of_getElem? (i := 1) rfl) rfl dX3_best_44 ?_
      refine lv_iload_n hx hb dX3_best_47 rfl (lv_at hl 3 rfl) ?_
      obtain ⟨S9, h8, hf⟩ := b1_some hf
      refine sys_v hS (sys_runV (As := [.ref (ad 15), .int x3]) (rest := []) C0 KC_ok hKC.1 hP hS (ltM (by decide : 164 < 165)) (EC_M K ad S7 (by decide : 164 < 165)) rfl (m1_passDays l D K ad tL hI S7 164 x3 (by decide : 164 < 165) h8) gX3_best_X1_passDays rfl ⟨rfl, rfl⟩ hd_X1_passDays ⟨Nat.le_of_ble_eq_true rfl, Nat.le_of_ble_eq_true rfl⟩ hl.1 rfl (Nat.le_of_ble_eq_true rfl) dX3_best_48 ⟨Nat.le_refl _, Nat.le_refl _⟩) (fun H locs hP hS => ?_)
      refine lv_aload_n hx hb dX3_best_51 rfl (lv_at hl 0 rfl) ?_
      refine x_get C0 hKC.1 hP (by decide) (EC_0 K ad S9) rfl in_X3_best_X3 7 (by decide) (List.mem_of_getElem? (i := 3) rfl) rfl dX3_best_52 ?_
      refine lv_aload_n hx hb dX3_best_55 rfl (lv_at hl 0 rfl) ?_
      refine x_get C0 hKC.1 hP (by decide) (EC_0 K ad S9) rfl in_X3_best_X3 4 (by decide) (List.mem_of_getElem? (i := 1) rfl) rfl dX3_best_56 ?_
      obtain ⟨v11, S12, h10, hf⟩ := b2_some hf
      refine sys_i hS (sys_runV (As := [.ref (ad 15)]) (rest := []) C0 KC_ok hKC.1 hP hS (ltM (by decide : 164 < 165)) (EC_M K ad S9 (by decide : 164 < 165)) rfl (m1_shareOut l D K ad tL hI S9 164 (by decide : 164 < 165) h10) gX3_best_X1_shareOut rfl ⟨rfl, rfl⟩ hd_X1_shareOut ⟨Nat.le_of_ble_eq_true rfl, Nat.le_of_ble_eq_true rfl⟩ hl.1 rfl (Nat.le_of_ble_eq_true rfl) dX3_best_59 ⟨Nat.le_refl _, Nat.le_refl _⟩) (fun H locs hP hS => ?_)
      refine lv_pop hx hb dX3_best_62 rfl ?_
      refine lv_aload_n hx hb dX3_best_63 rfl (lv_at hl 0 rfl) ?_
      refine x_get C0 hKC.1 hP (by decide) (EC_0 K ad S12) rfl in_X3_best_X3 7 (by decide) (List.mem_of_getElem? (i := 3) rfl) rfl dX3_best_64 ?_
      refine lv_aload_n hx hb dX3_best_67 rfl (lv_at hl 0 rfl) ?_
      refine x_get C0 hKC.1 hP (by decide) (EC_0 K ad S12) rfl in_X3_best_X3 4 (by decide) (List.mem_of_getElem? (i := 1) rfl) rfl dX3_best_68 ?_
      obtain ⟨v14, h13, hf⟩ := b1_some hf
      refine sys_i hS (sys_runV (As := [.ref (ad 15)]) (rest := []) C0 KC_ok hKC.1 hP hS (ltM (by decide : 164 < 165)) (EC_M K ad S12 (by decide : 164 < 165)) rfl (m1_worksOff l D K ad tL hI S12 164 (by decide : 164 < 165) h13) gX3_best_X1_worksOff rfl ⟨rfl, rfl⟩ hd_X1_worksOff ⟨Nat.le_of_ble_eq_true rfl, Nat.le_of_ble_eq_true rfl⟩ hl.1 rfl (Nat.le_of_ble_eq_true rfl) dX3_best_71 ⟨Nat.le_refl _, Nat.le_refl _⟩) (fun H locs hP hS => ?_)
      obtain ⟨v16, h15, hf⟩ := b1_some hf
      refine sys_i hS (sys_runS (As := [.int v14]) (rest := []) C0 KC_ok hP hS (m6_bitCount l D K ad tL hI S12 v14 h15) gX3_best_J6_bitCount_0f7a4 rfl ⟨rfl, rfl⟩ hd_J6_bitCount_0f7a4 ⟨Nat.le_of_ble_eq_true rfl, Nat.le_of_ble_eq_true rfl⟩ hl.1 rfl (Nat.le_of_ble_eq_true rfl) dX3_best_74 ⟨Nat.le_refl _, Nat.le_refl _⟩) (fun H locs hP hS => ?_)
      refine lv_istore (lv' := [(4, .int v16), (0, .ref (ad 0)), (1, .int x1), (2, .int x2), (3, .int x3)]) hx hb dX3_best_77 hl (by decide) rfl (fun ls hl => ?_)
      refine lv_iload hx hb dX3_best_79 (lv_at hl 0 rfl) ?_
      refine lv_iload_n hx hb dX3_best_81 rfl (lv_at hl 3 rfl) ?_
      refine lv_icmp_le (tgt := 90) hx hb dX3_best_82 (by decide) (fun c17 => ?_) (fun c17 => ?_)
      · have hf := ite_t hf c17
        exact w3_best_b90 hI C0 (f3_best_b19 n) ih S12 x1 x2 x3 hf H locs ls hP hS (lv_sub hl [1, 2, 3, 4] rfl)
      · have hf := ite_f hf c17
        refine lv_iload hx hb dX3_best_85 (lv_at hl 0 rfl) ?_
        refine lv_istore_n (lv' := [(2, .int v16), (4, .int v16), (0, .ref (ad 0)), (1, .int x1), (3, .int x3)]) hx hb dX3_best_87 rfl hl (by decide) rfl (fun ls hl => ?_)
        refine lv_iload_n hx hb dX3_best_88 rfl (lv_at hl 4 rfl) ?_
        refine lv_istore_n (lv' := [(1, .int x3), (2, .int v16), (4, .int v16), (0, .ref (ad 0)), (3, .int x3)]) hx hb dX3_best_89 rfl hl (by decide) rfl (fun ls hl => ?_)
        exact w3_best_b90 hI C0 (f3_best_b19 n) ih S12 x3 v16 x3 hf H locs ls hP hS (lv_sub hl [3, 0, 1, 4] rfl)
set_option maxHeartbeats 4000000 in
set_option maxRecDepth 100000 in
theorem w3_best {p : Program} {l : Launch} {e : Env} {s : State} {m : MethodId} {args : Array Value} {below : List Frame} {meth : Method} {c : Code} {D : va_G} {K : Nat → ClassId} {ad : Nat → Nat} {tL : Nat} (hI : INJ NC ad) (C0 : Cx p s m args meth c RX3 wsX3_best cX3_best 5 (some .int) (KC D K tL (IW NC ad))) {r : Int32} {T : Mem} : ∀ (S : Mem), f3_best S = some (r, T) → ∀ (H : Heap) (locs : List Loc) (ls : Array Slot), va_P D vwCl (wl NC ad (EC K ad S)) H → va_S (IW NC ad) s.heap H locs → lv_has ls 5 [(0, .ref (ad 0))] → W p l e rm3_best s m args below meth c H locs 0 0 (MQ below (va_Qi (fun (x : Int32) (u : Mem) => x = r ∧ u = T) (fun u t => va_P D vwCl (wl NC ad (EC K ad u)) t.heap) (IW NC ad)) args s 0 0 (IW NC ad)) (F0 m 0 ls []) := by
  have hx := C0.1
  have hb := C0.2.1
  have hts := C0.2.2.2.2.1
  have hown := C0.2.2.2.1
  have hKC := C0.2.2.2.2.2.2.2
  intro S hf H locs ls hP hS hl
  rw [f3_best] at hf
  refine lv_aload_n hx hb dX3_best_0 rfl (lv_at hl 0 rfl) ?_
  refine x_get C0 hKC.1 hP (by decide) (EC_0 K ad S) rfl in_X3_best_X3 4 (by decide) (List.mem_of_getElem? (i := 1) rfl) rfl dX3_best_1 ?_
  refine x_get C0 hKC.1 hP (by decide) (EC_H K ad S) rfl in_X3_best_X0 3 (by decide) (List.mem_of_getElem? (i := 2) rfl) rfl dX3_best_4 ?_
  refine lv_if_ne (tgt := 13) hx hb dX3_best_7 (by decide) (fun c1 => ?_) (fun c1 => ?_)
  · have hf := ite_f hf c1
    refine lv_iconst (v := 0) hx hb dX3_best_13 (by decide) ?_
    refine lv_istore_n (lv' := [(1, .int 0), (0, .ref (ad 0))]) hx hb dX3_best_14 rfl hl (by decide) rfl (fun ls hl => ?_)
    refine lv_iconst (v := (-1)) hx hb dX3_best_15 (by decide) ?_
    refine lv_istore_n (lv' := [(2, .int (-1)), (1, .int 0), (0, .ref (ad 0))]) hx hb dX3_best_16 rfl hl (by decide) rfl (fun ls hl => ?_)
    refine lv_iconst (v := 0) hx hb dX3_best_17 (by decide) ?_
    refine lv_istore_n (lv' := [(3, .int 0), (2, .int (-1)), (1, .int 0), (0, .ref (ad 0))]) hx hb dX3_best_18 rfl hl (by decide) rfl (fun ls hl => ?_)
    exact w3_best_b19 hI C0 FU S 0 (-1) 0 hf H locs ls hP hS (lv_sub hl [3, 2, 1, 0] rfl)
  · have hf := ite_t hf c1
    refine lv_bipush (v := (-4)) hx hb dX3_best_10 (by decide) ?_
    exact ret_i C0 hP hS (congrArg Prod.fst (Option.some.inj hf)) (congrArg Prod.snd (Option.some.inj hf)) dX3_best_12
theorem m3_best (l : Launch) (D : va_G) (K : Nat → ClassId) (ad : Nat → Nat) (tL : Nat) (hI : INJ NC ad) (S : Mem) {r : Int32} {T : Mem} (hf : f3_best S = some (r, T)) : SysI l yX3_best wsX3_best rm3_best D NC ad (EC K ad) (KC D K tL (IW NC ad)) [.ref (ad 0)] S r T :=
  met_of (own := RX3) (by decide) rfl rfl (Nat.le_of_ble_eq_true rfl) (fun _ _ s _ _ _ _ ls C0 _ hP hl => w3_best hI C0 S hf s.heap [] ls hP va_S.rf hl)
