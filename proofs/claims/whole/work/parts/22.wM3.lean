theorem in_X4_share_X4 : ∀ w ∈ wsX40, w ∈ wsX4_share := fun _ h => List.mem_cons_of_mem _ (List.mem_append_right _ h)
theorem hd_X4_share : yX4_share.cls = RX4 ∧ yX4_share.cls ≠ "java/lang/invoke/MethodHandle" ∧ yX4_share.cls ≠ "java/lang/invoke/VarHandle" ∧ (parseMethodDescriptor yX4_share.desc).map (fun d => d.parameters.length) = some 0 := by decide +kernel
abbrev rm4_share : Room := { frames := 4, cells := 0, slots := 0, locals := 85 }
set_option maxHeartbeats 4000000 in
set_option maxRecDepth 100000 in
theorem w4_share_b169 {p : Program} {l : Launch} {e : Env} {s : State} {m : MethodId} {args : Array Value} {below : List Frame} {meth : Method} {c : Code} {D : va_G} {K : Nat → ClassId} {ad : Nat → Nat} (hI : INJ NM ad) (C0 : Cx p s m args meth c RX4 wsX4_share cX4_share 9 (some .int) (KM D K)) {r : Int32} {T : Mem} (k22 : Mem → Int32 → Int32 → Int32 → Int32 → Option (Int32 × Mem)) (hk22 : ∀ (S : Mem) (x1 : Int32) (x2 : Int32) (x3 : Int32) (x4 : Int32), k22 S x1 x2 x3 x4 = some (r, T) → ∀ (H : Heap) (locs : List Loc) (ls : Array Slot), va_P D vwCl (wl NM ad (EM K ad S)) H → va_S (IW NM ad) s.heap H locs → lv_has ls 9 [(0, .ref (ad 0)), (1, .int x1), (2, .int x2), (3, .int x3), (4, .int x4)] → W p l e rm4_share s m args below meth c H locs 0 0 (MQ below (va_Qi (fun (x : Int32) (u : Mem) => x = r ∧ u = T) (fun u t => va_P D vwCl (wl NM ad (EM K ad u)) t.heap) (IW NM ad)) args s 0 0 (IW NM ad)) (F0 m 22 ls [])) : ∀ (S : Mem) (x1 : Int32) (x2 : Int32) (x3 : Int32) (x4 : Int32), f4_share_b169 k22 S x1 x2 x3 x4 = some (r, T) → ∀ (H : Heap) (locs : List Loc) (ls : Array Slot), va_P D vwCl (wl NM ad (EM K ad S)) H → va_S (IW NM ad) s.heap H locs → lv_has ls 9 [(0, .ref (ad 0)), (1, .int x1), (2, .int x2), (3, .int x3), (4, .int x4)] → W p l e rm4_share s m args below meth c H locs 0 0 (MQ below (va_Qi (fun (x : Int32) (u : Mem) => x = r ∧ u = T) (fun u t => va_P D vwCl (wl NM ad (EM K ad u)) t.heap) (IW NM ad)) args s 0 0 (IW NM ad)) (F0 m 169 ls []) := by
  have hx := C0.1
  have hb := C0.2.1
  have hts := C0.2.2.2.2.1
  have hown := C0.2.2.2.1
  have hKC := C0.2.2.2.2.2.2.2
  intro S x1 x2 x3 x4 hf H locs ls hP hS hl
  rw [f4_share_b169] at hf
  obtain ⟨v1, ev1⟩ : ∃ y : Int32, y = x4 + 1 := ⟨_, rfl⟩
  have hf := nm_at ev1 hf
  refine lv_iinc (v := v1) (lv' := [(4, .int v1), (0, .ref (ad 0)), (1, .int x1), (2, .int x2), (3, .int x3)]) hx hb dX4_share_169 hl (k := 4) rfl (by rw [ev1]; rfl) (by decide) rfl (fun ls hl => ?_)
  refine lv_goto (tgt := 22) hx hb dX4_share_172 (by decide) ?_
  exact hk22 S x1 x2 x3 v1 hf H locs ls hP hS (lv_sub hl [1, 2, 3, 4, 0] rfl)
set_option maxHeartbeats 4000000 in
set_option maxRecDepth 100000 in
theorem w4_share_b126 {p : Program} {l : Launch} {e : Env} {s : State} {m : MethodId} {args : Array Value} {below : List Frame} {meth : Method} {c : Code} {D : va_G} {K : Nat → ClassId} {ad : Nat → Nat} (hI : INJ NM ad) (C0 : Cx p s m args meth c RX4 wsX4_share cX4_share 9 (some .int) (KM D K)) {r : Int32} {T : Mem} (k22 : Mem → Int32 → Int32 → Int32 → Int32 → Option (Int32 × Mem)) (hk22 : ∀ (S : Mem) (x1 : Int32) (x2 : Int32) (x3 : Int32) (x4 : Int32), k22 S x1 x2 x3 x4 = some (r, T) → ∀ (H : Heap) (locs : List Loc) (ls : Array Slot), va_P D vwCl (wl NM ad (EM K ad S)) H → va_S (IW NM ad) s.heap H locs → lv_has ls 9 [(0, .ref (ad 0)), (1, .int x1), (2, .int x2), (3, .int x3), (4, .int x4)] → W p l e rm4_share s m args below meth c H locs 0 0 (MQ below (va_Qi (fun (x : Int32) (u : Mem) => x = r ∧ u = T) (fun u t => va_P D vwCl (wl NM ad (EM K ad u)) t.heap) (IW NM ad)) args s 0 0 (IW NM ad)) (F0 m 22 ls [])) (k54 : Mem → Int32 → Int32 → Int32 → Int32 → Int32 → Int32 → Int32 → Option (Int32 × Mem)) (hk54 : ∀ (S : Mem) (x1 : Int32) (x2 : Int32) (x3 : Int32) (x4 : Int32) (x5 : Int32) (x6 : Int32) (x7 : Int32), k54 S x1 x2 x3 x4 x5 x6 x7 = some (r, T) → ∀ (H : Heap) (locs : List Loc) (ls : Array Slot), va_P D vwCl (wl NM ad (EM K ad S)) H → va_S (IW NM ad) s.heap H locs → lv_has ls 9 [(0, .ref (ad 0)), (1, .int x1), (2, .int x2), (3, .int x3), (4, .int x4), (5, .int x5), (6, .int x6), (7, .int x7)] → W p l e rm4_share s m args below meth c H locs 0 0 (MQ below (va_Qi (fun (x : Int32) (u : Mem) => x = r ∧ u = T) (fun u t => va_P D vwCl (wl NM ad (EM K ad u)) t.heap) (IW NM ad)) args s 0 0 (IW NM ad)) (F0 m 54 ls [])) : ∀ (S : Mem) (x1 : Int32) (x2 : Int32) (x3 : Int32) (x4 : Int32) (x6 : Int32) (x7 : Int32) (t0 : Int32) (t1 : Int32), f4_share_b126 k22 k54 S x1 x2 x3 x4 x6 x7 t0 t1 = some (r, T) → ∀ (H : Heap) (locs : List Loc) (ls : Array Slot), va_P D vwCl (wl NM ad (EM K ad S)) H → va_S (IW NM ad) s.heap H locs → lv_has ls 9 [(0, .ref (ad 0)), (1, .int x1), (2, .int x2), (3, .int x3), (4, .int x4), (6, .int x6), (7, .int x7)] → W p l e rm4_share s m args below meth c H locs 0 0 (MQ below (va_Qi (fun (x : Int32) (u : Mem) => x = r ∧ u = T) (fun u t => va_P D vwCl (wl NM ad (EM K ad u)) t.heap) (IW NM ad)) args s 0 0 (IW NM ad)) (F0 m 126 ls [.int t1, .int t0]) := by
  have hx := C0.1
  have hb := C0.2.1
  have hts := C0.2.2.2.2.1
  have hown := C0.2.2.2.1
  have hKC := C0.2.2.2.2.2.2.2
  intro S x1 x2 x3 x4 x6 x7 t0 t1 hf H locs ls hP hS hl
  rw [f4_share_b126] at hf
  refine lv_iadd hx hb dX4_share_126 ?_
  refine lv_topi (fun v1 ev1 => ?_)
  have hf := nm_at ev1 hf
  refine lv_istore (lv' := [(5, .int v1), (0, .ref (ad 0)), (1, .int x1), (2, .int x2), (3, .int x3), (4, .int x4), (6, .int x6), (7, .int x7)]) hx hb dX4_share_127 hl (by decide) rfl (fun ls hl => ?_)
  obtain ⟨v2, ev2⟩ : ∃ y : Int32, y = x7 + 1 := ⟨_, rfl⟩
  have hf := nm_at ev2 hf
  refine lv_iinc (v := v2) (lv' := [(7, .int v2), (5, .int v1), (0, .ref (ad 0)), (1, .int x1), (2, .int x2), (3, .int x3), (4, .int x4), (6, .int x6)]) hx hb dX4_share_129 hl (k := 7) rfl (by rw [ev2]; rfl) (by decide) rfl (fun ls hl => ?_)
  refine lv_goto (tgt := 54) hx hb dX4_share_132 (by decide) ?_
  exact hk54 S x1 x2 x3 x4 v1 x6 v2 hf H locs ls hP hS (lv_sub hl [2, 3, 4, 5, 6, 1, 7, 0] rfl)
set_option maxHeartbeats 4000000 in
set_option maxRecDepth 100000 in
theorem w4_share_b107 {p : Program} {l : Launch} {e : Env} {s : State} {m : MethodId} {args : Array Value} {below : List Frame} {meth : Method} {c : Code} {D : va_G} {K : Nat → ClassId} {ad : Nat → Nat} (hI : INJ NM ad) (C0 : Cx p s m args meth c RX4 wsX4_share cX4_share 9 (some .int) (KM D K)) {r : Int32} {T : Mem} (k22 : Mem → Int32 → Int32 → Int32 → Int32 → Option (Int32 × Mem)) (hk22 : ∀ (S : Mem) (x1 : Int32) (x2 : Int32) (x3 : Int32) (x4 : Int32), k22 S x1 x2 x3 x4 = some (r, T) → ∀ (H : Heap) (locs : List Loc) (ls : Array Slot), va_P D vwCl (wl NM ad (EM K ad S)) H → va_S (IW NM ad) s.heap H locs → lv_has ls 9 [(0, .ref (ad 0)), (1, .int x1), (2, .int x2), (3, .int x3), (4, .int x4)] → W p l e rm4_share s m args below meth c H locs 0 0 (MQ below (va_Qi (fun (x : Int32) (u : Mem) => x = r ∧ u = T) (fun u t => va_P D vwCl (wl NM ad (EM K ad u)) t.heap) (IW NM ad)) args s 0 0 (IW NM ad)) (F0 m 22 ls [])) (k54 : Mem → Int32 → Int32 → Int32 → Int32 → Int32 → Int32 → Int32 → Option (Int32 × Mem)) (hk54 : ∀ (S : Mem) (x1 : Int32) (x2 : Int32) (x3 : Int32) (x4 : Int32) (x5 : Int32) (x6 : Int32) (x7 : Int32), k54 S x1 x2 x3 x4 x5 x6 x7 = some (r, T) → ∀ (H : Heap) (locs : List Loc) (ls : Array Slot), va_P D vwCl (wl NM ad (EM K ad S)) H → va_S (IW NM ad) s.heap H locs → lv_has ls 9 [(0, .ref (ad 0)), (1, .int x1), (2, .int x2), (3, .int x3), (4, .int x4), (5, .int x5), (6, .int x6), (7, .int x7)] → W p l e rm4_share s m args below meth c H locs 0 0 (MQ below (va_Qi (fun (x : Int32) (u : Mem) => x = r ∧ u = T) (fun u t => va_P D vwCl (wl NM ad (EM K ad u)) t.heap) (IW NM ad)) args s 0 0 (IW NM ad)) (F0 m 54 ls [])) : ∀ (S : Mem) (x1 : Int32) (x2 : Int32) (x3 : Int32) (x4 : Int32) (x5 : Int32) (x7 : Int32) (x8 : Int32) (t0 : Int32), f4_share_b107 k22 k54 S x1 x2 x3 x4 x5 x7 x8 t0 = some (r, T) → ∀ (H : Heap) (locs : List Loc) (ls : Array Slot), va_P D vwCl (wl NM ad (EM K ad S)) H → va_S (IW NM ad) s.heap H locs → lv_has ls 9 [(0, .ref (ad 0)), (1, .int x1), (2, .int x2), (3, .int x3), (4, .int x4), (5, .int x5), (7, .int x7), (8, .int x8)] → W p l e rm4_share s m args below meth c H locs 0 0 (MQ below (va_Qi (fun (x : Int32) (u : Mem) => x = r ∧ u = T) (fun u t => va_P D vwCl (wl NM ad (EM K ad u)) t.heap) (IW NM ad)) args s 0 0 (IW NM ad)) (F0 m 107 ls [.int t0]) := by
  have hx := C0.1
  have hb := C0.2.1
  have hts := C0.2.2.2.2.1
  have hown := C0.2.2.2.1
  have hKC := C0.2.2.2.2.2.2.2
  intro S x1 x2 x3 x4 x5 x7 x8 t0 hf H locs ls hP hS hl
  rw [f4_share_b107] at hf
  refine lv_istore (lv' := [(6, .int t0), (0, .ref (ad 0)), (1, .int x1), (2, .int x2), (3, .int x3), (4, .int x4), (5, .int x5), (7, .int x7), (8, .int x8)]) hx hb dX4_share_107 hl (by decide) rfl (fun ls hl => ?_)
  refine lv_iload hx hb dX4_share_109 (lv_at hl 6 rfl) ?_
  refine lv_iload hx hb dX4_share_111 (lv_at hl 8 rfl) ?_
  refine lv_if_eq (tgt := 125) hx hb dX4_share_113 (by decide) (fun c1 => ?_) (fun c1 => ?_)
  · have hf := ite_t hf c1
    refine lv_iconst (v := 0) hx hb dX4_share_125 (by decide) ?_
    exact w4_share_b126 hI C0 k22 hk22 k54 hk54 S x1 x2 x3 x4 t0 x7 x5 0 hf H locs ls hP hS (lv_sub hl [1, 2, 3, 4, 5, 0, 7] rfl)
  · have hf := ite_f hf c1
    refine lv_aload_n hx hb dX4_share_116 rfl (lv_at hl 1 rfl) ?_
    refine lv_iload hx hb dX4_share_117 (lv_at hl 7 rfl) ?_
    obtain ⟨v3, h2, hf⟩ := b1_some hf
    refine sys_i hS (sys_runV (As := [.int x7]) (rest := [.int x5]) C0 KM_ok hKC hP hS (by decide) (EM_0 K ad S) rfl (m4_lack l D K ad hI S x7 h2) gX4_share_X4_lack rfl ⟨rfl, rfl⟩ hd_X4_lack ⟨Nat.le_of_ble_eq_true rfl, Nat.le_of_ble_eq_true rfl⟩ hl.1 rfl (Nat.le_of_ble_eq_true rfl) dX4_share_119 ⟨Nat.le_refl _, Nat.le_refl _⟩) (fun H locs hP hS => ?_)
    refine lv_goto (tgt := 126) hx hb dX4_share_122 (by decide) ?_
    exact w4_share_b126 hI C0 k22 hk22 k54 hk54 S x1 x2 x3 x4 t0 x7 x5 v3 hf H locs ls hP hS (lv_sub hl [1, 2, 3, 4, 5, 0, 7] rfl)
set_option maxHeartbeats 4000000 in
set_option maxRecDepth 100000 in
theorem w4_share_b106 {p : Program} {l : Launch} {e : Env} {s : State} {m : MethodId} {args : Array Value} {below : List Frame} {meth : Method} {c : Code} {D : va_G} {K : Nat → ClassId} {ad : Nat → Nat} (hI : INJ NM ad) (C0 : Cx p s m args meth c RX4 wsX4_share cX4_share 9 (some .int) (KM D K)) {r : Int32} {T : Mem} (k22 : Mem → Int32 → Int32 → Int32 → Int32 → Option (Int32 × Mem)) (hk22 : ∀ (S : Mem) (x1 : Int32) (x2 : Int32) (x3 : Int32) (x4 : Int32), k22 S x1 x2 x3 x4 = some (r, T) → ∀ (H : Heap) (locs : List Loc) (ls : Array Slot), va_P D vwCl (wl NM ad (EM K ad S)) H → va_S (IW NM ad) s.heap H locs → lv_has ls 9 [(0, .ref (ad 0)), (1, .int x1), (2, .int x2), (3, .int x3), (4, .int x4)] → W p l e rm4_share s m args below meth c H locs 0 0 (MQ below (va_Qi (fun (x : Int32) (u : Mem) => x = r ∧ u = T) (fun u t => va_P D vwCl (wl NM ad (EM K ad u)) t.heap) (IW NM ad)) args s 0 0 (IW NM ad)) (F0 m 22 ls [])) (k54 : Mem → Int32 → Int32 → Int32 → Int32 → Int32 → Int32 → Int32 → Option (Int32 × Mem)) (hk54 : ∀ (S : Mem) (x1 : Int32) (x2 : Int32) (x3 : Int32) (x4 : Int32) (x5 : Int32) (x6 : Int32) (x7 : Int32), k54 S x1 x2 x3 x4 x5 x6 x7 = some (r, T) → ∀ (H : Heap) (locs : List Loc) (ls : Array Slot), va_P D vwCl (wl NM ad (EM K ad S)) H → va_S (IW NM ad) s.heap H locs → lv_has ls 9 [(0, .ref (ad 0)), (1, .int x1), (2, .int x2), (3, .int x3), (4, .int x4), (5, .int x5), (6, .int x6), (7, .int x7)] → W p l e rm4_share s m args below meth c H locs 0 0 (MQ below (va_Qi (fun (x : Int32) (u : Mem) => x = r ∧ u = T) (fun u t => va_P D vwCl (wl NM ad (EM K ad u)) t.heap) (IW NM ad)) args s 0 0 (IW NM ad)) (F0 m 54 ls [])) : ∀ (S : Mem) (x1 : Int32) (x2 : Int32) (x3 : Int32) (x4 : Int32) (x5 : Int32) (x7 : Int32) (x8 : Int32), f4_share_b106 k22 k54 S x1 x2 x3 x4 x5 x7 x8 = some (r, T) → ∀ (H : Heap) (locs : List Loc) (ls : Array Slot), va_P D vwCl (wl NM ad (EM K ad S)) H → va_S (IW NM ad) s.heap H locs → lv_has ls 9 [(0, .ref (ad 0)), (1, .int x1), (2, .int x2), (3, .int x3), (4, .int x4), (5, .int x5), (7, .int x7), (8, .int x8)] → W p l e rm4_share s m args below meth c H locs 0 0 (MQ below (va_Qi (fun (x : Int32) (u : Mem) => x = r ∧ u = T) (fun u t => va_P D vwCl (wl NM ad (EM K ad u)) t.heap) (IW NM ad)) args s 0 0 (IW NM ad)) (F0 m 106 ls []) := by
  have hx := C0.1
  have hb := C0.2.1
  have hts := C0.2.2.2.2.1
  have hown := C0.2.2.2.1
  have hKC := C0.2.2.2.2.2.2.2
  intro S x1 x2 x3 x4 x5 x7 x8 hf H locs ls hP hS hl
  rw [f4_share_b106] at hf
  refine lv_iconst (v := 0) hx hb dX4_share_106 (by decide) ?_
  exact w4_share_b107 hI C0 k22 hk22 k54 hk54 S x1 x2 x3 x4 x5 x7 x8 0 hf H locs ls hP hS (lv_sub hl [0, 1, 2, 3, 4, 5, 6, 7] rfl)
set_option maxHeartbeats 4000000 in
set_option maxRecDepth 100000 in
theorem w4_share_b102 {p : Program} {l : Launch} {e : Env} {s : State} {m : MethodId} {args : Array Value} {below : List Frame} {meth : Method} {c : Code} {D : va_G} {K : Nat → ClassId} {ad : Nat → Nat} (hI : INJ NM ad) (C0 : Cx p s m args meth c RX4 wsX4_share cX4_share 9 (some .int) (KM D K)) {r : Int32} {T : Mem} (k22 : Mem → Int32 → Int32 → Int32 → Int32 → Option (Int32 × Mem)) (hk22 : ∀ (S : Mem) (x1 : Int32) (x2 : Int32) (x3 : Int32) (x4 : Int32), k22 S x1 x2 x3 x4 = some (r, T) → ∀ (H : Heap) (locs : List Loc) (ls : Array Slot), va_P D vwCl (wl NM ad (EM K ad S)) H → va_S (IW NM ad) s.heap H locs → lv_has ls 9 [(0, .ref (ad 0)), (1, .int x1), (2, .int x2), (3, .int x3), (4, .int x4)] → W p l e rm4_share s m args below meth c H locs 0 0 (MQ below (va_Qi (fun (x : Int32) (u : Mem) => x = r ∧ u = T) (fun u t => va_P D vwCl (wl NM ad (EM K ad u)) t.heap) (IW NM ad)) args s 0 0 (IW NM ad)) (F0 m 22 ls [])) (k54 : Mem → Int32 → Int32 → Int32 → Int32 → Int32 → Int32 → Int32 → Option (Int32 × Mem)) (hk54 : ∀ (S : Mem) (x1 : Int32) (x2 : Int32) (x3 : Int32) (x4 : Int32) (x5 : Int32) (x6 : Int32) (x7 : Int32), k54 S x1 x2 x3 x4 x5 x6 x7 = some (r, T) → ∀ (H : Heap) (locs : List Loc) (ls : Array Slot), va_P D vwCl (wl NM ad (EM K ad S)) H → va_S (IW NM ad) s.heap H locs → lv_has ls 9 [(0, .ref (ad 0)), (1, .int x1), (2, .int x2), (3, .int x3), (4, .int x4), (5, .int x5), (6, .int x6), (7, .int x7)] → W p l e rm4_share s m args below meth c H locs 0 0 (MQ below (va_Qi (fun (x : Int32) (u : Mem) => x = r ∧ u = T) (fun u t => va_P D vwCl (wl NM ad (EM K ad u)) t.heap) (IW NM ad)) args s 0 0 (IW NM ad)) (F0 m 54 ls [])) : ∀ (S : Mem) (x1 : Int32) (x2 : Int32) (x3 : Int32) (x4 : Int32) (x5 : Int32) (x7 : Int32) (x8 : Int32), f4_share_b102 k22 k54 S x1 x2 x3 x4 x5 x7 x8 = some (r, T) → ∀ (H : Heap) (locs : List Loc) (ls : Array Slot), va_P D vwCl (wl NM ad (EM K ad S)) H → va_S (IW NM ad) s.heap H locs → lv_has ls 9 [(0, .ref (ad 0)), (1, .int x1), (2, .int x2), (3, .int x3), (4, .int x4), (5, .int x5), (7, .int x7), (8, .int x8)] → W p l e rm4_share s m args below meth c H locs 0 0 (MQ below (va_Qi (fun (x : Int32) (u : Mem) => x = r ∧ u = T) (fun u t => va_P D vwCl (wl NM ad (EM K ad u)) t.heap) (IW NM ad)) args s 0 0 (IW NM ad)) (F0 m 102 ls []) := by
  have hx := C0.1
  have hb := C0.2.1
  have hts := C0.2.2.2.2.1
  have hown := C0.2.2.2.1
  have hKC := C0.2.2.2.2.2.2.2
  intro S x1 x2 x3 x4 x5 x7 x8 hf H locs ls hP hS hl
  rw [f4_share_b102] at hf
  refine lv_iconst (v := 1) hx hb dX4_share_102 (by decide) ?_
  refine lv_goto (tgt := 107) hx hb dX4_share_103 (by decide) ?_
  exact w4_share_b107 hI C0 k22 hk22 k54 hk54 S x1 x2 x3 x4 x5 x7 x8 1 hf H locs ls hP hS (lv_sub hl [0, 1, 2, 3, 4, 5, 6, 7] rfl)
set_option maxHeartbeats 4000000 in
set_option maxRecDepth 100000 in
theorem w4_share_b79 {p : Program} {l : Launch} {e : Env} {s : State} {m : MethodId} {args : Array Value} {below : List Frame} {meth : Method} {c : Code} {D : va_G} {K : Nat → ClassId} {ad : Nat → Nat} (hI : INJ NM ad) (C0 : Cx p s m args meth c RX4 wsX4_share cX4_share 9 (some .int) (KM D K)) {r : Int32} {T : Mem} (k22 : Mem → Int32 → Int32 → Int32 → Int32 → Option (Int32 × Mem)) (hk22 : ∀ (S : Mem) (x1 : Int32) (x2 : Int32) (x3 : Int32) (x4 : Int32), k22 S x1 x2 x3 x4 = some (r, T) → ∀ (H : Heap) (locs : List Loc) (ls : Array Slot), va_P D vwCl (wl NM ad (EM K ad S)) H → va_S (IW NM ad) s.heap H locs → lv_has ls 9 [(0, .ref (ad 0)), (1, .int x1), (2, .int x2), (3, .int x3), (4, .int x4)] → W p l e rm4_share s m args below meth c H locs 0 0 (MQ below (va_Qi (fun (x : Int32) (u : Mem) => x = r ∧ u = T) (fun u t => va_P D vwCl (wl NM ad (EM K ad u)) t.heap) (IW NM ad)) args s 0 0 (IW NM ad)) (F0 m 22 ls [])) (k54 : Mem → Int32 → Int32 → Int32 → Int32 → Int32 → Int32 → Int32 → Option (Int32 × Mem)) (hk54 : ∀ (S : Mem) (x1 : Int32) (x2 : Int32) (x3 : Int32) (x4 : Int32) (x5 : Int32) (x6 : Int32) (x7 : Int32), k54 S x1 x2 x3 x4 x5 x6 x7 = some (r, T) → ∀ (H : Heap) (locs : List Loc) (ls : Array Slot), va_P D vwCl (wl NM ad (EM K ad S)) H → va_S (IW NM ad) s.heap H locs → lv_has ls 9 [(0, .ref (ad 0)), (1, .int x1), (2, .int x2), (3, .int x3), (4, .int x4), (5, .int x5), (6, .int x6), (7, .int x7)] → W p l e rm4_share s m args below meth c H locs 0 0 (MQ below (va_Qi (fun (x : Int32) (u : Mem) => x = r ∧ u = T) (fun u t => va_P D vwCl (wl NM ad (EM K ad u)) t.heap) (IW NM ad)) args s 0 0 (IW NM ad)) (F0 m 54 ls [])) : ∀ (S : Mem) (x1 : Int32) (x2 : Int32) (x3 : Int32) (x4 : Int32) (x5 : Int32) (x6 : Int32) (x7 : Int32) (t0 : Int32), f4_share_b79 k22 k54 S x1 x2 x3 x4 x5 x6 x7 t0 = some (r, T) → ∀ (H : Heap) (locs : List Loc) (ls : Array Slot), va_P D vwCl (wl NM ad (EM K ad S)) H → va_S (IW NM ad) s.heap H locs → lv_has ls 9 [(0, .ref (ad 0)), (1, .int x1), (2, .int x2), (3, .int x3), (4, .int x4), (5, .int x5), (6, .int x6), (7, .int x7)] → W p l e rm4_share s m args below meth c H locs 0 0 (MQ below (va_Qi (fun (x : Int32) (u : Mem) => x = r ∧ u = T) (fun u t => va_P D vwCl (wl NM ad (EM K ad u)) t.heap) (IW NM ad)) args s 0 0 (IW NM ad)) (F0 m 79 ls [.int t0]) := by
  have hx := C0.1
  have hb := C0.2.1
  have hts := C0.2.2.2.2.1
  have hown := C0.2.2.2.1
  have hKC := C0.2.2.2.2.2.2.2
  intro S x1 x2 x3 x4 x5 x6 x7 t0 hf H locs ls hP hS hl
  rw [f4_share_b79] at hf
  refine lv_istore (lv' := [(8, .int t0), (0, .ref (ad 0)), (1, .int x1), (2, .int x2), (3, .int x3), (4, .int x4), (5, .int x5), (6, .int x6), (7, .int x7)]) hx hb dX4_share_79 hl (by decide) rfl (fun ls hl => ?_)
  refine lv_iload hx hb dX4_share_81 (lv_at hl 7 rfl) ?_
  refine lv_if_eq (tgt := 106) hx hb dX4_share_83 (by decide) (fun c1 => ?_) (fun c1 => ?_)
  · have hf := ite_t hf c1
    exact w4_share_b106 hI C0 k22 hk22 k54 hk54 S x1 x2 x3 x4 x5 x7 t0 hf H locs ls hP hS (lv_sub hl [1, 2, 3, 4, 5, 6, 8, 0] rfl)
  · have hf := ite_f hf c1
    refine lv_iload hx hb dX4_share_86 (lv_at hl 0 rfl) ?_
    refine lv_if_eq (tgt := 102) hx hb dX4_share_88 (by decide) (fun c2 => ?_) (fun c2 => ?_)
    · have hf := ite_t hf c2
      exact w4_share_b102 hI C0 k22 hk22 k54 hk54 S x1 x2 x3 x4 x5 x7 t0 hf H locs ls hP hS (lv_sub hl [1, 2, 3, 4, 5, 6, 8, 0] rfl)
    · have hf := ite_f hf c2
      refine lv_aload_n hx hb dX4_share_91 rfl (lv_at hl 1 rfl) ?_
      refine lv_iload hx hb dX4_share_92 (lv_at hl 8 rfl) ?_
      obtain ⟨v4, h3, hf⟩ := b1_some hf
      refine sys_i hS (sys_runV (As := [.int x7]) (rest := []) C0 KM_ok hKC hP hS (by decide) (EM_0 K ad S) rfl (m4_lack l D K ad hI S x7 h3) gX4_share_X4_lack rfl ⟨rfl, rfl⟩ hd_X4_lack ⟨Nat.le_of_ble_eq_true rfl, Nat.le_of_ble_eq_true rfl⟩ hl.1 rfl (Nat.le_of_ble_eq_true rfl) dX4_share_94 ⟨Nat.le_refl _, Nat.le_refl _⟩) (fun H locs hP hS => ?_)
      refine lv_bipush (v := (-9)) hx hb dX4_share_97 (by decide) ?_
      refine lv_icmp_eq (tgt := 106) hx hb dX4_share_99 (by decide) (fun c5 => ?_) (fun c5 => ?_)
      · have hf := ite_t hf c5
        exact w4_share_b106 hI C0 k22 hk22 k54 hk54 S x1 x2 x3 x4 x5 x7 t0 hf H locs ls hP hS (lv_sub hl [1, 2, 3, 4, 5, 6, 8, 0] rfl)
      · have hf := ite_f hf c5
        exact w4_share_b102 hI C0 k22 hk22 k54 hk54 S x1 x2 x3 x4 x5 x7 t0 hf H locs ls hP hS (lv_sub hl [1, 2, 3, 4, 5, 6, 8, 0] rfl)
set_option maxHeartbeats 4000000 in
set_option maxRecDepth 100000 in
theorem w4_share_b54 {p : Program} {l : Launch} {e : Env} {s : State} {m : MethodId} {args : Array Value} {below : List Frame} {meth : Method} {c : Code} {D : va_G} {K : Nat → ClassId} {ad : Nat → Nat} (hI : INJ NM ad) (C0 : Cx p s m args meth c RX4 wsX4_share cX4_share 9 (some .int) (KM D K)) {r : Int32} {T : Mem} (k22 : Mem → Int32 → Int32 → Int32 → Int32 → Option (Int32 × Mem)) (hk22 : ∀ (S : Mem) (x1 : Int32) (x2 : Int32) (x3 : Int32) (x4 : Int32), k22 S x1 x2 x3 x4 = some (r, T) → ∀ (H : Heap) (locs : List Loc) (ls : Array Slot), va_P D vwCl (wl NM ad (EM K ad S)) H → va_S (IW NM ad) s.heap H locs → lv_has ls 9 [(0, .ref (ad 0)), (1, .int x1), (2, .int x2), (3, .int x3), (4, .int x4)] → W p l e rm4_share s m args below meth c H locs 0 0 (MQ below (va_Qi (fun (x : Int32) (u : Mem) => x = r ∧ u = T) (fun u t => va_P D vwCl (wl NM ad (EM K ad u)) t.heap) (IW NM ad)) args s 0 0 (IW NM ad)) (F0 m 22 ls [])) : ∀ (n : Nat), ∀ (S : Mem) (x1 : Int32) (x2 : Int32) (x3 : Int32) (x4 : Int32) (x5 : Int32) (x6 : Int32) (x7 : Int32), f4_share_b54 k22 n S x1 x2 x3 x4 x5 x6 x7 = some (r, T) → ∀ (H : Heap) (locs : List Loc) (ls : Array Slot), va_P D vwCl (wl NM ad (EM K ad S)) H → va_S (IW NM ad) s.heap H locs → lv_has ls 9 [(0, .ref (ad 0)), (1, .int x1), (2, .int x2), (3, .int x3), (4, .int x4), (5, .int x5), (6, .int x6), (7, .int x7)] → W p l e rm4_share s m args below meth c H locs 0 0 (MQ below (va_Qi (fun (x : Int32) (u : Mem) => x = r ∧ u = T) (fun u t => va_P D vwCl (wl NM ad (EM K ad u)) t.heap) (IW NM ad)) args s 0 0 (IW NM ad)) (F0 m 54 ls []) := by
  have hx := C0.1
  have hb := C0.2.1
  have hts := C0.2.2.2.2.1
  have hown := C0.2.2.2.1
  have hKC := C0.2.2.2.2.2.2.2
  intro n
  induction n with
  | zero =>
    intro S x1 x2 x3 x4 x5 x6 x7 hf
    rw [f4_share_b54] at hf
    cases hf
  | succ n ih =>
    intro S x1 x2 x3 x4 x5 x6 x7 hf H locs ls hP hS hl
    rw [f4_share_b54] at hf
    refine lv_iload hx hb dX4_share_54 (lv_at hl 7 rfl) ?_
    refine lv_aload_n hx hb dX4_share_56 rfl (lv_at hl 0 rfl) ?_
    refine x_get C0 hKC hP (by decide) (EM_0 K ad S) rfl in_X4_share_X4 12 (by decide) (List.mem_of_getElem? (i := 1) rfl) rfl dX4_share_57 ?_
    refine lv_icmp_ge (tgt := 135) hx hb dX4_share_60 (by decide) (fun c1 => ?_) (fun c1 => ?_)
    · have hf := ite_t hf c1
      refine lv_iload hx hb dX4_share_135 (lv_at hl 6 rfl) ?_
      refine lv_if_eq (tgt := 169) hx hb dX4_share_137 (by decide) (fun c2 => ?_) (fun c2 => ?_)
      · have hf := ite_t hf c2
        exact w4_share_b169 hI C0 k22 hk22 S x1 x2 x3 x4 hf H locs ls hP hS (lv_sub hl [0, 1, 2, 3, 4] rfl)
      · have hf := ite_f hf c2
        refine lv_iload hx hb dX4_share_140 (lv_at hl 5 rfl) ?_
        refine lv_aload_n hx hb dX4_share_142 rfl (lv_at hl 0 rfl) ?_
        refine x_get C0 hKC hP (by decide) (EM_0 K ad S) rfl in_X4_share_X4 16 (by decide) (List.mem_of_getElem? (i := 2) rfl) rfl dX4_share_143 ?_
        refine lv_iconst (v := 1) hx hb dX4_share_146 (by decide) ?_
        obtain ⟨g3, hf⟩ := gd_some hf
        refine x_iald C0 hKC hP (IM_11 K ad) (t0 := 0) rfl g3 dX4_share_147 ?_
        refine lv_icmp_gt (tgt := 169) hx hb dX4_share_148 (by decide) (fun c4 => ?_) (fun c4 => ?_)
        · have hf := ite_t hf c4
          exact w4_share_b169 hI C0 k22 hk22 S x1 x2 x3 x4 hf H locs ls hP hS (lv_sub hl [0, 1, 2, 3, 4] rfl)
        · have hf := ite_f hf c4
          refine lv_iload hx hb dX4_share_151 (lv_at hl 4 rfl) ?_
          obtain ⟨v6, h5, hf⟩ := b1_some hf
          refine sys_i hS (sys_runS (As := [.int x4]) (rest := []) C0 KM_ok hP hS (m4_many l D K ad hI S x4 h5) gX4_share_X4_many rfl ⟨rfl, rfl⟩ hd_X4_many ⟨Nat.le_of_ble_eq_true rfl, Nat.le_of_ble_eq_true rfl⟩ hl.1 rfl (Nat.le_of_ble_eq_true rfl) dX4_share_153 ⟨Nat.le_refl _, Nat.le_refl _⟩) (fun H locs hP hS => ?_)
          refine lv_iload_n hx hb dX4_share_156 rfl (lv_at hl 2 rfl) ?_
          obtain ⟨v8, h7, hf⟩ := b1_some hf
          refine sys_i hS (sys_runS (As := [.int x2]) (rest := [.int v6]) C0 KM_ok hP hS (m4_many l D K ad hI S x2 h7) gX4_share_X4_many rfl ⟨rfl, rfl⟩ hd_X4_many ⟨Nat.le_of_ble_eq_true rfl, Nat.le_of_ble_eq_true rfl⟩ hl.1 rfl (Nat.le_of_ble_eq_true rfl) dX4_share_157 ⟨Nat.le_refl _, Nat.le_refl _⟩) (fun H locs hP hS => ?_)
          refine lv_icmp_le (tgt := 169) hx hb dX4_share_160 (by decide) (fun c9 => ?_) (fun c9 => ?_)
          · have hf := ite_t hf c9
            exact w4_share_b169 hI C0 k22 hk22 S x1 x2 x3 x4 hf H locs ls hP hS (lv_sub hl [0, 1, 2, 3, 4] rfl)
          · have hf := ite_f hf c9
            refine lv_iload hx hb dX4_share_163 (lv_at hl 4 rfl) ?_
            refine lv_istore_n (lv' := [(2, .int x4), (0, .ref (ad 0)), (1, .int x1), (3, .int x3), (4, .int x4), (5, .int x5), (6, .int x6), (7, .int x7)]) hx hb dX4_share_165 rfl hl (by decide) rfl (fun ls hl => ?_)
            refine lv_iload hx hb dX4_share_166 (lv_at hl 5 rfl) ?_
            refine lv_istore_n (lv' := [(3, .int x5), (2, .int x4), (0, .ref (ad 0)), (1, .int x1), (4, .int x4), (5, .int x5), (6, .int x6), (7, .int x7)]) hx hb dX4_share_168 rfl hl (by decide) rfl (fun ls hl => ?_)
            exact w4_share_b169 hI C0 k22 hk22 S x1 x4 x5 x4 hf H locs ls hP hS (lv_sub hl [2, 3, 1, 0, 4] rfl)
    · have hf := ite_f hf c1
      refine lv_iload hx hb dX4_share_63 (lv_at hl 4 rfl) ?_
      refine lv_iload hx hb dX4_share_65 (lv_at hl 7 rfl) ?_
      refine lv_ishr hx hb dX4_share_67 ?_
      refine lv_iconst (v := 1) hx hb dX4_share_68 (by decide) ?_
      refine lv_iand hx hb dX4_share_69 ?_
      refine lv_iconst (v := 1) hx hb dX4_share_70 (by decide) ?_
      refine lv_icmp_ne (tgt := 78) hx hb dX4_share_71 (by decide) (fun c10 => ?_) (fun c10 => ?_)
      · have hf := ite_f hf c10
        refine lv_iconst (v := 0) hx hb dX4_share_78 (by decide) ?_
        exact w4_share_b79 hI C0 k22 hk22 (f4_share_b54 k22 n) ih S x1 x2 x3 x4 x5 x6 x7 0 hf H locs ls hP hS (lv_sub hl [0, 1, 2, 3, 4, 5, 6, 7] rfl)
      · have hf := ite_t hf c10
        refine lv_iconst (v := 1) hx hb dX4_share_74 (by decide) ?_
        refine lv_goto (tgt := 79) hx hb dX4_share_75 (by decide) ?_
        exact w4_share_b79 hI C0 k22 hk22 (f4_share_b54 k22 n) ih S x1 x2 x3 x4 x5 x6 x7 1 hf H locs ls hP hS (lv_sub hl [0, 1, 2, 3, 4, 5, 6, 7] rfl)
set_option maxHeartbeats 4000000 in
set_option maxRecDepth 100000 in
theorem w4_share_b49 {p : Program} {l : Launch} {e : Env} {s : State} {m : MethodId} {args : Array Value} {below : List Frame} {meth : Method} {c : Code} {D : va_G} {K : Nat → ClassId} {ad : Nat → Nat} (hI : INJ NM ad) (C0 : Cx p s m args meth c RX4 wsX4_share cX4_share 9 (some .int) (KM D K)) {r : Int32} {T : Mem} (k22 : Mem → Int32 → Int32 → Int32 → Int32 → Option (Int32 × Mem)) (hk22 : ∀ (S : Mem) (x1 : Int32) (x2 : Int32) (x3 : Int32) (x4 : Int32), k22 S x1 x2 x3 x4 = some (r, T) → ∀ (H : Heap) (locs : List Loc) (ls : Array Slot), va_P D vwCl (wl NM ad (EM K ad S)) H → va_S (IW NM ad) s.heap H locs → lv_has ls 9 [(0, .ref (ad 0)), (1, .int x1), (2, .int x2), (3, .int x3), (4, .int x4)] → W p l e rm4_share s m args below meth c H locs 0 0 (MQ below (va_Qi (fun (x : Int32) (u : Mem) => x = r ∧ u = T) (fun u t => va_P D vwCl (wl NM ad (EM K ad u)) t.heap) (IW NM ad)) args s 0 0 (IW NM ad)) (F0 m 22 ls [])) : ∀ (S : Mem) (x1 : Int32) (x2 : Int32) (x3 : Int32) (x4 : Int32) (x5 : Int32) (t0 : Int32), f4_share_b49 k22 S x1 x2 x3 x4 x5 t0 = some (r, T) → ∀ (H : Heap) (locs : List Loc) (ls : Array Slot), va_P D vwCl (wl NM ad (EM K ad S)) H → va_S (IW NM ad) s.heap H locs → lv_has ls 9 [(0, .ref (ad 0)), (1, .int x1), (2, .int x2), (3, .int x3), (4, .int x4), (5, .int x5)] → W p l e rm4_share s m args below meth c H locs 0 0 (MQ below (va_Qi (fun (x : Int32) (u : Mem) => x = r ∧ u = T) (fun u t => va_P D vwCl (wl NM ad (EM K ad u)) t.heap) (IW NM ad)) args s 0 0 (IW NM ad)) (F0 m 49 ls [.int t0]) := by
  have hx := C0.1
  have hb := C0.2.1
  have hts := C0.2.2.2.2.1
  have hown := C0.2.2.2.1
  have hKC := C0.2.2.2.2.2.2.2
  intro S x1 x2 x3 x4 x5 t0 hf H locs ls hP hS hl
  rw [f4_share_b49] at hf
  refine lv_istore (lv' := [(6, .int t0), (0, .ref (ad 0)), (1, .int x1), (2, .int x2), (3, .int x3), (4, .int x4), (5, .int x5)]) hx hb dX4_share_49 hl (by decide) rfl (fun ls hl => ?_)
  refine lv_iconst (v := 0) hx hb dX4_share_51 (by decide) ?_
  refine lv_istore (lv' := [(7, .int 0), (6, .int t0), (0, .ref (ad 0)), (1, .int x1), (2, .int x2), (3, .int x3), (4, .int x4), (5, .int x5)]) hx hb dX4_share_52 hl (by decide) rfl (fun ls hl => ?_)
  exact w4_share_b54 hI C0 k22 hk22 FU S x1 x2 x3 x4 x5 t0 0 hf H locs ls hP hS (lv_sub hl [2, 3, 4, 5, 6, 7, 1, 0] rfl)
set_option maxHeartbeats 4000000 in
set_option maxRecDepth 100000 in
theorem w4_share_b22 {p : Program} {l : Launch} {e : Env} {s : State} {m : MethodId} {args : Array Value} {below : List Frame} {meth : Method} {c : Code} {D : va_G} {K : Nat → ClassId} {ad : Nat → Nat} (hI : INJ NM ad) (C0 : Cx p s m args meth c RX4 wsX4_share cX4_share 9 (some .int) (KM D K)) {r : Int32} {T : Mem} : ∀ (n : Nat), ∀ (S : Mem) (x1 : Int32) (x2 : Int32) (x3 : Int32) (x4 : Int32), f4_share_b22 n S x1 x2 x3 x4 = some (r, T) → ∀ (H : Heap) (locs : List Loc) (ls : Array Slot), va_P D vwCl (wl NM ad (EM K ad S)) H → va_S (IW NM ad) s.heap H locs → lv_has ls 9 [(0, .ref (ad 0)), (1, .int x1), (2, .int x2), (3, .int x3), (4, .int x4)] → W p l e rm4_share s m args below meth c H locs 0 0 (MQ below (va_Qi (fun (x : Int32) (u : Mem) => x = r ∧ u = T) (fun u t => va_P D vwCl (wl NM ad (EM K ad u)) t.heap) (IW NM ad)) args s 0 0 (IW NM ad)) (F0 m 22 ls []) := by
  have hx := C0.1
  have hb := C0.2.1
  have hts := C0.2.2.2.2.1
  have hown := C0.2.2.2.1
  have hKC := C0.2.2.2.2.2.2.2
  intro n
  induction n with
  | zero =>
    intro S x1 x2 x3 x4 hf
    rw [f4_share_b22] at hf
    cases hf
  | succ n ih =>
    intro S x1 x2 x3 x4 hf H locs ls hP hS hl
    rw [f4_share_b22] at hf
    refine lv_iload hx hb dX4_share_22 (lv_at hl 4 rfl) ?_
    refine lv_iconst (v := 1) hx hb dX4_share_24 (by decide) ?_
    refine lv_aload_n hx hb dX4_share_25 rfl (lv_at hl 0 rfl) ?_
    refine x_get C0 hKC hP (by decide) (EM_0 K ad S) rfl in_X4_share_X4 12 (by decide) (List.mem_of_getElem? (i := 1) rfl) rfl dX4_share_26 ?_
    refine lv_ishl hx hb dX4_share_29 ?_
    refine lv_icmp_ge (tgt := 175) hx hb dX4_share_30 (by decide) (fun c1 => ?_) (fun c1 => ?_)
    · have hf := ite_t hf c1
      refine lv_aload_n hx hb dX4_share_175 rfl (lv_at hl 0 rfl) ?_
      refine lv_iload_n hx hb dX4_share_176 rfl (lv_at hl 2 rfl) ?_
      refine lv_iload_n hx hb dX4_share_177 rfl (lv_at hl 3 rfl) ?_
      obtain ⟨v3, S4, h2, hf⟩ := b2_some hf
      refine sys_i hS (sys_runV (As := [.int x2, .int x3]) (rest := []) C0 KM_ok hKC hP hS (by decide) (EM_0 K ad S) rfl (m4_tells l D K ad hI S x2 x3 h2) gX4_share_X4_tells rfl ⟨rfl, rfl⟩ hd_X4_tells ⟨Nat.le_of_ble_eq_true rfl, Nat.le_of_ble_eq_true rfl⟩ hl.1 rfl (Nat.le_of_ble_eq_true rfl) dX4_share_178 ⟨Nat.le_refl _, Nat.le_refl _⟩) (fun H locs hP hS => ?_)
      exact ret_i C0 hP hS (congrArg Prod.fst (Option.some.inj hf)) (congrArg Prod.snd (Option.some.inj hf)) dX4_share_181
    · have hf := ite_f hf c1
      refine lv_iconst (v := 0) hx hb dX4_share_33 (by decide) ?_
      refine lv_istore (lv' := [(5, .int 0), (0, .ref (ad 0)), (1, .int x1), (2, .int x2), (3, .int x3), (4, .int x4)]) hx hb dX4_share_34 hl (by decide) rfl (fun ls hl => ?_)
      refine lv_iload hx hb dX4_share_36 (lv_at hl 5 rfl) ?_
      refine lv_iload_n hx hb dX4_share_38 rfl (lv_at hl 2 rfl) ?_
      refine lv_iand hx hb dX4_share_39 ?_
      refine lv_iload_n hx hb dX4_share_40 rfl (lv_at hl 2 rfl) ?_
      refine lv_icmp_ne (tgt := 48) hx hb dX4_share_41 (by decide) (fun c5 => ?_) (fun c5 => ?_)
      · have hf := ite_f hf c5
        refine lv_iconst (v := 0) hx hb dX4_share_48 (by decide) ?_
        exact w4_share_b49 hI C0 (f4_share_b22 n) ih S x1 x2 x3 x4 0 0 hf H locs ls hP hS (lv_sub hl [1, 2, 3, 4, 5, 0] rfl)
      · have hf := ite_t hf c5
        refine lv_iconst (v := 1) hx hb dX4_share_44 (by decide) ?_
        refine lv_goto (tgt := 49) hx hb dX4_share_45 (by decide) ?_
        exact w4_share_b49 hI C0 (f4_share_b22 n) ih S x1 x2 x3 x4 0 1 hf H locs ls hP hS (lv_sub hl [1, 2, 3, 4, 5, 0] rfl)
set_option maxHeartbeats 4000000 in
set_option maxRecDepth 100000 in
theorem w4_share {p : Program} {l : Launch} {e : Env} {s : State} {m : MethodId} {args : Array Value} {below : List Frame} {meth : Method} {c : Code} {D : va_G} {K : Nat → ClassId} {ad : Nat → Nat} (hI : INJ NM ad) (C0 : Cx p s m args meth c RX4 wsX4_share cX4_share 9 (some .int) (KM D K)) {r : Int32} {T : Mem} : ∀ (S : Mem), f4_share S = some (r, T) → ∀ (H : Heap) (locs : List Loc) (ls : Array Slot), va_P D vwCl (wl NM ad (EM K ad S)) H → va_S (IW NM ad) s.heap H locs → lv_has ls 9 [(0, .ref (ad 0))] → W p l e rm4_share s m args below meth c H locs 0 0 (MQ below (va_Qi (fun (x : Int32) (u : Mem) => x = r ∧ u = T) (fun u t => va_P D vwCl (wl NM ad (EM K ad u)) t.heap) (IW NM ad)) args s 0 0 (IW NM ad)) (F0 m 0 ls []) := by
  have hx := C0.1
  have hb := C0.2.1
  have hts := C0.2.2.2.2.1
  have hown := C0.2.2.2.1
  have hKC := C0.2.2.2.2.2.2.2
  intro S hf H locs ls hP hS hl
  rw [f4_share] at hf
  refine lv_aload_n hx hb dX4_share_0 rfl (lv_at hl 0 rfl) ?_
  refine x_get C0 hKC hP (by decide) (EM_0 K ad S) rfl in_X4_share_X4 12 (by decide) (List.mem_of_getElem? (i := 1) rfl) rfl dX4_share_1 ?_
  refine lv_if_ne (tgt := 10) hx hb dX4_share_4 (by decide) (fun c1 => ?_) (fun c1 => ?_)
  · have hf := ite_f hf c1
    refine lv_aload_n hx hb dX4_share_10 rfl (lv_at hl 0 rfl) ?_
    obtain ⟨v3, h2, hf⟩ := b1_some hf
    refine sys_i hS (sys_runV (As := []) (rest := []) C0 KM_ok hKC hP hS (by decide) (EM_0 K ad S) rfl (m4_worksOff l D K ad hI S h2) gX4_share_X4_worksOff rfl ⟨rfl, rfl⟩ hd_X4_worksOff ⟨Nat.le_of_ble_eq_true rfl, Nat.le_of_ble_eq_true rfl⟩ hl.1 rfl (Nat.le_of_ble_eq_true rfl) dX4_share_11 ⟨Nat.le_refl _, Nat.le_refl _⟩) (fun H locs hP hS => ?_)
    refine lv_istore_n (lv' := [(1, .int v3), (0, .ref (ad 0))]) hx hb dX4_share_14 rfl hl (by decide) rfl (fun ls hl => ?_)
    refine lv_iload_n hx hb dX4_share_15 rfl (lv_at hl 0 rfl) ?_
    refine lv_istore_n (lv' := [(2, .int v3), (1, .int v3), (0, .ref (ad 0))]) hx hb dX4_share_16 rfl hl (by decide) rfl (fun ls hl => ?_)
    refine lv_iconst (v := 0) hx hb dX4_share_17 (by decide) ?_
    refine lv_istore_n (lv' := [(3, .int 0), (2, .int v3), (1, .int v3), (0, .ref (ad 0))]) hx hb dX4_share_18 rfl hl (by decide) rfl (fun ls hl => ?_)
    refine lv_iconst (v := 0) hx hb dX4_share_19 (by decide) ?_
    refine lv_istore (lv' := [(4, .int 0), (3, .int 0), (2, .int v3), (1, .int v3), (0, .ref (ad 0))]) hx hb dX4_share_20 hl (by decide) rfl (fun ls hl => ?_)
    exact w4_share_b22 hI C0 FU S v3 v3 0 0 hf H locs ls hP hS (lv_sub hl [4, 3, 2, 1, 0] rfl)
  · have hf := ite_t hf c1
    refine lv_bipush (v := (-4)) hx hb dX4_share_7 (by decide) ?_
    exact ret_i C0 hP hS (congrArg Prod.fst (Option.some.inj hf)) (congrArg Prod.snd (Option.some.inj hf)) dX4_share_9
theorem m4_share (l : Launch) (D : va_G) (K : Nat → ClassId) (ad : Nat → Nat) (hI : INJ NM ad) (S : Mem) {r : Int32} {T : Mem} (hf : f4_share S = some (r, T)) : SysI l yX4_share wsX4_share rm4_share D NM ad (EM K ad) (KM D K) [.ref (ad 0)] S r T :=
  met_of (own := RX4) (by decide) rfl rfl (Nat.le_of_ble_eq_true rfl) (fun _ _ s _ _ _ _ ls C0 _ hP hl => w4_share hI C0 S hf s.heap [] ls hP va_S.rf hl)
theorem in_X4_best_X4 : ∀ w ∈ wsX40, w ∈ wsX4_best := fun _ h => List.mem_cons_of_mem _ (List.mem_append_right _ h)
theorem hd_X4_best : yX4_best.cls = RX4 ∧ yX4_best.cls ≠ "java/lang/invoke/MethodHandle" ∧ yX4_best.cls ≠ "java/lang/invoke/VarHandle" ∧ (parseMethodDescriptor yX4_best.desc).map (fun d => d.parameters.length) = some 0 := by decide +kernel
abbrev rm4_best : Room := { frames := 4, cells := 0, slots := 0, locals := 85 }
set_option maxHeartbeats 4000000 in
set_option maxRecDepth 100000 in
theorem w4_best_b73 {p : Program} {l : Launch} {e : Env} {s : State} {m : MethodId} {args : Array Value} {below : List Frame} {meth : Method} {c : Code} {D : va_G} {K : Nat → ClassId} {ad : Nat → Nat} (hI : INJ NM ad) (C0 : Cx p s m args meth c RX4 wsX4_best cX4_best 5 (some .int) (KM D K)) {r : Int32} {T : Mem} (k20 : Mem → Int32 → Int32 → Int32 → Option (Int32 × Mem)) (hk20 : ∀ (S : Mem) (x1 : Int32) (x2 : Int32) (x3 : Int32), k20 S x1 x2 x3 = some (r, T) → ∀ (H : Heap) (locs : List Loc) (ls : Array Slot), va_P D vwCl (wl NM ad (EM K ad S)) H → va_S (IW NM ad) s.heap H locs → lv_has ls 5 [(0, .ref (ad 0)), (1, .int x1), (2, .int x2), (3, .int x3)] → W p l e rm4_best s m args below meth c H locs 0 0 (MQ below (va_Qi (fun (x : Int32) (u : Mem) => x = r ∧ u = T) (fun u t => va_P D vwCl (wl NM ad (EM K ad u)) t.heap) (IW NM ad)) args s 0 0 (IW NM ad)) (F0 m 20 ls [])) : ∀ (S : Mem) (x1 : Int32) (x3 : Int32) (t0 : Int32), f4_best_b73 k20 S x1 x3 t0 = some (r, T) → ∀ (H : Heap) (locs : List Loc) (ls : Array Slot), va_P D vwCl (wl NM ad (EM K ad S)) H → va_S (IW NM ad) s.heap H locs → lv_has ls 5 [(0, .ref (ad 0)), (1, .int x1), (3, .int x3)] → W p l e rm4_best s m args below meth c H locs 0 0 (MQ below (va_Qi (fun (x : Int32) (u : Mem) => x = r ∧ u = T) (fun u t => va_P D vwCl (wl NM ad (EM K ad u)) t.heap) (IW NM ad)) args s 0 0 (IW NM ad)) (F0 m 73 ls [.int t0]) := by
  have hx := C0.1
  have hb := C0.2.1
  have hts := C0.2.2.2.2.1
  have hown := C0.2.2.2.1
  have hKC := C0.2.2.2.2.2.2.2
  intro S x1 x3 t0 hf H locs ls hP hS hl
  rw [f4_best_b73] at hf
  refine lv_istore_n (lv' := [(2, .int t0), (0, .ref (ad 0)), (1, .int x1), (3, .int x3)]) hx hb dX4_best_73 rfl hl (by decide) rfl (fun ls hl => ?_)
  obtain ⟨v1, ev1⟩ : ∃ y : Int32, y = x3 + 1 := ⟨_, rfl⟩
  have hf := nm_at ev1 hf
  refine lv_iinc (v := v1) (lv' := [(3, .int v1), (2, .int t0), (0, .ref (ad 0)), (1, .int x1)]) hx hb dX4_best_74 hl (k := 3) rfl (by rw [ev1]; rfl) (by decide) rfl (fun ls hl => ?_)
  refine lv_goto (tgt := 20) hx hb dX4_best_77 (by decide) ?_
  exact hk20 S x1 t0 v1 hf H locs ls hP hS (lv_sub hl [2, 3, 1, 0] rfl)
set_option maxHeartbeats 4000000 in
set_option maxRecDepth 100000 in
theorem w4_best_b60 {p : Program} {l : Launch} {e : Env} {s : State} {m : MethodId} {args : Array Value} {below : List Frame} {meth : Method} {c : Code} {D : va_G} {K : Nat → ClassId} {ad : Nat → Nat} (hI : INJ NM ad) (C0 : Cx p s m args meth c RX4 wsX4_best cX4_best 5 (some .int) (KM D K)) {r : Int32} {T : Mem} (k20 : Mem → Int32 → Int32 → Int32 → Option (Int32 × Mem)) (hk20 : ∀ (S : Mem) (x1 : Int32) (x2 : Int32) (x3 : Int32), k20 S x1 x2 x3 = some (r, T) → ∀ (H : Heap) (locs : List Loc) (ls : Array Slot), va_P D vwCl (wl NM ad (EM K ad S)) H → va_S (IW NM ad) s.heap H locs → lv_has ls 5 [(0, .ref (ad 0)), (1, .int x1), (2, .int x2), (3, .int x3)] → W p l e rm4_best s m args below meth c H locs 0 0 (MQ below (va_Qi (fun (x : Int32) (u : Mem) => x = r ∧ u = T) (fun u t => va_P D vwCl (wl NM ad (EM K ad u)) t.heap) (IW NM ad)) args s 0 0 (IW NM ad)) (F0 m 20 ls [])) : ∀ (S : Mem) (x2 : Int32) (x3 : Int32) (x4 : Int32) (t0 : Int32), f4_best_b60 k20 S x2 x3 x4 t0 = some (r, T) → ∀ (H : Heap) (locs : List Loc) (ls : Array Slot), va_P D vwCl (wl NM ad (EM K ad S)) H → va_S (IW NM ad) s.heap H locs → lv_has ls 5 [(0, .ref (ad 0)), (2, .int x2), (3, .int x3), (4, .int x4)] → W p l e rm4_best s m args below meth c H locs 0 0 (MQ below (va_Qi (fun (x : Int32) (u : Mem) => x = r ∧ u = T) (fun u t => va_P D vwCl (wl NM ad (EM K ad u)) t.heap) (IW NM ad)) args s 0 0 (IW NM ad)) (F0 m 60 ls [.int t0]) := by
  have hx := C0.1
  have hb := C0.2.1
  have hts := C0.2.2.2.2.1
  have hown := C0.2.2.2.1
  have hKC := C0.2.2.2.2.2.2.2
  intro S x2 x3 x4 t0 hf H locs ls hP hS hl
  rw [f4_best_b60] at hf
  refine lv_istore_n (lv' := [(1, .int t0), (0, .ref (ad 0)), (2, .int x2), (3, .int x3), (4, .int x4)]) hx hb dX4_best_60 rfl hl (by decide) rfl (fun ls hl => ?_)
  refine lv_iload hx hb dX4_best_61 (lv_at hl 4 rfl) ?_
  refine lv_iload_n hx hb dX4_best_63 rfl (lv_at hl 2 rfl) ?_
  refine lv_icmp_le (tgt := 72) hx hb dX4_best_64 (by decide) (fun c1 => ?_) (fun c1 => ?_)
  · have hf := ite_t hf c1
    refine lv_iload_n hx hb dX4_best_72 rfl (lv_at hl 2 rfl) ?_
    exact w4_best_b73 hI C0 k20 hk20 S t0 x3 x2 hf H locs ls hP hS (lv_sub hl [1, 0, 3] rfl)
  · have hf := ite_f hf c1
    refine lv_iload hx hb dX4_best_67 (lv_at hl 4 rfl) ?_
    refine lv_goto (tgt := 73) hx hb dX4_best_69 (by decide) ?_
    exact w4_best_b73 hI C0 k20 hk20 S t0 x3 x4 hf H locs ls hP hS (lv_sub hl [1, 0, 3] rfl)
set_option maxHeartbeats 4000000 in
set_option maxRecDepth 100000 in
theorem w4_best_b20 {p : Program} {l : Launch} {e : Env} {s : State} {m : MethodId} {args : Array Value} {below : List Frame} {meth : Method} {c : Code} {D : va_G} {K : Nat → ClassId} {ad : Nat → Nat} (hI : INJ NM ad) (C0 : Cx p s m args meth c RX4 wsX4_best cX4_best 5 (some .int) (KM D K)) {r : Int32} {T : Mem} : ∀ (n : Nat), ∀ (S : Mem) (x1 : Int32) (x2 : Int32) (x3 : Int32), f4_best_b20 n S x1 x2 x3 = some (r, T) → ∀ (H : Heap) (locs : List Loc) (ls : Array Slot), va_P D vwCl (wl NM ad (EM K ad S)) H → va_S (IW NM ad) s.heap H locs → lv_has ls 5 [(0, .ref (ad 0)), (1, .int x1), (2, .int x2), (3, .int x3)] → W p l e rm4_best s m args below meth c H locs 0 0 (MQ below (va_Qi (fun (x : Int32) (u : Mem) => x = r ∧ u = T) (fun u t => va_P D vwCl (wl NM ad (EM K ad u)) t.heap) (IW NM ad)) args s 0 0 (IW NM ad)) (F0 m 20 ls []) := by
  have hx := C0.1
  have hb := C0.2.1
  have hts := C0.2.2.2.2.1
  have hown := C0.2.2.2.1
  have hKC := C0.2.2.2.2.2.2.2
  intro n
  induction n with
  | zero =>
    intro S x1 x2 x3 hf
    rw [f4_best_b20] at hf
    cases hf
  | succ n ih =>
    intro S x1 x2 x3 hf H locs ls hP hS hl
    rw [f4_best_b20] at hf
    refine lv_iload_n hx hb dX4_best_20 rfl (lv_at hl 3 rfl) ?_
    refine lv_bipush (v := 21) hx hb dX4_best_21 (by decide) ?_
    refine lv_icmp_ge (tgt := 80) hx hb dX4_best_23 (by decide) (fun c1 => ?_) (fun c1 => ?_)
    · have hf := ite_t hf c1
      refine lv_aload_n hx hb dX4_best_80 rfl (lv_at hl 0 rfl) ?_
      refine lv_iload_n hx hb dX4_best_81 rfl (lv_at hl 1 rfl) ?_
      refine lv_iload_n hx hb dX4_best_82 rfl (lv_at hl 2 rfl) ?_
      obtain ⟨v3, S4, h2, hf⟩ := b2_some hf
      refine sys_i hS (sys_runV (As := [.int x1, .int x2]) (rest := []) C0 KM_ok hKC hP hS (by decide) (EM_0 K ad S) rfl (m4_tells l D K ad hI S x1 x2 h2) gX4_best_X4_tells rfl ⟨rfl, rfl⟩ hd_X4_tells ⟨Nat.le_of_ble_eq_true rfl, Nat.le_of_ble_eq_true rfl⟩ hl.1 rfl (Nat.le_of_ble_eq_true rfl) dX4_best_83 ⟨Nat.le_refl _, Nat.le_refl _⟩) (fun H locs hP hS => ?_)
      exact ret_i C0 hP hS (congrArg Prod.fst (Option.some.inj hf)) (congrArg Prod.snd (Option.some.inj hf)) dX4_best_86
    · have hf := ite_f hf c1
      refine lv_aload_n hx hb dX4_best_26 rfl (lv_at hl 0 rfl) ?_
      refine lv_iload_n hx hb dX4_best_27 rfl (lv_at hl 3 rfl) ?_
      obtain ⟨S6, h5, hf⟩ := b1_some hf
      refine sys_v hS (sys_runV (As := [.int x3]) (rest := []) C0 KM_ok hKC hP hS (by decide) (EM_0 K ad S) rfl (m4_goesOn l D K ad hI S x3 h5) gX4_best_X4_goesOn rfl ⟨rfl, rfl⟩ hd_X4_goesOn ⟨Nat.le_of_ble_eq_true rfl, Nat.le_of_ble_eq_true rfl⟩ hl.1 rfl (Nat.le_of_ble_eq_true rfl) dX4_best_28 ⟨Nat.le_refl _, Nat.le_refl _⟩) (fun H locs hP hS => ?_)
      refine lv_aload_n hx hb dX4_best_31 rfl (lv_at hl 0 rfl) ?_
      obtain ⟨v8, S9, h7, hf⟩ := b2_some hf
      refine sys_i hS (sys_runV (As := []) (rest := []) C0 KM_ok hKC hP hS (by decide) (EM_0 K ad S6) rfl (m4_springs l D K ad hI S6 h7) gX4_best_X4_springs rfl ⟨rfl, rfl⟩ hd_X4_springs ⟨Nat.le_of_ble_eq_true rfl, Nat.le_of_ble_eq_true rfl⟩ hl.1 rfl (Nat.le_of_ble_eq_true rfl) dX4_best_32 ⟨Nat.le_refl _, Nat.le_refl _⟩) (fun H locs hP hS => ?_)
      refine lv_pop hx hb dX4_best_35 rfl ?_
      refine lv_aload_n hx hb dX4_best_36 rfl (lv_at hl 0 rfl) ?_
      obtain ⟨v11, h10, hf⟩ := b1_some hf
      refine sys_i hS (sys_runV (As := []) (rest := []) C0 KM_ok hKC hP hS (by decide) (EM_0 K ad S9) rfl (m4_worksOff l D K ad hI S9 h10) gX4_best_X4_worksOff rfl ⟨rfl, rfl⟩ hd_X4_worksOff ⟨Nat.le_of_ble_eq_true rfl, Nat.le_of_ble_eq_true rfl⟩ hl.1 rfl (Nat.le_of_ble_eq_true rfl) dX4_best_37 ⟨Nat.le_refl _, Nat.le_refl _⟩) (fun H locs hP hS => ?_)
      obtain ⟨v13, h12, hf⟩ := b1_some hf
      refine sys_i hS (sys_runS (As := [.int v11]) (rest := []) C0 KM_ok hP hS (m4_many l D K ad hI S9 v11 h12) gX4_best_X4_many rfl ⟨rfl, rfl⟩ hd_X4_many ⟨Nat.le_of_ble_eq_true rfl, Nat.le_of_ble_eq_true rfl⟩ hl.1 rfl (Nat.le_of_ble_eq_true rfl) dX4_best_40 ⟨Nat.le_refl _, Nat.le_refl _⟩) (fun H locs hP hS => ?_)
      refine lv_istore (lv' := [(4, .int v13), (0, .ref (ad 0)), (1, .int x1), (2, .int x2), (3, .int x3)]) hx hb dX4_best_43 hl (by decide) rfl (fun ls hl => ?_)
      refine lv_aload_n hx hb dX4_best_45 rfl (lv_at hl 1 rfl) ?_
      obtain ⟨S15, h14, hf⟩ := b1_some hf
      refine sys_v hS (sys_runV (As := []) (rest := []) C0 KM_ok hKC hP hS (by decide) (EM_0 K ad S9) rfl (m4_backs l D K ad hI S9 h14) gX4_best_X4_backs rfl ⟨rfl, rfl⟩ hd_X4_backs ⟨Nat.le_of_ble_eq_true rfl, Nat.le_of_ble_eq_true rfl⟩ hl.1 rfl (Nat.le_of_ble_eq_true rfl) dX4_best_46 ⟨Nat.le_refl _, Nat.le_refl _⟩) (fun H locs hP hS => ?_)
      refine lv_iload hx hb dX4_best_49 (lv_at hl 0 rfl) ?_
      refine lv_iload_n hx hb dX4_best_51 rfl (lv_at hl 3 rfl) ?_
      refine lv_icmp_le (tgt := 59) hx hb dX4_best_52 (by decide) (fun c16 => ?_) (fun c16 => ?_)
      · have hf := ite_t hf c16
        refine lv_iload_n hx hb dX4_best_59 rfl (lv_at hl 2 rfl) ?_
        exact w4_best_b60 hI C0 (f4_best_b20 n) ih S15 x2 x3 v13 x1 hf H locs ls hP hS (lv_sub hl [1, 3, 4, 0] rfl)
      · have hf := ite_f hf c16
        refine lv_iload_n hx hb dX4_best_55 rfl (lv_at hl 4 rfl) ?_
        refine lv_goto (tgt := 60) hx hb dX4_best_56 (by decide) ?_
        exact w4_best_b60 hI C0 (f4_best_b20 n) ih S15 x2 x3 v13 x3 hf H locs ls hP hS (lv_sub hl [1, 3, 4, 0] rfl)
set_option maxHeartbeats 4000000 in
set_option maxRecDepth 100000 in
theorem w4_best {p : Program} {l : Launch} {e : Env} {s : State} {m : MethodId} {args : Array Value} {below : List Frame} {meth : Method} {c : Code} {D : va_G} {K : Nat → ClassId} {ad : Nat → Nat} (hI : INJ NM ad) (C0 : Cx p s m args meth c RX4 wsX4_best cX4_best 5 (some .int) (KM D K)) {r : Int32} {T : Mem} : ∀ (S : Mem), f4_best S = some (r, T) → ∀ (H : Heap) (locs : List Loc) (ls : Array Slot), va_P D vwCl (wl NM ad (EM K ad S)) H → va_S (IW NM ad) s.heap H locs → lv_has ls 5 [(0, .ref (ad 0))] → W p l e rm4_best s m args below meth c H locs 0 0 (MQ below (va_Qi (fun (x : Int32) (u : Mem) => x = r ∧ u = T) (fun u t => va_P D vwCl (wl NM ad (EM K ad u)) t.heap) (IW NM ad)) args s 0 0 (IW NM ad)) (F0 m 0 ls []) := by
  have hx := C0.1
  have hb := C0.2.1
  have hts := C0.2.2.2.2.1
  have hown := C0.2.2.2.1
  have hKC := C0.2.2.2.2.2.2.2
  intro S hf H locs ls hP hS hl
  rw [f4_best] at hf
  refine lv_aload_n hx hb dX4_best_0 rfl (lv_at hl 0 rfl) ?_
  refine x_get C0 hKC hP (by decide) (EM_0 K ad S) rfl in_X4_best_X4 12 (by decide) (List.mem_of_getElem? (i := 1) rfl) rfl dX4_best_1 ?_
  refine lv_if_ne (tgt := 10) hx hb dX4_best_4 (by decide) (fun c1 => ?_) (fun c1 => ?_)
  · have hf := ite_f hf c1
    refine lv_iconst (v := 0) hx hb dX4_best_10 (by decide) ?_
    refine lv_istore_n (lv' := [(1, .int 0), (0, .ref (ad 0))]) hx hb dX4_best_11 rfl hl (by decide) rfl (fun ls hl => ?_)
    refine lv_iconst (v := (-1)) hx hb dX4_best_12 (by decide) ?_
    refine lv_istore_n (lv' := [(2, .int (-1)), (1, .int 0), (0, .ref (ad 0))]) hx hb dX4_best_13 rfl hl (by decide) rfl (fun ls hl => ?_)
    refine lv_aload_n hx hb dX4_best_14 rfl (lv_at hl 2 rfl) ?_
    obtain ⟨S3, h2, hf⟩ := b1_some hf
    refine sys_v hS (sys_runV (As := []) (rest := []) C0 KM_ok hKC hP hS (by decide) (EM_0 K ad S) rfl (m4_asides l D K ad hI S h2) gX4_best_X4_asides rfl ⟨rfl, rfl⟩ hd_X4_asides ⟨Nat.le_of_ble_eq_true rfl, Nat.le_of_ble_eq_true rfl⟩ hl.1 rfl (Nat.le_of_ble_eq_true rfl) dX4_best_15 ⟨Nat.le_refl _, Nat.le_refl _⟩) (fun H locs hP hS => ?_)
    refine lv_iconst (v := 0) hx hb dX4_best_18 (by decide) ?_
    refine lv_istore_n (lv' := [(3, .int 0), (2, .int (-1)), (1, .int 0), (0, .ref (ad 0))]) hx hb dX4_best_19 rfl hl (by decide) rfl (fun ls hl => ?_)
    exact w4_best_b20 hI C0 FU S3 0 (-1) 0 hf H locs ls hP hS (lv_sub hl [3, 2, 1, 0] rfl)
  · have hf := ite_t hf c1
    refine lv_bipush (v := (-4)) hx hb dX4_best_7 (by decide) ?_
    exact ret_i C0 hP hS (congrArg Prod.fst (Option.some.inj hf)) (congrArg Prod.snd (Option.some.inj hf)) dX4_best_9
theorem m4_best (l : Launch) (D : va_G) (K : Nat → ClassId) (ad : Nat → Nat) (hI : INJ NM ad) (S : Mem) {r : Int32} {T : Mem} (hf : f4_best S = some (r, T)) : SysI l yX4_best wsX4_best rm4_best D NM ad (EM K ad) (KM D K) [.ref (ad 0)] S r T :=
  met_of (own := RX4) (by decide) rfl rfl (Nat.le_of_ble_eq_true rfl) (fun _ _ s _ _ _ _ ls C0 _ hP hl => w4_best hI C0 S hf s.heap [] ls hP va_S.rf hl)
theorem in_X4_lending_X4 : ∀ w ∈ wsX40, w ∈ wsX4_lending := fun _ h => List.mem_cons_of_mem _ (List.mem_append_right _ h)
theorem hd_X4_lending : yX4_lending.cls = RX4 ∧ yX4_lending.cls ≠ "java/lang/invoke/MethodHandle" ∧ yX4_lending.cls ≠ "java/lang/invoke/VarHandle" ∧ (parseMethodDescriptor yX4_lending.desc).map (fun d => d.parameters.length) = some 1 := by decide +kernel
abbrev rm4_lending : Room := { frames := 4, cells := 0, slots := 0, locals := 85 }
set_option maxHeartbeats 4000000 in
set_option maxRecDepth 100000 in
theorem w4_lending_b134 {p : Program} {l : Launch} {e : Env} {s : State} {m : MethodId} {args : Array Value} {below : List Frame} {meth : Method} {c : Code} {D : va_G} {K : Nat → ClassId} {ad : Nat → Nat} (hI : INJ NM ad) (C0 : Cx p s m args meth c RX4 wsX4_lending cX4_lending 7 (some .int) (KM D K)) {r : Int32} {T : Mem} (k42 : Mem → Int32 → Int32 → Int32 → Int32 → Option (Int32 × Mem)) (hk42 : ∀ (S : Mem) (x1 : Int32) (x2 : Int32) (x3 : Int32) (x4 : Int32), k42 S x1 x2 x3 x4 = some (r, T) → ∀ (H : Heap) (locs : List Loc) (ls : Array Slot), va_P D vwCl (wl NM ad (EM K ad S)) H → va_S (IW NM ad) s.heap H locs → lv_has ls 7 [(0, .ref (ad 0)), (1, .int x1), (2, .int x2), (3, .int x3), (4, .int x4)] → W p l e rm4_lending s m args below meth c H locs 0 0 (MQ below (va_Qi (fun (x : Int32) (u : Mem) => x = r ∧ u = T) (fun u t => va_P D vwCl (wl NM ad (EM K ad u)) t.heap) (IW NM ad)) args s 0 0 (IW NM ad)) (F0 m 42 ls [])) (k54 : Mem → Int32 → Int32 → Int32 → Int32 → Int32 → Option (Int32 × Mem)) (hk54 : ∀ (S : Mem) (x1 : Int32) (x2 : Int32) (x3 : Int32) (x4 : Int32) (x5 : Int32), k54 S x1 x2 x3 x4 x5 = some (r, T) → ∀ (H : Heap) (locs : List Loc) (ls : Array Slot), va_P D vwCl (wl NM ad (EM K ad S)) H → va_S (IW NM ad) s.heap H locs → lv_has ls 7 [(0, .ref (ad 0)), (1, .int x1), (2, .int x2), (3, .int x3), (4, .int x4), (5, .int x5)] → W p l e rm4_lending s m args below meth c H locs 0 0 (MQ below (va_Qi (fun (x : Int32) (u : Mem) => x = r ∧ u = T) (fun u t => va_P D vwCl (wl NM ad (EM K ad u)) t.heap) (IW NM ad)) args s 0 0 (IW NM ad)) (F0 m 54 ls [])) : ∀ (S : Mem) (x1 : Int32) (x2 : Int32) (x3 : Int32) (x4 : Int32) (x5 : Int32), f4_lending_b134 k42 k54 S x1 x2 x3 x4 x5 = some (r, T) → ∀ (H : Heap) (locs : List Loc) (ls : Array Slot), va_P D vwCl (wl NM ad (EM K ad S)) H → va_S (IW NM ad) s.heap H locs → lv_has ls 7 [(0, .ref (ad 0)), (1, .int x1), (2, .int x2), (3, .int x3), (4, .int x4), (5, .int x5)] → W p l e rm4_lending s m args below meth c H locs 0 0 (MQ below (va_Qi (fun (x : Int32) (u : Mem) => x = r ∧ u = T) (fun u t => va_P D vwCl (wl NM ad (EM K ad u)) t.heap) (IW NM ad)) args s 0 0 (IW NM ad)) (F0 m 134 ls []) := by
  have hx := C0.1
  have hb := C0.2.1
  have hts := C0.2.2.2.2.1
  have hown := C0.2.2.2.1
  have hKC := C0.2.2.2.2.2.2.2
  intro S x1 x2 x3 x4 x5 hf H locs ls hP hS hl
  rw [f4_lending_b134] at hf
  obtain ⟨v1, ev1⟩ : ∃ y : Int32, y = x5 + 1 := ⟨_, rfl⟩
  have hf := nm_at ev1 hf
  refine lv_iinc (v := v1) (lv' := [(5, .int v1), (0, .ref (ad 0)), (1, .int x1), (2, .int x2), (3, .int x3), (4, .int x4)]) hx hb dX4_lending_134 hl (k := 5) rfl (by rw [ev1]; rfl) (by decide) rfl (fun ls hl => ?_)
  refine lv_goto (tgt := 54) hx hb dX4_lending_137 (by decide) ?_
  exact hk54 S x1 x2 x3 x4 v1 hf H locs ls hP hS (lv_sub hl [1, 2, 3, 4, 5, 0] rfl)
set_option maxHeartbeats 4000000 in
set_option maxRecDepth 100000 in
theorem w4_lending_b133 {p : Program} {l : Launch} {e : Env} {s : State} {m : MethodId} {args : Array Value} {below : List Frame} {meth : Method} {c : Code} {D : va_G} {K : Nat → ClassId} {ad : Nat → Nat} (hI : INJ NM ad) (C0 : Cx p s m args meth c RX4 wsX4_lending cX4_lending 7 (some .int) (KM D K)) {r : Int32} {T : Mem} (k42 : Mem → Int32 → Int32 → Int32 → Int32 → Option (Int32 × Mem)) (hk42 : ∀ (S : Mem) (x1 : Int32) (x2 : Int32) (x3 : Int32) (x4 : Int32), k42 S x1 x2 x3 x4 = some (r, T) → ∀ (H : Heap) (locs : List Loc) (ls : Array Slot), va_P D vwCl (wl NM ad (EM K ad S)) H → va_S (IW NM ad) s.heap H locs → lv_has ls 7 [(0, .ref (ad 0)), (1, .int x1), (2, .int x2), (3, .int x3), (4, .int x4)] → W p l e rm4_lending s m args below meth c H locs 0 0 (MQ below (va_Qi (fun (x : Int32) (u : Mem) => x = r ∧ u = T) (fun u t => va_P D vwCl (wl NM ad (EM K ad u)) t.heap) (IW NM ad)) args s 0 0 (IW NM ad)) (F0 m 42 ls [])) (k54 : Mem → Int32 → Int32 → Int32 → Int32 → Int32 → Option (Int32 × Mem)) (hk54 : ∀ (S : Mem) (x1 : Int32) (x2 : Int32) (x3 : Int32) (x4 : Int32) (x5 : Int32), k54 S x1 x2 x3 x4 x5 = some (r, T) → ∀ (H : Heap) (locs : List Loc) (ls : Array Slot), va_P D vwCl (wl NM ad (EM K ad S)) H → va_S (IW NM ad) s.heap H locs → lv_has ls 7 [(0, .ref (ad 0)), (1, .int x1), (2, .int x2), (3, .int x3), (4, .int x4), (5, .int x5)] → W p l e rm4_lending s m args below meth c H locs 0 0 (MQ below (va_Qi (fun (x : Int32) (u : Mem) => x = r ∧ u = T) (fun u t => va_P D vwCl (wl NM ad (EM K ad u)) t.heap) (IW NM ad)) args s 0 0 (IW NM ad)) (F0 m 54 ls [])) : ∀ (S : Mem) (x1 : Int32) (x2 : Int32) (x4 : Int32) (x5 : Int32) (t0 : Int32), f4_lending_b133 k42 k54 S x1 x2 x4 x5 t0 = some (r, T) → ∀ (H : Heap) (locs : List Loc) (ls : Array Slot), va_P D vwCl (wl NM ad (EM K ad S)) H → va_S (IW NM ad) s.heap H locs → lv_has ls 7 [(0, .ref (ad 0)), (1, .int x1), (2, .int x2), (4, .int x4), (5, .int x5)] → W p l e rm4_lending s m args below meth c H locs 0 0 (MQ below (va_Qi (fun (x : Int32) (u : Mem) => x = r ∧ u = T) (fun u t => va_P D vwCl (wl NM ad (EM K ad u)) t.heap) (IW NM ad)) args s 0 0 (IW NM ad)) (F0 m 133 ls [.int t0]) := by
  have hx := C0.1
  have hb := C0.2.1
  have hts := C0.2.2.2.2.1
  have hown := C0.2.2.2.1
  have hKC := C0.2.2.2.2.2.2.2
  intro S x1 x2 x4 x5 t0 hf H locs ls hP hS hl
  rw [f4_lending_b133] at hf
  refine lv_istore_n (lv' := [(3, .int t0), (0, .ref (ad 0)), (1, .int x1), (2, .int x2), (4, .int x4), (5, .int x5)]) hx hb dX4_lending_133 rfl hl (by decide) rfl (fun ls hl => ?_)
  exact w4_lending_b134 hI C0 k42 hk42 k54 hk54 S x1 x2 t0 x4 x5 hf H locs ls hP hS (lv_sub hl [1, 2, 3, 0, 4, 5] rfl)
set_option maxHeartbeats 4000000 in
set_option maxRecDepth 100000 in
theorem w4_lending_b120 {p : Program} {l : Launch} {e : Env} {s : State} {m : MethodId} {args : Array Value} {below : List Frame} {meth : Method} {c : Code} {D : va_G} {K : Nat → ClassId} {ad : Nat → Nat} (hI : INJ NM ad) (C0 : Cx p s m args meth c RX4 wsX4_lending cX4_lending 7 (some .int) (KM D K)) {r : Int32} {T : Mem} (k42 : Mem → Int32 → Int32 → Int32 → Int32 → Option (Int32 × Mem)) (hk42 : ∀ (S : Mem) (x1 : Int32) (x2 : Int32) (x3 : Int32) (x4 : Int32), k42 S x1 x2 x3 x4 = some (r, T) → ∀ (H : Heap) (locs : List Loc) (ls : Array Slot), va_P D vwCl (wl NM ad (EM K ad S)) H → va_S (IW NM ad) s.heap H locs → lv_has ls 7 [(0, .ref (ad 0)), (1, .int x1), (2, .int x2), (3, .int x3), (4, .int x4)] → W p l e rm4_lending s m args below meth c H locs 0 0 (MQ below (va_Qi (fun (x : Int32) (u : Mem) => x = r ∧ u = T) (fun u t => va_P D vwCl (wl NM ad (EM K ad u)) t.heap) (IW NM ad)) args s 0 0 (IW NM ad)) (F0 m 42 ls [])) (k54 : Mem → Int32 → Int32 → Int32 → Int32 → Int32 → Option (Int32 × Mem)) (hk54 : ∀ (S : Mem) (x1 : Int32) (x2 : Int32) (x3 : Int32) (x4 : Int32) (x5 : Int32), k54 S x1 x2 x3 x4 x5 = some (r, T) → ∀ (H : Heap) (locs : List Loc) (ls : Array Slot), va_P D vwCl (wl NM ad (EM K ad S)) H → va_S (IW NM ad) s.heap H locs → lv_has ls 7 [(0, .ref (ad 0)), (1, .int x1), (2, .int x2), (3, .int x3), (4, .int x4), (5, .int x5)] → W p l e rm4_lending s m args below meth c H locs 0 0 (MQ below (va_Qi (fun (x : Int32) (u : Mem) => x = r ∧ u = T) (fun u t => va_P D vwCl (wl NM ad (EM K ad u)) t.heap) (IW NM ad)) args s 0 0 (IW NM ad)) (F0 m 54 ls [])) : ∀ (S : Mem) (x1 : Int32) (x3 : Int32) (x4 : Int32) (x5 : Int32) (x6 : Int32) (t0 : Int32), f4_lending_b120 k42 k54 S x1 x3 x4 x5 x6 t0 = some (r, T) → ∀ (H : Heap) (locs : List Loc) (ls : Array Slot), va_P D vwCl (wl NM ad (EM K ad S)) H → va_S (IW NM ad) s.heap H locs → lv_has ls 7 [(0, .ref (ad 0)), (1, .int x1), (3, .int x3), (4, .int x4), (5, .int x5), (6, .int x6)] → W p l e rm4_lending s m args below meth c H locs 0 0 (MQ below (va_Qi (fun (x : Int32) (u : Mem) => x = r ∧ u = T) (fun u t => va_P D vwCl (wl NM ad (EM K ad u)) t.heap) (IW NM ad)) args s 0 0 (IW NM ad)) (F0 m 120 ls [.int t0]) := by
  have hx := C0.1
  have hb := C0.2.1
  have hts := C0.2.2.2.2.1
  have hown := C0.2.2.2.1
  have hKC := C0.2.2.2.2.2.2.2
  intro S x1 x3 x4 x5 x6 t0 hf H locs ls hP hS hl
  rw [f4_lending_b120] at hf
  refine lv_istore_n (lv' := [(2, .int t0), (0, .ref (ad 0)), (1, .int x1), (3, .int x3), (4, .int x4), (5, .int x5), (6, .int x6)]) hx hb dX4_lending_120 rfl hl (by decide) rfl (fun ls hl => ?_)
  refine lv_iload hx hb dX4_lending_121 (lv_at hl 6 rfl) ?_
  refine lv_iload_n hx hb dX4_lending_123 rfl (lv_at hl 3 rfl) ?_
  refine lv_icmp_le (tgt := 132) hx hb dX4_lending_124 (by decide) (fun c1 => ?_) (fun c1 => ?_)
  · have hf := ite_t hf c1
    refine lv_iload_n hx hb dX4_lending_132 rfl (lv_at hl 3 rfl) ?_
    exact w4_lending_b133 hI C0 k42 hk42 k54 hk54 S x1 t0 x4 x5 x3 hf H locs ls hP hS (lv_sub hl [1, 2, 0, 4, 5] rfl)
  · have hf := ite_f hf c1
    refine lv_iload hx hb dX4_lending_127 (lv_at hl 6 rfl) ?_
    refine lv_goto (tgt := 133) hx hb dX4_lending_129 (by decide) ?_
    exact w4_lending_b133 hI C0 k42 hk42 k54 hk54 S x1 t0 x4 x5 x6 hf H locs ls hP hS (lv_sub hl [1, 2, 0, 4, 5] rfl)
set_option maxHeartbeats 4000000 in
set_option maxRecDepth 100000 in
theorem w4_lending_b54 {p : Program} {l : Launch} {e : Env} {s : State} {m : MethodId} {args : Array Value} {below : List Frame} {meth : Method} {c : Code} {D : va_G} {K : Nat → ClassId} {ad : Nat → Nat} (hI : INJ NM ad) (C0 : Cx p s m args meth c RX4 wsX4_lending cX4_lending 7 (some .int) (KM D K)) {r : Int32} {T : Mem} (k42 : Mem → Int32 → Int32 → Int32 → Int32 → Option (Int32 × Mem)) (hk42 : ∀ (S : Mem) (x1 : Int32) (x2 : Int32) (x3 : Int32) (x4 : Int32), k42 S x1 x2 x3 x4 = some (r, T) → ∀ (H : Heap) (locs : List Loc) (ls : Array Slot), va_P D vwCl (wl NM ad (EM K ad S)) H → va_S (IW NM ad) s.heap H locs → lv_has ls 7 [(0, .ref (ad 0)), (1, .int x1), (2, .int x2), (3, .int x3), (4, .int x4)] → W p l e rm4_lending s m args below meth c H locs 0 0 (MQ below (va_Qi (fun (x : Int32) (u : Mem) => x = r ∧ u = T) (fun u t => va_P D vwCl (wl NM ad (EM K ad u)) t.heap) (IW NM ad)) args s 0 0 (IW NM ad)) (F0 m 42 ls [])) : ∀ (n : Nat), ∀ (S : Mem) (x1 : Int32) (x2 : Int32) (x3 : Int32) (x4 : Int32) (x5 : Int32), f4_lending_b54 k42 n S x1 x2 x3 x4 x5 = some (r, T) → ∀ (H : Heap) (locs : List Loc) (ls : Array Slot), va_P D vwCl (wl NM ad (EM K ad S)) H → va_S (IW NM ad) s.heap H locs → lv_has ls 7 [(0, .ref (ad 0)), (1, .int x1), (2, .int x2), (3, .int x3), (4, .int x4), (5, .int x5)] → W p l e rm4_lending s m args below meth c H locs 0 0 (MQ below (va_Qi (fun (x : Int32) (u : Mem) => x = r ∧ u = T) (fun u t => va_P D vwCl (wl NM ad (EM K ad u)) t.heap) (IW NM ad)) args s 0 0 (IW NM ad)) (F0 m 54 ls []) := by
  have hx := C0.1
  have hb := C0.2.1
  have hts := C0.2.2.2.2.1
  have hown := C0.2.2.2.1
  have hKC := C0.2.2.2.2.2.2.2
  intro n
  induction n with
  | zero =>
    intro S x1 x2 x3 x4 x5 hf
    rw [f4_lending_b54] at hf
    cases hf
  | succ n ih =>
    intro S x1 x2 x3 x4 x5 hf H locs ls hP hS hl
    rw [f4_lending_b54] at hf
    refine lv_iload hx hb dX4_lending_54 (lv_at hl 5 rfl) ?_
    refine lv_aload_n hx hb dX4_lending_56 rfl (lv_at hl 0 rfl) ?_
    refine x_get C0 hKC hP (by decide) (EM_0 K ad S) rfl in_X4_lending_X4 12 (by decide) (List.mem_of_getElem? (i := 2) rfl) rfl dX4_lending_57 ?_
    refine lv_icmp_ge (tgt := 140) hx hb dX4_lending_60 (by decide) (fun c1 => ?_) (fun c1 => ?_)
    · have hf := ite_t hf c1
      obtain ⟨v2, ev2⟩ : ∃ y : Int32, y = x4 + 1 := ⟨_, rfl⟩
      have hf := nm_at ev2 hf
      refine lv_iinc (v := v2) (lv' := [(4, .int v2), (0, .ref (ad 0)), (1, .int x1), (2, .int x2), (3, .int x3), (5, .int x5)]) hx hb dX4_lending_140 hl (k := 4) rfl (by rw [ev2]; rfl) (by decide) rfl (fun ls hl => ?_)
      refine lv_goto (tgt := 42) hx hb dX4_lending_143 (by decide) ?_
      exact hk42 S x1 x2 x3 v2 hf H locs ls hP hS (lv_sub hl [1, 2, 3, 4, 0] rfl)
    · have hf := ite_f hf c1
      refine lv_iload hx hb dX4_lending_63 (lv_at hl 4 rfl) ?_
      refine lv_iload hx hb dX4_lending_65 (lv_at hl 5 rfl) ?_
      refine lv_icmp_eq (tgt := 134) hx hb dX4_lending_67 (by decide) (fun c3 => ?_) (fun c3 => ?_)
      · have hf := ite_t hf c3
        exact w4_lending_b134 hI C0 k42 hk42 (f4_lending_b54 k42 n) ih S x1 x2 x3 x4 x5 hf H locs ls hP hS (lv_sub hl [0, 1, 2, 3, 4, 5] rfl)
      · have hf := ite_f hf c3
        refine lv_aload_n hx hb dX4_lending_70 rfl (lv_at hl 0 rfl) ?_
        refine lv_iload hx hb dX4_lending_71 (lv_at hl 4 rfl) ?_
        obtain ⟨v5, h4, hf⟩ := b1_some hf
        refine sys_i hS (sys_runV (As := [.int x4]) (rest := []) C0 KM_ok hKC hP hS (by decide) (EM_0 K ad S) rfl (m4_jar l D K ad hI S x4 h4) gX4_lending_X4_jar rfl ⟨rfl, rfl⟩ hd_X4_jar ⟨Nat.le_of_ble_eq_true rfl, Nat.le_of_ble_eq_true rfl⟩ hl.1 rfl (Nat.le_of_ble_eq_true rfl) dX4_lending_73 ⟨Nat.le_refl _, Nat.le_refl _⟩) (fun H locs hP hS => ?_)
        refine lv_iload_n hx hb dX4_lending_76 rfl (lv_at hl 1 rfl) ?_
        refine lv_icmp_lt (tgt := 134) hx hb dX4_lending_77 (by decide) (fun c6 => ?_) (fun c6 => ?_)
        · have hf := ite_t hf c6
          exact w4_lending_b134 hI C0 k42 hk42 (f4_lending_b54 k42 n) ih S x1 x2 x3 x4 x5 hf H locs ls hP hS (lv_sub hl [0, 1, 2, 3, 4, 5] rfl)
        · have hf := ite_f hf c6
          refine lv_aload_n hx hb dX4_lending_80 rfl (lv_at hl 0 rfl) ?_
          refine lv_iload hx hb dX4_lending_81 (lv_at hl 4 rfl) ?_
          refine lv_iload hx hb dX4_lending_83 (lv_at hl 5 rfl) ?_
          refine lv_iload_n hx hb dX4_lending_85 rfl (lv_at hl 1 rfl) ?_
          obtain ⟨S8, h7, hf⟩ := b1_some hf
          refine sys_v hS (sys_runV (As := [.int x4, .int x5, .int x1]) (rest := []) C0 KM_ok hKC hP hS (by decide) (EM_0 K ad S) rfl (m4_lends l D K ad hI S x4 x5 x1 h7) gX4_lending_X4_lends rfl ⟨rfl, rfl⟩ hd_X4_lends ⟨Nat.le_of_ble_eq_true rfl, Nat.le_of_ble_eq_true rfl⟩ hl.1 rfl (Nat.le_of_ble_eq_true rfl) dX4_lending_86 ⟨Nat.le_refl _, Nat.le_refl _⟩) (fun H locs hP hS => ?_)
          refine lv_aload_n hx hb dX4_lending_89 rfl (lv_at hl 0 rfl) ?_
          obtain ⟨v10, h9, hf⟩ := b1_some hf
          refine sys_i hS (sys_runV (As := []) (rest := []) C0 KM_ok hKC hP hS (by decide) (EM_0 K ad S8) rfl (m4_worksOff l D K ad hI S8 h9) gX4_lending_X4_worksOff rfl ⟨rfl, rfl⟩ hd_X4_worksOff ⟨Nat.le_of_ble_eq_true rfl, Nat.le_of_ble_eq_true rfl⟩ hl.1 rfl (Nat.le_of_ble_eq_true rfl) dX4_lending_90 ⟨Nat.le_refl _, Nat.le_refl _⟩) (fun H locs hP hS => ?_)
          obtain ⟨v12, h11, hf⟩ := b1_some hf
          refine sys_i hS (sys_runS (As := [.int v10]) (rest := []) C0 KM_ok hP hS (m4_many l D K ad hI S8 v10 h11) gX4_lending_X4_many rfl ⟨rfl, rfl⟩ hd_X4_many ⟨Nat.le_of_ble_eq_true rfl, Nat.le_of_ble_eq_true rfl⟩ hl.1 rfl (Nat.le_of_ble_eq_true rfl) dX4_lending_93 ⟨Nat.le_refl _, Nat.le_refl _⟩) (fun H locs hP hS => ?_)
          refine lv_istore (lv' := [(6, .int v12), (0, .ref (ad 0)), (1, .int x1), (2, .int x2), (3, .int x3), (4, .int x4), (5, .int x5)]) hx hb dX4_lending_96 hl (by decide) rfl (fun ls hl => ?_)
          refine lv_aload_n hx hb dX4_lending_98 rfl (lv_at hl 1 rfl) ?_
          obtain ⟨S14, h13, hf⟩ := b1_some hf
          refine sys_v hS (sys_runV (As := []) (rest := []) C0 KM_ok hKC hP hS (by decide) (EM_0 K ad S8) rfl (m4_backs l D K ad hI S8 h13) gX4_lending_X4_backs rfl ⟨rfl, rfl⟩ hd_X4_backs ⟨Nat.le_of_ble_eq_true rfl, Nat.le_of_ble_eq_true rfl⟩ hl.1 rfl (Nat.le_of_ble_eq_true rfl) dX4_lending_99 ⟨Nat.le_refl _, Nat.le_refl _⟩) (fun H locs hP hS => ?_)
          refine lv_iload hx hb dX4_lending_102 (lv_at hl 0 rfl) ?_
          refine lv_iload_n hx hb dX4_lending_104 rfl (lv_at hl 4 rfl) ?_
          refine lv_icmp_le (tgt := 119) hx hb dX4_lending_105 (by decide) (fun c15 => ?_) (fun c15 => ?_)
          · have hf := ite_t hf c15
            refine lv_iload_n hx hb dX4_lending_119 rfl (lv_at hl 3 rfl) ?_
            exact w4_lending_b120 hI C0 k42 hk42 (f4_lending_b54 k42 n) ih S14 x1 x3 x4 x5 v12 x2 hf H locs ls hP hS (lv_sub hl [1, 2, 4, 5, 6, 0] rfl)
          · have hf := ite_f hf c15
            refine lv_bipush (v := 10) hx hb dX4_lending_108 (by decide) ?_
            refine lv_iload hx hb dX4_lending_110 (lv_at hl 5 rfl) ?_
            refine lv_imul hx hb dX4_lending_112 ?_
            refine lv_iload hx hb dX4_lending_113 (lv_at hl 6 rfl) ?_
            refine lv_iadd hx hb dX4_lending_115 ?_
            refine lv_goto (tgt := 120) hx hb dX4_lending_116 (by decide) ?_
            exact w4_lending_b120 hI C0 k42 hk42 (f4_lending_b54 k42 n) ih S14 x1 x3 x4 x5 v12 ((10 * x4) + x5) hf H locs ls hP hS (lv_sub hl [1, 2, 4, 5, 6, 0] rfl)
set_option maxHeartbeats 4000000 in
set_option maxRecDepth 100000 in
theorem w4_lending_b42 {p : Program} {l : Launch} {e : Env} {s : State} {m : MethodId} {args : Array Value} {below : List Frame} {meth : Method} {c : Code} {D : va_G} {K : Nat → ClassId} {ad : Nat → Nat} (hI : INJ NM ad) (C0 : Cx p s m args meth c RX4 wsX4_lending cX4_lending 7 (some .int) (KM D K)) {r : Int32} {T : Mem} : ∀ (n : Nat), ∀ (S : Mem) (x1 : Int32) (x2 : Int32) (x3 : Int32) (x4 : Int32), f4_lending_b42 n S x1 x2 x3 x4 = some (r, T) → ∀ (H : Heap) (locs : List Loc) (ls : Array Slot), va_P D vwCl (wl NM ad (EM K ad S)) H → va_S (IW NM ad) s.heap H locs → lv_has ls 7 [(0, .ref (ad 0)), (1, .int x1), (2, .int x2), (3, .int x3), (4, .int x4)] → W p l e rm4_lending s m args below meth c H locs 0 0 (MQ below (va_Qi (fun (x : Int32) (u : Mem) => x = r ∧ u = T) (fun u t => va_P D vwCl (wl NM ad (EM K ad u)) t.heap) (IW NM ad)) args s 0 0 (IW NM ad)) (F0 m 42 ls []) := by
  have hx := C0.1
  have hb := C0.2.1
  have hts := C0.2.2.2.2.1
  have hown := C0.2.2.2.1
  have hKC := C0.2.2.2.2.2.2.2
  intro n
  induction n with
  | zero =>
    intro S x1 x2 x3 x4 hf
    rw [f4_lending_b42] at hf
    cases hf
  | succ n ih =>
    intro S x1 x2 x3 x4 hf H locs ls hP hS hl
    rw [f4_lending_b42] at hf
    refine lv_iload hx hb dX4_lending_42 (lv_at hl 4 rfl) ?_
    refine lv_aload_n hx hb dX4_lending_44 rfl (lv_at hl 0 rfl) ?_
    refine x_get C0 hKC hP (by decide) (EM_0 K ad S) rfl in_X4_lending_X4 12 (by decide) (List.mem_of_getElem? (i := 2) rfl) rfl dX4_lending_45 ?_
    refine lv_icmp_ge (tgt := 146) hx hb dX4_lending_48 (by decide) (fun c1 => ?_) (fun c1 => ?_)
    · have hf := ite_t hf c1
      refine lv_iload_n hx hb dX4_lending_146 rfl (lv_at hl 2 rfl) ?_
      refine lv_bipush (v := (-9)) hx hb dX4_lending_147 (by decide) ?_
      refine lv_icmp_ne (tgt := 157) hx hb dX4_lending_149 (by decide) (fun c2 => ?_) (fun c2 => ?_)
      · have hf := ite_f hf c2
        refine lv_aload_n hx hb dX4_lending_157 rfl (lv_at hl 0 rfl) ?_
        refine lv_iload_n hx hb dX4_lending_158 rfl (lv_at hl 2 rfl) ?_
        refine lv_iload_n hx hb dX4_lending_159 rfl (lv_at hl 3 rfl) ?_
        obtain ⟨v4, S5, h3, hf⟩ := b2_some hf
        refine sys_i hS (sys_runV (As := [.int x2, .int x3]) (rest := []) C0 KM_ok hKC hP hS (by decide) (EM_0 K ad S) rfl (m4_tells l D K ad hI S x2 x3 h3) gX4_lending_X4_tells rfl ⟨rfl, rfl⟩ hd_X4_tells ⟨Nat.le_of_ble_eq_true rfl, Nat.le_of_ble_eq_true rfl⟩ hl.1 rfl (Nat.le_of_ble_eq_true rfl) dX4_lending_160 ⟨Nat.le_refl _, Nat.le_refl _⟩) (fun H locs hP hS => ?_)
        exact ret_i C0 hP hS (congrArg Prod.fst (Option.some.inj hf)) (congrArg Prod.snd (Option.some.inj hf)) dX4_lending_163
      · have hf := ite_t hf c2
        refine lv_bipush (v := (-9)) hx hb dX4_lending_152 (by decide) ?_
        refine lv_goto (tgt := 163) hx hb dX4_lending_154 (by decide) ?_
        exact ret_i C0 hP hS (congrArg Prod.fst (Option.some.inj hf)) (congrArg Prod.snd (Option.some.inj hf)) dX4_lending_163
    · have hf := ite_f hf c1
      refine lv_iconst (v := 0) hx hb dX4_lending_51 (by decide) ?_
      refine lv_istore (lv' := [(5, .int 0), (0, .ref (ad 0)), (1, .int x1), (2, .int x2), (3, .int x3), (4, .int x4)]) hx hb dX4_lending_52 hl (by decide) rfl (fun ls hl => ?_)
      exact w4_lending_b54 hI C0 (f4_lending_b42 n) ih FU S x1 x2 x3 x4 0 hf H locs ls hP hS (lv_sub hl [1, 2, 3, 4, 5, 0] rfl)
set_option maxHeartbeats 4000000 in
set_option maxRecDepth 100000 in
theorem w4_lending {p : Program} {l : Launch} {e : Env} {s : State} {m : MethodId} {args : Array Value} {below : List Frame} {meth : Method} {c : Code} {D : va_G} {K : Nat → ClassId} {ad : Nat → Nat} (hI : INJ NM ad) (C0 : Cx p s m args meth c RX4 wsX4_lending cX4_lending 7 (some .int) (KM D K)) {r : Int32} {T : Mem} : ∀ (S : Mem) (x1 : Int32), f4_lending S x1 = some (r, T) → ∀ (H : Heap) (locs : List Loc) (ls : Array Slot), va_P D vwCl (wl NM ad (EM K ad S)) H → va_S (IW NM ad) s.heap H locs → lv_has ls 7 [(0, .ref (ad 0)), (1, .int x1)] → W p l e rm4_lending s m args below meth c H locs 0 0 (MQ below (va_Qi (fun (x : Int32) (u : Mem) => x = r ∧ u = T) (fun u t => va_P D vwCl (wl NM ad (EM K ad u)) t.heap) (IW NM ad)) args s 0 0 (IW NM ad)) (F0 m 0 ls []) := by
  have hx := C0.1
  have hb := C0.2.1
  have hts := C0.2.2.2.2.1
  have hown := C0.2.2.2.1
  have hKC := C0.2.2.2.2.2.2.2
  intro S x1 hf H locs ls hP hS hl
  rw [f4_lending] at hf
  refine lv_iload_n hx hb dX4_lending_0 rfl (lv_at hl 1 rfl) ?_
  refine lv_i2l (v := (Int32.toInt64 x1)) hx hb dX4_lending_1 rfl ?_
  refine lv_lconst (v := 1) hx hb dX4_lending_2 (by decide) ?_
  refine lv_ldc2 (v := 99) hx hb hown (hts _ (List.mem_of_getElem? (i := 1) rfl)) dX4_lending_3 ?_
  obtain ⟨v2, h1, hf⟩ := b1_some hf
  refine sys_i hS (sys_runS (As := [.long (Int32.toInt64 x1), .long 1, .long 99]) (rest := []) C0 KM_ok hP hS (m4_in l D K ad hI S (Int32.toInt64 x1) 1 99 h1) gX4_lending_X4_in rfl ⟨rfl, rfl⟩ hd_X4_in ⟨Nat.le_of_ble_eq_true rfl, Nat.le_of_ble_eq_true rfl⟩ hl.1 rfl (Nat.le_of_ble_eq_true rfl) dX4_lending_6 ⟨Nat.le_refl _, Nat.le_refl _⟩) (fun H locs hP hS => ?_)
  refine lv_if_ne (tgt := 14) hx hb dX4_lending_9 (by decide) (fun c3 => ?_) (fun c3 => ?_)
  · have hf := ite_f hf c3
    refine lv_aload_n hx hb dX4_lending_14 rfl (lv_at hl 0 rfl) ?_
    refine x_get C0 hKC hP (by decide) (EM_0 K ad S) rfl in_X4_lending_X4 12 (by decide) (List.mem_of_getElem? (i := 2) rfl) rfl dX4_lending_15 ?_
    refine lv_if_ne (tgt := 24) hx hb dX4_lending_18 (by decide) (fun c4 => ?_) (fun c4 => ?_)
    · have hf := ite_f hf c4
      refine lv_bipush (v := (-9)) hx hb dX4_lending_24 (by decide) ?_
      refine lv_istore_n (lv' := [(2, .int (-9)), (0, .ref (ad 0)), (1, .int x1)]) hx hb dX4_lending_26 rfl hl (by decide) rfl (fun ls hl => ?_)
      refine lv_aload_n hx hb dX4_lending_27 rfl (lv_at hl 1 rfl) ?_
      obtain ⟨v6, h5, hf⟩ := b1_some hf
      refine sys_i hS (sys_runV (As := []) (rest := []) C0 KM_ok hKC hP hS (by decide) (EM_0 K ad S) rfl (m4_worksOff l D K ad hI S h5) gX4_lending_X4_worksOff rfl ⟨rfl, rfl⟩ hd_X4_worksOff ⟨Nat.le_of_ble_eq_true rfl, Nat.le_of_ble_eq_true rfl⟩ hl.1 rfl (Nat.le_of_ble_eq_true rfl) dX4_lending_28 ⟨Nat.le_refl _, Nat.le_refl _⟩) (fun H locs hP hS => ?_)
      obtain ⟨v8, h7, hf⟩ := b1_some hf
      refine sys_i hS (sys_runS (As := [.int v6]) (rest := []) C0 KM_ok hP hS (m4_many l D K ad hI S v6 h7) gX4_lending_X4_many rfl ⟨rfl, rfl⟩ hd_X4_many ⟨Nat.le_of_ble_eq_true rfl, Nat.le_of_ble_eq_true rfl⟩ hl.1 rfl (Nat.le_of_ble_eq_true rfl) dX4_lending_31 ⟨Nat.le_refl _, Nat.le_refl _⟩) (fun H locs hP hS => ?_)
      refine lv_istore_n (lv' := [(3, .int v8), (2, .int (-9)), (0, .ref (ad 0)), (1, .int x1)]) hx hb dX4_lending_34 rfl hl (by decide) rfl (fun ls hl => ?_)
      refine lv_aload_n hx hb dX4_lending_35 rfl (lv_at hl 2 rfl) ?_
      obtain ⟨S10, h9, hf⟩ := b1_some hf
      refine sys_v hS (sys_runV (As := []) (rest := []) C0 KM_ok hKC hP hS (by decide) (EM_0 K ad S) rfl (m4_asides l D K ad hI S h9) gX4_lending_X4_asides rfl ⟨rfl, rfl⟩ hd_X4_asides ⟨Nat.le_of_ble_eq_true rfl, Nat.le_of_ble_eq_true rfl⟩ hl.1 rfl (Nat.le_of_ble_eq_true rfl) dX4_lending_36 ⟨Nat.le_refl _, Nat.le_refl _⟩) (fun H locs hP hS => ?_)
      refine lv_iconst (v := 0) hx hb dX4_lending_39 (by decide) ?_
      refine lv_istore (lv' := [(4, .int 0), (3, .int v8), (2, .int (-9)), (0, .ref (ad 0)), (1, .int x1)]) hx hb dX4_lending_40 hl (by decide) rfl (fun ls hl => ?_)
      exact w4_lending_b42 hI C0 FU S10 x1 (-9) v8 0 hf H locs ls hP hS (lv_sub hl [3, 4, 2, 1, 0] rfl)
    · have hf := ite_t hf c4
      refine lv_bipush (v := (-4)) hx hb dX4_lending_21 (by decide) ?_
      exact ret_i C0 hP hS (congrArg Prod.fst (Option.some.inj hf)) (congrArg Prod.snd (Option.some.inj hf)) dX4_lending_23
  · have hf := ite_t hf c3
    refine lv_iconst (v := (-1)) hx hb dX4_lending_12 (by decide) ?_
    exact ret_i C0 hP hS (congrArg Prod.fst (Option.some.inj hf)) (congrArg Prod.snd (Option.some.inj hf)) dX4_lending_13
theorem m4_lending (l : Launch) (D : va_G) (K : Nat → ClassId) (ad : Nat → Nat) (hI : INJ NM ad) (S : Mem) (x1 : Int32) {r : Int32} {T : Mem} (hf : f4_lending S x1 = some (r, T)) : SysI l yX4_lending wsX4_lending rm4_lending D NM ad (EM K ad) (KM D K) [.ref (ad 0), .int x1] S r T :=
  met_of (own := RX4) (by decide) rfl rfl (Nat.le_of_ble_eq_true rfl) (fun _ _ s _ _ _ _ ls C0 _ hP hl => w4_lending hI C0 S x1 hf s.heap [] ls hP va_S.rf hl)
theorem in_X4_greedy_X4 : ∀ w ∈ wsX40, w ∈ wsX4_greedy := fun _ h => List.mem_cons_of_mem _ (List.mem_append_right _ h)
theorem hd_X4_greedy : yX4_greedy.cls = RX4 ∧ yX4_greedy.cls ≠ "java/lang/invoke/MethodHandle" ∧ yX4_greedy.cls ≠ "java/lang/invoke/VarHandle" ∧ (parseMethodDescriptor yX4_greedy.desc).map (fun d => d.parameters.length) = some 1 := by decide +kernel
abbrev rm4_greedy : Room := { frames := 2, cells := 0, slots := 0, locals := 43 }
set_option maxHeartbeats 4000000 in
set_option maxRecDepth 100000 in
theorem w4_greedy_b128 {p : Program} {l : Launch} {e : Env} {s : State} {m : MethodId} {args : Array Value} {below : List Frame} {meth : Method} {c : Code} {D : va_G} {K : Nat → ClassId} {ad : Nat → Nat} (hI : INJ NM ad) (C0 : Cx p s m args meth c RX4 wsX4_greedy cX4_greedy 7 (some .int) (KM D K)) {r : Int32} {T : Mem} (k31 : Mem → Int32 → Int32 → Int32 → Int32 → Option (Int32 × Mem)) (hk31 : ∀ (S : Mem) (x1 : Int32) (x2 : Int32) (x3 : Int32) (x4 : Int32), k31 S x1 x2 x3 x4 = some (r, T) → ∀ (H : Heap) (locs : List Loc) (ls : Array Slot), va_P D vwCl (wl NM ad (EM K ad S)) H → va_S (IW NM ad) s.heap H locs → lv_has ls 7 [(0, .ref (ad 0)), (1, .int x1), (2, .int x2), (3, .int x3), (4, .int x4)] → W p l e rm4_greedy s m args below meth c H locs 0 0 (MQ below (va_Qi (fun (x : Int32) (u : Mem) => x = r ∧ u = T) (fun u t => va_P D vwCl (wl NM ad (EM K ad u)) t.heap) (IW NM ad)) args s 0 0 (IW NM ad)) (F0 m 31 ls [])) : ∀ (S : Mem) (x1 : Int32) (x3 : Int32) (x4 : Int32) (t0 : Int32) (t1 : Int32), f4_greedy_b128 k31 S x1 x3 x4 t0 t1 = some (r, T) → ∀ (H : Heap) (locs : List Loc) (ls : Array Slot), va_P D vwCl (wl NM ad (EM K ad S)) H → va_S (IW NM ad) s.heap H locs → lv_has ls 7 [(0, .ref (ad 0)), (1, .int x1), (3, .int x3), (4, .int x4)] → W p l e rm4_greedy s m args below meth c H locs 0 0 (MQ below (va_Qi (fun (x : Int32) (u : Mem) => x = r ∧ u = T) (fun u t => va_P D vwCl (wl NM ad (EM K ad u)) t.heap) (IW NM ad)) args s 0 0 (IW NM ad)) (F0 m 128 ls [.int t1, .int t0]) := by
  have hx := C0.1
  have hb := C0.2.1
  have hts := C0.2.2.2.2.1
  have hown := C0.2.2.2.1
  have hKC := C0.2.2.2.2.2.2.2
  intro S x1 x3 x4 t0 t1 hf H locs ls hP hS hl
  rw [f4_greedy_b128] at hf
  refine lv_iadd hx hb dX4_greedy_128 ?_
  refine lv_topi (fun v1 ev1 => ?_)
  have hf := nm_at ev1 hf
  refine lv_istore_n (lv' := [(2, .int v1), (0, .ref (ad 0)), (1, .int x1), (3, .int x3), (4, .int x4)]) hx hb dX4_greedy_129 rfl hl (by decide) rfl (fun ls hl => ?_)
  obtain ⟨v2, ev2⟩ : ∃ y : Int32, y = x4 + 1 := ⟨_, rfl⟩
  have hf := nm_at ev2 hf
  refine lv_iinc (v := v2) (lv' := [(4, .int v2), (2, .int v1), (0, .ref (ad 0)), (1, .int x1), (3, .int x3)]) hx hb dX4_greedy_130 hl (k := 4) rfl (by rw [ev2]; rfl) (by decide) rfl (fun ls hl => ?_)
  refine lv_goto (tgt := 31) hx hb dX4_greedy_133 (by decide) ?_
  exact hk31 S x1 v1 x3 v2 hf H locs ls hP hS (lv_sub hl [2, 3, 1, 4, 0] rfl)
set_option maxHeartbeats 4000000 in
set_option maxRecDepth 100000 in
theorem w4_greedy_b115 {p : Program} {l : Launch} {e : Env} {s : State} {m : MethodId} {args : Array Value} {below : List Frame} {meth : Method} {c : Code} {D : va_G} {K : Nat → ClassId} {ad : Nat → Nat} (hI : INJ NM ad) (C0 : Cx p s m args meth c RX4 wsX4_greedy cX4_greedy 7 (some .int) (KM D K)) {r : Int32} {T : Mem} (k31 : Mem → Int32 → Int32 → Int32 → Int32 → Option (Int32 × Mem)) (hk31 : ∀ (S : Mem) (x1 : Int32) (x2 : Int32) (x3 : Int32) (x4 : Int32), k31 S x1 x2 x3 x4 = some (r, T) → ∀ (H : Heap) (locs : List Loc) (ls : Array Slot), va_P D vwCl (wl NM ad (EM K ad S)) H → va_S (IW NM ad) s.heap H locs → lv_has ls 7 [(0, .ref (ad 0)), (1, .int x1), (2, .int x2), (3, .int x3), (4, .int x4)] → W p l e rm4_greedy s m args below meth c H locs 0 0 (MQ below (va_Qi (fun (x : Int32) (u : Mem) => x = r ∧ u = T) (fun u t => va_P D vwCl (wl NM ad (EM K ad u)) t.heap) (IW NM ad)) args s 0 0 (IW NM ad)) (F0 m 31 ls [])) : ∀ (S : Mem) (x1 : Int32) (x2 : Int32) (x4 : Int32) (x5 : Int32) (t0 : Int32), f4_greedy_b115 k31 S x1 x2 x4 x5 t0 = some (r, T) → ∀ (H : Heap) (locs : List Loc) (ls : Array Slot), va_P D vwCl (wl NM ad (EM K ad S)) H → va_S (IW NM ad) s.heap H locs → lv_has ls 7 [(0, .ref (ad 0)), (1, .int x1), (2, .int x2), (4, .int x4), (5, .int x5)] → W p l e rm4_greedy s m args below meth c H locs 0 0 (MQ below (va_Qi (fun (x : Int32) (u : Mem) => x = r ∧ u = T) (fun u t => va_P D vwCl (wl NM ad (EM K ad u)) t.heap) (IW NM ad)) args s 0 0 (IW NM ad)) (F0 m 115 ls [.int t0]) := by
  have hx := C0.1
  have hb := C0.2.1
  have hts := C0.2.2.2.2.1
  have hown := C0.2.2.2.1
  have hKC := C0.2.2.2.2.2.2.2
  intro S x1 x2 x4 x5 t0 hf H locs ls hP hS hl
  rw [f4_greedy_b115] at hf
  refine lv_istore_n (lv' := [(3, .int t0), (0, .ref (ad 0)), (1, .int x1), (2, .int x2), (4, .int x4), (5, .int x5)]) hx hb dX4_greedy_115 rfl hl (by decide) rfl (fun ls hl => ?_)
  refine lv_iload_n hx hb dX4_greedy_116 rfl (lv_at hl 3 rfl) ?_
  refine lv_iload hx hb dX4_greedy_117 (lv_at hl 5 rfl) ?_
  refine lv_iload_n hx hb dX4_greedy_119 rfl (lv_at hl 2 rfl) ?_
  refine lv_icmp_ne (tgt := 127) hx hb dX4_greedy_120 (by decide) (fun c1 => ?_) (fun c1 => ?_)
  · have hf := ite_f hf c1
    refine lv_iconst (v := 0) hx hb dX4_greedy_127 (by decide) ?_
    exact w4_greedy_b128 hI C0 k31 hk31 S x1 t0 x4 x2 0 hf H locs ls hP hS (lv_sub hl [1, 2, 0, 4] rfl)
  · have hf := ite_t hf c1
    refine lv_iconst (v := 1) hx hb dX4_greedy_123 (by decide) ?_
    refine lv_goto (tgt := 128) hx hb dX4_greedy_124 (by decide) ?_
    exact w4_greedy_b128 hI C0 k31 hk31 S x1 t0 x4 x2 1 hf H locs ls hP hS (lv_sub hl [1, 2, 0, 4] rfl)
set_option maxHeartbeats 4000000 in
set_option maxRecDepth 100000 in
theorem w4_greedy_b114 {p : Program} {l : Launch} {e : Env} {s : State} {m : MethodId} {args : Array Value} {below : List Frame} {meth : Method} {c : Code} {D : va_G} {K : Nat → ClassId} {ad : Nat → Nat} (hI : INJ NM ad) (C0 : Cx p s m args meth c RX4 wsX4_greedy cX4_greedy 7 (some .int) (KM D K)) {r : Int32} {T : Mem} (k31 : Mem → Int32 → Int32 → Int32 → Int32 → Option (Int32 × Mem)) (hk31 : ∀ (S : Mem) (x1 : Int32) (x2 : Int32) (x3 : Int32) (x4 : Int32), k31 S x1 x2 x3 x4 = some (r, T) → ∀ (H : Heap) (locs : List Loc) (ls : Array Slot), va_P D vwCl (wl NM ad (EM K ad S)) H → va_S (IW NM ad) s.heap H locs → lv_has ls 7 [(0, .ref (ad 0)), (1, .int x1), (2, .int x2), (3, .int x3), (4, .int x4)] → W p l e rm4_greedy s m args below meth c H locs 0 0 (MQ below (va_Qi (fun (x : Int32) (u : Mem) => x = r ∧ u = T) (fun u t => va_P D vwCl (wl NM ad (EM K ad u)) t.heap) (IW NM ad)) args s 0 0 (IW NM ad)) (F0 m 31 ls [])) : ∀ (S : Mem) (x1 : Int32) (x2 : Int32) (x3 : Int32) (x4 : Int32) (x5 : Int32), f4_greedy_b114 k31 S x1 x2 x3 x4 x5 = some (r, T) → ∀ (H : Heap) (locs : List Loc) (ls : Array Slot), va_P D vwCl (wl NM ad (EM K ad S)) H → va_S (IW NM ad) s.heap H locs → lv_has ls 7 [(0, .ref (ad 0)), (1, .int x1), (2, .int x2), (3, .int x3), (4, .int x4), (5, .int x5)] → W p l e rm4_greedy s m args below meth c H locs 0 0 (MQ below (va_Qi (fun (x : Int32) (u : Mem) => x = r ∧ u = T) (fun u t => va_P D vwCl (wl NM ad (EM K ad u)) t.heap) (IW NM ad)) args s 0 0 (IW NM ad)) (F0 m 114 ls []) := by
  have hx := C0.1
  have hb := C0.2.1
  have hts := C0.2.2.2.2.1
  have hown := C0.2.2.2.1
  have hKC := C0.2.2.2.2.2.2.2
  intro S x1 x2 x3 x4 x5 hf H locs ls hP hS hl
  rw [f4_greedy_b114] at hf
  refine lv_iload_n hx hb dX4_greedy_114 rfl (lv_at hl 3 rfl) ?_
  exact w4_greedy_b115 hI C0 k31 hk31 S x1 x2 x4 x5 x3 hf H locs ls hP hS (lv_sub hl [0, 1, 2, 4, 5] rfl)
set_option maxHeartbeats 4000000 in
set_option maxRecDepth 100000 in
theorem w4_greedy_b90 {p : Program} {l : Launch} {e : Env} {s : State} {m : MethodId} {args : Array Value} {below : List Frame} {meth : Method} {c : Code} {D : va_G} {K : Nat → ClassId} {ad : Nat → Nat} (hI : INJ NM ad) (C0 : Cx p s m args meth c RX4 wsX4_greedy cX4_greedy 7 (some .int) (KM D K)) {r : Int32} {T : Mem} (k31 : Mem → Int32 → Int32 → Int32 → Int32 → Option (Int32 × Mem)) (hk31 : ∀ (S : Mem) (x1 : Int32) (x2 : Int32) (x3 : Int32) (x4 : Int32), k31 S x1 x2 x3 x4 = some (r, T) → ∀ (H : Heap) (locs : List Loc) (ls : Array Slot), va_P D vwCl (wl NM ad (EM K ad S)) H → va_S (IW NM ad) s.heap H locs → lv_has ls 7 [(0, .ref (ad 0)), (1, .int x1), (2, .int x2), (3, .int x3), (4, .int x4)] → W p l e rm4_greedy s m args below meth c H locs 0 0 (MQ below (va_Qi (fun (x : Int32) (u : Mem) => x = r ∧ u = T) (fun u t => va_P D vwCl (wl NM ad (EM K ad u)) t.heap) (IW NM ad)) args s 0 0 (IW NM ad)) (F0 m 31 ls [])) (k48 : Mem → Int32 → Int32 → Int32 → Int32 → Int32 → Int32 → Option (Int32 × Mem)) (hk48 : ∀ (S : Mem) (x1 : Int32) (x2 : Int32) (x3 : Int32) (x4 : Int32) (x5 : Int32) (x6 : Int32), k48 S x1 x2 x3 x4 x5 x6 = some (r, T) → ∀ (H : Heap) (locs : List Loc) (ls : Array Slot), va_P D vwCl (wl NM ad (EM K ad S)) H → va_S (IW NM ad) s.heap H locs → lv_has ls 7 [(0, .ref (ad 0)), (1, .int x1), (2, .int x2), (3, .int x3), (4, .int x4), (5, .int x5), (6, .int x6)] → W p l e rm4_greedy s m args below meth c H locs 0 0 (MQ below (va_Qi (fun (x : Int32) (u : Mem) => x = r ∧ u = T) (fun u t => va_P D vwCl (wl NM ad (EM K ad u)) t.heap) (IW NM ad)) args s 0 0 (IW NM ad)) (F0 m 48 ls [])) : ∀ (S : Mem) (x1 : Int32) (x2 : Int32) (x3 : Int32) (x4 : Int32) (x6 : Int32) (t0 : Int32) (t1 : Int32), f4_greedy_b90 k31 k48 S x1 x2 x3 x4 x6 t0 t1 = some (r, T) → ∀ (H : Heap) (locs : List Loc) (ls : Array Slot), va_P D vwCl (wl NM ad (EM K ad S)) H → va_S (IW NM ad) s.heap H locs → lv_has ls 7 [(0, .ref (ad 0)), (1, .int x1), (2, .int x2), (3, .int x3), (4, .int x4), (6, .int x6)] → W p l e rm4_greedy s m args below meth c H locs 0 0 (MQ below (va_Qi (fun (x : Int32) (u : Mem) => x = r ∧ u = T) (fun u t => va_P D vwCl (wl NM ad (EM K ad u)) t.heap) (IW NM ad)) args s 0 0 (IW NM ad)) (F0 m 90 ls [.int t1, .int t0]) := by
  have hx := C0.1
  have hb := C0.2.1
  have hts := C0.2.2.2.2.1
  have hown := C0.2.2.2.1
  have hKC := C0.2.2.2.2.2.2.2
  intro S x1 x2 x3 x4 x6 t0 t1 hf H locs ls hP hS hl
  rw [f4_greedy_b90] at hf
  refine lv_iadd hx hb dX4_greedy_90 ?_
  refine lv_topi (fun v1 ev1 => ?_)
  have hf := nm_at ev1 hf
  refine lv_istore (lv' := [(5, .int v1), (0, .ref (ad 0)), (1, .int x1), (2, .int x2), (3, .int x3), (4, .int x4), (6, .int x6)]) hx hb dX4_greedy_91 hl (by decide) rfl (fun ls hl => ?_)
  obtain ⟨v2, ev2⟩ : ∃ y : Int32, y = x6 + 1 := ⟨_, rfl⟩
  have hf := nm_at ev2 hf
  refine lv_iinc (v := v2) (lv' := [(6, .int v2), (5, .int v1), (0, .ref (ad 0)), (1, .int x1), (2, .int x2), (3, .int x3), (4, .int x4)]) hx hb dX4_greedy_93 hl (k := 6) rfl (by rw [ev2]; rfl) (by decide) rfl (fun ls hl => ?_)
  refine lv_goto (tgt := 48) hx hb dX4_greedy_96 (by decide) ?_
  exact hk48 S x1 x2 x3 x4 v1 v2 hf H locs ls hP hS (lv_sub hl [2, 3, 4, 5, 6, 1, 0] rfl)
set_option maxHeartbeats 4000000 in
set_option maxRecDepth 100000 in
theorem w4_greedy_b48 {p : Program} {l : Launch} {e : Env} {s : State} {m : MethodId} {args : Array Value} {below : List Frame} {meth : Method} {c : Code} {D : va_G} {K : Nat → ClassId} {ad : Nat → Nat} (hI : INJ NM ad) (C0 : Cx p s m args meth c RX4 wsX4_greedy cX4_greedy 7 (some .int) (KM D K)) {r : Int32} {T : Mem} (k31 : Mem → Int32 → Int32 → Int32 → Int32 → Option (Int32 × Mem)) (hk31 : ∀ (S : Mem) (x1 : Int32) (x2 : Int32) (x3 : Int32) (x4 : Int32), k31 S x1 x2 x3 x4 = some (r, T) → ∀ (H : Heap) (locs : List Loc) (ls : Array Slot), va_P D vwCl (wl NM ad (EM K ad S)) H → va_S (IW NM ad) s.heap H locs → lv_has ls 7 [(0, .ref (ad 0)), (1, .int x1), (2, .int x2), (3, .int x3), (4, .int x4)] → W p l e rm4_greedy s m args below meth c H locs 0 0 (MQ below (va_Qi (fun (x : Int32) (u : Mem) => x = r ∧ u = T) (fun u t => va_P D vwCl (wl NM ad (EM K ad u)) t.heap) (IW NM ad)) args s 0 0 (IW NM ad)) (F0 m 31 ls [])) : ∀ (n : Nat), ∀ (S : Mem) (x1 : Int32) (x2 : Int32) (x3 : Int32) (x4 : Int32) (x5 : Int32) (x6 : Int32), f4_greedy_b48 k31 n S x1 x2 x3 x4 x5 x6 = some (r, T) → ∀ (H : Heap) (locs : List Loc) (ls : Array Slot), va_P D vwCl (wl NM ad (EM K ad S)) H → va_S (IW NM ad) s.heap H locs → lv_has ls 7 [(0, .ref (ad 0)), (1, .int x1), (2, .int x2), (3, .int x3), (4, .int x4), (5, .int x5), (6, .int x6)] → W p l e rm4_greedy s m args below meth c H locs 0 0 (MQ below (va_Qi (fun (x : Int32) (u : Mem) => x = r ∧ u = T) (fun u t => va_P D vwCl (wl NM ad (EM K ad u)) t.heap) (IW NM ad)) args s 0 0 (IW NM ad)) (F0 m 48 ls []) := by
  have hx := C0.1
  have hb := C0.2.1
  have hts := C0.2.2.2.2.1
  have hown := C0.2.2.2.1
  have hKC := C0.2.2.2.2.2.2.2
  intro n
  induction n with
  | zero =>
    intro S x1 x2 x3 x4 x5 x6 hf
    rw [f4_greedy_b48] at hf
    cases hf
  | succ n ih =>
    intro S x1 x2 x3 x4 x5 x6 hf H locs ls hP hS hl
    rw [f4_greedy_b48] at hf
    refine lv_iload hx hb dX4_greedy_48 (lv_at hl 6 rfl) ?_
    refine lv_aload_n hx hb dX4_greedy_50 rfl (lv_at hl 0 rfl) ?_
    refine x_get C0 hKC hP (by decide) (EM_0 K ad S) rfl in_X4_greedy_X4 12 (by decide) (List.mem_of_getElem? (i := 2) rfl) rfl dX4_greedy_51 ?_
    refine lv_icmp_ge (tgt := 99) hx hb dX4_greedy_54 (by decide) (fun c1 => ?_) (fun c1 => ?_)
    · have hf := ite_t hf c1
      refine lv_iload hx hb dX4_greedy_99 (lv_at hl 5 rfl) ?_
      refine lv_iload_n hx hb dX4_greedy_101 rfl (lv_at hl 1 rfl) ?_
      refine lv_icmp_ne (tgt := 114) hx hb dX4_greedy_102 (by decide) (fun c2 => ?_) (fun c2 => ?_)
      · have hf := ite_f hf c2
        exact w4_greedy_b114 hI C0 k31 hk31 S x1 x2 x3 x4 x5 hf H locs ls hP hS (lv_sub hl [0, 1, 2, 3, 4, 5] rfl)
      · have hf := ite_t hf c2
        refine lv_iload_n hx hb dX4_greedy_105 rfl (lv_at hl 2 rfl) ?_
        refine lv_if_ne (tgt := 114) hx hb dX4_greedy_106 (by decide) (fun c3 => ?_) (fun c3 => ?_)
        · have hf := ite_f hf c3
          exact w4_greedy_b114 hI C0 k31 hk31 S x1 x2 x3 x4 x5 hf H locs ls hP hS (lv_sub hl [0, 1, 2, 3, 4, 5] rfl)
        · have hf := ite_t hf c3
          refine lv_iload hx hb dX4_greedy_109 (lv_at hl 4 rfl) ?_
          refine lv_goto (tgt := 115) hx hb dX4_greedy_111 (by decide) ?_
          exact w4_greedy_b115 hI C0 k31 hk31 S x1 x2 x4 x5 x4 hf H locs ls hP hS (lv_sub hl [0, 1, 2, 4, 5] rfl)
    · have hf := ite_f hf c1
      refine lv_iload hx hb dX4_greedy_57 (lv_at hl 5 rfl) ?_
      refine lv_iload hx hb dX4_greedy_59 (lv_at hl 4 rfl) ?_
      refine lv_iload hx hb dX4_greedy_61 (lv_at hl 6 rfl) ?_
      refine lv_ishr hx hb dX4_greedy_63 ?_
      refine lv_iconst (v := 1) hx hb dX4_greedy_64 (by decide) ?_
      refine lv_iand hx hb dX4_greedy_65 ?_
      refine lv_iconst (v := 1) hx hb dX4_greedy_66 (by decide) ?_
      refine lv_icmp_ne (tgt := 84) hx hb dX4_greedy_67 (by decide) (fun c4 => ?_) (fun c4 => ?_)
      · have hf := ite_f hf c4
        refine lv_aload_n hx hb dX4_greedy_84 rfl (lv_at hl 0 rfl) ?_
        refine lv_iload hx hb dX4_greedy_85 (lv_at hl 6 rfl) ?_
        obtain ⟨v6, h5, hf⟩ := b1_some hf
        refine sys_i hS (sys_runV (As := [.int x6]) (rest := [.int x5]) C0 KM_ok hKC hP hS (by decide) (EM_0 K ad S) rfl (m4_brings l D K ad hI S x6 h5) gX4_greedy_X4_brings rfl ⟨rfl, rfl⟩ hd_X4_brings ⟨Nat.le_of_ble_eq_true rfl, Nat.le_of_ble_eq_true rfl⟩ hl.1 rfl (Nat.le_of_ble_eq_true rfl) dX4_greedy_87 ⟨Nat.le_refl _, Nat.le_refl _⟩) (fun H locs hP hS => ?_)
        exact w4_greedy_b90 hI C0 k31 hk31 (f4_greedy_b48 k31 n) ih S x1 x2 x3 x4 x6 x5 v6 hf H locs ls hP hS (lv_sub hl [0, 1, 2, 3, 4, 6] rfl)
      · have hf := ite_t hf c4
        refine lv_aload_n hx hb dX4_greedy_70 rfl (lv_at hl 0 rfl) ?_
        refine lv_iconst (v := 3) hx hb dX4_greedy_71 (by decide) ?_
        refine lv_aload_n hx hb dX4_greedy_72 rfl (lv_at hl 0 rfl) ?_
        refine lv_iload hx hb dX4_greedy_73 (lv_at hl 6 rfl) ?_
        obtain ⟨v8, h7, hf⟩ := b1_some hf
        refine sys_i hS (sys_runV (As := [.int x6]) (rest := [.int 3, .ref (ad 0), .int x5]) C0 KM_ok hKC hP hS (by decide) (EM_0 K ad S) rfl (m4_jar l D K ad hI S x6 h7) gX4_greedy_X4_jar rfl ⟨rfl, rfl⟩ hd_X4_jar ⟨Nat.le_of_ble_eq_true rfl, Nat.le_of_ble_eq_true rfl⟩ hl.1 rfl (Nat.le_of_ble_eq_true rfl) dX4_greedy_75 ⟨Nat.le_refl _, Nat.le_refl _⟩) (fun H locs hP hS => ?_)
        obtain ⟨v10, h9, hf⟩ := b1_some hf
        refine sys_i hS (sys_runV (As := [.int 3, .int v8]) (rest := [.int x5]) C0 KM_ok hKC hP hS (by decide) (EM_0 K ad S) rfl (m4_broughtBy l D K ad hI S 3 v8 h9) gX4_greedy_X4_broughtBy rfl ⟨rfl, rfl⟩ hd_X4_broughtBy ⟨Nat.le_of_ble_eq_true rfl, Nat.le_of_ble_eq_true rfl⟩ hl.1 rfl (Nat.le_of_ble_eq_true rfl) dX4_greedy_78 ⟨Nat.le_refl _, Nat.le_refl _⟩) (fun H locs hP hS => ?_)
        refine lv_goto (tgt := 90) hx hb dX4_greedy_81 (by decide) ?_
        exact w4_greedy_b90 hI C0 k31 hk31 (f4_greedy_b48 k31 n) ih S x1 x2 x3 x4 x6 x5 v10 hf H locs ls hP hS (lv_sub hl [0, 1, 2, 3, 4, 6] rfl)
set_option maxHeartbeats 4000000 in
set_option maxRecDepth 100000 in
theorem w4_greedy_b31 {p : Program} {l : Launch} {e : Env} {s : State} {m : MethodId} {args : Array Value} {below : List Frame} {meth : Method} {c : Code} {D : va_G} {K : Nat → ClassId} {ad : Nat → Nat} (hI : INJ NM ad) (C0 : Cx p s m args meth c RX4 wsX4_greedy cX4_greedy 7 (some .int) (KM D K)) {r : Int32} {T : Mem} : ∀ (n : Nat), ∀ (S : Mem) (x1 : Int32) (x2 : Int32) (x3 : Int32) (x4 : Int32), f4_greedy_b31 n S x1 x2 x3 x4 = some (r, T) → ∀ (H : Heap) (locs : List Loc) (ls : Array Slot), va_P D vwCl (wl NM ad (EM K ad S)) H → va_S (IW NM ad) s.heap H locs → lv_has ls 7 [(0, .ref (ad 0)), (1, .int x1), (2, .int x2), (3, .int x3), (4, .int x4)] → W p l e rm4_greedy s m args below meth c H locs 0 0 (MQ below (va_Qi (fun (x : Int32) (u : Mem) => x = r ∧ u = T) (fun u t => va_P D vwCl (wl NM ad (EM K ad u)) t.heap) (IW NM ad)) args s 0 0 (IW NM ad)) (F0 m 31 ls []) := by
  have hx := C0.1
  have hb := C0.2.1
  have hts := C0.2.2.2.2.1
  have hown := C0.2.2.2.1
  have hKC := C0.2.2.2.2.2.2.2
  intro n
  induction n with
  | zero =>
    intro S x1 x2 x3 x4 hf
    rw [f4_greedy_b31] at hf
    cases hf
  | succ n ih =>
    intro S x1 x2 x3 x4 hf H locs ls hP hS hl
    rw [f4_greedy_b31] at hf
    refine lv_iload hx hb dX4_greedy_31 (lv_at hl 4 rfl) ?_
    refine lv_iconst (v := 1) hx hb dX4_greedy_33 (by decide) ?_
    refine lv_aload_n hx hb dX4_greedy_34 rfl (lv_at hl 0 rfl) ?_
    refine x_get C0 hKC hP (by decide) (EM_0 K ad S) rfl in_X4_greedy_X4 12 (by decide) (List.mem_of_getElem? (i := 2) rfl) rfl dX4_greedy_35 ?_
    refine lv_ishl hx hb dX4_greedy_38 ?_
    refine lv_icmp_ge (tgt := 136) hx hb dX4_greedy_39 (by decide) (fun c1 => ?_) (fun c1 => ?_)
    · have hf := ite_t hf c1
      refine lv_iload_n hx hb dX4_greedy_136 rfl (lv_at hl 2 rfl) ?_
      refine lv_if_ne (tgt := 145) hx hb dX4_greedy_137 (by decide) (fun c2 => ?_) (fun c2 => ?_)
      · have hf := ite_f hf c2
        refine lv_aload_n hx hb dX4_greedy_145 rfl (lv_at hl 0 rfl) ?_
        refine lv_iload_n hx hb dX4_greedy_146 rfl (lv_at hl 2 rfl) ?_
        refine lv_iload_n hx hb dX4_greedy_147 rfl (lv_at hl 3 rfl) ?_
        obtain ⟨v4, S5, h3, hf⟩ := b2_some hf
        refine sys_i hS (sys_runV (As := [.int x2, .int x3]) (rest := []) C0 KM_ok hKC hP hS (by decide) (EM_0 K ad S) rfl (m4_tells l D K ad hI S x2 x3 h3) gX4_greedy_X4_tells rfl ⟨rfl, rfl⟩ hd_X4_tells ⟨Nat.le_of_ble_eq_true rfl, Nat.le_of_ble_eq_true rfl⟩ hl.1 rfl (Nat.le_of_ble_eq_true rfl) dX4_greedy_148 ⟨Nat.le_refl _, Nat.le_refl _⟩) (fun H locs hP hS => ?_)
        exact ret_i C0 hP hS (congrArg Prod.fst (Option.some.inj hf)) (congrArg Prod.snd (Option.some.inj hf)) dX4_greedy_151
      · have hf := ite_t hf c2
        refine lv_bipush (v := (-9)) hx hb dX4_greedy_140 (by decide) ?_
        refine lv_goto (tgt := 151) hx hb dX4_greedy_142 (by decide) ?_
        exact ret_i C0 hP hS (congrArg Prod.fst (Option.some.inj hf)) (congrArg Prod.snd (Option.some.inj hf)) dX4_greedy_151
    · have hf := ite_f hf c1
      refine lv_iconst (v := 0) hx hb dX4_greedy_42 (by decide) ?_
      refine lv_istore (lv' := [(5, .int 0), (0, .ref (ad 0)), (1, .int x1), (2, .int x2), (3, .int x3), (4, .int x4)]) hx hb dX4_greedy_43 hl (by decide) rfl (fun ls hl => ?_)
      refine lv_iconst (v := 0) hx hb dX4_greedy_45 (by decide) ?_
      refine lv_istore (lv' := [(6, .int 0), (5, .int 0), (0, .ref (ad 0)), (1, .int x1), (2, .int x2), (3, .int x3), (4, .int x4)]) hx hb dX4_greedy_46 hl (by decide) rfl (fun ls hl => ?_)
      exact w4_greedy_b48 hI C0 (f4_greedy_b31 n) ih FU S x1 x2 x3 x4 0 0 hf H locs ls hP hS (lv_sub hl [2, 3, 4, 5, 6, 1, 0] rfl)
set_option maxHeartbeats 4000000 in
set_option maxRecDepth 100000 in
theorem w4_greedy {p : Program} {l : Launch} {e : Env} {s : State} {m : MethodId} {args : Array Value} {below : List Frame} {meth : Method} {c : Code} {D : va_G} {K : Nat → ClassId} {ad : Nat → Nat} (hI : INJ NM ad) (C0 : Cx p s m args meth c RX4 wsX4_greedy cX4_greedy 7 (some .int) (KM D K)) {r : Int32} {T : Mem} : ∀ (S : Mem) (x1 : Int32), f4_greedy S x1 = some (r, T) → ∀ (H : Heap) (locs : List Loc) (ls : Array Slot), va_P D vwCl (wl NM ad (EM K ad S)) H → va_S (IW NM ad) s.heap H locs → lv_has ls 7 [(0, .ref (ad 0)), (1, .int x1)] → W p l e rm4_greedy s m args below meth c H locs 0 0 (MQ below (va_Qi (fun (x : Int32) (u : Mem) => x = r ∧ u = T) (fun u t => va_P D vwCl (wl NM ad (EM K ad u)) t.heap) (IW NM ad)) args s 0 0 (IW NM ad)) (F0 m 0 ls []) := by
  have hx := C0.1
  have hb := C0.2.1
  have hts := C0.2.2.2.2.1
  have hown := C0.2.2.2.1
  have hKC := C0.2.2.2.2.2.2.2
  intro S x1 hf H locs ls hP hS hl
  rw [f4_greedy] at hf
  refine lv_iload_n hx hb dX4_greedy_0 rfl (lv_at hl 1 rfl) ?_
  refine lv_i2l (v := (Int32.toInt64 x1)) hx hb dX4_greedy_1 rfl ?_
  refine lv_lconst (v := 0) hx hb dX4_greedy_2 (by decide) ?_
  refine lv_ldc2 (v := 999) hx hb hown (hts _ (List.mem_of_getElem? (i := 1) rfl)) dX4_greedy_3 ?_
  obtain ⟨v2, h1, hf⟩ := b1_some hf
  refine sys_i hS (sys_runS (As := [.long (Int32.toInt64 x1), .long 0, .long 999]) (rest := []) C0 KM_ok hP hS (m4_in l D K ad hI S (Int32.toInt64 x1) 0 999 h1) gX4_greedy_X4_in rfl ⟨rfl, rfl⟩ hd_X4_in ⟨Nat.le_of_ble_eq_true rfl, Nat.le_of_ble_eq_true rfl⟩ hl.1 rfl (Nat.le_of_ble_eq_true rfl) dX4_greedy_6 ⟨Nat.le_refl _, Nat.le_refl _⟩) (fun H locs hP hS => ?_)
  refine lv_if_ne (tgt := 14) hx hb dX4_greedy_9 (by decide) (fun c3 => ?_) (fun c3 => ?_)
  · have hf := ite_f hf c3
    refine lv_aload_n hx hb dX4_greedy_14 rfl (lv_at hl 0 rfl) ?_
    refine x_get C0 hKC hP (by decide) (EM_0 K ad S) rfl in_X4_greedy_X4 12 (by decide) (List.mem_of_getElem? (i := 2) rfl) rfl dX4_greedy_15 ?_
    refine lv_if_ne (tgt := 24) hx hb dX4_greedy_18 (by decide) (fun c4 => ?_) (fun c4 => ?_)
    · have hf := ite_f hf c4
      refine lv_iconst (v := 0) hx hb dX4_greedy_24 (by decide) ?_
      refine lv_istore_n (lv' := [(2, .int 0), (0, .ref (ad 0)), (1, .int x1)]) hx hb dX4_greedy_25 rfl hl (by decide) rfl (fun ls hl => ?_)
      refine lv_iconst (v := 0) hx hb dX4_greedy_26 (by decide) ?_
      refine lv_istore_n (lv' := [(3, .int 0), (2, .int 0), (0, .ref (ad 0)), (1, .int x1)]) hx hb dX4_greedy_27 rfl hl (by decide) rfl (fun ls hl => ?_)
      refine lv_iconst (v := 0) hx hb dX4_greedy_28 (by decide) ?_
      refine lv_istore (lv' := [(4, .int 0), (3, .int 0), (2, .int 0), (0, .ref (ad 0)), (1, .int x1)]) hx hb dX4_greedy_29 hl (by decide) rfl (fun ls hl => ?_)
      exact w4_greedy_b31 hI C0 FU S x1 0 0 0 hf H locs ls hP hS (lv_sub hl [3, 4, 2, 1, 0] rfl)
    · have hf := ite_t hf c4
      refine lv_bipush (v := (-4)) hx hb dX4_greedy_21 (by decide) ?_
      exact ret_i C0 hP hS (congrArg Prod.fst (Option.some.inj hf)) (congrArg Prod.snd (Option.some.inj hf)) dX4_greedy_23
  · have hf := ite_t hf c3
    refine lv_iconst (v := (-1)) hx hb dX4_greedy_12 (by decide) ?_
    exact ret_i C0 hP hS (congrArg Prod.fst (Option.some.inj hf)) (congrArg Prod.snd (Option.some.inj hf)) dX4_greedy_13
theorem m4_greedy (l : Launch) (D : va_G) (K : Nat → ClassId) (ad : Nat → Nat) (hI : INJ NM ad) (S : Mem) (x1 : Int32) {r : Int32} {T : Mem} (hf : f4_greedy S x1 = some (r, T)) : SysI l yX4_greedy wsX4_greedy rm4_greedy D NM ad (EM K ad) (KM D K) [.ref (ad 0), .int x1] S r T :=
  met_of (own := RX4) (by decide) rfl rfl (Nat.le_of_ble_eq_true rfl) (fun _ _ s _ _ _ _ ls C0 _ hP hl => w4_greedy hI C0 S x1 hf s.heap [] ls hP va_S.rf hl)
theorem in_X4_whyPairs_X4 : ∀ w ∈ wsX40, w ∈ wsX4_whyPairs := fun _ h => List.mem_cons_of_mem _ (List.mem_append_right _ h)
theorem hd_X4_whyPairs : yX4_whyPairs.cls = RX4 ∧ yX4_whyPairs.cls ≠ "java/lang/invoke/MethodHandle" ∧ yX4_whyPairs.cls ≠ "java/lang/invoke/VarHandle" ∧ (parseMethodDescriptor yX4_whyPairs.desc).map (fun d => d.parameters.length) = some 2 := by decide +kernel
abbrev rm4_whyPairs : Room := { frames := 2, cells := 0, slots := 0, locals := 46 }
set_option maxHeartbeats 4000000 in
set_option maxRecDepth 100000 in
theorem w4_whyPairs_b90 {p : Program} {l : Launch} {e : Env} {s : State} {m : MethodId} {args : Array Value} {below : List Frame} {meth : Method} {c : Code} {D : va_G} {K : Nat → ClassId} {ad : Nat → Nat} (hI : INJ NM ad) (C0 : Cx p s m args meth c RX4 wsX4_whyPairs cX4_whyPairs 4 (some .int) (KM D K)) {r : Int32} {T : Mem} (k52 : Mem → Int32 → Int32 → Option (Int32 × Mem)) (hk52 : ∀ (S : Mem) (x2 : Int32) (x3 : Int32), k52 S x2 x3 = some (r, T) → ∀ (H : Heap) (locs : List Loc) (ls : Array Slot), va_P D vwCl (wl NM ad (EM K ad S)) H → va_S (IW NM ad) s.heap H locs → lv_has ls 4 [(0, .ref (ad 0)), (2, .int x2), (3, .int x3)] → W p l e rm4_whyPairs s m args below meth c H locs 0 0 (MQ below (va_Qi (fun (x : Int32) (u : Mem) => x = r ∧ u = T) (fun u t => va_P D vwCl (wl NM ad (EM K ad u)) t.heap) (IW NM ad)) args s 0 0 (IW NM ad)) (F0 m 52 ls [])) : ∀ (S : Mem) (x2 : Int32) (x3 : Int32) (t0 : Int64) (t1 : Int64) (t2 : Int64), f4_whyPairs_b90 k52 S x2 x3 t0 t1 t2 = some (r, T) → ∀ (H : Heap) (locs : List Loc) (ls : Array Slot), va_P D vwCl (wl NM ad (EM K ad S)) H → va_S (IW NM ad) s.heap H locs → lv_has ls 4 [(0, .ref (ad 0)), (2, .int x2), (3, .int x3)] → W p l e rm4_whyPairs s m args below meth c H locs 0 0 (MQ below (va_Qi (fun (x : Int32) (u : Mem) => x = r ∧ u = T) (fun u t => va_P D vwCl (wl NM ad (EM K ad u)) t.heap) (IW NM ad)) args s 0 0 (IW NM ad)) (F0 m 90 ls [.long t2, .long t1, .long t0]) := by
  have hx := C0.1
  have hb := C0.2.1
  have hts := C0.2.2.2.2.1
  have hown := C0.2.2.2.1
  have hKC := C0.2.2.2.2.2.2.2
  intro S x2 x3 t0 t1 t2 hf H locs ls hP hS hl
  rw [f4_whyPairs_b90] at hf
  obtain ⟨v2, h1, hf⟩ := b1_some hf
  refine sys_i hS (sys_runS (As := [.long t0, .long t1, .long t2]) (rest := []) C0 KM_ok hP hS (m4_in l D K ad hI S t0 t1 t2 h1) gX4_whyPairs_X4_in rfl ⟨rfl, rfl⟩ hd_X4_in ⟨Nat.le_of_ble_eq_true rfl, Nat.le_of_ble_eq_true rfl⟩ hl.1 rfl (Nat.le_of_ble_eq_true rfl) dX4_whyPairs_90 ⟨Nat.le_refl _, Nat.le_refl _⟩) (fun H locs hP hS => ?_)
  refine lv_if_ne (tgt := 102) hx hb dX4_whyPairs_93 (by decide) (fun c3 => ?_) (fun c3 => ?_)
  · have hf := ite_f hf c3
    obtain ⟨v4, ev4⟩ : ∃ y : Int32, y = x3 + 1 := ⟨_, rfl⟩
    have hf := nm_at ev4 hf
    refine lv_iinc (v := v4) (lv' := [(3, .int v4), (0, .ref (ad 0)), (2, .int x2)]) hx hb dX4_whyPairs_102 hl (k := 2) rfl (by rw [ev4]; rfl) (by decide) rfl (fun ls hl => ?_)
    refine lv_goto (tgt := 52) hx hb dX4_whyPairs_105 (by decide) ?_
    exact hk52 S x2 v4 hf H locs ls hP hS (lv_sub hl [1, 2, 0] rfl)
  · have hf := ite_t hf c3
    refine lv_aload_n hx hb dX4_whyPairs_96 rfl (lv_at hl 0 rfl) ?_
    refine lv_iconst (v := 3) hx hb dX4_whyPairs_97 (by decide) ?_
    obtain ⟨v6, S7, h5, hf⟩ := b2_some hf
    refine sys_i hS (sys_runV (As := [.int 3]) (rest := []) C0 KM_ok hKC hP hS (by decide) (EM_0 K ad S) rfl (m4_finds l D K ad hI S 3 h5) gX4_whyPairs_X4_finds rfl ⟨rfl, rfl⟩ hd_X4_finds ⟨Nat.le_of_ble_eq_true rfl, Nat.le_of_ble_eq_true rfl⟩ hl.1 rfl (Nat.le_of_ble_eq_true rfl) dX4_whyPairs_98 ⟨Nat.le_refl _, Nat.le_refl _⟩) (fun H locs hP hS => ?_)
    exact ret_i C0 hP hS (congrArg Prod.fst (Option.some.inj hf)) (congrArg Prod.snd (Option.some.inj hf)) dX4_whyPairs_101
set_option maxHeartbeats 4000000 in
set_option maxRecDepth 100000 in
theorem w4_whyPairs_b52 {p : Program} {l : Launch} {e : Env} {s : State} {m : MethodId} {args : Array Value} {below : List Frame} {meth : Method} {c : Code} {D : va_G} {K : Nat → ClassId} {ad : Nat → Nat} (hI : INJ NM ad) (C0 : Cx p s m args meth c RX4 wsX4_whyPairs cX4_whyPairs 4 (some .int) (KM D K)) {r : Int32} {T : Mem} : ∀ (n : Nat), ∀ (S : Mem) (x2 : Int32) (x3 : Int32), f4_whyPairs_b52 n S x2 x3 = some (r, T) → ∀ (H : Heap) (locs : List Loc) (ls : Array Slot), va_P D vwCl (wl NM ad (EM K ad S)) H → va_S (IW NM ad) s.heap H locs → lv_has ls 4 [(0, .ref (ad 0)), (2, .int x2), (3, .int x3)] → W p l e rm4_whyPairs s m args below meth c H locs 0 0 (MQ below (va_Qi (fun (x : Int32) (u : Mem) => x = r ∧ u = T) (fun u t => va_P D vwCl (wl NM ad (EM K ad u)) t.heap) (IW NM ad)) args s 0 0 (IW NM ad)) (F0 m 52 ls []) := by
  have hx := C0.1
  have hb := C0.2.1
  have hts := C0.2.2.2.2.1
  have hown := C0.2.2.2.1
  have hKC := C0.2.2.2.2.2.2.2
  intro n
  induction n with
  | zero =>
    intro S x2 x3 hf
    rw [f4_whyPairs_b52] at hf
    cases hf
  | succ n ih =>
    intro S x2 x3 hf H locs ls hP hS hl
    rw [f4_whyPairs_b52] at hf
    refine lv_iload_n hx hb dX4_whyPairs_52 rfl (lv_at hl 2 rfl) ?_
    refine lv_aload_n hx hb dX4_whyPairs_53 rfl (lv_at hl 0 rfl) ?_
    refine x_get C0 hKC hP (by decide) (EM_0 K ad S) rfl in_X4_whyPairs_X4 5 (by decide) (List.mem_of_getElem? (i := 1) rfl) rfl dX4_whyPairs_54 ?_
    refine lv_iload_n hx hb dX4_whyPairs_57 rfl (lv_at hl 1 rfl) ?_
    obtain ⟨g1, hf⟩ := gd_some hf
    refine x_iald C0 hKC hP (IM_2 K ad) (t0 := 0) rfl g1 dX4_whyPairs_58 ?_
    refine lv_icmp_ge (tgt := 108) hx hb dX4_whyPairs_59 (by decide) (fun c2 => ?_) (fun c2 => ?_)
    · have hf := ite_t hf c2
      refine lv_iconst (v := 0) hx hb dX4_whyPairs_108 (by decide) ?_
      exact ret_i C0 hP hS (congrArg Prod.fst (Option.some.inj hf)) (congrArg Prod.snd (Option.some.inj hf)) dX4_whyPairs_109
    · have hf := ite_f hf c2
      refine lv_aload_n hx hb dX4_whyPairs_62 rfl (lv_at hl 0 rfl) ?_
      refine x_get C0 hKC hP (by decide) (EM_0 K ad S) rfl in_X4_whyPairs_X4 6 (by decide) (List.mem_of_getElem? (i := 2) rfl) rfl dX4_whyPairs_63 ?_
      refine lv_bipush (v := 40) hx hb dX4_whyPairs_66 (by decide) ?_
      refine lv_iload_n hx hb dX4_whyPairs_68 rfl (lv_at hl 1 rfl) ?_
      refine lv_imul hx hb dX4_whyPairs_69 ?_
      refine lv_iload_n hx hb dX4_whyPairs_70 rfl (lv_at hl 2 rfl) ?_
      refine lv_iadd hx hb dX4_whyPairs_71 ?_
      obtain ⟨g3, hf⟩ := gd_some hf
      refine x_iald C0 hKC hP (IM_3 K ad) (t0 := 0) rfl g3 dX4_whyPairs_72 ?_
      refine lv_i2l (v := (Int32.toInt64 (gi S 3 (ix ((40 * x2) + x3))))) hx hb dX4_whyPairs_73 rfl ?_
      refine lv_lconst (v := 0) hx hb dX4_whyPairs_74 (by decide) ?_
      refine lv_iload_n hx hb dX4_whyPairs_75 rfl (lv_at hl 2 rfl) ?_
      refine lv_iconst (v := 2) hx hb dX4_whyPairs_76 (by decide) ?_
      refine lv_irem hx hb dX4_whyPairs_77 (by decide) ?_
      refine lv_if_ne (tgt := 87) hx hb dX4_whyPairs_78 (by decide) (fun c4 => ?_) (fun c4 => ?_)
      · have hf := ite_f hf c4
        refine lv_ldc2 (v := 300) hx hb hown (hts _ (List.mem_of_getElem? (i := 4) rfl)) dX4_whyPairs_87 ?_
        exact w4_whyPairs_b90 hI C0 (f4_whyPairs_b52 n) ih S x2 x3 (Int32.toInt64 (gi S 3 (ix ((40 * x2) + x3)))) 0 300 hf H locs ls hP hS (lv_sub hl [0, 1, 2] rfl)
      · have hf := ite_t hf c4
        refine lv_ldc2 (v := 99) hx hb hown (hts _ (List.mem_of_getElem? (i := 3) rfl)) dX4_whyPairs_81 ?_
        refine lv_goto (tgt := 90) hx hb dX4_whyPairs_84 (by decide) ?_
        exact w4_whyPairs_b90 hI C0 (f4_whyPairs_b52 n) ih S x2 x3 (Int32.toInt64 (gi S 3 (ix ((40 * x2) + x3)))) 0 99 hf H locs ls hP hS (lv_sub hl [0, 1, 2] rfl)
set_option maxHeartbeats 4000000 in
set_option maxRecDepth 100000 in
theorem w4_whyPairs {p : Program} {l : Launch} {e : Env} {s : State} {m : MethodId} {args : Array Value} {below : List Frame} {meth : Method} {c : Code} {D : va_G} {K : Nat → ClassId} {ad : Nat → Nat} (hI : INJ NM ad) (C0 : Cx p s m args meth c RX4 wsX4_whyPairs cX4_whyPairs 4 (some .int) (KM D K)) {r : Int32} {T : Mem} : ∀ (S : Mem) (x1 : Int32) (x2 : Int32), f4_whyPairs S x1 x2 = some (r, T) → ∀ (H : Heap) (locs : List Loc) (ls : Array Slot), va_P D vwCl (wl NM ad (EM K ad S)) H → va_S (IW NM ad) s.heap H locs → lv_has ls 4 [(0, .ref (ad 0)), (1, .int x1), (2, .int x2)] → W p l e rm4_whyPairs s m args below meth c H locs 0 0 (MQ below (va_Qi (fun (x : Int32) (u : Mem) => x = r ∧ u = T) (fun u t => va_P D vwCl (wl NM ad (EM K ad u)) t.heap) (IW NM ad)) args s 0 0 (IW NM ad)) (F0 m 0 ls []) := by
  have hx := C0.1
  have hb := C0.2.1
  have hts := C0.2.2.2.2.1
  have hown := C0.2.2.2.1
  have hKC := C0.2.2.2.2.2.2.2
  intro S x1 x2 hf H locs ls hP hS hl
  rw [f4_whyPairs] at hf
  refine lv_aload_n hx hb dX4_whyPairs_0 rfl (lv_at hl 0 rfl) ?_
  refine lv_iload_n hx hb dX4_whyPairs_1 rfl (lv_at hl 1 rfl) ?_
  obtain ⟨v2, h1, hf⟩ := b1_some hf
  refine sys_i hS (sys_runV (As := [.int x1]) (rest := []) C0 KM_ok hKC hP hS (by decide) (EM_0 K ad S) rfl (m4_isHouse l D K ad hI S x1 h1) gX4_whyPairs_X4_isHouse rfl ⟨rfl, rfl⟩ hd_X4_isHouse ⟨Nat.le_of_ble_eq_true rfl, Nat.le_of_ble_eq_true rfl⟩ hl.1 rfl (Nat.le_of_ble_eq_true rfl) dX4_whyPairs_2 ⟨Nat.le_refl _, Nat.le_refl _⟩) (fun H locs hP hS => ?_)
  refine lv_if_eq (tgt := 15) hx hb dX4_whyPairs_5 (by decide) (fun c3 => ?_) (fun c3 => ?_)
  · have hf := ite_t hf c3
    refine lv_iconst (v := (-1)) hx hb dX4_whyPairs_15 (by decide) ?_
    exact ret_i C0 hP hS (congrArg Prod.fst (Option.some.inj hf)) (congrArg Prod.snd (Option.some.inj hf)) dX4_whyPairs_16
  · have hf := ite_f hf c3
    refine lv_iload_n hx hb dX4_whyPairs_8 rfl (lv_at hl 2 rfl) ?_
    obtain ⟨v5, h4, hf⟩ := b1_some hf
    refine sys_i hS (sys_runS (As := [.int x2]) (rest := []) C0 KM_ok hP hS (m4_isRow l D K ad hI S x2 h4) gX4_whyPairs_X4_isRow rfl ⟨rfl, rfl⟩ hd_X4_isRow ⟨Nat.le_of_ble_eq_true rfl, Nat.le_of_ble_eq_true rfl⟩ hl.1 rfl (Nat.le_of_ble_eq_true rfl) dX4_whyPairs_9 ⟨Nat.le_refl _, Nat.le_refl _⟩) (fun H locs hP hS => ?_)
    refine lv_if_ne (tgt := 17) hx hb dX4_whyPairs_12 (by decide) (fun c6 => ?_) (fun c6 => ?_)
    · have hf := ite_f hf c6
      refine lv_aload_n hx hb dX4_whyPairs_17 rfl (lv_at hl 0 rfl) ?_
      refine x_get C0 hKC hP (by decide) (EM_0 K ad S) rfl in_X4_whyPairs_X4 5 (by decide) (List.mem_of_getElem? (i := 1) rfl) rfl dX4_whyPairs_18 ?_
      refine lv_iload_n hx hb dX4_whyPairs_21 rfl (lv_at hl 2 rfl) ?_
      obtain ⟨g7, hf⟩ := gd_some hf
      refine x_iald C0 hKC hP (IM_2 K ad) (t0 := 0) rfl g7 dX4_whyPairs_22 ?_
      refine lv_if_ge (tgt := 32) hx hb dX4_whyPairs_23 (by decide) (fun c8 => ?_) (fun c8 => ?_)
      · have hf := ite_t hf c8
        refine lv_aload_n hx hb dX4_whyPairs_32 rfl (lv_at hl 0 rfl) ?_
        refine x_get C0 hKC hP (by decide) (EM_0 K ad S) rfl in_X4_whyPairs_X4 5 (by decide) (List.mem_of_getElem? (i := 1) rfl) rfl dX4_whyPairs_33 ?_
        refine lv_iload_n hx hb dX4_whyPairs_36 rfl (lv_at hl 2 rfl) ?_
        obtain ⟨g9, hf⟩ := gd_some hf
        refine x_iald C0 hKC hP (IM_2 K ad) (t0 := 0) rfl g9 dX4_whyPairs_37 ?_
        refine lv_iconst (v := 2) hx hb dX4_whyPairs_38 (by decide) ?_
        refine lv_irem hx hb dX4_whyPairs_39 (by decide) ?_
        refine lv_iconst (v := 1) hx hb dX4_whyPairs_40 (by decide) ?_
        refine lv_icmp_ne (tgt := 50) hx hb dX4_whyPairs_41 (by decide) (fun c10 => ?_) (fun c10 => ?_)
        · have hf := ite_f hf c10
          refine lv_iconst (v := 0) hx hb dX4_whyPairs_50 (by decide) ?_
          refine lv_istore_n (lv' := [(3, .int 0), (0, .ref (ad 0)), (1, .int x1), (2, .int x2)]) hx hb dX4_whyPairs_51 rfl hl (by decide) rfl (fun ls hl => ?_)
          exact w4_whyPairs_b52 hI C0 FU S x2 0 hf H locs ls hP hS (lv_sub hl [1, 3, 0] rfl)
        · have hf := ite_t hf c10
          refine lv_aload_n hx hb dX4_whyPairs_44 rfl (lv_at hl 0 rfl) ?_
          refine lv_iconst (v := 5) hx hb dX4_whyPairs_45 (by decide) ?_
          obtain ⟨v12, S13, h11, hf⟩ := b2_some hf
          refine sys_i hS (sys_runV (As := [.int 5]) (rest := []) C0 KM_ok hKC hP hS (by decide) (EM_0 K ad S) rfl (m4_finds l D K ad hI S 5 h11) gX4_whyPairs_X4_finds rfl ⟨rfl, rfl⟩ hd_X4_finds ⟨Nat.le_of_ble_eq_true rfl, Nat.le_of_ble_eq_true rfl⟩ hl.1 rfl (Nat.le_of_ble_eq_true rfl) dX4_whyPairs_46 ⟨Nat.le_refl _, Nat.le_refl _⟩) (fun H locs hP hS => ?_)
          exact ret_i C0 hP hS (congrArg Prod.fst (Option.some.inj hf)) (congrArg Prod.snd (Option.some.inj hf)) dX4_whyPairs_49
      · have hf := ite_f hf c8
        refine lv_aload_n hx hb dX4_whyPairs_26 rfl (lv_at hl 0 rfl) ?_
        refine lv_iconst (v := 1) hx hb dX4_whyPairs_27 (by decide) ?_
        obtain ⟨v15, S16, h14, hf⟩ := b2_some hf
        refine sys_i hS (sys_runV (As := [.int 1]) (rest := []) C0 KM_ok hKC hP hS (by decide) (EM_0 K ad S) rfl (m4_finds l D K ad hI S 1 h14) gX4_whyPairs_X4_finds rfl ⟨rfl, rfl⟩ hd_X4_finds ⟨Nat.le_of_ble_eq_true rfl, Nat.le_of_ble_eq_true rfl⟩ hl.1 rfl (Nat.le_of_ble_eq_true rfl) dX4_whyPairs_28 ⟨Nat.le_refl _, Nat.le_refl _⟩) (fun H locs hP hS => ?_)
        exact ret_i C0 hP hS (congrArg Prod.fst (Option.some.inj hf)) (congrArg Prod.snd (Option.some.inj hf)) dX4_whyPairs_31
    · have hf := ite_t hf c6
      refine lv_iconst (v := (-1)) hx hb dX4_whyPairs_15 (by decide) ?_
      exact ret_i C0 hP hS (congrArg Prod.fst (Option.some.inj hf)) (congrArg Prod.snd (Option.some.inj hf)) dX4_whyPairs_16
theorem m4_whyPairs (l : Launch) (D : va_G) (K : Nat → ClassId) (ad : Nat → Nat) (hI : INJ NM ad) (S : Mem) (x1 : Int32) (x2 : Int32) {r : Int32} {T : Mem} (hf : f4_whyPairs S x1 x2 = some (r, T)) : SysI l yX4_whyPairs wsX4_whyPairs rm4_whyPairs D NM ad (EM K ad) (KM D K) [.ref (ad 0), .int x1, .int x2] S r T :=
  met_of (own := RX4) (by decide) rfl rfl (Nat.le_of_ble_eq_true rfl) (fun _ _ s _ _ _ _ ls C0 _ hP hl => w4_whyPairs hI C0 S x1 x2 hf s.heap [] ls hP va_S.rf hl)
theorem in_X4_kindsBy_X4 : ∀ w ∈ wsX40, w ∈ wsX4_kindsBy := fun _ h => List.mem_cons_of_mem _ (List.mem_append_right _ h)
theorem hd_X4_kindsBy : yX4_kindsBy.cls = RX4 ∧ yX4_kindsBy.cls ≠ "java/lang/invoke/MethodHandle" ∧ yX4_kindsBy.cls ≠ "java/lang/invoke/VarHandle" ∧ (parseMethodDescriptor yX4_kindsBy.desc).map (fun d => d.parameters.length) = some 1 := by decide +kernel
abbrev rm4_kindsBy : Room := { frames := 1, cells := 0, slots := 0, locals := 21 }
set_option maxHeartbeats 4000000 in
set_option maxRecDepth 100000 in
theorem w4_kindsBy_b91 {p : Program} {l : Launch} {e : Env} {s : State} {m : MethodId} {args : Array Value} {below : List Frame} {meth : Method} {c : Code} {D : va_G} {K : Nat → ClassId} {ad : Nat → Nat} (hI : INJ NM ad) (C0 : Cx p s m args meth c RX4 wsX4_kindsBy cX4_kindsBy 6 (some .int) (KM D K)) (S : Mem) {r : Int32} (k4 : Int32 → Int32 → Int32 → Option Int32) (hk4 : ∀ (x1 : Int32) (x2 : Int32) (x3 : Int32), k4 x1 x2 x3 = some r → ∀ (H : Heap) (locs : List Loc) (ls : Array Slot), va_P D vwCl (wl NM ad (EM K ad S)) H → va_S (IW NM ad) s.heap H locs → lv_has ls 6 [(0, .ref (ad 0)), (1, .int x1), (2, .int x2), (3, .int x3)] → W p l e rm4_kindsBy s m args below meth c H locs 0 0 (MQ below (va_Qi (fun (x : Int32) (u : Mem) => x = r ∧ u = S) (fun u t => va_P D vwCl (wl NM ad (EM K ad u)) t.heap) (IW NM ad)) args s 0 0 (IW NM ad)) (F0 m 4 ls [])) : ∀ (x1 : Int32) (x3 : Int32) (t0 : Int32) (t1 : Int32), f4_kindsBy_b91 k4 S x1 x3 t0 t1 = some r → ∀ (H : Heap) (locs : List Loc) (ls : Array Slot), va_P D vwCl (wl NM ad (EM K ad S)) H → va_S (IW NM ad) s.heap H locs → lv_has ls 6 [(0, .ref (ad 0)), (1, .int x1), (3, .int x3)] → W p l e rm4_kindsBy s m args below meth c H locs 0 0 (MQ below (va_Qi (fun (x : Int32) (u : Mem) => x = r ∧ u = S) (fun u t => va_P D vwCl (wl NM ad (EM K ad u)) t.heap) (IW NM ad)) args s 0 0 (IW NM ad)) (F0 m 91 ls [.int t1, .int t0]) := by
  have hx := C0.1
  have hb := C0.2.1
  have hts := C0.2.2.2.2.1
  have hown := C0.2.2.2.1
  have hKC := C0.2.2.2.2.2.2.2
  intro x1 x3 t0 t1 hf H locs ls hP hS hl
  rw [f4_kindsBy_b91] at hf
  refine lv_ior hx hb dX4_kindsBy_91 ?_
  refine lv_topi (fun v1 ev1 => ?_)
  have hf := nm_at ev1 hf
  refine lv_istore_n (lv' := [(2, .int v1), (0, .ref (ad 0)), (1, .int x1), (3, .int x3)]) hx hb dX4_kindsBy_92 rfl hl (by decide) rfl (fun ls hl => ?_)
  obtain ⟨v2, ev2⟩ : ∃ y : Int32, y = x3 + 1 := ⟨_, rfl⟩
  have hf := nm_at ev2 hf
  refine lv_iinc (v := v2) (lv' := [(3, .int v2), (2, .int v1), (0, .ref (ad 0)), (1, .int x1)]) hx hb dX4_kindsBy_93 hl (k := 3) rfl (by rw [ev2]; rfl) (by decide) rfl (fun ls hl => ?_)
  refine lv_goto (tgt := 4) hx hb dX4_kindsBy_96 (by decide) ?_
  exact hk4 x1 v1 v2 hf H locs ls hP hS (lv_sub hl [2, 3, 1, 0] rfl)
set_option maxHeartbeats 4000000 in
set_option maxRecDepth 100000 in
theorem w4_kindsBy_b70 {p : Program} {l : Launch} {e : Env} {s : State} {m : MethodId} {args : Array Value} {below : List Frame} {meth : Method} {c : Code} {D : va_G} {K : Nat → ClassId} {ad : Nat → Nat} (hI : INJ NM ad) (C0 : Cx p s m args meth c RX4 wsX4_kindsBy cX4_kindsBy 6 (some .int) (KM D K)) (S : Mem) {r : Int32} (k4 : Int32 → Int32 → Int32 → Option Int32) (hk4 : ∀ (x1 : Int32) (x2 : Int32) (x3 : Int32), k4 x1 x2 x3 = some r → ∀ (H : Heap) (locs : List Loc) (ls : Array Slot), va_P D vwCl (wl NM ad (EM K ad S)) H → va_S (IW NM ad) s.heap H locs → lv_has ls 6 [(0, .ref (ad 0)), (1, .int x1), (2, .int x2), (3, .int x3)] → W p l e rm4_kindsBy s m args below meth c H locs 0 0 (MQ below (va_Qi (fun (x : Int32) (u : Mem) => x = r ∧ u = S) (fun u t => va_P D vwCl (wl NM ad (EM K ad u)) t.heap) (IW NM ad)) args s 0 0 (IW NM ad)) (F0 m 4 ls [])) (k16 : Int32 → Int32 → Int32 → Int32 → Int32 → Option Int32) (hk16 : ∀ (x1 : Int32) (x2 : Int32) (x3 : Int32) (x4 : Int32) (x5 : Int32), k16 x1 x2 x3 x4 x5 = some r → ∀ (H : Heap) (locs : List Loc) (ls : Array Slot), va_P D vwCl (wl NM ad (EM K ad S)) H → va_S (IW NM ad) s.heap H locs → lv_has ls 6 [(0, .ref (ad 0)), (1, .int x1), (2, .int x2), (3, .int x3), (4, .int x4), (5, .int x5)] → W p l e rm4_kindsBy s m args below meth c H locs 0 0 (MQ below (va_Qi (fun (x : Int32) (u : Mem) => x = r ∧ u = S) (fun u t => va_P D vwCl (wl NM ad (EM K ad u)) t.heap) (IW NM ad)) args s 0 0 (IW NM ad)) (F0 m 16 ls [])) : ∀ (x1 : Int32) (x2 : Int32) (x3 : Int32) (x5 : Int32) (t0 : Int32), f4_kindsBy_b70 k4 k16 S x1 x2 x3 x5 t0 = some r → ∀ (H : Heap) (locs : List Loc) (ls : Array Slot), va_P D vwCl (wl NM ad (EM K ad S)) H → va_S (IW NM ad) s.heap H locs → lv_has ls 6 [(0, .ref (ad 0)), (1, .int x1), (2, .int x2), (3, .int x3), (5, .int x5)] → W p l e rm4_kindsBy s m args below meth c H locs 0 0 (MQ below (va_Qi (fun (x : Int32) (u : Mem) => x = r ∧ u = S) (fun u t => va_P D vwCl (wl NM ad (EM K ad u)) t.heap) (IW NM ad)) args s 0 0 (IW NM ad)) (F0 m 70 ls [.int t0]) := by
  have hx := C0.1
  have hb := C0.2.1
  have hts := C0.2.2.2.2.1
  have hown := C0.2.2.2.1
  have hKC := C0.2.2.2.2.2.2.2
  intro x1 x2 x3 x5 t0 hf H locs ls hP hS hl
  rw [f4_kindsBy_b70] at hf
  refine lv_istore (lv' := [(4, .int t0), (0, .ref (ad 0)), (1, .int x1), (2, .int x2), (3, .int x3), (5, .int x5)]) hx hb dX4_kindsBy_70 hl (by decide) rfl (fun ls hl => ?_)
  obtain ⟨v1, ev1⟩ : ∃ y : Int32, y = x5 + 2 := ⟨_, rfl⟩
  have hf := nm_at ev1 hf
  refine lv_iinc (v := v1) (lv' := [(5, .int v1), (4, .int t0), (0, .ref (ad 0)), (1, .int x1), (2, .int x2), (3, .int x3)]) hx hb dX4_kindsBy_72 hl (k := 5) rfl (by rw [ev1]; rfl) (by decide) rfl (fun ls hl => ?_)
  refine lv_goto (tgt := 16) hx hb dX4_kindsBy_75 (by decide) ?_
  exact hk16 x1 x2 x3 t0 v1 hf H locs ls hP hS (lv_sub hl [2, 3, 4, 5, 1, 0] rfl)
set_option maxHeartbeats 4000000 in
set_option maxRecDepth 100000 in
theorem w4_kindsBy_b69 {p : Program} {l : Launch} {e : Env} {s : State} {m : MethodId} {args : Array Value} {below : List Frame} {meth : Method} {c : Code} {D : va_G} {K : Nat → ClassId} {ad : Nat → Nat} (hI : INJ NM ad) (C0 : Cx p s m args meth c RX4 wsX4_kindsBy cX4_kindsBy 6 (some .int) (KM D K)) (S : Mem) {r : Int32} (k4 : Int32 → Int32 → Int32 → Option Int32) (hk4 : ∀ (x1 : Int32) (x2 : Int32) (x3 : Int32), k4 x1 x2 x3 = some r → ∀ (H : Heap) (locs : List Loc) (ls : Array Slot), va_P D vwCl (wl NM ad (EM K ad S)) H → va_S (IW NM ad) s.heap H locs → lv_has ls 6 [(0, .ref (ad 0)), (1, .int x1), (2, .int x2), (3, .int x3)] → W p l e rm4_kindsBy s m args below meth c H locs 0 0 (MQ below (va_Qi (fun (x : Int32) (u : Mem) => x = r ∧ u = S) (fun u t => va_P D vwCl (wl NM ad (EM K ad u)) t.heap) (IW NM ad)) args s 0 0 (IW NM ad)) (F0 m 4 ls [])) (k16 : Int32 → Int32 → Int32 → Int32 → Int32 → Option Int32) (hk16 : ∀ (x1 : Int32) (x2 : Int32) (x3 : Int32) (x4 : Int32) (x5 : Int32), k16 x1 x2 x3 x4 x5 = some r → ∀ (H : Heap) (locs : List Loc) (ls : Array Slot), va_P D vwCl (wl NM ad (EM K ad S)) H → va_S (IW NM ad) s.heap H locs → lv_has ls 6 [(0, .ref (ad 0)), (1, .int x1), (2, .int x2), (3, .int x3), (4, .int x4), (5, .int x5)] → W p l e rm4_kindsBy s m args below meth c H locs 0 0 (MQ below (va_Qi (fun (x : Int32) (u : Mem) => x = r ∧ u = S) (fun u t => va_P D vwCl (wl NM ad (EM K ad u)) t.heap) (IW NM ad)) args s 0 0 (IW NM ad)) (F0 m 16 ls [])) : ∀ (x1 : Int32) (x2 : Int32) (x3 : Int32) (x5 : Int32), f4_kindsBy_b69 k4 k16 S x1 x2 x3 x5 = some r → ∀ (H : Heap) (locs : List Loc) (ls : Array Slot), va_P D vwCl (wl NM ad (EM K ad S)) H → va_S (IW NM ad) s.heap H locs → lv_has ls 6 [(0, .ref (ad 0)), (1, .int x1), (2, .int x2), (3, .int x3), (5, .int x5)] → W p l e rm4_kindsBy s m args below meth c H locs 0 0 (MQ below (va_Qi (fun (x : Int32) (u : Mem) => x = r ∧ u = S) (fun u t => va_P D vwCl (wl NM ad (EM K ad u)) t.heap) (IW NM ad)) args s 0 0 (IW NM ad)) (F0 m 69 ls []) := by
  have hx := C0.1
  have hb := C0.2.1
  have hts := C0.2.2.2.2.1
  have hown := C0.2.2.2.1
  have hKC := C0.2.2.2.2.2.2.2
  intro x1 x2 x3 x5 hf H locs ls hP hS hl
  rw [f4_kindsBy_b69] at hf
  refine lv_iconst (v := 0) hx hb dX4_kindsBy_69 (by decide) ?_
  exact w4_kindsBy_b70 hI C0 S k4 hk4 k16 hk16 x1 x2 x3 x5 0 hf H locs ls hP hS (lv_sub hl [0, 1, 2, 3, 4] rfl)
set_option maxHeartbeats 4000000 in
set_option maxRecDepth 100000 in
theorem w4_kindsBy_b16 {p : Program} {l : Launch} {e : Env} {s : State} {m : MethodId} {args : Array Value} {below : List Frame} {meth : Method} {c : Code} {D : va_G} {K : Nat → ClassId} {ad : Nat → Nat} (hI : INJ NM ad) (C0 : Cx p s m args meth c RX4 wsX4_kindsBy cX4_kindsBy 6 (some .int) (KM D K)) (S : Mem) {r : Int32} (k4 : Int32 → Int32 → Int32 → Option Int32) (hk4 : ∀ (x1 : Int32) (x2 : Int32) (x3 : Int32), k4 x1 x2 x3 = some r → ∀ (H : Heap) (locs : List Loc) (ls : Array Slot), va_P D vwCl (wl NM ad (EM K ad S)) H → va_S (IW NM ad) s.heap H locs → lv_has ls 6 [(0, .ref (ad 0)), (1, .int x1), (2, .int x2), (3, .int x3)] → W p l e rm4_kindsBy s m args below meth c H locs 0 0 (MQ below (va_Qi (fun (x : Int32) (u : Mem) => x = r ∧ u = S) (fun u t => va_P D vwCl (wl NM ad (EM K ad u)) t.heap) (IW NM ad)) args s 0 0 (IW NM ad)) (F0 m 4 ls [])) : ∀ (n : Nat), ∀ (x1 : Int32) (x2 : Int32) (x3 : Int32) (x4 : Int32) (x5 : Int32), f4_kindsBy_b16 k4 S n x1 x2 x3 x4 x5 = some r → ∀ (H : Heap) (locs : List Loc) (ls : Array Slot), va_P D vwCl (wl NM ad (EM K ad S)) H → va_S (IW NM ad) s.heap H locs → lv_has ls 6 [(0, .ref (ad 0)), (1, .int x1), (2, .int x2), (3, .int x3), (4, .int x4), (5, .int x5)] → W p l e rm4_kindsBy s m args below meth c H locs 0 0 (MQ below (va_Qi (fun (x : Int32) (u : Mem) => x = r ∧ u = S) (fun u t => va_P D vwCl (wl NM ad (EM K ad u)) t.heap) (IW NM ad)) args s 0 0 (IW NM ad)) (F0 m 16 ls []) := by
  have hx := C0.1
  have hb := C0.2.1
  have hts := C0.2.2.2.2.1
  have hown := C0.2.2.2.1
  have hKC := C0.2.2.2.2.2.2.2
  intro n
  induction n with
  | zero =>
    intro x1 x2 x3 x4 x5 hf
    rw [f4_kindsBy_b16] at hf
    cases hf
  | succ n ih =>
    intro x1 x2 x3 x4 x5 hf H locs ls hP hS hl
    rw [f4_kindsBy_b16] at hf
    refine lv_iload hx hb dX4_kindsBy_16 (lv_at hl 5 rfl) ?_
    refine lv_aload_n hx hb dX4_kindsBy_18 rfl (lv_at hl 0 rfl) ?_
    refine x_get C0 hKC hP (by decide) (EM_0 K ad S) rfl in_X4_kindsBy_X4 5 (by decide) (List.mem_of_getElem? (i := 1) rfl) rfl dX4_kindsBy_19 ?_
    refine lv_iload_n hx hb dX4_kindsBy_22 rfl (lv_at hl 1 rfl) ?_
    obtain ⟨g1, hf⟩ := gd_some hf
    refine x_iald C0 hKC hP (IM_2 K ad) (t0 := 0) rfl g1 dX4_kindsBy_23 ?_
    refine lv_icmp_ge (tgt := 78) hx hb dX4_kindsBy_24 (by decide) (fun c2 => ?_) (fun c2 => ?_)
    · have hf := ite_t hf c2
      refine lv_iload_n hx hb dX4_kindsBy_78 rfl (lv_at hl 2 rfl) ?_
      refine lv_iload hx hb dX4_kindsBy_79 (lv_at hl 4 rfl) ?_
      refine lv_if_eq (tgt := 90) hx hb dX4_kindsBy_81 (by decide) (fun c3 => ?_) (fun c3 => ?_)
      · have hf := ite_t hf c3
        refine lv_iconst (v := 0) hx hb dX4_kindsBy_90 (by decide) ?_
        exact w4_kindsBy_b91 hI C0 S k4 hk4 x1 x3 x2 0 hf H locs ls hP hS (lv_sub hl [0, 1, 3] rfl)
      · have hf := ite_f hf c3
        refine lv_iconst (v := 1) hx hb dX4_kindsBy_84 (by decide) ?_
        refine lv_iload_n hx hb dX4_kindsBy_85 rfl (lv_at hl 3 rfl) ?_
        refine lv_ishl hx hb dX4_kindsBy_86 ?_
        refine lv_goto (tgt := 91) hx hb dX4_kindsBy_87 (by decide) ?_
        exact w4_kindsBy_b91 hI C0 S k4 hk4 x1 x3 x2 (1 <<< (x3 &&& 31)) hf H locs ls hP hS (lv_sub hl [0, 1, 3] rfl)
    · have hf := ite_f hf c2
      refine lv_iload hx hb dX4_kindsBy_27 (lv_at hl 4 rfl) ?_
      refine lv_if_eq (tgt := 69) hx hb dX4_kindsBy_29 (by decide) (fun c4 => ?_) (fun c4 => ?_)
      · have hf := ite_t hf c4
        exact w4_kindsBy_b69 hI C0 S k4 hk4 (f4_kindsBy_b16 k4 S n) ih x1 x2 x3 x5 hf H locs ls hP hS (lv_sub hl [0, 1, 2, 3, 5] rfl)
      · have hf := ite_f hf c4
        refine lv_iload_n hx hb dX4_kindsBy_32 rfl (lv_at hl 3 rfl) ?_
        refine lv_aload_n hx hb dX4_kindsBy_33 rfl (lv_at hl 0 rfl) ?_
        refine x_get C0 hKC hP (by decide) (EM_0 K ad S) rfl in_X4_kindsBy_X4 6 (by decide) (List.mem_of_getElem? (i := 2) rfl) rfl dX4_kindsBy_34 ?_
        refine lv_bipush (v := 40) hx hb dX4_kindsBy_37 (by decide) ?_
        refine lv_iload_n hx hb dX4_kindsBy_39 rfl (lv_at hl 1 rfl) ?_
        refine lv_imul hx hb dX4_kindsBy_40 ?_
        refine lv_iload hx hb dX4_kindsBy_41 (lv_at hl 5 rfl) ?_
        refine lv_iadd hx hb dX4_kindsBy_43 ?_
        obtain ⟨g5, hf⟩ := gd_some hf
        refine x_iald C0 hKC hP (IM_3 K ad) (t0 := 0) rfl g5 dX4_kindsBy_44 ?_
        obtain ⟨v7, h6, hf⟩ := b1_some hf
        refine sys_i hS (sys_runS (As := [.int x3, .int (gi S 3 (ix ((40 * x1) + x5)))]) (rest := []) C0 KM_ok hP hS (m4_worthTo l D K ad hI S x3 (gi S 3 (ix ((40 * x1) + x5))) h6) gX4_kindsBy_X4_worthTo rfl ⟨rfl, rfl⟩ hd_X4_worthTo ⟨Nat.le_of_ble_eq_true rfl, Nat.le_of_ble_eq_true rfl⟩ hl.1 rfl (Nat.le_of_ble_eq_true rfl) dX4_kindsBy_45 ⟨Nat.le_refl _, Nat.le_refl _⟩) (fun H locs hP hS => ?_)
        refine lv_aload_n hx hb dX4_kindsBy_48 rfl (lv_at hl 0 rfl) ?_
        refine x_get C0 hKC hP (by decide) (EM_0 K ad S) rfl in_X4_kindsBy_X4 6 (by decide) (List.mem_of_getElem? (i := 2) rfl) rfl dX4_kindsBy_49 ?_
        refine lv_bipush (v := 40) hx hb dX4_kindsBy_52 (by decide) ?_
        refine lv_iload_n hx hb dX4_kindsBy_54 rfl (lv_at hl 1 rfl) ?_
        refine lv_imul hx hb dX4_kindsBy_55 ?_
        refine lv_iload hx hb dX4_kindsBy_56 (lv_at hl 5 rfl) ?_
        refine lv_iadd hx hb dX4_kindsBy_58 ?_
        refine lv_iconst (v := 1) hx hb dX4_kindsBy_59 (by decide) ?_
        refine lv_iadd hx hb dX4_kindsBy_60 ?_
        obtain ⟨g8, hf⟩ := gd_some hf
        refine x_iald C0 hKC hP (IM_3 K ad) (t0 := 0) rfl g8 dX4_kindsBy_61 ?_
        refine lv_icmp_ne (tgt := 69) hx hb dX4_kindsBy_62 (by decide) (fun c9 => ?_) (fun c9 => ?_)
        · have hf := ite_f hf c9
          exact w4_kindsBy_b69 hI C0 S k4 hk4 (f4_kindsBy_b16 k4 S n) ih x1 x2 x3 x5 hf H locs ls hP hS (lv_sub hl [0, 1, 2, 3, 5] rfl)
        · have hf := ite_t hf c9
          refine lv_iconst (v := 1) hx hb dX4_kindsBy_65 (by decide) ?_
          refine lv_goto (tgt := 70) hx hb dX4_kindsBy_66 (by decide) ?_
          exact w4_kindsBy_b70 hI C0 S k4 hk4 (f4_kindsBy_b16 k4 S n) ih x1 x2 x3 x5 1 hf H locs ls hP hS (lv_sub hl [0, 1, 2, 3, 5] rfl)
set_option maxHeartbeats 4000000 in
set_option maxRecDepth 100000 in
theorem w4_kindsBy_b4 {p : Program} {l : Launch} {e : Env} {s : State} {m : MethodId} {args : Array Value} {below : List Frame} {meth : Method} {c : Code} {D : va_G} {K : Nat → ClassId} {ad : Nat → Nat} (hI : INJ NM ad) (C0 : Cx p s m args meth c RX4 wsX4_kindsBy cX4_kindsBy 6 (some .int) (KM D K)) (S : Mem) {r : Int32} : ∀ (n : Nat), ∀ (x1 : Int32) (x2 : Int32) (x3 : Int32), f4_kindsBy_b4 S n x1 x2 x3 = some r → ∀ (H : Heap) (locs : List Loc) (ls : Array Slot), va_P D vwCl (wl NM ad (EM K ad S)) H → va_S (IW NM ad) s.heap H locs → lv_has ls 6 [(0, .ref (ad 0)), (1, .int x1), (2, .int x2), (3, .int x3)] → W p l e rm4_kindsBy s m args below meth c H locs 0 0 (MQ below (va_Qi (fun (x : Int32) (u : Mem) => x = r ∧ u = S) (fun u t => va_P D vwCl (wl NM ad (EM K ad u)) t.heap) (IW NM ad)) args s 0 0 (IW NM ad)) (F0 m 4 ls []) := by
  have hx := C0.1
  have hb := C0.2.1
  have hts := C0.2.2.2.2.1
  have hown := C0.2.2.2.1
  have hKC := C0.2.2.2.2.2.2.2
  intro n
  induction n with
  | zero =>
    intro x1 x2 x3 hf
    rw [f4_kindsBy_b4] at hf
    cases hf
  | succ n ih =>
    intro x1 x2 x3 hf H locs ls hP hS hl
    rw [f4_kindsBy_b4] at hf
    refine lv_iload_n hx hb dX4_kindsBy_4 rfl (lv_at hl 3 rfl) ?_
    refine lv_bipush (v := 6) hx hb dX4_kindsBy_5 (by decide) ?_
    refine lv_icmp_ge (tgt := 99) hx hb dX4_kindsBy_7 (by decide) (fun c1 => ?_) (fun c1 => ?_)
    · have hf := ite_t hf c1
      refine lv_iload_n hx hb dX4_kindsBy_99 rfl (lv_at hl 2 rfl) ?_
      exact ret_i C0 hP hS (Option.some.inj hf) rfl dX4_kindsBy_100
    · have hf := ite_f hf c1
      refine lv_iconst (v := 1) hx hb dX4_kindsBy_10 (by decide) ?_
      refine lv_istore (lv' := [(4, .int 1), (0, .ref (ad 0)), (1, .int x1), (2, .int x2), (3, .int x3)]) hx hb dX4_kindsBy_11 hl (by decide) rfl (fun ls hl => ?_)
      refine lv_iconst (v := 0) hx hb dX4_kindsBy_13 (by decide) ?_
      refine lv_istore (lv' := [(5, .int 0), (4, .int 1), (0, .ref (ad 0)), (1, .int x1), (2, .int x2), (3, .int x3)]) hx hb dX4_kindsBy_14 hl (by decide) rfl (fun ls hl => ?_)
      exact w4_kindsBy_b16 hI C0 S (f4_kindsBy_b4 S n) ih FU x1 x2 x3 1 0 hf H locs ls hP hS (lv_sub hl [2, 3, 4, 5, 1, 0] rfl)
set_option maxHeartbeats 4000000 in
set_option maxRecDepth 100000 in
theorem w4_kindsBy {p : Program} {l : Launch} {e : Env} {s : State} {m : MethodId} {args : Array Value} {below : List Frame} {meth : Method} {c : Code} {D : va_G} {K : Nat → ClassId} {ad : Nat → Nat} (hI : INJ NM ad) (C0 : Cx p s m args meth c RX4 wsX4_kindsBy cX4_kindsBy 6 (some .int) (KM D K)) (S : Mem) {r : Int32} : ∀ (x1 : Int32), f4_kindsBy S x1 = some r → ∀ (H : Heap) (locs : List Loc) (ls : Array Slot), va_P D vwCl (wl NM ad (EM K ad S)) H → va_S (IW NM ad) s.heap H locs → lv_has ls 6 [(0, .ref (ad 0)), (1, .int x1)] → W p l e rm4_kindsBy s m args below meth c H locs 0 0 (MQ below (va_Qi (fun (x : Int32) (u : Mem) => x = r ∧ u = S) (fun u t => va_P D vwCl (wl NM ad (EM K ad u)) t.heap) (IW NM ad)) args s 0 0 (IW NM ad)) (F0 m 0 ls []) := by
  have hx := C0.1
  have hb := C0.2.1
  have hts := C0.2.2.2.2.1
  have hown := C0.2.2.2.1
  have hKC := C0.2.2.2.2.2.2.2
  intro x1 hf H locs ls hP hS hl
  rw [f4_kindsBy] at hf
  refine lv_iconst (v := 0) hx hb dX4_kindsBy_0 (by decide) ?_
  refine lv_istore_n (lv' := [(2, .int 0), (0, .ref (ad 0)), (1, .int x1)]) hx hb dX4_kindsBy_1 rfl hl (by decide) rfl (fun ls hl => ?_)
  refine lv_iconst (v := 0) hx hb dX4_kindsBy_2 (by decide) ?_
  refine lv_istore_n (lv' := [(3, .int 0), (2, .int 0), (0, .ref (ad 0)), (1, .int x1)]) hx hb dX4_kindsBy_3 rfl hl (by decide) rfl (fun ls hl => ?_)
  exact w4_kindsBy_b4 hI C0 S FU x1 0 0 hf H locs ls hP hS (lv_sub hl [2, 3, 1, 0] rfl)
theorem m4_kindsBy (l : Launch) (D : va_G) (K : Nat → ClassId) (ad : Nat → Nat) (hI : INJ NM ad) (S : Mem) (x1 : Int32) {r : Int32} (hf : f4_kindsBy S x1 = some r) : SysI l yX4_kindsBy wsX4_kindsBy rm4_kindsBy D NM ad (EM K ad) (KM D K) [.ref (ad 0), .int x1] S r S :=
  met_of (own := RX4) (by decide) rfl rfl (Nat.le_of_ble_eq_true rfl) (fun _ _ s _ _ _ _ ls C0 _ hP hl => w4_kindsBy hI C0 S x1 hf s.heap [] ls hP va_S.rf hl)
theorem in_X4_kinds_X4 : ∀ w ∈ wsX40, w ∈ wsX4_kinds := fun _ h => List.mem_cons_of_mem _ (List.mem_append_right _ h)
theorem hd_X4_kinds : yX4_kinds.cls = RX4 ∧ yX4_kinds.cls ≠ "java/lang/invoke/MethodHandle" ∧ yX4_kinds.cls ≠ "java/lang/invoke/VarHandle" ∧ (parseMethodDescriptor yX4_kinds.desc).map (fun d => d.parameters.length) = some 2 := by decide +kernel
abbrev rm4_kinds : Room := { frames := 3, cells := 0, slots := 0, locals := 69 }
set_option maxHeartbeats 4000000 in
set_option maxRecDepth 100000 in
theorem w4_kinds {p : Program} {l : Launch} {e : Env} {s : State} {m : MethodId} {args : Array Value} {below : List Frame} {meth : Method} {c : Code} {D : va_G} {K : Nat → ClassId} {ad : Nat → Nat} (hI : INJ NM ad) (C0 : Cx p s m args meth c RX4 wsX4_kinds cX4_kinds 4 (some .int) (KM D K)) {r : Int32} {T : Mem} : ∀ (S : Mem) (x1 : Int32) (x2 : Int32), f4_kinds S x1 x2 = some (r, T) → ∀ (H : Heap) (locs : List Loc) (ls : Array Slot), va_P D vwCl (wl NM ad (EM K ad S)) H → va_S (IW NM ad) s.heap H locs → lv_has ls 4 [(0, .ref (ad 0)), (1, .int x1), (2, .int x2)] → W p l e rm4_kinds s m args below meth c H locs 0 0 (MQ below (va_Qi (fun (x : Int32) (u : Mem) => x = r ∧ u = T) (fun u t => va_P D vwCl (wl NM ad (EM K ad u)) t.heap) (IW NM ad)) args s 0 0 (IW NM ad)) (F0 m 0 ls []) := by
  have hx := C0.1
  have hb := C0.2.1
  have hts := C0.2.2.2.2.1
  have hown := C0.2.2.2.1
  have hKC := C0.2.2.2.2.2.2.2
  intro S x1 x2 hf H locs ls hP hS hl
  rw [f4_kinds] at hf
  refine lv_aload_n hx hb dX4_kinds_0 rfl (lv_at hl 0 rfl) ?_
  refine lv_iload_n hx hb dX4_kinds_1 rfl (lv_at hl 1 rfl) ?_
  refine lv_iload_n hx hb dX4_kinds_2 rfl (lv_at hl 2 rfl) ?_
  obtain ⟨v2, S3, h1, hf⟩ := b2_some hf
  refine sys_i hS (sys_runV (As := [.int x1, .int x2]) (rest := []) C0 KM_ok hKC hP hS (by decide) (EM_0 K ad S) rfl (m4_whyPairs l D K ad hI S x1 x2 h1) gX4_kinds_X4_whyPairs rfl ⟨rfl, rfl⟩ hd_X4_whyPairs ⟨Nat.le_of_ble_eq_true rfl, Nat.le_of_ble_eq_true rfl⟩ hl.1 rfl (Nat.le_of_ble_eq_true rfl) dX4_kinds_3 ⟨Nat.le_refl _, Nat.le_refl _⟩) (fun H locs hP hS => ?_)
  refine lv_istore_n (lv' := [(3, .int v2), (0, .ref (ad 0)), (1, .int x1), (2, .int x2)]) hx hb dX4_kinds_6 rfl hl (by decide) rfl (fun ls hl => ?_)
  refine lv_iload_n hx hb dX4_kinds_7 rfl (lv_at hl 0 rfl) ?_
  refine lv_if_ge (tgt := 15) hx hb dX4_kinds_8 (by decide) (fun c4 => ?_) (fun c4 => ?_)
  · have hf := ite_t hf c4
    refine lv_aload_n hx hb dX4_kinds_15 rfl (lv_at hl 1 rfl) ?_
    refine lv_iload_n hx hb dX4_kinds_16 rfl (lv_at hl 3 rfl) ?_
    obtain ⟨v6, h5, hf⟩ := b1_some hf
    refine sys_i hS (sys_runV (As := [.int x2]) (rest := []) C0 KM_ok hKC hP hS (by decide) (EM_0 K ad S3) rfl (m4_kindsBy l D K ad hI S3 x2 h5) gX4_kinds_X4_kindsBy rfl ⟨rfl, rfl⟩ hd_X4_kindsBy ⟨Nat.le_of_ble_eq_true rfl, Nat.le_of_ble_eq_true rfl⟩ hl.1 rfl (Nat.le_of_ble_eq_true rfl) dX4_kinds_17 ⟨Nat.le_refl _, Nat.le_refl _⟩) (fun H locs hP hS => ?_)
    exact ret_i C0 hP hS (congrArg Prod.fst (Option.some.inj hf)) (congrArg Prod.snd (Option.some.inj hf)) dX4_kinds_20
  · have hf := ite_f hf c4
    refine lv_iload_n hx hb dX4_kinds_11 rfl (lv_at hl 0 rfl) ?_
    refine lv_goto (tgt := 20) hx hb dX4_kinds_12 (by decide) ?_
    exact ret_i C0 hP hS (congrArg Prod.fst (Option.some.inj hf)) (congrArg Prod.snd (Option.some.inj hf)) dX4_kinds_20
theorem m4_kinds (l : Launch) (D : va_G) (K : Nat → ClassId) (ad : Nat → Nat) (hI : INJ NM ad) (S : Mem) (x1 : Int32) (x2 : Int32) {r : Int32} {T : Mem} (hf : f4_kinds S x1 x2 = some (r, T)) : SysI l yX4_kinds wsX4_kinds rm4_kinds D NM ad (EM K ad) (KM D K) [.ref (ad 0), .int x1, .int x2] S r T :=
  met_of (own := RX4) (by decide) rfl rfl (Nat.le_of_ble_eq_true rfl) (fun _ _ s _ _ _ _ ls C0 _ hP hl => w4_kinds hI C0 S x1 x2 hf s.heap [] ls hP va_S.rf hl)
theorem in_X4_test_X4 : ∀ w ∈ wsX40, w ∈ wsX4_test := fun _ h => List.mem_cons_of_mem _ (List.mem_append_right _ h)
theorem hd_X4_test : yX4_test.cls = RX4 ∧ yX4_test.cls ≠ "java/lang/invoke/MethodHandle" ∧ yX4_test.cls ≠ "java/lang/invoke/VarHandle" ∧ (parseMethodDescriptor yX4_test.desc).map (fun d => d.parameters.length) = some 2 := by decide +kernel
abbrev rm4_test : Room := { frames := 3, cells := 0, slots := 0, locals := 69 }
set_option maxHeartbeats 4000000 in
set_option maxRecDepth 100000 in
theorem w4_test_b190 {p : Program} {l : Launch} {e : Env} {s : State} {m : MethodId} {args : Array Value} {below : List Frame} {meth : Method} {c : Code} {D : va_G} {K : Nat → ClassId} {ad : Nat → Nat} (hI : INJ NM ad) (C0 : Cx p s m args meth c RX4 wsX4_test cX4_test 13 (some .int) (KM D K)) {r : Int32} {T : Mem} (k38 : Mem → Int32 → Int32 → Int32 → Int32 → Option (Int32 × Mem)) (hk38 : ∀ (S : Mem) (x4 : Int32) (x5 : Int32) (x6 : Int32) (x7 : Int32), k38 S x4 x5 x6 x7 = some (r, T) → ∀ (H : Heap) (locs : List Loc) (ls : Array Slot), va_P D vwCl (wl NM ad (EM K ad S)) H → va_S (IW NM ad) s.heap H locs → lv_has ls 13 [(0, .ref (ad 0)), (4, .int x4), (5, .int x5), (6, .int x6), (7, .int x7)] → W p l e rm4_test s m args below meth c H locs 0 0 (MQ below (va_Qi (fun (x : Int32) (u : Mem) => x = r ∧ u = T) (fun u t => va_P D vwCl (wl NM ad (EM K ad u)) t.heap) (IW NM ad)) args s 0 0 (IW NM ad)) (F0 m 38 ls [])) : ∀ (S : Mem) (x4 : Int32) (x5 : Int32) (x7 : Int32) (t0 : Int32), f4_test_b190 k38 S x4 x5 x7 t0 = some (r, T) → ∀ (H : Heap) (locs : List Loc) (ls : Array Slot), va_P D vwCl (wl NM ad (EM K ad S)) H → va_S (IW NM ad) s.heap H locs → lv_has ls 13 [(0, .ref (ad 0)), (4, .int x4), (5, .int x5), (7, .int x7)] → W p l e rm4_test s m args below meth c H locs 0 0 (MQ below (va_Qi (fun (x : Int32) (u : Mem) => x = r ∧ u = T) (fun u t => va_P D vwCl (wl NM ad (EM K ad u)) t.heap) (IW NM ad)) args s 0 0 (IW NM ad)) (F0 m 190 ls [.int t0]) := by
  have hx := C0.1
  have hb := C0.2.1
  have hts := C0.2.2.2.2.1
  have hown := C0.2.2.2.1
  have hKC := C0.2.2.2.2.2.2.2
  intro S x4 x5 x7 t0 hf H locs ls hP hS hl
  rw [f4_test_b190] at hf
  refine lv_istore (lv' := [(6, .int t0), (0, .ref (ad 0)), (4, .int x4), (5, .int x5), (7, .int x7)]) hx hb dX4_test_190 hl (by decide) rfl (fun ls hl => ?_)
  obtain ⟨v1, ev1⟩ : ∃ y : Int32, y = x7 + 1 := ⟨_, rfl⟩
  have hf := nm_at ev1 hf
  refine lv_iinc (v := v1) (lv' := [(7, .int v1), (6, .int t0), (0, .ref (ad 0)), (4, .int x4), (5, .int x5)]) hx hb dX4_test_192 hl (k := 4) rfl (by rw [ev1]; rfl) (by decide) rfl (fun ls hl => ?_)
  refine lv_goto (tgt := 38) hx hb dX4_test_195 (by decide) ?_
  exact hk38 S x4 x5 t0 v1 hf H locs ls hP hS (lv_sub hl [2, 3, 4, 1, 0] rfl)
set_option maxHeartbeats 4000000 in
set_option maxRecDepth 100000 in
theorem w4_test_b174 {p : Program} {l : Launch} {e : Env} {s : State} {m : MethodId} {args : Array Value} {below : List Frame} {meth : Method} {c : Code} {D : va_G} {K : Nat → ClassId} {ad : Nat → Nat} (hI : INJ NM ad) (C0 : Cx p s m args meth c RX4 wsX4_test cX4_test 13 (some .int) (KM D K)) {r : Int32} {T : Mem} (k38 : Mem → Int32 → Int32 → Int32 → Int32 → Option (Int32 × Mem)) (hk38 : ∀ (S : Mem) (x4 : Int32) (x5 : Int32) (x6 : Int32) (x7 : Int32), k38 S x4 x5 x6 x7 = some (r, T) → ∀ (H : Heap) (locs : List Loc) (ls : Array Slot), va_P D vwCl (wl NM ad (EM K ad S)) H → va_S (IW NM ad) s.heap H locs → lv_has ls 13 [(0, .ref (ad 0)), (4, .int x4), (5, .int x5), (6, .int x6), (7, .int x7)] → W p l e rm4_test s m args below meth c H locs 0 0 (MQ below (va_Qi (fun (x : Int32) (u : Mem) => x = r ∧ u = T) (fun u t => va_P D vwCl (wl NM ad (EM K ad u)) t.heap) (IW NM ad)) args s 0 0 (IW NM ad)) (F0 m 38 ls [])) : ∀ (S : Mem) (x4 : Int32) (x6 : Int32) (x7 : Int32) (x8 : Int32) (t0 : Int32), f4_test_b174 k38 S x4 x6 x7 x8 t0 = some (r, T) → ∀ (H : Heap) (locs : List Loc) (ls : Array Slot), va_P D vwCl (wl NM ad (EM K ad S)) H → va_S (IW NM ad) s.heap H locs → lv_has ls 13 [(0, .ref (ad 0)), (4, .int x4), (6, .int x6), (7, .int x7), (8, .int x8)] → W p l e rm4_test s m args below meth c H locs 0 0 (MQ below (va_Qi (fun (x : Int32) (u : Mem) => x = r ∧ u = T) (fun u t => va_P D vwCl (wl NM ad (EM K ad u)) t.heap) (IW NM ad)) args s 0 0 (IW NM ad)) (F0 m 174 ls [.int t0]) := by
  have hx := C0.1
  have hb := C0.2.1
  have hts := C0.2.2.2.2.1
  have hown := C0.2.2.2.1
  have hKC := C0.2.2.2.2.2.2.2
  intro S x4 x6 x7 x8 t0 hf H locs ls hP hS hl
  rw [f4_test_b174] at hf
  refine lv_istore (lv' := [(5, .int t0), (0, .ref (ad 0)), (4, .int x4), (6, .int x6), (7, .int x7), (8, .int x8)]) hx hb dX4_test_174 hl (by decide) rfl (fun ls hl => ?_)
  refine lv_iload hx hb dX4_test_176 (lv_at hl 5 rfl) ?_
  refine lv_iload hx hb dX4_test_178 (lv_at hl 3 rfl) ?_
  refine lv_icmp_ge (tgt := 188) hx hb dX4_test_180 (by decide) (fun c1 => ?_) (fun c1 => ?_)
  · have hf := ite_t hf c1
    refine lv_iload hx hb dX4_test_188 (lv_at hl 3 rfl) ?_
    exact w4_test_b190 hI C0 k38 hk38 S x4 t0 x7 x6 hf H locs ls hP hS (lv_sub hl [1, 2, 0, 4] rfl)
  · have hf := ite_f hf c1
    refine lv_iload hx hb dX4_test_183 (lv_at hl 5 rfl) ?_
    refine lv_goto (tgt := 190) hx hb dX4_test_185 (by decide) ?_
    exact w4_test_b190 hI C0 k38 hk38 S x4 t0 x7 x8 hf H locs ls hP hS (lv_sub hl [1, 2, 0, 4] rfl)
set_option maxHeartbeats 4000000 in
set_option maxRecDepth 100000 in
theorem w4_test_b152 {p : Program} {l : Launch} {e : Env} {s : State} {m : MethodId} {args : Array Value} {below : List Frame} {meth : Method} {c : Code} {D : va_G} {K : Nat → ClassId} {ad : Nat → Nat} (hI : INJ NM ad) (C0 : Cx p s m args meth c RX4 wsX4_test cX4_test 13 (some .int) (KM D K)) {r : Int32} {T : Mem} (k38 : Mem → Int32 → Int32 → Int32 → Int32 → Option (Int32 × Mem)) (hk38 : ∀ (S : Mem) (x4 : Int32) (x5 : Int32) (x6 : Int32) (x7 : Int32), k38 S x4 x5 x6 x7 = some (r, T) → ∀ (H : Heap) (locs : List Loc) (ls : Array Slot), va_P D vwCl (wl NM ad (EM K ad S)) H → va_S (IW NM ad) s.heap H locs → lv_has ls 13 [(0, .ref (ad 0)), (4, .int x4), (5, .int x5), (6, .int x6), (7, .int x7)] → W p l e rm4_test s m args below meth c H locs 0 0 (MQ below (va_Qi (fun (x : Int32) (u : Mem) => x = r ∧ u = T) (fun u t => va_P D vwCl (wl NM ad (EM K ad u)) t.heap) (IW NM ad)) args s 0 0 (IW NM ad)) (F0 m 38 ls [])) (k51 : Mem → Int32 → Int32 → Int32 → Int32 → Int32 → Int32 → Option (Int32 × Mem)) (hk51 : ∀ (S : Mem) (x4 : Int32) (x5 : Int32) (x6 : Int32) (x7 : Int32) (x8 : Int32) (x9 : Int32), k51 S x4 x5 x6 x7 x8 x9 = some (r, T) → ∀ (H : Heap) (locs : List Loc) (ls : Array Slot), va_P D vwCl (wl NM ad (EM K ad S)) H → va_S (IW NM ad) s.heap H locs → lv_has ls 13 [(0, .ref (ad 0)), (4, .int x4), (5, .int x5), (6, .int x6), (7, .int x7), (8, .int x8), (9, .int x9)] → W p l e rm4_test s m args below meth c H locs 0 0 (MQ below (va_Qi (fun (x : Int32) (u : Mem) => x = r ∧ u = T) (fun u t => va_P D vwCl (wl NM ad (EM K ad u)) t.heap) (IW NM ad)) args s 0 0 (IW NM ad)) (F0 m 51 ls [])) : ∀ (S : Mem) (x4 : Int32) (x5 : Int32) (x6 : Int32) (x7 : Int32) (x9 : Int32) (t0 : Int32), f4_test_b152 k38 k51 S x4 x5 x6 x7 x9 t0 = some (r, T) → ∀ (H : Heap) (locs : List Loc) (ls : Array Slot), va_P D vwCl (wl NM ad (EM K ad S)) H → va_S (IW NM ad) s.heap H locs → lv_has ls 13 [(0, .ref (ad 0)), (4, .int x4), (5, .int x5), (6, .int x6), (7, .int x7), (9, .int x9)] → W p l e rm4_test s m args below meth c H locs 0 0 (MQ below (va_Qi (fun (x : Int32) (u : Mem) => x = r ∧ u = T) (fun u t => va_P D vwCl (wl NM ad (EM K ad u)) t.heap) (IW NM ad)) args s 0 0 (IW NM ad)) (F0 m 152 ls [.int t0]) := by
  have hx := C0.1
  have hb := C0.2.1
  have hts := C0.2.2.2.2.1
  have hown := C0.2.2.2.1
  have hKC := C0.2.2.2.2.2.2.2
  intro S x4 x5 x6 x7 x9 t0 hf H locs ls hP hS hl
  rw [f4_test_b152] at hf
  refine lv_istore (lv' := [(8, .int t0), (0, .ref (ad 0)), (4, .int x4), (5, .int x5), (6, .int x6), (7, .int x7), (9, .int x9)]) hx hb dX4_test_152 hl (by decide) rfl (fun ls hl => ?_)
  obtain ⟨v1, ev1⟩ : ∃ y : Int32, y = x9 + 1 := ⟨_, rfl⟩
  have hf := nm_at ev1 hf
  refine lv_iinc (v := v1) (lv' := [(9, .int v1), (8, .int t0), (0, .ref (ad 0)), (4, .int x4), (5, .int x5), (6, .int x6), (7, .int x7)]) hx hb dX4_test_154 hl (k := 6) rfl (by rw [ev1]; rfl) (by decide) rfl (fun ls hl => ?_)
  refine lv_goto (tgt := 51) hx hb dX4_test_157 (by decide) ?_
  exact hk51 S x4 x5 x6 x7 t0 v1 hf H locs ls hP hS (lv_sub hl [2, 3, 4, 5, 6, 1, 0] rfl)
set_option maxHeartbeats 4000000 in
set_option maxRecDepth 100000 in
theorem w4_test_b129 {p : Program} {l : Launch} {e : Env} {s : State} {m : MethodId} {args : Array Value} {below : List Frame} {meth : Method} {c : Code} {D : va_G} {K : Nat → ClassId} {ad : Nat → Nat} (hI : INJ NM ad) (C0 : Cx p s m args meth c RX4 wsX4_test cX4_test 13 (some .int) (KM D K)) {r : Int32} {T : Mem} (k38 : Mem → Int32 → Int32 → Int32 → Int32 → Option (Int32 × Mem)) (hk38 : ∀ (S : Mem) (x4 : Int32) (x5 : Int32) (x6 : Int32) (x7 : Int32), k38 S x4 x5 x6 x7 = some (r, T) → ∀ (H : Heap) (locs : List Loc) (ls : Array Slot), va_P D vwCl (wl NM ad (EM K ad S)) H → va_S (IW NM ad) s.heap H locs → lv_has ls 13 [(0, .ref (ad 0)), (4, .int x4), (5, .int x5), (6, .int x6), (7, .int x7)] → W p l e rm4_test s m args below meth c H locs 0 0 (MQ below (va_Qi (fun (x : Int32) (u : Mem) => x = r ∧ u = T) (fun u t => va_P D vwCl (wl NM ad (EM K ad u)) t.heap) (IW NM ad)) args s 0 0 (IW NM ad)) (F0 m 38 ls [])) (k51 : Mem → Int32 → Int32 → Int32 → Int32 → Int32 → Int32 → Option (Int32 × Mem)) (hk51 : ∀ (S : Mem) (x4 : Int32) (x5 : Int32) (x6 : Int32) (x7 : Int32) (x8 : Int32) (x9 : Int32), k51 S x4 x5 x6 x7 x8 x9 = some (r, T) → ∀ (H : Heap) (locs : List Loc) (ls : Array Slot), va_P D vwCl (wl NM ad (EM K ad S)) H → va_S (IW NM ad) s.heap H locs → lv_has ls 13 [(0, .ref (ad 0)), (4, .int x4), (5, .int x5), (6, .int x6), (7, .int x7), (8, .int x8), (9, .int x9)] → W p l e rm4_test s m args below meth c H locs 0 0 (MQ below (va_Qi (fun (x : Int32) (u : Mem) => x = r ∧ u = T) (fun u t => va_P D vwCl (wl NM ad (EM K ad u)) t.heap) (IW NM ad)) args s 0 0 (IW NM ad)) (F0 m 51 ls [])) (k64 : Mem → Int32 → Int32 → Int32 → Int32 → Int32 → Int32 → Int32 → Int32 → Option (Int32 × Mem)) (hk64 : ∀ (S : Mem) (x4 : Int32) (x5 : Int32) (x6 : Int32) (x7 : Int32) (x8 : Int32) (x9 : Int32) (x10 : Int32) (x11 : Int32), k64 S x4 x5 x6 x7 x8 x9 x10 x11 = some (r, T) → ∀ (H : Heap) (locs : List Loc) (ls : Array Slot), va_P D vwCl (wl NM ad (EM K ad S)) H → va_S (IW NM ad) s.heap H locs → lv_has ls 13 [(0, .ref (ad 0)), (4, .int x4), (5, .int x5), (6, .int x6), (7, .int x7), (8, .int x8), (9, .int x9), (10, .int x10), (11, .int x11)] → W p l e rm4_test s m args below meth c H locs 0 0 (MQ below (va_Qi (fun (x : Int32) (u : Mem) => x = r ∧ u = T) (fun u t => va_P D vwCl (wl NM ad (EM K ad u)) t.heap) (IW NM ad)) args s 0 0 (IW NM ad)) (F0 m 64 ls [])) : ∀ (S : Mem) (x4 : Int32) (x5 : Int32) (x6 : Int32) (x7 : Int32) (x8 : Int32) (x9 : Int32) (x11 : Int32) (t0 : Int32) (t1 : Int32), f4_test_b129 k38 k51 k64 S x4 x5 x6 x7 x8 x9 x11 t0 t1 = some (r, T) → ∀ (H : Heap) (locs : List Loc) (ls : Array Slot), va_P D vwCl (wl NM ad (EM K ad S)) H → va_S (IW NM ad) s.heap H locs → lv_has ls 13 [(0, .ref (ad 0)), (4, .int x4), (5, .int x5), (6, .int x6), (7, .int x7), (8, .int x8), (9, .int x9), (11, .int x11)] → W p l e rm4_test s m args below meth c H locs 0 0 (MQ below (va_Qi (fun (x : Int32) (u : Mem) => x = r ∧ u = T) (fun u t => va_P D vwCl (wl NM ad (EM K ad u)) t.heap) (IW NM ad)) args s 0 0 (IW NM ad)) (F0 m 129 ls [.int t1, .int t0]) := by
  have hx := C0.1
  have hb := C0.2.1
  have hts := C0.2.2.2.2.1
  have hown := C0.2.2.2.1
  have hKC := C0.2.2.2.2.2.2.2
  intro S x4 x5 x6 x7 x8 x9 x11 t0 t1 hf H locs ls hP hS hl
  rw [f4_test_b129] at hf
  refine lv_iadd hx hb dX4_test_129 ?_
  refine lv_topi (fun v1 ev1 => ?_)
  have hf := nm_at ev1 hf
  refine lv_istore (lv' := [(10, .int v1), (0, .ref (ad 0)), (4, .int x4), (5, .int x5), (6, .int x6), (7, .int x7), (8, .int x8), (9, .int x9), (11, .int x11)]) hx hb dX4_test_130 hl (by decide) rfl (fun ls hl => ?_)
  obtain ⟨v2, ev2⟩ : ∃ y : Int32, y = x11 + 1 := ⟨_, rfl⟩
  have hf := nm_at ev2 hf
  refine lv_iinc (v := v2) (lv' := [(11, .int v2), (10, .int v1), (0, .ref (ad 0)), (4, .int x4), (5, .int x5), (6, .int x6), (7, .int x7), (8, .int x8), (9, .int x9)]) hx hb dX4_test_132 hl (k := 8) rfl (by rw [ev2]; rfl) (by decide) rfl (fun ls hl => ?_)
  refine lv_goto (tgt := 64) hx hb dX4_test_135 (by decide) ?_
  exact hk64 S x4 x5 x6 x7 x8 x9 v1 v2 hf H locs ls hP hS (lv_sub hl [2, 3, 4, 5, 6, 7, 8, 1, 0] rfl)
set_option maxHeartbeats 4000000 in
set_option maxRecDepth 100000 in
theorem w4_test_b128 {p : Program} {l : Launch} {e : Env} {s : State} {m : MethodId} {args : Array Value} {below : List Frame} {meth : Method} {c : Code} {D : va_G} {K : Nat → ClassId} {ad : Nat → Nat} (hI : INJ NM ad) (C0 : Cx p s m args meth c RX4 wsX4_test cX4_test 13 (some .int) (KM D K)) {r : Int32} {T : Mem} (k38 : Mem → Int32 → Int32 → Int32 → Int32 → Option (Int32 × Mem)) (hk38 : ∀ (S : Mem) (x4 : Int32) (x5 : Int32) (x6 : Int32) (x7 : Int32), k38 S x4 x5 x6 x7 = some (r, T) → ∀ (H : Heap) (locs : List Loc) (ls : Array Slot), va_P D vwCl (wl NM ad (EM K ad S)) H → va_S (IW NM ad) s.heap H locs → lv_has ls 13 [(0, .ref (ad 0)), (4, .int x4), (5, .int x5), (6, .int x6), (7, .int x7)] → W p l e rm4_test s m args below meth c H locs 0 0 (MQ below (va_Qi (fun (x : Int32) (u : Mem) => x = r ∧ u = T) (fun u t => va_P D vwCl (wl NM ad (EM K ad u)) t.heap) (IW NM ad)) args s 0 0 (IW NM ad)) (F0 m 38 ls [])) (k51 : Mem → Int32 → Int32 → Int32 → Int32 → Int32 → Int32 → Option (Int32 × Mem)) (hk51 : ∀ (S : Mem) (x4 : Int32) (x5 : Int32) (x6 : Int32) (x7 : Int32) (x8 : Int32) (x9 : Int32), k51 S x4 x5 x6 x7 x8 x9 = some (r, T) → ∀ (H : Heap) (locs : List Loc) (ls : Array Slot), va_P D vwCl (wl NM ad (EM K ad S)) H → va_S (IW NM ad) s.heap H locs → lv_has ls 13 [(0, .ref (ad 0)), (4, .int x4), (5, .int x5), (6, .int x6), (7, .int x7), (8, .int x8), (9, .int x9)] → W p l e rm4_test s m args below meth c H locs 0 0 (MQ below (va_Qi (fun (x : Int32) (u : Mem) => x = r ∧ u = T) (fun u t => va_P D vwCl (wl NM ad (EM K ad u)) t.heap) (IW NM ad)) args s 0 0 (IW NM ad)) (F0 m 51 ls [])) (k64 : Mem → Int32 → Int32 → Int32 → Int32 → Int32 → Int32 → Int32 → Int32 → Option (Int32 × Mem)) (hk64 : ∀ (S : Mem) (x4 : Int32) (x5 : Int32) (x6 : Int32) (x7 : Int32) (x8 : Int32) (x9 : Int32) (x10 : Int32) (x11 : Int32), k64 S x4 x5 x6 x7 x8 x9 x10 x11 = some (r, T) → ∀ (H : Heap) (locs : List Loc) (ls : Array Slot), va_P D vwCl (wl NM ad (EM K ad S)) H → va_S (IW NM ad) s.heap H locs → lv_has ls 13 [(0, .ref (ad 0)), (4, .int x4), (5, .int x5), (6, .int x6), (7, .int x7), (8, .int x8), (9, .int x9), (10, .int x10), (11, .int x11)] → W p l e rm4_test s m args below meth c H locs 0 0 (MQ below (va_Qi (fun (x : Int32) (u : Mem) => x = r ∧ u = T) (fun u t => va_P D vwCl (wl NM ad (EM K ad u)) t.heap) (IW NM ad)) args s 0 0 (IW NM ad)) (F0 m 64 ls [])) : ∀ (S : Mem) (x4 : Int32) (x5 : Int32) (x6 : Int32) (x7 : Int32) (x8 : Int32) (x9 : Int32) (x11 : Int32) (t0 : Int32), f4_test_b128 k38 k51 k64 S x4 x5 x6 x7 x8 x9 x11 t0 = some (r, T) → ∀ (H : Heap) (locs : List Loc) (ls : Array Slot), va_P D vwCl (wl NM ad (EM K ad S)) H → va_S (IW NM ad) s.heap H locs → lv_has ls 13 [(0, .ref (ad 0)), (4, .int x4), (5, .int x5), (6, .int x6), (7, .int x7), (8, .int x8), (9, .int x9), (11, .int x11)] → W p l e rm4_test s m args below meth c H locs 0 0 (MQ below (va_Qi (fun (x : Int32) (u : Mem) => x = r ∧ u = T) (fun u t => va_P D vwCl (wl NM ad (EM K ad u)) t.heap) (IW NM ad)) args s 0 0 (IW NM ad)) (F0 m 128 ls [.int t0]) := by
  have hx := C0.1
  have hb := C0.2.1
  have hts := C0.2.2.2.2.1
  have hown := C0.2.2.2.1
  have hKC := C0.2.2.2.2.2.2.2
  intro S x4 x5 x6 x7 x8 x9 x11 t0 hf H locs ls hP hS hl
  rw [f4_test_b128] at hf
  refine lv_iconst (v := 0) hx hb dX4_test_128 (by decide) ?_
  exact w4_test_b129 hI C0 k38 hk38 k51 hk51 k64 hk64 S x4 x5 x6 x7 x8 x9 x11 t0 0 hf H locs ls hP hS (lv_sub hl [0, 1, 2, 3, 4, 5, 6, 7] rfl)
set_option maxHeartbeats 4000000 in
set_option maxRecDepth 100000 in
theorem w4_test_b98 {p : Program} {l : Launch} {e : Env} {s : State} {m : MethodId} {args : Array Value} {below : List Frame} {meth : Method} {c : Code} {D : va_G} {K : Nat → ClassId} {ad : Nat → Nat} (hI : INJ NM ad) (C0 : Cx p s m args meth c RX4 wsX4_test cX4_test 13 (some .int) (KM D K)) {r : Int32} {T : Mem} (k38 : Mem → Int32 → Int32 → Int32 → Int32 → Option (Int32 × Mem)) (hk38 : ∀ (S : Mem) (x4 : Int32) (x5 : Int32) (x6 : Int32) (x7 : Int32), k38 S x4 x5 x6 x7 = some (r, T) → ∀ (H : Heap) (locs : List Loc) (ls : Array Slot), va_P D vwCl (wl NM ad (EM K ad S)) H → va_S (IW NM ad) s.heap H locs → lv_has ls 13 [(0, .ref (ad 0)), (4, .int x4), (5, .int x5), (6, .int x6), (7, .int x7)] → W p l e rm4_test s m args below meth c H locs 0 0 (MQ below (va_Qi (fun (x : Int32) (u : Mem) => x = r ∧ u = T) (fun u t => va_P D vwCl (wl NM ad (EM K ad u)) t.heap) (IW NM ad)) args s 0 0 (IW NM ad)) (F0 m 38 ls [])) (k51 : Mem → Int32 → Int32 → Int32 → Int32 → Int32 → Int32 → Option (Int32 × Mem)) (hk51 : ∀ (S : Mem) (x4 : Int32) (x5 : Int32) (x6 : Int32) (x7 : Int32) (x8 : Int32) (x9 : Int32), k51 S x4 x5 x6 x7 x8 x9 = some (r, T) → ∀ (H : Heap) (locs : List Loc) (ls : Array Slot), va_P D vwCl (wl NM ad (EM K ad S)) H → va_S (IW NM ad) s.heap H locs → lv_has ls 13 [(0, .ref (ad 0)), (4, .int x4), (5, .int x5), (6, .int x6), (7, .int x7), (8, .int x8), (9, .int x9)] → W p l e rm4_test s m args below meth c H locs 0 0 (MQ below (va_Qi (fun (x : Int32) (u : Mem) => x = r ∧ u = T) (fun u t => va_P D vwCl (wl NM ad (EM K ad u)) t.heap) (IW NM ad)) args s 0 0 (IW NM ad)) (F0 m 51 ls [])) (k64 : Mem → Int32 → Int32 → Int32 → Int32 → Int32 → Int32 → Int32 → Int32 → Option (Int32 × Mem)) (hk64 : ∀ (S : Mem) (x4 : Int32) (x5 : Int32) (x6 : Int32) (x7 : Int32) (x8 : Int32) (x9 : Int32) (x10 : Int32) (x11 : Int32), k64 S x4 x5 x6 x7 x8 x9 x10 x11 = some (r, T) → ∀ (H : Heap) (locs : List Loc) (ls : Array Slot), va_P D vwCl (wl NM ad (EM K ad S)) H → va_S (IW NM ad) s.heap H locs → lv_has ls 13 [(0, .ref (ad 0)), (4, .int x4), (5, .int x5), (6, .int x6), (7, .int x7), (8, .int x8), (9, .int x9), (10, .int x10), (11, .int x11)] → W p l e rm4_test s m args below meth c H locs 0 0 (MQ below (va_Qi (fun (x : Int32) (u : Mem) => x = r ∧ u = T) (fun u t => va_P D vwCl (wl NM ad (EM K ad u)) t.heap) (IW NM ad)) args s 0 0 (IW NM ad)) (F0 m 64 ls [])) : ∀ (S : Mem) (x4 : Int32) (x5 : Int32) (x6 : Int32) (x7 : Int32) (x8 : Int32) (x9 : Int32) (x10 : Int32) (x11 : Int32) (t0 : Int32), f4_test_b98 k38 k51 k64 S x4 x5 x6 x7 x8 x9 x10 x11 t0 = some (r, T) → ∀ (H : Heap) (locs : List Loc) (ls : Array Slot), va_P D vwCl (wl NM ad (EM K ad S)) H → va_S (IW NM ad) s.heap H locs → lv_has ls 13 [(0, .ref (ad 0)), (4, .int x4), (5, .int x5), (6, .int x6), (7, .int x7), (8, .int x8), (9, .int x9), (10, .int x10), (11, .int x11)] → W p l e rm4_test s m args below meth c H locs 0 0 (MQ below (va_Qi (fun (x : Int32) (u : Mem) => x = r ∧ u = T) (fun u t => va_P D vwCl (wl NM ad (EM K ad u)) t.heap) (IW NM ad)) args s 0 0 (IW NM ad)) (F0 m 98 ls [.int t0]) := by
  have hx := C0.1
  have hb := C0.2.1
  have hts := C0.2.2.2.2.1
  have hown := C0.2.2.2.1
  have hKC := C0.2.2.2.2.2.2.2
  intro S x4 x5 x6 x7 x8 x9 x10 x11 t0 hf H locs ls hP hS hl
  rw [f4_test_b98] at hf
  refine lv_istore (lv' := [(12, .int t0), (0, .ref (ad 0)), (4, .int x4), (5, .int x5), (6, .int x6), (7, .int x7), (8, .int x8), (9, .int x9), (10, .int x10), (11, .int x11)]) hx hb dX4_test_98 hl (by decide) rfl (fun ls hl => ?_)
  refine lv_iload hx hb dX4_test_100 (lv_at hl 8 rfl) ?_
  refine lv_iload hx hb dX4_test_102 (lv_at hl 0 rfl) ?_
  refine lv_if_eq (tgt := 128) hx hb dX4_test_104 (by decide) (fun c1 => ?_) (fun c1 => ?_)
  · have hf := ite_t hf c1
    exact w4_test_b128 hI C0 k38 hk38 k51 hk51 k64 hk64 S x4 x5 x6 x7 x8 x9 x11 x10 hf H locs ls hP hS (lv_sub hl [1, 2, 3, 4, 5, 6, 7, 9] rfl)
  · have hf := ite_f hf c1
    refine lv_iload hx hb dX4_test_107 (lv_at hl 7 rfl) ?_
    refine lv_iload hx hb dX4_test_109 (lv_at hl 5 rfl) ?_
    obtain ⟨v3, h2, hf⟩ := b1_some hf
    refine sys_i hS (sys_runS (As := [.int x9, .int x7]) (rest := [.int x10]) C0 KM_ok hP hS (m4_worthTo l D K ad hI S x9 x7 h2) gX4_test_X4_worthTo rfl ⟨rfl, rfl⟩ hd_X4_worthTo ⟨Nat.le_of_ble_eq_true rfl, Nat.le_of_ble_eq_true rfl⟩ hl.1 rfl (Nat.le_of_ble_eq_true rfl) dX4_test_111 ⟨Nat.le_refl _, Nat.le_refl _⟩) (fun H locs hP hS => ?_)
    refine lv_iload hx hb dX4_test_114 (lv_at hl 9 rfl) ?_
    refine lv_iload hx hb dX4_test_116 (lv_at hl 5 rfl) ?_
    obtain ⟨v5, h4, hf⟩ := b1_some hf
    refine sys_i hS (sys_runS (As := [.int x11, .int x7]) (rest := [.int v3, .int x10]) C0 KM_ok hP hS (m4_worthTo l D K ad hI S x11 x7 h4) gX4_test_X4_worthTo rfl ⟨rfl, rfl⟩ hd_X4_worthTo ⟨Nat.le_of_ble_eq_true rfl, Nat.le_of_ble_eq_true rfl⟩ hl.1 rfl (Nat.le_of_ble_eq_true rfl) dX4_test_118 ⟨Nat.le_refl _, Nat.le_refl _⟩) (fun H locs hP hS => ?_)
    refine lv_icmp_ne (tgt := 128) hx hb dX4_test_121 (by decide) (fun c6 => ?_) (fun c6 => ?_)
    · have hf := ite_f hf c6
      exact w4_test_b128 hI C0 k38 hk38 k51 hk51 k64 hk64 S x4 x5 x6 x7 x8 x9 x11 x10 hf H locs ls hP hS (lv_sub hl [1, 2, 3, 4, 5, 6, 7, 9] rfl)
    · have hf := ite_t hf c6
      refine lv_iconst (v := 1) hx hb dX4_test_124 (by decide) ?_
      refine lv_goto (tgt := 129) hx hb dX4_test_125 (by decide) ?_
      exact w4_test_b129 hI C0 k38 hk38 k51 hk51 k64 hk64 S x4 x5 x6 x7 x8 x9 x11 x10 1 hf H locs ls hP hS (lv_sub hl [1, 2, 3, 4, 5, 6, 7, 9] rfl)
set_option maxHeartbeats 4000000 in
set_option maxRecDepth 100000 in
theorem w4_test_b97 {p : Program} {l : Launch} {e : Env} {s : State} {m : MethodId} {args : Array Value} {below : List Frame} {meth : Method} {c : Code} {D : va_G} {K : Nat → ClassId} {ad : Nat → Nat} (hI : INJ NM ad) (C0 : Cx p s m args meth c RX4 wsX4_test cX4_test 13 (some .int) (KM D K)) {r : Int32} {T : Mem} (k38 : Mem → Int32 → Int32 → Int32 → Int32 → Option (Int32 × Mem)) (hk38 : ∀ (S : Mem) (x4 : Int32) (x5 : Int32) (x6 : Int32) (x7 : Int32), k38 S x4 x5 x6 x7 = some (r, T) → ∀ (H : Heap) (locs : List Loc) (ls : Array Slot), va_P D vwCl (wl NM ad (EM K ad S)) H → va_S (IW NM ad) s.heap H locs → lv_has ls 13 [(0, .ref (ad 0)), (4, .int x4), (5, .int x5), (6, .int x6), (7, .int x7)] → W p l e rm4_test s m args below meth c H locs 0 0 (MQ below (va_Qi (fun (x : Int32) (u : Mem) => x = r ∧ u = T) (fun u t => va_P D vwCl (wl NM ad (EM K ad u)) t.heap) (IW NM ad)) args s 0 0 (IW NM ad)) (F0 m 38 ls [])) (k51 : Mem → Int32 → Int32 → Int32 → Int32 → Int32 → Int32 → Option (Int32 × Mem)) (hk51 : ∀ (S : Mem) (x4 : Int32) (x5 : Int32) (x6 : Int32) (x7 : Int32) (x8 : Int32) (x9 : Int32), k51 S x4 x5 x6 x7 x8 x9 = some (r, T) → ∀ (H : Heap) (locs : List Loc) (ls : Array Slot), va_P D vwCl (wl NM ad (EM K ad S)) H → va_S (IW NM ad) s.heap H locs → lv_has ls 13 [(0, .ref (ad 0)), (4, .int x4), (5, .int x5), (6, .int x6), (7, .int x7), (8, .int x8), (9, .int x9)] → W p l e rm4_test s m args below meth c H locs 0 0 (MQ below (va_Qi (fun (x : Int32) (u : Mem) => x = r ∧ u = T) (fun u t => va_P D vwCl (wl NM ad (EM K ad u)) t.heap) (IW NM ad)) args s 0 0 (IW NM ad)) (F0 m 51 ls [])) (k64 : Mem → Int32 → Int32 → Int32 → Int32 → Int32 → Int32 → Int32 → Int32 → Option (Int32 × Mem)) (hk64 : ∀ (S : Mem) (x4 : Int32) (x5 : Int32) (x6 : Int32) (x7 : Int32) (x8 : Int32) (x9 : Int32) (x10 : Int32) (x11 : Int32), k64 S x4 x5 x6 x7 x8 x9 x10 x11 = some (r, T) → ∀ (H : Heap) (locs : List Loc) (ls : Array Slot), va_P D vwCl (wl NM ad (EM K ad S)) H → va_S (IW NM ad) s.heap H locs → lv_has ls 13 [(0, .ref (ad 0)), (4, .int x4), (5, .int x5), (6, .int x6), (7, .int x7), (8, .int x8), (9, .int x9), (10, .int x10), (11, .int x11)] → W p l e rm4_test s m args below meth c H locs 0 0 (MQ below (va_Qi (fun (x : Int32) (u : Mem) => x = r ∧ u = T) (fun u t => va_P D vwCl (wl NM ad (EM K ad u)) t.heap) (IW NM ad)) args s 0 0 (IW NM ad)) (F0 m 64 ls [])) : ∀ (S : Mem) (x4 : Int32) (x5 : Int32) (x6 : Int32) (x7 : Int32) (x8 : Int32) (x9 : Int32) (x10 : Int32) (x11 : Int32), f4_test_b97 k38 k51 k64 S x4 x5 x6 x7 x8 x9 x10 x11 = some (r, T) → ∀ (H : Heap) (locs : List Loc) (ls : Array Slot), va_P D vwCl (wl NM ad (EM K ad S)) H → va_S (IW NM ad) s.heap H locs → lv_has ls 13 [(0, .ref (ad 0)), (4, .int x4), (5, .int x5), (6, .int x6), (7, .int x7), (8, .int x8), (9, .int x9), (10, .int x10), (11, .int x11)] → W p l e rm4_test s m args below meth c H locs 0 0 (MQ below (va_Qi (fun (x : Int32) (u : Mem) => x = r ∧ u = T) (fun u t => va_P D vwCl (wl NM ad (EM K ad u)) t.heap) (IW NM ad)) args s 0 0 (IW NM ad)) (F0 m 97 ls []) := by
  have hx := C0.1
  have hb := C0.2.1
  have hts := C0.2.2.2.2.1
  have hown := C0.2.2.2.1
  have hKC := C0.2.2.2.2.2.2.2
  intro S x4 x5 x6 x7 x8 x9 x10 x11 hf H locs ls hP hS hl
  rw [f4_test_b97] at hf
  refine lv_iconst (v := 0) hx hb dX4_test_97 (by decide) ?_
  exact w4_test_b98 hI C0 k38 hk38 k51 hk51 k64 hk64 S x4 x5 x6 x7 x8 x9 x10 x11 0 hf H locs ls hP hS (lv_sub hl [0, 1, 2, 3, 4, 5, 6, 7, 8] rfl)
set_option maxHeartbeats 4000000 in
set_option maxRecDepth 100000 in
theorem w4_test_b64 {p : Program} {l : Launch} {e : Env} {s : State} {m : MethodId} {args : Array Value} {below : List Frame} {meth : Method} {c : Code} {D : va_G} {K : Nat → ClassId} {ad : Nat → Nat} (hI : INJ NM ad) (C0 : Cx p s m args meth c RX4 wsX4_test cX4_test 13 (some .int) (KM D K)) {r : Int32} {T : Mem} (k38 : Mem → Int32 → Int32 → Int32 → Int32 → Option (Int32 × Mem)) (hk38 : ∀ (S : Mem) (x4 : Int32) (x5 : Int32) (x6 : Int32) (x7 : Int32), k38 S x4 x5 x6 x7 = some (r, T) → ∀ (H : Heap) (locs : List Loc) (ls : Array Slot), va_P D vwCl (wl NM ad (EM K ad S)) H → va_S (IW NM ad) s.heap H locs → lv_has ls 13 [(0, .ref (ad 0)), (4, .int x4), (5, .int x5), (6, .int x6), (7, .int x7)] → W p l e rm4_test s m args below meth c H locs 0 0 (MQ below (va_Qi (fun (x : Int32) (u : Mem) => x = r ∧ u = T) (fun u t => va_P D vwCl (wl NM ad (EM K ad u)) t.heap) (IW NM ad)) args s 0 0 (IW NM ad)) (F0 m 38 ls [])) (k51 : Mem → Int32 → Int32 → Int32 → Int32 → Int32 → Int32 → Option (Int32 × Mem)) (hk51 : ∀ (S : Mem) (x4 : Int32) (x5 : Int32) (x6 : Int32) (x7 : Int32) (x8 : Int32) (x9 : Int32), k51 S x4 x5 x6 x7 x8 x9 = some (r, T) → ∀ (H : Heap) (locs : List Loc) (ls : Array Slot), va_P D vwCl (wl NM ad (EM K ad S)) H → va_S (IW NM ad) s.heap H locs → lv_has ls 13 [(0, .ref (ad 0)), (4, .int x4), (5, .int x5), (6, .int x6), (7, .int x7), (8, .int x8), (9, .int x9)] → W p l e rm4_test s m args below meth c H locs 0 0 (MQ below (va_Qi (fun (x : Int32) (u : Mem) => x = r ∧ u = T) (fun u t => va_P D vwCl (wl NM ad (EM K ad u)) t.heap) (IW NM ad)) args s 0 0 (IW NM ad)) (F0 m 51 ls [])) : ∀ (n : Nat), ∀ (S : Mem) (x4 : Int32) (x5 : Int32) (x6 : Int32) (x7 : Int32) (x8 : Int32) (x9 : Int32) (x10 : Int32) (x11 : Int32), f4_test_b64 k38 k51 n S x4 x5 x6 x7 x8 x9 x10 x11 = some (r, T) → ∀ (H : Heap) (locs : List Loc) (ls : Array Slot), va_P D vwCl (wl NM ad (EM K ad S)) H → va_S (IW NM ad) s.heap H locs → lv_has ls 13 [(0, .ref (ad 0)), (4, .int x4), (5, .int x5), (6, .int x6), (7, .int x7), (8, .int x8), (9, .int x9), (10, .int x10), (11, .int x11)] → W p l e rm4_test s m args below meth c H locs 0 0 (MQ below (va_Qi (fun (x : Int32) (u : Mem) => x = r ∧ u = T) (fun u t => va_P D vwCl (wl NM ad (EM K ad u)) t.heap) (IW NM ad)) args s 0 0 (IW NM ad)) (F0 m 64 ls []) := by
  have hx := C0.1
  have hb := C0.2.1
  have hts := C0.2.2.2.2.1
  have hown := C0.2.2.2.1
  have hKC := C0.2.2.2.2.2.2.2
  intro n
  induction n with
  | zero =>
    intro S x4 x5 x6 x7 x8 x9 x10 x11 hf
    rw [f4_test_b64] at hf
    cases hf
  | succ n ih =>
    intro S x4 x5 x6 x7 x8 x9 x10 x11 hf H locs ls hP hS hl
    rw [f4_test_b64] at hf
    refine lv_iload hx hb dX4_test_64 (lv_at hl 8 rfl) ?_
    refine lv_bipush (v := 6) hx hb dX4_test_66 (by decide) ?_
    refine lv_icmp_ge (tgt := 138) hx hb dX4_test_68 (by decide) (fun c1 => ?_) (fun c1 => ?_)
    · have hf := ite_t hf c1
      refine lv_iload hx hb dX4_test_138 (lv_at hl 7 rfl) ?_
      refine lv_iload hx hb dX4_test_140 (lv_at hl 5 rfl) ?_
      refine lv_icmp_le (tgt := 150) hx hb dX4_test_142 (by decide) (fun c2 => ?_) (fun c2 => ?_)
      · have hf := ite_t hf c2
        refine lv_iload hx hb dX4_test_150 (lv_at hl 5 rfl) ?_
        exact w4_test_b152 hI C0 k38 hk38 k51 hk51 S x4 x5 x6 x7 x9 x8 hf H locs ls hP hS (lv_sub hl [0, 1, 2, 3, 4, 6] rfl)
      · have hf := ite_f hf c2
        refine lv_iload hx hb dX4_test_145 (lv_at hl 7 rfl) ?_
        refine lv_goto (tgt := 152) hx hb dX4_test_147 (by decide) ?_
        exact w4_test_b152 hI C0 k38 hk38 k51 hk51 S x4 x5 x6 x7 x9 x10 hf H locs ls hP hS (lv_sub hl [0, 1, 2, 3, 4, 6] rfl)
    · have hf := ite_f hf c1
      refine lv_iload hx hb dX4_test_71 (lv_at hl 1 rfl) ?_
      refine lv_iload hx hb dX4_test_73 (lv_at hl 6 rfl) ?_
      refine lv_ishr hx hb dX4_test_75 ?_
      refine lv_iconst (v := 1) hx hb dX4_test_76 (by decide) ?_
      refine lv_iand hx hb dX4_test_77 ?_
      refine lv_iconst (v := 1) hx hb dX4_test_78 (by decide) ?_
      refine lv_icmp_ne (tgt := 97) hx hb dX4_test_79 (by decide) (fun c3 => ?_) (fun c3 => ?_)
      · have hf := ite_f hf c3
        exact w4_test_b97 hI C0 k38 hk38 k51 hk51 (f4_test_b64 k38 k51 n) ih S x4 x5 x6 x7 x8 x9 x10 x11 hf H locs ls hP hS (lv_sub hl [0, 1, 2, 3, 4, 5, 6, 7, 8] rfl)
      · have hf := ite_t hf c3
        refine lv_iload hx hb dX4_test_82 (lv_at hl 1 rfl) ?_
        refine lv_iload hx hb dX4_test_84 (lv_at hl 8 rfl) ?_
        refine lv_ishr hx hb dX4_test_86 ?_
        refine lv_iconst (v := 1) hx hb dX4_test_87 (by decide) ?_
        refine lv_iand hx hb dX4_test_88 ?_
        refine lv_iconst (v := 1) hx hb dX4_test_89 (by decide) ?_
        refine lv_icmp_ne (tgt := 97) hx hb dX4_test_90 (by decide) (fun c4 => ?_) (fun c4 => ?_)
        · have hf := ite_f hf c4
          exact w4_test_b97 hI C0 k38 hk38 k51 hk51 (f4_test_b64 k38 k51 n) ih S x4 x5 x6 x7 x8 x9 x10 x11 hf H locs ls hP hS (lv_sub hl [0, 1, 2, 3, 4, 5, 6, 7, 8] rfl)
        · have hf := ite_t hf c4
          refine lv_iconst (v := 1) hx hb dX4_test_93 (by decide) ?_
          refine lv_goto (tgt := 98) hx hb dX4_test_94 (by decide) ?_
          exact w4_test_b98 hI C0 k38 hk38 k51 hk51 (f4_test_b64 k38 k51 n) ih S x4 x5 x6 x7 x8 x9 x10 x11 1 hf H locs ls hP hS (lv_sub hl [0, 1, 2, 3, 4, 5, 6, 7, 8] rfl)
set_option maxHeartbeats 4000000 in
set_option maxRecDepth 100000 in
theorem w4_test_b51 {p : Program} {l : Launch} {e : Env} {s : State} {m : MethodId} {args : Array Value} {below : List Frame} {meth : Method} {c : Code} {D : va_G} {K : Nat → ClassId} {ad : Nat → Nat} (hI : INJ NM ad) (C0 : Cx p s m args meth c RX4 wsX4_test cX4_test 13 (some .int) (KM D K)) {r : Int32} {T : Mem} (k38 : Mem → Int32 → Int32 → Int32 → Int32 → Option (Int32 × Mem)) (hk38 : ∀ (S : Mem) (x4 : Int32) (x5 : Int32) (x6 : Int32) (x7 : Int32), k38 S x4 x5 x6 x7 = some (r, T) → ∀ (H : Heap) (locs : List Loc) (ls : Array Slot), va_P D vwCl (wl NM ad (EM K ad S)) H → va_S (IW NM ad) s.heap H locs → lv_has ls 13 [(0, .ref (ad 0)), (4, .int x4), (5, .int x5), (6, .int x6), (7, .int x7)] → W p l e rm4_test s m args below meth c H locs 0 0 (MQ below (va_Qi (fun (x : Int32) (u : Mem) => x = r ∧ u = T) (fun u t => va_P D vwCl (wl NM ad (EM K ad u)) t.heap) (IW NM ad)) args s 0 0 (IW NM ad)) (F0 m 38 ls [])) : ∀ (n : Nat), ∀ (S : Mem) (x4 : Int32) (x5 : Int32) (x6 : Int32) (x7 : Int32) (x8 : Int32) (x9 : Int32), f4_test_b51 k38 n S x4 x5 x6 x7 x8 x9 = some (r, T) → ∀ (H : Heap) (locs : List Loc) (ls : Array Slot), va_P D vwCl (wl NM ad (EM K ad S)) H → va_S (IW NM ad) s.heap H locs → lv_has ls 13 [(0, .ref (ad 0)), (4, .int x4), (5, .int x5), (6, .int x6), (7, .int x7), (8, .int x8), (9, .int x9)] → W p l e rm4_test s m args below meth c H locs 0 0 (MQ below (va_Qi (fun (x : Int32) (u : Mem) => x = r ∧ u = T) (fun u t => va_P D vwCl (wl NM ad (EM K ad u)) t.heap) (IW NM ad)) args s 0 0 (IW NM ad)) (F0 m 51 ls []) := by
  have hx := C0.1
  have hb := C0.2.1
  have hts := C0.2.2.2.2.1
  have hown := C0.2.2.2.1
  have hKC := C0.2.2.2.2.2.2.2
  intro n
  induction n with
  | zero =>
    intro S x4 x5 x6 x7 x8 x9 hf
    rw [f4_test_b51] at hf
    cases hf
  | succ n ih =>
    intro S x4 x5 x6 x7 x8 x9 hf H locs ls hP hS hl
    rw [f4_test_b51] at hf
    refine lv_iload hx hb dX4_test_51 (lv_at hl 6 rfl) ?_
    refine lv_bipush (v := 6) hx hb dX4_test_53 (by decide) ?_
    refine lv_icmp_ge (tgt := 160) hx hb dX4_test_55 (by decide) (fun c1 => ?_) (fun c1 => ?_)
    · have hf := ite_t hf c1
      refine lv_iload hx hb dX4_test_160 (lv_at hl 5 rfl) ?_
      refine lv_iload hx hb dX4_test_162 (lv_at hl 3 rfl) ?_
      refine lv_icmp_ge (tgt := 172) hx hb dX4_test_164 (by decide) (fun c2 => ?_) (fun c2 => ?_)
      · have hf := ite_t hf c2
        refine lv_iload hx hb dX4_test_172 (lv_at hl 2 rfl) ?_
        exact w4_test_b174 hI C0 k38 hk38 S x4 x6 x7 x8 x5 hf H locs ls hP hS (lv_sub hl [0, 1, 3, 4, 5] rfl)
      · have hf := ite_f hf c2
        refine lv_iload hx hb dX4_test_167 (lv_at hl 4 rfl) ?_
        refine lv_goto (tgt := 174) hx hb dX4_test_169 (by decide) ?_
        exact w4_test_b174 hI C0 k38 hk38 S x4 x6 x7 x8 x7 hf H locs ls hP hS (lv_sub hl [0, 1, 3, 4, 5] rfl)
    · have hf := ite_f hf c1
      refine lv_iconst (v := 0) hx hb dX4_test_58 (by decide) ?_
      refine lv_istore (lv' := [(10, .int 0), (0, .ref (ad 0)), (4, .int x4), (5, .int x5), (6, .int x6), (7, .int x7), (8, .int x8), (9, .int x9)]) hx hb dX4_test_59 hl (by decide) rfl (fun ls hl => ?_)
      refine lv_iconst (v := 0) hx hb dX4_test_61 (by decide) ?_
      refine lv_istore (lv' := [(11, .int 0), (10, .int 0), (0, .ref (ad 0)), (4, .int x4), (5, .int x5), (6, .int x6), (7, .int x7), (8, .int x8), (9, .int x9)]) hx hb dX4_test_62 hl (by decide) rfl (fun ls hl => ?_)
      exact w4_test_b64 hI C0 k38 hk38 (f4_test_b51 k38 n) ih FU S x4 x5 x6 x7 x8 x9 0 0 hf H locs ls hP hS (lv_sub hl [2, 3, 4, 5, 6, 7, 8, 1, 0] rfl)
set_option maxHeartbeats 4000000 in
set_option maxRecDepth 100000 in
theorem w4_test_b38 {p : Program} {l : Launch} {e : Env} {s : State} {m : MethodId} {args : Array Value} {below : List Frame} {meth : Method} {c : Code} {D : va_G} {K : Nat → ClassId} {ad : Nat → Nat} (hI : INJ NM ad) (C0 : Cx p s m args meth c RX4 wsX4_test cX4_test 13 (some .int) (KM D K)) {r : Int32} {T : Mem} : ∀ (n : Nat), ∀ (S : Mem) (x4 : Int32) (x5 : Int32) (x6 : Int32) (x7 : Int32), f4_test_b38 n S x4 x5 x6 x7 = some (r, T) → ∀ (H : Heap) (locs : List Loc) (ls : Array Slot), va_P D vwCl (wl NM ad (EM K ad S)) H → va_S (IW NM ad) s.heap H locs → lv_has ls 13 [(0, .ref (ad 0)), (4, .int x4), (5, .int x5), (6, .int x6), (7, .int x7)] → W p l e rm4_test s m args below meth c H locs 0 0 (MQ below (va_Qi (fun (x : Int32) (u : Mem) => x = r ∧ u = T) (fun u t => va_P D vwCl (wl NM ad (EM K ad u)) t.heap) (IW NM ad)) args s 0 0 (IW NM ad)) (F0 m 38 ls []) := by
  have hx := C0.1
  have hb := C0.2.1
  have hts := C0.2.2.2.2.1
  have hown := C0.2.2.2.1
  have hKC := C0.2.2.2.2.2.2.2
  intro n
  induction n with
  | zero =>
    intro S x4 x5 x6 x7 hf
    rw [f4_test_b38] at hf
    cases hf
  | succ n ih =>
    intro S x4 x5 x6 x7 hf H locs ls hP hS hl
    rw [f4_test_b38] at hf
    refine lv_iload hx hb dX4_test_38 (lv_at hl 4 rfl) ?_
    refine lv_bipush (v := 100) hx hb dX4_test_40 (by decide) ?_
    refine lv_icmp_ge (tgt := 198) hx hb dX4_test_42 (by decide) (fun c1 => ?_) (fun c1 => ?_)
    · have hf := ite_t hf c1
      refine lv_aload_n hx hb dX4_test_198 rfl (lv_at hl 0 rfl) ?_
      refine lv_iload hx hb dX4_test_199 (lv_at hl 2 rfl) ?_
      refine lv_iload hx hb dX4_test_201 (lv_at hl 3 rfl) ?_
      obtain ⟨v3, S4, h2, hf⟩ := b2_some hf
      refine sys_i hS (sys_runV (As := [.int x5, .int x6]) (rest := []) C0 KM_ok hKC hP hS (by decide) (EM_0 K ad S) rfl (m4_tells l D K ad hI S x5 x6 h2) gX4_test_X4_tells rfl ⟨rfl, rfl⟩ hd_X4_tells ⟨Nat.le_of_ble_eq_true rfl, Nat.le_of_ble_eq_true rfl⟩ hl.1 rfl (Nat.le_of_ble_eq_true rfl) dX4_test_203 ⟨Nat.le_refl _, Nat.le_refl _⟩) (fun H locs hP hS => ?_)
      exact ret_i C0 hP hS (congrArg Prod.fst (Option.some.inj hf)) (congrArg Prod.snd (Option.some.inj hf)) dX4_test_206
    · have hf := ite_f hf c1
      refine lv_iconst (v := 0) hx hb dX4_test_45 (by decide) ?_
      refine lv_istore (lv' := [(8, .int 0), (0, .ref (ad 0)), (4, .int x4), (5, .int x5), (6, .int x6), (7, .int x7)]) hx hb dX4_test_46 hl (by decide) rfl (fun ls hl => ?_)
      refine lv_iconst (v := 0) hx hb dX4_test_48 (by decide) ?_
      refine lv_istore (lv' := [(9, .int 0), (8, .int 0), (0, .ref (ad 0)), (4, .int x4), (5, .int x5), (6, .int x6), (7, .int x7)]) hx hb dX4_test_49 hl (by decide) rfl (fun ls hl => ?_)
      exact w4_test_b51 hI C0 (f4_test_b38 n) ih FU S x4 x5 x6 x7 0 0 hf H locs ls hP hS (lv_sub hl [2, 3, 4, 5, 6, 1, 0] rfl)
set_option maxHeartbeats 4000000 in
set_option maxRecDepth 100000 in
theorem w4_test {p : Program} {l : Launch} {e : Env} {s : State} {m : MethodId} {args : Array Value} {below : List Frame} {meth : Method} {c : Code} {D : va_G} {K : Nat → ClassId} {ad : Nat → Nat} (hI : INJ NM ad) (C0 : Cx p s m args meth c RX4 wsX4_test cX4_test 13 (some .int) (KM D K)) {r : Int32} {T : Mem} : ∀ (S : Mem) (x1 : Int32) (x2 : Int32), f4_test S x1 x2 = some (r, T) → ∀ (H : Heap) (locs : List Loc) (ls : Array Slot), va_P D vwCl (wl NM ad (EM K ad S)) H → va_S (IW NM ad) s.heap H locs → lv_has ls 13 [(0, .ref (ad 0)), (1, .int x1), (2, .int x2)] → W p l e rm4_test s m args below meth c H locs 0 0 (MQ below (va_Qi (fun (x : Int32) (u : Mem) => x = r ∧ u = T) (fun u t => va_P D vwCl (wl NM ad (EM K ad u)) t.heap) (IW NM ad)) args s 0 0 (IW NM ad)) (F0 m 0 ls []) := by
  have hx := C0.1
  have hb := C0.2.1
  have hts := C0.2.2.2.2.1
  have hown := C0.2.2.2.1
  have hKC := C0.2.2.2.2.2.2.2
  intro S x1 x2 hf H locs ls hP hS hl
  rw [f4_test] at hf
  refine lv_aload_n hx hb dX4_test_0 rfl (lv_at hl 0 rfl) ?_
  refine lv_iload_n hx hb dX4_test_1 rfl (lv_at hl 1 rfl) ?_
  refine lv_iload_n hx hb dX4_test_2 rfl (lv_at hl 2 rfl) ?_
  obtain ⟨v2, S3, h1, hf⟩ := b2_some hf
  refine sys_i hS (sys_runV (As := [.int x1, .int x2]) (rest := []) C0 KM_ok hKC hP hS (by decide) (EM_0 K ad S) rfl (m4_whyPairs l D K ad hI S x1 x2 h1) gX4_test_X4_whyPairs rfl ⟨rfl, rfl⟩ hd_X4_whyPairs ⟨Nat.le_of_ble_eq_true rfl, Nat.le_of_ble_eq_true rfl⟩ hl.1 rfl (Nat.le_of_ble_eq_true rfl) dX4_test_3 ⟨Nat.le_refl _, Nat.le_refl _⟩) (fun H locs hP hS => ?_)
  refine lv_istore_n (lv' := [(3, .int v2), (0, .ref (ad 0)), (1, .int x1), (2, .int x2)]) hx hb dX4_test_6 rfl hl (by decide) rfl (fun ls hl => ?_)
  refine lv_iload_n hx hb dX4_test_7 rfl (lv_at hl 0 rfl) ?_
  refine lv_if_ge (tgt := 13) hx hb dX4_test_8 (by decide) (fun c4 => ?_) (fun c4 => ?_)
  · have hf := ite_t hf c4
    refine lv_aload_n hx hb dX4_test_13 rfl (lv_at hl 1 rfl) ?_
    refine lv_iload_n hx hb dX4_test_14 rfl (lv_at hl 3 rfl) ?_
    obtain ⟨v6, h5, hf⟩ := b1_some hf
    refine sys_i hS (sys_runV (As := [.int x2]) (rest := []) C0 KM_ok hKC hP hS (by decide) (EM_0 K ad S3) rfl (m4_kindsBy l D K ad hI S3 x2 h5) gX4_test_X4_kindsBy rfl ⟨rfl, rfl⟩ hd_X4_kindsBy ⟨Nat.le_of_ble_eq_true rfl, Nat.le_of_ble_eq_true rfl⟩ hl.1 rfl (Nat.le_of_ble_eq_true rfl) dX4_test_15 ⟨Nat.le_refl _, Nat.le_refl _⟩) (fun H locs hP hS => ?_)
    refine lv_istore (lv' := [(4, .int v6), (3, .int v2), (0, .ref (ad 0)), (1, .int x1), (2, .int x2)]) hx hb dX4_test_18 hl (by decide) rfl (fun ls hl => ?_)
    refine lv_iload hx hb dX4_test_20 (lv_at hl 0 rfl) ?_
    refine lv_if_ne (tgt := 28) hx hb dX4_test_22 (by decide) (fun c7 => ?_) (fun c7 => ?_)
    · have hf := ite_f hf c7
      refine lv_iconst (v := 0) hx hb dX4_test_28 (by decide) ?_
      refine lv_istore (lv' := [(5, .int 0), (4, .int v6), (3, .int v2), (0, .ref (ad 0)), (1, .int x1), (2, .int x2)]) hx hb dX4_test_29 hl (by decide) rfl (fun ls hl => ?_)
      refine lv_bipush (v := 99) hx hb dX4_test_31 (by decide) ?_
      refine lv_istore (lv' := [(6, .int 99), (5, .int 0), (4, .int v6), (3, .int v2), (0, .ref (ad 0)), (1, .int x1), (2, .int x2)]) hx hb dX4_test_33 hl (by decide) rfl (fun ls hl => ?_)
      refine lv_iconst (v := 0) hx hb dX4_test_35 (by decide) ?_
      refine lv_istore (lv' := [(7, .int 0), (6, .int 99), (5, .int 0), (4, .int v6), (3, .int v2), (0, .ref (ad 0)), (1, .int x1), (2, .int x2)]) hx hb dX4_test_36 hl (by decide) rfl (fun ls hl => ?_)
      exact w4_test_b38 hI C0 FU S3 v6 0 99 0 hf H locs ls hP hS (lv_sub hl [5, 3, 2, 1, 0] rfl)
    · have hf := ite_t hf c7
      refine lv_bipush (v := (-9)) hx hb dX4_test_25 (by decide) ?_
      exact ret_i C0 hP hS (congrArg Prod.fst (Option.some.inj hf)) (congrArg Prod.snd (Option.some.inj hf)) dX4_test_27
  · have hf := ite_f hf c4
    refine lv_iload_n hx hb dX4_test_11 rfl (lv_at hl 0 rfl) ?_
    exact ret_i C0 hP hS (congrArg Prod.fst (Option.some.inj hf)) (congrArg Prod.snd (Option.some.inj hf)) dX4_test_12
theorem m4_test (l : Launch) (D : va_G) (K : Nat → ClassId) (ad : Nat → Nat) (hI : INJ NM ad) (S : Mem) (x1 : Int32) (x2 : Int32) {r : Int32} {T : Mem} (hf : f4_test S x1 x2 = some (r, T)) : SysI l yX4_test wsX4_test rm4_test D NM ad (EM K ad) (KM D K) [.ref (ad 0), .int x1, .int x2] S r T :=
  met_of (own := RX4) (by decide) rfl rfl (Nat.le_of_ble_eq_true rfl) (fun _ _ s _ _ _ _ ls C0 _ hP hl => w4_test hI C0 S x1 x2 hf s.heap [] ls hP va_S.rf hl)
theorem in_X4_jars_X4 : ∀ w ∈ wsX40, w ∈ wsX4_jars := fun _ h => List.mem_cons_of_mem _ (List.mem_append_right _ h)
theorem hd_X4_jars : yX4_jars.cls = RX4 ∧ yX4_jars.cls ≠ "java/lang/invoke/MethodHandle" ∧ yX4_jars.cls ≠ "java/lang/invoke/VarHandle" ∧ (parseMethodDescriptor yX4_jars.desc).map (fun d => d.parameters.length) = some 2 := by decide +kernel
abbrev rm4_jars : Room := { frames := 2, cells := 0, slots := 0, locals := 46 }
set_option maxHeartbeats 4000000 in
set_option maxRecDepth 100000 in
theorem w4_jars_b83 {p : Program} {l : Launch} {e : Env} {s : State} {m : MethodId} {args : Array Value} {below : List Frame} {meth : Method} {c : Code} {D : va_G} {K : Nat → ClassId} {ad : Nat → Nat} (hI : INJ NM ad) (C0 : Cx p s m args meth c RX4 wsX4_jars cX4_jars 7 (some .int) (KM D K)) {r : Int32} {T : Mem} (k31 : Mem → Int32 → Int32 → Int32 → Int32 → Int32 → Option (Int32 × Mem)) (hk31 : ∀ (S : Mem) (x1 : Int32) (x2 : Int32) (x3 : Int32) (x4 : Int32) (x5 : Int32), k31 S x1 x2 x3 x4 x5 = some (r, T) → ∀ (H : Heap) (locs : List Loc) (ls : Array Slot), va_P D vwCl (wl NM ad (EM K ad S)) H → va_S (IW NM ad) s.heap H locs → lv_has ls 7 [(0, .ref (ad 0)), (1, .int x1), (2, .int x2), (3, .int x3), (4, .int x4), (5, .int x5)] → W p l e rm4_jars s m args below meth c H locs 0 0 (MQ below (va_Qi (fun (x : Int32) (u : Mem) => x = r ∧ u = T) (fun u t => va_P D vwCl (wl NM ad (EM K ad u)) t.heap) (IW NM ad)) args s 0 0 (IW NM ad)) (F0 m 31 ls [])) : ∀ (S : Mem) (x1 : Int32) (x2 : Int32) (x3 : Int32) (x5 : Int32) (t0 : Int32), f4_jars_b83 k31 S x1 x2 x3 x5 t0 = some (r, T) → ∀ (H : Heap) (locs : List Loc) (ls : Array Slot), va_P D vwCl (wl NM ad (EM K ad S)) H → va_S (IW NM ad) s.heap H locs → lv_has ls 7 [(0, .ref (ad 0)), (1, .int x1), (2, .int x2), (3, .int x3), (5, .int x5)] → W p l e rm4_jars s m args below meth c H locs 0 0 (MQ below (va_Qi (fun (x : Int32) (u : Mem) => x = r ∧ u = T) (fun u t => va_P D vwCl (wl NM ad (EM K ad u)) t.heap) (IW NM ad)) args s 0 0 (IW NM ad)) (F0 m 83 ls [.int t0]) := by
  have hx := C0.1
  have hb := C0.2.1
  have hts := C0.2.2.2.2.1
  have hown := C0.2.2.2.1
  have hKC := C0.2.2.2.2.2.2.2
  intro S x1 x2 x3 x5 t0 hf H locs ls hP hS hl
  rw [f4_jars_b83] at hf
  refine lv_istore (lv' := [(4, .int t0), (0, .ref (ad 0)), (1, .int x1), (2, .int x2), (3, .int x3), (5, .int x5)]) hx hb dX4_jars_83 hl (by decide) rfl (fun ls hl => ?_)
  obtain ⟨v1, ev1⟩ : ∃ y : Int32, y = x5 + (-1) := ⟨_, rfl⟩
  have hf := nm_at ev1 hf
  refine lv_iinc (v := v1) (lv' := [(5, .int v1), (4, .int t0), (0, .ref (ad 0)), (1, .int x1), (2, .int x2), (3, .int x3)]) hx hb dX4_jars_85 hl (k := 5) rfl (by rw [ev1]; rfl) (by decide) rfl (fun ls hl => ?_)
  refine lv_goto (tgt := 31) hx hb dX4_jars_88 (by decide) ?_
  exact hk31 S x1 x2 x3 t0 v1 hf H locs ls hP hS (lv_sub hl [2, 3, 4, 5, 1, 0] rfl)
set_option maxHeartbeats 4000000 in
set_option maxRecDepth 100000 in
theorem w4_jars_b69 {p : Program} {l : Launch} {e : Env} {s : State} {m : MethodId} {args : Array Value} {below : List Frame} {meth : Method} {c : Code} {D : va_G} {K : Nat → ClassId} {ad : Nat → Nat} (hI : INJ NM ad) (C0 : Cx p s m args meth c RX4 wsX4_jars cX4_jars 7 (some .int) (KM D K)) {r : Int32} {T : Mem} (k31 : Mem → Int32 → Int32 → Int32 → Int32 → Int32 → Option (Int32 × Mem)) (hk31 : ∀ (S : Mem) (x1 : Int32) (x2 : Int32) (x3 : Int32) (x4 : Int32) (x5 : Int32), k31 S x1 x2 x3 x4 x5 = some (r, T) → ∀ (H : Heap) (locs : List Loc) (ls : Array Slot), va_P D vwCl (wl NM ad (EM K ad S)) H → va_S (IW NM ad) s.heap H locs → lv_has ls 7 [(0, .ref (ad 0)), (1, .int x1), (2, .int x2), (3, .int x3), (4, .int x4), (5, .int x5)] → W p l e rm4_jars s m args below meth c H locs 0 0 (MQ below (va_Qi (fun (x : Int32) (u : Mem) => x = r ∧ u = T) (fun u t => va_P D vwCl (wl NM ad (EM K ad u)) t.heap) (IW NM ad)) args s 0 0 (IW NM ad)) (F0 m 31 ls [])) : ∀ (S : Mem) (x1 : Int32) (x2 : Int32) (x4 : Int32) (x5 : Int32) (x6 : Int32) (t0 : Int32) (t1 : Int32), f4_jars_b69 k31 S x1 x2 x4 x5 x6 t0 t1 = some (r, T) → ∀ (H : Heap) (locs : List Loc) (ls : Array Slot), va_P D vwCl (wl NM ad (EM K ad S)) H → va_S (IW NM ad) s.heap H locs → lv_has ls 7 [(0, .ref (ad 0)), (1, .int x1), (2, .int x2), (4, .int x4), (5, .int x5), (6, .int x6)] → W p l e rm4_jars s m args below meth c H locs 0 0 (MQ below (va_Qi (fun (x : Int32) (u : Mem) => x = r ∧ u = T) (fun u t => va_P D vwCl (wl NM ad (EM K ad u)) t.heap) (IW NM ad)) args s 0 0 (IW NM ad)) (F0 m 69 ls [.int t1, .int t0]) := by
  have hx := C0.1
  have hb := C0.2.1
  have hts := C0.2.2.2.2.1
  have hown := C0.2.2.2.1
  have hKC := C0.2.2.2.2.2.2.2
  intro S x1 x2 x4 x5 x6 t0 t1 hf H locs ls hP hS hl
  rw [f4_jars_b69] at hf
  refine lv_iadd hx hb dX4_jars_69 ?_
  refine lv_topi (fun v1 ev1 => ?_)
  have hf := nm_at ev1 hf
  refine lv_istore_n (lv' := [(3, .int v1), (0, .ref (ad 0)), (1, .int x1), (2, .int x2), (4, .int x4), (5, .int x5), (6, .int x6)]) hx hb dX4_jars_70 rfl hl (by decide) rfl (fun ls hl => ?_)
  refine lv_iload hx hb dX4_jars_71 (lv_at hl 6 rfl) ?_
  refine lv_if_eq (tgt := 81) hx hb dX4_jars_73 (by decide) (fun c2 => ?_) (fun c2 => ?_)
  · have hf := ite_t hf c2
    refine lv_iload hx hb dX4_jars_81 (lv_at hl 4 rfl) ?_
    exact w4_jars_b83 hI C0 k31 hk31 S x1 x2 v1 x5 x4 hf H locs ls hP hS (lv_sub hl [1, 2, 3, 0, 5] rfl)
  · have hf := ite_f hf c2
    refine lv_iload hx hb dX4_jars_76 (lv_at hl 5 rfl) ?_
    refine lv_goto (tgt := 83) hx hb dX4_jars_78 (by decide) ?_
    exact w4_jars_b83 hI C0 k31 hk31 S x1 x2 v1 x5 x5 hf H locs ls hP hS (lv_sub hl [1, 2, 3, 0, 5] rfl)
set_option maxHeartbeats 4000000 in
set_option maxRecDepth 100000 in
theorem w4_jars_b56 {p : Program} {l : Launch} {e : Env} {s : State} {m : MethodId} {args : Array Value} {below : List Frame} {meth : Method} {c : Code} {D : va_G} {K : Nat → ClassId} {ad : Nat → Nat} (hI : INJ NM ad) (C0 : Cx p s m args meth c RX4 wsX4_jars cX4_jars 7 (some .int) (KM D K)) {r : Int32} {T : Mem} (k31 : Mem → Int32 → Int32 → Int32 → Int32 → Int32 → Option (Int32 × Mem)) (hk31 : ∀ (S : Mem) (x1 : Int32) (x2 : Int32) (x3 : Int32) (x4 : Int32) (x5 : Int32), k31 S x1 x2 x3 x4 x5 = some (r, T) → ∀ (H : Heap) (locs : List Loc) (ls : Array Slot), va_P D vwCl (wl NM ad (EM K ad S)) H → va_S (IW NM ad) s.heap H locs → lv_has ls 7 [(0, .ref (ad 0)), (1, .int x1), (2, .int x2), (3, .int x3), (4, .int x4), (5, .int x5)] → W p l e rm4_jars s m args below meth c H locs 0 0 (MQ below (va_Qi (fun (x : Int32) (u : Mem) => x = r ∧ u = T) (fun u t => va_P D vwCl (wl NM ad (EM K ad u)) t.heap) (IW NM ad)) args s 0 0 (IW NM ad)) (F0 m 31 ls [])) : ∀ (S : Mem) (x1 : Int32) (x2 : Int32) (x3 : Int32) (x4 : Int32) (x5 : Int32) (t0 : Int32), f4_jars_b56 k31 S x1 x2 x3 x4 x5 t0 = some (r, T) → ∀ (H : Heap) (locs : List Loc) (ls : Array Slot), va_P D vwCl (wl NM ad (EM K ad S)) H → va_S (IW NM ad) s.heap H locs → lv_has ls 7 [(0, .ref (ad 0)), (1, .int x1), (2, .int x2), (3, .int x3), (4, .int x4), (5, .int x5)] → W p l e rm4_jars s m args below meth c H locs 0 0 (MQ below (va_Qi (fun (x : Int32) (u : Mem) => x = r ∧ u = T) (fun u t => va_P D vwCl (wl NM ad (EM K ad u)) t.heap) (IW NM ad)) args s 0 0 (IW NM ad)) (F0 m 56 ls [.int t0]) := by
  have hx := C0.1
  have hb := C0.2.1
  have hts := C0.2.2.2.2.1
  have hown := C0.2.2.2.1
  have hKC := C0.2.2.2.2.2.2.2
  intro S x1 x2 x3 x4 x5 t0 hf H locs ls hP hS hl
  rw [f4_jars_b56] at hf
  refine lv_istore (lv' := [(6, .int t0), (0, .ref (ad 0)), (1, .int x1), (2, .int x2), (3, .int x3), (4, .int x4), (5, .int x5)]) hx hb dX4_jars_56 hl (by decide) rfl (fun ls hl => ?_)
  refine lv_iload_n hx hb dX4_jars_58 rfl (lv_at hl 4 rfl) ?_
  refine lv_iload hx hb dX4_jars_59 (lv_at hl 0 rfl) ?_
  refine lv_if_eq (tgt := 68) hx hb dX4_jars_61 (by decide) (fun c1 => ?_) (fun c1 => ?_)
  · have hf := ite_t hf c1
    refine lv_iconst (v := 0) hx hb dX4_jars_68 (by decide) ?_
    exact w4_jars_b69 hI C0 k31 hk31 S x1 x2 x4 x5 t0 x3 0 hf H locs ls hP hS (lv_sub hl [1, 2, 3, 5, 6, 0] rfl)
  · have hf := ite_f hf c1
    refine lv_iconst (v := 1) hx hb dX4_jars_64 (by decide) ?_
    refine lv_goto (tgt := 69) hx hb dX4_jars_65 (by decide) ?_
    exact w4_jars_b69 hI C0 k31 hk31 S x1 x2 x4 x5 t0 x3 1 hf H locs ls hP hS (lv_sub hl [1, 2, 3, 5, 6, 0] rfl)
set_option maxHeartbeats 4000000 in
set_option maxRecDepth 100000 in
theorem w4_jars_b31 {p : Program} {l : Launch} {e : Env} {s : State} {m : MethodId} {args : Array Value} {below : List Frame} {meth : Method} {c : Code} {D : va_G} {K : Nat → ClassId} {ad : Nat → Nat} (hI : INJ NM ad) (C0 : Cx p s m args meth c RX4 wsX4_jars cX4_jars 7 (some .int) (KM D K)) {r : Int32} {T : Mem} : ∀ (n : Nat), ∀ (S : Mem) (x1 : Int32) (x2 : Int32) (x3 : Int32) (x4 : Int32) (x5 : Int32), f4_jars_b31 n S x1 x2 x3 x4 x5 = some (r, T) → ∀ (H : Heap) (locs : List Loc) (ls : Array Slot), va_P D vwCl (wl NM ad (EM K ad S)) H → va_S (IW NM ad) s.heap H locs → lv_has ls 7 [(0, .ref (ad 0)), (1, .int x1), (2, .int x2), (3, .int x3), (4, .int x4), (5, .int x5)] → W p l e rm4_jars s m args below meth c H locs 0 0 (MQ below (va_Qi (fun (x : Int32) (u : Mem) => x = r ∧ u = T) (fun u t => va_P D vwCl (wl NM ad (EM K ad u)) t.heap) (IW NM ad)) args s 0 0 (IW NM ad)) (F0 m 31 ls []) := by
  have hx := C0.1
  have hb := C0.2.1
  have hts := C0.2.2.2.2.1
  have hown := C0.2.2.2.1
  have hKC := C0.2.2.2.2.2.2.2
  intro n
  induction n with
  | zero =>
    intro S x1 x2 x3 x4 x5 hf
    rw [f4_jars_b31] at hf
    cases hf
  | succ n ih =>
    intro S x1 x2 x3 x4 x5 hf H locs ls hP hS hl
    rw [f4_jars_b31] at hf
    refine lv_iload hx hb dX4_jars_31 (lv_at hl 5 rfl) ?_
    refine lv_if_lt (tgt := 91) hx hb dX4_jars_33 (by decide) (fun c1 => ?_) (fun c1 => ?_)
    · have hf := ite_t hf c1
      refine lv_iload_n hx hb dX4_jars_91 rfl (lv_at hl 3 rfl) ?_
      refine lv_if_ne (tgt := 100) hx hb dX4_jars_92 (by decide) (fun c2 => ?_) (fun c2 => ?_)
      · have hf := ite_f hf c2
        refine lv_aload_n hx hb dX4_jars_100 rfl (lv_at hl 0 rfl) ?_
        refine lv_iload_n hx hb dX4_jars_101 rfl (lv_at hl 3 rfl) ?_
        refine lv_iload hx hb dX4_jars_102 (lv_at hl 4 rfl) ?_
        obtain ⟨v4, S5, h3, hf⟩ := b2_some hf
        refine sys_i hS (sys_runV (As := [.int x3, .int x4]) (rest := []) C0 KM_ok hKC hP hS (by decide) (EM_0 K ad S) rfl (m4_tells l D K ad hI S x3 x4 h3) gX4_jars_X4_tells rfl ⟨rfl, rfl⟩ hd_X4_tells ⟨Nat.le_of_ble_eq_true rfl, Nat.le_of_ble_eq_true rfl⟩ hl.1 rfl (Nat.le_of_ble_eq_true rfl) dX4_jars_104 ⟨Nat.le_refl _, Nat.le_refl _⟩) (fun H locs hP hS => ?_)
        exact ret_i C0 hP hS (congrArg Prod.fst (Option.some.inj hf)) (congrArg Prod.snd (Option.some.inj hf)) dX4_jars_107
      · have hf := ite_t hf c2
        refine lv_bipush (v := (-9)) hx hb dX4_jars_95 (by decide) ?_
        refine lv_goto (tgt := 107) hx hb dX4_jars_97 (by decide) ?_
        exact ret_i C0 hP hS (congrArg Prod.fst (Option.some.inj hf)) (congrArg Prod.snd (Option.some.inj hf)) dX4_jars_107
    · have hf := ite_f hf c1
      refine lv_aload_n hx hb dX4_jars_36 rfl (lv_at hl 0 rfl) ?_
      refine x_get C0 hKC hP (by decide) (EM_0 K ad S) rfl in_X4_jars_X4 13 (by decide) (List.mem_of_getElem? (i := 2) rfl) rfl dX4_jars_37 ?_
      refine lv_iload_n hx hb dX4_jars_40 rfl (lv_at hl 1 rfl) ?_
      obtain ⟨g6, hf⟩ := gd_some hf
      refine x_iald C0 hKC hP (IM_8 K ad) (t0 := 0) rfl g6 dX4_jars_41 ?_
      refine lv_iload hx hb dX4_jars_42 (lv_at hl 5 rfl) ?_
      obtain ⟨v8, h7, hf⟩ := b1_some hf
      refine sys_i hS (sys_runS (As := [.int (gi S 8 (ix x1)), .int x5]) (rest := []) C0 KM_ok hP hS (m4_worthTo l D K ad hI S (gi S 8 (ix x1)) x5 h7) gX4_jars_X4_worthTo rfl ⟨rfl, rfl⟩ hd_X4_worthTo ⟨Nat.le_of_ble_eq_true rfl, Nat.le_of_ble_eq_true rfl⟩ hl.1 rfl (Nat.le_of_ble_eq_true rfl) dX4_jars_44 ⟨Nat.le_refl _, Nat.le_refl _⟩) (fun H locs hP hS => ?_)
      refine lv_iload_n hx hb dX4_jars_47 rfl (lv_at hl 2 rfl) ?_
      refine lv_icmp_ne (tgt := 55) hx hb dX4_jars_48 (by decide) (fun c9 => ?_) (fun c9 => ?_)
      · have hf := ite_f hf c9
        refine lv_iconst (v := 0) hx hb dX4_jars_55 (by decide) ?_
        exact w4_jars_b56 hI C0 (f4_jars_b31 n) ih S x1 x2 x3 x4 x5 0 hf H locs ls hP hS (lv_sub hl [0, 1, 2, 3, 4, 5] rfl)
      · have hf := ite_t hf c9
        refine lv_iconst (v := 1) hx hb dX4_jars_51 (by decide) ?_
        refine lv_goto (tgt := 56) hx hb dX4_jars_52 (by decide) ?_
        exact w4_jars_b56 hI C0 (f4_jars_b31 n) ih S x1 x2 x3 x4 x5 1 hf H locs ls hP hS (lv_sub hl [0, 1, 2, 3, 4, 5] rfl)
set_option maxHeartbeats 4000000 in
set_option maxRecDepth 100000 in
theorem w4_jars {p : Program} {l : Launch} {e : Env} {s : State} {m : MethodId} {args : Array Value} {below : List Frame} {meth : Method} {c : Code} {D : va_G} {K : Nat → ClassId} {ad : Nat → Nat} (hI : INJ NM ad) (C0 : Cx p s m args meth c RX4 wsX4_jars cX4_jars 7 (some .int) (KM D K)) {r : Int32} {T : Mem} : ∀ (S : Mem) (x1 : Int32) (x2 : Int32), f4_jars S x1 x2 = some (r, T) → ∀ (H : Heap) (locs : List Loc) (ls : Array Slot), va_P D vwCl (wl NM ad (EM K ad S)) H → va_S (IW NM ad) s.heap H locs → lv_has ls 7 [(0, .ref (ad 0)), (1, .int x1), (2, .int x2)] → W p l e rm4_jars s m args below meth c H locs 0 0 (MQ below (va_Qi (fun (x : Int32) (u : Mem) => x = r ∧ u = T) (fun u t => va_P D vwCl (wl NM ad (EM K ad u)) t.heap) (IW NM ad)) args s 0 0 (IW NM ad)) (F0 m 0 ls []) := by
  have hx := C0.1
  have hb := C0.2.1
  have hts := C0.2.2.2.2.1
  have hown := C0.2.2.2.1
  have hKC := C0.2.2.2.2.2.2.2
  intro S x1 x2 hf H locs ls hP hS hl
  rw [f4_jars] at hf
  refine lv_aload_n hx hb dX4_jars_0 rfl (lv_at hl 0 rfl) ?_
  refine lv_iload_n hx hb dX4_jars_1 rfl (lv_at hl 1 rfl) ?_
  obtain ⟨v2, h1, hf⟩ := b1_some hf
  refine sys_i hS (sys_runV (As := [.int x1]) (rest := []) C0 KM_ok hKC hP hS (by decide) (EM_0 K ad S) rfl (m4_isHouse l D K ad hI S x1 h1) gX4_jars_X4_isHouse rfl ⟨rfl, rfl⟩ hd_X4_isHouse ⟨Nat.le_of_ble_eq_true rfl, Nat.le_of_ble_eq_true rfl⟩ hl.1 rfl (Nat.le_of_ble_eq_true rfl) dX4_jars_2 ⟨Nat.le_refl _, Nat.le_refl _⟩) (fun H locs hP hS => ?_)
  refine lv_if_eq (tgt := 20) hx hb dX4_jars_5 (by decide) (fun c3 => ?_) (fun c3 => ?_)
  · have hf := ite_t hf c3
    refine lv_iconst (v := (-1)) hx hb dX4_jars_20 (by decide) ?_
    exact ret_i C0 hP hS (congrArg Prod.fst (Option.some.inj hf)) (congrArg Prod.snd (Option.some.inj hf)) dX4_jars_21
  · have hf := ite_f hf c3
    refine lv_iload_n hx hb dX4_jars_8 rfl (lv_at hl 2 rfl) ?_
    refine lv_i2l (v := (Int32.toInt64 x2)) hx hb dX4_jars_9 rfl ?_
    refine lv_lconst (v := 0) hx hb dX4_jars_10 (by decide) ?_
    refine lv_ldc2 (v := 300) hx hb hown (hts _ (List.mem_of_getElem? (i := 1) rfl)) dX4_jars_11 ?_
    obtain ⟨v5, h4, hf⟩ := b1_some hf
    refine sys_i hS (sys_runS (As := [.long (Int32.toInt64 x2), .long 0, .long 300]) (rest := []) C0 KM_ok hP hS (m4_in l D K ad hI S (Int32.toInt64 x2) 0 300 h4) gX4_jars_X4_in rfl ⟨rfl, rfl⟩ hd_X4_in ⟨Nat.le_of_ble_eq_true rfl, Nat.le_of_ble_eq_true rfl⟩ hl.1 rfl (Nat.le_of_ble_eq_true rfl) dX4_jars_14 ⟨Nat.le_refl _, Nat.le_refl _⟩) (fun H locs hP hS => ?_)
    refine lv_if_ne (tgt := 22) hx hb dX4_jars_17 (by decide) (fun c6 => ?_) (fun c6 => ?_)
    · have hf := ite_f hf c6
      refine lv_iconst (v := 0) hx hb dX4_jars_22 (by decide) ?_
      refine lv_istore_n (lv' := [(3, .int 0), (0, .ref (ad 0)), (1, .int x1), (2, .int x2)]) hx hb dX4_jars_23 rfl hl (by decide) rfl (fun ls hl => ?_)
      refine lv_iconst (v := 0) hx hb dX4_jars_24 (by decide) ?_
      refine lv_istore (lv' := [(4, .int 0), (3, .int 0), (0, .ref (ad 0)), (1, .int x1), (2, .int x2)]) hx hb dX4_jars_25 hl (by decide) rfl (fun ls hl => ?_)
      refine lv_bipush (v := 99) hx hb dX4_jars_27 (by decide) ?_
      refine lv_istore (lv' := [(5, .int 99), (4, .int 0), (3, .int 0), (0, .ref (ad 0)), (1, .int x1), (2, .int x2)]) hx hb dX4_jars_29 hl (by decide) rfl (fun ls hl => ?_)
      exact w4_jars_b31 hI C0 FU S x1 x2 0 0 99 hf H locs ls hP hS (lv_sub hl [3, 4, 5, 2, 1, 0] rfl)
    · have hf := ite_t hf c6
      refine lv_iconst (v := (-1)) hx hb dX4_jars_20 (by decide) ?_
      exact ret_i C0 hP hS (congrArg Prod.fst (Option.some.inj hf)) (congrArg Prod.snd (Option.some.inj hf)) dX4_jars_21
theorem m4_jars (l : Launch) (D : va_G) (K : Nat → ClassId) (ad : Nat → Nat) (hI : INJ NM ad) (S : Mem) (x1 : Int32) (x2 : Int32) {r : Int32} {T : Mem} (hf : f4_jars S x1 x2 = some (r, T)) : SysI l yX4_jars wsX4_jars rm4_jars D NM ad (EM K ad) (KM D K) [.ref (ad 0), .int x1, .int x2] S r T :=
  met_of (own := RX4) (by decide) rfl rfl (Nat.le_of_ble_eq_true rfl) (fun _ _ s _ _ _ _ ls C0 _ hP hl => w4_jars hI C0 S x1 x2 hf s.heap [] ls hP va_S.rf hl)
theorem in_X4_takesNine_X4 : ∀ w ∈ wsX40, w ∈ wsX4_takesNine := fun _ h => List.mem_cons_of_mem _ (List.mem_append_right _ h)
theorem hd_X4_takesNine : yX4_takesNine.cls = RX4 ∧ yX4_takesNine.cls ≠ "java/lang/invoke/MethodHandle" ∧ yX4_takesNine.cls ≠ "java/lang/invoke/VarHandle" ∧ (parseMethodDescriptor yX4_takesNine.desc).map (fun d => d.parameters.length) = some 1 := by decide +kernel
abbrev rm4_takesNine : Room := { frames := 1, cells := 0, slots := 0, locals := 22 }
set_option maxHeartbeats 4000000 in
set_option maxRecDepth 100000 in
theorem w4_takesNine_b47 {p : Program} {l : Launch} {e : Env} {s : State} {m : MethodId} {args : Array Value} {below : List Frame} {meth : Method} {c : Code} {D : va_G} {K : Nat → ClassId} {ad : Nat → Nat} (hI : INJ NM ad) (C0 : Cx p s m args meth c RX4 wsX4_takesNine cX4_takesNine 3 none (KM D K)) {T : Mem} : ∀ (S : Mem) (x1 : Int32) (t0 : Int32), f4_takesNine_b47 S x1 t0 = some T → ∀ (H : Heap) (locs : List Loc) (ls : Array Slot), va_P D vwCl (wl NM ad (EM K ad S)) H → va_S (IW NM ad) s.heap H locs → lv_has ls 3 [(0, .ref (ad 0)), (1, .int x1)] → W p l e rm4_takesNine s m args below meth c H locs 0 0 (MQ below (va_Qv (fun (u : Mem) => u = T) (fun u t => va_P D vwCl (wl NM ad (EM K ad u)) t.heap) (IW NM ad)) args s 0 0 (IW NM ad)) (F0 m 47 ls [.int t0]) := by
  have hx := C0.1
  have hb := C0.2.1
  have hts := C0.2.2.2.2.1
  have hown := C0.2.2.2.1
  have hKC := C0.2.2.2.2.2.2.2
  intro S x1 t0 hf H locs ls hP hS hl
  rw [f4_takesNine_b47] at hf
  refine lv_istore_n (lv' := [(2, .int t0), (0, .ref (ad 0)), (1, .int x1)]) hx hb dX4_takesNine_47 rfl hl (by decide) rfl (fun ls hl => ?_)
  refine lv_aload_n hx hb dX4_takesNine_48 rfl (lv_at hl 1 rfl) ?_
  refine lv_iload_n hx hb dX4_takesNine_49 rfl (lv_at hl 2 rfl) ?_
  refine lv_iload_n hx hb dX4_takesNine_50 rfl (lv_at hl 0 rfl) ?_
  refine lv_ineg hx hb dX4_takesNine_51 ?_
  obtain ⟨S2, h1, hf⟩ := b1_some hf
  refine sys_v hS (sys_runV (As := [.int x1, .int (-t0)]) (rest := []) C0 KM_ok hKC hP hS (by decide) (EM_0 K ad S) rfl (m4_leaves l D K ad hI S x1 (-t0) h1) gX4_takesNine_X4_leaves rfl ⟨rfl, rfl⟩ hd_X4_leaves ⟨Nat.le_of_ble_eq_true rfl, Nat.le_of_ble_eq_true rfl⟩ hl.1 rfl (Nat.le_of_ble_eq_true rfl) dX4_takesNine_52 ⟨Nat.le_refl _, Nat.le_refl _⟩) (fun H locs hP hS => ?_)
  exact ret_v C0 hP hS (Option.some.inj hf) dX4_takesNine_55
set_option maxHeartbeats 4000000 in
set_option maxRecDepth 100000 in
theorem w4_takesNine_b22 {p : Program} {l : Launch} {e : Env} {s : State} {m : MethodId} {args : Array Value} {below : List Frame} {meth : Method} {c : Code} {D : va_G} {K : Nat → ClassId} {ad : Nat → Nat} (hI : INJ NM ad) (C0 : Cx p s m args meth c RX4 wsX4_takesNine cX4_takesNine 3 none (KM D K)) {T : Mem} : ∀ (S : Mem) (x1 : Int32) (t0 : Int32), f4_takesNine_b22 S x1 t0 = some T → ∀ (H : Heap) (locs : List Loc) (ls : Array Slot), va_P D vwCl (wl NM ad (EM K ad S)) H → va_S (IW NM ad) s.heap H locs → lv_has ls 3 [(0, .ref (ad 0)), (1, .int x1)] → W p l e rm4_takesNine s m args below meth c H locs 0 0 (MQ below (va_Qv (fun (u : Mem) => u = T) (fun u t => va_P D vwCl (wl NM ad (EM K ad u)) t.heap) (IW NM ad)) args s 0 0 (IW NM ad)) (F0 m 22 ls [.int t0]) := by
  have hx := C0.1
  have hb := C0.2.1
  have hts := C0.2.2.2.2.1
  have hown := C0.2.2.2.1
  have hKC := C0.2.2.2.2.2.2.2
  intro S x1 t0 hf H locs ls hP hS hl
  rw [f4_takesNine_b22] at hf
  refine lv_istore_n (lv' := [(2, .int t0), (0, .ref (ad 0)), (1, .int x1)]) hx hb dX4_takesNine_22 rfl hl (by decide) rfl (fun ls hl => ?_)
  refine lv_aload_n hx hb dX4_takesNine_23 rfl (lv_at hl 1 rfl) ?_
  refine lv_iload_n hx hb dX4_takesNine_24 rfl (lv_at hl 2 rfl) ?_
  obtain ⟨v2, h1, hf⟩ := b1_some hf
  refine sys_i hS (sys_runV (As := [.int x1]) (rest := []) C0 KM_ok hKC hP hS (by decide) (EM_0 K ad S) rfl (m4_jar l D K ad hI S x1 h1) gX4_takesNine_X4_jar rfl ⟨rfl, rfl⟩ hd_X4_jar ⟨Nat.le_of_ble_eq_true rfl, Nat.le_of_ble_eq_true rfl⟩ hl.1 rfl (Nat.le_of_ble_eq_true rfl) dX4_takesNine_25 ⟨Nat.le_refl _, Nat.le_refl _⟩) (fun H locs hP hS => ?_)
  refine lv_iload_n hx hb dX4_takesNine_28 rfl (lv_at hl 0 rfl) ?_
  refine lv_iadd hx hb dX4_takesNine_29 ?_
  refine lv_bipush (v := 99) hx hb dX4_takesNine_30 (by decide) ?_
  refine lv_icmp_le (tgt := 46) hx hb dX4_takesNine_32 (by decide) (fun c3 => ?_) (fun c3 => ?_)
  · have hf := ite_t hf c3
    refine lv_iload_n hx hb dX4_takesNine_46 rfl (lv_at hl 0 rfl) ?_
    exact w4_takesNine_b47 hI C0 S x1 t0 hf H locs ls hP hS (lv_sub hl [1, 2] rfl)
  · have hf := ite_f hf c3
    refine lv_bipush (v := 99) hx hb dX4_takesNine_35 (by decide) ?_
    refine lv_aload_n hx hb dX4_takesNine_37 rfl (lv_at hl 1 rfl) ?_
    refine lv_iload_n hx hb dX4_takesNine_38 rfl (lv_at hl 2 rfl) ?_
    obtain ⟨v5, h4, hf⟩ := b1_some hf
    refine sys_i hS (sys_runV (As := [.int x1]) (rest := [.int 99]) C0 KM_ok hKC hP hS (by decide) (EM_0 K ad S) rfl (m4_jar l D K ad hI S x1 h4) gX4_takesNine_X4_jar rfl ⟨rfl, rfl⟩ hd_X4_jar ⟨Nat.le_of_ble_eq_true rfl, Nat.le_of_ble_eq_true rfl⟩ hl.1 rfl (Nat.le_of_ble_eq_true rfl) dX4_takesNine_39 ⟨Nat.le_refl _, Nat.le_refl _⟩) (fun H locs hP hS => ?_)
    refine lv_isub hx hb dX4_takesNine_42 ?_
    refine lv_goto (tgt := 47) hx hb dX4_takesNine_43 (by decide) ?_
    exact w4_takesNine_b47 hI C0 S x1 (99 - v5) hf H locs ls hP hS (lv_sub hl [1, 2] rfl)
set_option maxHeartbeats 4000000 in
set_option maxRecDepth 100000 in
theorem w4_takesNine {p : Program} {l : Launch} {e : Env} {s : State} {m : MethodId} {args : Array Value} {below : List Frame} {meth : Method} {c : Code} {D : va_G} {K : Nat → ClassId} {ad : Nat → Nat} (hI : INJ NM ad) (C0 : Cx p s m args meth c RX4 wsX4_takesNine cX4_takesNine 3 none (KM D K)) {T : Mem} : ∀ (S : Mem) (x1 : Int32), f4_takesNine S x1 = some T → ∀ (H : Heap) (locs : List Loc) (ls : Array Slot), va_P D vwCl (wl NM ad (EM K ad S)) H → va_S (IW NM ad) s.heap H locs → lv_has ls 3 [(0, .ref (ad 0)), (1, .int x1)] → W p l e rm4_takesNine s m args below meth c H locs 0 0 (MQ below (va_Qv (fun (u : Mem) => u = T) (fun u t => va_P D vwCl (wl NM ad (EM K ad u)) t.heap) (IW NM ad)) args s 0 0 (IW NM ad)) (F0 m 0 ls []) := by
  have hx := C0.1
  have hb := C0.2.1
  have hts := C0.2.2.2.2.1
  have hown := C0.2.2.2.1
  have hKC := C0.2.2.2.2.2.2.2
  intro S x1 hf H locs ls hP hS hl
  rw [f4_takesNine] at hf
  refine lv_aload_n hx hb dX4_takesNine_0 rfl (lv_at hl 0 rfl) ?_
  refine x_get C0 hKC hP (by decide) (EM_0 K ad S) rfl in_X4_takesNine_X4 16 (by decide) (List.mem_of_getElem? (i := 1) rfl) rfl dX4_takesNine_1 ?_
  refine lv_iconst (v := 1) hx hb dX4_takesNine_4 (by decide) ?_
  obtain ⟨g1, hf⟩ := gd_some hf
  refine x_iald C0 hKC hP (IM_11 K ad) (t0 := 0) rfl g1 dX4_takesNine_5 ?_
  refine lv_bipush (v := 9) hx hb dX4_takesNine_6 (by decide) ?_
  refine lv_icmp_ge (tgt := 20) hx hb dX4_takesNine_8 (by decide) (fun c2 => ?_) (fun c2 => ?_)
  · have hf := ite_t hf c2
    refine lv_bipush (v := 9) hx hb dX4_takesNine_20 (by decide) ?_
    exact w4_takesNine_b22 hI C0 S x1 9 hf H locs ls hP hS (lv_sub hl [0, 1] rfl)
  · have hf := ite_f hf c2
    refine lv_aload_n hx hb dX4_takesNine_11 rfl (lv_at hl 0 rfl) ?_
    refine x_get C0 hKC hP (by decide) (EM_0 K ad S) rfl in_X4_takesNine_X4 16 (by decide) (List.mem_of_getElem? (i := 1) rfl) rfl dX4_takesNine_12 ?_
    refine lv_iconst (v := 1) hx hb dX4_takesNine_15 (by decide) ?_
    obtain ⟨g3, hf⟩ := gd_some hf
    refine x_iald C0 hKC hP (IM_11 K ad) (t0 := 0) rfl g3 dX4_takesNine_16 ?_
    refine lv_goto (tgt := 22) hx hb dX4_takesNine_17 (by decide) ?_
    exact w4_takesNine_b22 hI C0 S x1 (gi S 11 (ix 1)) hf H locs ls hP hS (lv_sub hl [0, 1] rfl)
theorem m4_takesNine (l : Launch) (D : va_G) (K : Nat → ClassId) (ad : Nat → Nat) (hI : INJ NM ad) (S : Mem) (x1 : Int32) {T : Mem} (hf : f4_takesNine S x1 = some T) : SysV l yX4_takesNine wsX4_takesNine rm4_takesNine D NM ad (EM K ad) (KM D K) [.ref (ad 0), .int x1] S T :=
  met_of (own := RX4) (by decide) rfl rfl (Nat.le_of_ble_eq_true rfl) (fun _ _ s _ _ _ _ ls C0 _ hP hl => w4_takesNine hI C0 S x1 hf s.heap [] ls hP va_S.rf hl)
theorem in_X4_leavesNine_X4 : ∀ w ∈ wsX40, w ∈ wsX4_leavesNine := fun _ h => List.mem_cons_of_mem _ (List.mem_append_right _ h)
theorem hd_X4_leavesNine : yX4_leavesNine.cls = RX4 ∧ yX4_leavesNine.cls ≠ "java/lang/invoke/MethodHandle" ∧ yX4_leavesNine.cls ≠ "java/lang/invoke/VarHandle" ∧ (parseMethodDescriptor yX4_leavesNine.desc).map (fun d => d.parameters.length) = some 1 := by decide +kernel
abbrev rm4_leavesNine : Room := { frames := 1, cells := 0, slots := 0, locals := 22 }
set_option maxHeartbeats 4000000 in
set_option maxRecDepth 100000 in
theorem w4_leavesNine_b22 {p : Program} {l : Launch} {e : Env} {s : State} {m : MethodId} {args : Array Value} {below : List Frame} {meth : Method} {c : Code} {D : va_G} {K : Nat → ClassId} {ad : Nat → Nat} (hI : INJ NM ad) (C0 : Cx p s m args meth c RX4 wsX4_leavesNine cX4_leavesNine 2 none (KM D K)) {T : Mem} : ∀ (S : Mem) (t1 : Int32) (t2 : Int32), f4_leavesNine_b22 S t1 t2 = some T → ∀ (H : Heap) (locs : List Loc) (ls : Array Slot), va_P D vwCl (wl NM ad (EM K ad S)) H → va_S (IW NM ad) s.heap H locs → lv_has ls 2 [] → W p l e rm4_leavesNine s m args below meth c H locs 0 0 (MQ below (va_Qv (fun (u : Mem) => u = T) (fun u t => va_P D vwCl (wl NM ad (EM K ad u)) t.heap) (IW NM ad)) args s 0 0 (IW NM ad)) (F0 m 22 ls [.int t2, .int t1, .ref (ad 0)]) := by
  have hx := C0.1
  have hb := C0.2.1
  have hts := C0.2.2.2.2.1
  have hown := C0.2.2.2.1
  have hKC := C0.2.2.2.2.2.2.2
  intro S t1 t2 hf H locs ls hP hS hl
  rw [f4_leavesNine_b22] at hf
  obtain ⟨S2, h1, hf⟩ := b1_some hf
  refine sys_v hS (sys_runV (As := [.int t1, .int t2]) (rest := []) C0 KM_ok hKC hP hS (by decide) (EM_0 K ad S) rfl (m4_leaves l D K ad hI S t1 t2 h1) gX4_leavesNine_X4_leaves rfl ⟨rfl, rfl⟩ hd_X4_leaves ⟨Nat.le_of_ble_eq_true rfl, Nat.le_of_ble_eq_true rfl⟩ hl.1 rfl (Nat.le_of_ble_eq_true rfl) dX4_leavesNine_22 ⟨Nat.le_refl _, Nat.le_refl _⟩) (fun H locs hP hS => ?_)
  exact ret_v C0 hP hS (Option.some.inj hf) dX4_leavesNine_25
set_option maxHeartbeats 4000000 in
set_option maxRecDepth 100000 in
theorem w4_leavesNine {p : Program} {l : Launch} {e : Env} {s : State} {m : MethodId} {args : Array Value} {below : List Frame} {meth : Method} {c : Code} {D : va_G} {K : Nat → ClassId} {ad : Nat → Nat} (hI : INJ NM ad) (C0 : Cx p s m args meth c RX4 wsX4_leavesNine cX4_leavesNine 2 none (KM D K)) {T : Mem} : ∀ (S : Mem) (x1 : Int32), f4_leavesNine S x1 = some T → ∀ (H : Heap) (locs : List Loc) (ls : Array Slot), va_P D vwCl (wl NM ad (EM K ad S)) H → va_S (IW NM ad) s.heap H locs → lv_has ls 2 [(0, .ref (ad 0)), (1, .int x1)] → W p l e rm4_leavesNine s m args below meth c H locs 0 0 (MQ below (va_Qv (fun (u : Mem) => u = T) (fun u t => va_P D vwCl (wl NM ad (EM K ad u)) t.heap) (IW NM ad)) args s 0 0 (IW NM ad)) (F0 m 0 ls []) := by
  have hx := C0.1
  have hb := C0.2.1
  have hts := C0.2.2.2.2.1
  have hown := C0.2.2.2.1
  have hKC := C0.2.2.2.2.2.2.2
  intro S x1 hf H locs ls hP hS hl
  rw [f4_leavesNine] at hf
  refine lv_aload_n hx hb dX4_leavesNine_0 rfl (lv_at hl 0 rfl) ?_
  refine lv_iload_n hx hb dX4_leavesNine_1 rfl (lv_at hl 1 rfl) ?_
  refine lv_aload_n hx hb dX4_leavesNine_2 rfl (lv_at hl 0 rfl) ?_
  refine lv_iload_n hx hb dX4_leavesNine_3 rfl (lv_at hl 1 rfl) ?_
  obtain ⟨v2, h1, hf⟩ := b1_some hf
  refine sys_i hS (sys_runV (As := [.int x1]) (rest := [.int x1, .ref (ad 0)]) C0 KM_ok hKC hP hS (by decide) (EM_0 K ad S) rfl (m4_jar l D K ad hI S x1 h1) gX4_leavesNine_X4_jar rfl ⟨rfl, rfl⟩ hd_X4_jar ⟨Nat.le_of_ble_eq_true rfl, Nat.le_of_ble_eq_true rfl⟩ hl.1 rfl (Nat.le_of_ble_eq_true rfl) dX4_leavesNine_4 ⟨Nat.le_refl _, Nat.le_refl _⟩) (fun H locs hP hS => ?_)
  refine lv_bipush (v := 9) hx hb dX4_leavesNine_7 (by decide) ?_
  refine lv_icmp_ge (tgt := 20) hx hb dX4_leavesNine_9 (by decide) (fun c3 => ?_) (fun c3 => ?_)
  · have hf := ite_t hf c3
    refine lv_bipush (v := 9) hx hb dX4_leavesNine_20 (by decide) ?_
    exact w4_leavesNine_b22 hI C0 S x1 9 hf H locs ls hP hS (lv_sub hl [] rfl)
  · have hf := ite_f hf c3
    refine lv_aload_n hx hb dX4_leavesNine_12 rfl (lv_at hl 0 rfl) ?_
    refine lv_iload_n hx hb dX4_leavesNine_13 rfl (lv_at hl 1 rfl) ?_
    obtain ⟨v5, h4, hf⟩ := b1_some hf
    refine sys_i hS (sys_runV (As := [.int x1]) (rest := [.int x1, .ref (ad 0)]) C0 KM_ok hKC hP hS (by decide) (EM_0 K ad S) rfl (m4_jar l D K ad hI S x1 h4) gX4_leavesNine_X4_jar rfl ⟨rfl, rfl⟩ hd_X4_jar ⟨Nat.le_of_ble_eq_true rfl, Nat.le_of_ble_eq_true rfl⟩ hl.1 rfl (Nat.le_of_ble_eq_true rfl) dX4_leavesNine_14 ⟨Nat.le_refl _, Nat.le_refl _⟩) (fun H locs hP hS => ?_)
    refine lv_goto (tgt := 22) hx hb dX4_leavesNine_17 (by decide) ?_
    exact w4_leavesNine_b22 hI C0 S x1 v5 hf H locs ls hP hS (lv_sub hl [] rfl)
theorem m4_leavesNine (l : Launch) (D : va_G) (K : Nat → ClassId) (ad : Nat → Nat) (hI : INJ NM ad) (S : Mem) (x1 : Int32) {T : Mem} (hf : f4_leavesNine S x1 = some T) : SysV l yX4_leavesNine wsX4_leavesNine rm4_leavesNine D NM ad (EM K ad) (KM D K) [.ref (ad 0), .int x1] S T :=
  met_of (own := RX4) (by decide) rfl rfl (Nat.le_of_ble_eq_true rfl) (fun _ _ s _ _ _ _ ls C0 _ hP hl => w4_leavesNine hI C0 S x1 hf s.heap [] ls hP va_S.rf hl)
