theorem in_X4_duel_X4 : ∀ w ∈ wsX40, w ∈ wsX4_duel := fun _ h => List.mem_cons_of_mem _ (List.mem_append_right _ h)
theorem hd_X4_duel : yX4_duel.cls = RX4 ∧ yX4_duel.cls ≠ "java/lang/invoke/MethodHandle" ∧ yX4_duel.cls ≠ "java/lang/invoke/VarHandle" ∧ (parseMethodDescriptor yX4_duel.desc).map (fun d => d.parameters.length) = some 3 := by decide +kernel
abbrev rm4_duel : Room := { frames := 2, cells := 0, slots := 0, locals := 46 }
set_option maxHeartbeats 4000000 in
set_option maxRecDepth 100000 in
theorem w4_duel_b314 {p : Program} {l : Launch} {e : Env} {s : State} {m : MethodId} {args : Array Value} {below : List Frame} {meth : Method} {c : Code} {D : va_G} {K : Nat → ClassId} {ad : Nat → Nat} (hI : INJ NM ad) (C0 : Cx p s m args meth c RX4 wsX4_duel cX4_duel 12 (some .int) (KM D K)) {r : Int32} {T : Mem} (k180 : Mem → Int32 → Int32 → Option (Int32 × Mem)) (hk180 : ∀ (S : Mem) (x4 : Int32) (x5 : Int32), k180 S x4 x5 = some (r, T) → ∀ (H : Heap) (locs : List Loc) (ls : Array Slot), va_P D vwCl (wl NM ad (EM K ad S)) H → va_S (IW NM ad) s.heap H locs → lv_has ls 12 [(0, .ref (ad 0)), (4, .int x4), (5, .int x5)] → W p l e rm4_duel s m args below meth c H locs 0 0 (MQ below (va_Qi (fun (x : Int32) (u : Mem) => x = r ∧ u = T) (fun u t => va_P D vwCl (wl NM ad (EM K ad u)) t.heap) (IW NM ad)) args s 0 0 (IW NM ad)) (F0 m 180 ls [])) (k194 : Mem → Int32 → Int32 → Int32 → Option (Int32 × Mem)) (hk194 : ∀ (S : Mem) (x4 : Int32) (x5 : Int32) (x6 : Int32), k194 S x4 x5 x6 = some (r, T) → ∀ (H : Heap) (locs : List Loc) (ls : Array Slot), va_P D vwCl (wl NM ad (EM K ad S)) H → va_S (IW NM ad) s.heap H locs → lv_has ls 12 [(0, .ref (ad 0)), (4, .int x4), (5, .int x5), (6, .int x6)] → W p l e rm4_duel s m args below meth c H locs 0 0 (MQ below (va_Qi (fun (x : Int32) (u : Mem) => x = r ∧ u = T) (fun u t => va_P D vwCl (wl NM ad (EM K ad u)) t.heap) (IW NM ad)) args s 0 0 (IW NM ad)) (F0 m 194 ls [])) : ∀ (S : Mem) (x4 : Int32) (x5 : Int32) (x6 : Int32) (t0 : Nat) (t0n : Nat) (t1 : Int32) (t2 : Int32), IM K ad t0 t0n → f4_duel_b314 k180 k194 S x4 x5 x6 t0 t0n t1 t2 = some (r, T) → ∀ (H : Heap) (locs : List Loc) (ls : Array Slot), va_P D vwCl (wl NM ad (EM K ad S)) H → va_S (IW NM ad) s.heap H locs → lv_has ls 12 [(0, .ref (ad 0)), (4, .int x4), (5, .int x5), (6, .int x6)] → W p l e rm4_duel s m args below meth c H locs 0 0 (MQ below (va_Qi (fun (x : Int32) (u : Mem) => x = r ∧ u = T) (fun u t => va_P D vwCl (wl NM ad (EM K ad u)) t.heap) (IW NM ad)) args s 0 0 (IW NM ad)) (F0 m 314 ls [.int t2, .int t1, .ref (ad t0)]) := by
  have hx := C0.1
  have hb := C0.2.1
  have hts := C0.2.2.2.2.1
  have hown := C0.2.2.2.1
  have hKC := C0.2.2.2.2.2.2.2
  intro S x4 x5 x6 t0 t0n t1 t2 ht0 hf H locs ls hP hS hl
  rw [f4_duel_b314] at hf
  obtain ⟨g1, hf⟩ := gd_some hf
  refine x_iast C0 hKC hI (EM_loc K ad) hP hS ht0 (t0 := 0) rfl g1 dX4_duel_314 (fun S2 eS2 H locs hP hS => ?_)
  have hf := nm_at eS2 hf
  obtain ⟨v3, ev3⟩ : ∃ y : Int32, y = x6 + 1 := ⟨_, rfl⟩
  have hf := nm_at ev3 hf
  refine lv_iinc (v := v3) (lv' := [(6, .int v3), (0, .ref (ad 0)), (4, .int x4), (5, .int x5)]) hx hb dX4_duel_315 hl (k := 3) rfl (by rw [ev3]; rfl) (by decide) rfl (fun ls hl => ?_)
  refine lv_goto (tgt := 194) hx hb dX4_duel_318 (by decide) ?_
  exact hk194 S2 x4 x5 v3 hf H locs ls hP hS (lv_sub hl [1, 2, 3, 0] rfl)
set_option maxHeartbeats 4000000 in
set_option maxRecDepth 100000 in
theorem w4_duel_b268 {p : Program} {l : Launch} {e : Env} {s : State} {m : MethodId} {args : Array Value} {below : List Frame} {meth : Method} {c : Code} {D : va_G} {K : Nat → ClassId} {ad : Nat → Nat} (hI : INJ NM ad) (C0 : Cx p s m args meth c RX4 wsX4_duel cX4_duel 12 (some .int) (KM D K)) {r : Int32} {T : Mem} (k180 : Mem → Int32 → Int32 → Option (Int32 × Mem)) (hk180 : ∀ (S : Mem) (x4 : Int32) (x5 : Int32), k180 S x4 x5 = some (r, T) → ∀ (H : Heap) (locs : List Loc) (ls : Array Slot), va_P D vwCl (wl NM ad (EM K ad S)) H → va_S (IW NM ad) s.heap H locs → lv_has ls 12 [(0, .ref (ad 0)), (4, .int x4), (5, .int x5)] → W p l e rm4_duel s m args below meth c H locs 0 0 (MQ below (va_Qi (fun (x : Int32) (u : Mem) => x = r ∧ u = T) (fun u t => va_P D vwCl (wl NM ad (EM K ad u)) t.heap) (IW NM ad)) args s 0 0 (IW NM ad)) (F0 m 180 ls [])) (k194 : Mem → Int32 → Int32 → Int32 → Option (Int32 × Mem)) (hk194 : ∀ (S : Mem) (x4 : Int32) (x5 : Int32) (x6 : Int32), k194 S x4 x5 x6 = some (r, T) → ∀ (H : Heap) (locs : List Loc) (ls : Array Slot), va_P D vwCl (wl NM ad (EM K ad S)) H → va_S (IW NM ad) s.heap H locs → lv_has ls 12 [(0, .ref (ad 0)), (4, .int x4), (5, .int x5), (6, .int x6)] → W p l e rm4_duel s m args below meth c H locs 0 0 (MQ below (va_Qi (fun (x : Int32) (u : Mem) => x = r ∧ u = T) (fun u t => va_P D vwCl (wl NM ad (EM K ad u)) t.heap) (IW NM ad)) args s 0 0 (IW NM ad)) (F0 m 194 ls [])) : ∀ (S : Mem) (x4 : Int32) (x5 : Int32) (x6 : Int32) (x9 : Int32) (x10 : Int32) (t0 : Int32), f4_duel_b268 k180 k194 S x4 x5 x6 x9 x10 t0 = some (r, T) → ∀ (H : Heap) (locs : List Loc) (ls : Array Slot), va_P D vwCl (wl NM ad (EM K ad S)) H → va_S (IW NM ad) s.heap H locs → lv_has ls 12 [(0, .ref (ad 0)), (4, .int x4), (5, .int x5), (6, .int x6), (9, .int x9), (10, .int x10)] → W p l e rm4_duel s m args below meth c H locs 0 0 (MQ below (va_Qi (fun (x : Int32) (u : Mem) => x = r ∧ u = T) (fun u t => va_P D vwCl (wl NM ad (EM K ad u)) t.heap) (IW NM ad)) args s 0 0 (IW NM ad)) (F0 m 268 ls [.int t0]) := by
  have hx := C0.1
  have hb := C0.2.1
  have hts := C0.2.2.2.2.1
  have hown := C0.2.2.2.1
  have hKC := C0.2.2.2.2.2.2.2
  intro S x4 x5 x6 x9 x10 t0 hf H locs ls hP hS hl
  rw [f4_duel_b268] at hf
  refine lv_istore (lv' := [(11, .int t0), (0, .ref (ad 0)), (4, .int x4), (5, .int x5), (6, .int x6), (9, .int x9), (10, .int x10)]) hx hb dX4_duel_268 hl (by decide) rfl (fun ls hl => ?_)
  refine lv_aload_n hx hb dX4_duel_270 rfl (lv_at hl 1 rfl) ?_
  refine x_get C0 hKC hP (by decide) (EM_0 K ad S) rfl in_X4_duel_X4 22 (by decide) (List.mem_of_getElem? (i := 2) rfl) rfl dX4_duel_271 ?_
  refine lv_iload hx hb dX4_duel_274 (lv_at hl 4 rfl) ?_
  refine lv_iload hx hb dX4_duel_276 (lv_at hl 3 rfl) ?_
  refine lv_iconst (v := 2) hx hb dX4_duel_278 (by decide) ?_
  refine lv_irem hx hb dX4_duel_279 (by decide) ?_
  refine lv_if_ne (tgt := 300) hx hb dX4_duel_280 (by decide) (fun c1 => ?_) (fun c1 => ?_)
  · have hf := ite_f hf c1
    refine lv_iload hx hb dX4_duel_300 (lv_at hl 0 rfl) ?_
    refine lv_iload hx hb dX4_duel_302 (lv_at hl 5 rfl) ?_
    refine lv_icmp_ge (tgt := 312) hx hb dX4_duel_304 (by decide) (fun c2 => ?_) (fun c2 => ?_)
    · have hf := ite_t hf c2
      refine lv_iload hx hb dX4_duel_312 (lv_at hl 5 rfl) ?_
      exact w4_duel_b314 hI C0 k180 hk180 k194 hk194 S x4 x5 x6 16 729 x6 x9 (IM_16 K ad) hf H locs ls hP hS (lv_sub hl [1, 2, 3, 4] rfl)
    · have hf := ite_f hf c2
      refine lv_iload hx hb dX4_duel_307 (lv_at hl 0 rfl) ?_
      refine lv_goto (tgt := 314) hx hb dX4_duel_309 (by decide) ?_
      exact w4_duel_b314 hI C0 k180 hk180 k194 hk194 S x4 x5 x6 16 729 x6 t0 (IM_16 K ad) hf H locs ls hP hS (lv_sub hl [1, 2, 3, 4] rfl)
  · have hf := ite_t hf c1
    refine lv_iload hx hb dX4_duel_283 (lv_at hl 6 rfl) ?_
    refine lv_iload hx hb dX4_duel_285 (lv_at hl 5 rfl) ?_
    refine lv_icmp_le (tgt := 295) hx hb dX4_duel_287 (by decide) (fun c3 => ?_) (fun c3 => ?_)
    · have hf := ite_t hf c3
      refine lv_iload hx hb dX4_duel_295 (lv_at hl 5 rfl) ?_
      refine lv_goto (tgt := 314) hx hb dX4_duel_297 (by decide) ?_
      exact w4_duel_b314 hI C0 k180 hk180 k194 hk194 S x4 x5 x6 16 729 x6 x9 (IM_16 K ad) hf H locs ls hP hS (lv_sub hl [1, 2, 3, 4] rfl)
    · have hf := ite_f hf c3
      refine lv_iload hx hb dX4_duel_290 (lv_at hl 6 rfl) ?_
      refine lv_goto (tgt := 314) hx hb dX4_duel_292 (by decide) ?_
      exact w4_duel_b314 hI C0 k180 hk180 k194 hk194 S x4 x5 x6 16 729 x6 x10 (IM_16 K ad) hf H locs ls hP hS (lv_sub hl [1, 2, 3, 4] rfl)
set_option maxHeartbeats 4000000 in
set_option maxRecDepth 100000 in
theorem w4_duel_b252 {p : Program} {l : Launch} {e : Env} {s : State} {m : MethodId} {args : Array Value} {below : List Frame} {meth : Method} {c : Code} {D : va_G} {K : Nat → ClassId} {ad : Nat → Nat} (hI : INJ NM ad) (C0 : Cx p s m args meth c RX4 wsX4_duel cX4_duel 12 (some .int) (KM D K)) {r : Int32} {T : Mem} (k180 : Mem → Int32 → Int32 → Option (Int32 × Mem)) (hk180 : ∀ (S : Mem) (x4 : Int32) (x5 : Int32), k180 S x4 x5 = some (r, T) → ∀ (H : Heap) (locs : List Loc) (ls : Array Slot), va_P D vwCl (wl NM ad (EM K ad S)) H → va_S (IW NM ad) s.heap H locs → lv_has ls 12 [(0, .ref (ad 0)), (4, .int x4), (5, .int x5)] → W p l e rm4_duel s m args below meth c H locs 0 0 (MQ below (va_Qi (fun (x : Int32) (u : Mem) => x = r ∧ u = T) (fun u t => va_P D vwCl (wl NM ad (EM K ad u)) t.heap) (IW NM ad)) args s 0 0 (IW NM ad)) (F0 m 180 ls [])) (k194 : Mem → Int32 → Int32 → Int32 → Option (Int32 × Mem)) (hk194 : ∀ (S : Mem) (x4 : Int32) (x5 : Int32) (x6 : Int32), k194 S x4 x5 x6 = some (r, T) → ∀ (H : Heap) (locs : List Loc) (ls : Array Slot), va_P D vwCl (wl NM ad (EM K ad S)) H → va_S (IW NM ad) s.heap H locs → lv_has ls 12 [(0, .ref (ad 0)), (4, .int x4), (5, .int x5), (6, .int x6)] → W p l e rm4_duel s m args below meth c H locs 0 0 (MQ below (va_Qi (fun (x : Int32) (u : Mem) => x = r ∧ u = T) (fun u t => va_P D vwCl (wl NM ad (EM K ad u)) t.heap) (IW NM ad)) args s 0 0 (IW NM ad)) (F0 m 194 ls [])) : ∀ (S : Mem) (x4 : Int32) (x5 : Int32) (x6 : Int32) (x7 : Int32) (x8 : Int32) (x9 : Int32) (t0 : Int32), f4_duel_b252 k180 k194 S x4 x5 x6 x7 x8 x9 t0 = some (r, T) → ∀ (H : Heap) (locs : List Loc) (ls : Array Slot), va_P D vwCl (wl NM ad (EM K ad S)) H → va_S (IW NM ad) s.heap H locs → lv_has ls 12 [(0, .ref (ad 0)), (4, .int x4), (5, .int x5), (6, .int x6), (7, .int x7), (8, .int x8), (9, .int x9)] → W p l e rm4_duel s m args below meth c H locs 0 0 (MQ below (va_Qi (fun (x : Int32) (u : Mem) => x = r ∧ u = T) (fun u t => va_P D vwCl (wl NM ad (EM K ad u)) t.heap) (IW NM ad)) args s 0 0 (IW NM ad)) (F0 m 252 ls [.int t0]) := by
  have hx := C0.1
  have hb := C0.2.1
  have hts := C0.2.2.2.2.1
  have hown := C0.2.2.2.1
  have hKC := C0.2.2.2.2.2.2.2
  intro S x4 x5 x6 x7 x8 x9 t0 hf H locs ls hP hS hl
  rw [f4_duel_b252] at hf
  refine lv_istore (lv' := [(10, .int t0), (0, .ref (ad 0)), (4, .int x4), (5, .int x5), (6, .int x6), (7, .int x7), (8, .int x8), (9, .int x9)]) hx hb dX4_duel_252 hl (by decide) rfl (fun ls hl => ?_)
  refine lv_iload hx hb dX4_duel_254 (lv_at hl 5 rfl) ?_
  refine lv_iload hx hb dX4_duel_256 (lv_at hl 6 rfl) ?_
  refine lv_icmp_ge (tgt := 266) hx hb dX4_duel_258 (by decide) (fun c1 => ?_) (fun c1 => ?_)
  · have hf := ite_t hf c1
    refine lv_iload hx hb dX4_duel_266 (lv_at hl 6 rfl) ?_
    exact w4_duel_b268 hI C0 k180 hk180 k194 hk194 S x4 x5 x6 x9 t0 x8 hf H locs ls hP hS (lv_sub hl [1, 2, 3, 4, 7, 0] rfl)
  · have hf := ite_f hf c1
    refine lv_iload hx hb dX4_duel_261 (lv_at hl 5 rfl) ?_
    refine lv_goto (tgt := 268) hx hb dX4_duel_263 (by decide) ?_
    exact w4_duel_b268 hI C0 k180 hk180 k194 hk194 S x4 x5 x6 x9 t0 x7 hf H locs ls hP hS (lv_sub hl [1, 2, 3, 4, 7, 0] rfl)
set_option maxHeartbeats 4000000 in
set_option maxRecDepth 100000 in
theorem w4_duel_b194 {p : Program} {l : Launch} {e : Env} {s : State} {m : MethodId} {args : Array Value} {below : List Frame} {meth : Method} {c : Code} {D : va_G} {K : Nat → ClassId} {ad : Nat → Nat} (hI : INJ NM ad) (C0 : Cx p s m args meth c RX4 wsX4_duel cX4_duel 12 (some .int) (KM D K)) {r : Int32} {T : Mem} (k180 : Mem → Int32 → Int32 → Option (Int32 × Mem)) (hk180 : ∀ (S : Mem) (x4 : Int32) (x5 : Int32), k180 S x4 x5 = some (r, T) → ∀ (H : Heap) (locs : List Loc) (ls : Array Slot), va_P D vwCl (wl NM ad (EM K ad S)) H → va_S (IW NM ad) s.heap H locs → lv_has ls 12 [(0, .ref (ad 0)), (4, .int x4), (5, .int x5)] → W p l e rm4_duel s m args below meth c H locs 0 0 (MQ below (va_Qi (fun (x : Int32) (u : Mem) => x = r ∧ u = T) (fun u t => va_P D vwCl (wl NM ad (EM K ad u)) t.heap) (IW NM ad)) args s 0 0 (IW NM ad)) (F0 m 180 ls [])) : ∀ (n : Nat), ∀ (S : Mem) (x4 : Int32) (x5 : Int32) (x6 : Int32), f4_duel_b194 k180 n S x4 x5 x6 = some (r, T) → ∀ (H : Heap) (locs : List Loc) (ls : Array Slot), va_P D vwCl (wl NM ad (EM K ad S)) H → va_S (IW NM ad) s.heap H locs → lv_has ls 12 [(0, .ref (ad 0)), (4, .int x4), (5, .int x5), (6, .int x6)] → W p l e rm4_duel s m args below meth c H locs 0 0 (MQ below (va_Qi (fun (x : Int32) (u : Mem) => x = r ∧ u = T) (fun u t => va_P D vwCl (wl NM ad (EM K ad u)) t.heap) (IW NM ad)) args s 0 0 (IW NM ad)) (F0 m 194 ls []) := by
  have hx := C0.1
  have hb := C0.2.1
  have hts := C0.2.2.2.2.1
  have hown := C0.2.2.2.1
  have hKC := C0.2.2.2.2.2.2.2
  intro n
  induction n with
  | zero =>
    intro S x4 x5 x6 hf
    rw [f4_duel_b194] at hf
    cases hf
  | succ n ih =>
    intro S x4 x5 x6 hf H locs ls hP hS hl
    rw [f4_duel_b194] at hf
    refine lv_iload hx hb dX4_duel_194 (lv_at hl 3 rfl) ?_
    refine lv_iload hx hb dX4_duel_196 (lv_at hl 1 rfl) ?_
    refine lv_icmp_ge (tgt := 321) hx hb dX4_duel_198 (by decide) (fun c1 => ?_) (fun c1 => ?_)
    · have hf := ite_t hf c1
      obtain ⟨v2, ev2⟩ : ∃ y : Int32, y = x5 + (-1) := ⟨_, rfl⟩
      have hf := nm_at ev2 hf
      refine lv_iinc (v := v2) (lv' := [(5, .int v2), (0, .ref (ad 0)), (4, .int x4), (6, .int x6)]) hx hb dX4_duel_321 hl (k := 2) rfl (by rw [ev2]; rfl) (by decide) rfl (fun ls hl => ?_)
      refine lv_goto (tgt := 180) hx hb dX4_duel_324 (by decide) ?_
      exact hk180 S x4 v2 hf H locs ls hP hS (lv_sub hl [1, 2, 0] rfl)
    · have hf := ite_f hf c1
      refine lv_aload_n hx hb dX4_duel_201 rfl (lv_at hl 0 rfl) ?_
      refine x_get C0 hKC hP (by decide) (EM_0 K ad S) rfl in_X4_duel_X4 22 (by decide) (List.mem_of_getElem? (i := 2) rfl) rfl dX4_duel_202 ?_
      refine lv_iconst (v := 3) hx hb dX4_duel_205 (by decide) ?_
      refine lv_iload hx hb dX4_duel_206 (lv_at hl 3 rfl) ?_
      refine lv_imul hx hb dX4_duel_208 ?_
      obtain ⟨g3, hf⟩ := gd_some hf
      refine x_iald C0 hKC hP (IM_16 K ad) (t0 := 0) rfl g3 dX4_duel_209 ?_
      refine lv_topi (fun v4 ev4 => ?_)
      have hf := nm_at ev4 hf
      refine lv_istore (lv' := [(7, .int v4), (0, .ref (ad 0)), (4, .int x4), (5, .int x5), (6, .int x6)]) hx hb dX4_duel_210 hl (by decide) rfl (fun ls hl => ?_)
      refine lv_aload_n hx hb dX4_duel_212 rfl (lv_at hl 1 rfl) ?_
      refine x_get C0 hKC hP (by decide) (EM_0 K ad S) rfl in_X4_duel_X4 22 (by decide) (List.mem_of_getElem? (i := 2) rfl) rfl dX4_duel_213 ?_
      refine lv_iconst (v := 3) hx hb dX4_duel_216 (by decide) ?_
      refine lv_iload hx hb dX4_duel_217 (lv_at hl 4 rfl) ?_
      refine lv_imul hx hb dX4_duel_219 ?_
      refine lv_iconst (v := 1) hx hb dX4_duel_220 (by decide) ?_
      refine lv_iadd hx hb dX4_duel_221 ?_
      obtain ⟨g5, hf⟩ := gd_some hf
      refine x_iald C0 hKC hP (IM_16 K ad) (t0 := 0) rfl g5 dX4_duel_222 ?_
      refine lv_topi (fun v6 ev6 => ?_)
      have hf := nm_at ev6 hf
      refine lv_istore (lv' := [(8, .int v6), (7, .int v4), (0, .ref (ad 0)), (4, .int x4), (5, .int x5), (6, .int x6)]) hx hb dX4_duel_223 hl (by decide) rfl (fun ls hl => ?_)
      refine lv_aload_n hx hb dX4_duel_225 rfl (lv_at hl 2 rfl) ?_
      refine x_get C0 hKC hP (by decide) (EM_0 K ad S) rfl in_X4_duel_X4 22 (by decide) (List.mem_of_getElem? (i := 2) rfl) rfl dX4_duel_226 ?_
      refine lv_iconst (v := 3) hx hb dX4_duel_229 (by decide) ?_
      refine lv_iload hx hb dX4_duel_230 (lv_at hl 5 rfl) ?_
      refine lv_imul hx hb dX4_duel_232 ?_
      refine lv_iconst (v := 2) hx hb dX4_duel_233 (by decide) ?_
      refine lv_iadd hx hb dX4_duel_234 ?_
      obtain ⟨g7, hf⟩ := gd_some hf
      refine x_iald C0 hKC hP (IM_16 K ad) (t0 := 0) rfl g7 dX4_duel_235 ?_
      refine lv_topi (fun v8 ev8 => ?_)
      have hf := nm_at ev8 hf
      refine lv_istore (lv' := [(9, .int v8), (8, .int v6), (7, .int v4), (0, .ref (ad 0)), (4, .int x4), (5, .int x5), (6, .int x6)]) hx hb dX4_duel_236 hl (by decide) rfl (fun ls hl => ?_)
      refine lv_iload hx hb dX4_duel_238 (lv_at hl 2 rfl) ?_
      refine lv_iload hx hb dX4_duel_240 (lv_at hl 1 rfl) ?_
      refine lv_icmp_le (tgt := 250) hx hb dX4_duel_242 (by decide) (fun c9 => ?_) (fun c9 => ?_)
      · have hf := ite_t hf c9
        refine lv_iload hx hb dX4_duel_250 (lv_at hl 1 rfl) ?_
        exact w4_duel_b252 hI C0 k180 hk180 (f4_duel_b194 k180 n) ih S x4 x5 x6 v4 v6 v8 v6 hf H locs ls hP hS (lv_sub hl [3, 4, 5, 6, 2, 1, 0] rfl)
      · have hf := ite_f hf c9
        refine lv_iload hx hb dX4_duel_245 (lv_at hl 2 rfl) ?_
        refine lv_goto (tgt := 252) hx hb dX4_duel_247 (by decide) ?_
        exact w4_duel_b252 hI C0 k180 hk180 (f4_duel_b194 k180 n) ih S x4 x5 x6 v4 v6 v8 v4 hf H locs ls hP hS (lv_sub hl [3, 4, 5, 6, 2, 1, 0] rfl)
set_option maxHeartbeats 4000000 in
set_option maxRecDepth 100000 in
theorem w4_duel_b180 {p : Program} {l : Launch} {e : Env} {s : State} {m : MethodId} {args : Array Value} {below : List Frame} {meth : Method} {c : Code} {D : va_G} {K : Nat → ClassId} {ad : Nat → Nat} (hI : INJ NM ad) (C0 : Cx p s m args meth c RX4 wsX4_duel cX4_duel 12 (some .int) (KM D K)) {r : Int32} {T : Mem} : ∀ (n : Nat), ∀ (S : Mem) (x4 : Int32) (x5 : Int32), f4_duel_b180 n S x4 x5 = some (r, T) → ∀ (H : Heap) (locs : List Loc) (ls : Array Slot), va_P D vwCl (wl NM ad (EM K ad S)) H → va_S (IW NM ad) s.heap H locs → lv_has ls 12 [(0, .ref (ad 0)), (4, .int x4), (5, .int x5)] → W p l e rm4_duel s m args below meth c H locs 0 0 (MQ below (va_Qi (fun (x : Int32) (u : Mem) => x = r ∧ u = T) (fun u t => va_P D vwCl (wl NM ad (EM K ad u)) t.heap) (IW NM ad)) args s 0 0 (IW NM ad)) (F0 m 180 ls []) := by
  have hx := C0.1
  have hb := C0.2.1
  have hts := C0.2.2.2.2.1
  have hown := C0.2.2.2.1
  have hKC := C0.2.2.2.2.2.2.2
  intro n
  induction n with
  | zero =>
    intro S x4 x5 hf
    rw [f4_duel_b180] at hf
    cases hf
  | succ n ih =>
    intro S x4 x5 hf H locs ls hP hS hl
    rw [f4_duel_b180] at hf
    refine lv_iload hx hb dX4_duel_180 (lv_at hl 2 rfl) ?_
    refine lv_if_lt (tgt := 327) hx hb dX4_duel_182 (by decide) (fun c1 => ?_) (fun c1 => ?_)
    · have hf := ite_t hf c1
      refine lv_aload_n hx hb dX4_duel_327 rfl (lv_at hl 0 rfl) ?_
      refine x_get C0 hKC hP (by decide) (EM_0 K ad S) rfl in_X4_duel_X4 22 (by decide) (List.mem_of_getElem? (i := 2) rfl) rfl dX4_duel_328 ?_
      refine lv_iconst (v := 0) hx hb dX4_duel_331 (by decide) ?_
      obtain ⟨g2, hf⟩ := gd_some hf
      refine x_iald C0 hKC hP (IM_16 K ad) (t0 := 0) rfl g2 dX4_duel_332 ?_
      refine lv_sipush (v := 500) hx hb dX4_duel_333 (by decide) ?_
      refine lv_iadd hx hb dX4_duel_336 ?_
      exact ret_i C0 hP hS (congrArg Prod.fst (Option.some.inj hf)) (congrArg Prod.snd (Option.some.inj hf)) dX4_duel_337
    · have hf := ite_f hf c1
      refine lv_iload hx hb dX4_duel_185 (lv_at hl 1 rfl) ?_
      refine lv_iconst (v := 3) hx hb dX4_duel_187 (by decide) ?_
      refine lv_idiv hx hb dX4_duel_188 (by decide) ?_
      refine lv_topi (fun v3 ev3 => ?_)
      have hf := nm_at ev3 hf
      refine lv_istore (lv' := [(4, .int v3), (0, .ref (ad 0)), (5, .int x5)]) hx hb dX4_duel_189 hl (by decide) rfl (fun ls hl => ?_)
      refine lv_iconst (v := 0) hx hb dX4_duel_191 (by decide) ?_
      refine lv_istore (lv' := [(6, .int 0), (4, .int v3), (0, .ref (ad 0)), (5, .int x5)]) hx hb dX4_duel_192 hl (by decide) rfl (fun ls hl => ?_)
      exact w4_duel_b194 hI C0 (f4_duel_b180 n) ih FU S v3 x5 0 hf H locs ls hP hS (lv_sub hl [2, 1, 3, 0] rfl)
set_option maxHeartbeats 4000000 in
set_option maxRecDepth 100000 in
theorem w4_duel_b141 {p : Program} {l : Launch} {e : Env} {s : State} {m : MethodId} {args : Array Value} {below : List Frame} {meth : Method} {c : Code} {D : va_G} {K : Nat → ClassId} {ad : Nat → Nat} (hI : INJ NM ad) (C0 : Cx p s m args meth c RX4 wsX4_duel cX4_duel 12 (some .int) (KM D K)) {r : Int32} {T : Mem} (k66 : Mem → Int32 → Int32 → Int32 → Int32 → Int32 → Option (Int32 × Mem)) (hk66 : ∀ (S : Mem) (x1 : Int32) (x2 : Int32) (x3 : Int32) (x4 : Int32) (x5 : Int32), k66 S x1 x2 x3 x4 x5 = some (r, T) → ∀ (H : Heap) (locs : List Loc) (ls : Array Slot), va_P D vwCl (wl NM ad (EM K ad S)) H → va_S (IW NM ad) s.heap H locs → lv_has ls 12 [(0, .ref (ad 0)), (1, .int x1), (2, .int x2), (3, .int x3), (4, .int x4), (5, .int x5)] → W p l e rm4_duel s m args below meth c H locs 0 0 (MQ below (va_Qi (fun (x : Int32) (u : Mem) => x = r ∧ u = T) (fun u t => va_P D vwCl (wl NM ad (EM K ad u)) t.heap) (IW NM ad)) args s 0 0 (IW NM ad)) (F0 m 66 ls [])) (k80 : Mem → Int32 → Int32 → Int32 → Int32 → Int32 → Int32 → Int32 → Option (Int32 × Mem)) (hk80 : ∀ (S : Mem) (x1 : Int32) (x2 : Int32) (x3 : Int32) (x4 : Int32) (x5 : Int32) (x6 : Int32) (x7 : Int32), k80 S x1 x2 x3 x4 x5 x6 x7 = some (r, T) → ∀ (H : Heap) (locs : List Loc) (ls : Array Slot), va_P D vwCl (wl NM ad (EM K ad S)) H → va_S (IW NM ad) s.heap H locs → lv_has ls 12 [(0, .ref (ad 0)), (1, .int x1), (2, .int x2), (3, .int x3), (4, .int x4), (5, .int x5), (6, .int x6), (7, .int x7)] → W p l e rm4_duel s m args below meth c H locs 0 0 (MQ below (va_Qi (fun (x : Int32) (u : Mem) => x = r ∧ u = T) (fun u t => va_P D vwCl (wl NM ad (EM K ad u)) t.heap) (IW NM ad)) args s 0 0 (IW NM ad)) (F0 m 80 ls [])) : ∀ (S : Mem) (x1 : Int32) (x2 : Int32) (x3 : Int32) (x4 : Int32) (x5 : Int32) (x6 : Int32) (x7 : Int32), f4_duel_b141 k66 k80 S x1 x2 x3 x4 x5 x6 x7 = some (r, T) → ∀ (H : Heap) (locs : List Loc) (ls : Array Slot), va_P D vwCl (wl NM ad (EM K ad S)) H → va_S (IW NM ad) s.heap H locs → lv_has ls 12 [(0, .ref (ad 0)), (1, .int x1), (2, .int x2), (3, .int x3), (4, .int x4), (5, .int x5), (6, .int x6), (7, .int x7)] → W p l e rm4_duel s m args below meth c H locs 0 0 (MQ below (va_Qi (fun (x : Int32) (u : Mem) => x = r ∧ u = T) (fun u t => va_P D vwCl (wl NM ad (EM K ad u)) t.heap) (IW NM ad)) args s 0 0 (IW NM ad)) (F0 m 141 ls []) := by
  have hx := C0.1
  have hb := C0.2.1
  have hts := C0.2.2.2.2.1
  have hown := C0.2.2.2.1
  have hKC := C0.2.2.2.2.2.2.2
  intro S x1 x2 x3 x4 x5 x6 x7 hf H locs ls hP hS hl
  rw [f4_duel_b141] at hf
  obtain ⟨v1, ev1⟩ : ∃ y : Int32, y = x7 + 1 := ⟨_, rfl⟩
  have hf := nm_at ev1 hf
  refine lv_iinc (v := v1) (lv' := [(7, .int v1), (0, .ref (ad 0)), (1, .int x1), (2, .int x2), (3, .int x3), (4, .int x4), (5, .int x5), (6, .int x6)]) hx hb dX4_duel_141 hl (k := 7) rfl (by rw [ev1]; rfl) (by decide) rfl (fun ls hl => ?_)
  refine lv_goto (tgt := 80) hx hb dX4_duel_144 (by decide) ?_
  exact hk80 S x1 x2 x3 x4 x5 x6 v1 hf H locs ls hP hS (lv_sub hl [1, 2, 3, 4, 5, 6, 7, 0] rfl)
set_option maxHeartbeats 4000000 in
set_option maxRecDepth 100000 in
theorem w4_duel_b104 {p : Program} {l : Launch} {e : Env} {s : State} {m : MethodId} {args : Array Value} {below : List Frame} {meth : Method} {c : Code} {D : va_G} {K : Nat → ClassId} {ad : Nat → Nat} (hI : INJ NM ad) (C0 : Cx p s m args meth c RX4 wsX4_duel cX4_duel 12 (some .int) (KM D K)) {r : Int32} {T : Mem} (k66 : Mem → Int32 → Int32 → Int32 → Int32 → Int32 → Option (Int32 × Mem)) (hk66 : ∀ (S : Mem) (x1 : Int32) (x2 : Int32) (x3 : Int32) (x4 : Int32) (x5 : Int32), k66 S x1 x2 x3 x4 x5 = some (r, T) → ∀ (H : Heap) (locs : List Loc) (ls : Array Slot), va_P D vwCl (wl NM ad (EM K ad S)) H → va_S (IW NM ad) s.heap H locs → lv_has ls 12 [(0, .ref (ad 0)), (1, .int x1), (2, .int x2), (3, .int x3), (4, .int x4), (5, .int x5)] → W p l e rm4_duel s m args below meth c H locs 0 0 (MQ below (va_Qi (fun (x : Int32) (u : Mem) => x = r ∧ u = T) (fun u t => va_P D vwCl (wl NM ad (EM K ad u)) t.heap) (IW NM ad)) args s 0 0 (IW NM ad)) (F0 m 66 ls [])) (k80 : Mem → Int32 → Int32 → Int32 → Int32 → Int32 → Int32 → Int32 → Option (Int32 × Mem)) (hk80 : ∀ (S : Mem) (x1 : Int32) (x2 : Int32) (x3 : Int32) (x4 : Int32) (x5 : Int32) (x6 : Int32) (x7 : Int32), k80 S x1 x2 x3 x4 x5 x6 x7 = some (r, T) → ∀ (H : Heap) (locs : List Loc) (ls : Array Slot), va_P D vwCl (wl NM ad (EM K ad S)) H → va_S (IW NM ad) s.heap H locs → lv_has ls 12 [(0, .ref (ad 0)), (1, .int x1), (2, .int x2), (3, .int x3), (4, .int x4), (5, .int x5), (6, .int x6), (7, .int x7)] → W p l e rm4_duel s m args below meth c H locs 0 0 (MQ below (va_Qi (fun (x : Int32) (u : Mem) => x = r ∧ u = T) (fun u t => va_P D vwCl (wl NM ad (EM K ad u)) t.heap) (IW NM ad)) args s 0 0 (IW NM ad)) (F0 m 80 ls [])) : ∀ (S : Mem) (x1 : Int32) (x2 : Int32) (x3 : Int32) (x4 : Int32) (x5 : Int32) (x6 : Int32) (x7 : Int32) (t0 : Int32), f4_duel_b104 k66 k80 S x1 x2 x3 x4 x5 x6 x7 t0 = some (r, T) → ∀ (H : Heap) (locs : List Loc) (ls : Array Slot), va_P D vwCl (wl NM ad (EM K ad S)) H → va_S (IW NM ad) s.heap H locs → lv_has ls 12 [(0, .ref (ad 0)), (1, .int x1), (2, .int x2), (3, .int x3), (4, .int x4), (5, .int x5), (6, .int x6), (7, .int x7)] → W p l e rm4_duel s m args below meth c H locs 0 0 (MQ below (va_Qi (fun (x : Int32) (u : Mem) => x = r ∧ u = T) (fun u t => va_P D vwCl (wl NM ad (EM K ad u)) t.heap) (IW NM ad)) args s 0 0 (IW NM ad)) (F0 m 104 ls [.int t0]) := by
  have hx := C0.1
  have hb := C0.2.1
  have hts := C0.2.2.2.2.1
  have hown := C0.2.2.2.1
  have hKC := C0.2.2.2.2.2.2.2
  intro S x1 x2 x3 x4 x5 x6 x7 t0 hf H locs ls hP hS hl
  rw [f4_duel_b104] at hf
  refine lv_istore (lv' := [(8, .int t0), (0, .ref (ad 0)), (1, .int x1), (2, .int x2), (3, .int x3), (4, .int x4), (5, .int x5), (6, .int x6), (7, .int x7)]) hx hb dX4_duel_104 hl (by decide) rfl (fun ls hl => ?_)
  refine lv_iload hx hb dX4_duel_106 (lv_at hl 6 rfl) ?_
  refine lv_iload hx hb dX4_duel_108 (lv_at hl 7 rfl) ?_
  obtain ⟨g1, hf⟩ := gd_some hf
  refine lv_idiv hx hb dX4_duel_110 (of_decide_eq_true g1) ?_
  refine lv_iconst (v := 3) hx hb dX4_duel_111 (by decide) ?_
  refine lv_irem hx hb dX4_duel_112 (by decide) ?_
  refine lv_topi (fun v2 ev2 => ?_)
  have hf := nm_at ev2 hf
  refine lv_istore (lv' := [(9, .int v2), (8, .int t0), (0, .ref (ad 0)), (1, .int x1), (2, .int x2), (3, .int x3), (4, .int x4), (5, .int x5), (6, .int x6), (7, .int x7)]) hx hb dX4_duel_113 hl (by decide) rfl (fun ls hl => ?_)
  refine lv_iload hx hb dX4_duel_115 (lv_at hl 0 rfl) ?_
  refine lv_if_ne (tgt := 129) hx hb dX4_duel_117 (by decide) (fun c3 => ?_) (fun c3 => ?_)
  · have hf := ite_f hf c3
    refine lv_iload hx hb dX4_duel_129 (lv_at hl 0 rfl) ?_
    refine lv_iconst (v := 1) hx hb dX4_duel_131 (by decide) ?_
    refine lv_icmp_ne (tgt := 141) hx hb dX4_duel_132 (by decide) (fun c4 => ?_) (fun c4 => ?_)
    · have hf := ite_f hf c4
      exact w4_duel_b141 hI C0 k66 hk66 k80 hk80 S x1 x2 x3 x4 x5 x6 x7 hf H locs ls hP hS (lv_sub hl [2, 3, 4, 5, 6, 7, 8, 9] rfl)
    · have hf := ite_t hf c4
      refine lv_aload_n hx hb dX4_duel_135 rfl (lv_at hl 2 rfl) ?_
      refine lv_iload hx hb dX4_duel_136 (lv_at hl 1 rfl) ?_
      obtain ⟨S6, h5, hf⟩ := b1_some hf
      refine sys_v hS (sys_runV (As := [.int t0]) (rest := []) C0 KM_ok hKC hP hS (by decide) (EM_0 K ad S) rfl (m4_leavesNine l D K ad hI S t0 h5) gX4_duel_X4_leavesNine rfl ⟨rfl, rfl⟩ hd_X4_leavesNine ⟨Nat.le_of_ble_eq_true rfl, Nat.le_of_ble_eq_true rfl⟩ hl.1 rfl (Nat.le_of_ble_eq_true rfl) dX4_duel_138 ⟨Nat.le_refl _, Nat.le_refl _⟩) (fun H locs hP hS => ?_)
      exact w4_duel_b141 hI C0 k66 hk66 k80 hk80 S6 x1 x2 x3 x4 x5 x6 x7 hf H locs ls hP hS (lv_sub hl [2, 3, 4, 5, 6, 7, 8, 9] rfl)
  · have hf := ite_t hf c3
    refine lv_aload_n hx hb dX4_duel_120 rfl (lv_at hl 2 rfl) ?_
    refine lv_iload hx hb dX4_duel_121 (lv_at hl 1 rfl) ?_
    obtain ⟨S8, h7, hf⟩ := b1_some hf
    refine sys_v hS (sys_runV (As := [.int t0]) (rest := []) C0 KM_ok hKC hP hS (by decide) (EM_0 K ad S) rfl (m4_takesNine l D K ad hI S t0 h7) gX4_duel_X4_takesNine rfl ⟨rfl, rfl⟩ hd_X4_takesNine ⟨Nat.le_of_ble_eq_true rfl, Nat.le_of_ble_eq_true rfl⟩ hl.1 rfl (Nat.le_of_ble_eq_true rfl) dX4_duel_123 ⟨Nat.le_refl _, Nat.le_refl _⟩) (fun H locs hP hS => ?_)
    refine lv_goto (tgt := 141) hx hb dX4_duel_126 (by decide) ?_
    exact w4_duel_b141 hI C0 k66 hk66 k80 hk80 S8 x1 x2 x3 x4 x5 x6 x7 hf H locs ls hP hS (lv_sub hl [2, 3, 4, 5, 6, 7, 8, 9] rfl)
set_option maxHeartbeats 4000000 in
set_option maxRecDepth 100000 in
theorem w4_duel_b80 {p : Program} {l : Launch} {e : Env} {s : State} {m : MethodId} {args : Array Value} {below : List Frame} {meth : Method} {c : Code} {D : va_G} {K : Nat → ClassId} {ad : Nat → Nat} (hI : INJ NM ad) (C0 : Cx p s m args meth c RX4 wsX4_duel cX4_duel 12 (some .int) (KM D K)) {r : Int32} {T : Mem} (k66 : Mem → Int32 → Int32 → Int32 → Int32 → Int32 → Option (Int32 × Mem)) (hk66 : ∀ (S : Mem) (x1 : Int32) (x2 : Int32) (x3 : Int32) (x4 : Int32) (x5 : Int32), k66 S x1 x2 x3 x4 x5 = some (r, T) → ∀ (H : Heap) (locs : List Loc) (ls : Array Slot), va_P D vwCl (wl NM ad (EM K ad S)) H → va_S (IW NM ad) s.heap H locs → lv_has ls 12 [(0, .ref (ad 0)), (1, .int x1), (2, .int x2), (3, .int x3), (4, .int x4), (5, .int x5)] → W p l e rm4_duel s m args below meth c H locs 0 0 (MQ below (va_Qi (fun (x : Int32) (u : Mem) => x = r ∧ u = T) (fun u t => va_P D vwCl (wl NM ad (EM K ad u)) t.heap) (IW NM ad)) args s 0 0 (IW NM ad)) (F0 m 66 ls [])) : ∀ (n : Nat), ∀ (S : Mem) (x1 : Int32) (x2 : Int32) (x3 : Int32) (x4 : Int32) (x5 : Int32) (x6 : Int32) (x7 : Int32), f4_duel_b80 k66 n S x1 x2 x3 x4 x5 x6 x7 = some (r, T) → ∀ (H : Heap) (locs : List Loc) (ls : Array Slot), va_P D vwCl (wl NM ad (EM K ad S)) H → va_S (IW NM ad) s.heap H locs → lv_has ls 12 [(0, .ref (ad 0)), (1, .int x1), (2, .int x2), (3, .int x3), (4, .int x4), (5, .int x5), (6, .int x6), (7, .int x7)] → W p l e rm4_duel s m args below meth c H locs 0 0 (MQ below (va_Qi (fun (x : Int32) (u : Mem) => x = r ∧ u = T) (fun u t => va_P D vwCl (wl NM ad (EM K ad u)) t.heap) (IW NM ad)) args s 0 0 (IW NM ad)) (F0 m 80 ls []) := by
  have hx := C0.1
  have hb := C0.2.1
  have hts := C0.2.2.2.2.1
  have hown := C0.2.2.2.1
  have hKC := C0.2.2.2.2.2.2.2
  intro n
  induction n with
  | zero =>
    intro S x1 x2 x3 x4 x5 x6 x7 hf
    rw [f4_duel_b80] at hf
    cases hf
  | succ n ih =>
    intro S x1 x2 x3 x4 x5 x6 x7 hf H locs ls hP hS hl
    rw [f4_duel_b80] at hf
    refine lv_iload hx hb dX4_duel_80 (lv_at hl 7 rfl) ?_
    refine lv_iload_n hx hb dX4_duel_82 rfl (lv_at hl 3 rfl) ?_
    refine lv_icmp_ge (tgt := 147) hx hb dX4_duel_83 (by decide) (fun c1 => ?_) (fun c1 => ?_)
    · have hf := ite_t hf c1
      refine lv_aload_n hx hb dX4_duel_147 rfl (lv_at hl 0 rfl) ?_
      refine x_get C0 hKC hP (by decide) (EM_0 K ad S) rfl in_X4_duel_X4 22 (by decide) (List.mem_of_getElem? (i := 2) rfl) rfl dX4_duel_148 ?_
      refine lv_iload hx hb dX4_duel_151 (lv_at hl 5 rfl) ?_
      refine lv_aload_n hx hb dX4_duel_153 rfl (lv_at hl 0 rfl) ?_
      refine lv_iload_n hx hb dX4_duel_154 rfl (lv_at hl 1 rfl) ?_
      obtain ⟨v3, h2, hf⟩ := b1_some hf
      refine sys_i hS (sys_runV (As := [.int x1]) (rest := [.int x5, .ref (ad 16)]) C0 KM_ok hKC hP hS (by decide) (EM_0 K ad S) rfl (m4_worthNow l D K ad hI S x1 h2) gX4_duel_X4_worthNow rfl ⟨rfl, rfl⟩ hd_X4_worthNow ⟨Nat.le_of_ble_eq_true rfl, Nat.le_of_ble_eq_true rfl⟩ hl.1 rfl (Nat.le_of_ble_eq_true rfl) dX4_duel_155 ⟨Nat.le_refl _, Nat.le_refl _⟩) (fun H locs hP hS => ?_)
      refine lv_aload_n hx hb dX4_duel_158 rfl (lv_at hl 0 rfl) ?_
      refine lv_iload_n hx hb dX4_duel_159 rfl (lv_at hl 2 rfl) ?_
      obtain ⟨v5, h4, hf⟩ := b1_some hf
      refine sys_i hS (sys_runV (As := [.int x2]) (rest := [.int v3, .int x5, .ref (ad 16)]) C0 KM_ok hKC hP hS (by decide) (EM_0 K ad S) rfl (m4_worthNow l D K ad hI S x2 h4) gX4_duel_X4_worthNow rfl ⟨rfl, rfl⟩ hd_X4_worthNow ⟨Nat.le_of_ble_eq_true rfl, Nat.le_of_ble_eq_true rfl⟩ hl.1 rfl (Nat.le_of_ble_eq_true rfl) dX4_duel_160 ⟨Nat.le_refl _, Nat.le_refl _⟩) (fun H locs hP hS => ?_)
      refine lv_isub hx hb dX4_duel_163 ?_
      obtain ⟨g6, hf⟩ := gd_some hf
      refine x_iast C0 hKC hI (EM_loc K ad) hP hS (IM_16 K ad) (t0 := 0) rfl g6 dX4_duel_164 (fun S7 eS7 H locs hP hS => ?_)
      have hf := nm_at eS7 hf
      refine lv_aload_n hx hb dX4_duel_165 rfl (lv_at hl 0 rfl) ?_
      obtain ⟨S9, h8, hf⟩ := b1_some hf
      refine sys_v hS (sys_runV (As := []) (rest := []) C0 KM_ok hKC hP hS (by decide) (EM_0 K ad S7) rfl (m4_backs l D K ad hI S7 h8) gX4_duel_X4_backs rfl ⟨rfl, rfl⟩ hd_X4_backs ⟨Nat.le_of_ble_eq_true rfl, Nat.le_of_ble_eq_true rfl⟩ hl.1 rfl (Nat.le_of_ble_eq_true rfl) dX4_duel_166 ⟨Nat.le_refl _, Nat.le_refl _⟩) (fun H locs hP hS => ?_)
      obtain ⟨v10, ev10⟩ : ∃ y : Int32, y = x5 + 1 := ⟨_, rfl⟩
      have hf := nm_at ev10 hf
      refine lv_iinc (v := v10) (lv' := [(5, .int v10), (0, .ref (ad 0)), (1, .int x1), (2, .int x2), (3, .int x3), (4, .int x4), (6, .int x6), (7, .int x7)]) hx hb dX4_duel_169 hl (k := 5) rfl (by rw [ev10]; rfl) (by decide) rfl (fun ls hl => ?_)
      refine lv_goto (tgt := 66) hx hb dX4_duel_172 (by decide) ?_
      exact hk66 S9 x1 x2 x3 x4 v10 hf H locs ls hP hS (lv_sub hl [1, 2, 3, 4, 5, 0] rfl)
    · have hf := ite_f hf c1
      refine lv_iload hx hb dX4_duel_86 (lv_at hl 6 rfl) ?_
      refine lv_iconst (v := 3) hx hb dX4_duel_88 (by decide) ?_
      refine lv_idiv hx hb dX4_duel_89 (by decide) ?_
      refine lv_topi (fun v11 ev11 => ?_)
      have hf := nm_at ev11 hf
      refine lv_istore (lv' := [(6, .int v11), (0, .ref (ad 0)), (1, .int x1), (2, .int x2), (3, .int x3), (4, .int x4), (5, .int x5), (7, .int x7)]) hx hb dX4_duel_90 hl (by decide) rfl (fun ls hl => ?_)
      refine lv_iload hx hb dX4_duel_92 (lv_at hl 7 rfl) ?_
      refine lv_iconst (v := 2) hx hb dX4_duel_94 (by decide) ?_
      refine lv_irem hx hb dX4_duel_95 (by decide) ?_
      refine lv_if_ne (tgt := 103) hx hb dX4_duel_96 (by decide) (fun c12 => ?_) (fun c12 => ?_)
      · have hf := ite_f hf c12
        refine lv_iload_n hx hb dX4_duel_103 rfl (lv_at hl 3 rfl) ?_
        exact w4_duel_b104 hI C0 k66 hk66 (f4_duel_b80 k66 n) ih S x1 x2 x3 x4 x5 v11 x7 x2 hf H locs ls hP hS (lv_sub hl [1, 2, 3, 4, 5, 6, 0, 7] rfl)
      · have hf := ite_t hf c12
        refine lv_iload_n hx hb dX4_duel_99 rfl (lv_at hl 2 rfl) ?_
        refine lv_goto (tgt := 104) hx hb dX4_duel_100 (by decide) ?_
        exact w4_duel_b104 hI C0 k66 hk66 (f4_duel_b80 k66 n) ih S x1 x2 x3 x4 x5 v11 x7 x1 hf H locs ls hP hS (lv_sub hl [1, 2, 3, 4, 5, 6, 0, 7] rfl)
set_option maxHeartbeats 4000000 in
set_option maxRecDepth 100000 in
theorem w4_duel_b66 {p : Program} {l : Launch} {e : Env} {s : State} {m : MethodId} {args : Array Value} {below : List Frame} {meth : Method} {c : Code} {D : va_G} {K : Nat → ClassId} {ad : Nat → Nat} (hI : INJ NM ad) (C0 : Cx p s m args meth c RX4 wsX4_duel cX4_duel 12 (some .int) (KM D K)) {r : Int32} {T : Mem} : ∀ (n : Nat), ∀ (S : Mem) (x1 : Int32) (x2 : Int32) (x3 : Int32) (x4 : Int32) (x5 : Int32), f4_duel_b66 n S x1 x2 x3 x4 x5 = some (r, T) → ∀ (H : Heap) (locs : List Loc) (ls : Array Slot), va_P D vwCl (wl NM ad (EM K ad S)) H → va_S (IW NM ad) s.heap H locs → lv_has ls 12 [(0, .ref (ad 0)), (1, .int x1), (2, .int x2), (3, .int x3), (4, .int x4), (5, .int x5)] → W p l e rm4_duel s m args below meth c H locs 0 0 (MQ below (va_Qi (fun (x : Int32) (u : Mem) => x = r ∧ u = T) (fun u t => va_P D vwCl (wl NM ad (EM K ad u)) t.heap) (IW NM ad)) args s 0 0 (IW NM ad)) (F0 m 66 ls []) := by
  have hx := C0.1
  have hb := C0.2.1
  have hts := C0.2.2.2.2.1
  have hown := C0.2.2.2.1
  have hKC := C0.2.2.2.2.2.2.2
  intro n
  induction n with
  | zero =>
    intro S x1 x2 x3 x4 x5 hf
    rw [f4_duel_b66] at hf
    cases hf
  | succ n ih =>
    intro S x1 x2 x3 x4 x5 hf H locs ls hP hS hl
    rw [f4_duel_b66] at hf
    refine lv_iload hx hb dX4_duel_66 (lv_at hl 5 rfl) ?_
    refine lv_iload hx hb dX4_duel_68 (lv_at hl 4 rfl) ?_
    refine lv_icmp_ge (tgt := 175) hx hb dX4_duel_70 (by decide) (fun c1 => ?_) (fun c1 => ?_)
    · have hf := ite_t hf c1
      refine lv_iload_n hx hb dX4_duel_175 rfl (lv_at hl 3 rfl) ?_
      refine lv_iconst (v := 1) hx hb dX4_duel_176 (by decide) ?_
      refine lv_isub hx hb dX4_duel_177 ?_
      refine lv_topi (fun v2 ev2 => ?_)
      have hf := nm_at ev2 hf
      refine lv_istore (lv' := [(5, .int v2), (0, .ref (ad 0)), (1, .int x1), (2, .int x2), (3, .int x3), (4, .int x4)]) hx hb dX4_duel_178 hl (by decide) rfl (fun ls hl => ?_)
      exact w4_duel_b180 hI C0 FU S x4 v2 hf H locs ls hP hS (lv_sub hl [1, 5, 0] rfl)
    · have hf := ite_f hf c1
      refine lv_iload hx hb dX4_duel_73 (lv_at hl 4 rfl) ?_
      refine lv_istore (lv' := [(6, .int x4), (0, .ref (ad 0)), (1, .int x1), (2, .int x2), (3, .int x3), (4, .int x4), (5, .int x5)]) hx hb dX4_duel_75 hl (by decide) rfl (fun ls hl => ?_)
      refine lv_iconst (v := 0) hx hb dX4_duel_77 (by decide) ?_
      refine lv_istore (lv' := [(7, .int 0), (6, .int x4), (0, .ref (ad 0)), (1, .int x1), (2, .int x2), (3, .int x3), (4, .int x4), (5, .int x5)]) hx hb dX4_duel_78 hl (by decide) rfl (fun ls hl => ?_)
      exact w4_duel_b80 hI C0 (f4_duel_b66 n) ih FU S x1 x2 x3 x4 x5 x4 0 hf H locs ls hP hS (lv_sub hl [2, 3, 4, 5, 6, 7, 1, 0] rfl)
set_option maxHeartbeats 4000000 in
set_option maxRecDepth 100000 in
theorem w4_duel_b41 {p : Program} {l : Launch} {e : Env} {s : State} {m : MethodId} {args : Array Value} {below : List Frame} {meth : Method} {c : Code} {D : va_G} {K : Nat → ClassId} {ad : Nat → Nat} (hI : INJ NM ad) (C0 : Cx p s m args meth c RX4 wsX4_duel cX4_duel 12 (some .int) (KM D K)) {r : Int32} {T : Mem} : ∀ (n : Nat), ∀ (S : Mem) (x1 : Int32) (x2 : Int32) (x3 : Int32) (x4 : Int32) (x5 : Int32), f4_duel_b41 n S x1 x2 x3 x4 x5 = some (r, T) → ∀ (H : Heap) (locs : List Loc) (ls : Array Slot), va_P D vwCl (wl NM ad (EM K ad S)) H → va_S (IW NM ad) s.heap H locs → lv_has ls 12 [(0, .ref (ad 0)), (1, .int x1), (2, .int x2), (3, .int x3), (4, .int x4), (5, .int x5)] → W p l e rm4_duel s m args below meth c H locs 0 0 (MQ below (va_Qi (fun (x : Int32) (u : Mem) => x = r ∧ u = T) (fun u t => va_P D vwCl (wl NM ad (EM K ad u)) t.heap) (IW NM ad)) args s 0 0 (IW NM ad)) (F0 m 41 ls []) := by
  have hx := C0.1
  have hb := C0.2.1
  have hts := C0.2.2.2.2.1
  have hown := C0.2.2.2.1
  have hKC := C0.2.2.2.2.2.2.2
  intro n
  induction n with
  | zero =>
    intro S x1 x2 x3 x4 x5 hf
    rw [f4_duel_b41] at hf
    cases hf
  | succ n ih =>
    intro S x1 x2 x3 x4 x5 hf H locs ls hP hS hl
    rw [f4_duel_b41] at hf
    refine lv_iload hx hb dX4_duel_41 (lv_at hl 5 rfl) ?_
    refine lv_iload_n hx hb dX4_duel_43 rfl (lv_at hl 3 rfl) ?_
    refine lv_icmp_ge (tgt := 59) hx hb dX4_duel_44 (by decide) (fun c1 => ?_) (fun c1 => ?_)
    · have hf := ite_t hf c1
      refine lv_aload_n hx hb dX4_duel_59 rfl (lv_at hl 0 rfl) ?_
      obtain ⟨S3, h2, hf⟩ := b1_some hf
      refine sys_v hS (sys_runV (As := []) (rest := []) C0 KM_ok hKC hP hS (by decide) (EM_0 K ad S) rfl (m4_asides l D K ad hI S h2) gX4_duel_X4_asides rfl ⟨rfl, rfl⟩ hd_X4_asides ⟨Nat.le_of_ble_eq_true rfl, Nat.le_of_ble_eq_true rfl⟩ hl.1 rfl (Nat.le_of_ble_eq_true rfl) dX4_duel_60 ⟨Nat.le_refl _, Nat.le_refl _⟩) (fun H locs hP hS => ?_)
      refine lv_iconst (v := 0) hx hb dX4_duel_63 (by decide) ?_
      refine lv_istore (lv' := [(5, .int 0), (0, .ref (ad 0)), (1, .int x1), (2, .int x2), (3, .int x3), (4, .int x4)]) hx hb dX4_duel_64 hl (by decide) rfl (fun ls hl => ?_)
      exact w4_duel_b66 hI C0 FU S3 x1 x2 x3 x4 0 hf H locs ls hP hS (lv_sub hl [1, 2, 3, 4, 5, 0] rfl)
    · have hf := ite_f hf c1
      refine lv_iload hx hb dX4_duel_47 (lv_at hl 4 rfl) ?_
      refine lv_iconst (v := 3) hx hb dX4_duel_49 (by decide) ?_
      refine lv_imul hx hb dX4_duel_50 ?_
      refine lv_topi (fun v4 ev4 => ?_)
      have hf := nm_at ev4 hf
      refine lv_istore (lv' := [(4, .int v4), (0, .ref (ad 0)), (1, .int x1), (2, .int x2), (3, .int x3), (5, .int x5)]) hx hb dX4_duel_51 hl (by decide) rfl (fun ls hl => ?_)
      obtain ⟨v5, ev5⟩ : ∃ y : Int32, y = x5 + 1 := ⟨_, rfl⟩
      have hf := nm_at ev5 hf
      refine lv_iinc (v := v5) (lv' := [(5, .int v5), (4, .int v4), (0, .ref (ad 0)), (1, .int x1), (2, .int x2), (3, .int x3)]) hx hb dX4_duel_53 hl (k := 5) rfl (by rw [ev5]; rfl) (by decide) rfl (fun ls hl => ?_)
      refine lv_goto (tgt := 41) hx hb dX4_duel_56 (by decide) ?_
      exact ih S x1 x2 x3 v4 v5 hf H locs ls hP hS (lv_sub hl [2, 3, 4, 5, 1, 0] rfl)
set_option maxHeartbeats 4000000 in
set_option maxRecDepth 100000 in
theorem w4_duel {p : Program} {l : Launch} {e : Env} {s : State} {m : MethodId} {args : Array Value} {below : List Frame} {meth : Method} {c : Code} {D : va_G} {K : Nat → ClassId} {ad : Nat → Nat} (hI : INJ NM ad) (C0 : Cx p s m args meth c RX4 wsX4_duel cX4_duel 12 (some .int) (KM D K)) {r : Int32} {T : Mem} : ∀ (S : Mem) (x1 : Int32) (x2 : Int32) (x3 : Int32), f4_duel S x1 x2 x3 = some (r, T) → ∀ (H : Heap) (locs : List Loc) (ls : Array Slot), va_P D vwCl (wl NM ad (EM K ad S)) H → va_S (IW NM ad) s.heap H locs → lv_has ls 12 [(0, .ref (ad 0)), (1, .int x1), (2, .int x2), (3, .int x3)] → W p l e rm4_duel s m args below meth c H locs 0 0 (MQ below (va_Qi (fun (x : Int32) (u : Mem) => x = r ∧ u = T) (fun u t => va_P D vwCl (wl NM ad (EM K ad u)) t.heap) (IW NM ad)) args s 0 0 (IW NM ad)) (F0 m 0 ls []) := by
  have hx := C0.1
  have hb := C0.2.1
  have hts := C0.2.2.2.2.1
  have hown := C0.2.2.2.1
  have hKC := C0.2.2.2.2.2.2.2
  intro S x1 x2 x3 hf H locs ls hP hS hl
  rw [f4_duel] at hf
  refine lv_aload_n hx hb dX4_duel_0 rfl (lv_at hl 0 rfl) ?_
  refine lv_iload_n hx hb dX4_duel_1 rfl (lv_at hl 1 rfl) ?_
  obtain ⟨v2, h1, hf⟩ := b1_some hf
  refine sys_i hS (sys_runV (As := [.int x1]) (rest := []) C0 KM_ok hKC hP hS (by decide) (EM_0 K ad S) rfl (m4_isHouse l D K ad hI S x1 h1) gX4_duel_X4_isHouse rfl ⟨rfl, rfl⟩ hd_X4_isHouse ⟨Nat.le_of_ble_eq_true rfl, Nat.le_of_ble_eq_true rfl⟩ hl.1 rfl (Nat.le_of_ble_eq_true rfl) dX4_duel_2 ⟨Nat.le_refl _, Nat.le_refl _⟩) (fun H locs hP hS => ?_)
  refine lv_if_eq (tgt := 33) hx hb dX4_duel_5 (by decide) (fun c3 => ?_) (fun c3 => ?_)
  · have hf := ite_t hf c3
    refine lv_iconst (v := (-1)) hx hb dX4_duel_33 (by decide) ?_
    exact ret_i C0 hP hS (congrArg Prod.fst (Option.some.inj hf)) (congrArg Prod.snd (Option.some.inj hf)) dX4_duel_34
  · have hf := ite_f hf c3
    refine lv_aload_n hx hb dX4_duel_8 rfl (lv_at hl 0 rfl) ?_
    refine lv_iload_n hx hb dX4_duel_9 rfl (lv_at hl 2 rfl) ?_
    obtain ⟨v5, h4, hf⟩ := b1_some hf
    refine sys_i hS (sys_runV (As := [.int x2]) (rest := []) C0 KM_ok hKC hP hS (by decide) (EM_0 K ad S) rfl (m4_isHouse l D K ad hI S x2 h4) gX4_duel_X4_isHouse rfl ⟨rfl, rfl⟩ hd_X4_isHouse ⟨Nat.le_of_ble_eq_true rfl, Nat.le_of_ble_eq_true rfl⟩ hl.1 rfl (Nat.le_of_ble_eq_true rfl) dX4_duel_10 ⟨Nat.le_refl _, Nat.le_refl _⟩) (fun H locs hP hS => ?_)
    refine lv_if_eq (tgt := 33) hx hb dX4_duel_13 (by decide) (fun c6 => ?_) (fun c6 => ?_)
    · have hf := ite_t hf c6
      refine lv_iconst (v := (-1)) hx hb dX4_duel_33 (by decide) ?_
      exact ret_i C0 hP hS (congrArg Prod.fst (Option.some.inj hf)) (congrArg Prod.snd (Option.some.inj hf)) dX4_duel_34
    · have hf := ite_f hf c6
      refine lv_iload_n hx hb dX4_duel_16 rfl (lv_at hl 1 rfl) ?_
      refine lv_iload_n hx hb dX4_duel_17 rfl (lv_at hl 2 rfl) ?_
      refine lv_icmp_eq (tgt := 33) hx hb dX4_duel_18 (by decide) (fun c7 => ?_) (fun c7 => ?_)
      · have hf := ite_t hf c7
        refine lv_iconst (v := (-1)) hx hb dX4_duel_33 (by decide) ?_
        exact ret_i C0 hP hS (congrArg Prod.fst (Option.some.inj hf)) (congrArg Prod.snd (Option.some.inj hf)) dX4_duel_34
      · have hf := ite_f hf c7
        refine lv_iload_n hx hb dX4_duel_21 rfl (lv_at hl 3 rfl) ?_
        refine lv_i2l (v := (Int32.toInt64 x3)) hx hb dX4_duel_22 rfl ?_
        refine lv_lconst (v := 0) hx hb dX4_duel_23 (by decide) ?_
        refine lv_ldc2 (v := 6) hx hb hown (hts _ (List.mem_of_getElem? (i := 1) rfl)) dX4_duel_24 ?_
        obtain ⟨v9, h8, hf⟩ := b1_some hf
        refine sys_i hS (sys_runS (As := [.long (Int32.toInt64 x3), .long 0, .long 6]) (rest := []) C0 KM_ok hP hS (m4_in l D K ad hI S (Int32.toInt64 x3) 0 6 h8) gX4_duel_X4_in rfl ⟨rfl, rfl⟩ hd_X4_in ⟨Nat.le_of_ble_eq_true rfl, Nat.le_of_ble_eq_true rfl⟩ hl.1 rfl (Nat.le_of_ble_eq_true rfl) dX4_duel_27 ⟨Nat.le_refl _, Nat.le_refl _⟩) (fun H locs hP hS => ?_)
        refine lv_if_ne (tgt := 35) hx hb dX4_duel_30 (by decide) (fun c10 => ?_) (fun c10 => ?_)
        · have hf := ite_f hf c10
          refine lv_iconst (v := 1) hx hb dX4_duel_35 (by decide) ?_
          refine lv_istore (lv' := [(4, .int 1), (0, .ref (ad 0)), (1, .int x1), (2, .int x2), (3, .int x3)]) hx hb dX4_duel_36 hl (by decide) rfl (fun ls hl => ?_)
          refine lv_iconst (v := 0) hx hb dX4_duel_38 (by decide) ?_
          refine lv_istore (lv' := [(5, .int 0), (4, .int 1), (0, .ref (ad 0)), (1, .int x1), (2, .int x2), (3, .int x3)]) hx hb dX4_duel_39 hl (by decide) rfl (fun ls hl => ?_)
          exact w4_duel_b41 hI C0 FU S x1 x2 x3 1 0 hf H locs ls hP hS (lv_sub hl [2, 3, 4, 5, 1, 0] rfl)
        · have hf := ite_t hf c10
          refine lv_iconst (v := (-1)) hx hb dX4_duel_33 (by decide) ?_
          exact ret_i C0 hP hS (congrArg Prod.fst (Option.some.inj hf)) (congrArg Prod.snd (Option.some.inj hf)) dX4_duel_34
theorem m4_duel (l : Launch) (D : va_G) (K : Nat → ClassId) (ad : Nat → Nat) (hI : INJ NM ad) (S : Mem) (x1 : Int32) (x2 : Int32) (x3 : Int32) {r : Int32} {T : Mem} (hf : f4_duel S x1 x2 x3 = some (r, T)) : SysI l yX4_duel wsX4_duel rm4_duel D NM ad (EM K ad) (KM D K) [.ref (ad 0), .int x1, .int x2, .int x3] S r T :=
  met_of (own := RX4) (by decide) rfl rfl (Nat.le_of_ble_eq_true rfl) (fun _ _ s _ _ _ _ ls C0 _ hP hl => w4_duel hI C0 S x1 x2 x3 hf s.heap [] ls hP va_S.rf hl)
theorem in_X4_odds_X4 : ∀ w ∈ wsX40, w ∈ wsX4_odds := fun _ h => List.mem_cons_of_mem _ (List.mem_append_right _ h)
theorem hd_X4_odds : yX4_odds.cls = RX4 ∧ yX4_odds.cls ≠ "java/lang/invoke/MethodHandle" ∧ yX4_odds.cls ≠ "java/lang/invoke/VarHandle" ∧ (parseMethodDescriptor yX4_odds.desc).map (fun d => d.parameters.length) = some 2 := by decide +kernel
abbrev rm4_odds : Room := { frames := 4, cells := 0, slots := 0, locals := 85 }
set_option maxHeartbeats 4000000 in
set_option maxRecDepth 100000 in
theorem w4_odds_b191 {p : Program} {l : Launch} {e : Env} {s : State} {m : MethodId} {args : Array Value} {below : List Frame} {meth : Method} {c : Code} {D : va_G} {K : Nat → ClassId} {ad : Nat → Nat} (hI : INJ NM ad) (C0 : Cx p s m args meth c RX4 wsX4_odds cX4_odds 13 (some .int) (KM D K)) {r : Int32} {T : Mem} (k48 : Mem → Int32 → Int32 → Int64 → Int64 → Int32 → Option (Int32 × Mem)) (hk48 : ∀ (S : Mem) (x1 : Int32) (x2 : Int32) (x3 : Int64) (x5 : Int64) (x7 : Int32), k48 S x1 x2 x3 x5 x7 = some (r, T) → ∀ (H : Heap) (locs : List Loc) (ls : Array Slot), va_P D vwCl (wl NM ad (EM K ad S)) H → va_S (IW NM ad) s.heap H locs → lv_has ls 13 [(0, .ref (ad 0)), (1, .int x1), (2, .int x2), (3, .long x3), (5, .long x5), (7, .int x7)] → W p l e rm4_odds s m args below meth c H locs 0 0 (MQ below (va_Qi (fun (x : Int32) (u : Mem) => x = r ∧ u = T) (fun u t => va_P D vwCl (wl NM ad (EM K ad u)) t.heap) (IW NM ad)) args s 0 0 (IW NM ad)) (F0 m 48 ls [])) : ∀ (S : Mem) (x1 : Int32) (x2 : Int32) (x5 : Int64) (x7 : Int32) (t0 : Int64) (t1 : Int64), f4_odds_b191 k48 S x1 x2 x5 x7 t0 t1 = some (r, T) → ∀ (H : Heap) (locs : List Loc) (ls : Array Slot), va_P D vwCl (wl NM ad (EM K ad S)) H → va_S (IW NM ad) s.heap H locs → lv_has ls 13 [(0, .ref (ad 0)), (1, .int x1), (2, .int x2), (5, .long x5), (7, .int x7)] → W p l e rm4_odds s m args below meth c H locs 0 0 (MQ below (va_Qi (fun (x : Int32) (u : Mem) => x = r ∧ u = T) (fun u t => va_P D vwCl (wl NM ad (EM K ad u)) t.heap) (IW NM ad)) args s 0 0 (IW NM ad)) (F0 m 191 ls [.long t1, .long t0]) := by
  have hx := C0.1
  have hb := C0.2.1
  have hts := C0.2.2.2.2.1
  have hown := C0.2.2.2.1
  have hKC := C0.2.2.2.2.2.2.2
  intro S x1 x2 x5 x7 t0 t1 hf H locs ls hP hS hl
  rw [f4_odds_b191] at hf
  refine lv_ladd hx hb dX4_odds_191 ?_
  refine lv_topl (fun v1 ev1 => ?_)
  have hf := nm_at ev1 hf
  refine lv_lstore_n (lv' := [(3, .long v1), (0, .ref (ad 0)), (1, .int x1), (2, .int x2), (5, .long x5), (7, .int x7)]) hx hb dX4_odds_192 rfl hl (by decide) rfl (fun ls hl => ?_)
  refine lv_aload_n hx hb dX4_odds_193 rfl (lv_at hl 1 rfl) ?_
  obtain ⟨S3, h2, hf⟩ := b1_some hf
  refine sys_v hS (sys_runV (As := []) (rest := []) C0 KM_ok hKC hP hS (by decide) (EM_0 K ad S) rfl (m4_backs l D K ad hI S h2) gX4_odds_X4_backs rfl ⟨rfl, rfl⟩ hd_X4_backs ⟨Nat.le_of_ble_eq_true rfl, Nat.le_of_ble_eq_true rfl⟩ hl.1 rfl (Nat.le_of_ble_eq_true rfl) dX4_odds_194 ⟨Nat.le_refl _, Nat.le_refl _⟩) (fun H locs hP hS => ?_)
  obtain ⟨v4, ev4⟩ : ∃ y : Int32, y = x7 + 1 := ⟨_, rfl⟩
  have hf := nm_at ev4 hf
  refine lv_iinc (v := v4) (lv' := [(7, .int v4), (3, .long v1), (0, .ref (ad 0)), (1, .int x1), (2, .int x2), (5, .long x5)]) hx hb dX4_odds_197 hl (k := 5) rfl (by rw [ev4]; rfl) (by decide) rfl (fun ls hl => ?_)
  refine lv_goto (tgt := 48) hx hb dX4_odds_200 (by decide) ?_
  exact hk48 S3 x1 x2 v1 x5 v4 hf H locs ls hP hS (lv_sub hl [2, 3, 4, 1, 5, 0] rfl)
set_option maxHeartbeats 4000000 in
set_option maxRecDepth 100000 in
theorem w4_odds_b159 {p : Program} {l : Launch} {e : Env} {s : State} {m : MethodId} {args : Array Value} {below : List Frame} {meth : Method} {c : Code} {D : va_G} {K : Nat → ClassId} {ad : Nat → Nat} (hI : INJ NM ad) (C0 : Cx p s m args meth c RX4 wsX4_odds cX4_odds 13 (some .int) (KM D K)) {r : Int32} {T : Mem} (k48 : Mem → Int32 → Int32 → Int64 → Int64 → Int32 → Option (Int32 × Mem)) (hk48 : ∀ (S : Mem) (x1 : Int32) (x2 : Int32) (x3 : Int64) (x5 : Int64) (x7 : Int32), k48 S x1 x2 x3 x5 x7 = some (r, T) → ∀ (H : Heap) (locs : List Loc) (ls : Array Slot), va_P D vwCl (wl NM ad (EM K ad S)) H → va_S (IW NM ad) s.heap H locs → lv_has ls 13 [(0, .ref (ad 0)), (1, .int x1), (2, .int x2), (3, .long x3), (5, .long x5), (7, .int x7)] → W p l e rm4_odds s m args below meth c H locs 0 0 (MQ below (va_Qi (fun (x : Int32) (u : Mem) => x = r ∧ u = T) (fun u t => va_P D vwCl (wl NM ad (EM K ad u)) t.heap) (IW NM ad)) args s 0 0 (IW NM ad)) (F0 m 48 ls [])) (k65 : Mem → Int32 → Int32 → Int64 → Int64 → Int32 → Int64 → Int32 → Option (Int32 × Mem)) (hk65 : ∀ (S : Mem) (x1 : Int32) (x2 : Int32) (x3 : Int64) (x5 : Int64) (x7 : Int32) (x8 : Int64) (x10 : Int32), k65 S x1 x2 x3 x5 x7 x8 x10 = some (r, T) → ∀ (H : Heap) (locs : List Loc) (ls : Array Slot), va_P D vwCl (wl NM ad (EM K ad S)) H → va_S (IW NM ad) s.heap H locs → lv_has ls 13 [(0, .ref (ad 0)), (1, .int x1), (2, .int x2), (3, .long x3), (5, .long x5), (7, .int x7), (8, .long x8), (10, .int x10)] → W p l e rm4_odds s m args below meth c H locs 0 0 (MQ below (va_Qi (fun (x : Int32) (u : Mem) => x = r ∧ u = T) (fun u t => va_P D vwCl (wl NM ad (EM K ad u)) t.heap) (IW NM ad)) args s 0 0 (IW NM ad)) (F0 m 65 ls [])) : ∀ (S : Mem) (x1 : Int32) (x2 : Int32) (x3 : Int64) (x5 : Int64) (x7 : Int32) (x8 : Int64) (x10 : Int32) (t0 : Nat) (t0n : Nat) (t1 : Int32) (t2 : Int32), IM K ad t0 t0n → f4_odds_b159 k48 k65 S x1 x2 x3 x5 x7 x8 x10 t0 t0n t1 t2 = some (r, T) → ∀ (H : Heap) (locs : List Loc) (ls : Array Slot), va_P D vwCl (wl NM ad (EM K ad S)) H → va_S (IW NM ad) s.heap H locs → lv_has ls 13 [(0, .ref (ad 0)), (1, .int x1), (2, .int x2), (3, .long x3), (5, .long x5), (7, .int x7), (8, .long x8), (10, .int x10)] → W p l e rm4_odds s m args below meth c H locs 0 0 (MQ below (va_Qi (fun (x : Int32) (u : Mem) => x = r ∧ u = T) (fun u t => va_P D vwCl (wl NM ad (EM K ad u)) t.heap) (IW NM ad)) args s 0 0 (IW NM ad)) (F0 m 159 ls [.int t2, .int t1, .ref (ad t0)]) := by
  have hx := C0.1
  have hb := C0.2.1
  have hts := C0.2.2.2.2.1
  have hown := C0.2.2.2.1
  have hKC := C0.2.2.2.2.2.2.2
  intro S x1 x2 x3 x5 x7 x8 x10 t0 t0n t1 t2 ht0 hf H locs ls hP hS hl
  rw [f4_odds_b159] at hf
  obtain ⟨g1, hf⟩ := gd_some hf
  refine x_iast C0 hKC hI (EM_loc K ad) hP hS ht0 (t0 := 0) rfl g1 dX4_odds_159 (fun S2 eS2 H locs hP hS => ?_)
  have hf := nm_at eS2 hf
  obtain ⟨v3, ev3⟩ : ∃ y : Int32, y = x10 + 1 := ⟨_, rfl⟩
  have hf := nm_at ev3 hf
  refine lv_iinc (v := v3) (lv' := [(10, .int v3), (0, .ref (ad 0)), (1, .int x1), (2, .int x2), (3, .long x3), (5, .long x5), (7, .int x7), (8, .long x8)]) hx hb dX4_odds_160 hl (k := 7) rfl (by rw [ev3]; rfl) (by decide) rfl (fun ls hl => ?_)
  refine lv_goto (tgt := 65) hx hb dX4_odds_163 (by decide) ?_
  exact hk65 S2 x1 x2 x3 x5 x7 x8 v3 hf H locs ls hP hS (lv_sub hl [1, 2, 3, 4, 5, 6, 7, 0] rfl)
set_option maxHeartbeats 4000000 in
set_option maxRecDepth 100000 in
theorem w4_odds_b134 {p : Program} {l : Launch} {e : Env} {s : State} {m : MethodId} {args : Array Value} {below : List Frame} {meth : Method} {c : Code} {D : va_G} {K : Nat → ClassId} {ad : Nat → Nat} (hI : INJ NM ad) (C0 : Cx p s m args meth c RX4 wsX4_odds cX4_odds 13 (some .int) (KM D K)) {r : Int32} {T : Mem} (k48 : Mem → Int32 → Int32 → Int64 → Int64 → Int32 → Option (Int32 × Mem)) (hk48 : ∀ (S : Mem) (x1 : Int32) (x2 : Int32) (x3 : Int64) (x5 : Int64) (x7 : Int32), k48 S x1 x2 x3 x5 x7 = some (r, T) → ∀ (H : Heap) (locs : List Loc) (ls : Array Slot), va_P D vwCl (wl NM ad (EM K ad S)) H → va_S (IW NM ad) s.heap H locs → lv_has ls 13 [(0, .ref (ad 0)), (1, .int x1), (2, .int x2), (3, .long x3), (5, .long x5), (7, .int x7)] → W p l e rm4_odds s m args below meth c H locs 0 0 (MQ below (va_Qi (fun (x : Int32) (u : Mem) => x = r ∧ u = T) (fun u t => va_P D vwCl (wl NM ad (EM K ad u)) t.heap) (IW NM ad)) args s 0 0 (IW NM ad)) (F0 m 48 ls [])) (k65 : Mem → Int32 → Int32 → Int64 → Int64 → Int32 → Int64 → Int32 → Option (Int32 × Mem)) (hk65 : ∀ (S : Mem) (x1 : Int32) (x2 : Int32) (x3 : Int64) (x5 : Int64) (x7 : Int32) (x8 : Int64) (x10 : Int32), k65 S x1 x2 x3 x5 x7 x8 x10 = some (r, T) → ∀ (H : Heap) (locs : List Loc) (ls : Array Slot), va_P D vwCl (wl NM ad (EM K ad S)) H → va_S (IW NM ad) s.heap H locs → lv_has ls 13 [(0, .ref (ad 0)), (1, .int x1), (2, .int x2), (3, .long x3), (5, .long x5), (7, .int x7), (8, .long x8), (10, .int x10)] → W p l e rm4_odds s m args below meth c H locs 0 0 (MQ below (va_Qi (fun (x : Int32) (u : Mem) => x = r ∧ u = T) (fun u t => va_P D vwCl (wl NM ad (EM K ad u)) t.heap) (IW NM ad)) args s 0 0 (IW NM ad)) (F0 m 65 ls [])) : ∀ (S : Mem) (x1 : Int32) (x2 : Int32) (x3 : Int64) (x5 : Int64) (x7 : Int32) (x10 : Int32) (x12 : Int32) (t0 : Int64) (t1 : Int64), f4_odds_b134 k48 k65 S x1 x2 x3 x5 x7 x10 x12 t0 t1 = some (r, T) → ∀ (H : Heap) (locs : List Loc) (ls : Array Slot), va_P D vwCl (wl NM ad (EM K ad S)) H → va_S (IW NM ad) s.heap H locs → lv_has ls 13 [(0, .ref (ad 0)), (1, .int x1), (2, .int x2), (3, .long x3), (5, .long x5), (7, .int x7), (10, .int x10), (12, .int x12)] → W p l e rm4_odds s m args below meth c H locs 0 0 (MQ below (va_Qi (fun (x : Int32) (u : Mem) => x = r ∧ u = T) (fun u t => va_P D vwCl (wl NM ad (EM K ad u)) t.heap) (IW NM ad)) args s 0 0 (IW NM ad)) (F0 m 134 ls [.long t1, .long t0]) := by
  have hx := C0.1
  have hb := C0.2.1
  have hts := C0.2.2.2.2.1
  have hown := C0.2.2.2.1
  have hKC := C0.2.2.2.2.2.2.2
  intro S x1 x2 x3 x5 x7 x10 x12 t0 t1 hf H locs ls hP hS hl
  rw [f4_odds_b134] at hf
  refine lv_lmul hx hb dX4_odds_134 ?_
  refine lv_topl (fun v1 ev1 => ?_)
  have hf := nm_at ev1 hf
  refine lv_lstore (lv' := [(8, .long v1), (0, .ref (ad 0)), (1, .int x1), (2, .int x2), (3, .long x3), (5, .long x5), (7, .int x7), (10, .int x10), (12, .int x12)]) hx hb dX4_odds_135 hl (by decide) rfl (fun ls hl => ?_)
  refine lv_aload_n hx hb dX4_odds_137 rfl (lv_at hl 1 rfl) ?_
  refine x_get C0 hKC hP (by decide) (EM_0 K ad S) rfl in_X4_odds_X4 16 (by decide) (List.mem_of_getElem? (i := 5) rfl) rfl dX4_odds_138 ?_
  refine lv_iconst (v := 2) hx hb dX4_odds_141 (by decide) ?_
  refine lv_iload hx hb dX4_odds_142 (lv_at hl 7 rfl) ?_
  refine lv_iadd hx hb dX4_odds_144 ?_
  refine lv_iload hx hb dX4_odds_145 (lv_at hl 8 rfl) ?_
  refine lv_bipush (v := 99) hx hb dX4_odds_147 (by decide) ?_
  refine lv_icmp_le (tgt := 157) hx hb dX4_odds_149 (by decide) (fun c2 => ?_) (fun c2 => ?_)
  · have hf := ite_t hf c2
    refine lv_iload hx hb dX4_odds_157 (lv_at hl 8 rfl) ?_
    exact w4_odds_b159 hI C0 k48 hk48 k65 hk65 S x1 x2 x3 x5 x7 v1 x10 11 9 (2 + x10) x12 (IM_11 K ad) hf H locs ls hP hS (lv_sub hl [1, 2, 3, 4, 5, 6, 0, 7] rfl)
  · have hf := ite_f hf c2
    refine lv_bipush (v := 99) hx hb dX4_odds_152 (by decide) ?_
    refine lv_goto (tgt := 159) hx hb dX4_odds_154 (by decide) ?_
    exact w4_odds_b159 hI C0 k48 hk48 k65 hk65 S x1 x2 x3 x5 x7 v1 x10 11 9 (2 + x10) 99 (IM_11 K ad) hf H locs ls hP hS (lv_sub hl [1, 2, 3, 4, 5, 6, 0, 7] rfl)
set_option maxHeartbeats 4000000 in
set_option maxRecDepth 100000 in
theorem w4_odds_b114 {p : Program} {l : Launch} {e : Env} {s : State} {m : MethodId} {args : Array Value} {below : List Frame} {meth : Method} {c : Code} {D : va_G} {K : Nat → ClassId} {ad : Nat → Nat} (hI : INJ NM ad) (C0 : Cx p s m args meth c RX4 wsX4_odds cX4_odds 13 (some .int) (KM D K)) {r : Int32} {T : Mem} (k48 : Mem → Int32 → Int32 → Int64 → Int64 → Int32 → Option (Int32 × Mem)) (hk48 : ∀ (S : Mem) (x1 : Int32) (x2 : Int32) (x3 : Int64) (x5 : Int64) (x7 : Int32), k48 S x1 x2 x3 x5 x7 = some (r, T) → ∀ (H : Heap) (locs : List Loc) (ls : Array Slot), va_P D vwCl (wl NM ad (EM K ad S)) H → va_S (IW NM ad) s.heap H locs → lv_has ls 13 [(0, .ref (ad 0)), (1, .int x1), (2, .int x2), (3, .long x3), (5, .long x5), (7, .int x7)] → W p l e rm4_odds s m args below meth c H locs 0 0 (MQ below (va_Qi (fun (x : Int32) (u : Mem) => x = r ∧ u = T) (fun u t => va_P D vwCl (wl NM ad (EM K ad u)) t.heap) (IW NM ad)) args s 0 0 (IW NM ad)) (F0 m 48 ls [])) (k65 : Mem → Int32 → Int32 → Int64 → Int64 → Int32 → Int64 → Int32 → Option (Int32 × Mem)) (hk65 : ∀ (S : Mem) (x1 : Int32) (x2 : Int32) (x3 : Int64) (x5 : Int64) (x7 : Int32) (x8 : Int64) (x10 : Int32), k65 S x1 x2 x3 x5 x7 x8 x10 = some (r, T) → ∀ (H : Heap) (locs : List Loc) (ls : Array Slot), va_P D vwCl (wl NM ad (EM K ad S)) H → va_S (IW NM ad) s.heap H locs → lv_has ls 13 [(0, .ref (ad 0)), (1, .int x1), (2, .int x2), (3, .long x3), (5, .long x5), (7, .int x7), (8, .long x8), (10, .int x10)] → W p l e rm4_odds s m args below meth c H locs 0 0 (MQ below (va_Qi (fun (x : Int32) (u : Mem) => x = r ∧ u = T) (fun u t => va_P D vwCl (wl NM ad (EM K ad u)) t.heap) (IW NM ad)) args s 0 0 (IW NM ad)) (F0 m 65 ls [])) : ∀ (S : Mem) (x1 : Int32) (x2 : Int32) (x3 : Int64) (x5 : Int64) (x7 : Int32) (x8 : Int64) (x10 : Int32) (x11 : Int32) (t0 : Int32) (t1 : Int32), f4_odds_b114 k48 k65 S x1 x2 x3 x5 x7 x8 x10 x11 t0 t1 = some (r, T) → ∀ (H : Heap) (locs : List Loc) (ls : Array Slot), va_P D vwCl (wl NM ad (EM K ad S)) H → va_S (IW NM ad) s.heap H locs → lv_has ls 13 [(0, .ref (ad 0)), (1, .int x1), (2, .int x2), (3, .long x3), (5, .long x5), (7, .int x7), (8, .long x8), (10, .int x10), (11, .int x11)] → W p l e rm4_odds s m args below meth c H locs 0 0 (MQ below (va_Qi (fun (x : Int32) (u : Mem) => x = r ∧ u = T) (fun u t => va_P D vwCl (wl NM ad (EM K ad u)) t.heap) (IW NM ad)) args s 0 0 (IW NM ad)) (F0 m 114 ls [.int t1, .int t0]) := by
  have hx := C0.1
  have hb := C0.2.1
  have hts := C0.2.2.2.2.1
  have hown := C0.2.2.2.1
  have hKC := C0.2.2.2.2.2.2.2
  intro S x1 x2 x3 x5 x7 x8 x10 x11 t0 t1 hf H locs ls hP hS hl
  rw [f4_odds_b114] at hf
  refine lv_iadd hx hb dX4_odds_114 ?_
  refine lv_topi (fun v1 ev1 => ?_)
  have hf := nm_at ev1 hf
  refine lv_istore (lv' := [(12, .int v1), (0, .ref (ad 0)), (1, .int x1), (2, .int x2), (3, .long x3), (5, .long x5), (7, .int x7), (8, .long x8), (10, .int x10), (11, .int x11)]) hx hb dX4_odds_115 hl (by decide) rfl (fun ls hl => ?_)
  refine lv_lload hx hb dX4_odds_117 (lv_at hl 7 rfl) ?_
  refine lv_iload hx hb dX4_odds_119 (lv_at hl 9 rfl) ?_
  refine lv_if_eq (tgt := 129) hx hb dX4_odds_121 (by decide) (fun c2 => ?_) (fun c2 => ?_)
  · have hf := ite_t hf c2
    refine lv_bipush (v := 12) hx hb dX4_odds_129 (by decide) ?_
    refine lv_iload_n hx hb dX4_odds_131 rfl (lv_at hl 3 rfl) ?_
    refine lv_isub hx hb dX4_odds_132 ?_
    refine lv_i2l (v := (Int32.toInt64 (12 - x2))) hx hb dX4_odds_133 rfl ?_
    exact w4_odds_b134 hI C0 k48 hk48 k65 hk65 S x1 x2 x3 x5 x7 x10 v1 x8 (Int32.toInt64 (12 - x2)) hf H locs ls hP hS (lv_sub hl [1, 2, 3, 4, 5, 6, 8, 0] rfl)
  · have hf := ite_f hf c2
    refine lv_iload_n hx hb dX4_odds_124 rfl (lv_at hl 3 rfl) ?_
    refine lv_i2l (v := (Int32.toInt64 x2)) hx hb dX4_odds_125 rfl ?_
    refine lv_goto (tgt := 134) hx hb dX4_odds_126 (by decide) ?_
    exact w4_odds_b134 hI C0 k48 hk48 k65 hk65 S x1 x2 x3 x5 x7 x10 v1 x8 (Int32.toInt64 x2) hf H locs ls hP hS (lv_sub hl [1, 2, 3, 4, 5, 6, 8, 0] rfl)
set_option maxHeartbeats 4000000 in
set_option maxRecDepth 100000 in
theorem w4_odds_b90 {p : Program} {l : Launch} {e : Env} {s : State} {m : MethodId} {args : Array Value} {below : List Frame} {meth : Method} {c : Code} {D : va_G} {K : Nat → ClassId} {ad : Nat → Nat} (hI : INJ NM ad) (C0 : Cx p s m args meth c RX4 wsX4_odds cX4_odds 13 (some .int) (KM D K)) {r : Int32} {T : Mem} (k48 : Mem → Int32 → Int32 → Int64 → Int64 → Int32 → Option (Int32 × Mem)) (hk48 : ∀ (S : Mem) (x1 : Int32) (x2 : Int32) (x3 : Int64) (x5 : Int64) (x7 : Int32), k48 S x1 x2 x3 x5 x7 = some (r, T) → ∀ (H : Heap) (locs : List Loc) (ls : Array Slot), va_P D vwCl (wl NM ad (EM K ad S)) H → va_S (IW NM ad) s.heap H locs → lv_has ls 13 [(0, .ref (ad 0)), (1, .int x1), (2, .int x2), (3, .long x3), (5, .long x5), (7, .int x7)] → W p l e rm4_odds s m args below meth c H locs 0 0 (MQ below (va_Qi (fun (x : Int32) (u : Mem) => x = r ∧ u = T) (fun u t => va_P D vwCl (wl NM ad (EM K ad u)) t.heap) (IW NM ad)) args s 0 0 (IW NM ad)) (F0 m 48 ls [])) (k65 : Mem → Int32 → Int32 → Int64 → Int64 → Int32 → Int64 → Int32 → Option (Int32 × Mem)) (hk65 : ∀ (S : Mem) (x1 : Int32) (x2 : Int32) (x3 : Int64) (x5 : Int64) (x7 : Int32) (x8 : Int64) (x10 : Int32), k65 S x1 x2 x3 x5 x7 x8 x10 = some (r, T) → ∀ (H : Heap) (locs : List Loc) (ls : Array Slot), va_P D vwCl (wl NM ad (EM K ad S)) H → va_S (IW NM ad) s.heap H locs → lv_has ls 13 [(0, .ref (ad 0)), (1, .int x1), (2, .int x2), (3, .long x3), (5, .long x5), (7, .int x7), (8, .long x8), (10, .int x10)] → W p l e rm4_odds s m args below meth c H locs 0 0 (MQ below (va_Qi (fun (x : Int32) (u : Mem) => x = r ∧ u = T) (fun u t => va_P D vwCl (wl NM ad (EM K ad u)) t.heap) (IW NM ad)) args s 0 0 (IW NM ad)) (F0 m 65 ls [])) : ∀ (S : Mem) (x1 : Int32) (x2 : Int32) (x3 : Int64) (x5 : Int64) (x7 : Int32) (x8 : Int64) (x10 : Int32) (t0 : Int32), f4_odds_b90 k48 k65 S x1 x2 x3 x5 x7 x8 x10 t0 = some (r, T) → ∀ (H : Heap) (locs : List Loc) (ls : Array Slot), va_P D vwCl (wl NM ad (EM K ad S)) H → va_S (IW NM ad) s.heap H locs → lv_has ls 13 [(0, .ref (ad 0)), (1, .int x1), (2, .int x2), (3, .long x3), (5, .long x5), (7, .int x7), (8, .long x8), (10, .int x10)] → W p l e rm4_odds s m args below meth c H locs 0 0 (MQ below (va_Qi (fun (x : Int32) (u : Mem) => x = r ∧ u = T) (fun u t => va_P D vwCl (wl NM ad (EM K ad u)) t.heap) (IW NM ad)) args s 0 0 (IW NM ad)) (F0 m 90 ls [.int t0]) := by
  have hx := C0.1
  have hb := C0.2.1
  have hts := C0.2.2.2.2.1
  have hown := C0.2.2.2.1
  have hKC := C0.2.2.2.2.2.2.2
  intro S x1 x2 x3 x5 x7 x8 x10 t0 hf H locs ls hP hS hl
  rw [f4_odds_b90] at hf
  refine lv_istore (lv' := [(11, .int t0), (0, .ref (ad 0)), (1, .int x1), (2, .int x2), (3, .long x3), (5, .long x5), (7, .int x7), (8, .long x8), (10, .int x10)]) hx hb dX4_odds_90 hl (by decide) rfl (fun ls hl => ?_)
  refine lv_aload_n hx hb dX4_odds_92 rfl (lv_at hl 1 rfl) ?_
  refine lv_iload hx hb dX4_odds_93 (lv_at hl 8 rfl) ?_
  obtain ⟨v2, h1, hf⟩ := b1_some hf
  refine sys_i hS (sys_runV (As := [.int x10]) (rest := []) C0 KM_ok hKC hP hS (by decide) (EM_0 K ad S) rfl (m4_jar l D K ad hI S x10 h1) gX4_odds_X4_jar rfl ⟨rfl, rfl⟩ hd_X4_jar ⟨Nat.le_of_ble_eq_true rfl, Nat.le_of_ble_eq_true rfl⟩ hl.1 rfl (Nat.le_of_ble_eq_true rfl) dX4_odds_95 ⟨Nat.le_refl _, Nat.le_refl _⟩) (fun H locs hP hS => ?_)
  refine lv_iload hx hb dX4_odds_98 (lv_at hl 0 rfl) ?_
  refine lv_if_eq (tgt := 107) hx hb dX4_odds_100 (by decide) (fun c3 => ?_) (fun c3 => ?_)
  · have hf := ite_t hf c3
    refine lv_aload_n hx hb dX4_odds_107 rfl (lv_at hl 1 rfl) ?_
    refine x_get C0 hKC hP (by decide) (EM_0 K ad S) rfl in_X4_odds_X4 14 (by decide) (List.mem_of_getElem? (i := 4) rfl) rfl dX4_odds_108 ?_
    refine lv_iload hx hb dX4_odds_111 (lv_at hl 8 rfl) ?_
    obtain ⟨g4, hf⟩ := gd_some hf
    refine x_iald C0 hKC hP (IM_9 K ad) (t0 := 0) rfl g4 dX4_odds_113 ?_
    exact w4_odds_b114 hI C0 k48 hk48 k65 hk65 S x1 x2 x3 x5 x7 x8 x10 t0 v2 (gi S 9 (ix x10)) hf H locs ls hP hS (lv_sub hl [1, 2, 3, 4, 5, 6, 7, 8, 0] rfl)
  · have hf := ite_f hf c3
    refine lv_iconst (v := 0) hx hb dX4_odds_103 (by decide) ?_
    refine lv_goto (tgt := 114) hx hb dX4_odds_104 (by decide) ?_
    exact w4_odds_b114 hI C0 k48 hk48 k65 hk65 S x1 x2 x3 x5 x7 x8 x10 t0 v2 0 hf H locs ls hP hS (lv_sub hl [1, 2, 3, 4, 5, 6, 7, 8, 0] rfl)
set_option maxHeartbeats 4000000 in
set_option maxRecDepth 100000 in
theorem w4_odds_b65 {p : Program} {l : Launch} {e : Env} {s : State} {m : MethodId} {args : Array Value} {below : List Frame} {meth : Method} {c : Code} {D : va_G} {K : Nat → ClassId} {ad : Nat → Nat} (hI : INJ NM ad) (C0 : Cx p s m args meth c RX4 wsX4_odds cX4_odds 13 (some .int) (KM D K)) {r : Int32} {T : Mem} (k48 : Mem → Int32 → Int32 → Int64 → Int64 → Int32 → Option (Int32 × Mem)) (hk48 : ∀ (S : Mem) (x1 : Int32) (x2 : Int32) (x3 : Int64) (x5 : Int64) (x7 : Int32), k48 S x1 x2 x3 x5 x7 = some (r, T) → ∀ (H : Heap) (locs : List Loc) (ls : Array Slot), va_P D vwCl (wl NM ad (EM K ad S)) H → va_S (IW NM ad) s.heap H locs → lv_has ls 13 [(0, .ref (ad 0)), (1, .int x1), (2, .int x2), (3, .long x3), (5, .long x5), (7, .int x7)] → W p l e rm4_odds s m args below meth c H locs 0 0 (MQ below (va_Qi (fun (x : Int32) (u : Mem) => x = r ∧ u = T) (fun u t => va_P D vwCl (wl NM ad (EM K ad u)) t.heap) (IW NM ad)) args s 0 0 (IW NM ad)) (F0 m 48 ls [])) : ∀ (n : Nat), ∀ (S : Mem) (x1 : Int32) (x2 : Int32) (x3 : Int64) (x5 : Int64) (x7 : Int32) (x8 : Int64) (x10 : Int32), f4_odds_b65 k48 n S x1 x2 x3 x5 x7 x8 x10 = some (r, T) → ∀ (H : Heap) (locs : List Loc) (ls : Array Slot), va_P D vwCl (wl NM ad (EM K ad S)) H → va_S (IW NM ad) s.heap H locs → lv_has ls 13 [(0, .ref (ad 0)), (1, .int x1), (2, .int x2), (3, .long x3), (5, .long x5), (7, .int x7), (8, .long x8), (10, .int x10)] → W p l e rm4_odds s m args below meth c H locs 0 0 (MQ below (va_Qi (fun (x : Int32) (u : Mem) => x = r ∧ u = T) (fun u t => va_P D vwCl (wl NM ad (EM K ad u)) t.heap) (IW NM ad)) args s 0 0 (IW NM ad)) (F0 m 65 ls []) := by
  have hx := C0.1
  have hb := C0.2.1
  have hts := C0.2.2.2.2.1
  have hown := C0.2.2.2.1
  have hKC := C0.2.2.2.2.2.2.2
  intro n
  induction n with
  | zero =>
    intro S x1 x2 x3 x5 x7 x8 x10 hf
    rw [f4_odds_b65] at hf
    cases hf
  | succ n ih =>
    intro S x1 x2 x3 x5 x7 x8 x10 hf H locs ls hP hS hl
    rw [f4_odds_b65] at hf
    refine lv_iload hx hb dX4_odds_65 (lv_at hl 7 rfl) ?_
    refine lv_aload_n hx hb dX4_odds_67 rfl (lv_at hl 0 rfl) ?_
    refine x_get C0 hKC hP (by decide) (EM_0 K ad S) rfl in_X4_odds_X4 12 (by decide) (List.mem_of_getElem? (i := 3) rfl) rfl dX4_odds_68 ?_
    refine lv_icmp_ge (tgt := 166) hx hb dX4_odds_71 (by decide) (fun c1 => ?_) (fun c1 => ?_)
    · have hf := ite_t hf c1
      refine lv_lload hx hb dX4_odds_166 (lv_at hl 4 rfl) ?_
      refine lv_lload hx hb dX4_odds_168 (lv_at hl 6 rfl) ?_
      refine lv_ladd hx hb dX4_odds_170 ?_
      refine lv_topl (fun v2 ev2 => ?_)
      have hf := nm_at ev2 hf
      refine lv_lstore (lv' := [(5, .long v2), (0, .ref (ad 0)), (1, .int x1), (2, .int x2), (3, .long x3), (7, .int x7), (8, .long x8), (10, .int x10)]) hx hb dX4_odds_171 hl (by decide) rfl (fun ls hl => ?_)
      refine lv_lload_n hx hb dX4_odds_173 rfl (lv_at hl 4 rfl) ?_
      refine lv_aload_n hx hb dX4_odds_174 rfl (lv_at hl 1 rfl) ?_
      obtain ⟨v4, h3, hf⟩ := b1_some hf
      refine sys_i hS (sys_runV (As := []) (rest := [.long x3]) C0 KM_ok hKC hP hS (by decide) (EM_0 K ad S) rfl (m4_worksOff l D K ad hI S h3) gX4_odds_X4_worksOff rfl ⟨rfl, rfl⟩ hd_X4_worksOff ⟨Nat.le_of_ble_eq_true rfl, Nat.le_of_ble_eq_true rfl⟩ hl.1 rfl (Nat.le_of_ble_eq_true rfl) dX4_odds_175 ⟨Nat.le_refl _, Nat.le_refl _⟩) (fun H locs hP hS => ?_)
      obtain ⟨v6, h5, hf⟩ := b1_some hf
      refine sys_i hS (sys_runS (As := [.int v4]) (rest := [.long x3]) C0 KM_ok hP hS (m4_many l D K ad hI S v4 h5) gX4_odds_X4_many rfl ⟨rfl, rfl⟩ hd_X4_many ⟨Nat.le_of_ble_eq_true rfl, Nat.le_of_ble_eq_true rfl⟩ hl.1 rfl (Nat.le_of_ble_eq_true rfl) dX4_odds_178 ⟨Nat.le_refl _, Nat.le_refl _⟩) (fun H locs hP hS => ?_)
      refine lv_iload_n hx hb dX4_odds_181 rfl (lv_at hl 2 rfl) ?_
      refine lv_icmp_lt (tgt := 190) hx hb dX4_odds_182 (by decide) (fun c7 => ?_) (fun c7 => ?_)
      · have hf := ite_t hf c7
        refine lv_lconst (v := 0) hx hb dX4_odds_190 (by decide) ?_
        exact w4_odds_b191 hI C0 k48 hk48 S x1 x2 v2 x7 x3 0 hf H locs ls hP hS (lv_sub hl [1, 2, 3, 0, 5] rfl)
      · have hf := ite_f hf c7
        refine lv_lload hx hb dX4_odds_185 (lv_at hl 6 rfl) ?_
        refine lv_goto (tgt := 191) hx hb dX4_odds_187 (by decide) ?_
        exact w4_odds_b191 hI C0 k48 hk48 S x1 x2 v2 x7 x3 x8 hf H locs ls hP hS (lv_sub hl [1, 2, 3, 0, 5] rfl)
    · have hf := ite_f hf c1
      refine lv_iload hx hb dX4_odds_74 (lv_at hl 5 rfl) ?_
      refine lv_iload hx hb dX4_odds_76 (lv_at hl 7 rfl) ?_
      refine lv_ishr hx hb dX4_odds_78 ?_
      refine lv_iconst (v := 1) hx hb dX4_odds_79 (by decide) ?_
      refine lv_iand hx hb dX4_odds_80 ?_
      refine lv_iconst (v := 1) hx hb dX4_odds_81 (by decide) ?_
      refine lv_icmp_ne (tgt := 89) hx hb dX4_odds_82 (by decide) (fun c8 => ?_) (fun c8 => ?_)
      · have hf := ite_f hf c8
        refine lv_iconst (v := 0) hx hb dX4_odds_89 (by decide) ?_
        exact w4_odds_b90 hI C0 k48 hk48 (f4_odds_b65 k48 n) ih S x1 x2 x3 x5 x7 x8 x10 0 hf H locs ls hP hS (lv_sub hl [0, 1, 2, 3, 4, 5, 6, 7] rfl)
      · have hf := ite_t hf c8
        refine lv_iconst (v := 1) hx hb dX4_odds_85 (by decide) ?_
        refine lv_goto (tgt := 90) hx hb dX4_odds_86 (by decide) ?_
        exact w4_odds_b90 hI C0 k48 hk48 (f4_odds_b65 k48 n) ih S x1 x2 x3 x5 x7 x8 x10 1 hf H locs ls hP hS (lv_sub hl [0, 1, 2, 3, 4, 5, 6, 7] rfl)
set_option maxHeartbeats 4000000 in
set_option maxRecDepth 100000 in
theorem w4_odds_b48 {p : Program} {l : Launch} {e : Env} {s : State} {m : MethodId} {args : Array Value} {below : List Frame} {meth : Method} {c : Code} {D : va_G} {K : Nat → ClassId} {ad : Nat → Nat} (hI : INJ NM ad) (C0 : Cx p s m args meth c RX4 wsX4_odds cX4_odds 13 (some .int) (KM D K)) {r : Int32} {T : Mem} : ∀ (n : Nat), ∀ (S : Mem) (x1 : Int32) (x2 : Int32) (x3 : Int64) (x5 : Int64) (x7 : Int32), f4_odds_b48 n S x1 x2 x3 x5 x7 = some (r, T) → ∀ (H : Heap) (locs : List Loc) (ls : Array Slot), va_P D vwCl (wl NM ad (EM K ad S)) H → va_S (IW NM ad) s.heap H locs → lv_has ls 13 [(0, .ref (ad 0)), (1, .int x1), (2, .int x2), (3, .long x3), (5, .long x5), (7, .int x7)] → W p l e rm4_odds s m args below meth c H locs 0 0 (MQ below (va_Qi (fun (x : Int32) (u : Mem) => x = r ∧ u = T) (fun u t => va_P D vwCl (wl NM ad (EM K ad u)) t.heap) (IW NM ad)) args s 0 0 (IW NM ad)) (F0 m 48 ls []) := by
  have hx := C0.1
  have hb := C0.2.1
  have hts := C0.2.2.2.2.1
  have hown := C0.2.2.2.1
  have hKC := C0.2.2.2.2.2.2.2
  intro n
  induction n with
  | zero =>
    intro S x1 x2 x3 x5 x7 hf
    rw [f4_odds_b48] at hf
    cases hf
  | succ n ih =>
    intro S x1 x2 x3 x5 x7 hf H locs ls hP hS hl
    rw [f4_odds_b48] at hf
    refine lv_iload hx hb dX4_odds_48 (lv_at hl 5 rfl) ?_
    refine lv_iconst (v := 1) hx hb dX4_odds_50 (by decide) ?_
    refine lv_aload_n hx hb dX4_odds_51 rfl (lv_at hl 0 rfl) ?_
    refine x_get C0 hKC hP (by decide) (EM_0 K ad S) rfl in_X4_odds_X4 12 (by decide) (List.mem_of_getElem? (i := 3) rfl) rfl dX4_odds_52 ?_
    refine lv_ishl hx hb dX4_odds_55 ?_
    refine lv_icmp_ge (tgt := 203) hx hb dX4_odds_56 (by decide) (fun c1 => ?_) (fun c1 => ?_)
    · have hf := ite_t hf c1
      refine lv_aload_n hx hb dX4_odds_203 rfl (lv_at hl 0 rfl) ?_
      refine lv_lload_n hx hb dX4_odds_204 rfl (lv_at hl 3 rfl) ?_
      refine lv_lload hx hb dX4_odds_205 (lv_at hl 4 rfl) ?_
      obtain ⟨v3, S4, h2, hf⟩ := b2_some hf
      refine sys_i hS (sys_runV (As := [.long x3, .long x5]) (rest := []) C0 KM_ok hKC hP hS (by decide) (EM_0 K ad S) rfl (m4_fraction l D K ad hI S x3 x5 h2) gX4_odds_X4_fraction rfl ⟨rfl, rfl⟩ hd_X4_fraction ⟨Nat.le_of_ble_eq_true rfl, Nat.le_of_ble_eq_true rfl⟩ hl.1 rfl (Nat.le_of_ble_eq_true rfl) dX4_odds_207 ⟨Nat.le_refl _, Nat.le_refl _⟩) (fun H locs hP hS => ?_)
      exact ret_i C0 hP hS (congrArg Prod.fst (Option.some.inj hf)) (congrArg Prod.snd (Option.some.inj hf)) dX4_odds_210
    · have hf := ite_f hf c1
      refine lv_lconst (v := 1) hx hb dX4_odds_59 (by decide) ?_
      refine lv_lstore (lv' := [(8, .long 1), (0, .ref (ad 0)), (1, .int x1), (2, .int x2), (3, .long x3), (5, .long x5), (7, .int x7)]) hx hb dX4_odds_60 hl (by decide) rfl (fun ls hl => ?_)
      refine lv_iconst (v := 0) hx hb dX4_odds_62 (by decide) ?_
      refine lv_istore (lv' := [(10, .int 0), (8, .long 1), (0, .ref (ad 0)), (1, .int x1), (2, .int x2), (3, .long x3), (5, .long x5), (7, .int x7)]) hx hb dX4_odds_63 hl (by decide) rfl (fun ls hl => ?_)
      exact w4_odds_b65 hI C0 (f4_odds_b48 n) ih FU S x1 x2 x3 x5 x7 1 0 hf H locs ls hP hS (lv_sub hl [2, 3, 4, 5, 6, 7, 1, 0] rfl)
set_option maxHeartbeats 4000000 in
set_option maxRecDepth 100000 in
theorem w4_odds {p : Program} {l : Launch} {e : Env} {s : State} {m : MethodId} {args : Array Value} {below : List Frame} {meth : Method} {c : Code} {D : va_G} {K : Nat → ClassId} {ad : Nat → Nat} (hI : INJ NM ad) (C0 : Cx p s m args meth c RX4 wsX4_odds cX4_odds 13 (some .int) (KM D K)) {r : Int32} {T : Mem} : ∀ (S : Mem) (x1 : Int32) (x2 : Int32), f4_odds S x1 x2 = some (r, T) → ∀ (H : Heap) (locs : List Loc) (ls : Array Slot), va_P D vwCl (wl NM ad (EM K ad S)) H → va_S (IW NM ad) s.heap H locs → lv_has ls 13 [(0, .ref (ad 0)), (1, .int x1), (2, .int x2)] → W p l e rm4_odds s m args below meth c H locs 0 0 (MQ below (va_Qi (fun (x : Int32) (u : Mem) => x = r ∧ u = T) (fun u t => va_P D vwCl (wl NM ad (EM K ad u)) t.heap) (IW NM ad)) args s 0 0 (IW NM ad)) (F0 m 0 ls []) := by
  have hx := C0.1
  have hb := C0.2.1
  have hts := C0.2.2.2.2.1
  have hown := C0.2.2.2.1
  have hKC := C0.2.2.2.2.2.2.2
  intro S x1 x2 hf H locs ls hP hS hl
  rw [f4_odds] at hf
  refine lv_iload_n hx hb dX4_odds_0 rfl (lv_at hl 1 rfl) ?_
  refine lv_i2l (v := (Int32.toInt64 x1)) hx hb dX4_odds_1 rfl ?_
  refine lv_lconst (v := 0) hx hb dX4_odds_2 (by decide) ?_
  refine lv_ldc2 (v := 7) hx hb hown (hts _ (List.mem_of_getElem? (i := 1) rfl)) dX4_odds_3 ?_
  obtain ⟨v2, h1, hf⟩ := b1_some hf
  refine sys_i hS (sys_runS (As := [.long (Int32.toInt64 x1), .long 0, .long 7]) (rest := []) C0 KM_ok hP hS (m4_in l D K ad hI S (Int32.toInt64 x1) 0 7 h1) gX4_odds_X4_in rfl ⟨rfl, rfl⟩ hd_X4_in ⟨Nat.le_of_ble_eq_true rfl, Nat.le_of_ble_eq_true rfl⟩ hl.1 rfl (Nat.le_of_ble_eq_true rfl) dX4_odds_6 ⟨Nat.le_refl _, Nat.le_refl _⟩) (fun H locs hP hS => ?_)
  refine lv_if_eq (tgt := 24) hx hb dX4_odds_9 (by decide) (fun c3 => ?_) (fun c3 => ?_)
  · have hf := ite_t hf c3
    refine lv_iconst (v := (-1)) hx hb dX4_odds_24 (by decide) ?_
    exact ret_i C0 hP hS (congrArg Prod.fst (Option.some.inj hf)) (congrArg Prod.snd (Option.some.inj hf)) dX4_odds_25
  · have hf := ite_f hf c3
    refine lv_iload_n hx hb dX4_odds_12 rfl (lv_at hl 2 rfl) ?_
    refine lv_i2l (v := (Int32.toInt64 x2)) hx hb dX4_odds_13 rfl ?_
    refine lv_lconst (v := 0) hx hb dX4_odds_14 (by decide) ?_
    refine lv_ldc2 (v := 12) hx hb hown (hts _ (List.mem_of_getElem? (i := 2) rfl)) dX4_odds_15 ?_
    obtain ⟨v5, h4, hf⟩ := b1_some hf
    refine sys_i hS (sys_runS (As := [.long (Int32.toInt64 x2), .long 0, .long 12]) (rest := []) C0 KM_ok hP hS (m4_in l D K ad hI S (Int32.toInt64 x2) 0 12 h4) gX4_odds_X4_in rfl ⟨rfl, rfl⟩ hd_X4_in ⟨Nat.le_of_ble_eq_true rfl, Nat.le_of_ble_eq_true rfl⟩ hl.1 rfl (Nat.le_of_ble_eq_true rfl) dX4_odds_18 ⟨Nat.le_refl _, Nat.le_refl _⟩) (fun H locs hP hS => ?_)
    refine lv_if_ne (tgt := 26) hx hb dX4_odds_21 (by decide) (fun c6 => ?_) (fun c6 => ?_)
    · have hf := ite_f hf c6
      refine lv_aload_n hx hb dX4_odds_26 rfl (lv_at hl 0 rfl) ?_
      refine x_get C0 hKC hP (by decide) (EM_0 K ad S) rfl in_X4_odds_X4 12 (by decide) (List.mem_of_getElem? (i := 3) rfl) rfl dX4_odds_27 ?_
      refine lv_if_ne (tgt := 36) hx hb dX4_odds_30 (by decide) (fun c7 => ?_) (fun c7 => ?_)
      · have hf := ite_f hf c7
        refine lv_lconst (v := 0) hx hb dX4_odds_36 (by decide) ?_
        refine lv_lstore_n (lv' := [(3, .long 0), (0, .ref (ad 0)), (1, .int x1), (2, .int x2)]) hx hb dX4_odds_37 rfl hl (by decide) rfl (fun ls hl => ?_)
        refine lv_lconst (v := 0) hx hb dX4_odds_38 (by decide) ?_
        refine lv_lstore (lv' := [(5, .long 0), (3, .long 0), (0, .ref (ad 0)), (1, .int x1), (2, .int x2)]) hx hb dX4_odds_39 hl (by decide) rfl (fun ls hl => ?_)
        refine lv_aload_n hx hb dX4_odds_41 rfl (lv_at hl 2 rfl) ?_
        obtain ⟨S9, h8, hf⟩ := b1_some hf
        refine sys_v hS (sys_runV (As := []) (rest := []) C0 KM_ok hKC hP hS (by decide) (EM_0 K ad S) rfl (m4_asides l D K ad hI S h8) gX4_odds_X4_asides rfl ⟨rfl, rfl⟩ hd_X4_asides ⟨Nat.le_of_ble_eq_true rfl, Nat.le_of_ble_eq_true rfl⟩ hl.1 rfl (Nat.le_of_ble_eq_true rfl) dX4_odds_42 ⟨Nat.le_refl _, Nat.le_refl _⟩) (fun H locs hP hS => ?_)
        refine lv_iconst (v := 0) hx hb dX4_odds_45 (by decide) ?_
        refine lv_istore (lv' := [(7, .int 0), (5, .long 0), (3, .long 0), (0, .ref (ad 0)), (1, .int x1), (2, .int x2)]) hx hb dX4_odds_46 hl (by decide) rfl (fun ls hl => ?_)
        exact w4_odds_b48 hI C0 FU S9 x1 x2 0 0 0 hf H locs ls hP hS (lv_sub hl [3, 4, 5, 2, 1, 0] rfl)
      · have hf := ite_t hf c7
        refine lv_bipush (v := (-4)) hx hb dX4_odds_33 (by decide) ?_
        exact ret_i C0 hP hS (congrArg Prod.fst (Option.some.inj hf)) (congrArg Prod.snd (Option.some.inj hf)) dX4_odds_35
    · have hf := ite_t hf c6
      refine lv_iconst (v := (-1)) hx hb dX4_odds_24 (by decide) ?_
      exact ret_i C0 hP hS (congrArg Prod.fst (Option.some.inj hf)) (congrArg Prod.snd (Option.some.inj hf)) dX4_odds_25
theorem m4_odds (l : Launch) (D : va_G) (K : Nat → ClassId) (ad : Nat → Nat) (hI : INJ NM ad) (S : Mem) (x1 : Int32) (x2 : Int32) {r : Int32} {T : Mem} (hf : f4_odds S x1 x2 = some (r, T)) : SysI l yX4_odds wsX4_odds rm4_odds D NM ad (EM K ad) (KM D K) [.ref (ad 0), .int x1, .int x2] S r T :=
  met_of (own := RX4) (by decide) rfl rfl (Nat.le_of_ble_eq_true rfl) (fun _ _ s _ _ _ _ ls C0 _ hP hl => w4_odds hI C0 S x1 x2 hf s.heap [] ls hP va_S.rf hl)
theorem in_X4_mid_X4 : ∀ w ∈ wsX40, w ∈ wsX4_mid := fun _ h => List.mem_cons_of_mem _ (List.mem_append_right _ h)
theorem hd_X4_mid : yX4_mid.cls = RX4 ∧ yX4_mid.cls ≠ "java/lang/invoke/MethodHandle" ∧ yX4_mid.cls ≠ "java/lang/invoke/VarHandle" ∧ (parseMethodDescriptor yX4_mid.desc).map (fun d => d.parameters.length) = some 1 := by decide +kernel
abbrev rm4_mid : Room := { frames := 4, cells := 0, slots := 0, locals := 85 }
set_option maxHeartbeats 4000000 in
set_option maxRecDepth 100000 in
theorem w4_mid_b53 {p : Program} {l : Launch} {e : Env} {s : State} {m : MethodId} {args : Array Value} {below : List Frame} {meth : Method} {c : Code} {D : va_G} {K : Nat → ClassId} {ad : Nat → Nat} (hI : INJ NM ad) (C0 : Cx p s m args meth c RX4 wsX4_mid cX4_mid 7 (some .int) (KM D K)) {r : Int32} {T : Mem} : ∀ (n : Nat), ∀ (S : Mem) (x1 : Int32) (x2 : Int64) (x4 : Int32) (x5 : Int32) (x6 : Int32), f4_mid_b53 n S x1 x2 x4 x5 x6 = some (r, T) → ∀ (H : Heap) (locs : List Loc) (ls : Array Slot), va_P D vwCl (wl NM ad (EM K ad S)) H → va_S (IW NM ad) s.heap H locs → lv_has ls 7 [(0, .ref (ad 0)), (1, .int x1), (2, .long x2), (4, .int x4), (5, .int x5), (6, .int x6)] → W p l e rm4_mid s m args below meth c H locs 0 0 (MQ below (va_Qi (fun (x : Int32) (u : Mem) => x = r ∧ u = T) (fun u t => va_P D vwCl (wl NM ad (EM K ad u)) t.heap) (IW NM ad)) args s 0 0 (IW NM ad)) (F0 m 53 ls []) := by
  have hx := C0.1
  have hb := C0.2.1
  have hts := C0.2.2.2.2.1
  have hown := C0.2.2.2.1
  have hKC := C0.2.2.2.2.2.2.2
  intro n
  induction n with
  | zero =>
    intro S x1 x2 x4 x5 x6 hf
    rw [f4_mid_b53] at hf
    cases hf
  | succ n ih =>
    intro S x1 x2 x4 x5 x6 hf H locs ls hP hS hl
    rw [f4_mid_b53] at hf
    refine lv_iload hx hb dX4_mid_53 (lv_at hl 5 rfl) ?_
    refine lv_aload_n hx hb dX4_mid_55 rfl (lv_at hl 0 rfl) ?_
    refine x_get C0 hKC hP (by decide) (EM_0 K ad S) rfl in_X4_mid_X4 12 (by decide) (List.mem_of_getElem? (i := 2) rfl) rfl dX4_mid_56 ?_
    refine lv_icmp_ge (tgt := 94) hx hb dX4_mid_59 (by decide) (fun c1 => ?_) (fun c1 => ?_)
    · have hf := ite_t hf c1
      refine lv_aload_n hx hb dX4_mid_94 rfl (lv_at hl 0 rfl) ?_
      refine lv_lload_n hx hb dX4_mid_95 rfl (lv_at hl 2 rfl) ?_
      refine lv_ldc2 (v := 12) hx hb hown (hts _ (List.mem_of_getElem? (i := 1) rfl)) dX4_mid_96 ?_
      obtain ⟨v3, S4, h2, hf⟩ := b2_some hf
      refine sys_i hS (sys_runV (As := [.long x2, .long 12]) (rest := []) C0 KM_ok hKC hP hS (by decide) (EM_0 K ad S) rfl (m4_fraction l D K ad hI S x2 12 h2) gX4_mid_X4_fraction rfl ⟨rfl, rfl⟩ hd_X4_fraction ⟨Nat.le_of_ble_eq_true rfl, Nat.le_of_ble_eq_true rfl⟩ hl.1 rfl (Nat.le_of_ble_eq_true rfl) dX4_mid_99 ⟨Nat.le_refl _, Nat.le_refl _⟩) (fun H locs hP hS => ?_)
      exact ret_i C0 hP hS (congrArg Prod.fst (Option.some.inj hf)) (congrArg Prod.snd (Option.some.inj hf)) dX4_mid_102
    · have hf := ite_f hf c1
      refine lv_lload_n hx hb dX4_mid_62 rfl (lv_at hl 2 rfl) ?_
      refine lv_iload hx hb dX4_mid_63 (lv_at hl 3 rfl) ?_
      refine lv_iload hx hb dX4_mid_65 (lv_at hl 5 rfl) ?_
      refine lv_ishr hx hb dX4_mid_67 ?_
      refine lv_iconst (v := 1) hx hb dX4_mid_68 (by decide) ?_
      refine lv_iand hx hb dX4_mid_69 ?_
      refine lv_iload_n hx hb dX4_mid_70 rfl (lv_at hl 1 rfl) ?_
      refine lv_imul hx hb dX4_mid_71 ?_
      refine lv_iload hx hb dX4_mid_72 (lv_at hl 4 rfl) ?_
      refine lv_iload hx hb dX4_mid_74 (lv_at hl 5 rfl) ?_
      refine lv_ishr hx hb dX4_mid_76 ?_
      refine lv_iconst (v := 1) hx hb dX4_mid_77 (by decide) ?_
      refine lv_iand hx hb dX4_mid_78 ?_
      refine lv_bipush (v := 12) hx hb dX4_mid_79 (by decide) ?_
      refine lv_iload_n hx hb dX4_mid_81 rfl (lv_at hl 1 rfl) ?_
      refine lv_isub hx hb dX4_mid_82 ?_
      refine lv_imul hx hb dX4_mid_83 ?_
      refine lv_iadd hx hb dX4_mid_84 ?_
      refine lv_i2l (v := (Int32.toInt64 ((((x4 >>> (x6 &&& 31)) &&& 1) * x1) + (((x5 >>> (x6 &&& 31)) &&& 1) * (12 - x1))))) hx hb dX4_mid_85 rfl ?_
      refine lv_ladd hx hb dX4_mid_86 ?_
      refine lv_topl (fun v5 ev5 => ?_)
      have hf := nm_at ev5 hf
      refine lv_lstore_n (lv' := [(2, .long v5), (0, .ref (ad 0)), (1, .int x1), (4, .int x4), (5, .int x5), (6, .int x6)]) hx hb dX4_mid_87 rfl hl (by decide) rfl (fun ls hl => ?_)
      obtain ⟨v6, ev6⟩ : ∃ y : Int32, y = x6 + 1 := ⟨_, rfl⟩
      have hf := nm_at ev6 hf
      refine lv_iinc (v := v6) (lv' := [(6, .int v6), (2, .long v5), (0, .ref (ad 0)), (1, .int x1), (4, .int x4), (5, .int x5)]) hx hb dX4_mid_88 hl (k := 5) rfl (by rw [ev6]; rfl) (by decide) rfl (fun ls hl => ?_)
      refine lv_goto (tgt := 53) hx hb dX4_mid_91 (by decide) ?_
      exact ih S x1 v5 x4 x5 v6 hf H locs ls hP hS (lv_sub hl [2, 3, 1, 4, 5, 0] rfl)
set_option maxHeartbeats 4000000 in
set_option maxRecDepth 100000 in
theorem w4_mid {p : Program} {l : Launch} {e : Env} {s : State} {m : MethodId} {args : Array Value} {below : List Frame} {meth : Method} {c : Code} {D : va_G} {K : Nat → ClassId} {ad : Nat → Nat} (hI : INJ NM ad) (C0 : Cx p s m args meth c RX4 wsX4_mid cX4_mid 7 (some .int) (KM D K)) {r : Int32} {T : Mem} : ∀ (S : Mem) (x1 : Int32), f4_mid S x1 = some (r, T) → ∀ (H : Heap) (locs : List Loc) (ls : Array Slot), va_P D vwCl (wl NM ad (EM K ad S)) H → va_S (IW NM ad) s.heap H locs → lv_has ls 7 [(0, .ref (ad 0)), (1, .int x1)] → W p l e rm4_mid s m args below meth c H locs 0 0 (MQ below (va_Qi (fun (x : Int32) (u : Mem) => x = r ∧ u = T) (fun u t => va_P D vwCl (wl NM ad (EM K ad u)) t.heap) (IW NM ad)) args s 0 0 (IW NM ad)) (F0 m 0 ls []) := by
  have hx := C0.1
  have hb := C0.2.1
  have hts := C0.2.2.2.2.1
  have hown := C0.2.2.2.1
  have hKC := C0.2.2.2.2.2.2.2
  intro S x1 hf H locs ls hP hS hl
  rw [f4_mid] at hf
  refine lv_iload_n hx hb dX4_mid_0 rfl (lv_at hl 1 rfl) ?_
  refine lv_i2l (v := (Int32.toInt64 x1)) hx hb dX4_mid_1 rfl ?_
  refine lv_lconst (v := 0) hx hb dX4_mid_2 (by decide) ?_
  refine lv_ldc2 (v := 12) hx hb hown (hts _ (List.mem_of_getElem? (i := 1) rfl)) dX4_mid_3 ?_
  obtain ⟨v2, h1, hf⟩ := b1_some hf
  refine sys_i hS (sys_runS (As := [.long (Int32.toInt64 x1), .long 0, .long 12]) (rest := []) C0 KM_ok hP hS (m4_in l D K ad hI S (Int32.toInt64 x1) 0 12 h1) gX4_mid_X4_in rfl ⟨rfl, rfl⟩ hd_X4_in ⟨Nat.le_of_ble_eq_true rfl, Nat.le_of_ble_eq_true rfl⟩ hl.1 rfl (Nat.le_of_ble_eq_true rfl) dX4_mid_6 ⟨Nat.le_refl _, Nat.le_refl _⟩) (fun H locs hP hS => ?_)
  refine lv_if_ne (tgt := 14) hx hb dX4_mid_9 (by decide) (fun c3 => ?_) (fun c3 => ?_)
  · have hf := ite_f hf c3
    refine lv_aload_n hx hb dX4_mid_14 rfl (lv_at hl 0 rfl) ?_
    refine x_get C0 hKC hP (by decide) (EM_0 K ad S) rfl in_X4_mid_X4 12 (by decide) (List.mem_of_getElem? (i := 2) rfl) rfl dX4_mid_15 ?_
    refine lv_if_ne (tgt := 24) hx hb dX4_mid_18 (by decide) (fun c4 => ?_) (fun c4 => ?_)
    · have hf := ite_f hf c4
      refine lv_lconst (v := 0) hx hb dX4_mid_24 (by decide) ?_
      refine lv_lstore_n (lv' := [(2, .long 0), (0, .ref (ad 0)), (1, .int x1)]) hx hb dX4_mid_25 rfl hl (by decide) rfl (fun ls hl => ?_)
      refine lv_aload_n hx hb dX4_mid_26 rfl (lv_at hl 1 rfl) ?_
      obtain ⟨v6, h5, hf⟩ := b1_some hf
      refine sys_i hS (sys_runV (As := []) (rest := []) C0 KM_ok hKC hP hS (by decide) (EM_0 K ad S) rfl (m4_worksOff l D K ad hI S h5) gX4_mid_X4_worksOff rfl ⟨rfl, rfl⟩ hd_X4_worksOff ⟨Nat.le_of_ble_eq_true rfl, Nat.le_of_ble_eq_true rfl⟩ hl.1 rfl (Nat.le_of_ble_eq_true rfl) dX4_mid_27 ⟨Nat.le_refl _, Nat.le_refl _⟩) (fun H locs hP hS => ?_)
      refine lv_istore (lv' := [(4, .int v6), (2, .long 0), (0, .ref (ad 0)), (1, .int x1)]) hx hb dX4_mid_30 hl (by decide) rfl (fun ls hl => ?_)
      refine lv_aload_n hx hb dX4_mid_32 rfl (lv_at hl 2 rfl) ?_
      obtain ⟨S8, h7, hf⟩ := b1_some hf
      refine sys_v hS (sys_runV (As := []) (rest := []) C0 KM_ok hKC hP hS (by decide) (EM_0 K ad S) rfl (m4_asides l D K ad hI S h7) gX4_mid_X4_asides rfl ⟨rfl, rfl⟩ hd_X4_asides ⟨Nat.le_of_ble_eq_true rfl, Nat.le_of_ble_eq_true rfl⟩ hl.1 rfl (Nat.le_of_ble_eq_true rfl) dX4_mid_33 ⟨Nat.le_refl _, Nat.le_refl _⟩) (fun H locs hP hS => ?_)
      refine lv_aload_n hx hb dX4_mid_36 rfl (lv_at hl 2 rfl) ?_
      obtain ⟨S10, h9, hf⟩ := b1_some hf
      refine sys_v hS (sys_runV (As := []) (rest := []) C0 KM_ok hKC hP hS (by decide) (EM_0 K ad S8) rfl (m4_goesBy l D K ad hI S8 h9) gX4_mid_X4_goesBy rfl ⟨rfl, rfl⟩ hd_X4_goesBy ⟨Nat.le_of_ble_eq_true rfl, Nat.le_of_ble_eq_true rfl⟩ hl.1 rfl (Nat.le_of_ble_eq_true rfl) dX4_mid_37 ⟨Nat.le_refl _, Nat.le_refl _⟩) (fun H locs hP hS => ?_)
      refine lv_aload_n hx hb dX4_mid_40 rfl (lv_at hl 2 rfl) ?_
      obtain ⟨v12, h11, hf⟩ := b1_some hf
      refine sys_i hS (sys_runV (As := []) (rest := []) C0 KM_ok hKC hP hS (by decide) (EM_0 K ad S10) rfl (m4_worksOff l D K ad hI S10 h11) gX4_mid_X4_worksOff rfl ⟨rfl, rfl⟩ hd_X4_worksOff ⟨Nat.le_of_ble_eq_true rfl, Nat.le_of_ble_eq_true rfl⟩ hl.1 rfl (Nat.le_of_ble_eq_true rfl) dX4_mid_41 ⟨Nat.le_refl _, Nat.le_refl _⟩) (fun H locs hP hS => ?_)
      refine lv_istore (lv' := [(5, .int v12), (4, .int v6), (2, .long 0), (0, .ref (ad 0)), (1, .int x1)]) hx hb dX4_mid_44 hl (by decide) rfl (fun ls hl => ?_)
      refine lv_aload_n hx hb dX4_mid_46 rfl (lv_at hl 3 rfl) ?_
      obtain ⟨S14, h13, hf⟩ := b1_some hf
      refine sys_v hS (sys_runV (As := []) (rest := []) C0 KM_ok hKC hP hS (by decide) (EM_0 K ad S10) rfl (m4_backs l D K ad hI S10 h13) gX4_mid_X4_backs rfl ⟨rfl, rfl⟩ hd_X4_backs ⟨Nat.le_of_ble_eq_true rfl, Nat.le_of_ble_eq_true rfl⟩ hl.1 rfl (Nat.le_of_ble_eq_true rfl) dX4_mid_47 ⟨Nat.le_refl _, Nat.le_refl _⟩) (fun H locs hP hS => ?_)
      refine lv_iconst (v := 0) hx hb dX4_mid_50 (by decide) ?_
      refine lv_istore (lv' := [(6, .int 0), (5, .int v12), (4, .int v6), (2, .long 0), (0, .ref (ad 0)), (1, .int x1)]) hx hb dX4_mid_51 hl (by decide) rfl (fun ls hl => ?_)
      exact w4_mid_b53 hI C0 FU S14 x1 0 v6 v12 0 hf H locs ls hP hS (lv_sub hl [4, 5, 3, 2, 1, 0] rfl)
    · have hf := ite_t hf c4
      refine lv_bipush (v := (-4)) hx hb dX4_mid_21 (by decide) ?_
      exact ret_i C0 hP hS (congrArg Prod.fst (Option.some.inj hf)) (congrArg Prod.snd (Option.some.inj hf)) dX4_mid_23
  · have hf := ite_t hf c3
    refine lv_iconst (v := (-1)) hx hb dX4_mid_12 (by decide) ?_
    exact ret_i C0 hP hS (congrArg Prod.fst (Option.some.inj hf)) (congrArg Prod.snd (Option.some.inj hf)) dX4_mid_13
theorem m4_mid (l : Launch) (D : va_G) (K : Nat → ClassId) (ad : Nat → Nat) (hI : INJ NM ad) (S : Mem) (x1 : Int32) {r : Int32} {T : Mem} (hf : f4_mid S x1 = some (r, T)) : SysI l yX4_mid wsX4_mid rm4_mid D NM ad (EM K ad) (KM D K) [.ref (ad 0), .int x1] S r T :=
  met_of (own := RX4) (by decide) rfl rfl (Nat.le_of_ble_eq_true rfl) (fun _ _ s _ _ _ _ ls C0 _ hP hl => w4_mid hI C0 S x1 hf s.heap [] ls hP va_S.rf hl)
theorem in_X4_lots_X4 : ∀ w ∈ wsX40, w ∈ wsX4_lots := fun _ h => List.mem_cons_of_mem _ (List.mem_append_right _ h)
theorem hd_X4_lots : yX4_lots.cls = RX4 ∧ yX4_lots.cls ≠ "java/lang/invoke/MethodHandle" ∧ yX4_lots.cls ≠ "java/lang/invoke/VarHandle" ∧ (parseMethodDescriptor yX4_lots.desc).map (fun d => d.parameters.length) = some 2 := by decide +kernel
abbrev rm4_lots : Room := { frames := 3, cells := 0, slots := 0, locals := 67 }
set_option maxHeartbeats 4000000 in
set_option maxRecDepth 100000 in
theorem w4_lots_b156 {p : Program} {l : Launch} {e : Env} {s : State} {m : MethodId} {args : Array Value} {below : List Frame} {meth : Method} {c : Code} {D : va_G} {K : Nat → ClassId} {ad : Nat → Nat} (hI : INJ NM ad) (C0 : Cx p s m args meth c RX4 wsX4_lots cX4_lots 8 (some .int) (KM D K)) {r : Int32} {T : Mem} (k56 : Mem → Int32 → Int64 → Int32 → Option (Int32 × Mem)) (hk56 : ∀ (S : Mem) (x1 : Int32) (x3 : Int64) (x5 : Int32), k56 S x1 x3 x5 = some (r, T) → ∀ (H : Heap) (locs : List Loc) (ls : Array Slot), va_P D vwCl (wl NM ad (EM K ad S)) H → va_S (IW NM ad) s.heap H locs → lv_has ls 8 [(0, .ref (ad 0)), (1, .int x1), (3, .long x3), (5, .int x5)] → W p l e rm4_lots s m args below meth c H locs 0 0 (MQ below (va_Qi (fun (x : Int32) (u : Mem) => x = r ∧ u = T) (fun u t => va_P D vwCl (wl NM ad (EM K ad u)) t.heap) (IW NM ad)) args s 0 0 (IW NM ad)) (F0 m 56 ls [])) : ∀ (S : Mem) (x1 : Int32) (x3 : Int64) (x5 : Int32), f4_lots_b156 k56 S x1 x3 x5 = some (r, T) → ∀ (H : Heap) (locs : List Loc) (ls : Array Slot), va_P D vwCl (wl NM ad (EM K ad S)) H → va_S (IW NM ad) s.heap H locs → lv_has ls 8 [(0, .ref (ad 0)), (1, .int x1), (3, .long x3), (5, .int x5)] → W p l e rm4_lots s m args below meth c H locs 0 0 (MQ below (va_Qi (fun (x : Int32) (u : Mem) => x = r ∧ u = T) (fun u t => va_P D vwCl (wl NM ad (EM K ad u)) t.heap) (IW NM ad)) args s 0 0 (IW NM ad)) (F0 m 156 ls []) := by
  have hx := C0.1
  have hb := C0.2.1
  have hts := C0.2.2.2.2.1
  have hown := C0.2.2.2.1
  have hKC := C0.2.2.2.2.2.2.2
  intro S x1 x3 x5 hf H locs ls hP hS hl
  rw [f4_lots_b156] at hf
  obtain ⟨v1, ev1⟩ : ∃ y : Int32, y = x5 + 1 := ⟨_, rfl⟩
  have hf := nm_at ev1 hf
  refine lv_iinc (v := v1) (lv' := [(5, .int v1), (0, .ref (ad 0)), (1, .int x1), (3, .long x3)]) hx hb dX4_lots_156 hl (k := 3) rfl (by rw [ev1]; rfl) (by decide) rfl (fun ls hl => ?_)
  refine lv_goto (tgt := 56) hx hb dX4_lots_159 (by decide) ?_
  exact hk56 S x1 x3 v1 hf H locs ls hP hS (lv_sub hl [1, 2, 3, 0] rfl)
set_option maxHeartbeats 4000000 in
set_option maxRecDepth 100000 in
theorem w4_lots_b56 {p : Program} {l : Launch} {e : Env} {s : State} {m : MethodId} {args : Array Value} {below : List Frame} {meth : Method} {c : Code} {D : va_G} {K : Nat → ClassId} {ad : Nat → Nat} (hI : INJ NM ad) (C0 : Cx p s m args meth c RX4 wsX4_lots cX4_lots 8 (some .int) (KM D K)) {r : Int32} {T : Mem} : ∀ (n : Nat), ∀ (S : Mem) (x1 : Int32) (x3 : Int64) (x5 : Int32), f4_lots_b56 n S x1 x3 x5 = some (r, T) → ∀ (H : Heap) (locs : List Loc) (ls : Array Slot), va_P D vwCl (wl NM ad (EM K ad S)) H → va_S (IW NM ad) s.heap H locs → lv_has ls 8 [(0, .ref (ad 0)), (1, .int x1), (3, .long x3), (5, .int x5)] → W p l e rm4_lots s m args below meth c H locs 0 0 (MQ below (va_Qi (fun (x : Int32) (u : Mem) => x = r ∧ u = T) (fun u t => va_P D vwCl (wl NM ad (EM K ad u)) t.heap) (IW NM ad)) args s 0 0 (IW NM ad)) (F0 m 56 ls []) := by
  have hx := C0.1
  have hb := C0.2.1
  have hts := C0.2.2.2.2.1
  have hown := C0.2.2.2.1
  have hKC := C0.2.2.2.2.2.2.2
  intro n
  induction n with
  | zero =>
    intro S x1 x3 x5 hf
    rw [f4_lots_b56] at hf
    cases hf
  | succ n ih =>
    intro S x1 x3 x5 hf H locs ls hP hS hl
    rw [f4_lots_b56] at hf
    refine lv_iload hx hb dX4_lots_56 (lv_at hl 3 rfl) ?_
    refine lv_iload_n hx hb dX4_lots_58 rfl (lv_at hl 1 rfl) ?_
    refine lv_icmp_ge (tgt := 162) hx hb dX4_lots_59 (by decide) (fun c1 => ?_) (fun c1 => ?_)
    · have hf := ite_t hf c1
      refine lv_aload_n hx hb dX4_lots_162 rfl (lv_at hl 0 rfl) ?_
      refine x_get C0 hKC hP (by decide) (EM_0 K ad S) rfl in_X4_lots_X4 16 (by decide) (List.mem_of_getElem? (i := 8) rfl) rfl dX4_lots_163 ?_
      refine lv_iconst (v := 1) hx hb dX4_lots_166 (by decide) ?_
      obtain ⟨g2, hf⟩ := gd_some hf
      refine x_iald C0 hKC hP (IM_11 K ad) (t0 := 0) rfl g2 dX4_lots_167 ?_
      exact ret_i C0 hP hS (congrArg Prod.fst (Option.some.inj hf)) (congrArg Prod.snd (Option.some.inj hf)) dX4_lots_168
    · have hf := ite_f hf c1
      refine lv_lload_n hx hb dX4_lots_62 rfl (lv_at hl 2 rfl) ?_
      refine lv_ldc2 (v := 48271) hx hb hown (hts _ (List.mem_of_getElem? (i := 5) rfl)) dX4_lots_63 ?_
      refine lv_lmul hx hb dX4_lots_66 ?_
      refine lv_ldc2 (v := 2147483647) hx hb hown (hts _ (List.mem_of_getElem? (i := 6) rfl)) dX4_lots_67 ?_
      refine lv_lrem hx hb dX4_lots_70 (by decide) ?_
      refine lv_topl (fun v3 ev3 => ?_)
      have hf := nm_at ev3 hf
      refine lv_lstore_n (lv' := [(3, .long v3), (0, .ref (ad 0)), (1, .int x1), (5, .int x5)]) hx hb dX4_lots_71 rfl hl (by decide) rfl (fun ls hl => ?_)
      refine lv_lload_n hx hb dX4_lots_72 rfl (lv_at hl 0 rfl) ?_
      refine lv_ldc2 (v := 8) hx hb hown (hts _ (List.mem_of_getElem? (i := 7) rfl)) dX4_lots_73 ?_
      refine lv_lrem hx hb dX4_lots_76 (by decide) ?_
      refine lv_l2i (v := (Int64.toInt32 (v3 - v3 / 8 * 8))) hx hb dX4_lots_77 rfl ?_
      refine lv_topi (fun v4 ev4 => ?_)
      have hf := nm_at ev4 hf
      refine lv_istore (lv' := [(6, .int v4), (3, .long v3), (0, .ref (ad 0)), (1, .int x1), (5, .int x5)]) hx hb dX4_lots_78 hl (by decide) rfl (fun ls hl => ?_)
      refine lv_lload_n hx hb dX4_lots_80 rfl (lv_at hl 1 rfl) ?_
      refine lv_ldc2 (v := 8) hx hb hown (hts _ (List.mem_of_getElem? (i := 7) rfl)) dX4_lots_81 ?_
      refine lv_ldiv hx hb dX4_lots_84 (by decide) ?_
      refine lv_aload_n hx hb dX4_lots_85 rfl (lv_at hl 2 rfl) ?_
      refine x_get C0 hKC hP (by decide) (EM_0 K ad S) rfl in_X4_lots_X4 12 (by decide) (List.mem_of_getElem? (i := 3) rfl) rfl dX4_lots_86 ?_
      refine lv_i2l (v := (Int32.toInt64 (gi S 0 12))) hx hb dX4_lots_89 rfl ?_
      obtain ⟨g5, hf⟩ := gd_some hf
      refine lv_lrem hx hb dX4_lots_90 (of_decide_eq_true g5) ?_
      refine lv_l2i (v := (Int64.toInt32 ((v3 / 8) - (v3 / 8) / (Int32.toInt64 (gi S 0 12)) * (Int32.toInt64 (gi S 0 12))))) hx hb dX4_lots_91 rfl ?_
      refine lv_topi (fun v6 ev6 => ?_)
      have hf := nm_at ev6 hf
      refine lv_istore (lv' := [(7, .int v6), (6, .int v4), (3, .long v3), (0, .ref (ad 0)), (1, .int x1), (5, .int x5)]) hx hb dX4_lots_92 hl (by decide) rfl (fun ls hl => ?_)
      refine lv_aload_n hx hb dX4_lots_94 rfl (lv_at hl 3 rfl) ?_
      obtain ⟨S8, h7, hf⟩ := b1_some hf
      refine sys_v hS (sys_runV (As := []) (rest := []) C0 KM_ok hKC hP hS (by decide) (EM_0 K ad S) rfl (m4_notes l D K ad hI S h7) gX4_lots_X4_notes rfl ⟨rfl, rfl⟩ hd_X4_notes ⟨Nat.le_of_ble_eq_true rfl, Nat.le_of_ble_eq_true rfl⟩ hl.1 rfl (Nat.le_of_ble_eq_true rfl) dX4_lots_95 ⟨Nat.le_refl _, Nat.le_refl _⟩) (fun H locs hP hS => ?_)
      refine lv_iload hx hb dX4_lots_98 (lv_at hl 1 rfl) ?_
      refine lv_if_ne (tgt := 111) hx hb dX4_lots_100 (by decide) (fun c9 => ?_) (fun c9 => ?_)
      · have hf := ite_f hf c9
        refine lv_iload hx hb dX4_lots_111 (lv_at hl 1 rfl) ?_
        refine lv_iconst (v := 1) hx hb dX4_lots_113 (by decide) ?_
        refine lv_icmp_ne (tgt := 126) hx hb dX4_lots_114 (by decide) (fun c10 => ?_) (fun c10 => ?_)
        · have hf := ite_f hf c10
          refine lv_iload hx hb dX4_lots_126 (lv_at hl 1 rfl) ?_
          refine lv_iconst (v := 2) hx hb dX4_lots_128 (by decide) ?_
          refine lv_icmp_ne (tgt := 141) hx hb dX4_lots_129 (by decide) (fun c11 => ?_) (fun c11 => ?_)
          · have hf := ite_f hf c11
            refine lv_aload_n hx hb dX4_lots_141 rfl (lv_at hl 3 rfl) ?_
            refine x_get C0 hKC hP (by decide) (EM_0 K ad S8) rfl in_X4_lots_X4 16 (by decide) (List.mem_of_getElem? (i := 8) rfl) rfl dX4_lots_142 ?_
            refine lv_iconst (v := 0) hx hb dX4_lots_145 (by decide) ?_
            obtain ⟨g12, hf⟩ := gd_some hf
            refine x_iald C0 hKC hP (IM_11 K ad) (t0 := 0) rfl g12 dX4_lots_146 ?_
            refine lv_bipush (v := 99) hx hb dX4_lots_147 (by decide) ?_
            refine lv_icmp_ge (tgt := 156) hx hb dX4_lots_149 (by decide) (fun c13 => ?_) (fun c13 => ?_)
            · have hf := ite_t hf c13
              exact w4_lots_b156 hI C0 (f4_lots_b56 n) ih S8 x1 v3 x5 hf H locs ls hP hS (lv_sub hl [3, 4, 2, 5] rfl)
            · have hf := ite_f hf c13
              refine lv_aload_n hx hb dX4_lots_152 rfl (lv_at hl 3 rfl) ?_
              obtain ⟨S15, h14, hf⟩ := b1_some hf
              refine sys_v hS (sys_runV (As := []) (rest := []) C0 KM_ok hKC hP hS (by decide) (EM_0 K ad S8) rfl (m4_goesBy l D K ad hI S8 h14) gX4_lots_X4_goesBy rfl ⟨rfl, rfl⟩ hd_X4_goesBy ⟨Nat.le_of_ble_eq_true rfl, Nat.le_of_ble_eq_true rfl⟩ hl.1 rfl (Nat.le_of_ble_eq_true rfl) dX4_lots_153 ⟨Nat.le_refl _, Nat.le_refl _⟩) (fun H locs hP hS => ?_)
              exact w4_lots_b156 hI C0 (f4_lots_b56 n) ih S15 x1 v3 x5 hf H locs ls hP hS (lv_sub hl [3, 4, 2, 5] rfl)
          · have hf := ite_t hf c11
            refine lv_aload_n hx hb dX4_lots_132 rfl (lv_at hl 3 rfl) ?_
            refine lv_iload hx hb dX4_lots_133 (lv_at hl 0 rfl) ?_
            obtain ⟨S17, h16, hf⟩ := b1_some hf
            refine sys_v hS (sys_runV (As := [.int v6]) (rest := []) C0 KM_ok hKC hP hS (by decide) (EM_0 K ad S8) rfl (m4_takesNine l D K ad hI S8 v6 h16) gX4_lots_X4_takesNine rfl ⟨rfl, rfl⟩ hd_X4_takesNine ⟨Nat.le_of_ble_eq_true rfl, Nat.le_of_ble_eq_true rfl⟩ hl.1 rfl (Nat.le_of_ble_eq_true rfl) dX4_lots_135 ⟨Nat.le_refl _, Nat.le_refl _⟩) (fun H locs hP hS => ?_)
            refine lv_goto (tgt := 156) hx hb dX4_lots_138 (by decide) ?_
            exact w4_lots_b156 hI C0 (f4_lots_b56 n) ih S17 x1 v3 x5 hf H locs ls hP hS (lv_sub hl [3, 4, 2, 5] rfl)
        · have hf := ite_t hf c10
          refine lv_aload_n hx hb dX4_lots_117 rfl (lv_at hl 3 rfl) ?_
          refine lv_iload hx hb dX4_lots_118 (lv_at hl 0 rfl) ?_
          obtain ⟨S19, h18, hf⟩ := b1_some hf
          refine sys_v hS (sys_runV (As := [.int v6]) (rest := []) C0 KM_ok hKC hP hS (by decide) (EM_0 K ad S8) rfl (m4_leavesNine l D K ad hI S8 v6 h18) gX4_lots_X4_leavesNine rfl ⟨rfl, rfl⟩ hd_X4_leavesNine ⟨Nat.le_of_ble_eq_true rfl, Nat.le_of_ble_eq_true rfl⟩ hl.1 rfl (Nat.le_of_ble_eq_true rfl) dX4_lots_120 ⟨Nat.le_refl _, Nat.le_refl _⟩) (fun H locs hP hS => ?_)
          refine lv_goto (tgt := 156) hx hb dX4_lots_123 (by decide) ?_
          exact w4_lots_b156 hI C0 (f4_lots_b56 n) ih S19 x1 v3 x5 hf H locs ls hP hS (lv_sub hl [3, 4, 2, 5] rfl)
      · have hf := ite_t hf c9
        refine lv_aload_n hx hb dX4_lots_103 rfl (lv_at hl 3 rfl) ?_
        obtain ⟨v21, S22, h20, hf⟩ := b2_some hf
        refine sys_i hS (sys_runV (As := []) (rest := []) C0 KM_ok hKC hP hS (by decide) (EM_0 K ad S8) rfl (m4_springs l D K ad hI S8 h20) gX4_lots_X4_springs rfl ⟨rfl, rfl⟩ hd_X4_springs ⟨Nat.le_of_ble_eq_true rfl, Nat.le_of_ble_eq_true rfl⟩ hl.1 rfl (Nat.le_of_ble_eq_true rfl) dX4_lots_104 ⟨Nat.le_refl _, Nat.le_refl _⟩) (fun H locs hP hS => ?_)
        refine lv_pop hx hb dX4_lots_107 rfl ?_
        refine lv_goto (tgt := 156) hx hb dX4_lots_108 (by decide) ?_
        exact w4_lots_b156 hI C0 (f4_lots_b56 n) ih S22 x1 v3 x5 hf H locs ls hP hS (lv_sub hl [3, 4, 2, 5] rfl)
set_option maxHeartbeats 4000000 in
set_option maxRecDepth 100000 in
theorem w4_lots {p : Program} {l : Launch} {e : Env} {s : State} {m : MethodId} {args : Array Value} {below : List Frame} {meth : Method} {c : Code} {D : va_G} {K : Nat → ClassId} {ad : Nat → Nat} (hI : INJ NM ad) (C0 : Cx p s m args meth c RX4 wsX4_lots cX4_lots 8 (some .int) (KM D K)) {r : Int32} {T : Mem} : ∀ (S : Mem) (x1 : Int32) (x2 : Int32), f4_lots S x1 x2 = some (r, T) → ∀ (H : Heap) (locs : List Loc) (ls : Array Slot), va_P D vwCl (wl NM ad (EM K ad S)) H → va_S (IW NM ad) s.heap H locs → lv_has ls 8 [(0, .ref (ad 0)), (1, .int x1), (2, .int x2)] → W p l e rm4_lots s m args below meth c H locs 0 0 (MQ below (va_Qi (fun (x : Int32) (u : Mem) => x = r ∧ u = T) (fun u t => va_P D vwCl (wl NM ad (EM K ad u)) t.heap) (IW NM ad)) args s 0 0 (IW NM ad)) (F0 m 0 ls []) := by
  have hx := C0.1
  have hb := C0.2.1
  have hts := C0.2.2.2.2.1
  have hown := C0.2.2.2.1
  have hKC := C0.2.2.2.2.2.2.2
  intro S x1 x2 hf H locs ls hP hS hl
  rw [f4_lots] at hf
  refine lv_iload_n hx hb dX4_lots_0 rfl (lv_at hl 1 rfl) ?_
  refine lv_i2l (v := (Int32.toInt64 x1)) hx hb dX4_lots_1 rfl ?_
  refine lv_lconst (v := 1) hx hb dX4_lots_2 (by decide) ?_
  refine lv_ldc2 (v := 20) hx hb hown (hts _ (List.mem_of_getElem? (i := 1) rfl)) dX4_lots_3 ?_
  obtain ⟨v2, h1, hf⟩ := b1_some hf
  refine sys_i hS (sys_runS (As := [.long (Int32.toInt64 x1), .long 1, .long 20]) (rest := []) C0 KM_ok hP hS (m4_in l D K ad hI S (Int32.toInt64 x1) 1 20 h1) gX4_lots_X4_in rfl ⟨rfl, rfl⟩ hd_X4_in ⟨Nat.le_of_ble_eq_true rfl, Nat.le_of_ble_eq_true rfl⟩ hl.1 rfl (Nat.le_of_ble_eq_true rfl) dX4_lots_6 ⟨Nat.le_refl _, Nat.le_refl _⟩) (fun H locs hP hS => ?_)
  refine lv_if_eq (tgt := 24) hx hb dX4_lots_9 (by decide) (fun c3 => ?_) (fun c3 => ?_)
  · have hf := ite_t hf c3
    refine lv_iconst (v := (-1)) hx hb dX4_lots_24 (by decide) ?_
    exact ret_i C0 hP hS (congrArg Prod.fst (Option.some.inj hf)) (congrArg Prod.snd (Option.some.inj hf)) dX4_lots_25
  · have hf := ite_f hf c3
    refine lv_iload_n hx hb dX4_lots_12 rfl (lv_at hl 2 rfl) ?_
    refine lv_i2l (v := (Int32.toInt64 x2)) hx hb dX4_lots_13 rfl ?_
    refine lv_lconst (v := 1) hx hb dX4_lots_14 (by decide) ?_
    refine lv_ldc2 (v := 2147483646) hx hb hown (hts _ (List.mem_of_getElem? (i := 2) rfl)) dX4_lots_15 ?_
    obtain ⟨v5, h4, hf⟩ := b1_some hf
    refine sys_i hS (sys_runS (As := [.long (Int32.toInt64 x2), .long 1, .long 2147483646]) (rest := []) C0 KM_ok hP hS (m4_in l D K ad hI S (Int32.toInt64 x2) 1 2147483646 h4) gX4_lots_X4_in rfl ⟨rfl, rfl⟩ hd_X4_in ⟨Nat.le_of_ble_eq_true rfl, Nat.le_of_ble_eq_true rfl⟩ hl.1 rfl (Nat.le_of_ble_eq_true rfl) dX4_lots_18 ⟨Nat.le_refl _, Nat.le_refl _⟩) (fun H locs hP hS => ?_)
    refine lv_if_ne (tgt := 26) hx hb dX4_lots_21 (by decide) (fun c6 => ?_) (fun c6 => ?_)
    · have hf := ite_f hf c6
      refine lv_aload_n hx hb dX4_lots_26 rfl (lv_at hl 0 rfl) ?_
      refine x_get C0 hKC hP (by decide) (EM_0 K ad S) rfl in_X4_lots_X4 12 (by decide) (List.mem_of_getElem? (i := 3) rfl) rfl dX4_lots_27 ?_
      refine lv_if_ne (tgt := 36) hx hb dX4_lots_30 (by decide) (fun c7 => ?_) (fun c7 => ?_)
      · have hf := ite_f hf c7
        refine lv_aload_n hx hb dX4_lots_36 rfl (lv_at hl 0 rfl) ?_
        refine x_get C0 hKC hP (by decide) (EM_0 K ad S) rfl in_X4_lots_X4 18 (by decide) (List.mem_of_getElem? (i := 4) rfl) rfl dX4_lots_37 ?_
        refine lv_iload_n hx hb dX4_lots_40 rfl (lv_at hl 1 rfl) ?_
        refine lv_iadd hx hb dX4_lots_41 ?_
        refine lv_bipush (v := 40) hx hb dX4_lots_42 (by decide) ?_
        refine lv_icmp_le (tgt := 50) hx hb dX4_lots_44 (by decide) (fun c8 => ?_) (fun c8 => ?_)
        · have hf := ite_t hf c8
          refine lv_iload_n hx hb dX4_lots_50 rfl (lv_at hl 2 rfl) ?_
          refine lv_i2l (v := (Int32.toInt64 x2)) hx hb dX4_lots_51 rfl ?_
          refine lv_topl (fun v9 ev9 => ?_)
          have hf := nm_at ev9 hf
          refine lv_lstore_n (lv' := [(3, .long v9), (0, .ref (ad 0)), (1, .int x1), (2, .int x2)]) hx hb dX4_lots_52 rfl hl (by decide) rfl (fun ls hl => ?_)
          refine lv_iconst (v := 0) hx hb dX4_lots_53 (by decide) ?_
          refine lv_istore (lv' := [(5, .int 0), (3, .long v9), (0, .ref (ad 0)), (1, .int x1), (2, .int x2)]) hx hb dX4_lots_54 hl (by decide) rfl (fun ls hl => ?_)
          exact w4_lots_b56 hI C0 FU S x1 v9 0 hf H locs ls hP hS (lv_sub hl [2, 3, 1, 0] rfl)
        · have hf := ite_f hf c8
          refine lv_bipush (v := (-2)) hx hb dX4_lots_47 (by decide) ?_
          exact ret_i C0 hP hS (congrArg Prod.fst (Option.some.inj hf)) (congrArg Prod.snd (Option.some.inj hf)) dX4_lots_49
      · have hf := ite_t hf c7
        refine lv_bipush (v := (-4)) hx hb dX4_lots_33 (by decide) ?_
        exact ret_i C0 hP hS (congrArg Prod.fst (Option.some.inj hf)) (congrArg Prod.snd (Option.some.inj hf)) dX4_lots_35
    · have hf := ite_t hf c6
      refine lv_iconst (v := (-1)) hx hb dX4_lots_24 (by decide) ?_
      exact ret_i C0 hP hS (congrArg Prod.fst (Option.some.inj hf)) (congrArg Prod.snd (Option.some.inj hf)) dX4_lots_25
theorem m4_lots (l : Launch) (D : va_G) (K : Nat → ClassId) (ad : Nat → Nat) (hI : INJ NM ad) (S : Mem) (x1 : Int32) (x2 : Int32) {r : Int32} {T : Mem} (hf : f4_lots S x1 x2 = some (r, T)) : SysI l yX4_lots wsX4_lots rm4_lots D NM ad (EM K ad) (KM D K) [.ref (ad 0), .int x1, .int x2] S r T :=
  met_of (own := RX4) (by decide) rfl rfl (Nat.le_of_ble_eq_true rfl) (fun _ _ s _ _ _ _ ls C0 _ hP hl => w4_lots hI C0 S x1 x2 hf s.heap [] ls hP va_S.rf hl)
theorem in_X4_asked_X4 : ∀ w ∈ wsX40, w ∈ wsX4_asked := fun _ h => List.mem_cons_of_mem _ (List.mem_append_right _ h)
theorem hd_X4_asked : yX4_asked.cls = RX4 ∧ yX4_asked.cls ≠ "java/lang/invoke/MethodHandle" ∧ yX4_asked.cls ≠ "java/lang/invoke/VarHandle" ∧ (parseMethodDescriptor yX4_asked.desc).map (fun d => d.parameters.length) = some 0 := by decide +kernel
abbrev rm4_asked : Room := { frames := 0, cells := 0, slots := 0, locals := 0 }
set_option maxHeartbeats 4000000 in
set_option maxRecDepth 100000 in
theorem w4_asked {p : Program} {l : Launch} {e : Env} {s : State} {m : MethodId} {args : Array Value} {below : List Frame} {meth : Method} {c : Code} {D : va_G} {K : Nat → ClassId} {ad : Nat → Nat} (hI : INJ NM ad) (C0 : Cx p s m args meth c RX4 wsX4_asked cX4_asked 1 (some .int) (KM D K)) (S : Mem) {r : Int32} : f4_asked S = some r → ∀ (H : Heap) (locs : List Loc) (ls : Array Slot), va_P D vwCl (wl NM ad (EM K ad S)) H → va_S (IW NM ad) s.heap H locs → lv_has ls 1 [(0, .ref (ad 0))] → W p l e rm4_asked s m args below meth c H locs 0 0 (MQ below (va_Qi (fun (x : Int32) (u : Mem) => x = r ∧ u = S) (fun u t => va_P D vwCl (wl NM ad (EM K ad u)) t.heap) (IW NM ad)) args s 0 0 (IW NM ad)) (F0 m 0 ls []) := by
  have hx := C0.1
  have hb := C0.2.1
  have hts := C0.2.2.2.2.1
  have hown := C0.2.2.2.1
  have hKC := C0.2.2.2.2.2.2.2
  intro  hf H locs ls hP hS hl
  rw [f4_asked] at hf
  refine lv_aload_n hx hb dX4_asked_0 rfl (lv_at hl 0 rfl) ?_
  refine x_get C0 hKC hP (by decide) (EM_0 K ad S) rfl in_X4_asked_X4 2 (by decide) (List.mem_of_getElem? (i := 1) rfl) rfl dX4_asked_1 ?_
  exact ret_i C0 hP hS (Option.some.inj hf) rfl dX4_asked_4
theorem m4_asked (l : Launch) (D : va_G) (K : Nat → ClassId) (ad : Nat → Nat) (hI : INJ NM ad) (S : Mem) {r : Int32} (hf : f4_asked S = some r) : SysI l yX4_asked wsX4_asked rm4_asked D NM ad (EM K ad) (KM D K) [.ref (ad 0)] S r S :=
  met_of (own := RX4) (by decide) rfl rfl (Nat.le_of_ble_eq_true rfl) (fun _ _ s _ _ _ _ ls C0 _ hP hl => w4_asked hI C0 S hf s.heap [] ls hP va_S.rf hl)
theorem in_X4_upper_X4 : ∀ w ∈ wsX40, w ∈ wsX4_upper := fun _ h => List.mem_cons_of_mem _ (List.mem_append_right _ h)
theorem hd_X4_upper : yX4_upper.cls = RX4 ∧ yX4_upper.cls ≠ "java/lang/invoke/MethodHandle" ∧ yX4_upper.cls ≠ "java/lang/invoke/VarHandle" ∧ (parseMethodDescriptor yX4_upper.desc).map (fun d => d.parameters.length) = some 0 := by decide +kernel
abbrev rm4_upper : Room := { frames := 0, cells := 0, slots := 0, locals := 0 }
set_option maxHeartbeats 4000000 in
set_option maxRecDepth 100000 in
theorem w4_upper {p : Program} {l : Launch} {e : Env} {s : State} {m : MethodId} {args : Array Value} {below : List Frame} {meth : Method} {c : Code} {D : va_G} {K : Nat → ClassId} {ad : Nat → Nat} (hI : INJ NM ad) (C0 : Cx p s m args meth c RX4 wsX4_upper cX4_upper 1 (some .long) (KM D K)) (S : Mem) {r : Int64} : f4_upper S = some r → ∀ (H : Heap) (locs : List Loc) (ls : Array Slot), va_P D vwCl (wl NM ad (EM K ad S)) H → va_S (IW NM ad) s.heap H locs → lv_has ls 1 [(0, .ref (ad 0))] → W p l e rm4_upper s m args below meth c H locs 0 0 (MQ below (va_Ql (fun (x : Int64) (u : Mem) => x = r ∧ u = S) (fun u t => va_P D vwCl (wl NM ad (EM K ad u)) t.heap) (IW NM ad)) args s 0 0 (IW NM ad)) (F0 m 0 ls []) := by
  have hx := C0.1
  have hb := C0.2.1
  have hts := C0.2.2.2.2.1
  have hown := C0.2.2.2.1
  have hKC := C0.2.2.2.2.2.2.2
  intro  hf H locs ls hP hS hl
  rw [f4_upper] at hf
  refine lv_aload_n hx hb dX4_upper_0 rfl (lv_at hl 0 rfl) ?_
  refine x_get C0 hKC hP (by decide) (EM_0 K ad S) rfl in_X4_upper_X4 3 (by decide) (List.mem_of_getElem? (i := 1) rfl) rfl dX4_upper_1 ?_
  exact ret_l C0 hP hS (Option.some.inj hf) rfl dX4_upper_4
theorem m4_upper (l : Launch) (D : va_G) (K : Nat → ClassId) (ad : Nat → Nat) (hI : INJ NM ad) (S : Mem) {r : Int64} (hf : f4_upper S = some r) : SysL l yX4_upper wsX4_upper rm4_upper D NM ad (EM K ad) (KM D K) [.ref (ad 0)] S r S :=
  met_of (own := RX4) (by decide) rfl rfl (Nat.le_of_ble_eq_true rfl) (fun _ _ s _ _ _ _ ls C0 _ hP hl => w4_upper hI C0 S hf s.heap [] ls hP va_S.rf hl)
theorem in_X4_lower_X4 : ∀ w ∈ wsX40, w ∈ wsX4_lower := fun _ h => List.mem_cons_of_mem _ (List.mem_append_right _ h)
theorem hd_X4_lower : yX4_lower.cls = RX4 ∧ yX4_lower.cls ≠ "java/lang/invoke/MethodHandle" ∧ yX4_lower.cls ≠ "java/lang/invoke/VarHandle" ∧ (parseMethodDescriptor yX4_lower.desc).map (fun d => d.parameters.length) = some 0 := by decide +kernel
abbrev rm4_lower : Room := { frames := 0, cells := 0, slots := 0, locals := 0 }
set_option maxHeartbeats 4000000 in
set_option maxRecDepth 100000 in
theorem w4_lower {p : Program} {l : Launch} {e : Env} {s : State} {m : MethodId} {args : Array Value} {below : List Frame} {meth : Method} {c : Code} {D : va_G} {K : Nat → ClassId} {ad : Nat → Nat} (hI : INJ NM ad) (C0 : Cx p s m args meth c RX4 wsX4_lower cX4_lower 1 (some .long) (KM D K)) (S : Mem) {r : Int64} : f4_lower S = some r → ∀ (H : Heap) (locs : List Loc) (ls : Array Slot), va_P D vwCl (wl NM ad (EM K ad S)) H → va_S (IW NM ad) s.heap H locs → lv_has ls 1 [(0, .ref (ad 0))] → W p l e rm4_lower s m args below meth c H locs 0 0 (MQ below (va_Ql (fun (x : Int64) (u : Mem) => x = r ∧ u = S) (fun u t => va_P D vwCl (wl NM ad (EM K ad u)) t.heap) (IW NM ad)) args s 0 0 (IW NM ad)) (F0 m 0 ls []) := by
  have hx := C0.1
  have hb := C0.2.1
  have hts := C0.2.2.2.2.1
  have hown := C0.2.2.2.1
  have hKC := C0.2.2.2.2.2.2.2
  intro  hf H locs ls hP hS hl
  rw [f4_lower] at hf
  refine lv_aload_n hx hb dX4_lower_0 rfl (lv_at hl 0 rfl) ?_
  refine x_get C0 hKC hP (by decide) (EM_0 K ad S) rfl in_X4_lower_X4 4 (by decide) (List.mem_of_getElem? (i := 1) rfl) rfl dX4_lower_1 ?_
  exact ret_l C0 hP hS (Option.some.inj hf) rfl dX4_lower_4
theorem m4_lower (l : Launch) (D : va_G) (K : Nat → ClassId) (ad : Nat → Nat) (hI : INJ NM ad) (S : Mem) {r : Int64} (hf : f4_lower S = some r) : SysL l yX4_lower wsX4_lower rm4_lower D NM ad (EM K ad) (KM D K) [.ref (ad 0)] S r S :=
  met_of (own := RX4) (by decide) rfl rfl (Nat.le_of_ble_eq_true rfl) (fun _ _ s _ _ _ _ ls C0 _ hP hl => w4_lower hI C0 S hf s.heap [] ls hP va_S.rf hl)
theorem in_X4_ofKind_X4 : ∀ w ∈ wsX40, w ∈ wsX4_ofKind := fun _ h => List.mem_cons_of_mem _ (List.mem_append_right _ h)
theorem hd_X4_ofKind : yX4_ofKind.cls = RX4 ∧ yX4_ofKind.cls ≠ "java/lang/invoke/MethodHandle" ∧ yX4_ofKind.cls ≠ "java/lang/invoke/VarHandle" ∧ (parseMethodDescriptor yX4_ofKind.desc).map (fun d => d.parameters.length) = some 1 := by decide +kernel
abbrev rm4_ofKind : Room := { frames := 1, cells := 0, slots := 0, locals := 21 }
set_option maxHeartbeats 4000000 in
set_option maxRecDepth 100000 in
theorem w4_ofKind_b31 {p : Program} {l : Launch} {e : Env} {s : State} {m : MethodId} {args : Array Value} {below : List Frame} {meth : Method} {c : Code} {D : va_G} {K : Nat → ClassId} {ad : Nat → Nat} (hI : INJ NM ad) (C0 : Cx p s m args meth c RX4 wsX4_ofKind cX4_ofKind 4 (some .int) (KM D K)) (S : Mem) {r : Int32} (k4 : Int32 → Int32 → Int32 → Option Int32) (hk4 : ∀ (x1 : Int32) (x2 : Int32) (x3 : Int32), k4 x1 x2 x3 = some r → ∀ (H : Heap) (locs : List Loc) (ls : Array Slot), va_P D vwCl (wl NM ad (EM K ad S)) H → va_S (IW NM ad) s.heap H locs → lv_has ls 4 [(0, .ref (ad 0)), (1, .int x1), (2, .int x2), (3, .int x3)] → W p l e rm4_ofKind s m args below meth c H locs 0 0 (MQ below (va_Qi (fun (x : Int32) (u : Mem) => x = r ∧ u = S) (fun u t => va_P D vwCl (wl NM ad (EM K ad u)) t.heap) (IW NM ad)) args s 0 0 (IW NM ad)) (F0 m 4 ls [])) : ∀ (x1 : Int32) (x3 : Int32) (t0 : Int32) (t1 : Int32), f4_ofKind_b31 k4 S x1 x3 t0 t1 = some r → ∀ (H : Heap) (locs : List Loc) (ls : Array Slot), va_P D vwCl (wl NM ad (EM K ad S)) H → va_S (IW NM ad) s.heap H locs → lv_has ls 4 [(0, .ref (ad 0)), (1, .int x1), (3, .int x3)] → W p l e rm4_ofKind s m args below meth c H locs 0 0 (MQ below (va_Qi (fun (x : Int32) (u : Mem) => x = r ∧ u = S) (fun u t => va_P D vwCl (wl NM ad (EM K ad u)) t.heap) (IW NM ad)) args s 0 0 (IW NM ad)) (F0 m 31 ls [.int t1, .int t0]) := by
  have hx := C0.1
  have hb := C0.2.1
  have hts := C0.2.2.2.2.1
  have hown := C0.2.2.2.1
  have hKC := C0.2.2.2.2.2.2.2
  intro x1 x3 t0 t1 hf H locs ls hP hS hl
  rw [f4_ofKind_b31] at hf
  refine lv_iadd hx hb dX4_ofKind_31 ?_
  refine lv_topi (fun v1 ev1 => ?_)
  have hf := nm_at ev1 hf
  refine lv_istore_n (lv' := [(2, .int v1), (0, .ref (ad 0)), (1, .int x1), (3, .int x3)]) hx hb dX4_ofKind_32 rfl hl (by decide) rfl (fun ls hl => ?_)
  obtain ⟨v2, ev2⟩ : ∃ y : Int32, y = x3 + 1 := ⟨_, rfl⟩
  have hf := nm_at ev2 hf
  refine lv_iinc (v := v2) (lv' := [(3, .int v2), (2, .int v1), (0, .ref (ad 0)), (1, .int x1)]) hx hb dX4_ofKind_33 hl (k := 3) rfl (by rw [ev2]; rfl) (by decide) rfl (fun ls hl => ?_)
  refine lv_goto (tgt := 4) hx hb dX4_ofKind_36 (by decide) ?_
  exact hk4 x1 v1 v2 hf H locs ls hP hS (lv_sub hl [2, 3, 1, 0] rfl)
set_option maxHeartbeats 4000000 in
set_option maxRecDepth 100000 in
theorem w4_ofKind_b4 {p : Program} {l : Launch} {e : Env} {s : State} {m : MethodId} {args : Array Value} {below : List Frame} {meth : Method} {c : Code} {D : va_G} {K : Nat → ClassId} {ad : Nat → Nat} (hI : INJ NM ad) (C0 : Cx p s m args meth c RX4 wsX4_ofKind cX4_ofKind 4 (some .int) (KM D K)) (S : Mem) {r : Int32} : ∀ (n : Nat), ∀ (x1 : Int32) (x2 : Int32) (x3 : Int32), f4_ofKind_b4 S n x1 x2 x3 = some r → ∀ (H : Heap) (locs : List Loc) (ls : Array Slot), va_P D vwCl (wl NM ad (EM K ad S)) H → va_S (IW NM ad) s.heap H locs → lv_has ls 4 [(0, .ref (ad 0)), (1, .int x1), (2, .int x2), (3, .int x3)] → W p l e rm4_ofKind s m args below meth c H locs 0 0 (MQ below (va_Qi (fun (x : Int32) (u : Mem) => x = r ∧ u = S) (fun u t => va_P D vwCl (wl NM ad (EM K ad u)) t.heap) (IW NM ad)) args s 0 0 (IW NM ad)) (F0 m 4 ls []) := by
  have hx := C0.1
  have hb := C0.2.1
  have hts := C0.2.2.2.2.1
  have hown := C0.2.2.2.1
  have hKC := C0.2.2.2.2.2.2.2
  intro n
  induction n with
  | zero =>
    intro x1 x2 x3 hf
    rw [f4_ofKind_b4] at hf
    cases hf
  | succ n ih =>
    intro x1 x2 x3 hf H locs ls hP hS hl
    rw [f4_ofKind_b4] at hf
    refine lv_iload_n hx hb dX4_ofKind_4 rfl (lv_at hl 3 rfl) ?_
    refine lv_aload_n hx hb dX4_ofKind_5 rfl (lv_at hl 0 rfl) ?_
    refine x_get C0 hKC hP (by decide) (EM_0 K ad S) rfl in_X4_ofKind_X4 12 (by decide) (List.mem_of_getElem? (i := 1) rfl) rfl dX4_ofKind_6 ?_
    refine lv_icmp_ge (tgt := 39) hx hb dX4_ofKind_9 (by decide) (fun c1 => ?_) (fun c1 => ?_)
    · have hf := ite_t hf c1
      refine lv_iload_n hx hb dX4_ofKind_39 rfl (lv_at hl 2 rfl) ?_
      exact ret_i C0 hP hS (Option.some.inj hf) rfl dX4_ofKind_40
    · have hf := ite_f hf c1
      refine lv_iload_n hx hb dX4_ofKind_12 rfl (lv_at hl 2 rfl) ?_
      refine lv_aload_n hx hb dX4_ofKind_13 rfl (lv_at hl 0 rfl) ?_
      refine x_get C0 hKC hP (by decide) (EM_0 K ad S) rfl in_X4_ofKind_X4 13 (by decide) (List.mem_of_getElem? (i := 2) rfl) rfl dX4_ofKind_14 ?_
      refine lv_iload_n hx hb dX4_ofKind_17 rfl (lv_at hl 3 rfl) ?_
      obtain ⟨g2, hf⟩ := gd_some hf
      refine x_iald C0 hKC hP (IM_8 K ad) (t0 := 0) rfl g2 dX4_ofKind_18 ?_
      refine lv_iload_n hx hb dX4_ofKind_19 rfl (lv_at hl 1 rfl) ?_
      obtain ⟨v4, h3, hf⟩ := b1_some hf
      refine sys_i hS (sys_runS (As := [.int (gi S 8 (ix x3)), .int x1]) (rest := [.int x2]) C0 KM_ok hP hS (m4_isOf l D K ad hI S (gi S 8 (ix x3)) x1 h3) gX4_ofKind_X4_isOf rfl ⟨rfl, rfl⟩ hd_X4_isOf ⟨Nat.le_of_ble_eq_true rfl, Nat.le_of_ble_eq_true rfl⟩ hl.1 rfl (Nat.le_of_ble_eq_true rfl) dX4_ofKind_20 ⟨Nat.le_refl _, Nat.le_refl _⟩) (fun H locs hP hS => ?_)
      refine lv_if_eq (tgt := 30) hx hb dX4_ofKind_23 (by decide) (fun c5 => ?_) (fun c5 => ?_)
      · have hf := ite_t hf c5
        refine lv_iconst (v := 0) hx hb dX4_ofKind_30 (by decide) ?_
        exact w4_ofKind_b31 hI C0 S (f4_ofKind_b4 S n) ih x1 x3 x2 0 hf H locs ls hP hS (lv_sub hl [0, 1, 3] rfl)
      · have hf := ite_f hf c5
        refine lv_iconst (v := 1) hx hb dX4_ofKind_26 (by decide) ?_
        refine lv_goto (tgt := 31) hx hb dX4_ofKind_27 (by decide) ?_
        exact w4_ofKind_b31 hI C0 S (f4_ofKind_b4 S n) ih x1 x3 x2 1 hf H locs ls hP hS (lv_sub hl [0, 1, 3] rfl)
set_option maxHeartbeats 4000000 in
set_option maxRecDepth 100000 in
theorem w4_ofKind {p : Program} {l : Launch} {e : Env} {s : State} {m : MethodId} {args : Array Value} {below : List Frame} {meth : Method} {c : Code} {D : va_G} {K : Nat → ClassId} {ad : Nat → Nat} (hI : INJ NM ad) (C0 : Cx p s m args meth c RX4 wsX4_ofKind cX4_ofKind 4 (some .int) (KM D K)) (S : Mem) {r : Int32} : ∀ (x1 : Int32), f4_ofKind S x1 = some r → ∀ (H : Heap) (locs : List Loc) (ls : Array Slot), va_P D vwCl (wl NM ad (EM K ad S)) H → va_S (IW NM ad) s.heap H locs → lv_has ls 4 [(0, .ref (ad 0)), (1, .int x1)] → W p l e rm4_ofKind s m args below meth c H locs 0 0 (MQ below (va_Qi (fun (x : Int32) (u : Mem) => x = r ∧ u = S) (fun u t => va_P D vwCl (wl NM ad (EM K ad u)) t.heap) (IW NM ad)) args s 0 0 (IW NM ad)) (F0 m 0 ls []) := by
  have hx := C0.1
  have hb := C0.2.1
  have hts := C0.2.2.2.2.1
  have hown := C0.2.2.2.1
  have hKC := C0.2.2.2.2.2.2.2
  intro x1 hf H locs ls hP hS hl
  rw [f4_ofKind] at hf
  refine lv_iconst (v := 0) hx hb dX4_ofKind_0 (by decide) ?_
  refine lv_istore_n (lv' := [(2, .int 0), (0, .ref (ad 0)), (1, .int x1)]) hx hb dX4_ofKind_1 rfl hl (by decide) rfl (fun ls hl => ?_)
  refine lv_iconst (v := 0) hx hb dX4_ofKind_2 (by decide) ?_
  refine lv_istore_n (lv' := [(3, .int 0), (2, .int 0), (0, .ref (ad 0)), (1, .int x1)]) hx hb dX4_ofKind_3 rfl hl (by decide) rfl (fun ls hl => ?_)
  exact w4_ofKind_b4 hI C0 S FU x1 0 0 hf H locs ls hP hS (lv_sub hl [2, 3, 1, 0] rfl)
theorem m4_ofKind (l : Launch) (D : va_G) (K : Nat → ClassId) (ad : Nat → Nat) (hI : INJ NM ad) (S : Mem) (x1 : Int32) {r : Int32} (hf : f4_ofKind S x1 = some r) : SysI l yX4_ofKind wsX4_ofKind rm4_ofKind D NM ad (EM K ad) (KM D K) [.ref (ad 0), .int x1] S r S :=
  met_of (own := RX4) (by decide) rfl rfl (Nat.le_of_ble_eq_true rfl) (fun _ _ s _ _ _ _ ls C0 _ hP hl => w4_ofKind hI C0 S x1 hf s.heap [] ls hP va_S.rf hl)
theorem in_X4_sumOf_X4 : ∀ w ∈ wsX40, w ∈ wsX4_sumOf := fun _ h => List.mem_cons_of_mem _ (List.mem_append_right _ h)
theorem hd_X4_sumOf : yX4_sumOf.cls = RX4 ∧ yX4_sumOf.cls ≠ "java/lang/invoke/MethodHandle" ∧ yX4_sumOf.cls ≠ "java/lang/invoke/VarHandle" ∧ (parseMethodDescriptor yX4_sumOf.desc).map (fun d => d.parameters.length) = some 1 := by decide +kernel
abbrev rm4_sumOf : Room := { frames := 4, cells := 0, slots := 0, locals := 85 }
set_option maxHeartbeats 4000000 in
set_option maxRecDepth 100000 in
theorem w4_sumOf_b4 {p : Program} {l : Launch} {e : Env} {s : State} {m : MethodId} {args : Array Value} {below : List Frame} {meth : Method} {c : Code} {D : va_G} {K : Nat → ClassId} {ad : Nat → Nat} (hI : INJ NM ad) (C0 : Cx p s m args meth c RX4 wsX4_sumOf cX4_sumOf 4 (some .int) (KM D K)) (S : Mem) {r : Int32} : ∀ (n : Nat), ∀ (x1 : Int32) (x2 : Int32) (x3 : Int32), f4_sumOf_b4 S n x1 x2 x3 = some r → ∀ (H : Heap) (locs : List Loc) (ls : Array Slot), va_P D vwCl (wl NM ad (EM K ad S)) H → va_S (IW NM ad) s.heap H locs → lv_has ls 4 [(0, .ref (ad 0)), (1, .int x1), (2, .int x2), (3, .int x3)] → W p l e rm4_sumOf s m args below meth c H locs 0 0 (MQ below (va_Qi (fun (x : Int32) (u : Mem) => x = r ∧ u = S) (fun u t => va_P D vwCl (wl NM ad (EM K ad u)) t.heap) (IW NM ad)) args s 0 0 (IW NM ad)) (F0 m 4 ls []) := by
  have hx := C0.1
  have hb := C0.2.1
  have hts := C0.2.2.2.2.1
  have hown := C0.2.2.2.1
  have hKC := C0.2.2.2.2.2.2.2
  intro n
  induction n with
  | zero =>
    intro x1 x2 x3 hf
    rw [f4_sumOf_b4] at hf
    cases hf
  | succ n ih =>
    intro x1 x2 x3 hf H locs ls hP hS hl
    rw [f4_sumOf_b4] at hf
    refine lv_iload_n hx hb dX4_sumOf_4 rfl (lv_at hl 3 rfl) ?_
    refine lv_aload_n hx hb dX4_sumOf_5 rfl (lv_at hl 0 rfl) ?_
    refine x_get C0 hKC hP (by decide) (EM_0 K ad S) rfl in_X4_sumOf_X4 12 (by decide) (List.mem_of_getElem? (i := 1) rfl) rfl dX4_sumOf_6 ?_
    refine lv_icmp_ge (tgt := 27) hx hb dX4_sumOf_9 (by decide) (fun c1 => ?_) (fun c1 => ?_)
    · have hf := ite_t hf c1
      refine lv_iload_n hx hb dX4_sumOf_27 rfl (lv_at hl 2 rfl) ?_
      exact ret_i C0 hP hS (Option.some.inj hf) rfl dX4_sumOf_28
    · have hf := ite_f hf c1
      refine lv_iload_n hx hb dX4_sumOf_12 rfl (lv_at hl 2 rfl) ?_
      refine lv_aload_n hx hb dX4_sumOf_13 rfl (lv_at hl 0 rfl) ?_
      refine lv_iload_n hx hb dX4_sumOf_14 rfl (lv_at hl 3 rfl) ?_
      refine lv_iload_n hx hb dX4_sumOf_15 rfl (lv_at hl 1 rfl) ?_
      obtain ⟨v3, h2, hf⟩ := b1_some hf
      refine sys_i hS (sys_runV (As := [.int x3, .int x1]) (rest := [.int x2]) C0 KM_ok hKC hP hS (by decide) (EM_0 K ad S) rfl (m4_told l D K ad hI S x3 x1 h2) gX4_sumOf_X4_told rfl ⟨rfl, rfl⟩ hd_X4_told ⟨Nat.le_of_ble_eq_true rfl, Nat.le_of_ble_eq_true rfl⟩ hl.1 rfl (Nat.le_of_ble_eq_true rfl) dX4_sumOf_16 ⟨Nat.le_refl _, Nat.le_refl _⟩) (fun H locs hP hS => ?_)
      refine lv_iadd hx hb dX4_sumOf_19 ?_
      refine lv_topi (fun v4 ev4 => ?_)
      have hf := nm_at ev4 hf
      refine lv_istore_n (lv' := [(2, .int v4), (0, .ref (ad 0)), (1, .int x1), (3, .int x3)]) hx hb dX4_sumOf_20 rfl hl (by decide) rfl (fun ls hl => ?_)
      obtain ⟨v5, ev5⟩ : ∃ y : Int32, y = x3 + 1 := ⟨_, rfl⟩
      have hf := nm_at ev5 hf
      refine lv_iinc (v := v5) (lv' := [(3, .int v5), (2, .int v4), (0, .ref (ad 0)), (1, .int x1)]) hx hb dX4_sumOf_21 hl (k := 3) rfl (by rw [ev5]; rfl) (by decide) rfl (fun ls hl => ?_)
      refine lv_goto (tgt := 4) hx hb dX4_sumOf_24 (by decide) ?_
      exact ih x1 v4 v5 hf H locs ls hP hS (lv_sub hl [2, 3, 1, 0] rfl)
set_option maxHeartbeats 4000000 in
set_option maxRecDepth 100000 in
theorem w4_sumOf {p : Program} {l : Launch} {e : Env} {s : State} {m : MethodId} {args : Array Value} {below : List Frame} {meth : Method} {c : Code} {D : va_G} {K : Nat → ClassId} {ad : Nat → Nat} (hI : INJ NM ad) (C0 : Cx p s m args meth c RX4 wsX4_sumOf cX4_sumOf 4 (some .int) (KM D K)) (S : Mem) {r : Int32} : ∀ (x1 : Int32), f4_sumOf S x1 = some r → ∀ (H : Heap) (locs : List Loc) (ls : Array Slot), va_P D vwCl (wl NM ad (EM K ad S)) H → va_S (IW NM ad) s.heap H locs → lv_has ls 4 [(0, .ref (ad 0)), (1, .int x1)] → W p l e rm4_sumOf s m args below meth c H locs 0 0 (MQ below (va_Qi (fun (x : Int32) (u : Mem) => x = r ∧ u = S) (fun u t => va_P D vwCl (wl NM ad (EM K ad u)) t.heap) (IW NM ad)) args s 0 0 (IW NM ad)) (F0 m 0 ls []) := by
  have hx := C0.1
  have hb := C0.2.1
  have hts := C0.2.2.2.2.1
  have hown := C0.2.2.2.1
  have hKC := C0.2.2.2.2.2.2.2
  intro x1 hf H locs ls hP hS hl
  rw [f4_sumOf] at hf
  refine lv_iconst (v := 0) hx hb dX4_sumOf_0 (by decide) ?_
  refine lv_istore_n (lv' := [(2, .int 0), (0, .ref (ad 0)), (1, .int x1)]) hx hb dX4_sumOf_1 rfl hl (by decide) rfl (fun ls hl => ?_)
  refine lv_iconst (v := 0) hx hb dX4_sumOf_2 (by decide) ?_
  refine lv_istore_n (lv' := [(3, .int 0), (2, .int 0), (0, .ref (ad 0)), (1, .int x1)]) hx hb dX4_sumOf_3 rfl hl (by decide) rfl (fun ls hl => ?_)
  exact w4_sumOf_b4 hI C0 S FU x1 0 0 hf H locs ls hP hS (lv_sub hl [2, 3, 1, 0] rfl)
theorem m4_sumOf (l : Launch) (D : va_G) (K : Nat → ClassId) (ad : Nat → Nat) (hI : INJ NM ad) (S : Mem) (x1 : Int32) {r : Int32} (hf : f4_sumOf S x1 = some r) : SysI l yX4_sumOf wsX4_sumOf rm4_sumOf D NM ad (EM K ad) (KM D K) [.ref (ad 0), .int x1] S r S :=
  met_of (own := RX4) (by decide) rfl rfl (Nat.le_of_ble_eq_true rfl) (fun _ _ s _ _ _ _ ls C0 _ hP hl => w4_sumOf hI C0 S x1 hf s.heap [] ls hP va_S.rf hl)
theorem hd_X4_there : yX4_there.cls ≠ "java/lang/invoke/MethodHandle" ∧ yX4_there.cls ≠ "java/lang/invoke/VarHandle" ∧ (parseMethodDescriptor yX4_there.desc).map (fun d => d.parameters.length) = some 2 := by decide +kernel
abbrev rm4_there : Room := { frames := 0, cells := 0, slots := 0, locals := 0 }
set_option maxHeartbeats 4000000 in
set_option maxRecDepth 100000 in
theorem w4_there_b21 {p : Program} {l : Launch} {e : Env} {s : State} {m : MethodId} {args : Array Value} {below : List Frame} {meth : Method} {c : Code} {D : va_G} {K : Nat → ClassId} {ad : Nat → Nat} (hI : INJ NM ad) (C0 : Cx p s m args meth c RX4 wsX4_there cX4_there 4 (some .int) (KM D K)) (S : Mem) {r : Int32} (k4 : Nat → Nat → Int32 → Int32 → Int32 → Option Int32) (hk4 : ∀ (a0 : Nat) (a0n : Nat) (x1 : Int32) (x2 : Int32) (x3 : Int32), IM K ad a0 a0n → k4 a0 a0n x1 x2 x3 = some r → ∀ (H : Heap) (locs : List Loc) (ls : Array Slot), va_P D vwCl (wl NM ad (EM K ad S)) H → va_S (IW NM ad) s.heap H locs → lv_has ls 4 [(0, .ref (ad a0)), (1, .int x1), (2, .int x2), (3, .int x3)] → W p l e rm4_there s m args below meth c H locs 0 0 (MQ below (va_Qi (fun (x : Int32) (u : Mem) => x = r ∧ u = S) (fun u t => va_P D vwCl (wl NM ad (EM K ad u)) t.heap) (IW NM ad)) args s 0 0 (IW NM ad)) (F0 m 4 ls [])) : ∀ (a0 : Nat) (a0n : Nat) (x1 : Int32) (x3 : Int32) (t0 : Int32) (t1 : Int32), IM K ad a0 a0n → f4_there_b21 k4 S a0 a0n x1 x3 t0 t1 = some r → ∀ (H : Heap) (locs : List Loc) (ls : Array Slot), va_P D vwCl (wl NM ad (EM K ad S)) H → va_S (IW NM ad) s.heap H locs → lv_has ls 4 [(0, .ref (ad a0)), (1, .int x1), (3, .int x3)] → W p l e rm4_there s m args below meth c H locs 0 0 (MQ below (va_Qi (fun (x : Int32) (u : Mem) => x = r ∧ u = S) (fun u t => va_P D vwCl (wl NM ad (EM K ad u)) t.heap) (IW NM ad)) args s 0 0 (IW NM ad)) (F0 m 21 ls [.int t1, .int t0]) := by
  have hx := C0.1
  have hb := C0.2.1
  have hts := C0.2.2.2.2.1
  have hown := C0.2.2.2.1
  have hKC := C0.2.2.2.2.2.2.2
  intro a0 a0n x1 x3 t0 t1 ha0 hf H locs ls hP hS hl
  rw [f4_there_b21] at hf
  refine lv_iadd hx hb dX4_there_21 ?_
  refine lv_topi (fun v1 ev1 => ?_)
  have hf := nm_at ev1 hf
  refine lv_istore_n (lv' := [(2, .int v1), (0, .ref (ad a0)), (1, .int x1), (3, .int x3)]) hx hb dX4_there_22 rfl hl (by decide) rfl (fun ls hl => ?_)
  obtain ⟨v2, ev2⟩ : ∃ y : Int32, y = x3 + 1 := ⟨_, rfl⟩
  have hf := nm_at ev2 hf
  refine lv_iinc (v := v2) (lv' := [(3, .int v2), (2, .int v1), (0, .ref (ad a0)), (1, .int x1)]) hx hb dX4_there_23 hl (k := 3) rfl (by rw [ev2]; rfl) (by decide) rfl (fun ls hl => ?_)
  refine lv_goto (tgt := 4) hx hb dX4_there_26 (by decide) ?_
  exact hk4 a0 a0n x1 v1 v2 ha0 hf H locs ls hP hS (lv_sub hl [2, 3, 1, 0] rfl)
set_option maxHeartbeats 4000000 in
set_option maxRecDepth 100000 in
theorem w4_there_b4 {p : Program} {l : Launch} {e : Env} {s : State} {m : MethodId} {args : Array Value} {below : List Frame} {meth : Method} {c : Code} {D : va_G} {K : Nat → ClassId} {ad : Nat → Nat} (hI : INJ NM ad) (C0 : Cx p s m args meth c RX4 wsX4_there cX4_there 4 (some .int) (KM D K)) (S : Mem) {r : Int32} : ∀ (n : Nat), ∀ (a0 : Nat) (a0n : Nat) (x1 : Int32) (x2 : Int32) (x3 : Int32), IM K ad a0 a0n → f4_there_b4 S n a0 a0n x1 x2 x3 = some r → ∀ (H : Heap) (locs : List Loc) (ls : Array Slot), va_P D vwCl (wl NM ad (EM K ad S)) H → va_S (IW NM ad) s.heap H locs → lv_has ls 4 [(0, .ref (ad a0)), (1, .int x1), (2, .int x2), (3, .int x3)] → W p l e rm4_there s m args below meth c H locs 0 0 (MQ below (va_Qi (fun (x : Int32) (u : Mem) => x = r ∧ u = S) (fun u t => va_P D vwCl (wl NM ad (EM K ad u)) t.heap) (IW NM ad)) args s 0 0 (IW NM ad)) (F0 m 4 ls []) := by
  have hx := C0.1
  have hb := C0.2.1
  have hts := C0.2.2.2.2.1
  have hown := C0.2.2.2.1
  have hKC := C0.2.2.2.2.2.2.2
  intro n
  induction n with
  | zero =>
    intro a0 a0n x1 x2 x3 ha0 hf
    rw [f4_there_b4] at hf
    cases hf
  | succ n ih =>
    intro a0 a0n x1 x2 x3 ha0 hf H locs ls hP hS hl
    rw [f4_there_b4] at hf
    refine lv_iload_n hx hb dX4_there_4 rfl (lv_at hl 3 rfl) ?_
    refine lv_iload_n hx hb dX4_there_5 rfl (lv_at hl 1 rfl) ?_
    refine lv_icmp_ge (tgt := 29) hx hb dX4_there_6 (by decide) (fun c1 => ?_) (fun c1 => ?_)
    · have hf := ite_t hf c1
      refine lv_iload_n hx hb dX4_there_29 rfl (lv_at hl 2 rfl) ?_
      exact ret_i C0 hP hS (Option.some.inj hf) rfl dX4_there_30
    · have hf := ite_f hf c1
      refine lv_iload_n hx hb dX4_there_9 rfl (lv_at hl 2 rfl) ?_
      refine lv_aload_n hx hb dX4_there_10 rfl (lv_at hl 0 rfl) ?_
      refine lv_iload_n hx hb dX4_there_11 rfl (lv_at hl 3 rfl) ?_
      obtain ⟨g2, hf⟩ := gd_some hf
      refine x_iald C0 hKC hP ha0 (t0 := 0) rfl g2 dX4_there_12 ?_
      refine lv_if_ge (tgt := 20) hx hb dX4_there_13 (by decide) (fun c3 => ?_) (fun c3 => ?_)
      · have hf := ite_t hf c3
        refine lv_iconst (v := 1) hx hb dX4_there_20 (by decide) ?_
        exact w4_there_b21 hI C0 S (f4_there_b4 S n) ih a0 a0n x1 x3 x2 1 ha0 hf H locs ls hP hS (lv_sub hl [0, 1, 3] rfl)
      · have hf := ite_f hf c3
        refine lv_iconst (v := 0) hx hb dX4_there_16 (by decide) ?_
        refine lv_goto (tgt := 21) hx hb dX4_there_17 (by decide) ?_
        exact w4_there_b21 hI C0 S (f4_there_b4 S n) ih a0 a0n x1 x3 x2 0 ha0 hf H locs ls hP hS (lv_sub hl [0, 1, 3] rfl)
set_option maxHeartbeats 4000000 in
set_option maxRecDepth 100000 in
theorem w4_there {p : Program} {l : Launch} {e : Env} {s : State} {m : MethodId} {args : Array Value} {below : List Frame} {meth : Method} {c : Code} {D : va_G} {K : Nat → ClassId} {ad : Nat → Nat} (hI : INJ NM ad) (C0 : Cx p s m args meth c RX4 wsX4_there cX4_there 4 (some .int) (KM D K)) (S : Mem) {r : Int32} : ∀ (a0 : Nat) (a0n : Nat) (x1 : Int32), IM K ad a0 a0n → f4_there S a0 a0n x1 = some r → ∀ (H : Heap) (locs : List Loc) (ls : Array Slot), va_P D vwCl (wl NM ad (EM K ad S)) H → va_S (IW NM ad) s.heap H locs → lv_has ls 4 [(0, .ref (ad a0)), (1, .int x1)] → W p l e rm4_there s m args below meth c H locs 0 0 (MQ below (va_Qi (fun (x : Int32) (u : Mem) => x = r ∧ u = S) (fun u t => va_P D vwCl (wl NM ad (EM K ad u)) t.heap) (IW NM ad)) args s 0 0 (IW NM ad)) (F0 m 0 ls []) := by
  have hx := C0.1
  have hb := C0.2.1
  have hts := C0.2.2.2.2.1
  have hown := C0.2.2.2.1
  have hKC := C0.2.2.2.2.2.2.2
  intro a0 a0n x1 ha0 hf H locs ls hP hS hl
  rw [f4_there] at hf
  refine lv_iconst (v := 0) hx hb dX4_there_0 (by decide) ?_
  refine lv_istore_n (lv' := [(2, .int 0), (0, .ref (ad a0)), (1, .int x1)]) hx hb dX4_there_1 rfl hl (by decide) rfl (fun ls hl => ?_)
  refine lv_iconst (v := 0) hx hb dX4_there_2 (by decide) ?_
  refine lv_istore_n (lv' := [(3, .int 0), (2, .int 0), (0, .ref (ad a0)), (1, .int x1)]) hx hb dX4_there_3 rfl hl (by decide) rfl (fun ls hl => ?_)
  exact w4_there_b4 hI C0 S FU a0 a0n x1 0 0 ha0 hf H locs ls hP hS (lv_sub hl [2, 3, 1, 0] rfl)
theorem m4_there (l : Launch) (D : va_G) (K : Nat → ClassId) (ad : Nat → Nat) (hI : INJ NM ad) (S : Mem) (a0 : Nat) (a0n : Nat) (x1 : Int32) (ha0 : IM K ad a0 a0n) {r : Int32} (hf : f4_there S a0 a0n x1 = some r) : SysI l yX4_there wsX4_there rm4_there D NM ad (EM K ad) (KM D K) [.ref (ad a0), .int x1] S r S :=
  met_of (own := RX4) (by decide) rfl rfl (Nat.le_of_ble_eq_true rfl) (fun _ _ s _ _ _ _ ls C0 _ hP hl => w4_there hI C0 S a0 a0n x1 ha0 hf s.heap [] ls hP va_S.rf hl)
theorem in_X4_count_X4 : ∀ w ∈ wsX40, w ∈ wsX4_count := fun _ h => List.mem_cons_of_mem _ (List.mem_append_right _ h)
theorem hd_X4_count : yX4_count.cls = RX4 ∧ yX4_count.cls ≠ "java/lang/invoke/MethodHandle" ∧ yX4_count.cls ≠ "java/lang/invoke/VarHandle" ∧ (parseMethodDescriptor yX4_count.desc).map (fun d => d.parameters.length) = some 1 := by decide +kernel
abbrev rm4_count : Room := { frames := 5, cells := 0, slots := 0, locals := 108 }
set_option maxHeartbeats 4000000 in
set_option maxRecDepth 100000 in
theorem w4_count {p : Program} {l : Launch} {e : Env} {s : State} {m : MethodId} {args : Array Value} {below : List Frame} {meth : Method} {c : Code} {D : va_G} {K : Nat → ClassId} {ad : Nat → Nat} (hI : INJ NM ad) (C0 : Cx p s m args meth c RX4 wsX4_count cX4_count 2 (some .int) (KM D K)) (S : Mem) {r : Int32} : ∀ (x1 : Int32), f4_count S x1 = some r → ∀ (H : Heap) (locs : List Loc) (ls : Array Slot), va_P D vwCl (wl NM ad (EM K ad S)) H → va_S (IW NM ad) s.heap H locs → lv_has ls 2 [(0, .ref (ad 0)), (1, .int x1)] → W p l e rm4_count s m args below meth c H locs 0 0 (MQ below (va_Qi (fun (x : Int32) (u : Mem) => x = r ∧ u = S) (fun u t => va_P D vwCl (wl NM ad (EM K ad u)) t.heap) (IW NM ad)) args s 0 0 (IW NM ad)) (F0 m 0 ls []) := by
  have hx := C0.1
  have hb := C0.2.1
  have hts := C0.2.2.2.2.1
  have hown := C0.2.2.2.1
  have hKC := C0.2.2.2.2.2.2.2
  intro x1 hf H locs ls hP hS hl
  rw [f4_count] at hf
  refine lv_iload_n hx hb dX4_count_0 rfl (lv_at hl 1 rfl) ?_
  by_cases c1 : x1 = 0
  · have hf := ite_t hf c1
    refine lv_tableIn (off := 63) (tgt := 64) hx hb dX4_count_1 (by rw [c1]; decide) (by rw [c1]; decide) (by rw [c1]; rfl) (by decide) ?_
    refine lv_aload_n hx hb dX4_count_64 rfl (lv_at hl 0 rfl) ?_
    refine x_get C0 hKC hP (by decide) (EM_0 K ad S) rfl in_X4_count_X4 12 (by decide) (List.mem_of_getElem? (i := 1) rfl) rfl dX4_count_65 ?_
    exact ret_i C0 hP hS (Option.some.inj hf) rfl dX4_count_68
  · have hf := ite_f hf c1
    by_cases c2 : x1 = 1
    · have hf := ite_t hf c2
      refine lv_tableIn (off := 68) (tgt := 69) hx hb dX4_count_1 (by rw [c2]; decide) (by rw [c2]; decide) (by rw [c2]; rfl) (by decide) ?_
      refine lv_aload_n hx hb dX4_count_69 rfl (lv_at hl 0 rfl) ?_
      refine x_get C0 hKC hP (by decide) (EM_0 K ad S) rfl in_X4_count_X4 16 (by decide) (List.mem_of_getElem? (i := 2) rfl) rfl dX4_count_70 ?_
      refine lv_iconst (v := 0) hx hb dX4_count_73 (by decide) ?_
      obtain ⟨g3, hf⟩ := gd_some hf
      refine x_iald C0 hKC hP (IM_11 K ad) (t0 := 0) rfl g3 dX4_count_74 ?_
      exact ret_i C0 hP hS (Option.some.inj hf) rfl dX4_count_75
    · have hf := ite_f hf c2
      by_cases c4 : x1 = 2
      · have hf := ite_t hf c4
        refine lv_tableIn (off := 75) (tgt := 76) hx hb dX4_count_1 (by rw [c4]; decide) (by rw [c4]; decide) (by rw [c4]; rfl) (by decide) ?_
        refine lv_aload_n hx hb dX4_count_76 rfl (lv_at hl 0 rfl) ?_
        refine x_get C0 hKC hP (by decide) (EM_0 K ad S) rfl in_X4_count_X4 18 (by decide) (List.mem_of_getElem? (i := 3) rfl) rfl dX4_count_77 ?_
        exact ret_i C0 hP hS (Option.some.inj hf) rfl dX4_count_80
      · have hf := ite_f hf c4
        by_cases c5 : x1 = 3
        · have hf := ite_t hf c5
          refine lv_tableIn (off := 80) (tgt := 81) hx hb dX4_count_1 (by rw [c5]; decide) (by rw [c5]; decide) (by rw [c5]; rfl) (by decide) ?_
          refine lv_aload_n hx hb dX4_count_81 rfl (lv_at hl 0 rfl) ?_
          refine x_get C0 hKC hP (by decide) (EM_0 K ad S) rfl in_X4_count_X4 16 (by decide) (List.mem_of_getElem? (i := 2) rfl) rfl dX4_count_82 ?_
          refine lv_iconst (v := 1) hx hb dX4_count_85 (by decide) ?_
          obtain ⟨g6, hf⟩ := gd_some hf
          refine x_iald C0 hKC hP (IM_11 K ad) (t0 := 0) rfl g6 dX4_count_86 ?_
          exact ret_i C0 hP hS (Option.some.inj hf) rfl dX4_count_87
        · have hf := ite_f hf c5
          by_cases c7 : x1 = 4
          · have hf := ite_t hf c7
            refine lv_tableIn (off := 87) (tgt := 88) hx hb dX4_count_1 (by rw [c7]; decide) (by rw [c7]; decide) (by rw [c7]; rfl) (by decide) ?_
            refine lv_aload_n hx hb dX4_count_88 rfl (lv_at hl 0 rfl) ?_
            refine lv_iconst (v := 3) hx hb dX4_count_89 (by decide) ?_
            obtain ⟨v9, h8, hf⟩ := b1_some hf
            refine sys_i hS (sys_runV (As := [.int 3]) (rest := []) C0 KM_ok hKC hP hS (by decide) (EM_0 K ad S) rfl (m4_sumOf l D K ad hI S 3 h8) gX4_count_X4_sumOf rfl ⟨rfl, rfl⟩ hd_X4_sumOf ⟨Nat.le_of_ble_eq_true rfl, Nat.le_of_ble_eq_true rfl⟩ hl.1 rfl (Nat.le_of_ble_eq_true rfl) dX4_count_90 ⟨Nat.le_refl _, Nat.le_refl _⟩) (fun H locs hP hS => ?_)
            exact ret_i C0 hP hS (Option.some.inj hf) rfl dX4_count_93
          · have hf := ite_f hf c7
            by_cases c10 : x1 = 5
            · have hf := ite_t hf c10
              refine lv_tableIn (off := 93) (tgt := 94) hx hb dX4_count_1 (by rw [c10]; decide) (by rw [c10]; decide) (by rw [c10]; rfl) (by decide) ?_
              refine lv_aload_n hx hb dX4_count_94 rfl (lv_at hl 0 rfl) ?_
              refine lv_bipush (v := 6) hx hb dX4_count_95 (by decide) ?_
              obtain ⟨v12, h11, hf⟩ := b1_some hf
              refine sys_i hS (sys_runV (As := [.int 6]) (rest := []) C0 KM_ok hKC hP hS (by decide) (EM_0 K ad S) rfl (m4_sumOf l D K ad hI S 6 h11) gX4_count_X4_sumOf rfl ⟨rfl, rfl⟩ hd_X4_sumOf ⟨Nat.le_of_ble_eq_true rfl, Nat.le_of_ble_eq_true rfl⟩ hl.1 rfl (Nat.le_of_ble_eq_true rfl) dX4_count_97 ⟨Nat.le_refl _, Nat.le_refl _⟩) (fun H locs hP hS => ?_)
              exact ret_i C0 hP hS (Option.some.inj hf) rfl dX4_count_100
            · have hf := ite_f hf c10
              by_cases c13 : x1 = 6
              · have hf := ite_t hf c13
                refine lv_tableIn (off := 100) (tgt := 101) hx hb dX4_count_1 (by rw [c13]; decide) (by rw [c13]; decide) (by rw [c13]; rfl) (by decide) ?_
                refine lv_aload_n hx hb dX4_count_101 rfl (lv_at hl 0 rfl) ?_
                refine lv_iconst (v := 4) hx hb dX4_count_102 (by decide) ?_
                obtain ⟨v15, h14, hf⟩ := b1_some hf
                refine sys_i hS (sys_runV (As := [.int 4]) (rest := []) C0 KM_ok hKC hP hS (by decide) (EM_0 K ad S) rfl (m4_sumOf l D K ad hI S 4 h14) gX4_count_X4_sumOf rfl ⟨rfl, rfl⟩ hd_X4_sumOf ⟨Nat.le_of_ble_eq_true rfl, Nat.le_of_ble_eq_true rfl⟩ hl.1 rfl (Nat.le_of_ble_eq_true rfl) dX4_count_103 ⟨Nat.le_refl _, Nat.le_refl _⟩) (fun H locs hP hS => ?_)
                exact ret_i C0 hP hS (Option.some.inj hf) rfl dX4_count_106
              · have hf := ite_f hf c13
                by_cases c16 : x1 = 7
                · have hf := ite_t hf c16
                  refine lv_tableIn (off := 106) (tgt := 107) hx hb dX4_count_1 (by rw [c16]; decide) (by rw [c16]; decide) (by rw [c16]; rfl) (by decide) ?_
                  refine lv_aload_n hx hb dX4_count_107 rfl (lv_at hl 0 rfl) ?_
                  refine x_get C0 hKC hP (by decide) (EM_0 K ad S) rfl in_X4_count_X4 5 (by decide) (List.mem_of_getElem? (i := 4) rfl) rfl dX4_count_108 ?_
                  refine lv_bipush (v := 6) hx hb dX4_count_111 (by decide) ?_
                  obtain ⟨v18, h17, hf⟩ := b1_some hf
                  refine sys_i hS (sys_runS (As := [.ref (ad 2), .int 6]) (rest := []) C0 KM_ok hP hS (m4_there l D K ad hI S 2 6 6 (IM_2 K ad) h17) gX4_count_X4_there rfl ⟨rfl, rfl⟩ hd_X4_there ⟨Nat.le_of_ble_eq_true rfl, Nat.le_of_ble_eq_true rfl⟩ hl.1 rfl (Nat.le_of_ble_eq_true rfl) dX4_count_113 ⟨Nat.le_refl _, Nat.le_refl _⟩) (fun H locs hP hS => ?_)
                  exact ret_i C0 hP hS (Option.some.inj hf) rfl dX4_count_116
                · have hf := ite_f hf c16
                  by_cases c19 : x1 = 8
                  · have hf := ite_t hf c19
                    refine lv_tableIn (off := 116) (tgt := 117) hx hb dX4_count_1 (by rw [c19]; decide) (by rw [c19]; decide) (by rw [c19]; rfl) (by decide) ?_
                    refine lv_aload_n hx hb dX4_count_117 rfl (lv_at hl 0 rfl) ?_
                    refine x_get C0 hKC hP (by decide) (EM_0 K ad S) rfl in_X4_count_X4 7 (by decide) (List.mem_of_getElem? (i := 5) rfl) rfl dX4_count_118 ?_
                    refine lv_iconst (v := 4) hx hb dX4_count_121 (by decide) ?_
                    obtain ⟨v21, h20, hf⟩ := b1_some hf
                    refine sys_i hS (sys_runS (As := [.ref (ad 4), .int 4]) (rest := []) C0 KM_ok hP hS (m4_there l D K ad hI S 4 4 4 (IM_4 K ad) h20) gX4_count_X4_there rfl ⟨rfl, rfl⟩ hd_X4_there ⟨Nat.le_of_ble_eq_true rfl, Nat.le_of_ble_eq_true rfl⟩ hl.1 rfl (Nat.le_of_ble_eq_true rfl) dX4_count_122 ⟨Nat.le_refl _, Nat.le_refl _⟩) (fun H locs hP hS => ?_)
                    exact ret_i C0 hP hS (Option.some.inj hf) rfl dX4_count_125
                  · have hf := ite_f hf c19
                    by_cases c22 : x1 = 9
                    · have hf := ite_t hf c22
                      refine lv_tableIn (off := 125) (tgt := 126) hx hb dX4_count_1 (by rw [c22]; decide) (by rw [c22]; decide) (by rw [c22]; rfl) (by decide) ?_
                      refine lv_aload_n hx hb dX4_count_126 rfl (lv_at hl 0 rfl) ?_
                      refine x_get C0 hKC hP (by decide) (EM_0 K ad S) rfl in_X4_count_X4 19 (by decide) (List.mem_of_getElem? (i := 6) rfl) rfl dX4_count_127 ?_
                      refine lv_iconst (v := 3) hx hb dX4_count_130 (by decide) ?_
                      obtain ⟨v24, h23, hf⟩ := b1_some hf
                      refine sys_i hS (sys_runS (As := [.ref (ad 13), .int 3]) (rest := []) C0 KM_ok hP hS (m4_there l D K ad hI S 13 3 3 (IM_13 K ad) h23) gX4_count_X4_there rfl ⟨rfl, rfl⟩ hd_X4_there ⟨Nat.le_of_ble_eq_true rfl, Nat.le_of_ble_eq_true rfl⟩ hl.1 rfl (Nat.le_of_ble_eq_true rfl) dX4_count_131 ⟨Nat.le_refl _, Nat.le_refl _⟩) (fun H locs hP hS => ?_)
                      exact ret_i C0 hP hS (Option.some.inj hf) rfl dX4_count_134
                    · have hf := ite_f hf c22
                      by_cases c25 : x1 = 10
                      · have hf := ite_t hf c25
                        refine lv_tableIn (off := 134) (tgt := 135) hx hb dX4_count_1 (by rw [c25]; decide) (by rw [c25]; decide) (by rw [c25]; rfl) (by decide) ?_
                        refine lv_aload_n hx hb dX4_count_135 rfl (lv_at hl 0 rfl) ?_
                        refine lv_iconst (v := 1) hx hb dX4_count_136 (by decide) ?_
                        obtain ⟨v27, h26, hf⟩ := b1_some hf
                        refine sys_i hS (sys_runV (As := [.int 1]) (rest := []) C0 KM_ok hKC hP hS (by decide) (EM_0 K ad S) rfl (m4_ofKind l D K ad hI S 1 h26) gX4_count_X4_ofKind rfl ⟨rfl, rfl⟩ hd_X4_ofKind ⟨Nat.le_of_ble_eq_true rfl, Nat.le_of_ble_eq_true rfl⟩ hl.1 rfl (Nat.le_of_ble_eq_true rfl) dX4_count_137 ⟨Nat.le_refl _, Nat.le_refl _⟩) (fun H locs hP hS => ?_)
                        exact ret_i C0 hP hS (Option.some.inj hf) rfl dX4_count_140
                      · have hf := ite_f hf c25
                        by_cases c28 : x1 = 11
                        · have hf := ite_t hf c28
                          refine lv_tableIn (off := 140) (tgt := 141) hx hb dX4_count_1 (by rw [c28]; decide) (by rw [c28]; decide) (by rw [c28]; rfl) (by decide) ?_
                          refine lv_aload_n hx hb dX4_count_141 rfl (lv_at hl 0 rfl) ?_
                          refine lv_iconst (v := 2) hx hb dX4_count_142 (by decide) ?_
                          obtain ⟨v30, h29, hf⟩ := b1_some hf
                          refine sys_i hS (sys_runV (As := [.int 2]) (rest := []) C0 KM_ok hKC hP hS (by decide) (EM_0 K ad S) rfl (m4_ofKind l D K ad hI S 2 h29) gX4_count_X4_ofKind rfl ⟨rfl, rfl⟩ hd_X4_ofKind ⟨Nat.le_of_ble_eq_true rfl, Nat.le_of_ble_eq_true rfl⟩ hl.1 rfl (Nat.le_of_ble_eq_true rfl) dX4_count_143 ⟨Nat.le_refl _, Nat.le_refl _⟩) (fun H locs hP hS => ?_)
                          exact ret_i C0 hP hS (Option.some.inj hf) rfl dX4_count_146
                        · have hf := ite_f hf c28
                          refine lv_tableOut (tgt := 147) hx hb dX4_count_1 (by have h0 := lv_neT (a := 0) c1 rfl; have h1 := lv_neT (a := 1) c2 rfl; have h2 := lv_neT (a := 2) c4 rfl; have h3 := lv_neT (a := 3) c5 rfl; have h4 := lv_neT (a := 4) c7 rfl; have h5 := lv_neT (a := 5) c10 rfl; have h6 := lv_neT (a := 6) c13 rfl; have h7 := lv_neT (a := 7) c16 rfl; have h8 := lv_neT (a := 8) c19 rfl; have h9 := lv_neT (a := 9) c22 rfl; have h10 := lv_neT (a := 10) c25 rfl; have h11 := lv_neT (a := 11) c28 rfl; omega) (by decide) ?_
                          refine lv_iconst (v := (-1)) hx hb dX4_count_147 (by decide) ?_
                          exact ret_i C0 hP hS (Option.some.inj hf) rfl dX4_count_148
theorem m4_count (l : Launch) (D : va_G) (K : Nat → ClassId) (ad : Nat → Nat) (hI : INJ NM ad) (S : Mem) (x1 : Int32) {r : Int32} (hf : f4_count S x1 = some r) : SysI l yX4_count wsX4_count rm4_count D NM ad (EM K ad) (KM D K) [.ref (ad 0), .int x1] S r S :=
  met_of (own := RX4) (by decide) rfl rfl (Nat.le_of_ble_eq_true rfl) (fun _ _ s _ _ _ _ ls C0 _ hP hl => w4_count hI C0 S x1 hf s.heap [] ls hP va_S.rf hl)
theorem in_X4_finding_X4 : ∀ w ∈ wsX40, w ∈ wsX4_finding := fun _ h => List.mem_cons_of_mem _ (List.mem_append_right _ h)
theorem hd_X4_finding : yX4_finding.cls = RX4 ∧ yX4_finding.cls ≠ "java/lang/invoke/MethodHandle" ∧ yX4_finding.cls ≠ "java/lang/invoke/VarHandle" ∧ (parseMethodDescriptor yX4_finding.desc).map (fun d => d.parameters.length) = some 0 := by decide +kernel
abbrev rm4_finding : Room := { frames := 0, cells := 0, slots := 0, locals := 0 }
set_option maxHeartbeats 4000000 in
set_option maxRecDepth 100000 in
theorem w4_finding {p : Program} {l : Launch} {e : Env} {s : State} {m : MethodId} {args : Array Value} {below : List Frame} {meth : Method} {c : Code} {D : va_G} {K : Nat → ClassId} {ad : Nat → Nat} (hI : INJ NM ad) (C0 : Cx p s m args meth c RX4 wsX4_finding cX4_finding 1 (some .int) (KM D K)) (S : Mem) {r : Int32} : f4_finding S = some r → ∀ (H : Heap) (locs : List Loc) (ls : Array Slot), va_P D vwCl (wl NM ad (EM K ad S)) H → va_S (IW NM ad) s.heap H locs → lv_has ls 1 [(0, .ref (ad 0))] → W p l e rm4_finding s m args below meth c H locs 0 0 (MQ below (va_Qi (fun (x : Int32) (u : Mem) => x = r ∧ u = S) (fun u t => va_P D vwCl (wl NM ad (EM K ad u)) t.heap) (IW NM ad)) args s 0 0 (IW NM ad)) (F0 m 0 ls []) := by
  have hx := C0.1
  have hb := C0.2.1
  have hts := C0.2.2.2.2.1
  have hown := C0.2.2.2.1
  have hKC := C0.2.2.2.2.2.2.2
  intro  hf H locs ls hP hS hl
  rw [f4_finding] at hf
  refine lv_aload_n hx hb dX4_finding_0 rfl (lv_at hl 0 rfl) ?_
  refine x_get C0 hKC hP (by decide) (EM_0 K ad S) rfl in_X4_finding_X4 0 (by decide) (List.mem_of_getElem? (i := 1) rfl) rfl dX4_finding_1 ?_
  exact ret_i C0 hP hS (Option.some.inj hf) rfl dX4_finding_4
theorem m4_finding (l : Launch) (D : va_G) (K : Nat → ClassId) (ad : Nat → Nat) (hI : INJ NM ad) (S : Mem) {r : Int32} (hf : f4_finding S = some r) : SysI l yX4_finding wsX4_finding rm4_finding D NM ad (EM K ad) (KM D K) [.ref (ad 0)] S r S :=
  met_of (own := RX4) (by decide) rfl rfl (Nat.le_of_ble_eq_true rfl) (fun _ _ s _ _ _ _ ls C0 _ hP hl => w4_finding hI C0 S hf s.heap [] ls hP va_S.rf hl)
theorem in_X4_findings_X4 : ∀ w ∈ wsX40, w ∈ wsX4_findings := fun _ h => List.mem_cons_of_mem _ (List.mem_append_right _ h)
theorem hd_X4_findings : yX4_findings.cls = RX4 ∧ yX4_findings.cls ≠ "java/lang/invoke/MethodHandle" ∧ yX4_findings.cls ≠ "java/lang/invoke/VarHandle" ∧ (parseMethodDescriptor yX4_findings.desc).map (fun d => d.parameters.length) = some 1 := by decide +kernel
abbrev rm4_findings : Room := { frames := 1, cells := 0, slots := 0, locals := 25 }
set_option maxHeartbeats 4000000 in
set_option maxRecDepth 100000 in
theorem w4_findings {p : Program} {l : Launch} {e : Env} {s : State} {m : MethodId} {args : Array Value} {below : List Frame} {meth : Method} {c : Code} {D : va_G} {K : Nat → ClassId} {ad : Nat → Nat} (hI : INJ NM ad) (C0 : Cx p s m args meth c RX4 wsX4_findings cX4_findings 2 (some .int) (KM D K)) (S : Mem) {r : Int32} : ∀ (x1 : Int32), f4_findings S x1 = some r → ∀ (H : Heap) (locs : List Loc) (ls : Array Slot), va_P D vwCl (wl NM ad (EM K ad S)) H → va_S (IW NM ad) s.heap H locs → lv_has ls 2 [(0, .ref (ad 0)), (1, .int x1)] → W p l e rm4_findings s m args below meth c H locs 0 0 (MQ below (va_Qi (fun (x : Int32) (u : Mem) => x = r ∧ u = S) (fun u t => va_P D vwCl (wl NM ad (EM K ad u)) t.heap) (IW NM ad)) args s 0 0 (IW NM ad)) (F0 m 0 ls []) := by
  have hx := C0.1
  have hb := C0.2.1
  have hts := C0.2.2.2.2.1
  have hown := C0.2.2.2.1
  have hKC := C0.2.2.2.2.2.2.2
  intro x1 hf H locs ls hP hS hl
  rw [f4_findings] at hf
  refine lv_iload_n hx hb dX4_findings_0 rfl (lv_at hl 1 rfl) ?_
  refine lv_i2l (v := (Int32.toInt64 x1)) hx hb dX4_findings_1 rfl ?_
  refine lv_lconst (v := 1) hx hb dX4_findings_2 (by decide) ?_
  refine lv_ldc2 (v := 5) hx hb hown (hts _ (List.mem_of_getElem? (i := 1) rfl)) dX4_findings_3 ?_
  obtain ⟨v2, h1, hf⟩ := b1_some hf
  refine sys_i hS (sys_runS (As := [.long (Int32.toInt64 x1), .long 1, .long 5]) (rest := []) C0 KM_ok hP hS (m4_in l D K ad hI S (Int32.toInt64 x1) 1 5 h1) gX4_findings_X4_in rfl ⟨rfl, rfl⟩ hd_X4_in ⟨Nat.le_of_ble_eq_true rfl, Nat.le_of_ble_eq_true rfl⟩ hl.1 rfl (Nat.le_of_ble_eq_true rfl) dX4_findings_6 ⟨Nat.le_refl _, Nat.le_refl _⟩) (fun H locs hP hS => ?_)
  refine lv_if_eq (tgt := 21) hx hb dX4_findings_9 (by decide) (fun c3 => ?_) (fun c3 => ?_)
  · have hf := ite_t hf c3
    refine lv_iconst (v := (-1)) hx hb dX4_findings_21 (by decide) ?_
    exact ret_i C0 hP hS (Option.some.inj hf) rfl dX4_findings_22
  · have hf := ite_f hf c3
    refine lv_aload_n hx hb dX4_findings_12 rfl (lv_at hl 0 rfl) ?_
    refine x_get C0 hKC hP (by decide) (EM_0 K ad S) rfl in_X4_findings_X4 1 (by decide) (List.mem_of_getElem? (i := 2) rfl) rfl dX4_findings_13 ?_
    refine lv_iload_n hx hb dX4_findings_16 rfl (lv_at hl 1 rfl) ?_
    obtain ⟨g4, hf⟩ := gd_some hf
    refine x_iald C0 hKC hP (IM_1 K ad) (t0 := 0) rfl g4 dX4_findings_17 ?_
    refine lv_goto (tgt := 22) hx hb dX4_findings_18 (by decide) ?_
    exact ret_i C0 hP hS (Option.some.inj hf) rfl dX4_findings_22
theorem m4_findings (l : Launch) (D : va_G) (K : Nat → ClassId) (ad : Nat → Nat) (hI : INJ NM ad) (S : Mem) (x1 : Int32) {r : Int32} (hf : f4_findings S x1 = some r) : SysI l yX4_findings wsX4_findings rm4_findings D NM ad (EM K ad) (KM D K) [.ref (ad 0), .int x1] S r S :=
  met_of (own := RX4) (by decide) rfl rfl (Nat.le_of_ble_eq_true rfl) (fun _ _ s _ _ _ _ ls C0 _ hP hl => w4_findings hI C0 S x1 hf s.heap [] ls hP va_S.rf hl)
theorem in_X4_digest_X4 : ∀ w ∈ wsX40, w ∈ wsX4_digest := fun _ h => List.mem_cons_of_mem _ (List.mem_append_right _ h)
theorem hd_X4_digest : yX4_digest.cls = RX4 ∧ yX4_digest.cls ≠ "java/lang/invoke/MethodHandle" ∧ yX4_digest.cls ≠ "java/lang/invoke/VarHandle" ∧ (parseMethodDescriptor yX4_digest.desc).map (fun d => d.parameters.length) = some 0 := by decide +kernel
abbrev rm4_digest : Room := { frames := 6, cells := 0, slots := 0, locals := 129 }
set_option maxHeartbeats 4000000 in
set_option maxRecDepth 100000 in
theorem w4_digest_b197 {p : Program} {l : Launch} {e : Env} {s : State} {m : MethodId} {args : Array Value} {below : List Frame} {meth : Method} {c : Code} {D : va_G} {K : Nat → ClassId} {ad : Nat → Nat} (hI : INJ NM ad) (C0 : Cx p s m args meth c RX4 wsX4_digest cX4_digest 5 (some .long) (KM D K)) (S : Mem) {r : Int64} (k175 : Int64 → Int32 → Option Int64) (hk175 : ∀ (x1 : Int64) (x3 : Int32), k175 x1 x3 = some r → ∀ (H : Heap) (locs : List Loc) (ls : Array Slot), va_P D vwCl (wl NM ad (EM K ad S)) H → va_S (IW NM ad) s.heap H locs → lv_has ls 5 [(0, .ref (ad 0)), (1, .long x1), (3, .int x3)] → W p l e rm4_digest s m args below meth c H locs 0 0 (MQ below (va_Ql (fun (x : Int64) (u : Mem) => x = r ∧ u = S) (fun u t => va_P D vwCl (wl NM ad (EM K ad u)) t.heap) (IW NM ad)) args s 0 0 (IW NM ad)) (F0 m 175 ls [])) : ∀ (n : Nat), ∀ (x1 : Int64) (x3 : Int32) (x4 : Int32), f4_digest_b197 k175 S n x1 x3 x4 = some r → ∀ (H : Heap) (locs : List Loc) (ls : Array Slot), va_P D vwCl (wl NM ad (EM K ad S)) H → va_S (IW NM ad) s.heap H locs → lv_has ls 5 [(0, .ref (ad 0)), (1, .long x1), (3, .int x3), (4, .int x4)] → W p l e rm4_digest s m args below meth c H locs 0 0 (MQ below (va_Ql (fun (x : Int64) (u : Mem) => x = r ∧ u = S) (fun u t => va_P D vwCl (wl NM ad (EM K ad u)) t.heap) (IW NM ad)) args s 0 0 (IW NM ad)) (F0 m 197 ls []) := by
  have hx := C0.1
  have hb := C0.2.1
  have hts := C0.2.2.2.2.1
  have hown := C0.2.2.2.1
  have hKC := C0.2.2.2.2.2.2.2
  intro n
  induction n with
  | zero =>
    intro x1 x3 x4 hf
    rw [f4_digest_b197] at hf
    cases hf
  | succ n ih =>
    intro x1 x3 x4 hf H locs ls hP hS hl
    rw [f4_digest_b197] at hf
    refine lv_iload hx hb dX4_digest_197 (lv_at hl 3 rfl) ?_
    refine lv_aload_n hx hb dX4_digest_199 rfl (lv_at hl 0 rfl) ?_
    refine x_get C0 hKC hP (by decide) (EM_0 K ad S) rfl in_X4_digest_X4 7 (by decide) (List.mem_of_getElem? (i := 7) rfl) rfl dX4_digest_200 ?_
    refine lv_iload_n hx hb dX4_digest_203 rfl (lv_at hl 2 rfl) ?_
    obtain ⟨g1, hf⟩ := gd_some hf
    refine x_iald C0 hKC hP (IM_4 K ad) (t0 := 0) rfl g1 dX4_digest_204 ?_
    refine lv_icmp_ge (tgt := 234) hx hb dX4_digest_205 (by decide) (fun c2 => ?_) (fun c2 => ?_)
    · have hf := ite_t hf c2
      obtain ⟨v3, ev3⟩ : ∃ y : Int32, y = x3 + 1 := ⟨_, rfl⟩
      have hf := nm_at ev3 hf
      refine lv_iinc (v := v3) (lv' := [(3, .int v3), (0, .ref (ad 0)), (1, .long x1), (4, .int x4)]) hx hb dX4_digest_234 hl (k := 2) rfl (by rw [ev3]; rfl) (by decide) rfl (fun ls hl => ?_)
      refine lv_goto (tgt := 175) hx hb dX4_digest_237 (by decide) ?_
      exact hk175 x1 v3 hf H locs ls hP hS (lv_sub hl [1, 2, 0] rfl)
    · have hf := ite_f hf c2
      refine lv_ldc2 (v := 31) hx hb hown (hts _ (List.mem_of_getElem? (i := 2) rfl)) dX4_digest_208 ?_
      refine lv_lload_n hx hb dX4_digest_211 rfl (lv_at hl 1 rfl) ?_
      refine lv_lmul hx hb dX4_digest_212 ?_
      refine lv_aload_n hx hb dX4_digest_213 rfl (lv_at hl 0 rfl) ?_
      refine x_get C0 hKC hP (by decide) (EM_0 K ad S) rfl in_X4_digest_X4 8 (by decide) (List.mem_of_getElem? (i := 8) rfl) rfl dX4_digest_214 ?_
      refine lv_bipush (v := 60) hx hb dX4_digest_217 (by decide) ?_
      refine lv_iload_n hx hb dX4_digest_219 rfl (lv_at hl 2 rfl) ?_
      refine lv_imul hx hb dX4_digest_220 ?_
      refine lv_iload hx hb dX4_digest_221 (lv_at hl 3 rfl) ?_
      refine lv_iadd hx hb dX4_digest_223 ?_
      obtain ⟨g4, hf⟩ := gd_some hf
      refine x_iald C0 hKC hP (IM_5 K ad) (t0 := 0) rfl g4 dX4_digest_224 ?_
      refine lv_i2l (v := (Int32.toInt64 (gi S 5 (ix ((60 * x3) + x4))))) hx hb dX4_digest_225 rfl ?_
      refine lv_ladd hx hb dX4_digest_226 ?_
      refine lv_topl (fun v5 ev5 => ?_)
      have hf := nm_at ev5 hf
      refine lv_lstore_n (lv' := [(1, .long v5), (0, .ref (ad 0)), (3, .int x3), (4, .int x4)]) hx hb dX4_digest_227 rfl hl (by decide) rfl (fun ls hl => ?_)
      obtain ⟨v6, ev6⟩ : ∃ y : Int32, y = x4 + 1 := ⟨_, rfl⟩
      have hf := nm_at ev6 hf
      refine lv_iinc (v := v6) (lv' := [(4, .int v6), (1, .long v5), (0, .ref (ad 0)), (3, .int x3)]) hx hb dX4_digest_228 hl (k := 3) rfl (by rw [ev6]; rfl) (by decide) rfl (fun ls hl => ?_)
      refine lv_goto (tgt := 197) hx hb dX4_digest_231 (by decide) ?_
      exact ih v5 x3 v6 hf H locs ls hP hS (lv_sub hl [2, 1, 3, 0] rfl)
set_option maxHeartbeats 4000000 in
set_option maxRecDepth 100000 in
theorem w4_digest_b175 {p : Program} {l : Launch} {e : Env} {s : State} {m : MethodId} {args : Array Value} {below : List Frame} {meth : Method} {c : Code} {D : va_G} {K : Nat → ClassId} {ad : Nat → Nat} (hI : INJ NM ad) (C0 : Cx p s m args meth c RX4 wsX4_digest cX4_digest 5 (some .long) (KM D K)) (S : Mem) {r : Int64} : ∀ (n : Nat), ∀ (x1 : Int64) (x3 : Int32), f4_digest_b175 S n x1 x3 = some r → ∀ (H : Heap) (locs : List Loc) (ls : Array Slot), va_P D vwCl (wl NM ad (EM K ad S)) H → va_S (IW NM ad) s.heap H locs → lv_has ls 5 [(0, .ref (ad 0)), (1, .long x1), (3, .int x3)] → W p l e rm4_digest s m args below meth c H locs 0 0 (MQ below (va_Ql (fun (x : Int64) (u : Mem) => x = r ∧ u = S) (fun u t => va_P D vwCl (wl NM ad (EM K ad u)) t.heap) (IW NM ad)) args s 0 0 (IW NM ad)) (F0 m 175 ls []) := by
  have hx := C0.1
  have hb := C0.2.1
  have hts := C0.2.2.2.2.1
  have hown := C0.2.2.2.1
  have hKC := C0.2.2.2.2.2.2.2
  intro n
  induction n with
  | zero =>
    intro x1 x3 hf
    rw [f4_digest_b175] at hf
    cases hf
  | succ n ih =>
    intro x1 x3 hf H locs ls hP hS hl
    rw [f4_digest_b175] at hf
    refine lv_iload_n hx hb dX4_digest_175 rfl (lv_at hl 2 rfl) ?_
    refine lv_iconst (v := 4) hx hb dX4_digest_176 (by decide) ?_
    refine lv_icmp_ge (tgt := 240) hx hb dX4_digest_177 (by decide) (fun c1 => ?_) (fun c1 => ?_)
    · have hf := ite_t hf c1
      refine lv_lload_n hx hb dX4_digest_240 rfl (lv_at hl 1 rfl) ?_
      exact ret_l C0 hP hS (Option.some.inj hf) rfl dX4_digest_241
    · have hf := ite_f hf c1
      refine lv_ldc2 (v := 31) hx hb hown (hts _ (List.mem_of_getElem? (i := 2) rfl)) dX4_digest_180 ?_
      refine lv_lload_n hx hb dX4_digest_183 rfl (lv_at hl 1 rfl) ?_
      refine lv_lmul hx hb dX4_digest_184 ?_
      refine lv_aload_n hx hb dX4_digest_185 rfl (lv_at hl 0 rfl) ?_
      refine x_get C0 hKC hP (by decide) (EM_0 K ad S) rfl in_X4_digest_X4 7 (by decide) (List.mem_of_getElem? (i := 7) rfl) rfl dX4_digest_186 ?_
      refine lv_iload_n hx hb dX4_digest_189 rfl (lv_at hl 2 rfl) ?_
      obtain ⟨g2, hf⟩ := gd_some hf
      refine x_iald C0 hKC hP (IM_4 K ad) (t0 := 0) rfl g2 dX4_digest_190 ?_
      refine lv_i2l (v := (Int32.toInt64 (gi S 4 (ix x3)))) hx hb dX4_digest_191 rfl ?_
      refine lv_ladd hx hb dX4_digest_192 ?_
      refine lv_topl (fun v3 ev3 => ?_)
      have hf := nm_at ev3 hf
      refine lv_lstore_n (lv' := [(1, .long v3), (0, .ref (ad 0)), (3, .int x3)]) hx hb dX4_digest_193 rfl hl (by decide) rfl (fun ls hl => ?_)
      refine lv_iconst (v := 0) hx hb dX4_digest_194 (by decide) ?_
      refine lv_istore (lv' := [(4, .int 0), (1, .long v3), (0, .ref (ad 0)), (3, .int x3)]) hx hb dX4_digest_195 hl (by decide) rfl (fun ls hl => ?_)
      exact w4_digest_b197 hI C0 S (f4_digest_b175 S n) ih FU v3 x3 0 hf H locs ls hP hS (lv_sub hl [2, 1, 3, 0] rfl)
set_option maxHeartbeats 4000000 in
set_option maxRecDepth 100000 in
theorem w4_digest_b130 {p : Program} {l : Launch} {e : Env} {s : State} {m : MethodId} {args : Array Value} {below : List Frame} {meth : Method} {c : Code} {D : va_G} {K : Nat → ClassId} {ad : Nat → Nat} (hI : INJ NM ad) (C0 : Cx p s m args meth c RX4 wsX4_digest cX4_digest 5 (some .long) (KM D K)) (S : Mem) {r : Int64} (k107 : Int64 → Int32 → Option Int64) (hk107 : ∀ (x1 : Int64) (x3 : Int32), k107 x1 x3 = some r → ∀ (H : Heap) (locs : List Loc) (ls : Array Slot), va_P D vwCl (wl NM ad (EM K ad S)) H → va_S (IW NM ad) s.heap H locs → lv_has ls 5 [(0, .ref (ad 0)), (1, .long x1), (3, .int x3)] → W p l e rm4_digest s m args below meth c H locs 0 0 (MQ below (va_Ql (fun (x : Int64) (u : Mem) => x = r ∧ u = S) (fun u t => va_P D vwCl (wl NM ad (EM K ad u)) t.heap) (IW NM ad)) args s 0 0 (IW NM ad)) (F0 m 107 ls [])) : ∀ (n : Nat), ∀ (x1 : Int64) (x3 : Int32) (x4 : Int32), f4_digest_b130 k107 S n x1 x3 x4 = some r → ∀ (H : Heap) (locs : List Loc) (ls : Array Slot), va_P D vwCl (wl NM ad (EM K ad S)) H → va_S (IW NM ad) s.heap H locs → lv_has ls 5 [(0, .ref (ad 0)), (1, .long x1), (3, .int x3), (4, .int x4)] → W p l e rm4_digest s m args below meth c H locs 0 0 (MQ below (va_Ql (fun (x : Int64) (u : Mem) => x = r ∧ u = S) (fun u t => va_P D vwCl (wl NM ad (EM K ad u)) t.heap) (IW NM ad)) args s 0 0 (IW NM ad)) (F0 m 130 ls []) := by
  have hx := C0.1
  have hb := C0.2.1
  have hts := C0.2.2.2.2.1
  have hown := C0.2.2.2.1
  have hKC := C0.2.2.2.2.2.2.2
  intro n
  induction n with
  | zero =>
    intro x1 x3 x4 hf
    rw [f4_digest_b130] at hf
    cases hf
  | succ n ih =>
    intro x1 x3 x4 hf H locs ls hP hS hl
    rw [f4_digest_b130] at hf
    refine lv_iload hx hb dX4_digest_130 (lv_at hl 3 rfl) ?_
    refine lv_aload_n hx hb dX4_digest_132 rfl (lv_at hl 0 rfl) ?_
    refine x_get C0 hKC hP (by decide) (EM_0 K ad S) rfl in_X4_digest_X4 5 (by decide) (List.mem_of_getElem? (i := 5) rfl) rfl dX4_digest_133 ?_
    refine lv_iload_n hx hb dX4_digest_136 rfl (lv_at hl 2 rfl) ?_
    obtain ⟨g1, hf⟩ := gd_some hf
    refine x_iald C0 hKC hP (IM_2 K ad) (t0 := 0) rfl g1 dX4_digest_137 ?_
    refine lv_icmp_ge (tgt := 167) hx hb dX4_digest_138 (by decide) (fun c2 => ?_) (fun c2 => ?_)
    · have hf := ite_t hf c2
      obtain ⟨v3, ev3⟩ : ∃ y : Int32, y = x3 + 1 := ⟨_, rfl⟩
      have hf := nm_at ev3 hf
      refine lv_iinc (v := v3) (lv' := [(3, .int v3), (0, .ref (ad 0)), (1, .long x1), (4, .int x4)]) hx hb dX4_digest_167 hl (k := 2) rfl (by rw [ev3]; rfl) (by decide) rfl (fun ls hl => ?_)
      refine lv_goto (tgt := 107) hx hb dX4_digest_170 (by decide) ?_
      exact hk107 x1 v3 hf H locs ls hP hS (lv_sub hl [1, 2, 0] rfl)
    · have hf := ite_f hf c2
      refine lv_ldc2 (v := 31) hx hb hown (hts _ (List.mem_of_getElem? (i := 2) rfl)) dX4_digest_141 ?_
      refine lv_lload_n hx hb dX4_digest_144 rfl (lv_at hl 1 rfl) ?_
      refine lv_lmul hx hb dX4_digest_145 ?_
      refine lv_aload_n hx hb dX4_digest_146 rfl (lv_at hl 0 rfl) ?_
      refine x_get C0 hKC hP (by decide) (EM_0 K ad S) rfl in_X4_digest_X4 6 (by decide) (List.mem_of_getElem? (i := 6) rfl) rfl dX4_digest_147 ?_
      refine lv_bipush (v := 40) hx hb dX4_digest_150 (by decide) ?_
      refine lv_iload_n hx hb dX4_digest_152 rfl (lv_at hl 2 rfl) ?_
      refine lv_imul hx hb dX4_digest_153 ?_
      refine lv_iload hx hb dX4_digest_154 (lv_at hl 3 rfl) ?_
      refine lv_iadd hx hb dX4_digest_156 ?_
      obtain ⟨g4, hf⟩ := gd_some hf
      refine x_iald C0 hKC hP (IM_3 K ad) (t0 := 0) rfl g4 dX4_digest_157 ?_
      refine lv_i2l (v := (Int32.toInt64 (gi S 3 (ix ((40 * x3) + x4))))) hx hb dX4_digest_158 rfl ?_
      refine lv_ladd hx hb dX4_digest_159 ?_
      refine lv_topl (fun v5 ev5 => ?_)
      have hf := nm_at ev5 hf
      refine lv_lstore_n (lv' := [(1, .long v5), (0, .ref (ad 0)), (3, .int x3), (4, .int x4)]) hx hb dX4_digest_160 rfl hl (by decide) rfl (fun ls hl => ?_)
      obtain ⟨v6, ev6⟩ : ∃ y : Int32, y = x4 + 1 := ⟨_, rfl⟩
      have hf := nm_at ev6 hf
      refine lv_iinc (v := v6) (lv' := [(4, .int v6), (1, .long v5), (0, .ref (ad 0)), (3, .int x3)]) hx hb dX4_digest_161 hl (k := 3) rfl (by rw [ev6]; rfl) (by decide) rfl (fun ls hl => ?_)
      refine lv_goto (tgt := 130) hx hb dX4_digest_164 (by decide) ?_
      exact ih v5 x3 v6 hf H locs ls hP hS (lv_sub hl [2, 1, 3, 0] rfl)
set_option maxHeartbeats 4000000 in
set_option maxRecDepth 100000 in
theorem w4_digest_b107 {p : Program} {l : Launch} {e : Env} {s : State} {m : MethodId} {args : Array Value} {below : List Frame} {meth : Method} {c : Code} {D : va_G} {K : Nat → ClassId} {ad : Nat → Nat} (hI : INJ NM ad) (C0 : Cx p s m args meth c RX4 wsX4_digest cX4_digest 5 (some .long) (KM D K)) (S : Mem) {r : Int64} : ∀ (n : Nat), ∀ (x1 : Int64) (x3 : Int32), f4_digest_b107 S n x1 x3 = some r → ∀ (H : Heap) (locs : List Loc) (ls : Array Slot), va_P D vwCl (wl NM ad (EM K ad S)) H → va_S (IW NM ad) s.heap H locs → lv_has ls 5 [(0, .ref (ad 0)), (1, .long x1), (3, .int x3)] → W p l e rm4_digest s m args below meth c H locs 0 0 (MQ below (va_Ql (fun (x : Int64) (u : Mem) => x = r ∧ u = S) (fun u t => va_P D vwCl (wl NM ad (EM K ad u)) t.heap) (IW NM ad)) args s 0 0 (IW NM ad)) (F0 m 107 ls []) := by
  have hx := C0.1
  have hb := C0.2.1
  have hts := C0.2.2.2.2.1
  have hown := C0.2.2.2.1
  have hKC := C0.2.2.2.2.2.2.2
  intro n
  induction n with
  | zero =>
    intro x1 x3 hf
    rw [f4_digest_b107] at hf
    cases hf
  | succ n ih =>
    intro x1 x3 hf H locs ls hP hS hl
    rw [f4_digest_b107] at hf
    refine lv_iload_n hx hb dX4_digest_107 rfl (lv_at hl 2 rfl) ?_
    refine lv_bipush (v := 6) hx hb dX4_digest_108 (by decide) ?_
    refine lv_icmp_ge (tgt := 173) hx hb dX4_digest_110 (by decide) (fun c1 => ?_) (fun c1 => ?_)
    · have hf := ite_t hf c1
      refine lv_iconst (v := 0) hx hb dX4_digest_173 (by decide) ?_
      refine lv_istore_n (lv' := [(3, .int 0), (0, .ref (ad 0)), (1, .long x1)]) hx hb dX4_digest_174 rfl hl (by decide) rfl (fun ls hl => ?_)
      exact w4_digest_b175 hI C0 S FU x1 0 hf H locs ls hP hS (lv_sub hl [1, 2, 0] rfl)
    · have hf := ite_f hf c1
      refine lv_ldc2 (v := 31) hx hb hown (hts _ (List.mem_of_getElem? (i := 2) rfl)) dX4_digest_113 ?_
      refine lv_lload_n hx hb dX4_digest_116 rfl (lv_at hl 1 rfl) ?_
      refine lv_lmul hx hb dX4_digest_117 ?_
      refine lv_aload_n hx hb dX4_digest_118 rfl (lv_at hl 0 rfl) ?_
      refine x_get C0 hKC hP (by decide) (EM_0 K ad S) rfl in_X4_digest_X4 5 (by decide) (List.mem_of_getElem? (i := 5) rfl) rfl dX4_digest_119 ?_
      refine lv_iload_n hx hb dX4_digest_122 rfl (lv_at hl 2 rfl) ?_
      obtain ⟨g2, hf⟩ := gd_some hf
      refine x_iald C0 hKC hP (IM_2 K ad) (t0 := 0) rfl g2 dX4_digest_123 ?_
      refine lv_i2l (v := (Int32.toInt64 (gi S 2 (ix x3)))) hx hb dX4_digest_124 rfl ?_
      refine lv_ladd hx hb dX4_digest_125 ?_
      refine lv_topl (fun v3 ev3 => ?_)
      have hf := nm_at ev3 hf
      refine lv_lstore_n (lv' := [(1, .long v3), (0, .ref (ad 0)), (3, .int x3)]) hx hb dX4_digest_126 rfl hl (by decide) rfl (fun ls hl => ?_)
      refine lv_iconst (v := 0) hx hb dX4_digest_127 (by decide) ?_
      refine lv_istore (lv' := [(4, .int 0), (1, .long v3), (0, .ref (ad 0)), (3, .int x3)]) hx hb dX4_digest_128 hl (by decide) rfl (fun ls hl => ?_)
      exact w4_digest_b130 hI C0 S (f4_digest_b107 S n) ih FU v3 x3 0 hf H locs ls hP hS (lv_sub hl [2, 1, 3, 0] rfl)
set_option maxHeartbeats 4000000 in
set_option maxRecDepth 100000 in
theorem w4_digest_b80 {p : Program} {l : Launch} {e : Env} {s : State} {m : MethodId} {args : Array Value} {below : List Frame} {meth : Method} {c : Code} {D : va_G} {K : Nat → ClassId} {ad : Nat → Nat} (hI : INJ NM ad) (C0 : Cx p s m args meth c RX4 wsX4_digest cX4_digest 5 (some .long) (KM D K)) (S : Mem) {r : Int64} : ∀ (n : Nat), ∀ (x1 : Int64) (x3 : Int32), f4_digest_b80 S n x1 x3 = some r → ∀ (H : Heap) (locs : List Loc) (ls : Array Slot), va_P D vwCl (wl NM ad (EM K ad S)) H → va_S (IW NM ad) s.heap H locs → lv_has ls 5 [(0, .ref (ad 0)), (1, .long x1), (3, .int x3)] → W p l e rm4_digest s m args below meth c H locs 0 0 (MQ below (va_Ql (fun (x : Int64) (u : Mem) => x = r ∧ u = S) (fun u t => va_P D vwCl (wl NM ad (EM K ad u)) t.heap) (IW NM ad)) args s 0 0 (IW NM ad)) (F0 m 80 ls []) := by
  have hx := C0.1
  have hb := C0.2.1
  have hts := C0.2.2.2.2.1
  have hown := C0.2.2.2.1
  have hKC := C0.2.2.2.2.2.2.2
  intro n
  induction n with
  | zero =>
    intro x1 x3 hf
    rw [f4_digest_b80] at hf
    cases hf
  | succ n ih =>
    intro x1 x3 hf H locs ls hP hS hl
    rw [f4_digest_b80] at hf
    refine lv_iload_n hx hb dX4_digest_80 rfl (lv_at hl 2 rfl) ?_
    refine lv_iconst (v := 3) hx hb dX4_digest_81 (by decide) ?_
    refine lv_icmp_ge (tgt := 105) hx hb dX4_digest_82 (by decide) (fun c1 => ?_) (fun c1 => ?_)
    · have hf := ite_t hf c1
      refine lv_iconst (v := 0) hx hb dX4_digest_105 (by decide) ?_
      refine lv_istore_n (lv' := [(3, .int 0), (0, .ref (ad 0)), (1, .long x1)]) hx hb dX4_digest_106 rfl hl (by decide) rfl (fun ls hl => ?_)
      exact w4_digest_b107 hI C0 S FU x1 0 hf H locs ls hP hS (lv_sub hl [1, 2, 0] rfl)
    · have hf := ite_f hf c1
      refine lv_ldc2 (v := 31) hx hb hown (hts _ (List.mem_of_getElem? (i := 2) rfl)) dX4_digest_85 ?_
      refine lv_lload_n hx hb dX4_digest_88 rfl (lv_at hl 1 rfl) ?_
      refine lv_lmul hx hb dX4_digest_89 ?_
      refine lv_aload_n hx hb dX4_digest_90 rfl (lv_at hl 0 rfl) ?_
      refine x_get C0 hKC hP (by decide) (EM_0 K ad S) rfl in_X4_digest_X4 19 (by decide) (List.mem_of_getElem? (i := 4) rfl) rfl dX4_digest_91 ?_
      refine lv_iload_n hx hb dX4_digest_94 rfl (lv_at hl 2 rfl) ?_
      obtain ⟨g2, hf⟩ := gd_some hf
      refine x_iald C0 hKC hP (IM_13 K ad) (t0 := 0) rfl g2 dX4_digest_95 ?_
      refine lv_i2l (v := (Int32.toInt64 (gi S 13 (ix x3)))) hx hb dX4_digest_96 rfl ?_
      refine lv_ladd hx hb dX4_digest_97 ?_
      refine lv_topl (fun v3 ev3 => ?_)
      have hf := nm_at ev3 hf
      refine lv_lstore_n (lv' := [(1, .long v3), (0, .ref (ad 0)), (3, .int x3)]) hx hb dX4_digest_98 rfl hl (by decide) rfl (fun ls hl => ?_)
      obtain ⟨v4, ev4⟩ : ∃ y : Int32, y = x3 + 1 := ⟨_, rfl⟩
      have hf := nm_at ev4 hf
      refine lv_iinc (v := v4) (lv' := [(3, .int v4), (1, .long v3), (0, .ref (ad 0))]) hx hb dX4_digest_99 hl (k := 2) rfl (by rw [ev4]; rfl) (by decide) rfl (fun ls hl => ?_)
      refine lv_goto (tgt := 80) hx hb dX4_digest_102 (by decide) ?_
      exact ih v3 v4 hf H locs ls hP hS (lv_sub hl [2, 1, 0] rfl)
set_option maxHeartbeats 4000000 in
set_option maxRecDepth 100000 in
theorem w4_digest_b44 {p : Program} {l : Launch} {e : Env} {s : State} {m : MethodId} {args : Array Value} {below : List Frame} {meth : Method} {c : Code} {D : va_G} {K : Nat → ClassId} {ad : Nat → Nat} (hI : INJ NM ad) (C0 : Cx p s m args meth c RX4 wsX4_digest cX4_digest 5 (some .long) (KM D K)) (S : Mem) {r : Int64} (k33 : Int64 → Int32 → Option Int64) (hk33 : ∀ (x1 : Int64) (x3 : Int32), k33 x1 x3 = some r → ∀ (H : Heap) (locs : List Loc) (ls : Array Slot), va_P D vwCl (wl NM ad (EM K ad S)) H → va_S (IW NM ad) s.heap H locs → lv_has ls 5 [(0, .ref (ad 0)), (1, .long x1), (3, .int x3)] → W p l e rm4_digest s m args below meth c H locs 0 0 (MQ below (va_Ql (fun (x : Int64) (u : Mem) => x = r ∧ u = S) (fun u t => va_P D vwCl (wl NM ad (EM K ad u)) t.heap) (IW NM ad)) args s 0 0 (IW NM ad)) (F0 m 33 ls [])) : ∀ (n : Nat), ∀ (x1 : Int64) (x3 : Int32) (x4 : Int32), f4_digest_b44 k33 S n x1 x3 x4 = some r → ∀ (H : Heap) (locs : List Loc) (ls : Array Slot), va_P D vwCl (wl NM ad (EM K ad S)) H → va_S (IW NM ad) s.heap H locs → lv_has ls 5 [(0, .ref (ad 0)), (1, .long x1), (3, .int x3), (4, .int x4)] → W p l e rm4_digest s m args below meth c H locs 0 0 (MQ below (va_Ql (fun (x : Int64) (u : Mem) => x = r ∧ u = S) (fun u t => va_P D vwCl (wl NM ad (EM K ad u)) t.heap) (IW NM ad)) args s 0 0 (IW NM ad)) (F0 m 44 ls []) := by
  have hx := C0.1
  have hb := C0.2.1
  have hts := C0.2.2.2.2.1
  have hown := C0.2.2.2.1
  have hKC := C0.2.2.2.2.2.2.2
  intro n
  induction n with
  | zero =>
    intro x1 x3 x4 hf
    rw [f4_digest_b44] at hf
    cases hf
  | succ n ih =>
    intro x1 x3 x4 hf H locs ls hP hS hl
    rw [f4_digest_b44] at hf
    refine lv_iload hx hb dX4_digest_44 (lv_at hl 3 rfl) ?_
    refine lv_bipush (v := 7) hx hb dX4_digest_46 (by decide) ?_
    refine lv_icmp_ge (tgt := 72) hx hb dX4_digest_48 (by decide) (fun c1 => ?_) (fun c1 => ?_)
    · have hf := ite_t hf c1
      obtain ⟨v2, ev2⟩ : ∃ y : Int32, y = x3 + 1 := ⟨_, rfl⟩
      have hf := nm_at ev2 hf
      refine lv_iinc (v := v2) (lv' := [(3, .int v2), (0, .ref (ad 0)), (1, .long x1), (4, .int x4)]) hx hb dX4_digest_72 hl (k := 2) rfl (by rw [ev2]; rfl) (by decide) rfl (fun ls hl => ?_)
      refine lv_goto (tgt := 33) hx hb dX4_digest_75 (by decide) ?_
      exact hk33 x1 v2 hf H locs ls hP hS (lv_sub hl [1, 2, 0] rfl)
    · have hf := ite_f hf c1
      refine lv_ldc2 (v := 31) hx hb hown (hts _ (List.mem_of_getElem? (i := 2) rfl)) dX4_digest_51 ?_
      refine lv_lload_n hx hb dX4_digest_54 rfl (lv_at hl 1 rfl) ?_
      refine lv_lmul hx hb dX4_digest_55 ?_
      refine lv_aload_n hx hb dX4_digest_56 rfl (lv_at hl 0 rfl) ?_
      refine lv_iload_n hx hb dX4_digest_57 rfl (lv_at hl 2 rfl) ?_
      refine lv_iload hx hb dX4_digest_58 (lv_at hl 3 rfl) ?_
      obtain ⟨v4, h3, hf⟩ := b1_some hf
      refine sys_i hS (sys_runV (As := [.int x3, .int x4]) (rest := [.long (31 * x1)]) C0 KM_ok hKC hP hS (by decide) (EM_0 K ad S) rfl (m4_told l D K ad hI S x3 x4 h3) gX4_digest_X4_told rfl ⟨rfl, rfl⟩ hd_X4_told ⟨Nat.le_of_ble_eq_true rfl, Nat.le_of_ble_eq_true rfl⟩ hl.1 rfl (Nat.le_of_ble_eq_true rfl) dX4_digest_60 ⟨Nat.le_refl _, Nat.le_refl _⟩) (fun H locs hP hS => ?_)
      refine lv_i2l (v := (Int32.toInt64 v4)) hx hb dX4_digest_63 rfl ?_
      refine lv_ladd hx hb dX4_digest_64 ?_
      refine lv_topl (fun v5 ev5 => ?_)
      have hf := nm_at ev5 hf
      refine lv_lstore_n (lv' := [(1, .long v5), (0, .ref (ad 0)), (3, .int x3), (4, .int x4)]) hx hb dX4_digest_65 rfl hl (by decide) rfl (fun ls hl => ?_)
      obtain ⟨v6, ev6⟩ : ∃ y : Int32, y = x4 + 1 := ⟨_, rfl⟩
      have hf := nm_at ev6 hf
      refine lv_iinc (v := v6) (lv' := [(4, .int v6), (1, .long v5), (0, .ref (ad 0)), (3, .int x3)]) hx hb dX4_digest_66 hl (k := 3) rfl (by rw [ev6]; rfl) (by decide) rfl (fun ls hl => ?_)
      refine lv_goto (tgt := 44) hx hb dX4_digest_69 (by decide) ?_
      exact ih v5 x3 v6 hf H locs ls hP hS (lv_sub hl [2, 1, 3, 0] rfl)
set_option maxHeartbeats 4000000 in
set_option maxRecDepth 100000 in
theorem w4_digest_b33 {p : Program} {l : Launch} {e : Env} {s : State} {m : MethodId} {args : Array Value} {below : List Frame} {meth : Method} {c : Code} {D : va_G} {K : Nat → ClassId} {ad : Nat → Nat} (hI : INJ NM ad) (C0 : Cx p s m args meth c RX4 wsX4_digest cX4_digest 5 (some .long) (KM D K)) (S : Mem) {r : Int64} : ∀ (n : Nat), ∀ (x1 : Int64) (x3 : Int32), f4_digest_b33 S n x1 x3 = some r → ∀ (H : Heap) (locs : List Loc) (ls : Array Slot), va_P D vwCl (wl NM ad (EM K ad S)) H → va_S (IW NM ad) s.heap H locs → lv_has ls 5 [(0, .ref (ad 0)), (1, .long x1), (3, .int x3)] → W p l e rm4_digest s m args below meth c H locs 0 0 (MQ below (va_Ql (fun (x : Int64) (u : Mem) => x = r ∧ u = S) (fun u t => va_P D vwCl (wl NM ad (EM K ad u)) t.heap) (IW NM ad)) args s 0 0 (IW NM ad)) (F0 m 33 ls []) := by
  have hx := C0.1
  have hb := C0.2.1
  have hts := C0.2.2.2.2.1
  have hown := C0.2.2.2.1
  have hKC := C0.2.2.2.2.2.2.2
  intro n
  induction n with
  | zero =>
    intro x1 x3 hf
    rw [f4_digest_b33] at hf
    cases hf
  | succ n ih =>
    intro x1 x3 hf H locs ls hP hS hl
    rw [f4_digest_b33] at hf
    refine lv_iload_n hx hb dX4_digest_33 rfl (lv_at hl 2 rfl) ?_
    refine lv_aload_n hx hb dX4_digest_34 rfl (lv_at hl 0 rfl) ?_
    refine x_get C0 hKC hP (by decide) (EM_0 K ad S) rfl in_X4_digest_X4 12 (by decide) (List.mem_of_getElem? (i := 3) rfl) rfl dX4_digest_35 ?_
    refine lv_icmp_ge (tgt := 78) hx hb dX4_digest_38 (by decide) (fun c1 => ?_) (fun c1 => ?_)
    · have hf := ite_t hf c1
      refine lv_iconst (v := 0) hx hb dX4_digest_78 (by decide) ?_
      refine lv_istore_n (lv' := [(3, .int 0), (0, .ref (ad 0)), (1, .long x1)]) hx hb dX4_digest_79 rfl hl (by decide) rfl (fun ls hl => ?_)
      exact w4_digest_b80 hI C0 S FU x1 0 hf H locs ls hP hS (lv_sub hl [1, 2, 0] rfl)
    · have hf := ite_f hf c1
      refine lv_iconst (v := 0) hx hb dX4_digest_41 (by decide) ?_
      refine lv_istore (lv' := [(4, .int 0), (0, .ref (ad 0)), (1, .long x1), (3, .int x3)]) hx hb dX4_digest_42 hl (by decide) rfl (fun ls hl => ?_)
      exact w4_digest_b44 hI C0 S (f4_digest_b33 S n) ih FU x1 x3 0 hf H locs ls hP hS (lv_sub hl [1, 2, 3, 0] rfl)
set_option maxHeartbeats 4000000 in
set_option maxRecDepth 100000 in
theorem w4_digest_b6 {p : Program} {l : Launch} {e : Env} {s : State} {m : MethodId} {args : Array Value} {below : List Frame} {meth : Method} {c : Code} {D : va_G} {K : Nat → ClassId} {ad : Nat → Nat} (hI : INJ NM ad) (C0 : Cx p s m args meth c RX4 wsX4_digest cX4_digest 5 (some .long) (KM D K)) (S : Mem) {r : Int64} : ∀ (n : Nat), ∀ (x1 : Int64) (x3 : Int32), f4_digest_b6 S n x1 x3 = some r → ∀ (H : Heap) (locs : List Loc) (ls : Array Slot), va_P D vwCl (wl NM ad (EM K ad S)) H → va_S (IW NM ad) s.heap H locs → lv_has ls 5 [(0, .ref (ad 0)), (1, .long x1), (3, .int x3)] → W p l e rm4_digest s m args below meth c H locs 0 0 (MQ below (va_Ql (fun (x : Int64) (u : Mem) => x = r ∧ u = S) (fun u t => va_P D vwCl (wl NM ad (EM K ad u)) t.heap) (IW NM ad)) args s 0 0 (IW NM ad)) (F0 m 6 ls []) := by
  have hx := C0.1
  have hb := C0.2.1
  have hts := C0.2.2.2.2.1
  have hown := C0.2.2.2.1
  have hKC := C0.2.2.2.2.2.2.2
  intro n
  induction n with
  | zero =>
    intro x1 x3 hf
    rw [f4_digest_b6] at hf
    cases hf
  | succ n ih =>
    intro x1 x3 hf H locs ls hP hS hl
    rw [f4_digest_b6] at hf
    refine lv_iload_n hx hb dX4_digest_6 rfl (lv_at hl 2 rfl) ?_
    refine lv_bipush (v := 12) hx hb dX4_digest_7 (by decide) ?_
    refine lv_icmp_ge (tgt := 31) hx hb dX4_digest_9 (by decide) (fun c1 => ?_) (fun c1 => ?_)
    · have hf := ite_t hf c1
      refine lv_iconst (v := 0) hx hb dX4_digest_31 (by decide) ?_
      refine lv_istore_n (lv' := [(3, .int 0), (0, .ref (ad 0)), (1, .long x1)]) hx hb dX4_digest_32 rfl hl (by decide) rfl (fun ls hl => ?_)
      exact w4_digest_b33 hI C0 S FU x1 0 hf H locs ls hP hS (lv_sub hl [1, 2, 0] rfl)
    · have hf := ite_f hf c1
      refine lv_ldc2 (v := 31) hx hb hown (hts _ (List.mem_of_getElem? (i := 2) rfl)) dX4_digest_12 ?_
      refine lv_lload_n hx hb dX4_digest_15 rfl (lv_at hl 1 rfl) ?_
      refine lv_lmul hx hb dX4_digest_16 ?_
      refine lv_aload_n hx hb dX4_digest_17 rfl (lv_at hl 0 rfl) ?_
      refine lv_iload_n hx hb dX4_digest_18 rfl (lv_at hl 2 rfl) ?_
      obtain ⟨v3, h2, hf⟩ := b1_some hf
      refine sys_i hS (sys_runV (As := [.int x3]) (rest := [.long (31 * x1)]) C0 KM_ok hKC hP hS (by decide) (EM_0 K ad S) rfl (m4_count l D K ad hI S x3 h2) gX4_digest_X4_count rfl ⟨rfl, rfl⟩ hd_X4_count ⟨Nat.le_of_ble_eq_true rfl, Nat.le_of_ble_eq_true rfl⟩ hl.1 rfl (Nat.le_of_ble_eq_true rfl) dX4_digest_19 ⟨Nat.le_refl _, Nat.le_refl _⟩) (fun H locs hP hS => ?_)
      refine lv_i2l (v := (Int32.toInt64 v3)) hx hb dX4_digest_22 rfl ?_
      refine lv_ladd hx hb dX4_digest_23 ?_
      refine lv_topl (fun v4 ev4 => ?_)
      have hf := nm_at ev4 hf
      refine lv_lstore_n (lv' := [(1, .long v4), (0, .ref (ad 0)), (3, .int x3)]) hx hb dX4_digest_24 rfl hl (by decide) rfl (fun ls hl => ?_)
      obtain ⟨v5, ev5⟩ : ∃ y : Int32, y = x3 + 1 := ⟨_, rfl⟩
      have hf := nm_at ev5 hf
      refine lv_iinc (v := v5) (lv' := [(3, .int v5), (1, .long v4), (0, .ref (ad 0))]) hx hb dX4_digest_25 hl (k := 2) rfl (by rw [ev5]; rfl) (by decide) rfl (fun ls hl => ?_)
      refine lv_goto (tgt := 6) hx hb dX4_digest_28 (by decide) ?_
      exact ih v4 v5 hf H locs ls hP hS (lv_sub hl [2, 1, 0] rfl)
set_option maxHeartbeats 4000000 in
set_option maxRecDepth 100000 in
theorem w4_digest {p : Program} {l : Launch} {e : Env} {s : State} {m : MethodId} {args : Array Value} {below : List Frame} {meth : Method} {c : Code} {D : va_G} {K : Nat → ClassId} {ad : Nat → Nat} (hI : INJ NM ad) (C0 : Cx p s m args meth c RX4 wsX4_digest cX4_digest 5 (some .long) (KM D K)) (S : Mem) {r : Int64} : f4_digest S = some r → ∀ (H : Heap) (locs : List Loc) (ls : Array Slot), va_P D vwCl (wl NM ad (EM K ad S)) H → va_S (IW NM ad) s.heap H locs → lv_has ls 5 [(0, .ref (ad 0))] → W p l e rm4_digest s m args below meth c H locs 0 0 (MQ below (va_Ql (fun (x : Int64) (u : Mem) => x = r ∧ u = S) (fun u t => va_P D vwCl (wl NM ad (EM K ad u)) t.heap) (IW NM ad)) args s 0 0 (IW NM ad)) (F0 m 0 ls []) := by
  have hx := C0.1
  have hb := C0.2.1
  have hts := C0.2.2.2.2.1
  have hown := C0.2.2.2.1
  have hKC := C0.2.2.2.2.2.2.2
  intro  hf H locs ls hP hS hl
  rw [f4_digest] at hf
  refine lv_ldc2 (v := 17) hx hb hown (hts _ (List.mem_of_getElem? (i := 1) rfl)) dX4_digest_0 ?_
  refine lv_lstore_n (lv' := [(1, .long 17), (0, .ref (ad 0))]) hx hb dX4_digest_3 rfl hl (by decide) rfl (fun ls hl => ?_)
  refine lv_iconst (v := 0) hx hb dX4_digest_4 (by decide) ?_
  refine lv_istore_n (lv' := [(3, .int 0), (1, .long 17), (0, .ref (ad 0))]) hx hb dX4_digest_5 rfl hl (by decide) rfl (fun ls hl => ?_)
  exact w4_digest_b6 hI C0 S FU 17 0 hf H locs ls hP hS (lv_sub hl [2, 1, 0] rfl)
theorem m4_digest (l : Launch) (D : va_G) (K : Nat → ClassId) (ad : Nat → Nat) (hI : INJ NM ad) (S : Mem) {r : Int64} (hf : f4_digest S = some r) : SysL l yX4_digest wsX4_digest rm4_digest D NM ad (EM K ad) (KM D K) [.ref (ad 0)] S r S :=
  met_of (own := RX4) (by decide) rfl rfl (Nat.le_of_ble_eq_true rfl) (fun _ _ s _ _ _ _ ls C0 _ hP hl => w4_digest hI C0 S hf s.heap [] ls hP va_S.rf hl)
