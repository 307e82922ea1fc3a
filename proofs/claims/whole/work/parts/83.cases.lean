/-! THE LAW: its cases -/
set_option maxHeartbeats 4000000 in
set_option maxRecDepth 100000 in
theorem l_row {p : Program} {l : Launch} {e : Env} {s : State} {m : MethodId} {args : Array Value} {below : List Frame} {meth : Method} {c : Code} {H : Heap} {locs : List Loc} {cells slots : Nat} {Q : State → Prop} {D : va_G} {K : Nat → ClassId} {tL : Nat} {aC aM : Nat → Nat} {S T : Mem} {ret : Option FieldType} {KK : State → Prop} {b L i : Nat} {xs : Nat → Int32} {ls : Array Slot} (C0 : Cx p s m args meth c RL wsL_law code 4 ret KK) (X : LX D K tL aC aM s) (I : LI D K aC aM s S T H locs) (hX : va_X b L xs s s.heap) (hbl : b < s.heap.size) (hbA : ¬ AL s b) (sc : SC i L) (hcs : cells ≤ room_1.cells ∧ slots ≤ room_1.slots) (hl : lv_has ls 4 [(3, .int (nI i)), (0, .ref b), (1, .ref (aC 0)), (2, .ref (aM 0))]) (kk : ∀ (S' T' : Mem) (H1 : Heap) (locs1 : List Loc), LI D K aC aM s S' T' H1 locs1 → W p l e room_1 s m args below meth c H1 locs1 cells slots Q (F0 m 1372 ls [])) : W p l e room_1 s m args below meth c H locs cells slots Q (F0 m 220 ls []) := by
  have hx := C0.1
  have hb := C0.2.1
  obtain ⟨R, hP, hQ, hS⟩ := I
  obtain ⟨h1, h2, h3, h4, h5⟩ := sc
  obtain ⟨r, S', T', f1, f2, R'⟩ := p_row R (xs (nI i + 1).toNatClampNeg) (xs (nI i + 2).toNatClampNeg)
  refine lv_aload_n hx hb dL_law_220 rfl (lv_at hl 2 rfl) ?_
  refine lv_aload_n hx hb dL_law_221 rfl (lv_at hl 1 rfl) ?_
  refine lv_iload_n hx hb dL_law_222 rfl (lv_at hl 0 rfl) ?_
  refine lv_iconst (v := 1) hx hb dL_law_223 (by decide) ?_
  refine lv_iadd hx hb dL_law_224 ?_
  refine va_sld hx hb hX hbl hbA hS h1 dL_law_225 ?_
  refine lv_aload_n hx hb dL_law_226 rfl (lv_at hl 1 rfl) ?_
  refine lv_iload_n hx hb dL_law_227 rfl (lv_at hl 0 rfl) ?_
  refine lv_iconst (v := 2) hx hb dL_law_228 (by decide) ?_
  refine lv_iadd hx hb dL_law_229 ?_
  refine va_sld hx hb hX hbl hbA hS h2 dL_law_230 ?_
  refine l_ci (S' := S') C0 X hP hQ hS (As := [.int (xs (nI i + 1).toNatClampNeg), .int (xs (nI i + 2).toNatClampNeg)]) (rest := []) (m3_row l D K aC tL X.1 S _ _ f1) gL_law_X3_row rfl ⟨rfl, rfl⟩ hd_X3_row ⟨(Nat.le_of_ble_eq_true rfl), (Nat.le_of_ble_eq_true rfl)⟩ hl.1 rfl (Nat.le_of_ble_eq_true rfl) dL_law_231 hcs (fun H locs hP hQ hS => ?_)
  refine lv_aload_n hx hb dL_law_234 rfl (lv_at hl 3 rfl) ?_
  refine lv_aload_n hx hb dL_law_235 rfl (lv_at hl 1 rfl) ?_
  refine lv_iload_n hx hb dL_law_236 rfl (lv_at hl 0 rfl) ?_
  refine lv_iconst (v := 1) hx hb dL_law_237 (by decide) ?_
  refine lv_iadd hx hb dL_law_238 ?_
  refine va_sld hx hb hX hbl hbA hS h1 dL_law_239 ?_
  refine lv_aload_n hx hb dL_law_240 rfl (lv_at hl 1 rfl) ?_
  refine lv_iload_n hx hb dL_law_241 rfl (lv_at hl 0 rfl) ?_
  refine lv_iconst (v := 2) hx hb dL_law_242 (by decide) ?_
  refine lv_iadd hx hb dL_law_243 ?_
  refine va_sld hx hb hX hbl hbA hS h2 dL_law_244 ?_
  refine l_mi (T' := T') C0 X hP hQ hS (As := [.int (xs (nI i + 1).toNatClampNeg), .int (xs (nI i + 2).toNatClampNeg)]) (rest := [.int r]) (m4_row l D K aM X.2.1 T _ _ f2) gL_law_X4_row rfl ⟨rfl, rfl⟩ hd_X4_row ⟨(Nat.le_of_ble_eq_true rfl), (Nat.le_of_ble_eq_true rfl)⟩ hl.1 rfl (Nat.le_of_ble_eq_true rfl) dL_law_245 hcs (fun H locs hP hQ hS => ?_)
  exact lv_icmp_eq (tgt := 1372) hx hb dL_law_248 (by decide) (fun _ => kk S' T' H locs ⟨R', hP, hQ, hS⟩) (fun c1 => absurd rfl c1)
set_option maxHeartbeats 4000000 in
set_option maxRecDepth 100000 in
theorem l_lay {p : Program} {l : Launch} {e : Env} {s : State} {m : MethodId} {args : Array Value} {below : List Frame} {meth : Method} {c : Code} {H : Heap} {locs : List Loc} {cells slots : Nat} {Q : State → Prop} {D : va_G} {K : Nat → ClassId} {tL : Nat} {aC aM : Nat → Nat} {S T : Mem} {ret : Option FieldType} {KK : State → Prop} {b L i : Nat} {xs : Nat → Int32} {ls : Array Slot} (C0 : Cx p s m args meth c RL wsL_law code 4 ret KK) (X : LX D K tL aC aM s) (I : LI D K aC aM s S T H locs) (hX : va_X b L xs s s.heap) (hbl : b < s.heap.size) (hbA : ¬ AL s b) (sc : SC i L) (hcs : cells ≤ room_1.cells ∧ slots ≤ room_1.slots) (hl : lv_has ls 4 [(3, .int (nI i)), (0, .ref b), (1, .ref (aC 0)), (2, .ref (aM 0))]) (kk : ∀ (S' T' : Mem) (H1 : Heap) (locs1 : List Loc), LI D K aC aM s S' T' H1 locs1 → W p l e room_1 s m args below meth c H1 locs1 cells slots Q (F0 m 1372 ls [])) : W p l e room_1 s m args below meth c H locs cells slots Q (F0 m 253 ls []) := by
  have hx := C0.1
  have hb := C0.2.1
  obtain ⟨R, hP, hQ, hS⟩ := I
  obtain ⟨h1, h2, h3, h4, h5⟩ := sc
  obtain ⟨r, S', T', f1, f2, R'⟩ := p_lay R (xs (nI i + 1).toNatClampNeg) (xs (nI i + 2).toNatClampNeg) (xs (nI i + 3).toNatClampNeg)
  refine lv_aload_n hx hb dL_law_253 rfl (lv_at hl 2 rfl) ?_
  refine lv_aload_n hx hb dL_law_254 rfl (lv_at hl 1 rfl) ?_
  refine lv_iload_n hx hb dL_law_255 rfl (lv_at hl 0 rfl) ?_
  refine lv_iconst (v := 1) hx hb dL_law_256 (by decide) ?_
  refine lv_iadd hx hb dL_law_257 ?_
  refine va_sld hx hb hX hbl hbA hS h1 dL_law_258 ?_
  refine lv_aload_n hx hb dL_law_259 rfl (lv_at hl 1 rfl) ?_
  refine lv_iload_n hx hb dL_law_260 rfl (lv_at hl 0 rfl) ?_
  refine lv_iconst (v := 2) hx hb dL_law_261 (by decide) ?_
  refine lv_iadd hx hb dL_law_262 ?_
  refine va_sld hx hb hX hbl hbA hS h2 dL_law_263 ?_
  refine lv_aload_n hx hb dL_law_264 rfl (lv_at hl 1 rfl) ?_
  refine lv_iload_n hx hb dL_law_265 rfl (lv_at hl 0 rfl) ?_
  refine lv_iconst (v := 3) hx hb dL_law_266 (by decide) ?_
  refine lv_iadd hx hb dL_law_267 ?_
  refine va_sld hx hb hX hbl hbA hS h3 dL_law_268 ?_
  refine l_ci (S' := S') C0 X hP hQ hS (As := [.int (xs (nI i + 1).toNatClampNeg), .int (xs (nI i + 2).toNatClampNeg), .int (xs (nI i + 3).toNatClampNeg)]) (rest := []) (m3_lay l D K aC tL X.1 S _ _ _ f1) gL_law_X3_lay rfl ⟨rfl, rfl⟩ hd_X3_lay ⟨(Nat.le_of_ble_eq_true rfl), (Nat.le_of_ble_eq_true rfl)⟩ hl.1 rfl (Nat.le_of_ble_eq_true rfl) dL_law_269 hcs (fun H locs hP hQ hS => ?_)
  refine lv_aload_n hx hb dL_law_272 rfl (lv_at hl 3 rfl) ?_
  refine lv_aload_n hx hb dL_law_273 rfl (lv_at hl 1 rfl) ?_
  refine lv_iload_n hx hb dL_law_274 rfl (lv_at hl 0 rfl) ?_
  refine lv_iconst (v := 1) hx hb dL_law_275 (by decide) ?_
  refine lv_iadd hx hb dL_law_276 ?_
  refine va_sld hx hb hX hbl hbA hS h1 dL_law_277 ?_
  refine lv_aload_n hx hb dL_law_278 rfl (lv_at hl 1 rfl) ?_
  refine lv_iload_n hx hb dL_law_279 rfl (lv_at hl 0 rfl) ?_
  refine lv_iconst (v := 2) hx hb dL_law_280 (by decide) ?_
  refine lv_iadd hx hb dL_law_281 ?_
  refine va_sld hx hb hX hbl hbA hS h2 dL_law_282 ?_
  refine lv_aload_n hx hb dL_law_283 rfl (lv_at hl 1 rfl) ?_
  refine lv_iload_n hx hb dL_law_284 rfl (lv_at hl 0 rfl) ?_
  refine lv_iconst (v := 3) hx hb dL_law_285 (by decide) ?_
  refine lv_iadd hx hb dL_law_286 ?_
  refine va_sld hx hb hX hbl hbA hS h3 dL_law_287 ?_
  refine l_mi (T' := T') C0 X hP hQ hS (As := [.int (xs (nI i + 1).toNatClampNeg), .int (xs (nI i + 2).toNatClampNeg), .int (xs (nI i + 3).toNatClampNeg)]) (rest := [.int r]) (m4_lay l D K aM X.2.1 T _ _ _ f2) gL_law_X4_lay rfl ⟨rfl, rfl⟩ hd_X4_lay ⟨(Nat.le_of_ble_eq_true rfl), (Nat.le_of_ble_eq_true rfl)⟩ hl.1 rfl (Nat.le_of_ble_eq_true rfl) dL_law_288 hcs (fun H locs hP hQ hS => ?_)
  exact lv_icmp_eq (tgt := 1372) hx hb dL_law_291 (by decide) (fun _ => kk S' T' H locs ⟨R', hP, hQ, hS⟩) (fun c1 => absurd rfl c1)
set_option maxHeartbeats 4000000 in
set_option maxRecDepth 100000 in
theorem l_at {p : Program} {l : Launch} {e : Env} {s : State} {m : MethodId} {args : Array Value} {below : List Frame} {meth : Method} {c : Code} {H : Heap} {locs : List Loc} {cells slots : Nat} {Q : State → Prop} {D : va_G} {K : Nat → ClassId} {tL : Nat} {aC aM : Nat → Nat} {S T : Mem} {ret : Option FieldType} {KK : State → Prop} {b L i : Nat} {xs : Nat → Int32} {ls : Array Slot} (C0 : Cx p s m args meth c RL wsL_law code 4 ret KK) (X : LX D K tL aC aM s) (I : LI D K aC aM s S T H locs) (hX : va_X b L xs s s.heap) (hbl : b < s.heap.size) (hbA : ¬ AL s b) (sc : SC i L) (hcs : cells ≤ room_1.cells ∧ slots ≤ room_1.slots) (hl : lv_has ls 4 [(3, .int (nI i)), (0, .ref b), (1, .ref (aC 0)), (2, .ref (aM 0))]) (kk : ∀ (S' T' : Mem) (H1 : Heap) (locs1 : List Loc), LI D K aC aM s S' T' H1 locs1 → W p l e room_1 s m args below meth c H1 locs1 cells slots Q (F0 m 1372 ls [])) : W p l e room_1 s m args below meth c H locs cells slots Q (F0 m 296 ls []) := by
  have hx := C0.1
  have hb := C0.2.1
  obtain ⟨R, hP, hQ, hS⟩ := I
  obtain ⟨h1, h2, h3, h4, h5⟩ := sc
  obtain ⟨r, S', T', f1, f2, R'⟩ := p_at R (xs (nI i + 1).toNatClampNeg) (xs (nI i + 2).toNatClampNeg)
  refine lv_aload_n hx hb dL_law_296 rfl (lv_at hl 2 rfl) ?_
  refine lv_aload_n hx hb dL_law_297 rfl (lv_at hl 1 rfl) ?_
  refine lv_iload_n hx hb dL_law_298 rfl (lv_at hl 0 rfl) ?_
  refine lv_iconst (v := 1) hx hb dL_law_299 (by decide) ?_
  refine lv_iadd hx hb dL_law_300 ?_
  refine va_sld hx hb hX hbl hbA hS h1 dL_law_301 ?_
  refine lv_aload_n hx hb dL_law_302 rfl (lv_at hl 1 rfl) ?_
  refine lv_iload_n hx hb dL_law_303 rfl (lv_at hl 0 rfl) ?_
  refine lv_iconst (v := 2) hx hb dL_law_304 (by decide) ?_
  refine lv_iadd hx hb dL_law_305 ?_
  refine va_sld hx hb hX hbl hbA hS h2 dL_law_306 ?_
  refine l_ci (S' := S') C0 X hP hQ hS (As := [.int (xs (nI i + 1).toNatClampNeg), .int (xs (nI i + 2).toNatClampNeg)]) (rest := []) (m3_at l D K aC tL X.1 S _ _ f1) gL_law_X3_at rfl ⟨rfl, rfl⟩ hd_X3_at ⟨(Nat.le_of_ble_eq_true rfl), (Nat.le_of_ble_eq_true rfl)⟩ hl.1 rfl (Nat.le_of_ble_eq_true rfl) dL_law_307 hcs (fun H locs hP hQ hS => ?_)
  refine lv_aload_n hx hb dL_law_310 rfl (lv_at hl 3 rfl) ?_
  refine lv_aload_n hx hb dL_law_311 rfl (lv_at hl 1 rfl) ?_
  refine lv_iload_n hx hb dL_law_312 rfl (lv_at hl 0 rfl) ?_
  refine lv_iconst (v := 1) hx hb dL_law_313 (by decide) ?_
  refine lv_iadd hx hb dL_law_314 ?_
  refine va_sld hx hb hX hbl hbA hS h1 dL_law_315 ?_
  refine lv_aload_n hx hb dL_law_316 rfl (lv_at hl 1 rfl) ?_
  refine lv_iload_n hx hb dL_law_317 rfl (lv_at hl 0 rfl) ?_
  refine lv_iconst (v := 2) hx hb dL_law_318 (by decide) ?_
  refine lv_iadd hx hb dL_law_319 ?_
  refine va_sld hx hb hX hbl hbA hS h2 dL_law_320 ?_
  refine l_mi (T' := T') C0 X hP hQ hS (As := [.int (xs (nI i + 1).toNatClampNeg), .int (xs (nI i + 2).toNatClampNeg)]) (rest := [.int r]) (m4_at l D K aM X.2.1 T _ _ f2) gL_law_X4_at rfl ⟨rfl, rfl⟩ hd_X4_at ⟨(Nat.le_of_ble_eq_true rfl), (Nat.le_of_ble_eq_true rfl)⟩ hl.1 rfl (Nat.le_of_ble_eq_true rfl) dL_law_321 hcs (fun H locs hP hQ hS => ?_)
  exact lv_icmp_eq (tgt := 1372) hx hb dL_law_324 (by decide) (fun _ => kk S' T' H locs ⟨R', hP, hQ, hS⟩) (fun c1 => absurd rfl c1)
set_option maxHeartbeats 4000000 in
set_option maxRecDepth 100000 in
theorem l_tear {p : Program} {l : Launch} {e : Env} {s : State} {m : MethodId} {args : Array Value} {below : List Frame} {meth : Method} {c : Code} {H : Heap} {locs : List Loc} {cells slots : Nat} {Q : State → Prop} {D : va_G} {K : Nat → ClassId} {tL : Nat} {aC aM : Nat → Nat} {S T : Mem} {ret : Option FieldType} {KK : State → Prop} {b L i : Nat} {xs : Nat → Int32} {ls : Array Slot} (C0 : Cx p s m args meth c RL wsL_law code 4 ret KK) (X : LX D K tL aC aM s) (I : LI D K aC aM s S T H locs) (hX : va_X b L xs s s.heap) (hbl : b < s.heap.size) (hbA : ¬ AL s b) (sc : SC i L) (hcs : cells ≤ room_1.cells ∧ slots ≤ room_1.slots) (hl : lv_has ls 4 [(3, .int (nI i)), (0, .ref b), (1, .ref (aC 0)), (2, .ref (aM 0))]) (kk : ∀ (S' T' : Mem) (H1 : Heap) (locs1 : List Loc), LI D K aC aM s S' T' H1 locs1 → W p l e room_1 s m args below meth c H1 locs1 cells slots Q (F0 m 1372 ls [])) : W p l e room_1 s m args below meth c H locs cells slots Q (F0 m 329 ls []) := by
  have hx := C0.1
  have hb := C0.2.1
  obtain ⟨R, hP, hQ, hS⟩ := I
  obtain ⟨h1, h2, h3, h4, h5⟩ := sc
  obtain ⟨r, S', T', f1, f2, R'⟩ := p_tear R (xs (nI i + 1).toNatClampNeg)
  refine lv_aload_n hx hb dL_law_329 rfl (lv_at hl 2 rfl) ?_
  refine lv_aload_n hx hb dL_law_330 rfl (lv_at hl 1 rfl) ?_
  refine lv_iload_n hx hb dL_law_331 rfl (lv_at hl 0 rfl) ?_
  refine lv_iconst (v := 1) hx hb dL_law_332 (by decide) ?_
  refine lv_iadd hx hb dL_law_333 ?_
  refine va_sld hx hb hX hbl hbA hS h1 dL_law_334 ?_
  refine l_ci (S' := S') C0 X hP hQ hS (As := [.int (xs (nI i + 1).toNatClampNeg)]) (rest := []) (m3_tear l D K aC tL X.1 S _ f1) gL_law_X3_tear rfl ⟨rfl, rfl⟩ hd_X3_tear ⟨(Nat.le_of_ble_eq_true rfl), (Nat.le_of_ble_eq_true rfl)⟩ hl.1 rfl (Nat.le_of_ble_eq_true rfl) dL_law_335 hcs (fun H locs hP hQ hS => ?_)
  refine lv_aload_n hx hb dL_law_338 rfl (lv_at hl 3 rfl) ?_
  refine lv_aload_n hx hb dL_law_339 rfl (lv_at hl 1 rfl) ?_
  refine lv_iload_n hx hb dL_law_340 rfl (lv_at hl 0 rfl) ?_
  refine lv_iconst (v := 1) hx hb dL_law_341 (by decide) ?_
  refine lv_iadd hx hb dL_law_342 ?_
  refine va_sld hx hb hX hbl hbA hS h1 dL_law_343 ?_
  refine l_mi (T' := T') C0 X hP hQ hS (As := [.int (xs (nI i + 1).toNatClampNeg)]) (rest := [.int r]) (m4_tear l D K aM X.2.1 T _ f2) gL_law_X4_tear rfl ⟨rfl, rfl⟩ hd_X4_tear ⟨(Nat.le_of_ble_eq_true rfl), (Nat.le_of_ble_eq_true rfl)⟩ hl.1 rfl (Nat.le_of_ble_eq_true rfl) dL_law_344 hcs (fun H locs hP hQ hS => ?_)
  exact lv_icmp_eq (tgt := 1372) hx hb dL_law_347 (by decide) (fun _ => kk S' T' H locs ⟨R', hP, hQ, hS⟩) (fun c1 => absurd rfl c1)
set_option maxHeartbeats 4000000 in
set_option maxRecDepth 100000 in
theorem l_copy {p : Program} {l : Launch} {e : Env} {s : State} {m : MethodId} {args : Array Value} {below : List Frame} {meth : Method} {c : Code} {H : Heap} {locs : List Loc} {cells slots : Nat} {Q : State → Prop} {D : va_G} {K : Nat → ClassId} {tL : Nat} {aC aM : Nat → Nat} {S T : Mem} {ret : Option FieldType} {KK : State → Prop} {b L i : Nat} {xs : Nat → Int32} {ls : Array Slot} (C0 : Cx p s m args meth c RL wsL_law code 4 ret KK) (X : LX D K tL aC aM s) (I : LI D K aC aM s S T H locs) (hX : va_X b L xs s s.heap) (hbl : b < s.heap.size) (hbA : ¬ AL s b) (sc : SC i L) (hcs : cells ≤ room_1.cells ∧ slots ≤ room_1.slots) (hl : lv_has ls 4 [(3, .int (nI i)), (0, .ref b), (1, .ref (aC 0)), (2, .ref (aM 0))]) (kk : ∀ (S' T' : Mem) (H1 : Heap) (locs1 : List Loc), LI D K aC aM s S' T' H1 locs1 → W p l e room_1 s m args below meth c H1 locs1 cells slots Q (F0 m 1372 ls [])) : W p l e room_1 s m args below meth c H locs cells slots Q (F0 m 352 ls []) := by
  have hx := C0.1
  have hb := C0.2.1
  obtain ⟨R, hP, hQ, hS⟩ := I
  obtain ⟨h1, h2, h3, h4, h5⟩ := sc
  obtain ⟨r, S', T', f1, f2, R'⟩ := p_copy R (xs (nI i + 1).toNatClampNeg) (xs (nI i + 2).toNatClampNeg) (xs (nI i + 3).toNatClampNeg) (xs (nI i + 4).toNatClampNeg) (xs (nI i + 5).toNatClampNeg)
  refine lv_aload_n hx hb dL_law_352 rfl (lv_at hl 2 rfl) ?_
  refine lv_aload_n hx hb dL_law_353 rfl (lv_at hl 1 rfl) ?_
  refine lv_iload_n hx hb dL_law_354 rfl (lv_at hl 0 rfl) ?_
  refine lv_iconst (v := 1) hx hb dL_law_355 (by decide) ?_
  refine lv_iadd hx hb dL_law_356 ?_
  refine va_sld hx hb hX hbl hbA hS h1 dL_law_357 ?_
  refine lv_aload_n hx hb dL_law_358 rfl (lv_at hl 1 rfl) ?_
  refine lv_iload_n hx hb dL_law_359 rfl (lv_at hl 0 rfl) ?_
  refine lv_iconst (v := 2) hx hb dL_law_360 (by decide) ?_
  refine lv_iadd hx hb dL_law_361 ?_
  refine va_sld hx hb hX hbl hbA hS h2 dL_law_362 ?_
  refine lv_aload_n hx hb dL_law_363 rfl (lv_at hl 1 rfl) ?_
  refine lv_iload_n hx hb dL_law_364 rfl (lv_at hl 0 rfl) ?_
  refine lv_iconst (v := 3) hx hb dL_law_365 (by decide) ?_
  refine lv_iadd hx hb dL_law_366 ?_
  refine va_sld hx hb hX hbl hbA hS h3 dL_law_367 ?_
  refine lv_aload_n hx hb dL_law_368 rfl (lv_at hl 1 rfl) ?_
  refine lv_iload_n hx hb dL_law_369 rfl (lv_at hl 0 rfl) ?_
  refine lv_iconst (v := 4) hx hb dL_law_370 (by decide) ?_
  refine lv_iadd hx hb dL_law_371 ?_
  refine va_sld hx hb hX hbl hbA hS h4 dL_law_372 ?_
  refine lv_aload_n hx hb dL_law_373 rfl (lv_at hl 1 rfl) ?_
  refine lv_iload_n hx hb dL_law_374 rfl (lv_at hl 0 rfl) ?_
  refine lv_iconst (v := 5) hx hb dL_law_375 (by decide) ?_
  refine lv_iadd hx hb dL_law_376 ?_
  refine va_sld hx hb hX hbl hbA hS h5 dL_law_377 ?_
  refine l_ci (S' := S') C0 X hP hQ hS (As := [.int (xs (nI i + 1).toNatClampNeg), .int (xs (nI i + 2).toNatClampNeg), .int (xs (nI i + 3).toNatClampNeg), .int (xs (nI i + 4).toNatClampNeg), .int (xs (nI i + 5).toNatClampNeg)]) (rest := []) (m3_copy l D K aC tL X.1 S _ _ _ _ _ f1) gL_law_X3_copy rfl ⟨rfl, rfl⟩ hd_X3_copy ⟨(Nat.le_of_ble_eq_true rfl), (Nat.le_of_ble_eq_true rfl)⟩ hl.1 rfl (Nat.le_of_ble_eq_true rfl) dL_law_378 hcs (fun H locs hP hQ hS => ?_)
  refine lv_aload_n hx hb dL_law_381 rfl (lv_at hl 3 rfl) ?_
  refine lv_aload_n hx hb dL_law_382 rfl (lv_at hl 1 rfl) ?_
  refine lv_iload_n hx hb dL_law_383 rfl (lv_at hl 0 rfl) ?_
  refine lv_iconst (v := 1) hx hb dL_law_384 (by decide) ?_
  refine lv_iadd hx hb dL_law_385 ?_
  refine va_sld hx hb hX hbl hbA hS h1 dL_law_386 ?_
  refine lv_aload_n hx hb dL_law_387 rfl (lv_at hl 1 rfl) ?_
  refine lv_iload_n hx hb dL_law_388 rfl (lv_at hl 0 rfl) ?_
  refine lv_iconst (v := 2) hx hb dL_law_389 (by decide) ?_
  refine lv_iadd hx hb dL_law_390 ?_
  refine va_sld hx hb hX hbl hbA hS h2 dL_law_391 ?_
  refine lv_aload_n hx hb dL_law_392 rfl (lv_at hl 1 rfl) ?_
  refine lv_iload_n hx hb dL_law_393 rfl (lv_at hl 0 rfl) ?_
  refine lv_iconst (v := 3) hx hb dL_law_394 (by decide) ?_
  refine lv_iadd hx hb dL_law_395 ?_
  refine va_sld hx hb hX hbl hbA hS h3 dL_law_396 ?_
  refine lv_aload_n hx hb dL_law_397 rfl (lv_at hl 1 rfl) ?_
  refine lv_iload_n hx hb dL_law_398 rfl (lv_at hl 0 rfl) ?_
  refine lv_iconst (v := 4) hx hb dL_law_399 (by decide) ?_
  refine lv_iadd hx hb dL_law_400 ?_
  refine va_sld hx hb hX hbl hbA hS h4 dL_law_401 ?_
  refine lv_aload_n hx hb dL_law_402 rfl (lv_at hl 1 rfl) ?_
  refine lv_iload_n hx hb dL_law_403 rfl (lv_at hl 0 rfl) ?_
  refine lv_iconst (v := 5) hx hb dL_law_404 (by decide) ?_
  refine lv_iadd hx hb dL_law_405 ?_
  refine va_sld hx hb hX hbl hbA hS h5 dL_law_406 ?_
  refine l_mi (T' := T') C0 X hP hQ hS (As := [.int (xs (nI i + 1).toNatClampNeg), .int (xs (nI i + 2).toNatClampNeg), .int (xs (nI i + 3).toNatClampNeg), .int (xs (nI i + 4).toNatClampNeg), .int (xs (nI i + 5).toNatClampNeg)]) (rest := [.int r]) (m4_copy l D K aM X.2.1 T _ _ _ _ _ f2) gL_law_X4_copy rfl ⟨rfl, rfl⟩ hd_X4_copy ⟨(Nat.le_of_ble_eq_true rfl), (Nat.le_of_ble_eq_true rfl)⟩ hl.1 rfl (Nat.le_of_ble_eq_true rfl) dL_law_407 hcs (fun H locs hP hQ hS => ?_)
  exact lv_icmp_eq (tgt := 1372) hx hb dL_law_410 (by decide) (fun _ => kk S' T' H locs ⟨R', hP, hQ, hS⟩) (fun c1 => absurd rfl c1)
set_option maxHeartbeats 4000000 in
set_option maxRecDepth 100000 in
theorem l_mean {p : Program} {l : Launch} {e : Env} {s : State} {m : MethodId} {args : Array Value} {below : List Frame} {meth : Method} {c : Code} {H : Heap} {locs : List Loc} {cells slots : Nat} {Q : State → Prop} {D : va_G} {K : Nat → ClassId} {tL : Nat} {aC aM : Nat → Nat} {S T : Mem} {ret : Option FieldType} {KK : State → Prop} {b L i : Nat} {xs : Nat → Int32} {ls : Array Slot} (C0 : Cx p s m args meth c RL wsL_law code 4 ret KK) (X : LX D K tL aC aM s) (I : LI D K aC aM s S T H locs) (hX : va_X b L xs s s.heap) (hbl : b < s.heap.size) (hbA : ¬ AL s b) (sc : SC i L) (hcs : cells ≤ room_1.cells ∧ slots ≤ room_1.slots) (hl : lv_has ls 4 [(3, .int (nI i)), (0, .ref b), (1, .ref (aC 0)), (2, .ref (aM 0))]) (kk : ∀ (S' T' : Mem) (H1 : Heap) (locs1 : List Loc), LI D K aC aM s S' T' H1 locs1 → W p l e room_1 s m args below meth c H1 locs1 cells slots Q (F0 m 1372 ls [])) : W p l e room_1 s m args below meth c H locs cells slots Q (F0 m 415 ls []) := by
  have hx := C0.1
  have hb := C0.2.1
  obtain ⟨R, hP, hQ, hS⟩ := I
  obtain ⟨h1, h2, h3, h4, h5⟩ := sc
  obtain ⟨r, S', T', f1, f2, R'⟩ := p_mean R (xs (nI i + 1).toNatClampNeg)
  refine lv_aload_n hx hb dL_law_415 rfl (lv_at hl 2 rfl) ?_
  refine lv_aload_n hx hb dL_law_416 rfl (lv_at hl 1 rfl) ?_
  refine lv_iload_n hx hb dL_law_417 rfl (lv_at hl 0 rfl) ?_
  refine lv_iconst (v := 1) hx hb dL_law_418 (by decide) ?_
  refine lv_iadd hx hb dL_law_419 ?_
  refine va_sld hx hb hX hbl hbA hS h1 dL_law_420 ?_
  refine l_ci (S' := S') C0 X hP hQ hS (As := [.int (xs (nI i + 1).toNatClampNeg)]) (rest := []) (m3_mean l D K aC tL X.1 S _ f1) gL_law_X3_mean rfl ⟨rfl, rfl⟩ hd_X3_mean ⟨(Nat.le_of_ble_eq_true rfl), (Nat.le_of_ble_eq_true rfl)⟩ hl.1 rfl (Nat.le_of_ble_eq_true rfl) dL_law_421 hcs (fun H locs hP hQ hS => ?_)
  refine lv_aload_n hx hb dL_law_424 rfl (lv_at hl 3 rfl) ?_
  refine lv_aload_n hx hb dL_law_425 rfl (lv_at hl 1 rfl) ?_
  refine lv_iload_n hx hb dL_law_426 rfl (lv_at hl 0 rfl) ?_
  refine lv_iconst (v := 1) hx hb dL_law_427 (by decide) ?_
  refine lv_iadd hx hb dL_law_428 ?_
  refine va_sld hx hb hX hbl hbA hS h1 dL_law_429 ?_
  refine l_mi (T' := T') C0 X hP hQ hS (As := [.int (xs (nI i + 1).toNatClampNeg)]) (rest := [.int r]) (m4_mean l D K aM X.2.1 T _ f2) gL_law_X4_mean rfl ⟨rfl, rfl⟩ hd_X4_mean ⟨(Nat.le_of_ble_eq_true rfl), (Nat.le_of_ble_eq_true rfl)⟩ hl.1 rfl (Nat.le_of_ble_eq_true rfl) dL_law_430 hcs (fun H locs hP hQ hS => ?_)
  exact lv_icmp_eq (tgt := 1372) hx hb dL_law_433 (by decide) (fun _ => kk S' T' H locs ⟨R', hP, hQ, hS⟩) (fun c1 => absurd rfl c1)
set_option maxHeartbeats 4000000 in
set_option maxRecDepth 100000 in
theorem l_text {p : Program} {l : Launch} {e : Env} {s : State} {m : MethodId} {args : Array Value} {below : List Frame} {meth : Method} {c : Code} {H : Heap} {locs : List Loc} {cells slots : Nat} {Q : State → Prop} {D : va_G} {K : Nat → ClassId} {tL : Nat} {aC aM : Nat → Nat} {S T : Mem} {ret : Option FieldType} {KK : State → Prop} {b L i : Nat} {xs : Nat → Int32} {ls : Array Slot} (C0 : Cx p s m args meth c RL wsL_law code 4 ret KK) (X : LX D K tL aC aM s) (I : LI D K aC aM s S T H locs) (hX : va_X b L xs s s.heap) (hbl : b < s.heap.size) (hbA : ¬ AL s b) (sc : SC i L) (hcs : cells ≤ room_1.cells ∧ slots ≤ room_1.slots) (hl : lv_has ls 4 [(3, .int (nI i)), (0, .ref b), (1, .ref (aC 0)), (2, .ref (aM 0))]) (kk : ∀ (S' T' : Mem) (H1 : Heap) (locs1 : List Loc), LI D K aC aM s S' T' H1 locs1 → W p l e room_1 s m args below meth c H1 locs1 cells slots Q (F0 m 1372 ls [])) : W p l e room_1 s m args below meth c H locs cells slots Q (F0 m 438 ls []) := by
  have hx := C0.1
  have hb := C0.2.1
  obtain ⟨R, hP, hQ, hS⟩ := I
  obtain ⟨h1, h2, h3, h4, h5⟩ := sc
  obtain ⟨r, S', T', f1, f2, R'⟩ := p_text R (xs (nI i + 1).toNatClampNeg) (xs (nI i + 2).toNatClampNeg)
  refine lv_aload_n hx hb dL_law_438 rfl (lv_at hl 2 rfl) ?_
  refine lv_aload_n hx hb dL_law_439 rfl (lv_at hl 1 rfl) ?_
  refine lv_iload_n hx hb dL_law_440 rfl (lv_at hl 0 rfl) ?_
  refine lv_iconst (v := 1) hx hb dL_law_441 (by decide) ?_
  refine lv_iadd hx hb dL_law_442 ?_
  refine va_sld hx hb hX hbl hbA hS h1 dL_law_443 ?_
  refine lv_aload_n hx hb dL_law_444 rfl (lv_at hl 1 rfl) ?_
  refine lv_iload_n hx hb dL_law_445 rfl (lv_at hl 0 rfl) ?_
  refine lv_iconst (v := 2) hx hb dL_law_446 (by decide) ?_
  refine lv_iadd hx hb dL_law_447 ?_
  refine va_sld hx hb hX hbl hbA hS h2 dL_law_448 ?_
  refine l_ci (S' := S') C0 X hP hQ hS (As := [.int (xs (nI i + 1).toNatClampNeg), .int (xs (nI i + 2).toNatClampNeg)]) (rest := []) (m3_text l D K aC tL X.1 S _ _ f1) gL_law_X3_text rfl ⟨rfl, rfl⟩ hd_X3_text ⟨(Nat.le_of_ble_eq_true rfl), (Nat.le_of_ble_eq_true rfl)⟩ hl.1 rfl (Nat.le_of_ble_eq_true rfl) dL_law_449 hcs (fun H locs hP hQ hS => ?_)
  refine lv_aload_n hx hb dL_law_452 rfl (lv_at hl 3 rfl) ?_
  refine lv_aload_n hx hb dL_law_453 rfl (lv_at hl 1 rfl) ?_
  refine lv_iload_n hx hb dL_law_454 rfl (lv_at hl 0 rfl) ?_
  refine lv_iconst (v := 1) hx hb dL_law_455 (by decide) ?_
  refine lv_iadd hx hb dL_law_456 ?_
  refine va_sld hx hb hX hbl hbA hS h1 dL_law_457 ?_
  refine lv_aload_n hx hb dL_law_458 rfl (lv_at hl 1 rfl) ?_
  refine lv_iload_n hx hb dL_law_459 rfl (lv_at hl 0 rfl) ?_
  refine lv_iconst (v := 2) hx hb dL_law_460 (by decide) ?_
  refine lv_iadd hx hb dL_law_461 ?_
  refine va_sld hx hb hX hbl hbA hS h2 dL_law_462 ?_
  refine l_mi (T' := T') C0 X hP hQ hS (As := [.int (xs (nI i + 1).toNatClampNeg), .int (xs (nI i + 2).toNatClampNeg)]) (rest := [.int r]) (m4_text l D K aM X.2.1 T _ _ f2) gL_law_X4_text rfl ⟨rfl, rfl⟩ hd_X4_text ⟨(Nat.le_of_ble_eq_true rfl), (Nat.le_of_ble_eq_true rfl)⟩ hl.1 rfl (Nat.le_of_ble_eq_true rfl) dL_law_463 hcs (fun H locs hP hQ hS => ?_)
  exact lv_icmp_eq (tgt := 1372) hx hb dL_law_466 (by decide) (fun _ => kk S' T' H locs ⟨R', hP, hQ, hS⟩) (fun c1 => absurd rfl c1)
set_option maxHeartbeats 4000000 in
set_option maxRecDepth 100000 in
theorem l_put {p : Program} {l : Launch} {e : Env} {s : State} {m : MethodId} {args : Array Value} {below : List Frame} {meth : Method} {c : Code} {H : Heap} {locs : List Loc} {cells slots : Nat} {Q : State → Prop} {D : va_G} {K : Nat → ClassId} {tL : Nat} {aC aM : Nat → Nat} {S T : Mem} {ret : Option FieldType} {KK : State → Prop} {b L i : Nat} {xs : Nat → Int32} {ls : Array Slot} (C0 : Cx p s m args meth c RL wsL_law code 4 ret KK) (X : LX D K tL aC aM s) (I : LI D K aC aM s S T H locs) (hX : va_X b L xs s s.heap) (hbl : b < s.heap.size) (hbA : ¬ AL s b) (sc : SC i L) (hcs : cells ≤ room_1.cells ∧ slots ≤ room_1.slots) (hl : lv_has ls 4 [(3, .int (nI i)), (0, .ref b), (1, .ref (aC 0)), (2, .ref (aM 0))]) (kk : ∀ (S' T' : Mem) (H1 : Heap) (locs1 : List Loc), LI D K aC aM s S' T' H1 locs1 → W p l e room_1 s m args below meth c H1 locs1 cells slots Q (F0 m 1372 ls [])) : W p l e room_1 s m args below meth c H locs cells slots Q (F0 m 471 ls []) := by
  have hx := C0.1
  have hb := C0.2.1
  obtain ⟨R, hP, hQ, hS⟩ := I
  obtain ⟨h1, h2, h3, h4, h5⟩ := sc
  obtain ⟨r, S', T', f1, f2, R'⟩ := p_put R (xs (nI i + 1).toNatClampNeg) (xs (nI i + 2).toNatClampNeg) (xs (nI i + 3).toNatClampNeg)
  refine lv_aload_n hx hb dL_law_471 rfl (lv_at hl 2 rfl) ?_
  refine lv_aload_n hx hb dL_law_472 rfl (lv_at hl 1 rfl) ?_
  refine lv_iload_n hx hb dL_law_473 rfl (lv_at hl 0 rfl) ?_
  refine lv_iconst (v := 1) hx hb dL_law_474 (by decide) ?_
  refine lv_iadd hx hb dL_law_475 ?_
  refine va_sld hx hb hX hbl hbA hS h1 dL_law_476 ?_
  refine lv_aload_n hx hb dL_law_477 rfl (lv_at hl 1 rfl) ?_
  refine lv_iload_n hx hb dL_law_478 rfl (lv_at hl 0 rfl) ?_
  refine lv_iconst (v := 2) hx hb dL_law_479 (by decide) ?_
  refine lv_iadd hx hb dL_law_480 ?_
  refine va_sld hx hb hX hbl hbA hS h2 dL_law_481 ?_
  refine lv_aload_n hx hb dL_law_482 rfl (lv_at hl 1 rfl) ?_
  refine lv_iload_n hx hb dL_law_483 rfl (lv_at hl 0 rfl) ?_
  refine lv_iconst (v := 3) hx hb dL_law_484 (by decide) ?_
  refine lv_iadd hx hb dL_law_485 ?_
  refine va_sld hx hb hX hbl hbA hS h3 dL_law_486 ?_
  refine l_ci (S' := S') C0 X hP hQ hS (As := [.int (xs (nI i + 1).toNatClampNeg), .int (xs (nI i + 2).toNatClampNeg), .int (xs (nI i + 3).toNatClampNeg)]) (rest := []) (m3_put l D K aC tL X.1 S _ _ _ f1) gL_law_X3_put rfl ⟨rfl, rfl⟩ hd_X3_put ⟨(Nat.le_of_ble_eq_true rfl), (Nat.le_of_ble_eq_true rfl)⟩ hl.1 rfl (Nat.le_of_ble_eq_true rfl) dL_law_487 hcs (fun H locs hP hQ hS => ?_)
  refine lv_aload_n hx hb dL_law_490 rfl (lv_at hl 3 rfl) ?_
  refine lv_aload_n hx hb dL_law_491 rfl (lv_at hl 1 rfl) ?_
  refine lv_iload_n hx hb dL_law_492 rfl (lv_at hl 0 rfl) ?_
  refine lv_iconst (v := 1) hx hb dL_law_493 (by decide) ?_
  refine lv_iadd hx hb dL_law_494 ?_
  refine va_sld hx hb hX hbl hbA hS h1 dL_law_495 ?_
  refine lv_aload_n hx hb dL_law_496 rfl (lv_at hl 1 rfl) ?_
  refine lv_iload_n hx hb dL_law_497 rfl (lv_at hl 0 rfl) ?_
  refine lv_iconst (v := 2) hx hb dL_law_498 (by decide) ?_
  refine lv_iadd hx hb dL_law_499 ?_
  refine va_sld hx hb hX hbl hbA hS h2 dL_law_500 ?_
  refine lv_aload_n hx hb dL_law_501 rfl (lv_at hl 1 rfl) ?_
  refine lv_iload_n hx hb dL_law_502 rfl (lv_at hl 0 rfl) ?_
  refine lv_iconst (v := 3) hx hb dL_law_503 (by decide) ?_
  refine lv_iadd hx hb dL_law_504 ?_
  refine va_sld hx hb hX hbl hbA hS h3 dL_law_505 ?_
  refine l_mi (T' := T') C0 X hP hQ hS (As := [.int (xs (nI i + 1).toNatClampNeg), .int (xs (nI i + 2).toNatClampNeg), .int (xs (nI i + 3).toNatClampNeg)]) (rest := [.int r]) (m4_put l D K aM X.2.1 T _ _ _ f2) gL_law_X4_put rfl ⟨rfl, rfl⟩ hd_X4_put ⟨(Nat.le_of_ble_eq_true rfl), (Nat.le_of_ble_eq_true rfl)⟩ hl.1 rfl (Nat.le_of_ble_eq_true rfl) dL_law_506 hcs (fun H locs hP hQ hS => ?_)
  exact lv_icmp_eq (tgt := 1372) hx hb dL_law_509 (by decide) (fun _ => kk S' T' H locs ⟨R', hP, hQ, hS⟩) (fun c1 => absurd rfl c1)
set_option maxHeartbeats 4000000 in
set_option maxRecDepth 100000 in
theorem l_fault {p : Program} {l : Launch} {e : Env} {s : State} {m : MethodId} {args : Array Value} {below : List Frame} {meth : Method} {c : Code} {H : Heap} {locs : List Loc} {cells slots : Nat} {Q : State → Prop} {D : va_G} {K : Nat → ClassId} {tL : Nat} {aC aM : Nat → Nat} {S T : Mem} {ret : Option FieldType} {KK : State → Prop} {b L i : Nat} {xs : Nat → Int32} {ls : Array Slot} (C0 : Cx p s m args meth c RL wsL_law code 4 ret KK) (X : LX D K tL aC aM s) (I : LI D K aC aM s S T H locs) (hX : va_X b L xs s s.heap) (hbl : b < s.heap.size) (hbA : ¬ AL s b) (sc : SC i L) (hcs : cells ≤ room_1.cells ∧ slots ≤ room_1.slots) (hl : lv_has ls 4 [(3, .int (nI i)), (0, .ref b), (1, .ref (aC 0)), (2, .ref (aM 0))]) (kk : ∀ (S' T' : Mem) (H1 : Heap) (locs1 : List Loc), LI D K aC aM s S' T' H1 locs1 → W p l e room_1 s m args below meth c H1 locs1 cells slots Q (F0 m 1372 ls [])) : W p l e room_1 s m args below meth c H locs cells slots Q (F0 m 514 ls []) := by
  have hx := C0.1
  have hb := C0.2.1
  obtain ⟨R, hP, hQ, hS⟩ := I
  obtain ⟨h1, h2, h3, h4, h5⟩ := sc
  obtain ⟨r, S', T', f1, f2, R'⟩ := p_fault R (xs (nI i + 1).toNatClampNeg)
  refine lv_aload_n hx hb dL_law_514 rfl (lv_at hl 2 rfl) ?_
  refine lv_aload_n hx hb dL_law_515 rfl (lv_at hl 1 rfl) ?_
  refine lv_iload_n hx hb dL_law_516 rfl (lv_at hl 0 rfl) ?_
  refine lv_iconst (v := 1) hx hb dL_law_517 (by decide) ?_
  refine lv_iadd hx hb dL_law_518 ?_
  refine va_sld hx hb hX hbl hbA hS h1 dL_law_519 ?_
  refine l_ci (S' := S') C0 X hP hQ hS (As := [.int (xs (nI i + 1).toNatClampNeg)]) (rest := []) (m3_fault l D K aC tL X.1 S _ f1) gL_law_X3_fault rfl ⟨rfl, rfl⟩ hd_X3_fault ⟨(Nat.le_of_ble_eq_true rfl), (Nat.le_of_ble_eq_true rfl)⟩ hl.1 rfl (Nat.le_of_ble_eq_true rfl) dL_law_520 hcs (fun H locs hP hQ hS => ?_)
  refine lv_aload_n hx hb dL_law_523 rfl (lv_at hl 3 rfl) ?_
  refine lv_aload_n hx hb dL_law_524 rfl (lv_at hl 1 rfl) ?_
  refine lv_iload_n hx hb dL_law_525 rfl (lv_at hl 0 rfl) ?_
  refine lv_iconst (v := 1) hx hb dL_law_526 (by decide) ?_
  refine lv_iadd hx hb dL_law_527 ?_
  refine va_sld hx hb hX hbl hbA hS h1 dL_law_528 ?_
  refine l_mi (T' := T') C0 X hP hQ hS (As := [.int (xs (nI i + 1).toNatClampNeg)]) (rest := [.int r]) (m4_fault l D K aM X.2.1 T _ f2) gL_law_X4_fault rfl ⟨rfl, rfl⟩ hd_X4_fault ⟨(Nat.le_of_ble_eq_true rfl), (Nat.le_of_ble_eq_true rfl)⟩ hl.1 rfl (Nat.le_of_ble_eq_true rfl) dL_law_529 hcs (fun H locs hP hQ hS => ?_)
  exact lv_icmp_eq (tgt := 1372) hx hb dL_law_532 (by decide) (fun _ => kk S' T' H locs ⟨R', hP, hQ, hS⟩) (fun c1 => absurd rfl c1)
set_option maxHeartbeats 4000000 in
set_option maxRecDepth 100000 in
theorem l_place {p : Program} {l : Launch} {e : Env} {s : State} {m : MethodId} {args : Array Value} {below : List Frame} {meth : Method} {c : Code} {H : Heap} {locs : List Loc} {cells slots : Nat} {Q : State → Prop} {D : va_G} {K : Nat → ClassId} {tL : Nat} {aC aM : Nat → Nat} {S T : Mem} {ret : Option FieldType} {KK : State → Prop} {b L i : Nat} {xs : Nat → Int32} {ls : Array Slot} (C0 : Cx p s m args meth c RL wsL_law code 4 ret KK) (X : LX D K tL aC aM s) (I : LI D K aC aM s S T H locs) (hX : va_X b L xs s s.heap) (hbl : b < s.heap.size) (hbA : ¬ AL s b) (sc : SC i L) (hcs : cells ≤ room_1.cells ∧ slots ≤ room_1.slots) (hl : lv_has ls 4 [(3, .int (nI i)), (0, .ref b), (1, .ref (aC 0)), (2, .ref (aM 0))]) (kk : ∀ (S' T' : Mem) (H1 : Heap) (locs1 : List Loc), LI D K aC aM s S' T' H1 locs1 → W p l e room_1 s m args below meth c H1 locs1 cells slots Q (F0 m 1372 ls [])) : W p l e room_1 s m args below meth c H locs cells slots Q (F0 m 537 ls []) := by
  have hx := C0.1
  have hb := C0.2.1
  obtain ⟨R, hP, hQ, hS⟩ := I
  obtain ⟨h1, h2, h3, h4, h5⟩ := sc
  obtain ⟨r, S', T', f1, f2, R'⟩ := p_place R (xs (nI i + 1).toNatClampNeg)
  refine lv_aload_n hx hb dL_law_537 rfl (lv_at hl 2 rfl) ?_
  refine lv_aload_n hx hb dL_law_538 rfl (lv_at hl 1 rfl) ?_
  refine lv_iload_n hx hb dL_law_539 rfl (lv_at hl 0 rfl) ?_
  refine lv_iconst (v := 1) hx hb dL_law_540 (by decide) ?_
  refine lv_iadd hx hb dL_law_541 ?_
  refine va_sld hx hb hX hbl hbA hS h1 dL_law_542 ?_
  refine l_ci (S' := S') C0 X hP hQ hS (As := [.int (xs (nI i + 1).toNatClampNeg)]) (rest := []) (m3_place l D K aC tL X.1 S _ f1) gL_law_X3_place rfl ⟨rfl, rfl⟩ hd_X3_place ⟨(Nat.le_of_ble_eq_true rfl), (Nat.le_of_ble_eq_true rfl)⟩ hl.1 rfl (Nat.le_of_ble_eq_true rfl) dL_law_543 hcs (fun H locs hP hQ hS => ?_)
  refine lv_aload_n hx hb dL_law_546 rfl (lv_at hl 3 rfl) ?_
  refine lv_aload_n hx hb dL_law_547 rfl (lv_at hl 1 rfl) ?_
  refine lv_iload_n hx hb dL_law_548 rfl (lv_at hl 0 rfl) ?_
  refine lv_iconst (v := 1) hx hb dL_law_549 (by decide) ?_
  refine lv_iadd hx hb dL_law_550 ?_
  refine va_sld hx hb hX hbl hbA hS h1 dL_law_551 ?_
  refine l_mi (T' := T') C0 X hP hQ hS (As := [.int (xs (nI i + 1).toNatClampNeg)]) (rest := [.int r]) (m4_place l D K aM X.2.1 T _ f2) gL_law_X4_place rfl ⟨rfl, rfl⟩ hd_X4_place ⟨(Nat.le_of_ble_eq_true rfl), (Nat.le_of_ble_eq_true rfl)⟩ hl.1 rfl (Nat.le_of_ble_eq_true rfl) dL_law_552 hcs (fun H locs hP hQ hS => ?_)
  exact lv_icmp_eq (tgt := 1372) hx hb dL_law_555 (by decide) (fun _ => kk S' T' H locs ⟨R', hP, hQ, hS⟩) (fun c1 => absurd rfl c1)
set_option maxHeartbeats 4000000 in
set_option maxRecDepth 100000 in
theorem l_house {p : Program} {l : Launch} {e : Env} {s : State} {m : MethodId} {args : Array Value} {below : List Frame} {meth : Method} {c : Code} {H : Heap} {locs : List Loc} {cells slots : Nat} {Q : State → Prop} {D : va_G} {K : Nat → ClassId} {tL : Nat} {aC aM : Nat → Nat} {S T : Mem} {ret : Option FieldType} {KK : State → Prop} {b L i : Nat} {xs : Nat → Int32} {ls : Array Slot} (C0 : Cx p s m args meth c RL wsL_law code 4 ret KK) (X : LX D K tL aC aM s) (I : LI D K aC aM s S T H locs) (hX : va_X b L xs s s.heap) (hbl : b < s.heap.size) (hbA : ¬ AL s b) (sc : SC i L) (hcs : cells ≤ room_1.cells ∧ slots ≤ room_1.slots) (hl : lv_has ls 4 [(3, .int (nI i)), (0, .ref b), (1, .ref (aC 0)), (2, .ref (aM 0))]) (kk : ∀ (S' T' : Mem) (H1 : Heap) (locs1 : List Loc), LI D K aC aM s S' T' H1 locs1 → W p l e room_1 s m args below meth c H1 locs1 cells slots Q (F0 m 1372 ls [])) : W p l e room_1 s m args below meth c H locs cells slots Q (F0 m 560 ls []) := by
  have hx := C0.1
  have hb := C0.2.1
  obtain ⟨R, hP, hQ, hS⟩ := I
  obtain ⟨h1, h2, h3, h4, h5⟩ := sc
  obtain ⟨r, S', T', f1, f2, R'⟩ := p_house R (xs (nI i + 1).toNatClampNeg) (xs (nI i + 2).toNatClampNeg)
  refine lv_aload_n hx hb dL_law_560 rfl (lv_at hl 2 rfl) ?_
  refine lv_aload_n hx hb dL_law_561 rfl (lv_at hl 1 rfl) ?_
  refine lv_iload_n hx hb dL_law_562 rfl (lv_at hl 0 rfl) ?_
  refine lv_iconst (v := 1) hx hb dL_law_563 (by decide) ?_
  refine lv_iadd hx hb dL_law_564 ?_
  refine va_sld hx hb hX hbl hbA hS h1 dL_law_565 ?_
  refine lv_aload_n hx hb dL_law_566 rfl (lv_at hl 1 rfl) ?_
  refine lv_iload_n hx hb dL_law_567 rfl (lv_at hl 0 rfl) ?_
  refine lv_iconst (v := 2) hx hb dL_law_568 (by decide) ?_
  refine lv_iadd hx hb dL_law_569 ?_
  refine va_sld hx hb hX hbl hbA hS h2 dL_law_570 ?_
  refine l_ci (S' := S') C0 X hP hQ hS (As := [.int (xs (nI i + 1).toNatClampNeg), .int (xs (nI i + 2).toNatClampNeg)]) (rest := []) (m3_house l D K aC tL X.1 S _ _ f1) gL_law_X3_house rfl ⟨rfl, rfl⟩ hd_X3_house ⟨(Nat.le_of_ble_eq_true rfl), (Nat.le_of_ble_eq_true rfl)⟩ hl.1 rfl (Nat.le_of_ble_eq_true rfl) dL_law_571 hcs (fun H locs hP hQ hS => ?_)
  refine lv_aload_n hx hb dL_law_574 rfl (lv_at hl 3 rfl) ?_
  refine lv_aload_n hx hb dL_law_575 rfl (lv_at hl 1 rfl) ?_
  refine lv_iload_n hx hb dL_law_576 rfl (lv_at hl 0 rfl) ?_
  refine lv_iconst (v := 1) hx hb dL_law_577 (by decide) ?_
  refine lv_iadd hx hb dL_law_578 ?_
  refine va_sld hx hb hX hbl hbA hS h1 dL_law_579 ?_
  refine lv_aload_n hx hb dL_law_580 rfl (lv_at hl 1 rfl) ?_
  refine lv_iload_n hx hb dL_law_581 rfl (lv_at hl 0 rfl) ?_
  refine lv_iconst (v := 2) hx hb dL_law_582 (by decide) ?_
  refine lv_iadd hx hb dL_law_583 ?_
  refine va_sld hx hb hX hbl hbA hS h2 dL_law_584 ?_
  refine l_mi (T' := T') C0 X hP hQ hS (As := [.int (xs (nI i + 1).toNatClampNeg), .int (xs (nI i + 2).toNatClampNeg)]) (rest := [.int r]) (m4_house l D K aM X.2.1 T _ _ f2) gL_law_X4_house rfl ⟨rfl, rfl⟩ hd_X4_house ⟨(Nat.le_of_ble_eq_true rfl), (Nat.le_of_ble_eq_true rfl)⟩ hl.1 rfl (Nat.le_of_ble_eq_true rfl) dL_law_585 hcs (fun H locs hP hQ hS => ?_)
  exact lv_icmp_eq (tgt := 1372) hx hb dL_law_588 (by decide) (fun _ => kk S' T' H locs ⟨R', hP, hQ, hS⟩) (fun c1 => absurd rfl c1)
set_option maxHeartbeats 4000000 in
set_option maxRecDepth 100000 in
theorem l_mark {p : Program} {l : Launch} {e : Env} {s : State} {m : MethodId} {args : Array Value} {below : List Frame} {meth : Method} {c : Code} {H : Heap} {locs : List Loc} {cells slots : Nat} {Q : State → Prop} {D : va_G} {K : Nat → ClassId} {tL : Nat} {aC aM : Nat → Nat} {S T : Mem} {ret : Option FieldType} {KK : State → Prop} {b L i : Nat} {xs : Nat → Int32} {ls : Array Slot} (C0 : Cx p s m args meth c RL wsL_law code 4 ret KK) (X : LX D K tL aC aM s) (I : LI D K aC aM s S T H locs) (hX : va_X b L xs s s.heap) (hbl : b < s.heap.size) (hbA : ¬ AL s b) (sc : SC i L) (hcs : cells ≤ room_1.cells ∧ slots ≤ room_1.slots) (hl : lv_has ls 4 [(3, .int (nI i)), (0, .ref b), (1, .ref (aC 0)), (2, .ref (aM 0))]) (kk : ∀ (S' T' : Mem) (H1 : Heap) (locs1 : List Loc), LI D K aC aM s S' T' H1 locs1 → W p l e room_1 s m args below meth c H1 locs1 cells slots Q (F0 m 1372 ls [])) : W p l e room_1 s m args below meth c H locs cells slots Q (F0 m 593 ls []) := by
  have hx := C0.1
  have hb := C0.2.1
  obtain ⟨R, hP, hQ, hS⟩ := I
  obtain ⟨h1, h2, h3, h4, h5⟩ := sc
  obtain ⟨r, S', T', f1, f2, R'⟩ := p_mark R (xs (nI i + 1).toNatClampNeg) (xs (nI i + 2).toNatClampNeg)
  refine lv_aload_n hx hb dL_law_593 rfl (lv_at hl 2 rfl) ?_
  refine lv_aload_n hx hb dL_law_594 rfl (lv_at hl 1 rfl) ?_
  refine lv_iload_n hx hb dL_law_595 rfl (lv_at hl 0 rfl) ?_
  refine lv_iconst (v := 1) hx hb dL_law_596 (by decide) ?_
  refine lv_iadd hx hb dL_law_597 ?_
  refine va_sld hx hb hX hbl hbA hS h1 dL_law_598 ?_
  refine lv_aload_n hx hb dL_law_599 rfl (lv_at hl 1 rfl) ?_
  refine lv_iload_n hx hb dL_law_600 rfl (lv_at hl 0 rfl) ?_
  refine lv_iconst (v := 2) hx hb dL_law_601 (by decide) ?_
  refine lv_iadd hx hb dL_law_602 ?_
  refine va_sld hx hb hX hbl hbA hS h2 dL_law_603 ?_
  refine l_ci (S' := S') C0 X hP hQ hS (As := [.int (xs (nI i + 1).toNatClampNeg), .int (xs (nI i + 2).toNatClampNeg)]) (rest := []) (m3_mark l D K aC tL X.1 S _ _ f1) gL_law_X3_mark rfl ⟨rfl, rfl⟩ hd_X3_mark ⟨(Nat.le_of_ble_eq_true rfl), (Nat.le_of_ble_eq_true rfl)⟩ hl.1 rfl (Nat.le_of_ble_eq_true rfl) dL_law_604 hcs (fun H locs hP hQ hS => ?_)
  refine lv_aload_n hx hb dL_law_607 rfl (lv_at hl 3 rfl) ?_
  refine lv_aload_n hx hb dL_law_608 rfl (lv_at hl 1 rfl) ?_
  refine lv_iload_n hx hb dL_law_609 rfl (lv_at hl 0 rfl) ?_
  refine lv_iconst (v := 1) hx hb dL_law_610 (by decide) ?_
  refine lv_iadd hx hb dL_law_611 ?_
  refine va_sld hx hb hX hbl hbA hS h1 dL_law_612 ?_
  refine lv_aload_n hx hb dL_law_613 rfl (lv_at hl 1 rfl) ?_
  refine lv_iload_n hx hb dL_law_614 rfl (lv_at hl 0 rfl) ?_
  refine lv_iconst (v := 2) hx hb dL_law_615 (by decide) ?_
  refine lv_iadd hx hb dL_law_616 ?_
  refine va_sld hx hb hX hbl hbA hS h2 dL_law_617 ?_
  refine l_mi (T' := T') C0 X hP hQ hS (As := [.int (xs (nI i + 1).toNatClampNeg), .int (xs (nI i + 2).toNatClampNeg)]) (rest := [.int r]) (m4_mark l D K aM X.2.1 T _ _ f2) gL_law_X4_mark rfl ⟨rfl, rfl⟩ hd_X4_mark ⟨(Nat.le_of_ble_eq_true rfl), (Nat.le_of_ble_eq_true rfl)⟩ hl.1 rfl (Nat.le_of_ble_eq_true rfl) dL_law_618 hcs (fun H locs hP hQ hS => ?_)
  exact lv_icmp_eq (tgt := 1372) hx hb dL_law_621 (by decide) (fun _ => kk S' T' H locs ⟨R', hP, hQ, hS⟩) (fun c1 => absurd rfl c1)
set_option maxHeartbeats 4000000 in
set_option maxRecDepth 100000 in
theorem l_worth {p : Program} {l : Launch} {e : Env} {s : State} {m : MethodId} {args : Array Value} {below : List Frame} {meth : Method} {c : Code} {H : Heap} {locs : List Loc} {cells slots : Nat} {Q : State → Prop} {D : va_G} {K : Nat → ClassId} {tL : Nat} {aC aM : Nat → Nat} {S T : Mem} {ret : Option FieldType} {KK : State → Prop} {b L i : Nat} {xs : Nat → Int32} {ls : Array Slot} (C0 : Cx p s m args meth c RL wsL_law code 4 ret KK) (X : LX D K tL aC aM s) (I : LI D K aC aM s S T H locs) (hX : va_X b L xs s s.heap) (hbl : b < s.heap.size) (hbA : ¬ AL s b) (sc : SC i L) (hcs : cells ≤ room_1.cells ∧ slots ≤ room_1.slots) (hl : lv_has ls 4 [(3, .int (nI i)), (0, .ref b), (1, .ref (aC 0)), (2, .ref (aM 0))]) (kk : ∀ (S' T' : Mem) (H1 : Heap) (locs1 : List Loc), LI D K aC aM s S' T' H1 locs1 → W p l e room_1 s m args below meth c H1 locs1 cells slots Q (F0 m 1372 ls [])) : W p l e room_1 s m args below meth c H locs cells slots Q (F0 m 626 ls []) := by
  have hx := C0.1
  have hb := C0.2.1
  obtain ⟨R, hP, hQ, hS⟩ := I
  obtain ⟨h1, h2, h3, h4, h5⟩ := sc
  obtain ⟨r, f1, f2⟩ := p_worth R (xs (nI i + 1).toNatClampNeg) (xs (nI i + 2).toNatClampNeg)
  have R' := R
  refine lv_aload_n hx hb dL_law_626 rfl (lv_at hl 2 rfl) ?_
  refine lv_aload_n hx hb dL_law_627 rfl (lv_at hl 1 rfl) ?_
  refine lv_iload_n hx hb dL_law_628 rfl (lv_at hl 0 rfl) ?_
  refine lv_iconst (v := 1) hx hb dL_law_629 (by decide) ?_
  refine lv_iadd hx hb dL_law_630 ?_
  refine va_sld hx hb hX hbl hbA hS h1 dL_law_631 ?_
  refine lv_aload_n hx hb dL_law_632 rfl (lv_at hl 1 rfl) ?_
  refine lv_iload_n hx hb dL_law_633 rfl (lv_at hl 0 rfl) ?_
  refine lv_iconst (v := 2) hx hb dL_law_634 (by decide) ?_
  refine lv_iadd hx hb dL_law_635 ?_
  refine va_sld hx hb hX hbl hbA hS h2 dL_law_636 ?_
  refine l_ci (S' := S) C0 X hP hQ hS (As := [.int (xs (nI i + 1).toNatClampNeg), .int (xs (nI i + 2).toNatClampNeg)]) (rest := []) (m3_worth l D K aC tL X.1 S _ _ f1) gL_law_X3_worth rfl ⟨rfl, rfl⟩ hd_X3_worth ⟨(Nat.le_of_ble_eq_true rfl), (Nat.le_of_ble_eq_true rfl)⟩ hl.1 rfl (Nat.le_of_ble_eq_true rfl) dL_law_637 hcs (fun H locs hP hQ hS => ?_)
  refine lv_aload_n hx hb dL_law_640 rfl (lv_at hl 3 rfl) ?_
  refine lv_aload_n hx hb dL_law_641 rfl (lv_at hl 1 rfl) ?_
  refine lv_iload_n hx hb dL_law_642 rfl (lv_at hl 0 rfl) ?_
  refine lv_iconst (v := 1) hx hb dL_law_643 (by decide) ?_
  refine lv_iadd hx hb dL_law_644 ?_
  refine va_sld hx hb hX hbl hbA hS h1 dL_law_645 ?_
  refine lv_aload_n hx hb dL_law_646 rfl (lv_at hl 1 rfl) ?_
  refine lv_iload_n hx hb dL_law_647 rfl (lv_at hl 0 rfl) ?_
  refine lv_iconst (v := 2) hx hb dL_law_648 (by decide) ?_
  refine lv_iadd hx hb dL_law_649 ?_
  refine va_sld hx hb hX hbl hbA hS h2 dL_law_650 ?_
  refine l_mi (T' := T) C0 X hP hQ hS (As := [.int (xs (nI i + 1).toNatClampNeg), .int (xs (nI i + 2).toNatClampNeg)]) (rest := [.int r]) (m4_worth l D K aM X.2.1 T _ _ f2) gL_law_X4_worth rfl ⟨rfl, rfl⟩ hd_X4_worth ⟨(Nat.le_of_ble_eq_true rfl), (Nat.le_of_ble_eq_true rfl)⟩ hl.1 rfl (Nat.le_of_ble_eq_true rfl) dL_law_651 hcs (fun H locs hP hQ hS => ?_)
  exact lv_icmp_eq (tgt := 1372) hx hb dL_law_654 (by decide) (fun _ => kk S T H locs ⟨R', hP, hQ, hS⟩) (fun c1 => absurd rfl c1)
set_option maxHeartbeats 4000000 in
set_option maxRecDepth 100000 in
theorem l_day {p : Program} {l : Launch} {e : Env} {s : State} {m : MethodId} {args : Array Value} {below : List Frame} {meth : Method} {c : Code} {H : Heap} {locs : List Loc} {cells slots : Nat} {Q : State → Prop} {D : va_G} {K : Nat → ClassId} {tL : Nat} {aC aM : Nat → Nat} {S T : Mem} {ret : Option FieldType} {KK : State → Prop} {b L i : Nat} {xs : Nat → Int32} {ls : Array Slot} (C0 : Cx p s m args meth c RL wsL_law code 4 ret KK) (X : LX D K tL aC aM s) (I : LI D K aC aM s S T H locs) (hX : va_X b L xs s s.heap) (hbl : b < s.heap.size) (hbA : ¬ AL s b) (sc : SC i L) (hcs : cells ≤ room_1.cells ∧ slots ≤ room_1.slots) (hl : lv_has ls 4 [(3, .int (nI i)), (0, .ref b), (1, .ref (aC 0)), (2, .ref (aM 0))]) (kk : ∀ (S' T' : Mem) (H1 : Heap) (locs1 : List Loc), LI D K aC aM s S' T' H1 locs1 → W p l e room_1 s m args below meth c H1 locs1 cells slots Q (F0 m 1372 ls [])) : W p l e room_1 s m args below meth c H locs cells slots Q (F0 m 659 ls []) := by
  have hx := C0.1
  have hb := C0.2.1
  obtain ⟨R, hP, hQ, hS⟩ := I
  obtain ⟨h1, h2, h3, h4, h5⟩ := sc
  obtain ⟨r, S', T', f1, f2, R'⟩ := p_day R 
  refine lv_aload_n hx hb dL_law_659 rfl (lv_at hl 2 rfl) ?_
  refine l_ci (S' := S') C0 X hP hQ hS (As := []) (rest := []) (m3_day l D K aC tL X.1 S f1) gL_law_X3_day rfl ⟨rfl, rfl⟩ hd_X3_day ⟨(Nat.le_of_ble_eq_true rfl), (Nat.le_of_ble_eq_true rfl)⟩ hl.1 rfl (Nat.le_of_ble_eq_true rfl) dL_law_660 hcs (fun H locs hP hQ hS => ?_)
  refine lv_aload_n hx hb dL_law_663 rfl (lv_at hl 3 rfl) ?_
  refine l_mi (T' := T') C0 X hP hQ hS (As := []) (rest := [.int r]) (m4_day l D K aM X.2.1 T f2) gL_law_X4_day rfl ⟨rfl, rfl⟩ hd_X4_day ⟨(Nat.le_of_ble_eq_true rfl), (Nat.le_of_ble_eq_true rfl)⟩ hl.1 rfl (Nat.le_of_ble_eq_true rfl) dL_law_664 hcs (fun H locs hP hQ hS => ?_)
  exact lv_icmp_eq (tgt := 1372) hx hb dL_law_667 (by decide) (fun _ => kk S' T' H locs ⟨R', hP, hQ, hS⟩) (fun c1 => absurd rfl c1)
set_option maxHeartbeats 4000000 in
set_option maxRecDepth 100000 in
theorem l_spring {p : Program} {l : Launch} {e : Env} {s : State} {m : MethodId} {args : Array Value} {below : List Frame} {meth : Method} {c : Code} {H : Heap} {locs : List Loc} {cells slots : Nat} {Q : State → Prop} {D : va_G} {K : Nat → ClassId} {tL : Nat} {aC aM : Nat → Nat} {S T : Mem} {ret : Option FieldType} {KK : State → Prop} {b L i : Nat} {xs : Nat → Int32} {ls : Array Slot} (C0 : Cx p s m args meth c RL wsL_law code 4 ret KK) (X : LX D K tL aC aM s) (I : LI D K aC aM s S T H locs) (hX : va_X b L xs s s.heap) (hbl : b < s.heap.size) (hbA : ¬ AL s b) (sc : SC i L) (hcs : cells ≤ room_1.cells ∧ slots ≤ room_1.slots) (hl : lv_has ls 4 [(3, .int (nI i)), (0, .ref b), (1, .ref (aC 0)), (2, .ref (aM 0))]) (kk : ∀ (S' T' : Mem) (H1 : Heap) (locs1 : List Loc), LI D K aC aM s S' T' H1 locs1 → W p l e room_1 s m args below meth c H1 locs1 cells slots Q (F0 m 1372 ls [])) : W p l e room_1 s m args below meth c H locs cells slots Q (F0 m 672 ls []) := by
  have hx := C0.1
  have hb := C0.2.1
  obtain ⟨R, hP, hQ, hS⟩ := I
  obtain ⟨h1, h2, h3, h4, h5⟩ := sc
  obtain ⟨r, S', T', f1, f2, R'⟩ := p_spring R 
  refine lv_aload_n hx hb dL_law_672 rfl (lv_at hl 2 rfl) ?_
  refine l_ci (S' := S') C0 X hP hQ hS (As := []) (rest := []) (m3_spring l D K aC tL X.1 S f1) gL_law_X3_spring rfl ⟨rfl, rfl⟩ hd_X3_spring ⟨(Nat.le_of_ble_eq_true rfl), (Nat.le_of_ble_eq_true rfl)⟩ hl.1 rfl (Nat.le_of_ble_eq_true rfl) dL_law_673 hcs (fun H locs hP hQ hS => ?_)
  refine lv_aload_n hx hb dL_law_676 rfl (lv_at hl 3 rfl) ?_
  refine l_mi (T' := T') C0 X hP hQ hS (As := []) (rest := [.int r]) (m4_spring l D K aM X.2.1 T f2) gL_law_X4_spring rfl ⟨rfl, rfl⟩ hd_X4_spring ⟨(Nat.le_of_ble_eq_true rfl), (Nat.le_of_ble_eq_true rfl)⟩ hl.1 rfl (Nat.le_of_ble_eq_true rfl) dL_law_677 hcs (fun H locs hP hQ hS => ?_)
  exact lv_icmp_eq (tgt := 1372) hx hb dL_law_680 (by decide) (fun _ => kk S' T' H locs ⟨R', hP, hQ, hS⟩) (fun c1 => absurd rfl c1)
set_option maxHeartbeats 4000000 in
set_option maxRecDepth 100000 in
theorem l_lend {p : Program} {l : Launch} {e : Env} {s : State} {m : MethodId} {args : Array Value} {below : List Frame} {meth : Method} {c : Code} {H : Heap} {locs : List Loc} {cells slots : Nat} {Q : State → Prop} {D : va_G} {K : Nat → ClassId} {tL : Nat} {aC aM : Nat → Nat} {S T : Mem} {ret : Option FieldType} {KK : State → Prop} {b L i : Nat} {xs : Nat → Int32} {ls : Array Slot} (C0 : Cx p s m args meth c RL wsL_law code 4 ret KK) (X : LX D K tL aC aM s) (I : LI D K aC aM s S T H locs) (hX : va_X b L xs s s.heap) (hbl : b < s.heap.size) (hbA : ¬ AL s b) (sc : SC i L) (hcs : cells ≤ room_1.cells ∧ slots ≤ room_1.slots) (hl : lv_has ls 4 [(3, .int (nI i)), (0, .ref b), (1, .ref (aC 0)), (2, .ref (aM 0))]) (kk : ∀ (S' T' : Mem) (H1 : Heap) (locs1 : List Loc), LI D K aC aM s S' T' H1 locs1 → W p l e room_1 s m args below meth c H1 locs1 cells slots Q (F0 m 1372 ls [])) : W p l e room_1 s m args below meth c H locs cells slots Q (F0 m 685 ls []) := by
  have hx := C0.1
  have hb := C0.2.1
  obtain ⟨R, hP, hQ, hS⟩ := I
  obtain ⟨h1, h2, h3, h4, h5⟩ := sc
  obtain ⟨r, S', T', f1, f2, R'⟩ := p_lend R (xs (nI i + 1).toNatClampNeg) (xs (nI i + 2).toNatClampNeg) (xs (nI i + 3).toNatClampNeg)
  refine lv_aload_n hx hb dL_law_685 rfl (lv_at hl 2 rfl) ?_
  refine lv_aload_n hx hb dL_law_686 rfl (lv_at hl 1 rfl) ?_
  refine lv_iload_n hx hb dL_law_687 rfl (lv_at hl 0 rfl) ?_
  refine lv_iconst (v := 1) hx hb dL_law_688 (by decide) ?_
  refine lv_iadd hx hb dL_law_689 ?_
  refine va_sld hx hb hX hbl hbA hS h1 dL_law_690 ?_
  refine lv_aload_n hx hb dL_law_691 rfl (lv_at hl 1 rfl) ?_
  refine lv_iload_n hx hb dL_law_692 rfl (lv_at hl 0 rfl) ?_
  refine lv_iconst (v := 2) hx hb dL_law_693 (by decide) ?_
  refine lv_iadd hx hb dL_law_694 ?_
  refine va_sld hx hb hX hbl hbA hS h2 dL_law_695 ?_
  refine lv_aload_n hx hb dL_law_696 rfl (lv_at hl 1 rfl) ?_
  refine lv_iload_n hx hb dL_law_697 rfl (lv_at hl 0 rfl) ?_
  refine lv_iconst (v := 3) hx hb dL_law_698 (by decide) ?_
  refine lv_iadd hx hb dL_law_699 ?_
  refine va_sld hx hb hX hbl hbA hS h3 dL_law_700 ?_
  refine l_ci (S' := S') C0 X hP hQ hS (As := [.int (xs (nI i + 1).toNatClampNeg), .int (xs (nI i + 2).toNatClampNeg), .int (xs (nI i + 3).toNatClampNeg)]) (rest := []) (m3_lend l D K aC tL X.1 S _ _ _ f1) gL_law_X3_lend rfl ⟨rfl, rfl⟩ hd_X3_lend ⟨(Nat.le_of_ble_eq_true rfl), (Nat.le_of_ble_eq_true rfl)⟩ hl.1 rfl (Nat.le_of_ble_eq_true rfl) dL_law_701 hcs (fun H locs hP hQ hS => ?_)
  refine lv_aload_n hx hb dL_law_704 rfl (lv_at hl 3 rfl) ?_
  refine lv_aload_n hx hb dL_law_705 rfl (lv_at hl 1 rfl) ?_
  refine lv_iload_n hx hb dL_law_706 rfl (lv_at hl 0 rfl) ?_
  refine lv_iconst (v := 1) hx hb dL_law_707 (by decide) ?_
  refine lv_iadd hx hb dL_law_708 ?_
  refine va_sld hx hb hX hbl hbA hS h1 dL_law_709 ?_
  refine lv_aload_n hx hb dL_law_710 rfl (lv_at hl 1 rfl) ?_
  refine lv_iload_n hx hb dL_law_711 rfl (lv_at hl 0 rfl) ?_
  refine lv_iconst (v := 2) hx hb dL_law_712 (by decide) ?_
  refine lv_iadd hx hb dL_law_713 ?_
  refine va_sld hx hb hX hbl hbA hS h2 dL_law_714 ?_
  refine lv_aload_n hx hb dL_law_715 rfl (lv_at hl 1 rfl) ?_
  refine lv_iload_n hx hb dL_law_716 rfl (lv_at hl 0 rfl) ?_
  refine lv_iconst (v := 3) hx hb dL_law_717 (by decide) ?_
  refine lv_iadd hx hb dL_law_718 ?_
  refine va_sld hx hb hX hbl hbA hS h3 dL_law_719 ?_
  refine l_mi (T' := T') C0 X hP hQ hS (As := [.int (xs (nI i + 1).toNatClampNeg), .int (xs (nI i + 2).toNatClampNeg), .int (xs (nI i + 3).toNatClampNeg)]) (rest := [.int r]) (m4_lend l D K aM X.2.1 T _ _ _ f2) gL_law_X4_lend rfl ⟨rfl, rfl⟩ hd_X4_lend ⟨(Nat.le_of_ble_eq_true rfl), (Nat.le_of_ble_eq_true rfl)⟩ hl.1 rfl (Nat.le_of_ble_eq_true rfl) dL_law_720 hcs (fun H locs hP hQ hS => ?_)
  exact lv_icmp_eq (tgt := 1372) hx hb dL_law_723 (by decide) (fun _ => kk S' T' H locs ⟨R', hP, hQ, hS⟩) (fun c1 => absurd rfl c1)
set_option maxHeartbeats 4000000 in
set_option maxRecDepth 100000 in
theorem l_leave {p : Program} {l : Launch} {e : Env} {s : State} {m : MethodId} {args : Array Value} {below : List Frame} {meth : Method} {c : Code} {H : Heap} {locs : List Loc} {cells slots : Nat} {Q : State → Prop} {D : va_G} {K : Nat → ClassId} {tL : Nat} {aC aM : Nat → Nat} {S T : Mem} {ret : Option FieldType} {KK : State → Prop} {b L i : Nat} {xs : Nat → Int32} {ls : Array Slot} (C0 : Cx p s m args meth c RL wsL_law code 4 ret KK) (X : LX D K tL aC aM s) (I : LI D K aC aM s S T H locs) (hX : va_X b L xs s s.heap) (hbl : b < s.heap.size) (hbA : ¬ AL s b) (sc : SC i L) (hcs : cells ≤ room_1.cells ∧ slots ≤ room_1.slots) (hl : lv_has ls 4 [(3, .int (nI i)), (0, .ref b), (1, .ref (aC 0)), (2, .ref (aM 0))]) (kk : ∀ (S' T' : Mem) (H1 : Heap) (locs1 : List Loc), LI D K aC aM s S' T' H1 locs1 → W p l e room_1 s m args below meth c H1 locs1 cells slots Q (F0 m 1372 ls [])) : W p l e room_1 s m args below meth c H locs cells slots Q (F0 m 728 ls []) := by
  have hx := C0.1
  have hb := C0.2.1
  obtain ⟨R, hP, hQ, hS⟩ := I
  obtain ⟨h1, h2, h3, h4, h5⟩ := sc
  obtain ⟨r, S', T', f1, f2, R'⟩ := p_leave R (xs (nI i + 1).toNatClampNeg) (xs (nI i + 2).toNatClampNeg)
  refine lv_aload_n hx hb dL_law_728 rfl (lv_at hl 2 rfl) ?_
  refine lv_aload_n hx hb dL_law_729 rfl (lv_at hl 1 rfl) ?_
  refine lv_iload_n hx hb dL_law_730 rfl (lv_at hl 0 rfl) ?_
  refine lv_iconst (v := 1) hx hb dL_law_731 (by decide) ?_
  refine lv_iadd hx hb dL_law_732 ?_
  refine va_sld hx hb hX hbl hbA hS h1 dL_law_733 ?_
  refine lv_aload_n hx hb dL_law_734 rfl (lv_at hl 1 rfl) ?_
  refine lv_iload_n hx hb dL_law_735 rfl (lv_at hl 0 rfl) ?_
  refine lv_iconst (v := 2) hx hb dL_law_736 (by decide) ?_
  refine lv_iadd hx hb dL_law_737 ?_
  refine va_sld hx hb hX hbl hbA hS h2 dL_law_738 ?_
  refine l_ci (S' := S') C0 X hP hQ hS (As := [.int (xs (nI i + 1).toNatClampNeg), .int (xs (nI i + 2).toNatClampNeg)]) (rest := []) (m3_leave l D K aC tL X.1 S _ _ f1) gL_law_X3_leave rfl ⟨rfl, rfl⟩ hd_X3_leave ⟨(Nat.le_of_ble_eq_true rfl), (Nat.le_of_ble_eq_true rfl)⟩ hl.1 rfl (Nat.le_of_ble_eq_true rfl) dL_law_739 hcs (fun H locs hP hQ hS => ?_)
  refine lv_aload_n hx hb dL_law_742 rfl (lv_at hl 3 rfl) ?_
  refine lv_aload_n hx hb dL_law_743 rfl (lv_at hl 1 rfl) ?_
  refine lv_iload_n hx hb dL_law_744 rfl (lv_at hl 0 rfl) ?_
  refine lv_iconst (v := 1) hx hb dL_law_745 (by decide) ?_
  refine lv_iadd hx hb dL_law_746 ?_
  refine va_sld hx hb hX hbl hbA hS h1 dL_law_747 ?_
  refine lv_aload_n hx hb dL_law_748 rfl (lv_at hl 1 rfl) ?_
  refine lv_iload_n hx hb dL_law_749 rfl (lv_at hl 0 rfl) ?_
  refine lv_iconst (v := 2) hx hb dL_law_750 (by decide) ?_
  refine lv_iadd hx hb dL_law_751 ?_
  refine va_sld hx hb hX hbl hbA hS h2 dL_law_752 ?_
  refine l_mi (T' := T') C0 X hP hQ hS (As := [.int (xs (nI i + 1).toNatClampNeg), .int (xs (nI i + 2).toNatClampNeg)]) (rest := [.int r]) (m4_leave l D K aM X.2.1 T _ _ f2) gL_law_X4_leave rfl ⟨rfl, rfl⟩ hd_X4_leave ⟨(Nat.le_of_ble_eq_true rfl), (Nat.le_of_ble_eq_true rfl)⟩ hl.1 rfl (Nat.le_of_ble_eq_true rfl) dL_law_753 hcs (fun H locs hP hQ hS => ?_)
  exact lv_icmp_eq (tgt := 1372) hx hb dL_law_756 (by decide) (fun _ => kk S' T' H locs ⟨R', hP, hQ, hS⟩) (fun c1 => absurd rfl c1)
set_option maxHeartbeats 4000000 in
set_option maxRecDepth 100000 in
theorem l_take {p : Program} {l : Launch} {e : Env} {s : State} {m : MethodId} {args : Array Value} {below : List Frame} {meth : Method} {c : Code} {H : Heap} {locs : List Loc} {cells slots : Nat} {Q : State → Prop} {D : va_G} {K : Nat → ClassId} {tL : Nat} {aC aM : Nat → Nat} {S T : Mem} {ret : Option FieldType} {KK : State → Prop} {b L i : Nat} {xs : Nat → Int32} {ls : Array Slot} (C0 : Cx p s m args meth c RL wsL_law code 4 ret KK) (X : LX D K tL aC aM s) (I : LI D K aC aM s S T H locs) (hX : va_X b L xs s s.heap) (hbl : b < s.heap.size) (hbA : ¬ AL s b) (sc : SC i L) (hcs : cells ≤ room_1.cells ∧ slots ≤ room_1.slots) (hl : lv_has ls 4 [(3, .int (nI i)), (0, .ref b), (1, .ref (aC 0)), (2, .ref (aM 0))]) (kk : ∀ (S' T' : Mem) (H1 : Heap) (locs1 : List Loc), LI D K aC aM s S' T' H1 locs1 → W p l e room_1 s m args below meth c H1 locs1 cells slots Q (F0 m 1372 ls [])) : W p l e room_1 s m args below meth c H locs cells slots Q (F0 m 761 ls []) := by
  have hx := C0.1
  have hb := C0.2.1
  obtain ⟨R, hP, hQ, hS⟩ := I
  obtain ⟨h1, h2, h3, h4, h5⟩ := sc
  obtain ⟨r, S', T', f1, f2, R'⟩ := p_take R (xs (nI i + 1).toNatClampNeg) (xs (nI i + 2).toNatClampNeg)
  refine lv_aload_n hx hb dL_law_761 rfl (lv_at hl 2 rfl) ?_
  refine lv_aload_n hx hb dL_law_762 rfl (lv_at hl 1 rfl) ?_
  refine lv_iload_n hx hb dL_law_763 rfl (lv_at hl 0 rfl) ?_
  refine lv_iconst (v := 1) hx hb dL_law_764 (by decide) ?_
  refine lv_iadd hx hb dL_law_765 ?_
  refine va_sld hx hb hX hbl hbA hS h1 dL_law_766 ?_
  refine lv_aload_n hx hb dL_law_767 rfl (lv_at hl 1 rfl) ?_
  refine lv_iload_n hx hb dL_law_768 rfl (lv_at hl 0 rfl) ?_
  refine lv_iconst (v := 2) hx hb dL_law_769 (by decide) ?_
  refine lv_iadd hx hb dL_law_770 ?_
  refine va_sld hx hb hX hbl hbA hS h2 dL_law_771 ?_
  refine l_ci (S' := S') C0 X hP hQ hS (As := [.int (xs (nI i + 1).toNatClampNeg), .int (xs (nI i + 2).toNatClampNeg)]) (rest := []) (m3_take l D K aC tL X.1 S _ _ f1) gL_law_X3_take rfl ⟨rfl, rfl⟩ hd_X3_take ⟨(Nat.le_of_ble_eq_true rfl), (Nat.le_of_ble_eq_true rfl)⟩ hl.1 rfl (Nat.le_of_ble_eq_true rfl) dL_law_772 hcs (fun H locs hP hQ hS => ?_)
  refine lv_aload_n hx hb dL_law_775 rfl (lv_at hl 3 rfl) ?_
  refine lv_aload_n hx hb dL_law_776 rfl (lv_at hl 1 rfl) ?_
  refine lv_iload_n hx hb dL_law_777 rfl (lv_at hl 0 rfl) ?_
  refine lv_iconst (v := 1) hx hb dL_law_778 (by decide) ?_
  refine lv_iadd hx hb dL_law_779 ?_
  refine va_sld hx hb hX hbl hbA hS h1 dL_law_780 ?_
  refine lv_aload_n hx hb dL_law_781 rfl (lv_at hl 1 rfl) ?_
  refine lv_iload_n hx hb dL_law_782 rfl (lv_at hl 0 rfl) ?_
  refine lv_iconst (v := 2) hx hb dL_law_783 (by decide) ?_
  refine lv_iadd hx hb dL_law_784 ?_
  refine va_sld hx hb hX hbl hbA hS h2 dL_law_785 ?_
  refine l_mi (T' := T') C0 X hP hQ hS (As := [.int (xs (nI i + 1).toNatClampNeg), .int (xs (nI i + 2).toNatClampNeg)]) (rest := [.int r]) (m4_take l D K aM X.2.1 T _ _ f2) gL_law_X4_take rfl ⟨rfl, rfl⟩ hd_X4_take ⟨(Nat.le_of_ble_eq_true rfl), (Nat.le_of_ble_eq_true rfl)⟩ hl.1 rfl (Nat.le_of_ble_eq_true rfl) dL_law_786 hcs (fun H locs hP hQ hS => ?_)
  exact lv_icmp_eq (tgt := 1372) hx hb dL_law_789 (by decide) (fun _ => kk S' T' H locs ⟨R', hP, hQ, hS⟩) (fun c1 => absurd rfl c1)
set_option maxHeartbeats 4000000 in
set_option maxRecDepth 100000 in
theorem l_undo {p : Program} {l : Launch} {e : Env} {s : State} {m : MethodId} {args : Array Value} {below : List Frame} {meth : Method} {c : Code} {H : Heap} {locs : List Loc} {cells slots : Nat} {Q : State → Prop} {D : va_G} {K : Nat → ClassId} {tL : Nat} {aC aM : Nat → Nat} {S T : Mem} {ret : Option FieldType} {KK : State → Prop} {b L i : Nat} {xs : Nat → Int32} {ls : Array Slot} (C0 : Cx p s m args meth c RL wsL_law code 4 ret KK) (X : LX D K tL aC aM s) (I : LI D K aC aM s S T H locs) (hX : va_X b L xs s s.heap) (hbl : b < s.heap.size) (hbA : ¬ AL s b) (sc : SC i L) (hcs : cells ≤ room_1.cells ∧ slots ≤ room_1.slots) (hl : lv_has ls 4 [(3, .int (nI i)), (0, .ref b), (1, .ref (aC 0)), (2, .ref (aM 0))]) (kk : ∀ (S' T' : Mem) (H1 : Heap) (locs1 : List Loc), LI D K aC aM s S' T' H1 locs1 → W p l e room_1 s m args below meth c H1 locs1 cells slots Q (F0 m 1372 ls [])) : W p l e room_1 s m args below meth c H locs cells slots Q (F0 m 794 ls []) := by
  have hx := C0.1
  have hb := C0.2.1
  obtain ⟨R, hP, hQ, hS⟩ := I
  obtain ⟨h1, h2, h3, h4, h5⟩ := sc
  obtain ⟨r, S', T', f1, f2, R'⟩ := p_undo R (xs (nI i + 1).toNatClampNeg)
  refine lv_aload_n hx hb dL_law_794 rfl (lv_at hl 2 rfl) ?_
  refine lv_aload_n hx hb dL_law_795 rfl (lv_at hl 1 rfl) ?_
  refine lv_iload_n hx hb dL_law_796 rfl (lv_at hl 0 rfl) ?_
  refine lv_iconst (v := 1) hx hb dL_law_797 (by decide) ?_
  refine lv_iadd hx hb dL_law_798 ?_
  refine va_sld hx hb hX hbl hbA hS h1 dL_law_799 ?_
  refine l_ci (S' := S') C0 X hP hQ hS (As := [.int (xs (nI i + 1).toNatClampNeg)]) (rest := []) (m3_undo l D K aC tL X.1 S _ f1) gL_law_X3_undo rfl ⟨rfl, rfl⟩ hd_X3_undo ⟨(Nat.le_of_ble_eq_true rfl), (Nat.le_of_ble_eq_true rfl)⟩ hl.1 rfl (Nat.le_of_ble_eq_true rfl) dL_law_800 hcs (fun H locs hP hQ hS => ?_)
  refine lv_aload_n hx hb dL_law_803 rfl (lv_at hl 3 rfl) ?_
  refine lv_aload_n hx hb dL_law_804 rfl (lv_at hl 1 rfl) ?_
  refine lv_iload_n hx hb dL_law_805 rfl (lv_at hl 0 rfl) ?_
  refine lv_iconst (v := 1) hx hb dL_law_806 (by decide) ?_
  refine lv_iadd hx hb dL_law_807 ?_
  refine va_sld hx hb hX hbl hbA hS h1 dL_law_808 ?_
  refine l_mi (T' := T') C0 X hP hQ hS (As := [.int (xs (nI i + 1).toNatClampNeg)]) (rest := [.int r]) (m4_undo l D K aM X.2.1 T _ f2) gL_law_X4_undo rfl ⟨rfl, rfl⟩ hd_X4_undo ⟨(Nat.le_of_ble_eq_true rfl), (Nat.le_of_ble_eq_true rfl)⟩ hl.1 rfl (Nat.le_of_ble_eq_true rfl) dL_law_809 hcs (fun H locs hP hQ hS => ?_)
  exact lv_icmp_eq (tgt := 1372) hx hb dL_law_812 (by decide) (fun _ => kk S' T' H locs ⟨R', hP, hQ, hS⟩) (fun c1 => absurd rfl c1)
set_option maxHeartbeats 4000000 in
set_option maxRecDepth 100000 in
theorem l_keep {p : Program} {l : Launch} {e : Env} {s : State} {m : MethodId} {args : Array Value} {below : List Frame} {meth : Method} {c : Code} {H : Heap} {locs : List Loc} {cells slots : Nat} {Q : State → Prop} {D : va_G} {K : Nat → ClassId} {tL : Nat} {aC aM : Nat → Nat} {S T : Mem} {ret : Option FieldType} {KK : State → Prop} {b L i : Nat} {xs : Nat → Int32} {ls : Array Slot} (C0 : Cx p s m args meth c RL wsL_law code 4 ret KK) (X : LX D K tL aC aM s) (I : LI D K aC aM s S T H locs) (hX : va_X b L xs s s.heap) (hbl : b < s.heap.size) (hbA : ¬ AL s b) (sc : SC i L) (hcs : cells ≤ room_1.cells ∧ slots ≤ room_1.slots) (hl : lv_has ls 4 [(3, .int (nI i)), (0, .ref b), (1, .ref (aC 0)), (2, .ref (aM 0))]) (kk : ∀ (S' T' : Mem) (H1 : Heap) (locs1 : List Loc), LI D K aC aM s S' T' H1 locs1 → W p l e room_1 s m args below meth c H1 locs1 cells slots Q (F0 m 1372 ls [])) : W p l e room_1 s m args below meth c H locs cells slots Q (F0 m 817 ls []) := by
  have hx := C0.1
  have hb := C0.2.1
  obtain ⟨R, hP, hQ, hS⟩ := I
  obtain ⟨h1, h2, h3, h4, h5⟩ := sc
  obtain ⟨r, S', T', f1, f2, R'⟩ := p_keep R (xs (nI i + 1).toNatClampNeg)
  refine lv_aload_n hx hb dL_law_817 rfl (lv_at hl 2 rfl) ?_
  refine lv_aload_n hx hb dL_law_818 rfl (lv_at hl 1 rfl) ?_
  refine lv_iload_n hx hb dL_law_819 rfl (lv_at hl 0 rfl) ?_
  refine lv_iconst (v := 1) hx hb dL_law_820 (by decide) ?_
  refine lv_iadd hx hb dL_law_821 ?_
  refine va_sld hx hb hX hbl hbA hS h1 dL_law_822 ?_
  refine l_ci (S' := S') C0 X hP hQ hS (As := [.int (xs (nI i + 1).toNatClampNeg)]) (rest := []) (m3_keep l D K aC tL X.1 S _ f1) gL_law_X3_keep rfl ⟨rfl, rfl⟩ hd_X3_keep ⟨(Nat.le_of_ble_eq_true rfl), (Nat.le_of_ble_eq_true rfl)⟩ hl.1 rfl (Nat.le_of_ble_eq_true rfl) dL_law_823 hcs (fun H locs hP hQ hS => ?_)
  refine lv_aload_n hx hb dL_law_826 rfl (lv_at hl 3 rfl) ?_
  refine lv_aload_n hx hb dL_law_827 rfl (lv_at hl 1 rfl) ?_
  refine lv_iload_n hx hb dL_law_828 rfl (lv_at hl 0 rfl) ?_
  refine lv_iconst (v := 1) hx hb dL_law_829 (by decide) ?_
  refine lv_iadd hx hb dL_law_830 ?_
  refine va_sld hx hb hX hbl hbA hS h1 dL_law_831 ?_
  refine l_mi (T' := T') C0 X hP hQ hS (As := [.int (xs (nI i + 1).toNatClampNeg)]) (rest := [.int r]) (m4_keep l D K aM X.2.1 T _ f2) gL_law_X4_keep rfl ⟨rfl, rfl⟩ hd_X4_keep ⟨(Nat.le_of_ble_eq_true rfl), (Nat.le_of_ble_eq_true rfl)⟩ hl.1 rfl (Nat.le_of_ble_eq_true rfl) dL_law_832 hcs (fun H locs hP hQ hS => ?_)
  exact lv_icmp_eq (tgt := 1372) hx hb dL_law_835 (by decide) (fun _ => kk S' T' H locs ⟨R', hP, hQ, hS⟩) (fun c1 => absurd rfl c1)
set_option maxHeartbeats 4000000 in
set_option maxRecDepth 100000 in
theorem l_on {p : Program} {l : Launch} {e : Env} {s : State} {m : MethodId} {args : Array Value} {below : List Frame} {meth : Method} {c : Code} {H : Heap} {locs : List Loc} {cells slots : Nat} {Q : State → Prop} {D : va_G} {K : Nat → ClassId} {tL : Nat} {aC aM : Nat → Nat} {S T : Mem} {ret : Option FieldType} {KK : State → Prop} {b L i : Nat} {xs : Nat → Int32} {ls : Array Slot} (C0 : Cx p s m args meth c RL wsL_law code 4 ret KK) (X : LX D K tL aC aM s) (I : LI D K aC aM s S T H locs) (hX : va_X b L xs s s.heap) (hbl : b < s.heap.size) (hbA : ¬ AL s b) (sc : SC i L) (hcs : cells ≤ room_1.cells ∧ slots ≤ room_1.slots) (hl : lv_has ls 4 [(3, .int (nI i)), (0, .ref b), (1, .ref (aC 0)), (2, .ref (aM 0))]) (kk : ∀ (S' T' : Mem) (H1 : Heap) (locs1 : List Loc), LI D K aC aM s S' T' H1 locs1 → W p l e room_1 s m args below meth c H1 locs1 cells slots Q (F0 m 1372 ls [])) : W p l e room_1 s m args below meth c H locs cells slots Q (F0 m 840 ls []) := by
  have hx := C0.1
  have hb := C0.2.1
  obtain ⟨R, hP, hQ, hS⟩ := I
  obtain ⟨h1, h2, h3, h4, h5⟩ := sc
  obtain ⟨r, S', T', f1, f2, R'⟩ := p_on R (xs (nI i + 1).toNatClampNeg)
  refine lv_aload_n hx hb dL_law_840 rfl (lv_at hl 2 rfl) ?_
  refine lv_aload_n hx hb dL_law_841 rfl (lv_at hl 1 rfl) ?_
  refine lv_iload_n hx hb dL_law_842 rfl (lv_at hl 0 rfl) ?_
  refine lv_iconst (v := 1) hx hb dL_law_843 (by decide) ?_
  refine lv_iadd hx hb dL_law_844 ?_
  refine va_sld hx hb hX hbl hbA hS h1 dL_law_845 ?_
  refine l_ci (S' := S') C0 X hP hQ hS (As := [.int (xs (nI i + 1).toNatClampNeg)]) (rest := []) (m3_on l D K aC tL X.1 S _ f1) gL_law_X3_on rfl ⟨rfl, rfl⟩ hd_X3_on ⟨(Nat.le_of_ble_eq_true rfl), (Nat.le_of_ble_eq_true rfl)⟩ hl.1 rfl (Nat.le_of_ble_eq_true rfl) dL_law_846 hcs (fun H locs hP hQ hS => ?_)
  refine lv_aload_n hx hb dL_law_849 rfl (lv_at hl 3 rfl) ?_
  refine lv_aload_n hx hb dL_law_850 rfl (lv_at hl 1 rfl) ?_
  refine lv_iload_n hx hb dL_law_851 rfl (lv_at hl 0 rfl) ?_
  refine lv_iconst (v := 1) hx hb dL_law_852 (by decide) ?_
  refine lv_iadd hx hb dL_law_853 ?_
  refine va_sld hx hb hX hbl hbA hS h1 dL_law_854 ?_
  refine l_mi (T' := T') C0 X hP hQ hS (As := [.int (xs (nI i + 1).toNatClampNeg)]) (rest := [.int r]) (m4_on l D K aM X.2.1 T _ f2) gL_law_X4_on rfl ⟨rfl, rfl⟩ hd_X4_on ⟨(Nat.le_of_ble_eq_true rfl), (Nat.le_of_ble_eq_true rfl)⟩ hl.1 rfl (Nat.le_of_ble_eq_true rfl) dL_law_855 hcs (fun H locs hP hQ hS => ?_)
  exact lv_icmp_eq (tgt := 1372) hx hb dL_law_858 (by decide) (fun _ => kk S' T' H locs ⟨R', hP, hQ, hS⟩) (fun c1 => absurd rfl c1)
set_option maxHeartbeats 4000000 in
set_option maxRecDepth 100000 in
theorem l_works {p : Program} {l : Launch} {e : Env} {s : State} {m : MethodId} {args : Array Value} {below : List Frame} {meth : Method} {c : Code} {H : Heap} {locs : List Loc} {cells slots : Nat} {Q : State → Prop} {D : va_G} {K : Nat → ClassId} {tL : Nat} {aC aM : Nat → Nat} {S T : Mem} {ret : Option FieldType} {KK : State → Prop} {b L i : Nat} {xs : Nat → Int32} {ls : Array Slot} (C0 : Cx p s m args meth c RL wsL_law code 4 ret KK) (X : LX D K tL aC aM s) (I : LI D K aC aM s S T H locs) (hX : va_X b L xs s s.heap) (hbl : b < s.heap.size) (hbA : ¬ AL s b) (sc : SC i L) (hcs : cells ≤ room_1.cells ∧ slots ≤ room_1.slots) (hl : lv_has ls 4 [(3, .int (nI i)), (0, .ref b), (1, .ref (aC 0)), (2, .ref (aM 0))]) (kk : ∀ (S' T' : Mem) (H1 : Heap) (locs1 : List Loc), LI D K aC aM s S' T' H1 locs1 → W p l e room_1 s m args below meth c H1 locs1 cells slots Q (F0 m 1372 ls [])) : W p l e room_1 s m args below meth c H locs cells slots Q (F0 m 863 ls []) := by
  have hx := C0.1
  have hb := C0.2.1
  obtain ⟨R, hP, hQ, hS⟩ := I
  obtain ⟨h1, h2, h3, h4, h5⟩ := sc
  obtain ⟨r, S', T', f1, f2, R'⟩ := p_works R 
  refine lv_aload_n hx hb dL_law_863 rfl (lv_at hl 2 rfl) ?_
  refine l_ci (S' := S') C0 X hP hQ hS (As := []) (rest := []) (m3_works l D K aC tL X.1 S f1) gL_law_X3_works rfl ⟨rfl, rfl⟩ hd_X3_works ⟨(Nat.le_of_ble_eq_true rfl), (Nat.le_of_ble_eq_true rfl)⟩ hl.1 rfl (Nat.le_of_ble_eq_true rfl) dL_law_864 hcs (fun H locs hP hQ hS => ?_)
  refine lv_aload_n hx hb dL_law_867 rfl (lv_at hl 3 rfl) ?_
  refine l_mi (T' := T') C0 X hP hQ hS (As := []) (rest := [.int r]) (m4_works l D K aM X.2.1 T f2) gL_law_X4_works rfl ⟨rfl, rfl⟩ hd_X4_works ⟨(Nat.le_of_ble_eq_true rfl), (Nat.le_of_ble_eq_true rfl)⟩ hl.1 rfl (Nat.le_of_ble_eq_true rfl) dL_law_868 hcs (fun H locs hP hQ hS => ?_)
  exact lv_icmp_eq (tgt := 1372) hx hb dL_law_871 (by decide) (fun _ => kk S' T' H locs ⟨R', hP, hQ, hS⟩) (fun c1 => absurd rfl c1)
set_option maxHeartbeats 4000000 in
set_option maxRecDepth 100000 in
theorem l_later {p : Program} {l : Launch} {e : Env} {s : State} {m : MethodId} {args : Array Value} {below : List Frame} {meth : Method} {c : Code} {H : Heap} {locs : List Loc} {cells slots : Nat} {Q : State → Prop} {D : va_G} {K : Nat → ClassId} {tL : Nat} {aC aM : Nat → Nat} {S T : Mem} {ret : Option FieldType} {KK : State → Prop} {b L i : Nat} {xs : Nat → Int32} {ls : Array Slot} (C0 : Cx p s m args meth c RL wsL_law code 4 ret KK) (X : LX D K tL aC aM s) (I : LI D K aC aM s S T H locs) (hX : va_X b L xs s s.heap) (hbl : b < s.heap.size) (hbA : ¬ AL s b) (sc : SC i L) (hcs : cells ≤ room_1.cells ∧ slots ≤ room_1.slots) (hl : lv_has ls 4 [(3, .int (nI i)), (0, .ref b), (1, .ref (aC 0)), (2, .ref (aM 0))]) (kk : ∀ (S' T' : Mem) (H1 : Heap) (locs1 : List Loc), LI D K aC aM s S' T' H1 locs1 → W p l e room_1 s m args below meth c H1 locs1 cells slots Q (F0 m 1372 ls [])) : W p l e room_1 s m args below meth c H locs cells slots Q (F0 m 876 ls []) := by
  have hx := C0.1
  have hb := C0.2.1
  obtain ⟨R, hP, hQ, hS⟩ := I
  obtain ⟨h1, h2, h3, h4, h5⟩ := sc
  obtain ⟨r, S', T', f1, f2, R'⟩ := p_later R (xs (nI i + 1).toNatClampNeg) (xs (nI i + 2).toNatClampNeg)
  refine lv_aload_n hx hb dL_law_876 rfl (lv_at hl 2 rfl) ?_
  refine lv_aload_n hx hb dL_law_877 rfl (lv_at hl 1 rfl) ?_
  refine lv_iload_n hx hb dL_law_878 rfl (lv_at hl 0 rfl) ?_
  refine lv_iconst (v := 1) hx hb dL_law_879 (by decide) ?_
  refine lv_iadd hx hb dL_law_880 ?_
  refine va_sld hx hb hX hbl hbA hS h1 dL_law_881 ?_
  refine lv_aload_n hx hb dL_law_882 rfl (lv_at hl 1 rfl) ?_
  refine lv_iload_n hx hb dL_law_883 rfl (lv_at hl 0 rfl) ?_
  refine lv_iconst (v := 2) hx hb dL_law_884 (by decide) ?_
  refine lv_iadd hx hb dL_law_885 ?_
  refine va_sld hx hb hX hbl hbA hS h2 dL_law_886 ?_
  refine l_ci (S' := S') C0 X hP hQ hS (As := [.int (xs (nI i + 1).toNatClampNeg), .int (xs (nI i + 2).toNatClampNeg)]) (rest := []) (m3_later l D K aC tL X.1 S _ _ f1) gL_law_X3_later rfl ⟨rfl, rfl⟩ hd_X3_later ⟨(Nat.le_of_ble_eq_true rfl), (Nat.le_of_ble_eq_true rfl)⟩ hl.1 rfl (Nat.le_of_ble_eq_true rfl) dL_law_887 hcs (fun H locs hP hQ hS => ?_)
  refine lv_aload_n hx hb dL_law_890 rfl (lv_at hl 3 rfl) ?_
  refine lv_aload_n hx hb dL_law_891 rfl (lv_at hl 1 rfl) ?_
  refine lv_iload_n hx hb dL_law_892 rfl (lv_at hl 0 rfl) ?_
  refine lv_iconst (v := 1) hx hb dL_law_893 (by decide) ?_
  refine lv_iadd hx hb dL_law_894 ?_
  refine va_sld hx hb hX hbl hbA hS h1 dL_law_895 ?_
  refine lv_aload_n hx hb dL_law_896 rfl (lv_at hl 1 rfl) ?_
  refine lv_iload_n hx hb dL_law_897 rfl (lv_at hl 0 rfl) ?_
  refine lv_iconst (v := 2) hx hb dL_law_898 (by decide) ?_
  refine lv_iadd hx hb dL_law_899 ?_
  refine va_sld hx hb hX hbl hbA hS h2 dL_law_900 ?_
  refine l_mi (T' := T') C0 X hP hQ hS (As := [.int (xs (nI i + 1).toNatClampNeg), .int (xs (nI i + 2).toNatClampNeg)]) (rest := [.int r]) (m4_later l D K aM X.2.1 T _ _ f2) gL_law_X4_later rfl ⟨rfl, rfl⟩ hd_X4_later ⟨(Nat.le_of_ble_eq_true rfl), (Nat.le_of_ble_eq_true rfl)⟩ hl.1 rfl (Nat.le_of_ble_eq_true rfl) dL_law_901 hcs (fun H locs hP hQ hS => ?_)
  exact lv_icmp_eq (tgt := 1372) hx hb dL_law_904 (by decide) (fun _ => kk S' T' H locs ⟨R', hP, hQ, hS⟩) (fun c1 => absurd rfl c1)
set_option maxHeartbeats 4000000 in
set_option maxRecDepth 100000 in
theorem l_when {p : Program} {l : Launch} {e : Env} {s : State} {m : MethodId} {args : Array Value} {below : List Frame} {meth : Method} {c : Code} {H : Heap} {locs : List Loc} {cells slots : Nat} {Q : State → Prop} {D : va_G} {K : Nat → ClassId} {tL : Nat} {aC aM : Nat → Nat} {S T : Mem} {ret : Option FieldType} {KK : State → Prop} {b L i : Nat} {xs : Nat → Int32} {ls : Array Slot} (C0 : Cx p s m args meth c RL wsL_law code 4 ret KK) (X : LX D K tL aC aM s) (I : LI D K aC aM s S T H locs) (hX : va_X b L xs s s.heap) (hbl : b < s.heap.size) (hbA : ¬ AL s b) (sc : SC i L) (hcs : cells ≤ room_1.cells ∧ slots ≤ room_1.slots) (hl : lv_has ls 4 [(3, .int (nI i)), (0, .ref b), (1, .ref (aC 0)), (2, .ref (aM 0))]) (kk : ∀ (S' T' : Mem) (H1 : Heap) (locs1 : List Loc), LI D K aC aM s S' T' H1 locs1 → W p l e room_1 s m args below meth c H1 locs1 cells slots Q (F0 m 1372 ls [])) : W p l e room_1 s m args below meth c H locs cells slots Q (F0 m 909 ls []) := by
  have hx := C0.1
  have hb := C0.2.1
  obtain ⟨R, hP, hQ, hS⟩ := I
  obtain ⟨h1, h2, h3, h4, h5⟩ := sc
  obtain ⟨r, S', T', f1, f2, R'⟩ := p_when R (xs (nI i + 1).toNatClampNeg)
  refine lv_aload_n hx hb dL_law_909 rfl (lv_at hl 2 rfl) ?_
  refine lv_aload_n hx hb dL_law_910 rfl (lv_at hl 1 rfl) ?_
  refine lv_iload_n hx hb dL_law_911 rfl (lv_at hl 0 rfl) ?_
  refine lv_iconst (v := 1) hx hb dL_law_912 (by decide) ?_
  refine lv_iadd hx hb dL_law_913 ?_
  refine va_sld hx hb hX hbl hbA hS h1 dL_law_914 ?_
  refine l_ci (S' := S') C0 X hP hQ hS (As := [.int (xs (nI i + 1).toNatClampNeg)]) (rest := []) (m3_when l D K aC tL X.1 S _ f1) gL_law_X3_when rfl ⟨rfl, rfl⟩ hd_X3_when ⟨(Nat.le_of_ble_eq_true rfl), (Nat.le_of_ble_eq_true rfl)⟩ hl.1 rfl (Nat.le_of_ble_eq_true rfl) dL_law_915 hcs (fun H locs hP hQ hS => ?_)
  refine lv_aload_n hx hb dL_law_918 rfl (lv_at hl 3 rfl) ?_
  refine lv_aload_n hx hb dL_law_919 rfl (lv_at hl 1 rfl) ?_
  refine lv_iload_n hx hb dL_law_920 rfl (lv_at hl 0 rfl) ?_
  refine lv_iconst (v := 1) hx hb dL_law_921 (by decide) ?_
  refine lv_iadd hx hb dL_law_922 ?_
  refine va_sld hx hb hX hbl hbA hS h1 dL_law_923 ?_
  refine l_mi (T' := T') C0 X hP hQ hS (As := [.int (xs (nI i + 1).toNatClampNeg)]) (rest := [.int r]) (m4_when l D K aM X.2.1 T _ f2) gL_law_X4_when rfl ⟨rfl, rfl⟩ hd_X4_when ⟨(Nat.le_of_ble_eq_true rfl), (Nat.le_of_ble_eq_true rfl)⟩ hl.1 rfl (Nat.le_of_ble_eq_true rfl) dL_law_924 hcs (fun H locs hP hQ hS => ?_)
  exact lv_icmp_eq (tgt := 1372) hx hb dL_law_927 (by decide) (fun _ => kk S' T' H locs ⟨R', hP, hQ, hS⟩) (fun c1 => absurd rfl c1)
set_option maxHeartbeats 4000000 in
set_option maxRecDepth 100000 in
theorem l_lacks {p : Program} {l : Launch} {e : Env} {s : State} {m : MethodId} {args : Array Value} {below : List Frame} {meth : Method} {c : Code} {H : Heap} {locs : List Loc} {cells slots : Nat} {Q : State → Prop} {D : va_G} {K : Nat → ClassId} {tL : Nat} {aC aM : Nat → Nat} {S T : Mem} {ret : Option FieldType} {KK : State → Prop} {b L i : Nat} {xs : Nat → Int32} {ls : Array Slot} (C0 : Cx p s m args meth c RL wsL_law code 4 ret KK) (X : LX D K tL aC aM s) (I : LI D K aC aM s S T H locs) (hX : va_X b L xs s s.heap) (hbl : b < s.heap.size) (hbA : ¬ AL s b) (sc : SC i L) (hcs : cells ≤ room_1.cells ∧ slots ≤ room_1.slots) (hl : lv_has ls 4 [(3, .int (nI i)), (0, .ref b), (1, .ref (aC 0)), (2, .ref (aM 0))]) (kk : ∀ (S' T' : Mem) (H1 : Heap) (locs1 : List Loc), LI D K aC aM s S' T' H1 locs1 → W p l e room_1 s m args below meth c H1 locs1 cells slots Q (F0 m 1372 ls [])) : W p l e room_1 s m args below meth c H locs cells slots Q (F0 m 932 ls []) := by
  have hx := C0.1
  have hb := C0.2.1
  obtain ⟨R, hP, hQ, hS⟩ := I
  obtain ⟨h1, h2, h3, h4, h5⟩ := sc
  obtain ⟨r, S', T', f1, f2, R'⟩ := p_lacks R (xs (nI i + 1).toNatClampNeg)
  refine lv_aload_n hx hb dL_law_932 rfl (lv_at hl 2 rfl) ?_
  refine lv_aload_n hx hb dL_law_933 rfl (lv_at hl 1 rfl) ?_
  refine lv_iload_n hx hb dL_law_934 rfl (lv_at hl 0 rfl) ?_
  refine lv_iconst (v := 1) hx hb dL_law_935 (by decide) ?_
  refine lv_iadd hx hb dL_law_936 ?_
  refine va_sld hx hb hX hbl hbA hS h1 dL_law_937 ?_
  refine l_ci (S' := S') C0 X hP hQ hS (As := [.int (xs (nI i + 1).toNatClampNeg)]) (rest := []) (m3_lacks l D K aC tL X.1 S _ f1) gL_law_X3_lacks rfl ⟨rfl, rfl⟩ hd_X3_lacks ⟨(Nat.le_of_ble_eq_true rfl), (Nat.le_of_ble_eq_true rfl)⟩ hl.1 rfl (Nat.le_of_ble_eq_true rfl) dL_law_938 hcs (fun H locs hP hQ hS => ?_)
  refine lv_aload_n hx hb dL_law_941 rfl (lv_at hl 3 rfl) ?_
  refine lv_aload_n hx hb dL_law_942 rfl (lv_at hl 1 rfl) ?_
  refine lv_iload_n hx hb dL_law_943 rfl (lv_at hl 0 rfl) ?_
  refine lv_iconst (v := 1) hx hb dL_law_944 (by decide) ?_
  refine lv_iadd hx hb dL_law_945 ?_
  refine va_sld hx hb hX hbl hbA hS h1 dL_law_946 ?_
  refine l_mi (T' := T') C0 X hP hQ hS (As := [.int (xs (nI i + 1).toNatClampNeg)]) (rest := [.int r]) (m4_lacks l D K aM X.2.1 T _ f2) gL_law_X4_lacks rfl ⟨rfl, rfl⟩ hd_X4_lacks ⟨(Nat.le_of_ble_eq_true rfl), (Nat.le_of_ble_eq_true rfl)⟩ hl.1 rfl (Nat.le_of_ble_eq_true rfl) dL_law_947 hcs (fun H locs hP hQ hS => ?_)
  exact lv_icmp_eq (tgt := 1372) hx hb dL_law_950 (by decide) (fun _ => kk S' T' H locs ⟨R', hP, hQ, hS⟩) (fun c1 => absurd rfl c1)
set_option maxHeartbeats 4000000 in
set_option maxRecDepth 100000 in
theorem l_share {p : Program} {l : Launch} {e : Env} {s : State} {m : MethodId} {args : Array Value} {below : List Frame} {meth : Method} {c : Code} {H : Heap} {locs : List Loc} {cells slots : Nat} {Q : State → Prop} {D : va_G} {K : Nat → ClassId} {tL : Nat} {aC aM : Nat → Nat} {S T : Mem} {ret : Option FieldType} {KK : State → Prop} {b L i : Nat} {xs : Nat → Int32} {ls : Array Slot} (C0 : Cx p s m args meth c RL wsL_law code 4 ret KK) (X : LX D K tL aC aM s) (I : LI D K aC aM s S T H locs) (hX : va_X b L xs s s.heap) (hbl : b < s.heap.size) (hbA : ¬ AL s b) (sc : SC i L) (hcs : cells ≤ room_1.cells ∧ slots ≤ room_1.slots) (hl : lv_has ls 4 [(3, .int (nI i)), (0, .ref b), (1, .ref (aC 0)), (2, .ref (aM 0))]) (kk : ∀ (S' T' : Mem) (H1 : Heap) (locs1 : List Loc), LI D K aC aM s S' T' H1 locs1 → W p l e room_1 s m args below meth c H1 locs1 cells slots Q (F0 m 1372 ls [])) : W p l e room_1 s m args below meth c H locs cells slots Q (F0 m 955 ls []) := by
  have hx := C0.1
  have hb := C0.2.1
  obtain ⟨R, hP, hQ, hS⟩ := I
  obtain ⟨h1, h2, h3, h4, h5⟩ := sc
  obtain ⟨r, S', T', f1, f2, R'⟩ := p_share R 
  refine lv_aload_n hx hb dL_law_955 rfl (lv_at hl 2 rfl) ?_
  refine l_ci (S' := S') C0 X hP hQ hS (As := []) (rest := []) (m3_share l D K aC tL X.1 S f1) gL_law_X3_share rfl ⟨rfl, rfl⟩ hd_X3_share ⟨(Nat.le_of_ble_eq_true rfl), (Nat.le_of_ble_eq_true rfl)⟩ hl.1 rfl (Nat.le_of_ble_eq_true rfl) dL_law_956 hcs (fun H locs hP hQ hS => ?_)
  refine lv_aload_n hx hb dL_law_959 rfl (lv_at hl 3 rfl) ?_
  refine l_mi (T' := T') C0 X hP hQ hS (As := []) (rest := [.int r]) (m4_share l D K aM X.2.1 T f2) gL_law_X4_share rfl ⟨rfl, rfl⟩ hd_X4_share ⟨(Nat.le_of_ble_eq_true rfl), (Nat.le_of_ble_eq_true rfl)⟩ hl.1 rfl (Nat.le_of_ble_eq_true rfl) dL_law_960 hcs (fun H locs hP hQ hS => ?_)
  exact lv_icmp_eq (tgt := 1372) hx hb dL_law_963 (by decide) (fun _ => kk S' T' H locs ⟨R', hP, hQ, hS⟩) (fun c1 => absurd rfl c1)
set_option maxHeartbeats 4000000 in
set_option maxRecDepth 100000 in
theorem l_best {p : Program} {l : Launch} {e : Env} {s : State} {m : MethodId} {args : Array Value} {below : List Frame} {meth : Method} {c : Code} {H : Heap} {locs : List Loc} {cells slots : Nat} {Q : State → Prop} {D : va_G} {K : Nat → ClassId} {tL : Nat} {aC aM : Nat → Nat} {S T : Mem} {ret : Option FieldType} {KK : State → Prop} {b L i : Nat} {xs : Nat → Int32} {ls : Array Slot} (C0 : Cx p s m args meth c RL wsL_law code 4 ret KK) (X : LX D K tL aC aM s) (I : LI D K aC aM s S T H locs) (hX : va_X b L xs s s.heap) (hbl : b < s.heap.size) (hbA : ¬ AL s b) (sc : SC i L) (hcs : cells ≤ room_1.cells ∧ slots ≤ room_1.slots) (hl : lv_has ls 4 [(3, .int (nI i)), (0, .ref b), (1, .ref (aC 0)), (2, .ref (aM 0))]) (kk : ∀ (S' T' : Mem) (H1 : Heap) (locs1 : List Loc), LI D K aC aM s S' T' H1 locs1 → W p l e room_1 s m args below meth c H1 locs1 cells slots Q (F0 m 1372 ls [])) : W p l e room_1 s m args below meth c H locs cells slots Q (F0 m 968 ls []) := by
  have hx := C0.1
  have hb := C0.2.1
  obtain ⟨R, hP, hQ, hS⟩ := I
  obtain ⟨h1, h2, h3, h4, h5⟩ := sc
  obtain ⟨r, S', T', f1, f2, R'⟩ := p_best R 
  refine lv_aload_n hx hb dL_law_968 rfl (lv_at hl 2 rfl) ?_
  refine l_ci (S' := S') C0 X hP hQ hS (As := []) (rest := []) (m3_best l D K aC tL X.1 S f1) gL_law_X3_best rfl ⟨rfl, rfl⟩ hd_X3_best ⟨(Nat.le_of_ble_eq_true rfl), (Nat.le_of_ble_eq_true rfl)⟩ hl.1 rfl (Nat.le_of_ble_eq_true rfl) dL_law_969 hcs (fun H locs hP hQ hS => ?_)
  refine lv_aload_n hx hb dL_law_972 rfl (lv_at hl 3 rfl) ?_
  refine l_mi (T' := T') C0 X hP hQ hS (As := []) (rest := [.int r]) (m4_best l D K aM X.2.1 T f2) gL_law_X4_best rfl ⟨rfl, rfl⟩ hd_X4_best ⟨(Nat.le_of_ble_eq_true rfl), (Nat.le_of_ble_eq_true rfl)⟩ hl.1 rfl (Nat.le_of_ble_eq_true rfl) dL_law_973 hcs (fun H locs hP hQ hS => ?_)
  exact lv_icmp_eq (tgt := 1372) hx hb dL_law_976 (by decide) (fun _ => kk S' T' H locs ⟨R', hP, hQ, hS⟩) (fun c1 => absurd rfl c1)
set_option maxHeartbeats 4000000 in
set_option maxRecDepth 100000 in
theorem l_lending {p : Program} {l : Launch} {e : Env} {s : State} {m : MethodId} {args : Array Value} {below : List Frame} {meth : Method} {c : Code} {H : Heap} {locs : List Loc} {cells slots : Nat} {Q : State → Prop} {D : va_G} {K : Nat → ClassId} {tL : Nat} {aC aM : Nat → Nat} {S T : Mem} {ret : Option FieldType} {KK : State → Prop} {b L i : Nat} {xs : Nat → Int32} {ls : Array Slot} (C0 : Cx p s m args meth c RL wsL_law code 4 ret KK) (X : LX D K tL aC aM s) (I : LI D K aC aM s S T H locs) (hX : va_X b L xs s s.heap) (hbl : b < s.heap.size) (hbA : ¬ AL s b) (sc : SC i L) (hcs : cells ≤ room_1.cells ∧ slots ≤ room_1.slots) (hl : lv_has ls 4 [(3, .int (nI i)), (0, .ref b), (1, .ref (aC 0)), (2, .ref (aM 0))]) (kk : ∀ (S' T' : Mem) (H1 : Heap) (locs1 : List Loc), LI D K aC aM s S' T' H1 locs1 → W p l e room_1 s m args below meth c H1 locs1 cells slots Q (F0 m 1372 ls [])) : W p l e room_1 s m args below meth c H locs cells slots Q (F0 m 981 ls []) := by
  have hx := C0.1
  have hb := C0.2.1
  obtain ⟨R, hP, hQ, hS⟩ := I
  obtain ⟨h1, h2, h3, h4, h5⟩ := sc
  obtain ⟨r, S', T', f1, f2, R'⟩ := p_lending R (xs (nI i + 1).toNatClampNeg)
  refine lv_aload_n hx hb dL_law_981 rfl (lv_at hl 2 rfl) ?_
  refine lv_aload_n hx hb dL_law_982 rfl (lv_at hl 1 rfl) ?_
  refine lv_iload_n hx hb dL_law_983 rfl (lv_at hl 0 rfl) ?_
  refine lv_iconst (v := 1) hx hb dL_law_984 (by decide) ?_
  refine lv_iadd hx hb dL_law_985 ?_
  refine va_sld hx hb hX hbl hbA hS h1 dL_law_986 ?_
  refine l_ci (S' := S') C0 X hP hQ hS (As := [.int (xs (nI i + 1).toNatClampNeg)]) (rest := []) (m3_lending l D K aC tL X.1 S _ f1) gL_law_X3_lending rfl ⟨rfl, rfl⟩ hd_X3_lending ⟨(Nat.le_of_ble_eq_true rfl), (Nat.le_of_ble_eq_true rfl)⟩ hl.1 rfl (Nat.le_of_ble_eq_true rfl) dL_law_987 hcs (fun H locs hP hQ hS => ?_)
  refine lv_aload_n hx hb dL_law_990 rfl (lv_at hl 3 rfl) ?_
  refine lv_aload_n hx hb dL_law_991 rfl (lv_at hl 1 rfl) ?_
  refine lv_iload_n hx hb dL_law_992 rfl (lv_at hl 0 rfl) ?_
  refine lv_iconst (v := 1) hx hb dL_law_993 (by decide) ?_
  refine lv_iadd hx hb dL_law_994 ?_
  refine va_sld hx hb hX hbl hbA hS h1 dL_law_995 ?_
  refine l_mi (T' := T') C0 X hP hQ hS (As := [.int (xs (nI i + 1).toNatClampNeg)]) (rest := [.int r]) (m4_lending l D K aM X.2.1 T _ f2) gL_law_X4_lending rfl ⟨rfl, rfl⟩ hd_X4_lending ⟨(Nat.le_of_ble_eq_true rfl), (Nat.le_of_ble_eq_true rfl)⟩ hl.1 rfl (Nat.le_of_ble_eq_true rfl) dL_law_996 hcs (fun H locs hP hQ hS => ?_)
  exact lv_icmp_eq (tgt := 1372) hx hb dL_law_999 (by decide) (fun _ => kk S' T' H locs ⟨R', hP, hQ, hS⟩) (fun c1 => absurd rfl c1)
set_option maxHeartbeats 4000000 in
set_option maxRecDepth 100000 in
theorem l_greedy {p : Program} {l : Launch} {e : Env} {s : State} {m : MethodId} {args : Array Value} {below : List Frame} {meth : Method} {c : Code} {H : Heap} {locs : List Loc} {cells slots : Nat} {Q : State → Prop} {D : va_G} {K : Nat → ClassId} {tL : Nat} {aC aM : Nat → Nat} {S T : Mem} {ret : Option FieldType} {KK : State → Prop} {b L i : Nat} {xs : Nat → Int32} {ls : Array Slot} (C0 : Cx p s m args meth c RL wsL_law code 4 ret KK) (X : LX D K tL aC aM s) (I : LI D K aC aM s S T H locs) (hX : va_X b L xs s s.heap) (hbl : b < s.heap.size) (hbA : ¬ AL s b) (sc : SC i L) (hcs : cells ≤ room_1.cells ∧ slots ≤ room_1.slots) (hl : lv_has ls 4 [(3, .int (nI i)), (0, .ref b), (1, .ref (aC 0)), (2, .ref (aM 0))]) (kk : ∀ (S' T' : Mem) (H1 : Heap) (locs1 : List Loc), LI D K aC aM s S' T' H1 locs1 → W p l e room_1 s m args below meth c H1 locs1 cells slots Q (F0 m 1372 ls [])) : W p l e room_1 s m args below meth c H locs cells slots Q (F0 m 1004 ls []) := by
  have hx := C0.1
  have hb := C0.2.1
  obtain ⟨R, hP, hQ, hS⟩ := I
  obtain ⟨h1, h2, h3, h4, h5⟩ := sc
  obtain ⟨r, S', T', f1, f2, R'⟩ := p_greedy R (xs (nI i + 1).toNatClampNeg)
  refine lv_aload_n hx hb dL_law_1004 rfl (lv_at hl 2 rfl) ?_
  refine lv_aload_n hx hb dL_law_1005 rfl (lv_at hl 1 rfl) ?_
  refine lv_iload_n hx hb dL_law_1006 rfl (lv_at hl 0 rfl) ?_
  refine lv_iconst (v := 1) hx hb dL_law_1007 (by decide) ?_
  refine lv_iadd hx hb dL_law_1008 ?_
  refine va_sld hx hb hX hbl hbA hS h1 dL_law_1009 ?_
  refine l_ci (S' := S') C0 X hP hQ hS (As := [.int (xs (nI i + 1).toNatClampNeg)]) (rest := []) (m3_greedy l D K aC tL X.1 S _ f1) gL_law_X3_greedy rfl ⟨rfl, rfl⟩ hd_X3_greedy ⟨(Nat.le_of_ble_eq_true rfl), (Nat.le_of_ble_eq_true rfl)⟩ hl.1 rfl (Nat.le_of_ble_eq_true rfl) dL_law_1010 hcs (fun H locs hP hQ hS => ?_)
  refine lv_aload_n hx hb dL_law_1013 rfl (lv_at hl 3 rfl) ?_
  refine lv_aload_n hx hb dL_law_1014 rfl (lv_at hl 1 rfl) ?_
  refine lv_iload_n hx hb dL_law_1015 rfl (lv_at hl 0 rfl) ?_
  refine lv_iconst (v := 1) hx hb dL_law_1016 (by decide) ?_
  refine lv_iadd hx hb dL_law_1017 ?_
  refine va_sld hx hb hX hbl hbA hS h1 dL_law_1018 ?_
  refine l_mi (T' := T') C0 X hP hQ hS (As := [.int (xs (nI i + 1).toNatClampNeg)]) (rest := [.int r]) (m4_greedy l D K aM X.2.1 T _ f2) gL_law_X4_greedy rfl ⟨rfl, rfl⟩ hd_X4_greedy ⟨(Nat.le_of_ble_eq_true rfl), (Nat.le_of_ble_eq_true rfl)⟩ hl.1 rfl (Nat.le_of_ble_eq_true rfl) dL_law_1019 hcs (fun H locs hP hQ hS => ?_)
  exact lv_icmp_eq (tgt := 1372) hx hb dL_law_1022 (by decide) (fun _ => kk S' T' H locs ⟨R', hP, hQ, hS⟩) (fun c1 => absurd rfl c1)
set_option maxHeartbeats 4000000 in
set_option maxRecDepth 100000 in
theorem l_kinds {p : Program} {l : Launch} {e : Env} {s : State} {m : MethodId} {args : Array Value} {below : List Frame} {meth : Method} {c : Code} {H : Heap} {locs : List Loc} {cells slots : Nat} {Q : State → Prop} {D : va_G} {K : Nat → ClassId} {tL : Nat} {aC aM : Nat → Nat} {S T : Mem} {ret : Option FieldType} {KK : State → Prop} {b L i : Nat} {xs : Nat → Int32} {ls : Array Slot} (C0 : Cx p s m args meth c RL wsL_law code 4 ret KK) (X : LX D K tL aC aM s) (I : LI D K aC aM s S T H locs) (hX : va_X b L xs s s.heap) (hbl : b < s.heap.size) (hbA : ¬ AL s b) (sc : SC i L) (hcs : cells ≤ room_1.cells ∧ slots ≤ room_1.slots) (hl : lv_has ls 4 [(3, .int (nI i)), (0, .ref b), (1, .ref (aC 0)), (2, .ref (aM 0))]) (kk : ∀ (S' T' : Mem) (H1 : Heap) (locs1 : List Loc), LI D K aC aM s S' T' H1 locs1 → W p l e room_1 s m args below meth c H1 locs1 cells slots Q (F0 m 1372 ls [])) : W p l e room_1 s m args below meth c H locs cells slots Q (F0 m 1027 ls []) := by
  have hx := C0.1
  have hb := C0.2.1
  obtain ⟨R, hP, hQ, hS⟩ := I
  obtain ⟨h1, h2, h3, h4, h5⟩ := sc
  obtain ⟨r, S', T', f1, f2, R'⟩ := p_kinds R (xs (nI i + 1).toNatClampNeg) (xs (nI i + 2).toNatClampNeg)
  refine lv_aload_n hx hb dL_law_1027 rfl (lv_at hl 2 rfl) ?_
  refine lv_aload_n hx hb dL_law_1028 rfl (lv_at hl 1 rfl) ?_
  refine lv_iload_n hx hb dL_law_1029 rfl (lv_at hl 0 rfl) ?_
  refine lv_iconst (v := 1) hx hb dL_law_1030 (by decide) ?_
  refine lv_iadd hx hb dL_law_1031 ?_
  refine va_sld hx hb hX hbl hbA hS h1 dL_law_1032 ?_
  refine lv_aload_n hx hb dL_law_1033 rfl (lv_at hl 1 rfl) ?_
  refine lv_iload_n hx hb dL_law_1034 rfl (lv_at hl 0 rfl) ?_
  refine lv_iconst (v := 2) hx hb dL_law_1035 (by decide) ?_
  refine lv_iadd hx hb dL_law_1036 ?_
  refine va_sld hx hb hX hbl hbA hS h2 dL_law_1037 ?_
  refine l_ci (S' := S') C0 X hP hQ hS (As := [.int (xs (nI i + 1).toNatClampNeg), .int (xs (nI i + 2).toNatClampNeg)]) (rest := []) (m3_kinds l D K aC tL X.1 S _ _ f1) gL_law_X3_kinds rfl ⟨rfl, rfl⟩ hd_X3_kinds ⟨(Nat.le_of_ble_eq_true rfl), (Nat.le_of_ble_eq_true rfl)⟩ hl.1 rfl (Nat.le_of_ble_eq_true rfl) dL_law_1038 hcs (fun H locs hP hQ hS => ?_)
  refine lv_aload_n hx hb dL_law_1041 rfl (lv_at hl 3 rfl) ?_
  refine lv_aload_n hx hb dL_law_1042 rfl (lv_at hl 1 rfl) ?_
  refine lv_iload_n hx hb dL_law_1043 rfl (lv_at hl 0 rfl) ?_
  refine lv_iconst (v := 1) hx hb dL_law_1044 (by decide) ?_
  refine lv_iadd hx hb dL_law_1045 ?_
  refine va_sld hx hb hX hbl hbA hS h1 dL_law_1046 ?_
  refine lv_aload_n hx hb dL_law_1047 rfl (lv_at hl 1 rfl) ?_
  refine lv_iload_n hx hb dL_law_1048 rfl (lv_at hl 0 rfl) ?_
  refine lv_iconst (v := 2) hx hb dL_law_1049 (by decide) ?_
  refine lv_iadd hx hb dL_law_1050 ?_
  refine va_sld hx hb hX hbl hbA hS h2 dL_law_1051 ?_
  refine l_mi (T' := T') C0 X hP hQ hS (As := [.int (xs (nI i + 1).toNatClampNeg), .int (xs (nI i + 2).toNatClampNeg)]) (rest := [.int r]) (m4_kinds l D K aM X.2.1 T _ _ f2) gL_law_X4_kinds rfl ⟨rfl, rfl⟩ hd_X4_kinds ⟨(Nat.le_of_ble_eq_true rfl), (Nat.le_of_ble_eq_true rfl)⟩ hl.1 rfl (Nat.le_of_ble_eq_true rfl) dL_law_1052 hcs (fun H locs hP hQ hS => ?_)
  exact lv_icmp_eq (tgt := 1372) hx hb dL_law_1055 (by decide) (fun _ => kk S' T' H locs ⟨R', hP, hQ, hS⟩) (fun c1 => absurd rfl c1)
set_option maxHeartbeats 4000000 in
set_option maxRecDepth 100000 in
theorem l_test {p : Program} {l : Launch} {e : Env} {s : State} {m : MethodId} {args : Array Value} {below : List Frame} {meth : Method} {c : Code} {H : Heap} {locs : List Loc} {cells slots : Nat} {Q : State → Prop} {D : va_G} {K : Nat → ClassId} {tL : Nat} {aC aM : Nat → Nat} {S T : Mem} {ret : Option FieldType} {KK : State → Prop} {b L i : Nat} {xs : Nat → Int32} {ls : Array Slot} (C0 : Cx p s m args meth c RL wsL_law code 4 ret KK) (X : LX D K tL aC aM s) (I : LI D K aC aM s S T H locs) (hX : va_X b L xs s s.heap) (hbl : b < s.heap.size) (hbA : ¬ AL s b) (sc : SC i L) (hcs : cells ≤ room_1.cells ∧ slots ≤ room_1.slots) (hl : lv_has ls 4 [(3, .int (nI i)), (0, .ref b), (1, .ref (aC 0)), (2, .ref (aM 0))]) (kk : ∀ (S' T' : Mem) (H1 : Heap) (locs1 : List Loc), LI D K aC aM s S' T' H1 locs1 → W p l e room_1 s m args below meth c H1 locs1 cells slots Q (F0 m 1372 ls [])) : W p l e room_1 s m args below meth c H locs cells slots Q (F0 m 1060 ls []) := by
  have hx := C0.1
  have hb := C0.2.1
  obtain ⟨R, hP, hQ, hS⟩ := I
  obtain ⟨h1, h2, h3, h4, h5⟩ := sc
  obtain ⟨r, S', T', f1, f2, R'⟩ := p_test R (xs (nI i + 1).toNatClampNeg) (xs (nI i + 2).toNatClampNeg)
  refine lv_aload_n hx hb dL_law_1060 rfl (lv_at hl 2 rfl) ?_
  refine lv_aload_n hx hb dL_law_1061 rfl (lv_at hl 1 rfl) ?_
  refine lv_iload_n hx hb dL_law_1062 rfl (lv_at hl 0 rfl) ?_
  refine lv_iconst (v := 1) hx hb dL_law_1063 (by decide) ?_
  refine lv_iadd hx hb dL_law_1064 ?_
  refine va_sld hx hb hX hbl hbA hS h1 dL_law_1065 ?_
  refine lv_aload_n hx hb dL_law_1066 rfl (lv_at hl 1 rfl) ?_
  refine lv_iload_n hx hb dL_law_1067 rfl (lv_at hl 0 rfl) ?_
  refine lv_iconst (v := 2) hx hb dL_law_1068 (by decide) ?_
  refine lv_iadd hx hb dL_law_1069 ?_
  refine va_sld hx hb hX hbl hbA hS h2 dL_law_1070 ?_
  refine l_ci (S' := S') C0 X hP hQ hS (As := [.int (xs (nI i + 1).toNatClampNeg), .int (xs (nI i + 2).toNatClampNeg)]) (rest := []) (m3_test l D K aC tL X.1 S _ _ f1) gL_law_X3_test rfl ⟨rfl, rfl⟩ hd_X3_test ⟨(Nat.le_of_ble_eq_true rfl), (Nat.le_of_ble_eq_true rfl)⟩ hl.1 rfl (Nat.le_of_ble_eq_true rfl) dL_law_1071 hcs (fun H locs hP hQ hS => ?_)
  refine lv_aload_n hx hb dL_law_1074 rfl (lv_at hl 3 rfl) ?_
  refine lv_aload_n hx hb dL_law_1075 rfl (lv_at hl 1 rfl) ?_
  refine lv_iload_n hx hb dL_law_1076 rfl (lv_at hl 0 rfl) ?_
  refine lv_iconst (v := 1) hx hb dL_law_1077 (by decide) ?_
  refine lv_iadd hx hb dL_law_1078 ?_
  refine va_sld hx hb hX hbl hbA hS h1 dL_law_1079 ?_
  refine lv_aload_n hx hb dL_law_1080 rfl (lv_at hl 1 rfl) ?_
  refine lv_iload_n hx hb dL_law_1081 rfl (lv_at hl 0 rfl) ?_
  refine lv_iconst (v := 2) hx hb dL_law_1082 (by decide) ?_
  refine lv_iadd hx hb dL_law_1083 ?_
  refine va_sld hx hb hX hbl hbA hS h2 dL_law_1084 ?_
  refine l_mi (T' := T') C0 X hP hQ hS (As := [.int (xs (nI i + 1).toNatClampNeg), .int (xs (nI i + 2).toNatClampNeg)]) (rest := [.int r]) (m4_test l D K aM X.2.1 T _ _ f2) gL_law_X4_test rfl ⟨rfl, rfl⟩ hd_X4_test ⟨(Nat.le_of_ble_eq_true rfl), (Nat.le_of_ble_eq_true rfl)⟩ hl.1 rfl (Nat.le_of_ble_eq_true rfl) dL_law_1085 hcs (fun H locs hP hQ hS => ?_)
  exact lv_icmp_eq (tgt := 1372) hx hb dL_law_1088 (by decide) (fun _ => kk S' T' H locs ⟨R', hP, hQ, hS⟩) (fun c1 => absurd rfl c1)
set_option maxHeartbeats 4000000 in
set_option maxRecDepth 100000 in
theorem l_jars {p : Program} {l : Launch} {e : Env} {s : State} {m : MethodId} {args : Array Value} {below : List Frame} {meth : Method} {c : Code} {H : Heap} {locs : List Loc} {cells slots : Nat} {Q : State → Prop} {D : va_G} {K : Nat → ClassId} {tL : Nat} {aC aM : Nat → Nat} {S T : Mem} {ret : Option FieldType} {KK : State → Prop} {b L i : Nat} {xs : Nat → Int32} {ls : Array Slot} (C0 : Cx p s m args meth c RL wsL_law code 4 ret KK) (X : LX D K tL aC aM s) (I : LI D K aC aM s S T H locs) (hX : va_X b L xs s s.heap) (hbl : b < s.heap.size) (hbA : ¬ AL s b) (sc : SC i L) (hcs : cells ≤ room_1.cells ∧ slots ≤ room_1.slots) (hl : lv_has ls 4 [(3, .int (nI i)), (0, .ref b), (1, .ref (aC 0)), (2, .ref (aM 0))]) (kk : ∀ (S' T' : Mem) (H1 : Heap) (locs1 : List Loc), LI D K aC aM s S' T' H1 locs1 → W p l e room_1 s m args below meth c H1 locs1 cells slots Q (F0 m 1372 ls [])) : W p l e room_1 s m args below meth c H locs cells slots Q (F0 m 1093 ls []) := by
  have hx := C0.1
  have hb := C0.2.1
  obtain ⟨R, hP, hQ, hS⟩ := I
  obtain ⟨h1, h2, h3, h4, h5⟩ := sc
  obtain ⟨r, S', T', f1, f2, R'⟩ := p_jars R (xs (nI i + 1).toNatClampNeg) (xs (nI i + 2).toNatClampNeg)
  refine lv_aload_n hx hb dL_law_1093 rfl (lv_at hl 2 rfl) ?_
  refine lv_aload_n hx hb dL_law_1094 rfl (lv_at hl 1 rfl) ?_
  refine lv_iload_n hx hb dL_law_1095 rfl (lv_at hl 0 rfl) ?_
  refine lv_iconst (v := 1) hx hb dL_law_1096 (by decide) ?_
  refine lv_iadd hx hb dL_law_1097 ?_
  refine va_sld hx hb hX hbl hbA hS h1 dL_law_1098 ?_
  refine lv_aload_n hx hb dL_law_1099 rfl (lv_at hl 1 rfl) ?_
  refine lv_iload_n hx hb dL_law_1100 rfl (lv_at hl 0 rfl) ?_
  refine lv_iconst (v := 2) hx hb dL_law_1101 (by decide) ?_
  refine lv_iadd hx hb dL_law_1102 ?_
  refine va_sld hx hb hX hbl hbA hS h2 dL_law_1103 ?_
  refine l_ci (S' := S') C0 X hP hQ hS (As := [.int (xs (nI i + 1).toNatClampNeg), .int (xs (nI i + 2).toNatClampNeg)]) (rest := []) (m3_jars l D K aC tL X.1 S _ _ f1) gL_law_X3_jars rfl ⟨rfl, rfl⟩ hd_X3_jars ⟨(Nat.le_of_ble_eq_true rfl), (Nat.le_of_ble_eq_true rfl)⟩ hl.1 rfl (Nat.le_of_ble_eq_true rfl) dL_law_1104 hcs (fun H locs hP hQ hS => ?_)
  refine lv_aload_n hx hb dL_law_1107 rfl (lv_at hl 3 rfl) ?_
  refine lv_aload_n hx hb dL_law_1108 rfl (lv_at hl 1 rfl) ?_
  refine lv_iload_n hx hb dL_law_1109 rfl (lv_at hl 0 rfl) ?_
  refine lv_iconst (v := 1) hx hb dL_law_1110 (by decide) ?_
  refine lv_iadd hx hb dL_law_1111 ?_
  refine va_sld hx hb hX hbl hbA hS h1 dL_law_1112 ?_
  refine lv_aload_n hx hb dL_law_1113 rfl (lv_at hl 1 rfl) ?_
  refine lv_iload_n hx hb dL_law_1114 rfl (lv_at hl 0 rfl) ?_
  refine lv_iconst (v := 2) hx hb dL_law_1115 (by decide) ?_
  refine lv_iadd hx hb dL_law_1116 ?_
  refine va_sld hx hb hX hbl hbA hS h2 dL_law_1117 ?_
  refine l_mi (T' := T') C0 X hP hQ hS (As := [.int (xs (nI i + 1).toNatClampNeg), .int (xs (nI i + 2).toNatClampNeg)]) (rest := [.int r]) (m4_jars l D K aM X.2.1 T _ _ f2) gL_law_X4_jars rfl ⟨rfl, rfl⟩ hd_X4_jars ⟨(Nat.le_of_ble_eq_true rfl), (Nat.le_of_ble_eq_true rfl)⟩ hl.1 rfl (Nat.le_of_ble_eq_true rfl) dL_law_1118 hcs (fun H locs hP hQ hS => ?_)
  exact lv_icmp_eq (tgt := 1372) hx hb dL_law_1121 (by decide) (fun _ => kk S' T' H locs ⟨R', hP, hQ, hS⟩) (fun c1 => absurd rfl c1)
set_option maxHeartbeats 4000000 in
set_option maxRecDepth 100000 in
theorem l_duel {p : Program} {l : Launch} {e : Env} {s : State} {m : MethodId} {args : Array Value} {below : List Frame} {meth : Method} {c : Code} {H : Heap} {locs : List Loc} {cells slots : Nat} {Q : State → Prop} {D : va_G} {K : Nat → ClassId} {tL : Nat} {aC aM : Nat → Nat} {S T : Mem} {ret : Option FieldType} {KK : State → Prop} {b L i : Nat} {xs : Nat → Int32} {ls : Array Slot} (C0 : Cx p s m args meth c RL wsL_law code 4 ret KK) (X : LX D K tL aC aM s) (I : LI D K aC aM s S T H locs) (hX : va_X b L xs s s.heap) (hbl : b < s.heap.size) (hbA : ¬ AL s b) (sc : SC i L) (hcs : cells ≤ room_1.cells ∧ slots ≤ room_1.slots) (hl : lv_has ls 4 [(3, .int (nI i)), (0, .ref b), (1, .ref (aC 0)), (2, .ref (aM 0))]) (kk : ∀ (S' T' : Mem) (H1 : Heap) (locs1 : List Loc), LI D K aC aM s S' T' H1 locs1 → W p l e room_1 s m args below meth c H1 locs1 cells slots Q (F0 m 1372 ls [])) : W p l e room_1 s m args below meth c H locs cells slots Q (F0 m 1126 ls []) := by
  have hx := C0.1
  have hb := C0.2.1
  obtain ⟨R, hP, hQ, hS⟩ := I
  obtain ⟨h1, h2, h3, h4, h5⟩ := sc
  obtain ⟨r, T', f1, f2, R'⟩ := p_duel R (xs (nI i + 1).toNatClampNeg) (xs (nI i + 2).toNatClampNeg) (xs (nI i + 3).toNatClampNeg)
  refine lv_aload_n hx hb dL_law_1126 rfl (lv_at hl 2 rfl) ?_
  refine lv_aload_n hx hb dL_law_1127 rfl (lv_at hl 1 rfl) ?_
  refine lv_iload_n hx hb dL_law_1128 rfl (lv_at hl 0 rfl) ?_
  refine lv_iconst (v := 1) hx hb dL_law_1129 (by decide) ?_
  refine lv_iadd hx hb dL_law_1130 ?_
  refine va_sld hx hb hX hbl hbA hS h1 dL_law_1131 ?_
  refine lv_aload_n hx hb dL_law_1132 rfl (lv_at hl 1 rfl) ?_
  refine lv_iload_n hx hb dL_law_1133 rfl (lv_at hl 0 rfl) ?_
  refine lv_iconst (v := 2) hx hb dL_law_1134 (by decide) ?_
  refine lv_iadd hx hb dL_law_1135 ?_
  refine va_sld hx hb hX hbl hbA hS h2 dL_law_1136 ?_
  refine lv_aload_n hx hb dL_law_1137 rfl (lv_at hl 1 rfl) ?_
  refine lv_iload_n hx hb dL_law_1138 rfl (lv_at hl 0 rfl) ?_
  refine lv_iconst (v := 3) hx hb dL_law_1139 (by decide) ?_
  refine lv_iadd hx hb dL_law_1140 ?_
  refine va_sld hx hb hX hbl hbA hS h3 dL_law_1141 ?_
  refine l_ci (S' := S) C0 X hP hQ hS (As := [.int (xs (nI i + 1).toNatClampNeg), .int (xs (nI i + 2).toNatClampNeg), .int (xs (nI i + 3).toNatClampNeg)]) (rest := []) (m3_duel l D K aC tL X.1 S _ _ _ f1) gL_law_X3_duel rfl ⟨rfl, rfl⟩ hd_X3_duel ⟨(Nat.le_of_ble_eq_true rfl), (Nat.le_of_ble_eq_true rfl)⟩ hl.1 rfl (Nat.le_of_ble_eq_true rfl) dL_law_1142 hcs (fun H locs hP hQ hS => ?_)
  refine lv_aload_n hx hb dL_law_1145 rfl (lv_at hl 3 rfl) ?_
  refine lv_aload_n hx hb dL_law_1146 rfl (lv_at hl 1 rfl) ?_
  refine lv_iload_n hx hb dL_law_1147 rfl (lv_at hl 0 rfl) ?_
  refine lv_iconst (v := 1) hx hb dL_law_1148 (by decide) ?_
  refine lv_iadd hx hb dL_law_1149 ?_
  refine va_sld hx hb hX hbl hbA hS h1 dL_law_1150 ?_
  refine lv_aload_n hx hb dL_law_1151 rfl (lv_at hl 1 rfl) ?_
  refine lv_iload_n hx hb dL_law_1152 rfl (lv_at hl 0 rfl) ?_
  refine lv_iconst (v := 2) hx hb dL_law_1153 (by decide) ?_
  refine lv_iadd hx hb dL_law_1154 ?_
  refine va_sld hx hb hX hbl hbA hS h2 dL_law_1155 ?_
  refine lv_aload_n hx hb dL_law_1156 rfl (lv_at hl 1 rfl) ?_
  refine lv_iload_n hx hb dL_law_1157 rfl (lv_at hl 0 rfl) ?_
  refine lv_iconst (v := 3) hx hb dL_law_1158 (by decide) ?_
  refine lv_iadd hx hb dL_law_1159 ?_
  refine va_sld hx hb hX hbl hbA hS h3 dL_law_1160 ?_
  refine l_mi (T' := T') C0 X hP hQ hS (As := [.int (xs (nI i + 1).toNatClampNeg), .int (xs (nI i + 2).toNatClampNeg), .int (xs (nI i + 3).toNatClampNeg)]) (rest := [.int r]) (m4_duel l D K aM X.2.1 T _ _ _ f2) gL_law_X4_duel rfl ⟨rfl, rfl⟩ hd_X4_duel ⟨(Nat.le_of_ble_eq_true rfl), (Nat.le_of_ble_eq_true rfl)⟩ hl.1 rfl (Nat.le_of_ble_eq_true rfl) dL_law_1161 hcs (fun H locs hP hQ hS => ?_)
  exact lv_icmp_eq (tgt := 1372) hx hb dL_law_1164 (by decide) (fun _ => kk S T' H locs ⟨R', hP, hQ, hS⟩) (fun c1 => absurd rfl c1)
set_option maxHeartbeats 4000000 in
set_option maxRecDepth 100000 in
theorem l_odds {p : Program} {l : Launch} {e : Env} {s : State} {m : MethodId} {args : Array Value} {below : List Frame} {meth : Method} {c : Code} {H : Heap} {locs : List Loc} {cells slots : Nat} {Q : State → Prop} {D : va_G} {K : Nat → ClassId} {tL : Nat} {aC aM : Nat → Nat} {S T : Mem} {ret : Option FieldType} {KK : State → Prop} {b L i : Nat} {xs : Nat → Int32} {ls : Array Slot} (C0 : Cx p s m args meth c RL wsL_law code 4 ret KK) (X : LX D K tL aC aM s) (I : LI D K aC aM s S T H locs) (hX : va_X b L xs s s.heap) (hbl : b < s.heap.size) (hbA : ¬ AL s b) (sc : SC i L) (hcs : cells ≤ room_1.cells ∧ slots ≤ room_1.slots) (hl : lv_has ls 4 [(3, .int (nI i)), (0, .ref b), (1, .ref (aC 0)), (2, .ref (aM 0))]) (kk : ∀ (S' T' : Mem) (H1 : Heap) (locs1 : List Loc), LI D K aC aM s S' T' H1 locs1 → W p l e room_1 s m args below meth c H1 locs1 cells slots Q (F0 m 1372 ls [])) : W p l e room_1 s m args below meth c H locs cells slots Q (F0 m 1169 ls []) := by
  have hx := C0.1
  have hb := C0.2.1
  obtain ⟨R, hP, hQ, hS⟩ := I
  obtain ⟨h1, h2, h3, h4, h5⟩ := sc
  obtain ⟨r, S', T', f1, f2, R'⟩ := p_odds R (xs (nI i + 1).toNatClampNeg) (xs (nI i + 2).toNatClampNeg)
  refine lv_aload_n hx hb dL_law_1169 rfl (lv_at hl 2 rfl) ?_
  refine lv_aload_n hx hb dL_law_1170 rfl (lv_at hl 1 rfl) ?_
  refine lv_iload_n hx hb dL_law_1171 rfl (lv_at hl 0 rfl) ?_
  refine lv_iconst (v := 1) hx hb dL_law_1172 (by decide) ?_
  refine lv_iadd hx hb dL_law_1173 ?_
  refine va_sld hx hb hX hbl hbA hS h1 dL_law_1174 ?_
  refine lv_aload_n hx hb dL_law_1175 rfl (lv_at hl 1 rfl) ?_
  refine lv_iload_n hx hb dL_law_1176 rfl (lv_at hl 0 rfl) ?_
  refine lv_iconst (v := 2) hx hb dL_law_1177 (by decide) ?_
  refine lv_iadd hx hb dL_law_1178 ?_
  refine va_sld hx hb hX hbl hbA hS h2 dL_law_1179 ?_
  refine l_ci (S' := S') C0 X hP hQ hS (As := [.int (xs (nI i + 1).toNatClampNeg), .int (xs (nI i + 2).toNatClampNeg)]) (rest := []) (m3_odds l D K aC tL X.1 S _ _ f1) gL_law_X3_odds rfl ⟨rfl, rfl⟩ hd_X3_odds ⟨(Nat.le_of_ble_eq_true rfl), (Nat.le_of_ble_eq_true rfl)⟩ hl.1 rfl (Nat.le_of_ble_eq_true rfl) dL_law_1180 hcs (fun H locs hP hQ hS => ?_)
  refine lv_aload_n hx hb dL_law_1183 rfl (lv_at hl 3 rfl) ?_
  refine lv_aload_n hx hb dL_law_1184 rfl (lv_at hl 1 rfl) ?_
  refine lv_iload_n hx hb dL_law_1185 rfl (lv_at hl 0 rfl) ?_
  refine lv_iconst (v := 1) hx hb dL_law_1186 (by decide) ?_
  refine lv_iadd hx hb dL_law_1187 ?_
  refine va_sld hx hb hX hbl hbA hS h1 dL_law_1188 ?_
  refine lv_aload_n hx hb dL_law_1189 rfl (lv_at hl 1 rfl) ?_
  refine lv_iload_n hx hb dL_law_1190 rfl (lv_at hl 0 rfl) ?_
  refine lv_iconst (v := 2) hx hb dL_law_1191 (by decide) ?_
  refine lv_iadd hx hb dL_law_1192 ?_
  refine va_sld hx hb hX hbl hbA hS h2 dL_law_1193 ?_
  refine l_mi (T' := T') C0 X hP hQ hS (As := [.int (xs (nI i + 1).toNatClampNeg), .int (xs (nI i + 2).toNatClampNeg)]) (rest := [.int r]) (m4_odds l D K aM X.2.1 T _ _ f2) gL_law_X4_odds rfl ⟨rfl, rfl⟩ hd_X4_odds ⟨(Nat.le_of_ble_eq_true rfl), (Nat.le_of_ble_eq_true rfl)⟩ hl.1 rfl (Nat.le_of_ble_eq_true rfl) dL_law_1194 hcs (fun H locs hP hQ hS => ?_)
  exact lv_icmp_eq (tgt := 1372) hx hb dL_law_1197 (by decide) (fun _ => kk S' T' H locs ⟨R', hP, hQ, hS⟩) (fun c1 => absurd rfl c1)
set_option maxHeartbeats 4000000 in
set_option maxRecDepth 100000 in
theorem l_mid {p : Program} {l : Launch} {e : Env} {s : State} {m : MethodId} {args : Array Value} {below : List Frame} {meth : Method} {c : Code} {H : Heap} {locs : List Loc} {cells slots : Nat} {Q : State → Prop} {D : va_G} {K : Nat → ClassId} {tL : Nat} {aC aM : Nat → Nat} {S T : Mem} {ret : Option FieldType} {KK : State → Prop} {b L i : Nat} {xs : Nat → Int32} {ls : Array Slot} (C0 : Cx p s m args meth c RL wsL_law code 4 ret KK) (X : LX D K tL aC aM s) (I : LI D K aC aM s S T H locs) (hX : va_X b L xs s s.heap) (hbl : b < s.heap.size) (hbA : ¬ AL s b) (sc : SC i L) (hcs : cells ≤ room_1.cells ∧ slots ≤ room_1.slots) (hl : lv_has ls 4 [(3, .int (nI i)), (0, .ref b), (1, .ref (aC 0)), (2, .ref (aM 0))]) (kk : ∀ (S' T' : Mem) (H1 : Heap) (locs1 : List Loc), LI D K aC aM s S' T' H1 locs1 → W p l e room_1 s m args below meth c H1 locs1 cells slots Q (F0 m 1372 ls [])) : W p l e room_1 s m args below meth c H locs cells slots Q (F0 m 1202 ls []) := by
  have hx := C0.1
  have hb := C0.2.1
  obtain ⟨R, hP, hQ, hS⟩ := I
  obtain ⟨h1, h2, h3, h4, h5⟩ := sc
  obtain ⟨r, S', T', f1, f2, R'⟩ := p_mid R (xs (nI i + 1).toNatClampNeg)
  refine lv_aload_n hx hb dL_law_1202 rfl (lv_at hl 2 rfl) ?_
  refine lv_aload_n hx hb dL_law_1203 rfl (lv_at hl 1 rfl) ?_
  refine lv_iload_n hx hb dL_law_1204 rfl (lv_at hl 0 rfl) ?_
  refine lv_iconst (v := 1) hx hb dL_law_1205 (by decide) ?_
  refine lv_iadd hx hb dL_law_1206 ?_
  refine va_sld hx hb hX hbl hbA hS h1 dL_law_1207 ?_
  refine l_ci (S' := S') C0 X hP hQ hS (As := [.int (xs (nI i + 1).toNatClampNeg)]) (rest := []) (m3_mid l D K aC tL X.1 S _ f1) gL_law_X3_mid rfl ⟨rfl, rfl⟩ hd_X3_mid ⟨(Nat.le_of_ble_eq_true rfl), (Nat.le_of_ble_eq_true rfl)⟩ hl.1 rfl (Nat.le_of_ble_eq_true rfl) dL_law_1208 hcs (fun H locs hP hQ hS => ?_)
  refine lv_aload_n hx hb dL_law_1211 rfl (lv_at hl 3 rfl) ?_
  refine lv_aload_n hx hb dL_law_1212 rfl (lv_at hl 1 rfl) ?_
  refine lv_iload_n hx hb dL_law_1213 rfl (lv_at hl 0 rfl) ?_
  refine lv_iconst (v := 1) hx hb dL_law_1214 (by decide) ?_
  refine lv_iadd hx hb dL_law_1215 ?_
  refine va_sld hx hb hX hbl hbA hS h1 dL_law_1216 ?_
  refine l_mi (T' := T') C0 X hP hQ hS (As := [.int (xs (nI i + 1).toNatClampNeg)]) (rest := [.int r]) (m4_mid l D K aM X.2.1 T _ f2) gL_law_X4_mid rfl ⟨rfl, rfl⟩ hd_X4_mid ⟨(Nat.le_of_ble_eq_true rfl), (Nat.le_of_ble_eq_true rfl)⟩ hl.1 rfl (Nat.le_of_ble_eq_true rfl) dL_law_1217 hcs (fun H locs hP hQ hS => ?_)
  exact lv_icmp_eq (tgt := 1372) hx hb dL_law_1220 (by decide) (fun _ => kk S' T' H locs ⟨R', hP, hQ, hS⟩) (fun c1 => absurd rfl c1)
set_option maxHeartbeats 4000000 in
set_option maxRecDepth 100000 in
theorem l_lots {p : Program} {l : Launch} {e : Env} {s : State} {m : MethodId} {args : Array Value} {below : List Frame} {meth : Method} {c : Code} {H : Heap} {locs : List Loc} {cells slots : Nat} {Q : State → Prop} {D : va_G} {K : Nat → ClassId} {tL : Nat} {aC aM : Nat → Nat} {S T : Mem} {ret : Option FieldType} {KK : State → Prop} {b L i : Nat} {xs : Nat → Int32} {ls : Array Slot} (C0 : Cx p s m args meth c RL wsL_law code 4 ret KK) (X : LX D K tL aC aM s) (I : LI D K aC aM s S T H locs) (hX : va_X b L xs s s.heap) (hbl : b < s.heap.size) (hbA : ¬ AL s b) (sc : SC i L) (hcs : cells ≤ room_1.cells ∧ slots ≤ room_1.slots) (hl : lv_has ls 4 [(3, .int (nI i)), (0, .ref b), (1, .ref (aC 0)), (2, .ref (aM 0))]) (kk : ∀ (S' T' : Mem) (H1 : Heap) (locs1 : List Loc), LI D K aC aM s S' T' H1 locs1 → W p l e room_1 s m args below meth c H1 locs1 cells slots Q (F0 m 1372 ls [])) : W p l e room_1 s m args below meth c H locs cells slots Q (F0 m 1225 ls []) := by
  have hx := C0.1
  have hb := C0.2.1
  obtain ⟨R, hP, hQ, hS⟩ := I
  obtain ⟨h1, h2, h3, h4, h5⟩ := sc
  obtain ⟨r, S', T', f1, f2, R'⟩ := p_lots R (xs (nI i + 1).toNatClampNeg) (xs (nI i + 2).toNatClampNeg)
  refine lv_aload_n hx hb dL_law_1225 rfl (lv_at hl 2 rfl) ?_
  refine lv_aload_n hx hb dL_law_1226 rfl (lv_at hl 1 rfl) ?_
  refine lv_iload_n hx hb dL_law_1227 rfl (lv_at hl 0 rfl) ?_
  refine lv_iconst (v := 1) hx hb dL_law_1228 (by decide) ?_
  refine lv_iadd hx hb dL_law_1229 ?_
  refine va_sld hx hb hX hbl hbA hS h1 dL_law_1230 ?_
  refine lv_aload_n hx hb dL_law_1231 rfl (lv_at hl 1 rfl) ?_
  refine lv_iload_n hx hb dL_law_1232 rfl (lv_at hl 0 rfl) ?_
  refine lv_iconst (v := 2) hx hb dL_law_1233 (by decide) ?_
  refine lv_iadd hx hb dL_law_1234 ?_
  refine va_sld hx hb hX hbl hbA hS h2 dL_law_1235 ?_
  refine l_ci (S' := S') C0 X hP hQ hS (As := [.int (xs (nI i + 1).toNatClampNeg), .int (xs (nI i + 2).toNatClampNeg)]) (rest := []) (m3_lots l D K aC tL X.1 S _ _ f1) gL_law_X3_lots rfl ⟨rfl, rfl⟩ hd_X3_lots ⟨(Nat.le_of_ble_eq_true rfl), (Nat.le_of_ble_eq_true rfl)⟩ hl.1 rfl (Nat.le_of_ble_eq_true rfl) dL_law_1236 hcs (fun H locs hP hQ hS => ?_)
  refine lv_aload_n hx hb dL_law_1239 rfl (lv_at hl 3 rfl) ?_
  refine lv_aload_n hx hb dL_law_1240 rfl (lv_at hl 1 rfl) ?_
  refine lv_iload_n hx hb dL_law_1241 rfl (lv_at hl 0 rfl) ?_
  refine lv_iconst (v := 1) hx hb dL_law_1242 (by decide) ?_
  refine lv_iadd hx hb dL_law_1243 ?_
  refine va_sld hx hb hX hbl hbA hS h1 dL_law_1244 ?_
  refine lv_aload_n hx hb dL_law_1245 rfl (lv_at hl 1 rfl) ?_
  refine lv_iload_n hx hb dL_law_1246 rfl (lv_at hl 0 rfl) ?_
  refine lv_iconst (v := 2) hx hb dL_law_1247 (by decide) ?_
  refine lv_iadd hx hb dL_law_1248 ?_
  refine va_sld hx hb hX hbl hbA hS h2 dL_law_1249 ?_
  refine l_mi (T' := T') C0 X hP hQ hS (As := [.int (xs (nI i + 1).toNatClampNeg), .int (xs (nI i + 2).toNatClampNeg)]) (rest := [.int r]) (m4_lots l D K aM X.2.1 T _ _ f2) gL_law_X4_lots rfl ⟨rfl, rfl⟩ hd_X4_lots ⟨(Nat.le_of_ble_eq_true rfl), (Nat.le_of_ble_eq_true rfl)⟩ hl.1 rfl (Nat.le_of_ble_eq_true rfl) dL_law_1250 hcs (fun H locs hP hQ hS => ?_)
  exact lv_icmp_eq (tgt := 1372) hx hb dL_law_1253 (by decide) (fun _ => kk S' T' H locs ⟨R', hP, hQ, hS⟩) (fun c1 => absurd rfl c1)
set_option maxHeartbeats 4000000 in
set_option maxRecDepth 100000 in
theorem l_asked {p : Program} {l : Launch} {e : Env} {s : State} {m : MethodId} {args : Array Value} {below : List Frame} {meth : Method} {c : Code} {H : Heap} {locs : List Loc} {cells slots : Nat} {Q : State → Prop} {D : va_G} {K : Nat → ClassId} {tL : Nat} {aC aM : Nat → Nat} {S T : Mem} {ret : Option FieldType} {KK : State → Prop} {b L i : Nat} {xs : Nat → Int32} {ls : Array Slot} (C0 : Cx p s m args meth c RL wsL_law code 4 ret KK) (X : LX D K tL aC aM s) (I : LI D K aC aM s S T H locs) (hX : va_X b L xs s s.heap) (hbl : b < s.heap.size) (hbA : ¬ AL s b) (sc : SC i L) (hcs : cells ≤ room_1.cells ∧ slots ≤ room_1.slots) (hl : lv_has ls 4 [(3, .int (nI i)), (0, .ref b), (1, .ref (aC 0)), (2, .ref (aM 0))]) (kk : ∀ (S' T' : Mem) (H1 : Heap) (locs1 : List Loc), LI D K aC aM s S' T' H1 locs1 → W p l e room_1 s m args below meth c H1 locs1 cells slots Q (F0 m 1372 ls [])) : W p l e room_1 s m args below meth c H locs cells slots Q (F0 m 1258 ls []) := by
  have hx := C0.1
  have hb := C0.2.1
  obtain ⟨R, hP, hQ, hS⟩ := I
  obtain ⟨h1, h2, h3, h4, h5⟩ := sc
  obtain ⟨r, f1, f2⟩ := p_asked R 
  have R' := R
  refine lv_aload_n hx hb dL_law_1258 rfl (lv_at hl 2 rfl) ?_
  refine l_ci (S' := S) C0 X hP hQ hS (As := []) (rest := []) (m3_asked l D K aC tL X.1 S f1) gL_law_X3_asked rfl ⟨rfl, rfl⟩ hd_X3_asked ⟨(Nat.le_of_ble_eq_true rfl), (Nat.le_of_ble_eq_true rfl)⟩ hl.1 rfl (Nat.le_of_ble_eq_true rfl) dL_law_1259 hcs (fun H locs hP hQ hS => ?_)
  refine lv_aload_n hx hb dL_law_1262 rfl (lv_at hl 3 rfl) ?_
  refine l_mi (T' := T) C0 X hP hQ hS (As := []) (rest := [.int r]) (m4_asked l D K aM X.2.1 T f2) gL_law_X4_asked rfl ⟨rfl, rfl⟩ hd_X4_asked ⟨(Nat.le_of_ble_eq_true rfl), (Nat.le_of_ble_eq_true rfl)⟩ hl.1 rfl (Nat.le_of_ble_eq_true rfl) dL_law_1263 hcs (fun H locs hP hQ hS => ?_)
  exact lv_icmp_eq (tgt := 1372) hx hb dL_law_1266 (by decide) (fun _ => kk S T H locs ⟨R', hP, hQ, hS⟩) (fun c1 => absurd rfl c1)
set_option maxHeartbeats 4000000 in
set_option maxRecDepth 100000 in
theorem l_upper {p : Program} {l : Launch} {e : Env} {s : State} {m : MethodId} {args : Array Value} {below : List Frame} {meth : Method} {c : Code} {H : Heap} {locs : List Loc} {cells slots : Nat} {Q : State → Prop} {D : va_G} {K : Nat → ClassId} {tL : Nat} {aC aM : Nat → Nat} {S T : Mem} {ret : Option FieldType} {KK : State → Prop} {b L i : Nat} {xs : Nat → Int32} {ls : Array Slot} (C0 : Cx p s m args meth c RL wsL_law code 4 ret KK) (X : LX D K tL aC aM s) (I : LI D K aC aM s S T H locs) (hX : va_X b L xs s s.heap) (hbl : b < s.heap.size) (hbA : ¬ AL s b) (sc : SC i L) (hcs : cells ≤ room_1.cells ∧ slots ≤ room_1.slots) (hl : lv_has ls 4 [(3, .int (nI i)), (0, .ref b), (1, .ref (aC 0)), (2, .ref (aM 0))]) (kk : ∀ (S' T' : Mem) (H1 : Heap) (locs1 : List Loc), LI D K aC aM s S' T' H1 locs1 → W p l e room_1 s m args below meth c H1 locs1 cells slots Q (F0 m 1372 ls [])) : W p l e room_1 s m args below meth c H locs cells slots Q (F0 m 1271 ls []) := by
  have hx := C0.1
  have hb := C0.2.1
  obtain ⟨R, hP, hQ, hS⟩ := I
  obtain ⟨h1, h2, h3, h4, h5⟩ := sc
  obtain ⟨r, f1, f2⟩ := p_upper R 
  have R' := R
  refine lv_aload_n hx hb dL_law_1271 rfl (lv_at hl 2 rfl) ?_
  refine l_cl (S' := S) C0 X hP hQ hS (As := []) (rest := []) (m3_upper l D K aC tL X.1 S f1) gL_law_X3_upper rfl ⟨rfl, rfl⟩ hd_X3_upper ⟨(Nat.le_of_ble_eq_true rfl), (Nat.le_of_ble_eq_true rfl)⟩ hl.1 rfl (Nat.le_of_ble_eq_true rfl) dL_law_1272 hcs (fun H locs hP hQ hS => ?_)
  refine lv_aload_n hx hb dL_law_1275 rfl (lv_at hl 3 rfl) ?_
  refine l_ml (T' := T) C0 X hP hQ hS (As := []) (rest := [.long r]) (m4_upper l D K aM X.2.1 T f2) gL_law_X4_upper rfl ⟨rfl, rfl⟩ hd_X4_upper ⟨(Nat.le_of_ble_eq_true rfl), (Nat.le_of_ble_eq_true rfl)⟩ hl.1 rfl (Nat.le_of_ble_eq_true rfl) dL_law_1276 hcs (fun H locs hP hQ hS => ?_)
  refine W.lcmp hx hb dL_law_1279 ?_
  exact lv_if_eq (tgt := 1372) hx hb dL_law_1280 (by decide) (fun _ => kk S T H locs ⟨R', hP, hQ, hS⟩) (fun c1 => absurd (lg_same r) c1)
set_option maxHeartbeats 4000000 in
set_option maxRecDepth 100000 in
theorem l_lower {p : Program} {l : Launch} {e : Env} {s : State} {m : MethodId} {args : Array Value} {below : List Frame} {meth : Method} {c : Code} {H : Heap} {locs : List Loc} {cells slots : Nat} {Q : State → Prop} {D : va_G} {K : Nat → ClassId} {tL : Nat} {aC aM : Nat → Nat} {S T : Mem} {ret : Option FieldType} {KK : State → Prop} {b L i : Nat} {xs : Nat → Int32} {ls : Array Slot} (C0 : Cx p s m args meth c RL wsL_law code 4 ret KK) (X : LX D K tL aC aM s) (I : LI D K aC aM s S T H locs) (hX : va_X b L xs s s.heap) (hbl : b < s.heap.size) (hbA : ¬ AL s b) (sc : SC i L) (hcs : cells ≤ room_1.cells ∧ slots ≤ room_1.slots) (hl : lv_has ls 4 [(3, .int (nI i)), (0, .ref b), (1, .ref (aC 0)), (2, .ref (aM 0))]) (kk : ∀ (S' T' : Mem) (H1 : Heap) (locs1 : List Loc), LI D K aC aM s S' T' H1 locs1 → W p l e room_1 s m args below meth c H1 locs1 cells slots Q (F0 m 1372 ls [])) : W p l e room_1 s m args below meth c H locs cells slots Q (F0 m 1285 ls []) := by
  have hx := C0.1
  have hb := C0.2.1
  obtain ⟨R, hP, hQ, hS⟩ := I
  obtain ⟨h1, h2, h3, h4, h5⟩ := sc
  obtain ⟨r, f1, f2⟩ := p_lower R 
  have R' := R
  refine lv_aload_n hx hb dL_law_1285 rfl (lv_at hl 2 rfl) ?_
  refine l_cl (S' := S) C0 X hP hQ hS (As := []) (rest := []) (m3_lower l D K aC tL X.1 S f1) gL_law_X3_lower rfl ⟨rfl, rfl⟩ hd_X3_lower ⟨(Nat.le_of_ble_eq_true rfl), (Nat.le_of_ble_eq_true rfl)⟩ hl.1 rfl (Nat.le_of_ble_eq_true rfl) dL_law_1286 hcs (fun H locs hP hQ hS => ?_)
  refine lv_aload_n hx hb dL_law_1289 rfl (lv_at hl 3 rfl) ?_
  refine l_ml (T' := T) C0 X hP hQ hS (As := []) (rest := [.long r]) (m4_lower l D K aM X.2.1 T f2) gL_law_X4_lower rfl ⟨rfl, rfl⟩ hd_X4_lower ⟨(Nat.le_of_ble_eq_true rfl), (Nat.le_of_ble_eq_true rfl)⟩ hl.1 rfl (Nat.le_of_ble_eq_true rfl) dL_law_1290 hcs (fun H locs hP hQ hS => ?_)
  refine W.lcmp hx hb dL_law_1293 ?_
  exact lv_if_eq (tgt := 1372) hx hb dL_law_1294 (by decide) (fun _ => kk S T H locs ⟨R', hP, hQ, hS⟩) (fun c1 => absurd (lg_same r) c1)
set_option maxHeartbeats 4000000 in
set_option maxRecDepth 100000 in
theorem l_count {p : Program} {l : Launch} {e : Env} {s : State} {m : MethodId} {args : Array Value} {below : List Frame} {meth : Method} {c : Code} {H : Heap} {locs : List Loc} {cells slots : Nat} {Q : State → Prop} {D : va_G} {K : Nat → ClassId} {tL : Nat} {aC aM : Nat → Nat} {S T : Mem} {ret : Option FieldType} {KK : State → Prop} {b L i : Nat} {xs : Nat → Int32} {ls : Array Slot} (C0 : Cx p s m args meth c RL wsL_law code 4 ret KK) (X : LX D K tL aC aM s) (I : LI D K aC aM s S T H locs) (hX : va_X b L xs s s.heap) (hbl : b < s.heap.size) (hbA : ¬ AL s b) (sc : SC i L) (hcs : cells ≤ room_1.cells ∧ slots ≤ room_1.slots) (hl : lv_has ls 4 [(3, .int (nI i)), (0, .ref b), (1, .ref (aC 0)), (2, .ref (aM 0))]) (kk : ∀ (S' T' : Mem) (H1 : Heap) (locs1 : List Loc), LI D K aC aM s S' T' H1 locs1 → W p l e room_1 s m args below meth c H1 locs1 cells slots Q (F0 m 1372 ls [])) : W p l e room_1 s m args below meth c H locs cells slots Q (F0 m 1299 ls []) := by
  have hx := C0.1
  have hb := C0.2.1
  obtain ⟨R, hP, hQ, hS⟩ := I
  obtain ⟨h1, h2, h3, h4, h5⟩ := sc
  obtain ⟨r, f1, f2⟩ := p_count R (xs (nI i + 1).toNatClampNeg)
  have R' := R
  refine lv_aload_n hx hb dL_law_1299 rfl (lv_at hl 2 rfl) ?_
  refine lv_aload_n hx hb dL_law_1300 rfl (lv_at hl 1 rfl) ?_
  refine lv_iload_n hx hb dL_law_1301 rfl (lv_at hl 0 rfl) ?_
  refine lv_iconst (v := 1) hx hb dL_law_1302 (by decide) ?_
  refine lv_iadd hx hb dL_law_1303 ?_
  refine va_sld hx hb hX hbl hbA hS h1 dL_law_1304 ?_
  refine l_ci (S' := S) C0 X hP hQ hS (As := [.int (xs (nI i + 1).toNatClampNeg)]) (rest := []) (m3_count l D K aC tL X.1 S _ f1) gL_law_X3_count rfl ⟨rfl, rfl⟩ hd_X3_count ⟨(Nat.le_of_ble_eq_true rfl), (Nat.le_of_ble_eq_true rfl)⟩ hl.1 rfl (Nat.le_of_ble_eq_true rfl) dL_law_1305 hcs (fun H locs hP hQ hS => ?_)
  refine lv_aload_n hx hb dL_law_1308 rfl (lv_at hl 3 rfl) ?_
  refine lv_aload_n hx hb dL_law_1309 rfl (lv_at hl 1 rfl) ?_
  refine lv_iload_n hx hb dL_law_1310 rfl (lv_at hl 0 rfl) ?_
  refine lv_iconst (v := 1) hx hb dL_law_1311 (by decide) ?_
  refine lv_iadd hx hb dL_law_1312 ?_
  refine va_sld hx hb hX hbl hbA hS h1 dL_law_1313 ?_
  refine l_mi (T' := T) C0 X hP hQ hS (As := [.int (xs (nI i + 1).toNatClampNeg)]) (rest := [.int r]) (m4_count l D K aM X.2.1 T _ f2) gL_law_X4_count rfl ⟨rfl, rfl⟩ hd_X4_count ⟨(Nat.le_of_ble_eq_true rfl), (Nat.le_of_ble_eq_true rfl)⟩ hl.1 rfl (Nat.le_of_ble_eq_true rfl) dL_law_1314 hcs (fun H locs hP hQ hS => ?_)
  exact lv_icmp_eq (tgt := 1372) hx hb dL_law_1317 (by decide) (fun _ => kk S T H locs ⟨R', hP, hQ, hS⟩) (fun c1 => absurd rfl c1)
set_option maxHeartbeats 4000000 in
set_option maxRecDepth 100000 in
theorem l_finding {p : Program} {l : Launch} {e : Env} {s : State} {m : MethodId} {args : Array Value} {below : List Frame} {meth : Method} {c : Code} {H : Heap} {locs : List Loc} {cells slots : Nat} {Q : State → Prop} {D : va_G} {K : Nat → ClassId} {tL : Nat} {aC aM : Nat → Nat} {S T : Mem} {ret : Option FieldType} {KK : State → Prop} {b L i : Nat} {xs : Nat → Int32} {ls : Array Slot} (C0 : Cx p s m args meth c RL wsL_law code 4 ret KK) (X : LX D K tL aC aM s) (I : LI D K aC aM s S T H locs) (hX : va_X b L xs s s.heap) (hbl : b < s.heap.size) (hbA : ¬ AL s b) (sc : SC i L) (hcs : cells ≤ room_1.cells ∧ slots ≤ room_1.slots) (hl : lv_has ls 4 [(3, .int (nI i)), (0, .ref b), (1, .ref (aC 0)), (2, .ref (aM 0))]) (kk : ∀ (S' T' : Mem) (H1 : Heap) (locs1 : List Loc), LI D K aC aM s S' T' H1 locs1 → W p l e room_1 s m args below meth c H1 locs1 cells slots Q (F0 m 1372 ls [])) : W p l e room_1 s m args below meth c H locs cells slots Q (F0 m 1322 ls []) := by
  have hx := C0.1
  have hb := C0.2.1
  obtain ⟨R, hP, hQ, hS⟩ := I
  obtain ⟨h1, h2, h3, h4, h5⟩ := sc
  obtain ⟨r, f1, f2⟩ := p_finding R 
  have R' := R
  refine lv_aload_n hx hb dL_law_1322 rfl (lv_at hl 2 rfl) ?_
  refine l_ci (S' := S) C0 X hP hQ hS (As := []) (rest := []) (m3_finding l D K aC tL X.1 S f1) gL_law_X3_finding rfl ⟨rfl, rfl⟩ hd_X3_finding ⟨(Nat.le_of_ble_eq_true rfl), (Nat.le_of_ble_eq_true rfl)⟩ hl.1 rfl (Nat.le_of_ble_eq_true rfl) dL_law_1323 hcs (fun H locs hP hQ hS => ?_)
  refine lv_aload_n hx hb dL_law_1326 rfl (lv_at hl 3 rfl) ?_
  refine l_mi (T' := T) C0 X hP hQ hS (As := []) (rest := [.int r]) (m4_finding l D K aM X.2.1 T f2) gL_law_X4_finding rfl ⟨rfl, rfl⟩ hd_X4_finding ⟨(Nat.le_of_ble_eq_true rfl), (Nat.le_of_ble_eq_true rfl)⟩ hl.1 rfl (Nat.le_of_ble_eq_true rfl) dL_law_1327 hcs (fun H locs hP hQ hS => ?_)
  exact lv_icmp_eq (tgt := 1372) hx hb dL_law_1330 (by decide) (fun _ => kk S T H locs ⟨R', hP, hQ, hS⟩) (fun c1 => absurd rfl c1)
set_option maxHeartbeats 4000000 in
set_option maxRecDepth 100000 in
theorem l_findings {p : Program} {l : Launch} {e : Env} {s : State} {m : MethodId} {args : Array Value} {below : List Frame} {meth : Method} {c : Code} {H : Heap} {locs : List Loc} {cells slots : Nat} {Q : State → Prop} {D : va_G} {K : Nat → ClassId} {tL : Nat} {aC aM : Nat → Nat} {S T : Mem} {ret : Option FieldType} {KK : State → Prop} {b L i : Nat} {xs : Nat → Int32} {ls : Array Slot} (C0 : Cx p s m args meth c RL wsL_law code 4 ret KK) (X : LX D K tL aC aM s) (I : LI D K aC aM s S T H locs) (hX : va_X b L xs s s.heap) (hbl : b < s.heap.size) (hbA : ¬ AL s b) (sc : SC i L) (hcs : cells ≤ room_1.cells ∧ slots ≤ room_1.slots) (hl : lv_has ls 4 [(3, .int (nI i)), (0, .ref b), (1, .ref (aC 0)), (2, .ref (aM 0))]) (kk : ∀ (S' T' : Mem) (H1 : Heap) (locs1 : List Loc), LI D K aC aM s S' T' H1 locs1 → W p l e room_1 s m args below meth c H1 locs1 cells slots Q (F0 m 1372 ls [])) : W p l e room_1 s m args below meth c H locs cells slots Q (F0 m 1335 ls []) := by
  have hx := C0.1
  have hb := C0.2.1
  obtain ⟨R, hP, hQ, hS⟩ := I
  obtain ⟨h1, h2, h3, h4, h5⟩ := sc
  obtain ⟨r, f1, f2⟩ := p_findings R (xs (nI i + 1).toNatClampNeg)
  have R' := R
  refine lv_aload_n hx hb dL_law_1335 rfl (lv_at hl 2 rfl) ?_
  refine lv_aload_n hx hb dL_law_1336 rfl (lv_at hl 1 rfl) ?_
  refine lv_iload_n hx hb dL_law_1337 rfl (lv_at hl 0 rfl) ?_
  refine lv_iconst (v := 1) hx hb dL_law_1338 (by decide) ?_
  refine lv_iadd hx hb dL_law_1339 ?_
  refine va_sld hx hb hX hbl hbA hS h1 dL_law_1340 ?_
  refine l_ci (S' := S) C0 X hP hQ hS (As := [.int (xs (nI i + 1).toNatClampNeg)]) (rest := []) (m3_findings l D K aC tL X.1 S _ f1) gL_law_X3_findings rfl ⟨rfl, rfl⟩ hd_X3_findings ⟨(Nat.le_of_ble_eq_true rfl), (Nat.le_of_ble_eq_true rfl)⟩ hl.1 rfl (Nat.le_of_ble_eq_true rfl) dL_law_1341 hcs (fun H locs hP hQ hS => ?_)
  refine lv_aload_n hx hb dL_law_1344 rfl (lv_at hl 3 rfl) ?_
  refine lv_aload_n hx hb dL_law_1345 rfl (lv_at hl 1 rfl) ?_
  refine lv_iload_n hx hb dL_law_1346 rfl (lv_at hl 0 rfl) ?_
  refine lv_iconst (v := 1) hx hb dL_law_1347 (by decide) ?_
  refine lv_iadd hx hb dL_law_1348 ?_
  refine va_sld hx hb hX hbl hbA hS h1 dL_law_1349 ?_
  refine l_mi (T' := T) C0 X hP hQ hS (As := [.int (xs (nI i + 1).toNatClampNeg)]) (rest := [.int r]) (m4_findings l D K aM X.2.1 T _ f2) gL_law_X4_findings rfl ⟨rfl, rfl⟩ hd_X4_findings ⟨(Nat.le_of_ble_eq_true rfl), (Nat.le_of_ble_eq_true rfl)⟩ hl.1 rfl (Nat.le_of_ble_eq_true rfl) dL_law_1350 hcs (fun H locs hP hQ hS => ?_)
  exact lv_icmp_eq (tgt := 1372) hx hb dL_law_1353 (by decide) (fun _ => kk S T H locs ⟨R', hP, hQ, hS⟩) (fun c1 => absurd rfl c1)
set_option maxHeartbeats 4000000 in
set_option maxRecDepth 100000 in
theorem l_digest {p : Program} {l : Launch} {e : Env} {s : State} {m : MethodId} {args : Array Value} {below : List Frame} {meth : Method} {c : Code} {H : Heap} {locs : List Loc} {cells slots : Nat} {Q : State → Prop} {D : va_G} {K : Nat → ClassId} {tL : Nat} {aC aM : Nat → Nat} {S T : Mem} {ret : Option FieldType} {KK : State → Prop} {b L i : Nat} {xs : Nat → Int32} {ls : Array Slot} (C0 : Cx p s m args meth c RL wsL_law code 4 ret KK) (X : LX D K tL aC aM s) (I : LI D K aC aM s S T H locs) (hX : va_X b L xs s s.heap) (hbl : b < s.heap.size) (hbA : ¬ AL s b) (sc : SC i L) (hcs : cells ≤ room_1.cells ∧ slots ≤ room_1.slots) (hl : lv_has ls 4 [(3, .int (nI i)), (0, .ref b), (1, .ref (aC 0)), (2, .ref (aM 0))]) (kk : ∀ (S' T' : Mem) (H1 : Heap) (locs1 : List Loc), LI D K aC aM s S' T' H1 locs1 → W p l e room_1 s m args below meth c H1 locs1 cells slots Q (F0 m 1372 ls [])) : W p l e room_1 s m args below meth c H locs cells slots Q (F0 m 1358 ls []) := by
  have hx := C0.1
  have hb := C0.2.1
  obtain ⟨R, hP, hQ, hS⟩ := I
  obtain ⟨h1, h2, h3, h4, h5⟩ := sc
  obtain ⟨r, f1, f2⟩ := p_digest R 
  have R' := R
  refine lv_aload_n hx hb dL_law_1358 rfl (lv_at hl 2 rfl) ?_
  refine l_cl (S' := S) C0 X hP hQ hS (As := []) (rest := []) (m3_digest l D K aC tL X.1 S f1) gL_law_X3_digest rfl ⟨rfl, rfl⟩ hd_X3_digest ⟨(Nat.le_of_ble_eq_true rfl), (Nat.le_of_ble_eq_true rfl)⟩ hl.1 rfl (Nat.le_of_ble_eq_true rfl) dL_law_1359 hcs (fun H locs hP hQ hS => ?_)
  refine lv_aload_n hx hb dL_law_1362 rfl (lv_at hl 3 rfl) ?_
  refine l_ml (T' := T) C0 X hP hQ hS (As := []) (rest := [.long r]) (m4_digest l D K aM X.2.1 T f2) gL_law_X4_digest rfl ⟨rfl, rfl⟩ hd_X4_digest ⟨(Nat.le_of_ble_eq_true rfl), (Nat.le_of_ble_eq_true rfl)⟩ hl.1 rfl (Nat.le_of_ble_eq_true rfl) dL_law_1363 hcs (fun H locs hP hQ hS => ?_)
  refine W.lcmp hx hb dL_law_1366 ?_
  exact lv_if_eq (tgt := 1372) hx hb dL_law_1367 (by decide) (fun _ => kk S T H locs ⟨R', hP, hQ, hS⟩) (fun c1 => absurd (lg_same r) c1)
