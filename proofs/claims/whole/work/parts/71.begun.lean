/-! CONSTRUCTORS: a moment, the houses -/
theorem gi_start {D : va_G} {h0 : Nat} {x0 : va_E} {H : Heap} (h : va_at D vwCl (h0, x0) H) : GI D [0] (fun _ => h0) (fun _ => x0) (AF h0 H.size) H := by
  refine ⟨by decide, fun k _ => h, fun k hk j hj _ => ?_, fun k _ => Or.inl rfl⟩
  rw [List.mem_singleton] at hk hj
  rw [hk, hj]
def EMo (K : Nat → ClassId) (u : Nat → Nat) (k : Nat) : va_E := if k = 0 then .inr (1, [.ref (u 1), .int 0, .int 0]) else .inl (K 0, 7, .inl (fun _ => 0))
abbrev rmMo : Room := { frames := 1, cells := 1, slots := 7, locals := 12 }
set_option maxHeartbeats 4000000 in
set_option maxRecDepth 100000 in
theorem i_moment (l : Launch) (D : va_G) (K : Nat → ClassId) (h0 sz : Nat) : MkC l yX1_init wsX1_init rmMo D K h0 sz (.inr (1, [.null, .int 0, .int 0])) 2 (EMo K) 1 7 := by
  refine met_of (own := RX1) (PP := fun Hp => Hp.size = sz ∧ va_at D vwCl (h0, .inr (1, [.null, .int 0, .int 0])) Hp) (KK := KN D K) (by decide) rfl rfl (Nat.le_of_ble_eq_true rfl) (fun p e s m below meth c ls C0 hn hP hl => ?_)
  obtain ⟨rfl, hx0⟩ := hP
  have hn : meth.name = "<init>" := hn
  have hA : ∀ q, s.heap.size ≤ q → AF h0 s.heap.size q := fun q h => Or.inr h
  have g := gi_start hx0
  have hS : va_S (AF h0 s.heap.size) s.heap s.heap [] := va_S.rf
  have hx := C0.1
  have hb := C0.2.1
  have hts := C0.2.2.2.2.1
  have hown := C0.2.2.2.1
  have hK := C0.2.2.2.2.2.2.2.1
  have hin : ∀ w ∈ wsX10, w ∈ wsX1_init := fun _ h => List.mem_cons_of_mem _ (List.mem_append_right _ h)
  refine lv_aload_n hx hb dX1_init_0 rfl (lv_at hl 0 rfl) ?_
  refine W.objInit hx hb hown (hts (.methodLink RX1 3 objectInit) (by decide +kernel)) (hts (.instanceMethod objectInit) (by decide +kernel)) (hts _ (List.mem_cons_of_mem _ (List.mem_of_getElem? (i := 2) rfl))) rfl (by rw [C0.2.2.1]; exact hl.1) rfl dX1_init_1 (Nat.le_of_ble_eq_true rfl) (Nat.le_of_ble_eq_true rfl) ?_
  refine W.eq (g2 := F0 m 4 ls []) rfl ?_
  refine lv_aload_n hx hb dX1_init_4 rfl (lv_at hl 0 rfl) ?_
  refine lv_bipush (v := 7) hx hb dX1_init_5 (by decide) ?_
  refine g_newa C0 hK g hS hA 1 (by decide) (ty := .int) rfl (by decide +kernel) 0 rfl (N' := 7) (a0 := (7, .inl (fun _ => 0))) (fun _ => rfl) (by decide) rfl (Nat.le_of_ble_eq_true rfl) (Nat.le_of_ble_eq_true rfl) (Nat.le_of_ble_eq_true rfl) dX1_init_7 (fun q H g hS => ?_)
  refine g_putF C0 hK g hS 0 (by decide) rfl rfl (C := RX1) (T := TX1) (NN := 3) rfl tyX1 tyX1_ok nmX1 hin hn 0 (by decide) (by decide +kernel) rfl rfl (ty := .array .int) (by decide +kernel) rfl rfl (Nat.le_of_ble_eq_true rfl) dX1_init_9 (fun H locs g hS => ?_)
  refine g_ret C0 g hS rfl (by decide) (fun k hk => ?_) (fun k hk h => ?_) dX1_init_12
  · rcases (show k = 0 ∨ k = 1 by omega) with rfl | rfl <;> decide
  · rcases (show k = 0 ∨ k = 1 by omega) with rfl | rfl <;> exact h
def EHo (K : Nat → ClassId) (u : Nat → Nat) (k : Nat) : va_E := if k = 0 then .inr (0, [.ref (u 1), .ref (u 2), .ref (u 3), .int 0]) else .inl (K 0, 7, .inl (fun _ => 0))
abbrev rmHo : Room := { frames := 1, cells := 3, slots := 21, locals := 12 }
set_option maxHeartbeats 4000000 in
set_option maxRecDepth 100000 in
theorem i_houses (l : Launch) (D : va_G) (K : Nat → ClassId) (h0 sz : Nat) : MkC l yX0_init wsX0_init rmHo D K h0 sz (.inr (0, [.null, .null, .null, .int 0])) 4 (EHo K) 3 21 := by
  refine met_of (own := RX0) (PP := fun Hp => Hp.size = sz ∧ va_at D vwCl (h0, .inr (0, [.null, .null, .null, .int 0])) Hp) (KK := KN D K) (by decide) rfl rfl (Nat.le_of_ble_eq_true rfl) (fun p e s m below meth c ls C0 hn hP hl => ?_)
  obtain ⟨rfl, hx0⟩ := hP
  have hn : meth.name = "<init>" := hn
  have hA : ∀ q, s.heap.size ≤ q → AF h0 s.heap.size q := fun q h => Or.inr h
  have g := gi_start hx0
  have hS : va_S (AF h0 s.heap.size) s.heap s.heap [] := va_S.rf
  have hx := C0.1
  have hb := C0.2.1
  have hts := C0.2.2.2.2.1
  have hown := C0.2.2.2.1
  have hK := C0.2.2.2.2.2.2.2.1
  have hin : ∀ w ∈ wsX00, w ∈ wsX0_init := fun _ h => List.mem_cons_of_mem _ (List.mem_append_right _ h)
  refine lv_aload_n hx hb dX0_init_0 rfl (lv_at hl 0 rfl) ?_
  refine W.objInit hx hb hown (hts (.methodLink RX0 3 objectInit) (by decide +kernel)) (hts (.instanceMethod objectInit) (by decide +kernel)) (hts _ (List.mem_cons_of_mem _ (List.mem_of_getElem? (i := 2) rfl))) rfl (by rw [C0.2.2.1]; exact hl.1) rfl dX0_init_1 (Nat.le_of_ble_eq_true rfl) (Nat.le_of_ble_eq_true rfl) ?_
  refine W.eq (g2 := F0 m 4 ls []) rfl ?_
  refine lv_aload_n hx hb dX0_init_4 rfl (lv_at hl 0 rfl) ?_
  refine lv_bipush (v := 7) hx hb dX0_init_5 (by decide) ?_
  refine g_newa C0 hK g hS hA 1 (by decide) (ty := .int) rfl (by decide +kernel) 0 rfl (N' := 7) (a0 := (7, .inl (fun _ => 0))) (fun _ => rfl) (by decide) rfl (Nat.le_of_ble_eq_true rfl) (Nat.le_of_ble_eq_true rfl) (Nat.le_of_ble_eq_true rfl) dX0_init_7 (fun q1 H g hS => ?_)
  refine g_putF C0 hK g hS 0 (by decide) rfl rfl (C := RX0) (T := TX0) (NN := 4) rfl tyX0 tyX0_ok nmX0 hin hn 0 (by decide) (by decide +kernel) rfl rfl (ty := .array .int) (by decide +kernel) rfl rfl (Nat.le_of_ble_eq_true rfl) dX0_init_9 (fun H locs g hS => ?_)
  refine lv_aload_n hx hb dX0_init_12 rfl (lv_at hl 0 rfl) ?_
  refine lv_bipush (v := 7) hx hb dX0_init_13 (by decide) ?_
  refine g_newa C0 hK g hS hA 2 (by decide) (ty := .int) rfl (by decide +kernel) 0 rfl (N' := 7) (a0 := (7, .inl (fun _ => 0))) (fun _ => rfl) (by decide) rfl (Nat.le_of_ble_eq_true rfl) (Nat.le_of_ble_eq_true rfl) (Nat.le_of_ble_eq_true rfl) dX0_init_15 (fun q2 H g hS => ?_)
  refine g_putF C0 hK g hS 0 (by decide) rfl rfl (C := RX0) (T := TX0) (NN := 4) rfl tyX0 tyX0_ok nmX0 hin hn 1 (by decide) (by decide +kernel) rfl rfl (ty := .array .int) (by decide +kernel) rfl rfl (Nat.le_of_ble_eq_true rfl) dX0_init_17 (fun H locs g hS => ?_)
  refine lv_aload_n hx hb dX0_init_20 rfl (lv_at hl 0 rfl) ?_
  refine lv_bipush (v := 7) hx hb dX0_init_21 (by decide) ?_
  refine g_newa C0 hK g hS hA 3 (by decide) (ty := .int) rfl (by decide +kernel) 0 rfl (N' := 7) (a0 := (7, .inl (fun _ => 0))) (fun _ => rfl) (by decide) rfl (Nat.le_of_ble_eq_true rfl) (Nat.le_of_ble_eq_true rfl) (Nat.le_of_ble_eq_true rfl) dX0_init_23 (fun q3 H g hS => ?_)
  refine g_putF C0 hK g hS 0 (by decide) rfl rfl (C := RX0) (T := TX0) (NN := 4) rfl tyX0 tyX0_ok nmX0 hin hn 2 (by decide) (by decide +kernel) rfl rfl (ty := .array .int) (by decide +kernel) rfl rfl (Nat.le_of_ble_eq_true rfl) dX0_init_25 (fun H locs g hS => ?_)
  refine g_ret C0 g hS rfl (by decide) (fun k hk => ?_) (fun k hk h => ?_) dX0_init_28
  · rcases (show k = 0 ∨ k = 1 ∨ k = 2 ∨ k = 3 by omega) with rfl | rfl | rfl | rfl <;> decide
  · rcases (show k = 0 ∨ k = 1 ∨ k = 2 ∨ k = 3 by omega) with rfl | rfl | rfl | rfl <;> exact h
