/-! CONSTRUCTORS: LuckJars, whole -/
theorem nw {M : Nat} {ids : List Nat} {gl : Nat → Nat} (h : ∀ j, j < M → 0 < j → gl j ∉ ids) : ∀ j, 0 < j → j < M → gl j ∉ ids := fun j a b => h j b a
theorem memq_0 : ∀ b, (b = 30 ∨ b = 195) → ∀ q, q < 165 → (memF 14 4 (memF 8 6 memZ)).1 (b + q) = fun _ => 0 := by
  intro b hb q hq
  show (ufl (ufl memZ 8 6 (-1)) 14 4 (-1)).1 (b + q) = _
  rw [ufl_ne _ _ _ (by omega), ufl_ne _ _ _ (by omega)]
  rfl
theorem memq_1 : ∀ b, (b = 30 ∨ b = 195) → ∀ q, q < 165 → (memK 0 (memF 14 4 (memF 8 6 memZ))).1 (b + q) = fun _ => 0 := by
  intro b hb q hq
  show (ui (memF 14 4 (memF 8 6 memZ)) (22 + (1 + 0)) 1 (-1)).1 (b + q) = _
  rw [ui_ne _ _ _ (by omega)]
  exact memq_0 b hb q hq
theorem memq_2 : ∀ b, (b = 30 ∨ b = 195) → ∀ q, q < 165 → (memK 1 (memK 0 (memF 14 4 (memF 8 6 memZ)))).1 (b + q) = fun _ => 0 := by
  intro b hb q hq
  show (ui (memK 0 (memF 14 4 (memF 8 6 memZ))) (22 + (1 + 1)) 1 (-1)).1 (b + q) = _
  rw [ui_ne _ _ _ (by omega)]
  exact memq_1 b hb q hq
theorem memF_cell (K : Nat → ClassId) (ad : Nat → Nat) (a n : Nat) {S : Mem} (h0 : a ≠ 0) (h19 : a ≠ 19) (hz : S.1 a = fun _ => 0) (he : EC K ad (memF a n S) a = .inl (K 0, n, .inl ((memF a n S).1 a))) : (.inl (K 0, n, .inl (fun j => if j < n then -1 else (fun _ => (0 : Int32)) j)) : va_E) = WE K ad (memF a n S) 11 0 a := by
  unfold WE
  rw [if_neg h0, if_neg h19, he]
  refine congrArg (fun f : Nat → Int32 => (.inl (K 0, n, .inl f) : va_E)) (funext fun j => ?_)
  show _ = (if a = a ∧ j < n then (-1 : Int32) else S.1 a j)
  rw [hz]
  by_cases c : j < n
  · rw [if_pos c, if_pos ⟨rfl, c⟩]
  · rw [if_neg c, if_neg (fun q => c q.2)]
set_option maxHeartbeats 8000000 in
set_option maxRecDepth 100000 in
theorem i_jars (l : Launch) (D : va_G) (K : Nat → ClassId) (h0 sz : Nat) : MkC l yX3_init wsX3_init rmLJ D K h0 sz (.inr (3, [.null, .null, .null, .null, .null, .null, .null, .null, .null, .int 0, .long 0, .long 0, .int 0, .null])) 360 (fun u => EC K u mem0) 359 2363 := by
  refine met_of (own := RX3) (PP := fun Hp => Hp.size = sz ∧ va_at D vwCl (h0, .inr (3, [.null, .null, .null, .null, .null, .null, .null, .null, .null, .int 0, .long 0, .long 0, .int 0, .null])) Hp) (KK := KN D K) (by decide) rfl rfl (Nat.le_of_ble_eq_true rfl) (fun p e s m below meth c ls C0 hn hP hl => ?_)
  obtain ⟨rfl, hx0⟩ := hP
  have hn : meth.name = "<init>" := hn
  have hA : ∀ q, s.heap.size ≤ q → AF h0 s.heap.size q := fun q h => Or.inr h
  have hS : va_S (AF h0 s.heap.size) s.heap s.heap [] := va_S.rf
  have hx := C0.1
  have hb := C0.2.1
  have hts := C0.2.2.2.2.1
  have hown := C0.2.2.2.1
  have hKN := C0.2.2.2.2.2.2.2
  have hK := hKN.1
  have g : GI D [0] (fun _ => h0) (WE K (fun _ => h0) memZ 0 0) (AF h0 s.heap.size) s.heap := (gi_start hx0).to (fun _ _ => rfl) (fun k hk h => by
    rw [List.mem_singleton] at hk
    subst hk
    exact h)
  have e0 : (fun _ : Nat => h0) 0 = h0 := rfl
  generalize (fun _ : Nat => h0) = ad at g e0
  refine lv_aload_n hx hb dX3_init_0 rfl (lv_at hl 0 rfl) ?_
  refine W.objInit hx hb hown (hts (.methodLink RX3 1 objectInit) (by decide +kernel)) (hts (.instanceMethod objectInit) (by decide +kernel)) (hts (.code objectInit ⟨#[0xb1]⟩ 1 none) (by decide +kernel)) rfl (by rw [C0.2.2.1]; exact hl.1) rfl dX3_init_1 (Nat.le_of_ble_eq_true rfl) (Nat.le_of_ble_eq_true rfl) ?_
  refine W.eq (g2 := F0 m 4 ls []) rfl ?_
  refine lv_aload_n hx hb dX3_init_4 rfl (lv_at hl 0 rfl) ?_
  refine lv_bipush (v := 6) hx hb dX3_init_5 (by decide) ?_
  refine lv_bipush (v := 40) hx hb dX3_init_7 (by decide) ?_
  refine g_mna C0 hK g hS hA 1 2 (N' := 6) (K' := 40) (by decide +kernel) (ty := .int) (by decide +kernel) hKN.2.2.2.2.1 (by decide +kernel) 4 0 (cK := K 4) (cy := K 0) rfl rfl (hK.2 0 _ rfl).2 (z := (40, .inl (fun _ => 0))) (by decide) (by decide) rfl rfl (Nat.le_of_ble_eq_true rfl) (Nat.le_of_ble_eq_true rfl) (Nat.le_of_ble_eq_true rfl) rfl rfl (Nat.le_of_ble_eq_true rfl) (Nat.le_of_ble_eq_true rfl) (fun c => arrV_new _ _ _) dX3_init_9 (fun q ad2 E2 H g a1 a2 a3 a4 hS => ?_)
  have g := we_mna g (by decide +kernel) a1 (fun i hi => by
    rcases List.mem_cons.mp hi with h | h
    · subst h
      exact a3
    · obtain ⟨j, hj, rfl⟩ := List.mem_map.mp h
      rw [List.mem_range] at hj
      rw [a4 j hj]
      rcases (show j = 0 ∨ j = 1 ∨ j = 2 ∨ j = 3 ∨ j = 4 ∨ j = 5 by omega) with rfl | rfl | rfl | rfl | rfl | rfl <;> rfl)
  have e0 : ad2 0 = h0 := (a1 0 (by decide +kernel)).1.trans e0
  clear a1 a3 a4
  obtain ⟨ad, rfl⟩ : ∃ ad, ad = ad2 := ⟨_, rfl⟩
  refine g_putF C0 hK g hS 0 (by decide +kernel) e0 (ci := 3) (fs := fld 0 ad memZ) rfl (C := RX3) (T := TX3) (NN := 14) rfl tyX3 tyX3_ok nmX3 inX3_3 hn 0 (by decide) (by decide +kernel) rfl rfl (ty := .array (.array .int)) (by decide +kernel) rfl rfl (Nat.le_of_ble_eq_true rfl) dX3_init_13 (fun H locs g hS => ?_)
  have g := we_putn (n' := 1) g (by rw [← a2]; rfl)
  refine lv_aload_n hx hb dX3_init_16 rfl (lv_at hl 0 rfl) ?_
  refine lv_bipush (v := 6) hx hb dX3_init_17 (by decide) ?_
  refine g_newa C0 hK g hS hA 8 (by decide +kernel) (ty := .int) rfl (by decide +kernel) 0 rfl (N' := 6) (a0 := (6, .inl (fun _ => 0))) (fun _ => rfl) (by decide) rfl (Nat.le_of_ble_eq_true rfl) (Nat.le_of_ble_eq_true rfl) (Nat.le_of_ble_eq_true rfl) dX3_init_19 (fun q H g hS => ?_)
  have g := we_new g (by decide +kernel) (by decide +kernel) (fun h => h)
  have a2 : st ad 8 q 8 = q := st_same _ _ _
  have e0 : st ad 8 q 0 = h0 := (st_else ad q (by decide)).trans e0
  generalize st ad 8 q = ad at g a2 e0
  refine g_putF C0 hK g hS 0 (by decide +kernel) e0 (ci := 3) (fs := fld 1 ad memZ) rfl (C := RX3) (T := TX3) (NN := 14) rfl tyX3 tyX3_ok nmX3 inX3_3 hn 1 (by decide) (by decide +kernel) rfl rfl (ty := .array .int) (by decide +kernel) rfl rfl (Nat.le_of_ble_eq_true rfl) dX3_init_21 (fun H locs g hS => ?_)
  have g := we_putn (n' := 2) g (by rw [← a2]; rfl)
  refine lv_aload_n hx hb dX3_init_24 rfl (lv_at hl 0 rfl) ?_
  refine lv_iconst (v := 4) hx hb dX3_init_25 (by decide) ?_
  refine lv_bipush (v := 60) hx hb dX3_init_26 (by decide) ?_
  refine g_mna C0 hK g hS hA 9 10 (N' := 4) (K' := 60) (by decide +kernel) (ty := .byte) (by decide +kernel) hKN.2.2.2.2.2 (by decide +kernel) 5 1 (cK := K 5) (cy := K 1) rfl rfl (hK.2 1 _ rfl).2 (z := (60, .inl (fun _ => 0))) (by decide) (by decide) rfl rfl (Nat.le_of_ble_eq_true rfl) (Nat.le_of_ble_eq_true rfl) (Nat.le_of_ble_eq_true rfl) rfl rfl (Nat.le_of_ble_eq_true rfl) (Nat.le_of_ble_eq_true rfl) (fun c => arrV_new _ _ _) dX3_init_28 (fun q ad2 E2 H g a1 a2 a3 a4 hS => ?_)
  have g := we_mna g (by decide +kernel) a1 (fun i hi => by
    rcases List.mem_cons.mp hi with h | h
    · subst h
      exact a3
    · obtain ⟨j, hj, rfl⟩ := List.mem_map.mp h
      rw [List.mem_range] at hj
      rw [a4 j hj]
      rcases (show j = 0 ∨ j = 1 ∨ j = 2 ∨ j = 3 by omega) with rfl | rfl | rfl | rfl <;> rfl)
  have e0 : ad2 0 = h0 := (a1 0 (by decide +kernel)).1.trans e0
  clear a1 a3 a4
  obtain ⟨ad, rfl⟩ : ∃ ad, ad = ad2 := ⟨_, rfl⟩
  refine g_putF C0 hK g hS 0 (by decide +kernel) e0 (ci := 3) (fs := fld 2 ad memZ) rfl (C := RX3) (T := TX3) (NN := 14) rfl tyX3 tyX3_ok nmX3 inX3_3 hn 2 (by decide) (by decide +kernel) rfl rfl (ty := .array (.array .byte)) (by decide +kernel) rfl rfl (Nat.le_of_ble_eq_true rfl) dX3_init_32 (fun H locs g hS => ?_)
  have g := we_putn (n' := 3) g (by rw [← a2]; rfl)
  refine lv_aload_n hx hb dX3_init_35 rfl (lv_at hl 0 rfl) ?_
  refine lv_iconst (v := 4) hx hb dX3_init_36 (by decide) ?_
  refine g_newa C0 hK g hS hA 14 (by decide +kernel) (ty := .int) rfl (by decide +kernel) 0 rfl (N' := 4) (a0 := (4, .inl (fun _ => 0))) (fun _ => rfl) (by decide) rfl (Nat.le_of_ble_eq_true rfl) (Nat.le_of_ble_eq_true rfl) (Nat.le_of_ble_eq_true rfl) dX3_init_37 (fun q H g hS => ?_)
  have g := we_new g (by decide +kernel) (by decide +kernel) (fun h => h)
  have a2 : st ad 14 q 14 = q := st_same _ _ _
  have e0 : st ad 14 q 0 = h0 := (st_else ad q (by decide)).trans e0
  generalize st ad 14 q = ad at g a2 e0
  refine g_putF C0 hK g hS 0 (by decide +kernel) e0 (ci := 3) (fs := fld 3 ad memZ) rfl (C := RX3) (T := TX3) (NN := 14) rfl tyX3 tyX3_ok nmX3 inX3_3 hn 3 (by decide) (by decide +kernel) rfl rfl (ty := .array .int) (by decide +kernel) rfl rfl (Nat.le_of_ble_eq_true rfl) dX3_init_39 (fun H locs g hS => ?_)
  have g := we_putn (n' := 4) g (by rw [← a2]; rfl)
  refine lv_aload_n hx hb dX3_init_42 rfl (lv_at hl 0 rfl) ?_
  refine g_new C0 hK g hS hA 15 (by decide +kernel) (C := RX0) (T := TX0) (NN := 4) inX3_0 tyX0 tyX0_ok (by decide +kernel) (by decide +kernel) (by decide +kernel) (ci := 0) rfl [.null, .null, .null, .int 0] (fun j hj => by rcases (show j = 0 ∨ j = 1 ∨ j = 2 ∨ j = 3 by omega) with rfl | rfl | rfl | rfl <;> rfl) (Nat.le_of_ble_eq_true rfl) (Nat.le_of_ble_eq_true rfl) dX3_init_43 (fun q H g hS => ?_)
  refine lv_dup hx hb dX3_init_46 rfl ?_
  refine g_initN C0 g hS hA 15 (List.mem_append_right _ List.mem_cons_self) (st_same _ _ _) (st_same _ _ _) (by decide) (i_houses l D K q H.size) gX3_init_X0_init_n28 rfl ⟨rfl, rfl⟩ (by decide +kernel) hKN.2.1.2.2.2.1 (by decide +kernel) rfl (by decide +kernel) ⟨(Nat.le_of_ble_eq_true rfl), (Nat.le_of_ble_eq_true rfl)⟩ (fun j => 15 + j) (fun i => i - 15) rfl (fun j _ => by show 15 + j - 15 = j; omega) (nw (by decide +kernel)) hl.1 rfl (Nat.le_of_ble_eq_true rfl) dX3_init_47 ⟨(Nat.le_of_ble_eq_true rfl), (Nat.le_of_ble_eq_true rfl)⟩ (fun ad2 E2 u H locs g a1 a2 a3 hS => ?_)
  obtain ⟨g, b1, b2⟩ := we_join g (by decide +kernel) (by decide +kernel) a1 a2 a3 rfl (by decide) (ho_we rfl rfl rfl rfl (fun j h => (a3 j h).1))
  have e0 : ad2 0 = h0 := (b1 0 (by decide +kernel)).trans e0
  clear a1 a2 a3 b1
  obtain ⟨ad, rfl⟩ : ∃ ad, ad = ad2 := ⟨_, rfl⟩
  refine g_putF C0 hK g hS 0 (by decide +kernel) e0 (ci := 3) (fs := fld 4 ad memZ) rfl (C := RX3) (T := TX3) (NN := 14) rfl tyX3 tyX3_ok nmX3 inX3_3 hn 4 (by decide) (by decide +kernel) rfl rfl (ty := .object "LuckJars$Houses") (by decide +kernel) rfl rfl (Nat.le_of_ble_eq_true rfl) dX3_init_50 (fun H locs g hS => ?_)
  have g := we_putn (n' := 5) g (by rw [← b2]; rfl)
  refine lv_aload_n hx hb dX3_init_53 rfl (lv_at hl 0 rfl) ?_
  refine g_new C0 hK g hS hA 22 (by decide +kernel) (C := RX2) (T := TX2) (NN := 2) inX3_2 tyX2 tyX2_ok (by decide +kernel) (by decide +kernel) (by decide +kernel) (ci := 2) rfl [.null, .int 0] (fun j hj => by rcases (show j = 0 ∨ j = 1 by omega) with rfl | rfl <;> rfl) (Nat.le_of_ble_eq_true rfl) (Nat.le_of_ble_eq_true rfl) dX3_init_54 (fun q H g hS => ?_)
  refine lv_dup hx hb dX3_init_57 rfl ?_
  refine g_init C0 g hS hA 22 (List.mem_append_right _ List.mem_cons_self) (st_same _ _ _) (st_same _ _ _) (by decide) (i_story l D K q H.size) gX3_init_X2_init rfl ⟨rfl, rfl⟩ (by decide +kernel) (by decide +kernel) (by decide +kernel) rfl (by decide +kernel) ⟨(Nat.le_of_ble_eq_true rfl), (Nat.le_of_ble_eq_true rfl)⟩ (glS 0) (ivS 0) rfl (iv_S 0 (by decide)) (nw (by decide +kernel)) hl.1 rfl (Nat.le_of_ble_eq_true rfl) dX3_init_58 ⟨(Nat.le_of_ble_eq_true rfl), (Nat.le_of_ble_eq_true rfl)⟩ (fun ad2 E2 u H locs g a1 a2 a3 hS => ?_)
  obtain ⟨g, b1, b2⟩ := we_join g (by decide +kernel) (by decide +kernel) a1 a2 a3 rfl (by decide) (st_we (i := 0) (by decide) rfl (fun _ _ => rfl) (fun _ _ => rfl) (fun j h => (a3 j h).1))
  have e0 : ad2 0 = h0 := (b1 0 (by decide +kernel)).trans e0
  clear a1 a2 a3 b1
  obtain ⟨ad, rfl⟩ : ∃ ad, ad = ad2 := ⟨_, rfl⟩
  refine g_putF C0 hK g hS 0 (by decide +kernel) e0 (ci := 3) (fs := fld 5 ad memZ) rfl (C := RX3) (T := TX3) (NN := 14) rfl tyX3 tyX3_ok nmX3 inX3_3 hn 5 (by decide) (by decide +kernel) rfl rfl (ty := .object "LuckJars$Story") (by decide +kernel) rfl rfl (Nat.le_of_ble_eq_true rfl) dX3_init_61 (fun H locs g hS => ?_)
  have g := we_putn (n' := 6) g (by rw [← b2]; rfl)
  refine lv_aload_n hx hb dX3_init_64 rfl (lv_at hl 0 rfl) ?_
  refine lv_iconst (v := 3) hx hb dX3_init_65 (by decide) ?_
  refine g_newq C0 hK g hS hA 19 (by decide +kernel) (C := "LuckJars$Story") (by decide +kernel) hKN.2.2.2.1 3 rfl (N' := 3) (by decide) rfl (Nat.le_of_ble_eq_true rfl) (Nat.le_of_ble_eq_true rfl) (Nat.le_of_ble_eq_true rfl) dX3_init_66 (fun q H g hS => ?_)
  have g := we_new g (by decide +kernel) (by decide +kernel) (fun h => at_q h (fun j _ => (if_neg (Nat.not_lt_zero j)).symm))
  have a2 : st ad 19 q 19 = q := st_same _ _ _
  have e0 : st ad 19 q 0 = h0 := (st_else ad q (by decide)).trans e0
  generalize st ad 19 q = ad at g a2 e0
  refine g_putF C0 hK g hS 0 (by decide +kernel) e0 (ci := 3) (fs := fld 6 ad memZ) rfl (C := RX3) (T := TX3) (NN := 14) rfl tyX3 tyX3_ok nmX3 inX3_3 hn 6 (by decide) (by decide +kernel) rfl rfl (ty := .array (.object "LuckJars$Story")) (by decide +kernel) rfl rfl (Nat.le_of_ble_eq_true rfl) dX3_init_69 (fun H locs g hS => ?_)
  have g := we_putn (n' := 7) g (by rw [← a2]; rfl)
  refine lv_aload_n hx hb dX3_init_72 rfl (lv_at hl 0 rfl) ?_
  refine g_new C0 hK g hS hA 194 (by decide +kernel) (C := RX1) (T := TX1) (NN := 3) inX3_1 tyX1 tyX1_ok (by decide +kernel) (by decide +kernel) (by decide +kernel) (ci := 1) rfl [.null, .int 0, .int 0] (fun j hj => by rcases (show j = 0 ∨ j = 1 ∨ j = 2 by omega) with rfl | rfl | rfl <;> rfl) (Nat.le_of_ble_eq_true rfl) (Nat.le_of_ble_eq_true rfl) dX3_init_73 (fun q H g hS => ?_)
  refine lv_dup hx hb dX3_init_76 rfl ?_
  refine g_initN C0 g hS hA 194 (List.mem_append_right _ List.mem_cons_self) (st_same _ _ _) (st_same _ _ _) (by decide) (i_moment l D K q H.size) gX3_init_X1_init_n46 rfl ⟨rfl, rfl⟩ (by decide +kernel) hKN.2.1.2.2.2.2.2 (by decide +kernel) rfl (by decide +kernel) ⟨(Nat.le_of_ble_eq_true rfl), (Nat.le_of_ble_eq_true rfl)⟩ (fun j => 194 + 165 * j) (fun i => (i - 194) / 165) rfl (fun j _ => by show (194 + 165 * j - 194) / 165 = j; omega) (nw (by decide +kernel)) hl.1 rfl (Nat.le_of_ble_eq_true rfl) dX3_init_77 ⟨(Nat.le_of_ble_eq_true rfl), (Nat.le_of_ble_eq_true rfl)⟩ (fun ad2 E2 u H locs g a1 a2 a3 hS => ?_)
  obtain ⟨g, b1, b2⟩ := we_join g (by decide +kernel) (by decide +kernel) a1 a2 a3 rfl (by decide) (mo_we rfl rfl (fun j h => (a3 j h).1))
  have e0 : ad2 0 = h0 := (b1 0 (by decide +kernel)).trans e0
  clear a1 a2 a3 b1
  obtain ⟨ad, rfl⟩ : ∃ ad, ad = ad2 := ⟨_, rfl⟩
  refine g_putF C0 hK g hS 0 (by decide +kernel) e0 (ci := 3) (fs := fld 7 ad memZ) rfl (C := RX3) (T := TX3) (NN := 14) rfl tyX3 tyX3_ok nmX3 inX3_3 hn 7 (by decide) (by decide +kernel) rfl rfl (ty := .object "LuckJars$Moment") (by decide +kernel) rfl rfl (Nat.le_of_ble_eq_true rfl) dX3_init_80 (fun H locs g hS => ?_)
  have g := we_putn (n' := 8) g (by rw [← b2]; rfl)
  refine lv_aload_n hx hb dX3_init_83 rfl (lv_at hl 0 rfl) ?_
  refine lv_bipush (v := 7) hx hb dX3_init_84 (by decide) ?_
  refine g_newa C0 hK g hS hA 20 (by decide +kernel) (ty := .int) rfl (by decide +kernel) 0 rfl (N' := 7) (a0 := (7, .inl (fun _ => 0))) (fun _ => rfl) (by decide) rfl (Nat.le_of_ble_eq_true rfl) (Nat.le_of_ble_eq_true rfl) (Nat.le_of_ble_eq_true rfl) dX3_init_86 (fun q H g hS => ?_)
  have g := we_new g (by decide +kernel) (by decide +kernel) (fun h => h)
  have a2 : st ad 20 q 20 = q := st_same _ _ _
  have e0 : st ad 20 q 0 = h0 := (st_else ad q (by decide)).trans e0
  generalize st ad 20 q = ad at g a2 e0
  refine g_putF C0 hK g hS 0 (by decide +kernel) e0 (ci := 3) (fs := fld 8 ad memZ) rfl (C := RX3) (T := TX3) (NN := 14) rfl tyX3 tyX3_ok nmX3 inX3_3 hn 8 (by decide) (by decide +kernel) rfl rfl (ty := .array .int) (by decide +kernel) rfl rfl (Nat.le_of_ble_eq_true rfl) dX3_init_88 (fun H locs g hS => ?_)
  have g := we_putn (n' := 9) g (by rw [← a2]; rfl)
  refine lv_aload_n hx hb dX3_init_91 rfl (lv_at hl 0 rfl) ?_
  refine lv_lconst (v := 1) hx hb dX3_init_92 (by decide) ?_
  refine g_put C0 hK g hS 0 (by decide +kernel) e0 (ci := 3) (fs := fld 9 ad memZ) rfl (C := RX3) (T := TX3) (NN := 14) rfl tyX3 tyX3_ok nmX3 inX3_3 11 (by decide) (by decide +kernel) rfl (ty := .long) (by decide +kernel) rfl rfl (Nat.le_of_ble_eq_true rfl) dX3_init_93 (fun H locs g hS => ?_)
  have g := we_putn (n' := 10) g rfl
  refine lv_aload_n hx hb dX3_init_96 rfl (lv_at hl 0 rfl) ?_
  refine lv_bipush (v := 6) hx hb dX3_init_97 (by decide) ?_
  refine g_newa C0 hK g hS hA 21 (by decide +kernel) (ty := .int) rfl (by decide +kernel) 0 rfl (N' := 6) (a0 := (6, .inl (fun _ => 0))) (fun _ => rfl) (by decide) rfl (Nat.le_of_ble_eq_true rfl) (Nat.le_of_ble_eq_true rfl) (Nat.le_of_ble_eq_true rfl) dX3_init_99 (fun q H g hS => ?_)
  have g := we_new g (by decide +kernel) (by decide +kernel) (fun h => h)
  have a2 : st ad 21 q 21 = q := st_same _ _ _
  have e0 : st ad 21 q 0 = h0 := (st_else ad q (by decide)).trans e0
  generalize st ad 21 q = ad at g a2 e0
  refine g_putF C0 hK g hS 0 (by decide +kernel) e0 (ci := 3) (fs := fld 10 ad memZ) rfl (C := RX3) (T := TX3) (NN := 14) rfl tyX3 tyX3_ok nmX3 inX3_3 hn 13 (by decide) (by decide +kernel) rfl rfl (ty := .array .int) (by decide +kernel) rfl rfl (Nat.le_of_ble_eq_true rfl) dX3_init_101 (fun H locs g hS => ?_)
  have g := we_putn (n' := 11) g (by rw [← a2]; rfl)
  refine lv_aload_n hx hb dX3_init_104 rfl (lv_at hl 0 rfl) ?_
  refine g_get C0 hK g 0 (by decide +kernel) e0 (ci := 3) (fs := fld 11 ad memZ) rfl (C := RX3) (T := TX3) (NN := 14) rfl inX3_3 1 (by decide) (by decide +kernel) (v := .ref (ad 8)) rfl dX3_init_105 ?_
  refine lv_iconst (v := -1) hx hb dX3_init_108 (by decide) ?_
  refine g_fill (n := 6) (f := fun _ => 0) C0 g hS 8 (by decide +kernel) rfl rfl (by decide) gX3_init_J7_fill_53178 ⟨(Nat.le_of_ble_eq_true rfl), (Nat.le_of_ble_eq_true rfl)⟩ hl.1 rfl (Nat.le_of_ble_eq_true rfl) dX3_init_109 ⟨(Nat.le_of_ble_eq_true rfl), (Nat.le_of_ble_eq_true rfl)⟩ (fun H locs g hS => ?_)
  have g := we_S (S' := memF 8 6 memZ) (by decide) g (memF_cell _ _ _ _ (by decide) (by decide) rfl rfl) (fun j hj => ufl_ne memZ 6 (-1) hj) rfl
  refine lv_aload_n hx hb dX3_init_112 rfl (lv_at hl 0 rfl) ?_
  refine g_get C0 hK g 0 (by decide +kernel) e0 (ci := 3) (fs := fld 11 ad (memF 8 6 memZ)) rfl (C := RX3) (T := TX3) (NN := 14) rfl inX3_3 3 (by decide) (by decide +kernel) (v := .ref (ad 14)) rfl dX3_init_113 ?_
  refine lv_iconst (v := -1) hx hb dX3_init_116 (by decide) ?_
  refine g_fill (n := 4) (f := fun _ => 0) C0 g hS 14 (by decide +kernel) rfl rfl (by decide) gX3_init_J7_fill_53178 ⟨(Nat.le_of_ble_eq_true rfl), (Nat.le_of_ble_eq_true rfl)⟩ hl.1 rfl (Nat.le_of_ble_eq_true rfl) dX3_init_117 ⟨(Nat.le_of_ble_eq_true rfl), (Nat.le_of_ble_eq_true rfl)⟩ (fun H locs g hS => ?_)
  have g := we_S (S' := memF 14 4 (memF 8 6 memZ)) (by decide) g (memF_cell _ _ _ _ (by decide) (by decide) rfl rfl) (fun j hj => ufl_ne (memF 8 6 memZ) 4 (-1) hj) rfl
  refine lv_iconst (v := 0) hx hb dX3_init_120 (by decide) ?_
  refine lv_istore_n (lv' := [(1, .int 0), (0, .ref h0)]) hx hb dX3_init_121 rfl hl (by decide) rfl (fun ls hl => ?_)
  refine w_kept C0 (i := 0) (by decide) g hS e0 (by decide +kernel) (by decide +kernel) (by decide +kernel) (by decide +kernel) (nw (by decide +kernel)) rfl (memq_0 30 (Or.inl rfl)) (memq_0 195 (Or.inr rfl)) (Nat.le_of_ble_eq_true rfl) (Nat.le_of_ble_eq_true rfl) hl (fun ad2 H locs ls g hS e2 hl => ?_)
  clear e0
  obtain ⟨ad, rfl⟩ : ∃ ad, ad = ad2 := ⟨_, rfl⟩
  have e0 := e2
  clear e2
  refine w_kept C0 (i := 1) (by decide) g hS e0 (by decide +kernel) (by decide +kernel) (by decide +kernel) (by decide +kernel) (nw (by decide +kernel)) rfl (memq_1 30 (Or.inl rfl)) (memq_1 195 (Or.inr rfl)) (Nat.le_of_ble_eq_true rfl) (Nat.le_of_ble_eq_true rfl) hl (fun ad2 H locs ls g hS e2 hl => ?_)
  clear e0
  obtain ⟨ad, rfl⟩ : ∃ ad, ad = ad2 := ⟨_, rfl⟩
  have e0 := e2
  clear e2
  refine w_kept C0 (i := 2) (by decide) g hS e0 (by decide +kernel) (by decide +kernel) (by decide +kernel) (by decide +kernel) (nw (by decide +kernel)) rfl (memq_2 30 (Or.inl rfl)) (memq_2 195 (Or.inr rfl)) (Nat.le_of_ble_eq_true rfl) (Nat.le_of_ble_eq_true rfl) hl (fun ad2 H locs ls g hS e2 hl => ?_)
  clear e0
  obtain ⟨ad, rfl⟩ : ∃ ad, ad = ad2 := ⟨_, rfl⟩
  have e0 := e2
  clear e2
  refine lv_iload_n hx hb dX3_init_122 rfl (lv_at hl 0 rfl) ?_
  refine lv_iconst (v := 3) hx hb dX3_init_123 (by decide) ?_
  refine lv_icmp_ge (tgt := 156) hx hb dX3_init_124 (by decide) (fun c1 => ?_) (fun c1 => absurd (show (3 : Int32) ≤ nI (2 + 1) by decide) c1)
  refine g_ret C0 g hS e0 (by decide) (by decide +kernel) (fun k hk h => ?_) dX3_init_156
  by_cases c0 : k = 0
  · subst c0
    exact h
  by_cases c19 : k = 19
  · subst c19
    exact at_q h (fun j hj => if_pos hj)
  unfold WE at h
  rw [if_neg c0, if_neg c19] at h
  exact h
