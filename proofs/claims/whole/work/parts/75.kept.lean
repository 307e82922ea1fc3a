/-! CONSTRUCTORS: LuckJars -/
def memZ : Mem := (fun _ _ => 0, fun k => if k = 1 then 1 else 0)
def memF (a n : Nat) (S : Mem) : Mem := ufl S a n (-1)
def memK (i : Nat) (S : Mem) : Mem := ui S (22 + (1 + i)) 1 (-1)
def mem0 : Mem := memK 2 (memK 1 (memK 0 (memF 14 4 (memF 8 6 memZ))))
theorem inX3_3 : ∀ w ∈ wsX30, w ∈ wsX3_init := fun _ h => List.mem_cons_of_mem _ (List.mem_append_left _ (List.mem_append_left _ (List.mem_append_left _ (List.mem_append_right _ h))))
theorem inX3_0 : ∀ w ∈ wsX00, w ∈ wsX3_init := fun _ h => List.mem_cons_of_mem _ (List.mem_append_left _ (List.mem_append_left _ (List.mem_append_right _ h)))
theorem inX3_2 : ∀ w ∈ wsX20, w ∈ wsX3_init := fun _ h => List.mem_cons_of_mem _ (List.mem_append_left _ (List.mem_append_right _ h))
theorem inX3_1 : ∀ w ∈ wsX10, w ∈ wsX3_init := fun _ h => List.mem_cons_of_mem _ (List.mem_append_right _ h)
abbrev rmLJ : Room := { frames := 3, cells := 359, slots := 2363, locals := 53 }
theorem kpt_up {ad : Nat → Nat} {i v : Nat} (hi : i < 3) (hv : ad (22 + (1 + i)) = v) : va_up (kpt i ad) (nI i).toNatClampNeg (some v) = kpt (i + 1) ad := by
  rw [nI_clamp (by omega)]
  funext j
  unfold va_up kpt
  by_cases c : j = i
  · subst c
    rw [if_pos rfl, if_pos (Nat.lt_succ_self j), hv]
  · rw [if_neg c]
    by_cases d : j < i
    · rw [if_pos d, if_pos (by omega)]
    · rw [if_neg d, if_neg (by omega)]
set_option maxHeartbeats 4000000 in
set_option maxRecDepth 100000 in
theorem w_kept {p : Program} {l : Launch} {e : Env} {s : State} {m : MethodId} {args : Array Value} {below : List Frame} {meth : Method} {c : Code} {D : va_G} {K : Nat → ClassId} {h0 : Nat} {Q : State → Prop} (C0 : Cx p s m args meth c RX3 wsX3_init cX3_init 2 none (KN D K)) {i : Nat} (hi : i < 3) {ids : List Nat} {ad : Nat → Nat} {S : Mem} {H : Heap} {locs : List Loc} {ls : Array Slot} {cells slots : Nat} (g : GI D ids ad (WE K ad S 11 i) (AF h0 s.heap.size) H) (hS : va_S (AF h0 s.heap.size) s.heap H locs) (e0 : ad 0 = h0) (hc : CLW ids 11 i) (m0 : 0 ∈ ids) (m19 : 19 ∈ ids) (hn : 22 + (1 + i) ∉ ids) (hnew : ∀ j, 0 < j → j < 84 → glS (1 + i) j ∉ ids ++ [22 + (1 + i)]) (hz : gi S (22 + (1 + i)) 1 = 0) (hm : ∀ q, q < 165 → S.1 (30 + q) = fun _ => 0) (hj : ∀ q, q < 165 → S.1 (195 + q) = fun _ => 0) (hcells : cells + 84 ≤ 359) (hslots : slots + 453 ≤ 2363) (hl : lv_has ls 2 [(1, .int (nI i)), (0, .ref h0)])
    (kk : ∀ (ad' : Nat → Nat) (H1 : Heap) (locs1 : List Loc) (ls1 : Array Slot), GI D ((ids ++ [22 + (1 + i)]) ++ (List.range 83).map (fun j => glS (1 + i) (j + 1))) ad' (WE K ad' (memK i S) 11 (i + 1)) (AF h0 s.heap.size) H1 → va_S (AF h0 s.heap.size) s.heap H1 locs1 → ad' 0 = h0 → lv_has ls1 2 [(1, .int (nI (i + 1))), (0, .ref h0)] → W p l e rmLJ s m args below meth c H1 locs1 (cells + 84) (slots + 453) Q (F0 m 122 ls1 [])) : W p l e rmLJ s m args below meth c H locs cells slots Q (F0 m 122 ls []) := by
  have hx := C0.1
  have hb := C0.2.1
  have hKN := C0.2.2.2.2.2.2.2
  have hK := hKN.1
  have hA : ∀ q, s.heap.size ≤ q → AF h0 s.heap.size q := fun q h => Or.inr h
  have hin : inb (nI i) 3 = true := inb_nI hi (by decide)
  refine lv_iload_n hx hb dX3_init_122 rfl (lv_at hl 0 rfl) ?_
  refine lv_iconst (v := 3) hx hb dX3_init_123 (by decide) ?_
  refine lv_icmp_ge (tgt := 156) hx hb dX3_init_124 (by decide) (fun c1 => ?_) (fun c1 => ?_)
  · rw [n_3, n_le (by decide) (by omega)] at c1
    omega
  refine lv_aload_n hx hb dX3_init_127 rfl (lv_at hl 1 rfl) ?_
  refine g_get C0 hK g 0 m0 e0 (ci := 3) (fs := fld 11 ad S) rfl (C := RX3) (T := TX3) (NN := 14) rfl inX3_3 6 (by decide) (by decide +kernel) (v := .ref (ad 19)) rfl dX3_init_128 ?_
  refine lv_iload_n hx hb dX3_init_131 rfl (lv_at hl 0 rfl) ?_
  refine g_new C0 hK g hS hA (22 + (1 + i)) hn (C := RX2) (T := TX2) (NN := 2) inX3_2 tyX2 tyX2_ok (by decide +kernel) (by decide +kernel) (by decide +kernel) (ci := 2) rfl [.null, .int 0] (fun j hj => by rcases (show j = 0 ∨ j = 1 by omega) with rfl | rfl <;> rfl) (by show cells + 1 ≤ 359; omega) (by show slots + 2 ≤ 2363; omega) dX3_init_132 (fun q H g hS => ?_)
  refine lv_dup hx hb dX3_init_135 rfl ?_
  refine g_init C0 g hS hA (22 + (1 + i)) (List.mem_append_right _ List.mem_cons_self) (st_same _ _ _) (st_same _ _ _) (by decide) (i_story l D K q H.size) gX3_init_X2_init rfl ⟨rfl, rfl⟩ (by decide +kernel) (by decide +kernel) (by decide +kernel) rfl (by decide +kernel) ⟨Nat.le_of_ble_eq_true rfl, Nat.le_of_ble_eq_true rfl⟩ (glS (1 + i)) (ivS (1 + i)) rfl (iv_S (1 + i) (by omega)) hnew hl.1 rfl (Nat.le_of_ble_eq_true rfl) dX3_init_136 ⟨by show cells + 1 + 83 ≤ 359; omega, by show slots + 2 + 451 ≤ 2363; omega⟩ (fun ad' E' u H locs g a1 a2 a3 hS => ?_)
  obtain ⟨g, b1, b2⟩ := we_join g hn hc a1 a2 a3 rfl (by decide) (st_we (by omega) hz hm hj (fun j h => (a3 j h).1))
  have mK : 22 + (1 + i) ∈ (ids ++ [22 + (1 + i)]) ++ (List.range 83).map (fun j => glS (1 + i) (j + 1)) := List.mem_append_left _ (List.mem_append_right _ List.mem_cons_self)
  have m0' : 0 ∈ (ids ++ [22 + (1 + i)]) ++ (List.range 83).map (fun j => glS (1 + i) (j + 1)) := List.mem_append_left _ (List.mem_append_left _ m0)
  have m19' : 19 ∈ (ids ++ [22 + (1 + i)]) ++ (List.range 83).map (fun j => glS (1 + i) (j + 1)) := List.mem_append_left _ (List.mem_append_left _ m19)
  have eK : WE K ad' S 11 i (22 + (1 + i)) = .inr (2, [.ref (ad' (26 + (1 + i))), .int (gi S (22 + (1 + i)) 1)]) := by
    unfold WE
    rw [if_neg (by omega), if_neg (by omega), EC_S K ad' S (by omega)]
  refine g_ast C0 hK g hS 19 (22 + (1 + i)) m19' mK (b1 19 m19) b2 3 (cK := K 3) (n := 3) (f := kpt i ad') rfl (r := (RX2, TX2, 2)) rfl eK rfl hin dX3_init_139 (fun H locs g hS => ?_)
  have g := we_to (n' := 11) (m' := i + 1) (S' := S) g (by rw [kpt_up hi b2]; rfl) (fun j hj => by unfold WE; rw [if_neg hj, if_neg hj])
  refine lv_aload_n hx hb dX3_init_140 rfl (lv_at hl 1 rfl) ?_
  refine g_get C0 hK g 0 m0' ((b1 0 m0).trans e0) (ci := 3) (fs := fld 11 ad' S) rfl (C := RX3) (T := TX3) (NN := 14) rfl inX3_3 6 (by decide) (by decide +kernel) (v := .ref (ad' 19)) rfl dX3_init_141 ?_
  refine lv_iload_n hx hb dX3_init_144 rfl (lv_at hl 0 rfl) ?_
  refine g_ald C0 hK g 19 m19' rfl 3 (cK := K 3) (n := 3) (f := kpt (i + 1) ad') (C := "LuckJars$Story") rfl rfl hin (by rw [nI_clamp (by omega)]; exact if_pos (Nat.lt_succ_self i)) dX3_init_145 ?_
  refine lv_iconst (v := -1) hx hb dX3_init_146 (by decide) ?_
  have eK2 : WE K ad' S 11 (i + 1) (22 + (1 + i)) = .inr (2, [.ref (ad' (26 + (1 + i))), .int (gi S (22 + (1 + i)) 1)]) := by
    unfold WE
    rw [if_neg (by omega), if_neg (by omega), EC_S K ad' S (by omega)]
  refine g_put C0 hK g hS (22 + (1 + i)) mK rfl eK2 (C := RX2) (T := TX2) (NN := 2) rfl tyX2 tyX2_ok nmX2 inX3_2 1 (by decide) (by decide +kernel) rfl (ty := .int) (by decide +kernel) rfl rfl (Nat.le_of_ble_eq_true rfl) dX3_init_147 (fun H locs g hS => ?_)
  have g := we_S (S' := memK i S) (by omega) g (by
    unfold WE memK
    rw [if_neg (by omega), if_neg (by omega), EC_pS K ad' S (-1) (by omega)]
    rfl) (fun j hj => ui_ne S 1 (-1) hj) rfl
  refine lv_iinc (v := nI (i + 1)) (lv' := [(1, .int (nI (i + 1))), (0, .ref h0)]) hx hb dX3_init_150 hl (k := 0) rfl (by rw [← nI_1]; rfl) (by decide) rfl (fun ls hl => ?_)
  refine lv_goto (tgt := 122) hx hb dX3_init_153 (by decide) ?_
  exact kk ad' H locs ls g hS ((b1 0 m0).trans e0) hl
