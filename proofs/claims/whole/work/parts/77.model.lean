/-! CONSTRUCTORS: the reference -/
theorem inX4 : ∀ w ∈ wsX40, w ∈ wsX4_init := fun _ h => List.mem_cons_of_mem _ (List.mem_append_right _ h)
abbrev rmLM : Room := { frames := 1, cells := 16, slots := 2868, locals := 12 }
def memM : Mem := memF 13 3 (memF 4 4 (memF 2 6 memZ))
def upI (i : Nat) (j : Nat) : Int32 := if j < i then -1 else 0
theorem upI_s (i : Nat) : upd (upI i) i (-1) = upI (i + 1) := by
  funext j
  unfold upd upI
  by_cases c : j = i
  · rw [if_pos c, if_pos (by omega)]
  · rw [if_neg c]
    by_cases d : j < i
    · rw [if_pos d, if_pos (by omega)]
    · rw [if_neg d, if_neg (by omega)]
set_option maxHeartbeats 4000000 in
set_option maxRecDepth 100000 in
theorem w_mla {p : Program} {l : Launch} {e : Env} {s : State} {m : MethodId} {args : Array Value} {below : List Frame} {meth : Method} {c : Code} {D : va_G} {K : Nat → ClassId} {h0 : Nat} {Q : State → Prop} {ids : List Nat} {ad : Nat → Nat} {A : Nat → Prop} {fs : List Value} {cells slots : Nat} (C0 : Cx p s m args meth c RX4 wsX4_init cX4_init 2 none (KN D K)) (e0 : ad 0 = h0) (m0 : 0 ∈ ids) (mc : 2 ∈ ids) (hf : fs[5]? = some (.ref (ad 2))) : ∀ (n i : Nat) (E : Nat → va_E) (H : Heap) (locs : List Loc) (ls : Array Slot), 6 - i < n → i ≤ 6 → GI D ids ad E A H → va_S A s.heap H locs → E 0 = .inr (4, fs) → E 2 = .inl (K 0, 6, .inl (upI i)) → lv_has ls 2 [(1, .int (nI i)), (0, .ref h0)] → (∀ (E' : Nat → va_E) (H1 : Heap) (locs1 : List Loc) (ls1 : Array Slot), GI D ids ad E' A H1 → va_S A s.heap H1 locs1 → (∀ k, k ≠ 2 → E' k = E k) → E' 2 = .inl (K 0, 6, .inl (upI 6)) → lv_has ls1 2 [(1, .int (nI 6)), (0, .ref h0)] → W p l e rmLM s m args below meth c H1 locs1 cells slots Q (F0 m 161 ls1 [])) → W p l e rmLM s m args below meth c H locs cells slots Q (F0 m 142 ls []) := by
  have hx := C0.1
  have hb := C0.2.1
  have hKN := C0.2.2.2.2.2.2.2
  have hK := hKN.1
  intro n
  induction n with
  | zero =>
    intro i E H locs ls h1
    omega
  | succ n ih =>
    intro i E H locs ls h1 h2 g hS hE0 hEc hl kk
    refine lv_iload_n hx hb dX4_init_142 rfl (lv_at hl 0 rfl) ?_
    refine lv_bipush (v := 6) hx hb dX4_init_143 (by decide) ?_
    refine lv_icmp_ge (tgt := 161) hx hb dX4_init_145 (by decide) (fun c1 => ?_) (fun c1 => ?_)
    · rw [n_6, n_le (by decide) (by omega)] at c1
      have ei : i = 6 := by omega
      subst ei
      exact kk E H locs ls g hS (fun _ _ => rfl) hEc hl
    · rw [n_6, n_le (by decide) (by omega)] at c1
      refine lv_aload_n hx hb dX4_init_148 rfl (lv_at hl 1 rfl) ?_
      refine g_get C0 hK g 0 m0 e0 hE0 (C := RX4) (T := TX4) (NN := 23) rfl inX4 5 (by decide) (by decide +kernel) hf dX4_init_149 ?_
      refine lv_iload_n hx hb dX4_init_152 rfl (lv_at hl 0 rfl) ?_
      refine lv_iconst (v := -1) hx hb dX4_init_153 (by decide) ?_
      refine g_iast C0 hK g hS 2 mc rfl hEc (inb_nI (by omega) (by decide)) dX4_init_154 (fun H locs g hS => ?_)
      rw [nI_clamp (by omega), upI_s] at g
      refine lv_iinc (v := nI (i + 1)) (lv' := [(1, .int (nI (i + 1))), (0, .ref h0)]) hx hb dX4_init_155 hl (k := 0) rfl (by rw [← nI_1]; rfl) (by decide) rfl (fun ls hl => ?_)
      refine lv_goto (tgt := 142) hx hb dX4_init_158 (by decide) ?_
      refine ih (i + 1) _ H locs ls (by omega) (by omega) g hS ((st_else _ _ (by decide)).trans hE0) (st_same _ _ _) hl (fun E' H1 locs1 ls1 g hS a1 a2 hl => kk E' H1 locs1 ls1 g hS (fun k hk => ?_) a2 hl)
      rw [a1 k hk, st_else _ _ hk]
set_option maxHeartbeats 4000000 in
set_option maxRecDepth 100000 in
theorem w_mlb {p : Program} {l : Launch} {e : Env} {s : State} {m : MethodId} {args : Array Value} {below : List Frame} {meth : Method} {c : Code} {D : va_G} {K : Nat → ClassId} {h0 : Nat} {Q : State → Prop} {ids : List Nat} {ad : Nat → Nat} {A : Nat → Prop} {fs : List Value} {cells slots : Nat} (C0 : Cx p s m args meth c RX4 wsX4_init cX4_init 2 none (KN D K)) (e0 : ad 0 = h0) (m0 : 0 ∈ ids) (mc : 4 ∈ ids) (hf : fs[7]? = some (.ref (ad 4))) : ∀ (n i : Nat) (E : Nat → va_E) (H : Heap) (locs : List Loc) (ls : Array Slot), 4 - i < n → i ≤ 4 → GI D ids ad E A H → va_S A s.heap H locs → E 0 = .inr (4, fs) → E 4 = .inl (K 0, 4, .inl (upI i)) → lv_has ls 2 [(1, .int (nI i)), (0, .ref h0)] → (∀ (E' : Nat → va_E) (H1 : Heap) (locs1 : List Loc) (ls1 : Array Slot), GI D ids ad E' A H1 → va_S A s.heap H1 locs1 → (∀ k, k ≠ 4 → E' k = E k) → E' 4 = .inl (K 0, 4, .inl (upI 4)) → lv_has ls1 2 [(1, .int (nI 4)), (0, .ref h0)] → W p l e rmLM s m args below meth c H1 locs1 cells slots Q (F0 m 181 ls1 [])) → W p l e rmLM s m args below meth c H locs cells slots Q (F0 m 163 ls []) := by
  have hx := C0.1
  have hb := C0.2.1
  have hKN := C0.2.2.2.2.2.2.2
  have hK := hKN.1
  intro n
  induction n with
  | zero =>
    intro i E H locs ls h1
    omega
  | succ n ih =>
    intro i E H locs ls h1 h2 g hS hE0 hEc hl kk
    refine lv_iload_n hx hb dX4_init_163 rfl (lv_at hl 0 rfl) ?_
    refine lv_iconst (v := 4) hx hb dX4_init_164 (by decide) ?_
    refine lv_icmp_ge (tgt := 181) hx hb dX4_init_165 (by decide) (fun c1 => ?_) (fun c1 => ?_)
    · rw [n_4, n_le (by decide) (by omega)] at c1
      have ei : i = 4 := by omega
      subst ei
      exact kk E H locs ls g hS (fun _ _ => rfl) hEc hl
    · rw [n_4, n_le (by decide) (by omega)] at c1
      refine lv_aload_n hx hb dX4_init_168 rfl (lv_at hl 1 rfl) ?_
      refine g_get C0 hK g 0 m0 e0 hE0 (C := RX4) (T := TX4) (NN := 23) rfl inX4 7 (by decide) (by decide +kernel) hf dX4_init_169 ?_
      refine lv_iload_n hx hb dX4_init_172 rfl (lv_at hl 0 rfl) ?_
      refine lv_iconst (v := -1) hx hb dX4_init_173 (by decide) ?_
      refine g_iast C0 hK g hS 4 mc rfl hEc (inb_nI (by omega) (by decide)) dX4_init_174 (fun H locs g hS => ?_)
      rw [nI_clamp (by omega), upI_s] at g
      refine lv_iinc (v := nI (i + 1)) (lv' := [(1, .int (nI (i + 1))), (0, .ref h0)]) hx hb dX4_init_175 hl (k := 0) rfl (by rw [← nI_1]; rfl) (by decide) rfl (fun ls hl => ?_)
      refine lv_goto (tgt := 163) hx hb dX4_init_178 (by decide) ?_
      refine ih (i + 1) _ H locs ls (by omega) (by omega) g hS ((st_else _ _ (by decide)).trans hE0) (st_same _ _ _) hl (fun E' H1 locs1 ls1 g hS a1 a2 hl => kk E' H1 locs1 ls1 g hS (fun k hk => ?_) a2 hl)
      rw [a1 k hk, st_else _ _ hk]
set_option maxHeartbeats 4000000 in
set_option maxRecDepth 100000 in
theorem w_mlc {p : Program} {l : Launch} {e : Env} {s : State} {m : MethodId} {args : Array Value} {below : List Frame} {meth : Method} {c : Code} {D : va_G} {K : Nat → ClassId} {h0 : Nat} {Q : State → Prop} {ids : List Nat} {ad : Nat → Nat} {A : Nat → Prop} {fs : List Value} {cells slots : Nat} (C0 : Cx p s m args meth c RX4 wsX4_init cX4_init 2 none (KN D K)) (e0 : ad 0 = h0) (m0 : 0 ∈ ids) (mc : 13 ∈ ids) (hf : fs[19]? = some (.ref (ad 13))) : ∀ (n i : Nat) (E : Nat → va_E) (H : Heap) (locs : List Loc) (ls : Array Slot), 3 - i < n → i ≤ 3 → GI D ids ad E A H → va_S A s.heap H locs → E 0 = .inr (4, fs) → E 13 = .inl (K 0, 3, .inl (upI i)) → lv_has ls 2 [(1, .int (nI i)), (0, .ref h0)] → (∀ (E' : Nat → va_E) (H1 : Heap) (locs1 : List Loc) (ls1 : Array Slot), GI D ids ad E' A H1 → va_S A s.heap H1 locs1 → (∀ k, k ≠ 13 → E' k = E k) → E' 13 = .inl (K 0, 3, .inl (upI 3)) → lv_has ls1 2 [(1, .int (nI 3)), (0, .ref h0)] → W p l e rmLM s m args below meth c H1 locs1 cells slots Q (F0 m 201 ls1 [])) → W p l e rmLM s m args below meth c H locs cells slots Q (F0 m 183 ls []) := by
  have hx := C0.1
  have hb := C0.2.1
  have hKN := C0.2.2.2.2.2.2.2
  have hK := hKN.1
  intro n
  induction n with
  | zero =>
    intro i E H locs ls h1
    omega
  | succ n ih =>
    intro i E H locs ls h1 h2 g hS hE0 hEc hl kk
    refine lv_iload_n hx hb dX4_init_183 rfl (lv_at hl 0 rfl) ?_
    refine lv_iconst (v := 3) hx hb dX4_init_184 (by decide) ?_
    refine lv_icmp_ge (tgt := 201) hx hb dX4_init_185 (by decide) (fun c1 => ?_) (fun c1 => ?_)
    · rw [n_3, n_le (by decide) (by omega)] at c1
      have ei : i = 3 := by omega
      subst ei
      exact kk E H locs ls g hS (fun _ _ => rfl) hEc hl
    · rw [n_3, n_le (by decide) (by omega)] at c1
      refine lv_aload_n hx hb dX4_init_188 rfl (lv_at hl 1 rfl) ?_
      refine g_get C0 hK g 0 m0 e0 hE0 (C := RX4) (T := TX4) (NN := 23) rfl inX4 19 (by decide) (by decide +kernel) hf dX4_init_189 ?_
      refine lv_iload_n hx hb dX4_init_192 rfl (lv_at hl 0 rfl) ?_
      refine lv_iconst (v := -1) hx hb dX4_init_193 (by decide) ?_
      refine g_iast C0 hK g hS 13 mc rfl hEc (inb_nI (by omega) (by decide)) dX4_init_194 (fun H locs g hS => ?_)
      rw [nI_clamp (by omega), upI_s] at g
      refine lv_iinc (v := nI (i + 1)) (lv' := [(1, .int (nI (i + 1))), (0, .ref h0)]) hx hb dX4_init_195 hl (k := 0) rfl (by rw [← nI_1]; rfl) (by decide) rfl (fun ls hl => ?_)
      refine lv_goto (tgt := 183) hx hb dX4_init_198 (by decide) ?_
      refine ih (i + 1) _ H locs ls (by omega) (by omega) g hS ((st_else _ _ (by decide)).trans hE0) (st_same _ _ _) hl (fun E' H1 locs1 ls1 g hS a1 a2 hl => kk E' H1 locs1 ls1 g hS (fun k hk => ?_) a2 hl)
      rw [a1 k hk, st_else _ _ hk]
theorem EM_c (K : Nat → ClassId) (ad : Nat → Nat) (S : Mem) {k : Nat} (h : k ≠ 0) : EM K ad S k = .inl (K 0, lenM k, .inl (S.1 k)) := if_neg h
theorem memF_up (a n : Nat) {S : Mem} (hz : S.1 a = fun _ => 0) : (memF a n S).1 a = upI n := by
  funext j
  show (if a = a ∧ j < n then (-1 : Int32) else S.1 a j) = upI n j
  unfold upI
  rw [hz]
  by_cases c : j < n
  · rw [if_pos ⟨rfl, c⟩, if_pos c]
  · rw [if_neg (fun q => c q.2), if_neg c]
def fldM (n : Nat) (v : Int64) (ad : Nat → Nat) : List Value := [.int 0, if 1 ≤ n then .ref (ad 1) else .null, .int 0, .long 0, .long v, if 2 ≤ n then .ref (ad 2) else .null, if 3 ≤ n then .ref (ad 3) else .null, if 4 ≤ n then .ref (ad 4) else .null, if 5 ≤ n then .ref (ad 5) else .null, if 6 ≤ n then .ref (ad 6) else .null, if 7 ≤ n then .ref (ad 7) else .null, .int 0, .int 0, if 8 ≤ n then .ref (ad 8) else .null, if 9 ≤ n then .ref (ad 9) else .null, if 10 ≤ n then .ref (ad 10) else .null, if 11 ≤ n then .ref (ad 11) else .null, if 12 ≤ n then .ref (ad 12) else .null, .int 0, if 13 ≤ n then .ref (ad 13) else .null, if 14 ≤ n then .ref (ad 14) else .null, if 15 ≤ n then .ref (ad 15) else .null, if 16 ≤ n then .ref (ad 16) else .null]
def WM (K : Nat → ClassId) (ad : Nat → Nat) (n : Nat) (v : Int64) (i : Nat) : va_E := if i = 0 then .inr (4, fldM n v ad) else .inl (K 0, lenM i, .inl (fun _ => 0))
theorem wm_step {D : va_G} {K : Nat → ClassId} {ad ad' : Nat → Nat} {A : Nat → Prop} {H : Heap} {n : Nat} {v : Int64} {x y : va_E} (g : GI D (List.range (n + 1) ++ [n + 1]) ad' (st (st (WM K ad n v) (n + 1) x) 0 y) A H) (hx : x = WM K ad' (n + 1) v (n + 1)) (hy : y = WM K ad' (n + 1) v 0) : GI D (List.range (n + 2)) ad' (WM K ad' (n + 1) v) A H := by
  rw [List.range_succ]
  refine g.to (fun _ _ => rfl) (fun i _ h => ?_)
  by_cases c : i = 0
  · subst c
    rw [st_same, hy] at h
    exact h
  rw [st_else _ _ c] at h
  by_cases d : i = n + 1
  · subst d
    rw [st_same, hx] at h
    exact h
  rw [st_else _ _ d] at h
  unfold WM at h ⊢
  rw [if_neg c] at h ⊢
  exact h
theorem wm_put {D : va_G} {K : Nat → ClassId} {ids : List Nat} {ad : Nat → Nat} {A : Nat → Prop} {H : Heap} {n : Nat} {v v' : Int64} {y : va_E} (g : GI D ids ad (st (WM K ad n v) 0 y) A H) (hy : y = WM K ad n v' 0) : GI D ids ad (WM K ad n v') A H :=
  g.to (fun _ _ => rfl) (fun i _ h => by
    by_cases c : i = 0
    · subst c
      rw [st_same, hy] at h
      exact h
    · rw [st_else _ _ c] at h
      unfold WM at h ⊢
      rw [if_neg c] at h ⊢
      exact h)
set_option maxHeartbeats 8000000 in
set_option maxRecDepth 100000 in
theorem i_model (l : Launch) (D : va_G) (K : Nat → ClassId) (h0 sz : Nat) : MkC l yX4_init wsX4_init rmLM D K h0 sz (.inr (4, [.int 0, .null, .int 0, .long 0, .long 0, .null, .null, .null, .null, .null, .null, .int 0, .int 0, .null, .null, .null, .null, .null, .int 0, .null, .null, .null, .null])) 17 (fun u => EM K u memM) 16 2868 := by
  refine met_of (own := RX4) (PP := fun Hp => Hp.size = sz ∧ va_at D vwCl (h0, .inr (4, [.int 0, .null, .int 0, .long 0, .long 0, .null, .null, .null, .null, .null, .null, .int 0, .int 0, .null, .null, .null, .null, .null, .int 0, .null, .null, .null, .null])) Hp) (KK := KN D K) (by decide) rfl rfl (Nat.le_of_ble_eq_true rfl) (fun p e s m below meth c ls C0 hn hP hl => ?_)
  obtain ⟨rfl, hx0⟩ := hP
  have hn : meth.name = "<init>" := hn
  have hA : ∀ q, s.heap.size ≤ q → AF h0 s.heap.size q := fun q h => Or.inr h
  have hS : va_S (AF h0 s.heap.size) s.heap s.heap [] := va_S.rf
  have hx := C0.1
  have hb := C0.2.1
  have hts := C0.2.2.2.2.1
  have hown := C0.2.2.2.1
  have hKN := C0.2.2.2.2.2.2.2
  have hK := hKN.1
  have g : GI D (List.range 1) (fun _ => h0) (WM K (fun _ => h0) 0 0) (AF h0 s.heap.size) s.heap := (gi_start hx0).to (fun _ _ => rfl) (fun k hk h => by
    rw [List.mem_singleton] at hk
    subst hk
    exact h)
  have e0 : (fun _ : Nat => h0) 0 = h0 := rfl
  generalize (fun _ : Nat => h0) = ad at g e0
  refine lv_aload_n hx hb dX4_init_0 rfl (lv_at hl 0 rfl) ?_
  refine W.objInit hx hb hown (hts (.methodLink RX4 1 objectInit) (by decide +kernel)) (hts (.instanceMethod objectInit) (by decide +kernel)) (hts (.code objectInit ⟨#[0xb1]⟩ 1 none) (by decide +kernel)) rfl (by rw [C0.2.2.1]; exact hl.1) rfl dX4_init_1 (Nat.le_of_ble_eq_true rfl) (Nat.le_of_ble_eq_true rfl) ?_
  refine W.eq (g2 := F0 m 4 ls []) rfl ?_
  refine lv_aload_n hx hb dX4_init_4 rfl (lv_at hl 0 rfl) ?_
  refine lv_bipush (v := 6) hx hb dX4_init_5 (by decide) ?_
  refine g_newa C0 hK g hS hA 1 (by decide) (ty := .int) rfl (by decide +kernel) 0 rfl (N' := 6) (a0 := (6, .inl (fun _ => 0))) (fun _ => rfl) (by decide) rfl (Nat.le_of_ble_eq_true rfl) (Nat.le_of_ble_eq_true rfl) (Nat.le_of_ble_eq_true rfl) dX4_init_7 (fun q H g hS => ?_)
  refine g_putF C0 hK g hS 0 (by decide) ((st_else ad q (by decide)).trans e0) (ci := 4) (fs := fldM 0 0 ad) rfl (C := RX4) (T := TX4) (NN := 23) rfl tyX4 tyX4_ok nmX4 inX4 hn 1 (by decide) (by decide +kernel) rfl rfl (ty := .array .int) (by decide +kernel) rfl rfl (Nat.le_of_ble_eq_true rfl) dX4_init_9 (fun H locs g hS => ?_)
  have g := wm_step (n := 0) g rfl rfl
  have e0 : st ad 1 q 0 = h0 := (st_else ad q (by decide)).trans e0
  generalize st ad 1 q = ad at g e0
  refine lv_aload_n hx hb dX4_init_12 rfl (lv_at hl 0 rfl) ?_
  refine lv_lconst (v := 1) hx hb dX4_init_13 (by decide) ?_
  refine g_put C0 hK g hS 0 (by decide) e0 (ci := 4) (fs := fldM 1 0 ad) rfl (C := RX4) (T := TX4) (NN := 23) rfl tyX4 tyX4_ok nmX4 inX4 4 (by decide) (by decide +kernel) rfl (ty := .long) (by decide +kernel) rfl rfl (Nat.le_of_ble_eq_true rfl) dX4_init_14 (fun H locs g hS => ?_)
  have g := wm_put (v' := 1) g rfl
  refine lv_aload_n hx hb dX4_init_17 rfl (lv_at hl 0 rfl) ?_
  refine lv_bipush (v := 6) hx hb dX4_init_18 (by decide) ?_
  refine g_newa C0 hK g hS hA 2 (by decide) (ty := .int) rfl (by decide +kernel) 0 rfl (N' := 6) (a0 := (6, .inl (fun _ => 0))) (fun _ => rfl) (by decide) rfl (Nat.le_of_ble_eq_true rfl) (Nat.le_of_ble_eq_true rfl) (Nat.le_of_ble_eq_true rfl) dX4_init_20 (fun q H g hS => ?_)
  refine g_putF C0 hK g hS 0 (by decide) ((st_else ad q (by decide)).trans e0) (ci := 4) (fs := fldM 1 1 ad) rfl (C := RX4) (T := TX4) (NN := 23) rfl tyX4 tyX4_ok nmX4 inX4 hn 5 (by decide) (by decide +kernel) rfl rfl (ty := .array .int) (by decide +kernel) rfl rfl (Nat.le_of_ble_eq_true rfl) dX4_init_22 (fun H locs g hS => ?_)
  have g := wm_step (n := 1) g rfl rfl
  have e0 : st ad 2 q 0 = h0 := (st_else ad q (by decide)).trans e0
  generalize st ad 2 q = ad at g e0
  refine lv_aload_n hx hb dX4_init_25 rfl (lv_at hl 0 rfl) ?_
  refine lv_sipush (v := 240) hx hb dX4_init_26 (by decide) ?_
  refine g_newa C0 hK g hS hA 3 (by decide) (ty := .int) rfl (by decide +kernel) 0 rfl (N' := 240) (a0 := (240, .inl (fun _ => 0))) (fun _ => rfl) (by decide) rfl (Nat.le_of_ble_eq_true rfl) (Nat.le_of_ble_eq_true rfl) (Nat.le_of_ble_eq_true rfl) dX4_init_29 (fun q H g hS => ?_)
  refine g_putF C0 hK g hS 0 (by decide) ((st_else ad q (by decide)).trans e0) (ci := 4) (fs := fldM 2 1 ad) rfl (C := RX4) (T := TX4) (NN := 23) rfl tyX4 tyX4_ok nmX4 inX4 hn 6 (by decide) (by decide +kernel) rfl rfl (ty := .array .int) (by decide +kernel) rfl rfl (Nat.le_of_ble_eq_true rfl) dX4_init_31 (fun H locs g hS => ?_)
  have g := wm_step (n := 2) g rfl rfl
  have e0 : st ad 3 q 0 = h0 := (st_else ad q (by decide)).trans e0
  generalize st ad 3 q = ad at g e0
  refine lv_aload_n hx hb dX4_init_34 rfl (lv_at hl 0 rfl) ?_
  refine lv_iconst (v := 4) hx hb dX4_init_35 (by decide) ?_
  refine g_newa C0 hK g hS hA 4 (by decide) (ty := .int) rfl (by decide +kernel) 0 rfl (N' := 4) (a0 := (4, .inl (fun _ => 0))) (fun _ => rfl) (by decide) rfl (Nat.le_of_ble_eq_true rfl) (Nat.le_of_ble_eq_true rfl) (Nat.le_of_ble_eq_true rfl) dX4_init_36 (fun q H g hS => ?_)
  refine g_putF C0 hK g hS 0 (by decide) ((st_else ad q (by decide)).trans e0) (ci := 4) (fs := fldM 3 1 ad) rfl (C := RX4) (T := TX4) (NN := 23) rfl tyX4 tyX4_ok nmX4 inX4 hn 7 (by decide) (by decide +kernel) rfl rfl (ty := .array .int) (by decide +kernel) rfl rfl (Nat.le_of_ble_eq_true rfl) dX4_init_38 (fun H locs g hS => ?_)
  have g := wm_step (n := 3) g rfl rfl
  have e0 : st ad 4 q 0 = h0 := (st_else ad q (by decide)).trans e0
  generalize st ad 4 q = ad at g e0
  refine lv_aload_n hx hb dX4_init_41 rfl (lv_at hl 0 rfl) ?_
  refine lv_sipush (v := 240) hx hb dX4_init_42 (by decide) ?_
  refine g_newa C0 hK g hS hA 5 (by decide) (ty := .int) rfl (by decide +kernel) 0 rfl (N' := 240) (a0 := (240, .inl (fun _ => 0))) (fun _ => rfl) (by decide) rfl (Nat.le_of_ble_eq_true rfl) (Nat.le_of_ble_eq_true rfl) (Nat.le_of_ble_eq_true rfl) dX4_init_45 (fun q H g hS => ?_)
  refine g_putF C0 hK g hS 0 (by decide) ((st_else ad q (by decide)).trans e0) (ci := 4) (fs := fldM 4 1 ad) rfl (C := RX4) (T := TX4) (NN := 23) rfl tyX4 tyX4_ok nmX4 inX4 hn 8 (by decide) (by decide +kernel) rfl rfl (ty := .array .int) (by decide +kernel) rfl rfl (Nat.le_of_ble_eq_true rfl) dX4_init_47 (fun H locs g hS => ?_)
  have g := wm_step (n := 4) g rfl rfl
  have e0 : st ad 5 q 0 = h0 := (st_else ad q (by decide)).trans e0
  generalize st ad 5 q = ad at g e0
  refine lv_aload_n hx hb dX4_init_50 rfl (lv_at hl 0 rfl) ?_
  refine lv_bipush (v := 40) hx hb dX4_init_51 (by decide) ?_
  refine g_newa C0 hK g hS hA 6 (by decide) (ty := .int) rfl (by decide +kernel) 0 rfl (N' := 40) (a0 := (40, .inl (fun _ => 0))) (fun _ => rfl) (by decide) rfl (Nat.le_of_ble_eq_true rfl) (Nat.le_of_ble_eq_true rfl) (Nat.le_of_ble_eq_true rfl) dX4_init_53 (fun q H g hS => ?_)
  refine g_putF C0 hK g hS 0 (by decide) ((st_else ad q (by decide)).trans e0) (ci := 4) (fs := fldM 5 1 ad) rfl (C := RX4) (T := TX4) (NN := 23) rfl tyX4 tyX4_ok nmX4 inX4 hn 9 (by decide) (by decide +kernel) rfl rfl (ty := .array .int) (by decide +kernel) rfl rfl (Nat.le_of_ble_eq_true rfl) dX4_init_55 (fun H locs g hS => ?_)
  have g := wm_step (n := 5) g rfl rfl
  have e0 : st ad 6 q 0 = h0 := (st_else ad q (by decide)).trans e0
  generalize st ad 6 q = ad at g e0
  refine lv_aload_n hx hb dX4_init_58 rfl (lv_at hl 0 rfl) ?_
  refine lv_bipush (v := 28) hx hb dX4_init_59 (by decide) ?_
  refine g_newa C0 hK g hS hA 7 (by decide) (ty := .int) rfl (by decide +kernel) 0 rfl (N' := 28) (a0 := (28, .inl (fun _ => 0))) (fun _ => rfl) (by decide) rfl (Nat.le_of_ble_eq_true rfl) (Nat.le_of_ble_eq_true rfl) (Nat.le_of_ble_eq_true rfl) dX4_init_61 (fun q H g hS => ?_)
  refine g_putF C0 hK g hS 0 (by decide) ((st_else ad q (by decide)).trans e0) (ci := 4) (fs := fldM 6 1 ad) rfl (C := RX4) (T := TX4) (NN := 23) rfl tyX4 tyX4_ok nmX4 inX4 hn 10 (by decide) (by decide +kernel) rfl rfl (ty := .array .int) (by decide +kernel) rfl rfl (Nat.le_of_ble_eq_true rfl) dX4_init_63 (fun H locs g hS => ?_)
  have g := wm_step (n := 6) g rfl rfl
  have e0 : st ad 7 q 0 = h0 := (st_else ad q (by decide)).trans e0
  generalize st ad 7 q = ad at g e0
  refine lv_aload_n hx hb dX4_init_66 rfl (lv_at hl 0 rfl) ?_
  refine lv_bipush (v := 7) hx hb dX4_init_67 (by decide) ?_
  refine g_newa C0 hK g hS hA 8 (by decide) (ty := .int) rfl (by decide +kernel) 0 rfl (N' := 7) (a0 := (7, .inl (fun _ => 0))) (fun _ => rfl) (by decide) rfl (Nat.le_of_ble_eq_true rfl) (Nat.le_of_ble_eq_true rfl) (Nat.le_of_ble_eq_true rfl) dX4_init_69 (fun q H g hS => ?_)
  refine g_putF C0 hK g hS 0 (by decide) ((st_else ad q (by decide)).trans e0) (ci := 4) (fs := fldM 7 1 ad) rfl (C := RX4) (T := TX4) (NN := 23) rfl tyX4 tyX4_ok nmX4 inX4 hn 13 (by decide) (by decide +kernel) rfl rfl (ty := .array .int) (by decide +kernel) rfl rfl (Nat.le_of_ble_eq_true rfl) dX4_init_71 (fun H locs g hS => ?_)
  have g := wm_step (n := 7) g rfl rfl
  have e0 : st ad 8 q 0 = h0 := (st_else ad q (by decide)).trans e0
  generalize st ad 8 q = ad at g e0
  refine lv_aload_n hx hb dX4_init_74 rfl (lv_at hl 0 rfl) ?_
  refine lv_bipush (v := 7) hx hb dX4_init_75 (by decide) ?_
  refine g_newa C0 hK g hS hA 9 (by decide) (ty := .int) rfl (by decide +kernel) 0 rfl (N' := 7) (a0 := (7, .inl (fun _ => 0))) (fun _ => rfl) (by decide) rfl (Nat.le_of_ble_eq_true rfl) (Nat.le_of_ble_eq_true rfl) (Nat.le_of_ble_eq_true rfl) dX4_init_77 (fun q H g hS => ?_)
  refine g_putF C0 hK g hS 0 (by decide) ((st_else ad q (by decide)).trans e0) (ci := 4) (fs := fldM 8 1 ad) rfl (C := RX4) (T := TX4) (NN := 23) rfl tyX4 tyX4_ok nmX4 inX4 hn 14 (by decide) (by decide +kernel) rfl rfl (ty := .array .int) (by decide +kernel) rfl rfl (Nat.le_of_ble_eq_true rfl) dX4_init_79 (fun H locs g hS => ?_)
  have g := wm_step (n := 8) g rfl rfl
  have e0 : st ad 9 q 0 = h0 := (st_else ad q (by decide)).trans e0
  generalize st ad 9 q = ad at g e0
  refine lv_aload_n hx hb dX4_init_82 rfl (lv_at hl 0 rfl) ?_
  refine lv_bipush (v := 7) hx hb dX4_init_83 (by decide) ?_
  refine g_newa C0 hK g hS hA 10 (by decide) (ty := .int) rfl (by decide +kernel) 0 rfl (N' := 7) (a0 := (7, .inl (fun _ => 0))) (fun _ => rfl) (by decide) rfl (Nat.le_of_ble_eq_true rfl) (Nat.le_of_ble_eq_true rfl) (Nat.le_of_ble_eq_true rfl) dX4_init_85 (fun q H g hS => ?_)
  refine g_putF C0 hK g hS 0 (by decide) ((st_else ad q (by decide)).trans e0) (ci := 4) (fs := fldM 9 1 ad) rfl (C := RX4) (T := TX4) (NN := 23) rfl tyX4 tyX4_ok nmX4 inX4 hn 15 (by decide) (by decide +kernel) rfl rfl (ty := .array .int) (by decide +kernel) rfl rfl (Nat.le_of_ble_eq_true rfl) dX4_init_87 (fun H locs g hS => ?_)
  have g := wm_step (n := 9) g rfl rfl
  have e0 : st ad 10 q 0 = h0 := (st_else ad q (by decide)).trans e0
  generalize st ad 10 q = ad at g e0
  refine lv_aload_n hx hb dX4_init_90 rfl (lv_at hl 0 rfl) ?_
  refine lv_bipush (v := 9) hx hb dX4_init_91 (by decide) ?_
  refine g_newa C0 hK g hS hA 11 (by decide) (ty := .int) rfl (by decide +kernel) 0 rfl (N' := 9) (a0 := (9, .inl (fun _ => 0))) (fun _ => rfl) (by decide) rfl (Nat.le_of_ble_eq_true rfl) (Nat.le_of_ble_eq_true rfl) (Nat.le_of_ble_eq_true rfl) dX4_init_93 (fun q H g hS => ?_)
  refine g_putF C0 hK g hS 0 (by decide) ((st_else ad q (by decide)).trans e0) (ci := 4) (fs := fldM 10 1 ad) rfl (C := RX4) (T := TX4) (NN := 23) rfl tyX4 tyX4_ok nmX4 inX4 hn 16 (by decide) (by decide +kernel) rfl rfl (ty := .array .int) (by decide +kernel) rfl rfl (Nat.le_of_ble_eq_true rfl) dX4_init_95 (fun H locs g hS => ?_)
  have g := wm_step (n := 10) g rfl rfl
  have e0 : st ad 11 q 0 = h0 := (st_else ad q (by decide)).trans e0
  generalize st ad 11 q = ad at g e0
  refine lv_aload_n hx hb dX4_init_98 rfl (lv_at hl 0 rfl) ?_
  refine lv_sipush (v := 360) hx hb dX4_init_99 (by decide) ?_
  refine g_newa C0 hK g hS hA 12 (by decide) (ty := .int) rfl (by decide +kernel) 0 rfl (N' := 360) (a0 := (360, .inl (fun _ => 0))) (fun _ => rfl) (by decide) rfl (Nat.le_of_ble_eq_true rfl) (Nat.le_of_ble_eq_true rfl) (Nat.le_of_ble_eq_true rfl) dX4_init_102 (fun q H g hS => ?_)
  refine g_putF C0 hK g hS 0 (by decide) ((st_else ad q (by decide)).trans e0) (ci := 4) (fs := fldM 11 1 ad) rfl (C := RX4) (T := TX4) (NN := 23) rfl tyX4 tyX4_ok nmX4 inX4 hn 17 (by decide) (by decide +kernel) rfl rfl (ty := .array .int) (by decide +kernel) rfl rfl (Nat.le_of_ble_eq_true rfl) dX4_init_104 (fun H locs g hS => ?_)
  have g := wm_step (n := 11) g rfl rfl
  have e0 : st ad 12 q 0 = h0 := (st_else ad q (by decide)).trans e0
  generalize st ad 12 q = ad at g e0
  refine lv_aload_n hx hb dX4_init_107 rfl (lv_at hl 0 rfl) ?_
  refine lv_iconst (v := 3) hx hb dX4_init_108 (by decide) ?_
  refine g_newa C0 hK g hS hA 13 (by decide) (ty := .int) rfl (by decide +kernel) 0 rfl (N' := 3) (a0 := (3, .inl (fun _ => 0))) (fun _ => rfl) (by decide) rfl (Nat.le_of_ble_eq_true rfl) (Nat.le_of_ble_eq_true rfl) (Nat.le_of_ble_eq_true rfl) dX4_init_109 (fun q H g hS => ?_)
  refine g_putF C0 hK g hS 0 (by decide) ((st_else ad q (by decide)).trans e0) (ci := 4) (fs := fldM 12 1 ad) rfl (C := RX4) (T := TX4) (NN := 23) rfl tyX4 tyX4_ok nmX4 inX4 hn 19 (by decide) (by decide +kernel) rfl rfl (ty := .array .int) (by decide +kernel) rfl rfl (Nat.le_of_ble_eq_true rfl) dX4_init_111 (fun H locs g hS => ?_)
  have g := wm_step (n := 12) g rfl rfl
  have e0 : st ad 13 q 0 = h0 := (st_else ad q (by decide)).trans e0
  generalize st ad 13 q = ad at g e0
  refine lv_aload_n hx hb dX4_init_114 rfl (lv_at hl 0 rfl) ?_
  refine lv_sipush (v := 1173) hx hb dX4_init_115 (by decide) ?_
  refine g_newa C0 hK g hS hA 14 (by decide) (ty := .int) rfl (by decide +kernel) 0 rfl (N' := 1173) (a0 := (1173, .inl (fun _ => 0))) (fun _ => rfl) (by decide) rfl (Nat.le_of_ble_eq_true rfl) (Nat.le_of_ble_eq_true rfl) (Nat.le_of_ble_eq_true rfl) dX4_init_118 (fun q H g hS => ?_)
  refine g_putF C0 hK g hS 0 (by decide) ((st_else ad q (by decide)).trans e0) (ci := 4) (fs := fldM 13 1 ad) rfl (C := RX4) (T := TX4) (NN := 23) rfl tyX4 tyX4_ok nmX4 inX4 hn 20 (by decide) (by decide +kernel) rfl rfl (ty := .array .int) (by decide +kernel) rfl rfl (Nat.le_of_ble_eq_true rfl) dX4_init_120 (fun H locs g hS => ?_)
  have g := wm_step (n := 13) g rfl rfl
  have e0 : st ad 14 q 0 = h0 := (st_else ad q (by decide)).trans e0
  generalize st ad 14 q = ad at g e0
  refine lv_aload_n hx hb dX4_init_123 rfl (lv_at hl 0 rfl) ?_
  refine lv_bipush (v := 9) hx hb dX4_init_124 (by decide) ?_
  refine g_newa C0 hK g hS hA 15 (by decide) (ty := .int) rfl (by decide +kernel) 0 rfl (N' := 9) (a0 := (9, .inl (fun _ => 0))) (fun _ => rfl) (by decide) rfl (Nat.le_of_ble_eq_true rfl) (Nat.le_of_ble_eq_true rfl) (Nat.le_of_ble_eq_true rfl) dX4_init_126 (fun q H g hS => ?_)
  refine g_putF C0 hK g hS 0 (by decide) ((st_else ad q (by decide)).trans e0) (ci := 4) (fs := fldM 14 1 ad) rfl (C := RX4) (T := TX4) (NN := 23) rfl tyX4 tyX4_ok nmX4 inX4 hn 21 (by decide) (by decide +kernel) rfl rfl (ty := .array .int) (by decide +kernel) rfl rfl (Nat.le_of_ble_eq_true rfl) dX4_init_128 (fun H locs g hS => ?_)
  have g := wm_step (n := 14) g rfl rfl
  have e0 : st ad 15 q 0 = h0 := (st_else ad q (by decide)).trans e0
  generalize st ad 15 q = ad at g e0
  refine lv_aload_n hx hb dX4_init_131 rfl (lv_at hl 0 rfl) ?_
  refine lv_sipush (v := 729) hx hb dX4_init_132 (by decide) ?_
  refine g_newa C0 hK g hS hA 16 (by decide) (ty := .int) rfl (by decide +kernel) 0 rfl (N' := 729) (a0 := (729, .inl (fun _ => 0))) (fun _ => rfl) (by decide) rfl (Nat.le_of_ble_eq_true rfl) (Nat.le_of_ble_eq_true rfl) (Nat.le_of_ble_eq_true rfl) dX4_init_135 (fun q H g hS => ?_)
  refine g_putF C0 hK g hS 0 (by decide) ((st_else ad q (by decide)).trans e0) (ci := 4) (fs := fldM 15 1 ad) rfl (C := RX4) (T := TX4) (NN := 23) rfl tyX4 tyX4_ok nmX4 inX4 hn 22 (by decide) (by decide +kernel) rfl rfl (ty := .array .int) (by decide +kernel) rfl rfl (Nat.le_of_ble_eq_true rfl) dX4_init_137 (fun H locs g hS => ?_)
  have g := wm_step (n := 15) g rfl rfl
  have e0 : st ad 16 q 0 = h0 := (st_else ad q (by decide)).trans e0
  generalize st ad 16 q = ad at g e0
  have g : GI D (List.range 17) ad (EM K ad memZ) (AF h0 s.heap.size) H := g.to (fun _ _ => rfl) (fun k hk h => by
    by_cases c : k = 0
    · subst c
      exact h
    · rw [EM_c K ad memZ c]
      unfold WM at h
      rw [if_neg c] at h
      exact h)
  refine lv_iconst (v := 0) hx hb dX4_init_140 (by decide) ?_
  refine lv_istore_n (lv' := [(1, .int 0), (0, .ref h0)]) hx hb dX4_init_141 rfl hl (by decide) rfl (fun ls hl => ?_)
  refine w_mla (ids := List.range 17) (ad := ad) C0 e0 (by decide) (by decide) rfl 7 0 (EM K ad memZ) H _ ls (by decide) (by decide) g hS (EM_0 K ad memZ) rfl hl (fun E1 H locs ls g hS a1 a2 hl => ?_)
  refine lv_iconst (v := 0) hx hb dX4_init_161 (by decide) ?_
  refine lv_istore_n (lv' := [(1, .int 0), (0, .ref h0)]) hx hb dX4_init_162 rfl hl (by decide) rfl (fun ls hl => ?_)
  refine w_mlb (ids := List.range 17) (ad := ad) C0 e0 (by decide) (by decide) rfl 5 0 E1 H _ ls (by decide) (by decide) g hS ((a1 0 (by decide)).trans (EM_0 K ad memZ)) (a1 4 (by decide)) hl (fun E2 H locs ls g hS b1 b2 hl => ?_)
  refine lv_iconst (v := 0) hx hb dX4_init_181 (by decide) ?_
  refine lv_istore_n (lv' := [(1, .int 0), (0, .ref h0)]) hx hb dX4_init_182 rfl hl (by decide) rfl (fun ls hl => ?_)
  refine w_mlc (ids := List.range 17) (ad := ad) C0 e0 (by decide) (by decide) rfl 4 0 E2 H _ ls (by decide) (by decide) g hS (((b1 0 (by decide)).trans (a1 0 (by decide))).trans (EM_0 K ad memZ)) ((b1 13 (by decide)).trans (a1 13 (by decide))) hl (fun E3 H locs ls g hS c1 c2 hl => ?_)
  refine g_ret C0 g hS e0 (by decide) (fun k hk => List.mem_range.mpr hk) (fun k hk h => ?_) dX4_init_201
  by_cases k0 : k = 0
  · subst k0
    rw [c1 0 (by decide), b1 0 (by decide), a1 0 (by decide)] at h
    exact h
  show va_at D vwCl (ad k, EM K ad memM k) H
  rw [EM_c K ad memM k0]
  by_cases k2 : k = 2
  · subst k2
    rw [c1 2 (by decide), b1 2 (by decide), a2] at h
    rw [show memM.1 2 = (memF 2 6 memZ).1 2 by
      show (ufl (ufl (memF 2 6 memZ) 4 4 (-1)) 13 3 (-1)).1 2 = _
      rw [ufl_ne _ _ _ (by decide), ufl_ne _ _ _ (by decide)], memF_up 2 6 rfl]
    exact h
  by_cases k4 : k = 4
  · subst k4
    rw [c1 4 (by decide), b2] at h
    rw [show memM.1 4 = (memF 4 4 (memF 2 6 memZ)).1 4 by
      show (ufl (memF 4 4 (memF 2 6 memZ)) 13 3 (-1)).1 4 = _
      rw [ufl_ne _ _ _ (by decide)], memF_up 4 4 rfl]
    exact h
  by_cases k13 : k = 13
  · subst k13
    rw [c2] at h
    rw [show memM.1 13 = (memF 13 3 (memF 4 4 (memF 2 6 memZ))).1 13 from rfl, memF_up 13 3 rfl]
    exact h
  rw [c1 k k13, b1 k k4, a1 k k2, EM_c K ad memZ k0] at h
  rw [show memM.1 k = memZ.1 k by
    show (ufl (ufl (ufl memZ 2 6 (-1)) 4 4 (-1)) 13 3 (-1)).1 k = _
    rw [ufl_ne _ _ _ k13, ufl_ne _ _ _ k4, ufl_ne _ _ _ k2]]
  exact h
