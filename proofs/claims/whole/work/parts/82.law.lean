/-! THE LAW: what stands over its walk, its calls -/
abbrev AL (s : State) : Nat → Prop := fun q => s.heap.size ≤ q
def LX (D : va_G) (K : Nat → ClassId) (tL : Nat) (aC aM : Nat → Nat) (s : State) : Prop := INJ NC aC ∧ INJ NM aM ∧ (∀ i j, i < NC → j < NM → aC i ≠ aM j) ∧ (∀ i, i < NC → AL s (aC i)) ∧ (∀ j, j < NM → AL s (aM j)) ∧ KC D K tL (IW NC aC) s
def LI (D : va_G) (K : Nat → ClassId) (aC aM : Nat → Nat) (s : State) (S T : Mem) (H : Heap) (locs : List Loc) : Prop := Rel S T ∧ va_P D vwCl (wl NC aC (EC K aC S)) H ∧ va_P D vwCl (wl NM aM (EM K aM T)) H ∧ va_S (AL s) s.heap H locs
theorem lg_same (r : Int64) : lg_cmp r r = 0 := by
  unfold lg_cmp
  rw [if_neg (fun h => Int64.lt_irrefl h), if_pos rfl]
section LAW
variable {p : Program} {l : Launch} {e : Env} {s : State} {m : MethodId} {args : Array Value} {below : List Frame} {meth : Method} {c : Code} {H : Heap} {locs : List Loc} {cells slots : Nat} {Q : State → Prop}
variable {bytes : ByteArray} {pc index maxL : Nat} {ls : Array Slot} {rest st0 As : List Value} {D : va_G} {K : Nat → ClassId} {tL : Nat} {aC aM : Nat → Nat} {S S' T T' : Mem} {ws ws' : List Cond} {ret rt : Option FieldType} {KK : State → Prop} {y : MethodName} {rm : Room}
theorem LX.kc (X : LX D K tL aC aM s) (hS : va_S (AL s) s.heap H locs) {U : State} (hU : U.heap = H) (hW : s.WarmedH U.vm) : KC D K tL (IW NC aC) U := by
  have h := X.2.2.2.2.2
  subst hU
  exact ⟨va_K.moved hW.alike h.1, h.2.1.warm hW, (h.2.2.1.moved hW.alike).kept (fun a h1 _ => hS.2.1 a h1 (Nat.not_le.mpr h1)), (h.2.2.2.moved hW.alike).kept (fun a h1 _ => hS.2.1 a h1 (Nat.not_le.mpr h1))⟩
theorem LX.offM (X : LX D K tL aC aM s) {H1 : Heap} (hQ : va_P D vwCl (wl NM aM (EM K aM T)) H) (hk : ∀ q : Nat, q < H.size → ¬ IW NC aC q → H1[q]? = H[q]?) : va_P D vwCl (wl NM aM (EM K aM T)) H1 :=
  hQ.kept (fun k q hq => by
    have hlt := (hQ k q hq).lt
    obtain ⟨h1, rfl⟩ := wl_mem hq
    exact hk _ hlt (fun ⟨i, hi, e⟩ => X.2.2.1 i k hi h1 e.symm))
theorem LX.offC (X : LX D K tL aC aM s) {H1 : Heap} (hP : va_P D vwCl (wl NC aC (EC K aC S)) H) (hk : ∀ q : Nat, q < H.size → ¬ IW NM aM q → H1[q]? = H[q]?) : va_P D vwCl (wl NC aC (EC K aC S)) H1 :=
  hP.kept (fun k q hq => by
    have hlt := (hP k q hq).lt
    obtain ⟨h1, rfl⟩ := wl_mem hq
    exact hk _ hlt (fun ⟨j, hj, e⟩ => X.2.2.1 k j h1 hj e))
theorem LX.inC (X : LX D K tL aC aM s) {q : Nat} (h : IW NC aC q) : AL s q := by
  obtain ⟨i, hi, rfl⟩ := h
  exact X.2.2.2.1 i hi
theorem LX.inM (X : LX D K tL aC aM s) {q : Nat} (h : IW NM aM q) : AL s q := by
  obtain ⟨i, hi, rfl⟩ := h
  exact X.2.2.2.2.1 i hi
theorem l_ci {r : Int32} (C0 : Cx p s m args meth c RL wsL_law code 4 ret KK) (X : LX D K tL aC aM s) (hP : va_P D vwCl (wl NC aC (EC K aC S)) H) (hQ : va_P D vwCl (wl NM aM (EM K aM T)) H) (hS : va_S (AL s) s.heap H locs) (hM : SysI l y ws rm D NC aC (EC K aC) (KC D K tL (IW NC aC)) (.ref (aC 0) :: As) S r S') (hG : GoodIn wsL_law (wsV RL index RX3 y ws)) (hw : ws = Cond.code y bytes maxL rt :: ws') (h0 : rm.cells = 0 ∧ rm.slots = 0) (hd : y.cls = RX3 ∧ y.cls ≠ "java/lang/invoke/MethodHandle" ∧ y.cls ≠ "java/lang/invoke/VarHandle" ∧ (parseMethodDescriptor y.desc).map (fun d => d.parameters.length) = some As.length) (hR : rm.frames + 1 ≤ room_1.frames ∧ 8 + (maxL + 11) + rm.locals ≤ room_1.locals) (hsz : ls.size = 4) (hst : st0 = As.reverse ++ .ref (aC 0) :: rest) (hm : (rest.map fun v => v.category).sum ≤ 8) (hdg : decode code pc = .ok (.invokevirtual index, 3)) (hcs : cells ≤ room_1.cells ∧ slots ≤ room_1.slots)
    (kk : ∀ (H1 : Heap) (locs1 : List Loc), va_P D vwCl (wl NC aC (EC K aC S')) H1 → va_P D vwCl (wl NM aM (EM K aM T)) H1 → va_S (AL s) s.heap H1 locs1 → W p l e room_1 s m args below meth c H1 locs1 cells slots Q (F0 m (pc + 3) ls (.int r :: rest))) : W p l e room_1 s m args below meth c H locs cells slots Q (F0 m pc ls st0) := by
  refine va_calli (va_runV (As := As) (rest := rest) ⟨C0.1, C0.2.1, C0.2.2.1, C0.2.2.2.1, C0.2.2.2.2.1⟩ hM (cwV As.length C0.2.2.2.2.1 hG hw h0.1 h0.2 hd hR) ⟨sys_blind KC_ok, va_recv X.2.2.2.2.2.1 hP (q := (RX3, TX3, 14)) rfl (wl_at (by decide) (EC_0 K aC S)), fun U hU hW => ⟨rfl, by rw [hU]; exact hP, X.kc hS hU hW⟩⟩ rfl rfl hsz hst (lv_room hm) hdg hcs) hS (fun q _ h => X.inC h) (fun q h => X.inC h) (fun x u t H1 locs1 ht _ hw hB _ hk hS1 => ?_)
  obtain ⟨rfl, rfl⟩ := hw
  rw [ht] at hB
  exact kk H1 locs1 hB (X.offM hQ hk) hS1
theorem l_cl {r : Int64} (C0 : Cx p s m args meth c RL wsL_law code 4 ret KK) (X : LX D K tL aC aM s) (hP : va_P D vwCl (wl NC aC (EC K aC S)) H) (hQ : va_P D vwCl (wl NM aM (EM K aM T)) H) (hS : va_S (AL s) s.heap H locs) (hM : SysL l y ws rm D NC aC (EC K aC) (KC D K tL (IW NC aC)) (.ref (aC 0) :: As) S r S') (hG : GoodIn wsL_law (wsV RL index RX3 y ws)) (hw : ws = Cond.code y bytes maxL rt :: ws') (h0 : rm.cells = 0 ∧ rm.slots = 0) (hd : y.cls = RX3 ∧ y.cls ≠ "java/lang/invoke/MethodHandle" ∧ y.cls ≠ "java/lang/invoke/VarHandle" ∧ (parseMethodDescriptor y.desc).map (fun d => d.parameters.length) = some As.length) (hR : rm.frames + 1 ≤ room_1.frames ∧ 8 + (maxL + 11) + rm.locals ≤ room_1.locals) (hsz : ls.size = 4) (hst : st0 = As.reverse ++ .ref (aC 0) :: rest) (hm : (rest.map fun v => v.category).sum ≤ 8) (hdg : decode code pc = .ok (.invokevirtual index, 3)) (hcs : cells ≤ room_1.cells ∧ slots ≤ room_1.slots)
    (kk : ∀ (H1 : Heap) (locs1 : List Loc), va_P D vwCl (wl NC aC (EC K aC S')) H1 → va_P D vwCl (wl NM aM (EM K aM T)) H1 → va_S (AL s) s.heap H1 locs1 → W p l e room_1 s m args below meth c H1 locs1 cells slots Q (F0 m (pc + 3) ls (.long r :: rest))) : W p l e room_1 s m args below meth c H locs cells slots Q (F0 m pc ls st0) := by
  refine va_calll (va_runV (As := As) (rest := rest) ⟨C0.1, C0.2.1, C0.2.2.1, C0.2.2.2.1, C0.2.2.2.2.1⟩ hM (cwV As.length C0.2.2.2.2.1 hG hw h0.1 h0.2 hd hR) ⟨sys_blind KC_ok, va_recv X.2.2.2.2.2.1 hP (q := (RX3, TX3, 14)) rfl (wl_at (by decide) (EC_0 K aC S)), fun U hU hW => ⟨rfl, by rw [hU]; exact hP, X.kc hS hU hW⟩⟩ rfl rfl hsz hst (lv_room hm) hdg hcs) hS (fun q _ h => X.inC h) (fun q h => X.inC h) (fun x u t H1 locs1 ht _ hw hB _ hk hS1 => ?_)
  obtain ⟨rfl, rfl⟩ := hw
  rw [ht] at hB
  exact kk H1 locs1 hB (X.offM hQ hk) hS1
theorem l_mi {r : Int32} (C0 : Cx p s m args meth c RL wsL_law code 4 ret KK) (X : LX D K tL aC aM s) (hP : va_P D vwCl (wl NC aC (EC K aC S)) H) (hQ : va_P D vwCl (wl NM aM (EM K aM T)) H) (hS : va_S (AL s) s.heap H locs) (hM : SysI l y ws rm D NM aM (EM K aM) (KM D K) (.ref (aM 0) :: As) T r T') (hG : GoodIn wsL_law (wsV RL index RX4 y ws)) (hw : ws = Cond.code y bytes maxL rt :: ws') (h0 : rm.cells = 0 ∧ rm.slots = 0) (hd : y.cls = RX4 ∧ y.cls ≠ "java/lang/invoke/MethodHandle" ∧ y.cls ≠ "java/lang/invoke/VarHandle" ∧ (parseMethodDescriptor y.desc).map (fun d => d.parameters.length) = some As.length) (hR : rm.frames + 1 ≤ room_1.frames ∧ 8 + (maxL + 11) + rm.locals ≤ room_1.locals) (hsz : ls.size = 4) (hst : st0 = As.reverse ++ .ref (aM 0) :: rest) (hm : (rest.map fun v => v.category).sum ≤ 8) (hdg : decode code pc = .ok (.invokevirtual index, 3)) (hcs : cells ≤ room_1.cells ∧ slots ≤ room_1.slots)
    (kk : ∀ (H1 : Heap) (locs1 : List Loc), va_P D vwCl (wl NC aC (EC K aC S)) H1 → va_P D vwCl (wl NM aM (EM K aM T')) H1 → va_S (AL s) s.heap H1 locs1 → W p l e room_1 s m args below meth c H1 locs1 cells slots Q (F0 m (pc + 3) ls (.int r :: rest))) : W p l e room_1 s m args below meth c H locs cells slots Q (F0 m pc ls st0) := by
  refine va_calli (va_runV (As := As) (rest := rest) ⟨C0.1, C0.2.1, C0.2.2.1, C0.2.2.2.1, C0.2.2.2.2.1⟩ hM (cwV As.length C0.2.2.2.2.1 hG hw h0.1 h0.2 hd hR) ⟨sys_blind (KM_ok (A := IW NM aM)), va_recv X.2.2.2.2.2.1 hQ (q := (RX4, TX4, 23)) rfl (wl_at (by decide) (EM_0 K aM T)), fun U hU hW => ⟨rfl, by rw [hU]; exact hQ, va_K.moved hW.alike X.2.2.2.2.2.1⟩⟩ rfl rfl hsz hst (lv_room hm) hdg hcs) hS (fun q _ h => X.inM h) (fun q h => X.inM h) (fun x u t H1 locs1 ht _ hw hB _ hk hS1 => ?_)
  obtain ⟨rfl, rfl⟩ := hw
  rw [ht] at hB
  exact kk H1 locs1 (X.offC hP hk) hB hS1
theorem l_ml {r : Int64} (C0 : Cx p s m args meth c RL wsL_law code 4 ret KK) (X : LX D K tL aC aM s) (hP : va_P D vwCl (wl NC aC (EC K aC S)) H) (hQ : va_P D vwCl (wl NM aM (EM K aM T)) H) (hS : va_S (AL s) s.heap H locs) (hM : SysL l y ws rm D NM aM (EM K aM) (KM D K) (.ref (aM 0) :: As) T r T') (hG : GoodIn wsL_law (wsV RL index RX4 y ws)) (hw : ws = Cond.code y bytes maxL rt :: ws') (h0 : rm.cells = 0 ∧ rm.slots = 0) (hd : y.cls = RX4 ∧ y.cls ≠ "java/lang/invoke/MethodHandle" ∧ y.cls ≠ "java/lang/invoke/VarHandle" ∧ (parseMethodDescriptor y.desc).map (fun d => d.parameters.length) = some As.length) (hR : rm.frames + 1 ≤ room_1.frames ∧ 8 + (maxL + 11) + rm.locals ≤ room_1.locals) (hsz : ls.size = 4) (hst : st0 = As.reverse ++ .ref (aM 0) :: rest) (hm : (rest.map fun v => v.category).sum ≤ 8) (hdg : decode code pc = .ok (.invokevirtual index, 3)) (hcs : cells ≤ room_1.cells ∧ slots ≤ room_1.slots)
    (kk : ∀ (H1 : Heap) (locs1 : List Loc), va_P D vwCl (wl NC aC (EC K aC S)) H1 → va_P D vwCl (wl NM aM (EM K aM T')) H1 → va_S (AL s) s.heap H1 locs1 → W p l e room_1 s m args below meth c H1 locs1 cells slots Q (F0 m (pc + 3) ls (.long r :: rest))) : W p l e room_1 s m args below meth c H locs cells slots Q (F0 m pc ls st0) := by
  refine va_calll (va_runV (As := As) (rest := rest) ⟨C0.1, C0.2.1, C0.2.2.1, C0.2.2.2.1, C0.2.2.2.2.1⟩ hM (cwV As.length C0.2.2.2.2.1 hG hw h0.1 h0.2 hd hR) ⟨sys_blind (KM_ok (A := IW NM aM)), va_recv X.2.2.2.2.2.1 hQ (q := (RX4, TX4, 23)) rfl (wl_at (by decide) (EM_0 K aM T)), fun U hU hW => ⟨rfl, by rw [hU]; exact hQ, va_K.moved hW.alike X.2.2.2.2.2.1⟩⟩ rfl rfl hsz hst (lv_room hm) hdg hcs) hS (fun q _ h => X.inM h) (fun q h => X.inM h) (fun x u t H1 locs1 ht _ hw hB _ hk hS1 => ?_)
  obtain ⟨rfl, rfl⟩ := hw
  rw [ht] at hB
  exact kk H1 locs1 (X.offC hP hk) hB hS1
end LAW
/-- the script's next five places are there -/
def SC (i L : Nat) : Prop := vp_in (nI i + 1) L ∧ vp_in (nI i + 2) L ∧ vp_in (nI i + 3) L ∧ vp_in (nI i + 4) L ∧ vp_in (nI i + 5) L
theorem SC.of {i L : Nat} (h : i + 6 ≤ L) (hL : L ≤ 3072) : SC i L := by
  have k : ∀ j, j < 6 → vp_in (nI i + nI j) L := fun j hj => by
    rw [nI_add]
    exact inb_vp (inb_nI (by omega) (by omega))
  exact ⟨k 1 (by decide), k 2 (by decide), k 3 (by decide), k 4 (by decide), k 5 (by decide)⟩
