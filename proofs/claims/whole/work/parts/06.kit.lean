/-! OUR OWN LAYER: a system is N cells at addresses ad 0, ad 1 .. (whatever they are, but apart), and what they hold is a function of a memory -/
def wl (N : Nat) (ad : Nat → Nat) (E : Nat → va_E) : va_W := (List.range N).map (fun k => (ad k, E k))
def IW (N : Nat) (ad : Nat → Nat) : Nat → Prop := fun q => ∃ k, k < N ∧ q = ad k
def INJ (N : Nat) (ad : Nat → Nat) : Prop := ∀ i j, i < N → j < N → ad i = ad j → i = j
theorem wl_at {N : Nat} {ad : Nat → Nat} {E : Nat → va_E} {id : Nat} {x : va_E} (h : id < N) (he : E id = x) : (wl N ad E)[id]? = some (ad id, x) := by
  subst he
  simp [wl, h]
theorem wl_mem {N : Nat} {ad : Nat → Nat} {E : Nat → va_E} {k : Nat} {q : Nat × va_E} (h : (wl N ad E)[k]? = some q) : k < N ∧ q = (ad k, E k) := by
  by_cases hk : k < N
  · refine ⟨hk, ?_⟩
    simp [wl, hk] at h
    exact h.symm
  · simp [wl, hk] at h
theorem wl_set {N : Nat} {ad : Nat → Nat} {E E' : Nat → va_E} {id : Nat} {x : va_E} (h : id < N) (hs : E' id = x) (ho : ∀ k, k < N → k ≠ id → E' k = E k) : (wl N ad E).set id (ad id, x) = wl N ad E' := by
  apply List.ext_getElem?
  intro k
  by_cases hk : k < N
  · by_cases e : k = id
    · subst e
      rw [List.getElem?_set_self (by simp [wl]; exact hk)]
      rw [wl_at hk hs]
    · rw [List.getElem?_set_ne (Ne.symm e), wl_at hk rfl, wl_at hk (ho k hk e)]
  · rw [List.getElem?_eq_none (by simp [wl]; omega), List.getElem?_eq_none (by simp [wl]; omega)]
theorem wl_D {N : Nat} {ad : Nat → Nat} {E : Nat → va_E} (hI : INJ N ad) : va_D (IW N ad) (wl N ad E) := by
  refine ⟨fun i j p q hi hj e => ?_, fun k q hk => ?_⟩
  · obtain ⟨a1, rfl⟩ := wl_mem hi
    obtain ⟨a2, rfl⟩ := wl_mem hj
    exact hI i j a1 a2 e
  · obtain ⟨a1, rfl⟩ := wl_mem hk
    exact ⟨k, a1, rfl⟩
theorem wl_P {D : va_G} {cl : List vw_C} {N : Nat} {ad : Nat → Nat} {E E' : Nat → va_E} {H : Heap} (h : va_P D cl (wl N ad E) H) (he : ∀ k, k < N → E' k = E k) : va_P D cl (wl N ad E') H := by
  intro k q hk
  obtain ⟨a1, rfl⟩ := wl_mem hk
  rw [he k a1]
  exact h k _ (wl_at a1 rfl)
/-! the memory of a system: whole numbers by cell and place, longs by place -/
abbrev Mem : Type := (Nat → Nat → Int32) × (Nat → Int64)
def gi (S : Mem) (a j : Nat) : Int32 := S.1 a j
def gl (S : Mem) (k : Nat) : Int64 := S.2 k
def ui (S : Mem) (a j : Nat) (v : Int32) : Mem := (fun b k => if b = a ∧ k = j then v else S.1 b k, S.2)
def ul (S : Mem) (k : Nat) (v : Int64) : Mem := (S.1, fun j => if j = k then v else S.2 j)
/-- n places of the cell a from i on come to the cell b from j on -/
def ucp (S : Mem) (a i b j n : Nat) : Mem := (fun c k => if c = b ∧ j ≤ k ∧ k < j + n then S.1 a (i + (k - j)) else S.1 c k, S.2)
/-- the first n places of the cell a are v -/
def ufl (S : Mem) (a n : Nat) (v : Int32) : Mem := (fun b k => if b = a ∧ k < n then v else S.1 b k, S.2)
theorem gi_ui (S : Mem) (a j : Nat) (v : Int32) (b k : Nat) : gi (ui S a j v) b k = if b = a ∧ k = j then v else gi S b k := rfl
theorem gl_ui (S : Mem) (a j : Nat) (v : Int32) (k : Nat) : gl (ui S a j v) k = gl S k := rfl
theorem gi_ul (S : Mem) (k : Nat) (v : Int64) (b j : Nat) : gi (ul S k v) b j = gi S b j := rfl
theorem gl_ul (S : Mem) (k : Nat) (v : Int64) (j : Nat) : gl (ul S k v) j = if j = k then v else gl S j := rfl
theorem gi_ucp (S : Mem) (a i b j n c k : Nat) : gi (ucp S a i b j n) c k = if c = b ∧ j ≤ k ∧ k < j + n then gi S a (i + (k - j)) else gi S c k := rfl
theorem gl_ucp (S : Mem) (a i b j n k : Nat) : gl (ucp S a i b j n) k = gl S k := rfl
theorem gi_ufl (S : Mem) (a n : Nat) (v : Int32) (b k : Nat) : gi (ufl S a n v) b k = if b = a ∧ k < n then v else gi S b k := rfl
theorem gl_ufl (S : Mem) (a n : Nat) (v : Int32) (k : Nat) : gl (ufl S a n v) k = gl S k := rfl
abbrev ix (i : Int32) : Nat := i.toNatClampNeg
/-- the place i is one of n -/
def inb (i : Int32) (n : Nat) : Bool := !(decide (i < 0)) && decide (i.toNatClampNeg < n)
theorem inb_vp {i : Int32} {n : Nat} (h : inb i n = true) : vp_in i n := by
  simp [inb] at h
  exact fun q => q.elim (fun a => absurd a (by simpa using h.1)) (fun a => by omega)
theorem inb_lt {i : Int32} {n : Nat} (h : inb i n = true) : ix i < n := by
  simp [inb] at h
  exact h.2
theorem inb_nI {k n : Nat} (h : k < n) (hn : n < 2 ^ 31) : inb (nI k) n = true := by
  simp [inb, nI_clamp (Nat.lt_trans h hn), h]
  exact Int32.not_lt.mp (nI_pos (Nat.lt_trans h hn))
/-! the pieces that a method's function is made of -/
def nm {α β : Type} (a : α) (f : α → β) : β := f a
theorem nm_at {α β : Type} {x a : α} {f : α → β} {b : β} (e : x = a) (h : nm a f = b) : f x = b := by subst e; exact h
def gd {α : Type} (c : Bool) (k : Option α) : Option α := if c = true then k else none
theorem gd_some {α : Type} {c : Bool} {k : Option α} {r : α} (h : gd c k = some r) : c = true ∧ k = some r := by
  unfold gd at h
  split at h
  · exact ⟨by assumption, h⟩
  · cases h
def b1 {α β : Type} (o : Option α) (k : α → Option β) : Option β := o.bind k
theorem b1_some {α β : Type} {o : Option α} {k : α → Option β} {r : β} (h : b1 o k = some r) : ∃ x, o = some x ∧ k x = some r := Option.bind_eq_some_iff.mp h
def b2 {α β γ : Type} (o : Option (α × γ)) (k : α → γ → Option β) : Option β := o.bind (fun x => k x.1 x.2)
theorem b2_some {α β γ : Type} {o : Option (α × γ)} {k : α → γ → Option β} {r : β} (h : b2 o k = some r) : ∃ x S, o = some (x, S) ∧ k x S = some r := by
  obtain ⟨⟨x, S⟩, h1, h2⟩ := Option.bind_eq_some_iff.mp h
  exact ⟨x, S, h1, h2⟩
theorem b1_at {α β : Type} (x : α) (k : α → Option β) : b1 (some x) k = k x := rfl
theorem b2_at {α β γ : Type} (x : α) (S : γ) (k : α → γ → Option β) : b2 (some (x, S)) k = k x S := rfl
theorem gd_at {α : Type} {c : Bool} {k : Option α} (h : c = true) : gd c k = k := if_pos h
theorem ite_t {α : Type} {c : Prop} {d : Decidable c} {a b : Option α} {r : α} (h : @ite _ c d a b = some r) (hc : c) : a = some r := by rw [if_pos hc] at h; exact h
theorem ite_f {α : Type} {c : Prop} {d : Decidable c} {a b : Option α} {r : α} (h : @ite _ c d a b = some r) (hc : ¬ c) : b = some r := by rw [if_neg hc] at h; exact h
/-! one method's fixed facts -/
def Cx (p : Program) (s : State) (m : MethodId) (args : Array Value) (meth : Method) (c : Code) (own : String) (Ts : List Cond) (cc : ByteArray) (nL : Nat) (ret : Option FieldType) (KK : State → Prop) : Prop :=
  p.tables.exec = Jvm.exec ∧ c.code = cc ∧ c.maxLocals = nL ∧ s.vm.findClass own = some m.cls ∧ (∀ w ∈ Ts, w.before args s = true) ∧ meth.sig.returnType = ret ∧ meth.locks = false ∧ KK s
section OWN
variable {p : Program} {l : Launch} {e : Env} {R : Room} {s : State} {m : MethodId} {args : Array Value} {below : List Frame} {meth : Method} {c : Code} {H : Heap} {locs : List Loc} {cells slots : Nat} {Q : State → Prop}
variable {cc : ByteArray} {pc : Nat} {ls : Array Slot} {rest : List Value} {D : va_G} {cl : List vw_C} {tys : List (ClassId × FieldType)} {N : Nat} {ad : Nat → Nat} {E : Nat → va_E} {own : String} {Ts : List Cond} {nL : Nat} {ret : Option FieldType} {KK : State → Prop}
/-- from a method's start to its first instruction -/
theorem met_of {y : MethodName} {ws ws' : List Cond} {rm : Room} {vals : List Value} {PP : Heap → Prop} {Qc : Array Value → State → Outcome → State → Prop} {free : Addr → Prop} {mc ms : Nat} {own : String} (hy : plainName y.cls = true) (hw : ws = Cond.code y cc nL ret :: ws') (ho : own = y.cls) (hn : (lg_sl vals).length ≤ nL)
    (body : ∀ (p : Program) (e : Env) (s : State) (m : MethodId) (below : List Frame) (meth : Method) (c : Code) (ls : Array Slot), Cx p s m vals.toArray meth c own ws cc nL ret KK → meth.name = y.name → PP s.heap → lv_has ls nL (lv_args 0 vals) → W p l e rm s m vals.toArray below meth c s.heap [] 0 0 (MQ below Qc vals.toArray s mc ms free) (F0 m 0 ls [])) : Met l y ws rm (va_Pc vals (fun U => PP U.heap ∧ KK U)) Qc mc ms free := by
  refine Met.ofW (cc := cc) (maxL := nL) (ret := ret) hy hw ?_
  intro p e s m args below meth c s₁ Bd hml hv
  obtain ⟨rfl, hPP, hB⟩ := hv
  subst ho
  have hl := lv_entry vals (n := nL) hn
  rw [lg_entry_eq]
  generalize (lg_sl vals ++ List.replicate (nL - (lg_sl vals).length) Slot.unset).toArray = ls at hl ⊢
  exact body p e s m below meth c ls ⟨Bd.exec, Bd.bytes, hml, findClass_of_methodNamed Bd.named, atoms_spec (ws := ws) Bd.pre, Bd.returns, Bd.notSynchronized, hB⟩ (name_of_methodNamed Bd.named Bd.method).1 hPP hl
end OWN
section OWN2
variable {p : Program} {l : Launch} {e : Env} {R : Room} {s : State} {m : MethodId} {args : Array Value} {below : List Frame} {meth : Method} {c : Code} {H : Heap} {locs : List Loc} {cells slots : Nat} {Q : State → Prop}
variable {cc : ByteArray} {pc : Nat} {ls : Array Slot} {rest : List Value} {D : va_G} {tys : List (ClassId × FieldType)} {N : Nat} {ad : Nat → Nat} {EE : Mem → Nat → va_E} {S : Mem} {own : String} {Ts : List Cond} {nL : Nat} {ret : Option FieldType} {KK : State → Prop}
/-- what a cell holds hangs on its own part of the memory -/
def LOC (EE : Mem → Nat → va_E) : Prop := ∀ (S S' : Mem) (k : Nat), S.1 k = S'.1 k → S.2 = S'.2 → EE S k = EE S' k
/-- the cell a is an array of n whole numbers (of the kind c0) -/
def IA (EE : Mem → Nat → va_E) (N : Nat) (c0 : ClassId) (a n : Nat) : Prop := a < N ∧ ∀ S : Mem, EE S a = .inl (c0, n, .inl (S.1 a))
theorem ui_ne (S : Mem) {a k : Nat} (j : Nat) (v : Int32) (h : k ≠ a) : (ui S a j v).1 k = S.1 k := by
  funext i
  simp [ui, h]
theorem ucp_ne (S : Mem) {b k : Nat} (a i j n : Nat) (h : k ≠ b) : (ucp S a i b j n).1 k = S.1 k := by
  funext i
  simp [ucp, h]
theorem ufl_ne (S : Mem) {a k : Nat} (n : Nat) (v : Int32) (h : k ≠ a) : (ufl S a n v).1 k = S.1 k := by
  funext i
  simp [ufl, h]
theorem x_get (C0 : Cx p s m args meth c own Ts cc nL ret KK) (hK : va_K D vwCl tys s) (hP : va_P D vwCl (wl N ad (EE S)) H) {id : Nat} (hid : id < N) {ci : Nat} {fs : List Value} {C : String} {T : u_T} {NN : Nat} (he : EE S id = .inr (ci, fs)) (hc : vwCl[ci]? = some (C, T, NN)) (hin : ∀ w ∈ u_ws C T NN, w ∈ Ts) (k : Nat) (hk : k < NN) {index : Nat} (hlink : Cond.fieldLink own index (T k).1 (T k).2.1 (T k).2.2.1 ∈ Ts) {v : Value} (hv : fs[k]? = some v) (hdg : decode cc pc = .ok (.getfield index, 3))
    (kk : W p l e R s m args below meth c H locs cells slots Q (F0 m (pc + 3) ls (v :: rest))) : W p l e R s m args below meth c H locs cells slots Q (F0 m pc ls (.ref (ad id) :: rest)) :=
  va_get C0.1 C0.2.1 C0.2.2.2.2.1 hin C0.2.2.2.1 hK hP id (wl_at hid he) hc k hk (C0.2.2.2.2.1 _ hlink) (fun _ h => h) hv hdg kk
theorem x_iald (C0 : Cx p s m args meth c own Ts cc nL ret KK) (hK : va_K D vwCl tys s) (hP : va_P D vwCl (wl N ad (EE S)) H) {a n t0 : Nat} {c0 : ClassId} (ha : IA EE N c0 a n) (ht : tys[t0]? = some (c0, .int)) {i : Int32} (hin : inb i n = true) (hdg : decode cc pc = .ok (.iaload, 1))
    (kk : W p l e R s m args below meth c H locs cells slots Q (F0 m (pc + 1) ls (.int (gi S a (ix i)) :: rest))) : W p l e R s m args below meth c H locs cells slots Q (F0 m pc ls (.int i :: .ref (ad a) :: rest)) :=
  va_iald C0.1 C0.2.1 hK hP a t0 (wl_at ha.1 (ha.2 S)) ht (inb_vp hin) hdg kk
theorem x_bald (C0 : Cx p s m args meth c own Ts cc nL ret KK) (hK : va_K D vwCl tys s) (hP : va_P D vwCl (wl N ad (EE S)) H) {a n t0 : Nat} {c0 : ClassId} (ha : IA EE N c0 a n) (ht : tys[t0]? = some (c0, .byte)) {i : Int32} (hin : inb i n = true) (hdg : decode cc pc = .ok (.baload, 1))
    (kk : W p l e R s m args below meth c H locs cells slots Q (F0 m (pc + 1) ls (.int (gi S a (ix i)) :: rest))) : W p l e R s m args below meth c H locs cells slots Q (F0 m pc ls (.int i :: .ref (ad a) :: rest)) :=
  va_bald C0.1 C0.2.1 hK hP a t0 (wl_at ha.1 (ha.2 S)) ht (inb_vp hin) hdg kk
theorem x_alen (C0 : Cx p s m args meth c own Ts cc nL ret KK) (hK : va_K D vwCl tys s) (hP : va_P D vwCl (wl N ad (EE S)) H) {a n t0 : Nat} {c0 : ClassId} {ty : FieldType} (ha : IA EE N c0 a n) (ht : tys[t0]? = some (c0, ty)) (hdg : decode cc pc = .ok (.arraylength, 1))
    (kk : W p l e R s m args below meth c H locs cells slots Q (F0 m (pc + 1) ls (.int (nI n) :: rest))) : W p l e R s m args below meth c H locs cells slots Q (F0 m pc ls (.ref (ad a) :: rest)) :=
  va_alen C0.1 C0.2.1 hK hP a t0 (wl_at ha.1 (ha.2 S)) ht rfl hdg kk
theorem x_iast (C0 : Cx p s m args meth c own Ts cc nL ret KK) (hK : va_K D vwCl tys s) (hI : INJ N ad) (hL : LOC EE) (hP : va_P D vwCl (wl N ad (EE S)) H) (hS : va_S (IW N ad) s.heap H locs) {a n t0 : Nat} {c0 : ClassId} (ha : IA EE N c0 a n) (ht : tys[t0]? = some (c0, .int)) {i x : Int32} (hin : inb i n = true) (hdg : decode cc pc = .ok (.iastore, 1))
    (kk : ∀ (S' : Mem), S' = ui S a (ix i) x → ∀ (H1 : Heap) (locs1 : List Loc), va_P D vwCl (wl N ad (EE S')) H1 → va_S (IW N ad) s.heap H1 locs1 → W p l e R s m args below meth c H1 locs1 cells slots Q (F0 m (pc + 1) ls rest)) : W p l e R s m args below meth c H locs cells slots Q (F0 m pc ls (.int x :: .int i :: .ref (ad a) :: rest)) := by
  refine va_iast C0.1 C0.2.1 hK hP (wl_D hI) hS a t0 (wl_at ha.1 (ha.2 S)) ht (inb_vp hin) hdg (fun H1 locs1 hP1 _ hS1 => ?_)
  rw [wl_set (E' := EE (ui S a (ix i) x)) ha.1 ?_ ?_] at hP1
  · exact kk _ rfl H1 locs1 hP1 hS1
  · rw [ha.2]
    refine congrArg (fun f => Sum.inl (c0, n, Sum.inl f)) (funext fun j => ?_)
    simp [ui, upd]
  · exact fun k _ hk => hL _ _ k (ui_ne S _ _ hk) rfl
theorem x_bast (C0 : Cx p s m args meth c own Ts cc nL ret KK) (hK : va_K D vwCl tys s) (hI : INJ N ad) (hL : LOC EE) (hP : va_P D vwCl (wl N ad (EE S)) H) (hS : va_S (IW N ad) s.heap H locs) {a n t0 : Nat} {c0 : ClassId} (ha : IA EE N c0 a n) (ht : tys[t0]? = some (c0, .byte)) {i x : Int32} (hin : inb i n = true) (hdg : decode cc pc = .ok (.bastore, 1))
    (kk : ∀ (S' : Mem), S' = ui S a (ix i) x.toInt8.toInt32 → ∀ (H1 : Heap) (locs1 : List Loc), va_P D vwCl (wl N ad (EE S')) H1 → va_S (IW N ad) s.heap H1 locs1 → W p l e R s m args below meth c H1 locs1 cells slots Q (F0 m (pc + 1) ls rest)) : W p l e R s m args below meth c H locs cells slots Q (F0 m pc ls (.int x :: .int i :: .ref (ad a) :: rest)) := by
  refine va_bast C0.1 C0.2.1 hK hP (wl_D hI) hS a t0 (wl_at ha.1 (ha.2 S)) ht (inb_vp hin) hdg (fun H1 locs1 hP1 _ hS1 => ?_)
  rw [wl_set (E' := EE (ui S a (ix i) x.toInt8.toInt32)) ha.1 ?_ ?_] at hP1
  · exact kk _ rfl H1 locs1 hP1 hS1
  · rw [ha.2, vp_nar_byte]
    refine congrArg (fun f => Sum.inl (c0, n, Sum.inl f)) (funext fun j => ?_)
    simp [ui, upd]
  · exact fun k _ hk => hL _ _ k (ui_ne S _ _ hk) rfl
/-- a whole number is put into a field of the cell id -/
theorem x_puti (C0 : Cx p s m args meth c own Ts cc nL ret KK) (hK : va_K D vwCl tys s) (hI : INJ N ad) (hL : LOC EE) (hP : va_P D vwCl (wl N ad (EE S)) H) (hS : va_S (IW N ad) s.heap H locs) {id : Nat} (hid : id < N) {ci : Nat} {fs : List Value} {C : String} {T : u_T} {NN : Nat} (he : EE S id = .inr (ci, fs)) (hc : vwCl[ci]? = some (C, T, NN)) (ty0 : Nat → FieldType) (hty : ∀ k, k < NN → parseFieldDescriptor (T k).2.2.1 = some (ty0 k)) (hnm : ∀ a, a < NN → ∀ b, b < NN → a ≠ b → (T a).2.1 ≠ (T b).2.1) (hin : ∀ w ∈ u_ws C T NN, w ∈ Ts) (k : Nat) (hk : k < NN) {index : Nat} (hlink : Cond.fieldLink own index (T k).1 (T k).2.1 (T k).2.2.1 ∈ Ts) (hfin : (T k).2.2.2 = false) {x : Int32} (hd : parseFieldDescriptor (T k).2.2.1 = some .int) (hl : k < fs.length) (he2 : EE (ui S id k x) id = .inr (ci, fs.set k (.int x))) (hdg : decode cc pc = .ok (.putfield index, 3))
    (kk : ∀ (S' : Mem), S' = ui S id k x → ∀ (H1 : Heap) (locs1 : List Loc), va_P D vwCl (wl N ad (EE S')) H1 → va_S (IW N ad) s.heap H1 locs1 → W p l e R s m args below meth c H1 locs1 cells slots Q (F0 m (pc + 3) ls rest)) : W p l e R s m args below meth c H locs cells slots Q (F0 m pc ls (.int x :: .ref (ad id) :: rest)) := by
  refine va_put C0.1 C0.2.1 C0.2.2.2.2.1 hin ty0 hty hnm C0.2.2.2.1 hK hP (wl_D hI) hS id (wl_at hid he) hc k hk (C0.2.2.2.2.1 _ hlink) (fun _ h => h) hfin hd rfl rfl hl hdg (fun H1 locs1 hP1 _ hS1 => ?_)
  rw [wl_set (E' := EE (ui S id k x)) hid he2 ?_] at hP1
  · exact kk _ rfl H1 locs1 hP1 hS1
  · exact fun j _ hj => hL _ _ j (ui_ne S _ _ hj) rfl
/-- a long is put into a field of the cell id; the longs of the memory are that cell's alone -/
theorem x_putl (C0 : Cx p s m args meth c own Ts cc nL ret KK) (hK : va_K D vwCl tys s) (hI : INJ N ad) (hP : va_P D vwCl (wl N ad (EE S)) H) (hS : va_S (IW N ad) s.heap H locs) {id : Nat} (hid : id < N) {ci : Nat} {fs : List Value} {C : String} {T : u_T} {NN : Nat} (he : EE S id = .inr (ci, fs)) (hc : vwCl[ci]? = some (C, T, NN)) (ty0 : Nat → FieldType) (hty : ∀ k, k < NN → parseFieldDescriptor (T k).2.2.1 = some (ty0 k)) (hnm : ∀ a, a < NN → ∀ b, b < NN → a ≠ b → (T a).2.1 ≠ (T b).2.1) (hin : ∀ w ∈ u_ws C T NN, w ∈ Ts) (k kl : Nat) (hk : k < NN) {index : Nat} (hlink : Cond.fieldLink own index (T k).1 (T k).2.1 (T k).2.2.1 ∈ Ts) (hfin : (T k).2.2.2 = false) {x : Int64} (hd : parseFieldDescriptor (T k).2.2.1 = some .long) (hl : k < fs.length) (he2 : EE (ul S kl x) id = .inr (ci, fs.set k (.long x))) (hoth : ∀ j, j < N → j ≠ id → EE (ul S kl x) j = EE S j) (hdg : decode cc pc = .ok (.putfield index, 3))
    (kk : ∀ (S' : Mem), S' = ul S kl x → ∀ (H1 : Heap) (locs1 : List Loc), va_P D vwCl (wl N ad (EE S')) H1 → va_S (IW N ad) s.heap H1 locs1 → W p l e R s m args below meth c H1 locs1 cells slots Q (F0 m (pc + 3) ls rest)) : W p l e R s m args below meth c H locs cells slots Q (F0 m pc ls (.long x :: .ref (ad id) :: rest)) := by
  refine va_put C0.1 C0.2.1 C0.2.2.2.2.1 hin ty0 hty hnm C0.2.2.2.1 hK hP (wl_D hI) hS id (wl_at hid he) hc k hk (C0.2.2.2.2.1 _ hlink) (fun _ h => h) hfin hd rfl rfl hl hdg (fun H1 locs1 hP1 _ hS1 => ?_)
  rw [wl_set (E' := EE (ul S kl x)) hid he2 hoth] at hP1
  exact kk _ rfl H1 locs1 hP1 hS1
/-- an array of references: its cells' addresses are told by a function -/
theorem x_aald (C0 : Cx p s m args meth c own Ts cc nL ret KK) (hK : va_K D vwCl tys s) (hP : va_P D vwCl (wl N ad (EE S)) H) {a n t0 : Nat} {c0 : ClassId} {f : Nat → Nat} {ty : FieldType} (hid : a < N) (he : EE S a = .inl (c0, n, .inr (.inr (.inr (.inr (fun j => some (ad (f j)))))))) (ht : tys[t0]? = some (c0, ty)) (hr : ty.isReference = true) {i : Int32} (hin : inb i n = true) (hdg : decode cc pc = .ok (.aaload, 1))
    (kk : W p l e R s m args below meth c H locs cells slots Q (F0 m (pc + 1) ls (.ref (ad (f (ix i))) :: rest))) : W p l e R s m args below meth c H locs cells slots Q (F0 m pc ls (.int i :: .ref (ad a) :: rest)) := by
  have hlt : i.toNatClampNeg < n := inb_lt hin
  exact W.aald (v := .ref (ad (f (ix i)))) (ty := ty) C0.1 C0.2.1 (hP a _ (wl_at hid he)) ((hK.2 t0 _ ht).1 n (fun j => va_rf (some (ad (f j))))) hr (fun q => by cases q) (by show ¬ (i < 0 ∨ (arrV _ _ _).slots.size ≤ _); rw [arrV_size]; exact inb_vp hin) (by show (arrV _ _ _).slots[_]? = _; rw [arrV_read _ _ hlt]; rfl) rfl rfl hdg kk
/-- System.arraycopy of whole numbers, n places from i on of the cell a to j on of the cell b -/
theorem x_copy (C0 : Cx p s m args meth c own Ts cc nL ret KK) (hK : va_K D vwCl tys s) (hI : INJ N ad) (hL : LOC EE) (hP : va_P D vwCl (wl N ad (EE S)) H) (hS : va_S (IW N ad) s.heap H locs) (hsz : ls.size = nL) {index : Nat} (hlink : Cond.methodLink own index arraycopyName ∈ Ts) (hnat : Cond.native arraycopyName ∈ Ts) (hstat : Cond.static arraycopyName ∈ Ts) (hini : Cond.initialized "java/lang/System" ∈ Ts) {a b na nb t0 : Nat} {c0 : ClassId} (ha : IA EE N c0 a na) (hb : IA EE N c0 b nb) (ht : tys[t0]? = some (c0, .int)) {i j n : Int32}
    (hg : (!(decide (i < 0)) && !(decide (j < 0)) && !(decide (n < 0)) && decide (ix i + ix n ≤ na) && decide (ix j + ix n ≤ nb)) = true) (hframes : 1 ≤ R.frames) (hlocals : (rest.map fun v => v.category).sum + (nativeFrameWords "java/lang/System" "arraycopy" 5 + 11) ≤ R.locals) (hdg : decode cc pc = .ok (.invokestatic index, 3))
    (kk : ∀ (S' : Mem), S' = ucp S a (ix i) b (ix j) (ix n) → ∀ (H1 : Heap) (locs1 : List Loc), va_P D vwCl (wl N ad (EE S')) H1 → va_S (IW N ad) s.heap H1 locs1 → W p l e R s m args below meth c H1 locs1 cells slots Q (F0 m (pc + 3) ls rest)) : W p l e R s m args below meth c H locs cells slots Q (F0 m pc ls (.int n :: .int j :: .ref (ad b) :: .int i :: .ref (ad a) :: rest)) := by
  have hts := C0.2.2.2.2.1
  simp only [Bool.and_eq_true, Bool.not_eq_true', decide_eq_true_eq, decide_eq_false_iff_not] at hg
  obtain ⟨⟨⟨⟨h1, h2⟩, h3⟩, h4⟩, h5⟩ := hg
  refine va_copyi C0.1 C0.2.1 (C0.2.2.1.trans hsz.symm) C0.2.2.2.1 (hts _ hlink) (hts _ hnat) (hts _ hstat) (hts _ hini) hK hP (wl_D hI) hS a b t0 t0 (wl_at ha.1 (ha.2 S)) (wl_at hb.1 (hb.2 S)) ht ht rfl h1 h2 h3 h4 h5 (fun _ _ => rfl) hframes hlocals hdg (fun H1 locs1 hP1 _ hS1 => ?_)
  rw [wl_set (E' := EE (ucp S a (ix i) b (ix j) (ix n))) hb.1 ?_ ?_] at hP1
  · exact kk _ rfl H1 locs1 hP1 hS1
  · rw [hb.2]
    refine congrArg (fun f => Sum.inl (c0, nb, Sum.inl f)) (funext fun k => ?_)
    simp [ucp, va_cpy]
  · exact fun k _ hk => hL _ _ k (ucp_ne S _ _ _ _ hk) rfl
end OWN2
/-! contracts over a system: the method turns the memory S into S' and answers r -/
abbrev SysI (l : Launch) (y : MethodName) (ws : List Cond) (rm : Room) (D : va_G) (N : Nat) (ad : Nat → Nat) (EE : Mem → Nat → va_E) (KK : State → Prop) (vals : List Value) (S : Mem) (r : Int32) (S' : Mem) : Prop :=
  Met l y ws rm (va_Pc vals (fun U => va_P D vwCl (wl N ad (EE S)) U.heap ∧ KK U)) (va_Qi (fun (x : Int32) (u : Mem) => x = r ∧ u = S') (fun u t => va_P D vwCl (wl N ad (EE u)) t.heap) (IW N ad)) 0 0 (IW N ad)
abbrev SysL (l : Launch) (y : MethodName) (ws : List Cond) (rm : Room) (D : va_G) (N : Nat) (ad : Nat → Nat) (EE : Mem → Nat → va_E) (KK : State → Prop) (vals : List Value) (S : Mem) (r : Int64) (S' : Mem) : Prop :=
  Met l y ws rm (va_Pc vals (fun U => va_P D vwCl (wl N ad (EE S)) U.heap ∧ KK U)) (va_Ql (fun (x : Int64) (u : Mem) => x = r ∧ u = S') (fun u t => va_P D vwCl (wl N ad (EE u)) t.heap) (IW N ad)) 0 0 (IW N ad)
abbrev SysV (l : Launch) (y : MethodName) (ws : List Cond) (rm : Room) (D : va_G) (N : Nat) (ad : Nat → Nat) (EE : Mem → Nat → va_E) (KK : State → Prop) (vals : List Value) (S : Mem) (S' : Mem) : Prop :=
  Met l y ws rm (va_Pc vals (fun U => va_P D vwCl (wl N ad (EE S)) U.heap ∧ KK U)) (va_Qv (fun (u : Mem) => u = S') (fun u t => va_P D vwCl (wl N ad (EE u)) t.heap) (IW N ad)) 0 0 (IW N ad)
abbrev SysR (l : Launch) (y : MethodName) (ws : List Cond) (rm : Room) (D : va_G) (N : Nat) (ad : Nat → Nat) (EE : Mem → Nat → va_E) (KK : State → Prop) (vals : List Value) (S : Mem) (r : Nat) (S' : Mem) : Prop :=
  Met l y ws rm (va_Pc vals (fun U => va_P D vwCl (wl N ad (EE S)) U.heap ∧ KK U)) (va_Qr (fun (u : Mem) => u = S') (fun u a t => a = ad r ∧ va_P D vwCl (wl N ad (EE u)) t.heap) (IW N ad)) 0 0 (IW N ad)
/-- what is known of tables and statics lasts -/
def KOK (KK : State → Prop) (A : Nat → Prop) : Prop := (∀ (s U : State) (H : Heap) (locs : List Loc), KK s → va_S A s.heap H locs → s.WarmedH U.vm → U.heap = H → KK U) ∧ ∀ (U : State) (g : JFrame) (mk : MethodId) (a : Array Value), KK U → KK (U.calling g mk a)
section OWN3
variable {p : Program} {l : Launch} {e : Env} {R : Room} {s : State} {m : MethodId} {args : Array Value} {below : List Frame} {meth : Method} {c : Code} {H : Heap} {locs : List Loc} {cells slots : Nat} {Q : State → Prop}
variable {cc bytes : ByteArray} {pc index maxL n : Nat} {ls : Array Slot} {rest st0 As : List Value} {D : va_G} {tys : List (ClassId × FieldType)} {N : Nat} {ad : Nat → Nat} {EE : Mem → Nat → va_E} {S S' : Mem} {own : String} {Ts ws ws' : List Cond} {nL : Nat} {ret rt : Option FieldType} {KK : State → Prop} {y : MethodName} {rm : Room} {vals : List Value} {Qx : Array Value → State → Outcome → State → Prop}
/-- a call's start -/
theorem sys_blind (hk : KOK KK (IW N ad)) : FrameBlind (va_Pc vals (fun U => va_P D vwCl (wl N ad (EE S)) U.heap ∧ KK U)) := fun a U g mk q => ⟨q.1, q.2.1, hk.2 U g mk a q.2.2⟩
theorem sys_runV (C0 : Cx p s m args meth c own Ts cc nL ret KK) (hk : KOK KK (IW N ad)) (hK : va_K D vwCl tys s) (hP : va_P D vwCl (wl N ad (EE S)) H) (hS : va_S (IW N ad) s.heap H locs) {id ci : Nat} {fs : List Value} {C : String} {T : u_T} {NN : Nat} (hid : id < N) (he : EE S id = .inr (ci, fs)) (hc : vwCl[ci]? = some (C, T, NN)) (hM : Met l y ws rm (va_Pc (.ref (ad id) :: As) (fun U => va_P D vwCl (wl N ad (EE S)) U.heap ∧ KK U)) Qx 0 0 (IW N ad))
    (hG : GoodIn Ts (wsV own index C y ws)) (hw : ws = Cond.code y bytes maxL rt :: ws') (h0 : rm.cells = 0 ∧ rm.slots = 0) (hd : y.cls = C ∧ y.cls ≠ "java/lang/invoke/MethodHandle" ∧ y.cls ≠ "java/lang/invoke/VarHandle" ∧ (parseMethodDescriptor y.desc).map (fun d => d.parameters.length) = some As.length) (hR : rm.frames + 1 ≤ R.frames ∧ 8 + (maxL + 11) + rm.locals ≤ R.locals) (hsz : ls.size = nL) (hst : st0 = As.reverse ++ .ref (ad id) :: rest) (hm : (rest.map fun v => v.category).sum ≤ 8) (hdg : decode cc pc = .ok (.invokevirtual index, 3)) (hcs : cells ≤ R.cells ∧ slots ≤ R.slots) :
    va_Run p l e R s m args below meth c H locs cells slots 0 0 (F0 m pc ls st0) rest (Qx (Value.ref (ad id) :: As).toArray) (IW N ad) :=
  va_runV (As := As) (rest := rest) ⟨C0.1, C0.2.1, C0.2.2.1, C0.2.2.2.1, C0.2.2.2.2.1⟩ hM (cwV As.length C0.2.2.2.2.1 hG hw h0.1 h0.2 hd hR) ⟨sys_blind hk, va_recv hK hP hc (wl_at hid he), fun U hU hW => ⟨rfl, by rw [hU]; exact hP, hk.1 s U H locs C0.2.2.2.2.2.2.2 hS hW hU⟩⟩ rfl rfl hsz hst (lv_room hm) hdg hcs
theorem sys_runS (C0 : Cx p s m args meth c own Ts cc nL ret KK) (hk : KOK KK (IW N ad)) (hP : va_P D vwCl (wl N ad (EE S)) H) (hS : va_S (IW N ad) s.heap H locs) (hM : Met l y ws rm (va_Pc As (fun U => va_P D vwCl (wl N ad (EE S)) U.heap ∧ KK U)) Qx 0 0 (IW N ad))
    (hG : GoodIn Ts (va_wsS own index y ws)) (hw : ws = Cond.code y bytes maxL rt :: ws') (h0 : rm.cells = 0 ∧ rm.slots = 0) (hd : y.cls ≠ "java/lang/invoke/MethodHandle" ∧ y.cls ≠ "java/lang/invoke/VarHandle" ∧ (parseMethodDescriptor y.desc).map (fun d => d.parameters.length) = some As.length) (hR : rm.frames + 1 ≤ R.frames ∧ 8 + (maxL + 11) + rm.locals ≤ R.locals) (hsz : ls.size = nL) (hst : st0 = As.reverse ++ rest) (hm : (rest.map fun v => v.category).sum ≤ 8) (hdg : decode cc pc = .ok (.invokestatic index, 3)) (hcs : cells ≤ R.cells ∧ slots ≤ R.slots) :
    va_Run p l e R s m args below meth c H locs cells slots 0 0 (F0 m pc ls st0) rest (Qx As.toArray) (IW N ad) :=
  va_runS (As := As) (rest := rest) ⟨C0.1, C0.2.1, C0.2.2.1, C0.2.2.2.1, C0.2.2.2.2.1⟩ hM (va_cwS As.length C0.2.2.2.2.1 hG hw h0.1 h0.2 hd hR) ⟨sys_blind hk, fun U hU hW => ⟨rfl, by rw [hU]; exact hP, hk.1 s U H locs C0.2.2.2.2.2.2.2 hS hW hU⟩⟩ rfl rfl hsz hst (lv_room hm) hdg hcs
theorem sys_runN (C0 : Cx p s m args meth c own Ts cc nL ret KK) (hk : KOK KK (IW N ad)) (hP : va_P D vwCl (wl N ad (EE S)) H) (hS : va_S (IW N ad) s.heap H locs) (hM : Met l y ws rm (va_Pc As (fun U => va_P D vwCl (wl N ad (EE S)) U.heap ∧ KK U)) Qx 0 0 (IW N ad)) {host : String}
    (hN : va_Nw (.methodLinkNest own index y host) s) (hG : GoodIn Ts ws) (hst0 : Cond.static y ∈ Ts) (hini : Cond.initialized y.cls ∈ Ts) (hw : ws = Cond.code y bytes maxL rt :: ws') (h0 : rm.cells = 0 ∧ rm.slots = 0) (hd : y.cls ≠ "java/lang/invoke/MethodHandle" ∧ y.cls ≠ "java/lang/invoke/VarHandle" ∧ (parseMethodDescriptor y.desc).map (fun d => d.parameters.length) = some As.length) (hR : rm.frames + 1 ≤ R.frames ∧ 8 + (maxL + 11) + rm.locals ≤ R.locals) (hsz : ls.size = nL) (hst : st0 = As.reverse ++ rest) (hm : (rest.map fun v => v.category).sum ≤ 8) (hdg : decode cc pc = .ok (.invokestatic index, 3)) (hcs : cells ≤ R.cells ∧ slots ≤ R.slots) :
    va_Run p l e R s m args below meth c H locs cells slots 0 0 (F0 m pc ls st0) rest (Qx As.toArray) (IW N ad) :=
  va_runSN (As := As) (rest := rest) ⟨C0.1, C0.2.1, C0.2.2.1, C0.2.2.2.1, C0.2.2.2.2.1⟩ hM ⟨va_cnB As.length C0.2.2.2.2.1 hG hw h0.1 h0.2 hN (C0.2.2.2.2.1 _ hini) hd hR, C0.2.2.2.2.1 _ hst0, trivial⟩ ⟨sys_blind hk, fun U hU hW => ⟨rfl, by rw [hU]; exact hP, hk.1 s U H locs C0.2.2.2.2.2.2.2 hS hW hU⟩⟩ rfl rfl hsz hst (lv_room hm) hdg hcs
/-- behind a call -/
theorem sys_i {a : Array Value} {r : Int32} (hS : va_S (IW N ad) s.heap H locs) (hr : va_Run p l e R s m args below meth c H locs cells slots 0 0 (F0 m pc ls st0) rest (va_Qi (fun (x : Int32) (u : Mem) => x = r ∧ u = S') (fun u t => va_P D vwCl (wl N ad (EE u)) t.heap) (IW N ad) a) (IW N ad))
    (kk : ∀ (H1 : Heap) (locs1 : List Loc), va_P D vwCl (wl N ad (EE S')) H1 → va_S (IW N ad) s.heap H1 locs1 → W p l e R s m args below meth c H1 locs1 cells slots Q (F0 m (pc + 3) ls (.int r :: rest))) : W p l e R s m args below meth c H locs cells slots Q (F0 m pc ls st0) := by
  refine va_calli hr hS (fun q _ h => h) (fun q h => h) (fun x u t H1 locs1 ht _ hw hB _ _ hS1 => ?_)
  obtain ⟨rfl, rfl⟩ := hw
  rw [ht] at hB
  exact kk H1 locs1 hB hS1
theorem sys_l {a : Array Value} {r : Int64} (hS : va_S (IW N ad) s.heap H locs) (hr : va_Run p l e R s m args below meth c H locs cells slots 0 0 (F0 m pc ls st0) rest (va_Ql (fun (x : Int64) (u : Mem) => x = r ∧ u = S') (fun u t => va_P D vwCl (wl N ad (EE u)) t.heap) (IW N ad) a) (IW N ad))
    (kk : ∀ (H1 : Heap) (locs1 : List Loc), va_P D vwCl (wl N ad (EE S')) H1 → va_S (IW N ad) s.heap H1 locs1 → W p l e R s m args below meth c H1 locs1 cells slots Q (F0 m (pc + 3) ls (.long r :: rest))) : W p l e R s m args below meth c H locs cells slots Q (F0 m pc ls st0) := by
  refine va_calll hr hS (fun q _ h => h) (fun q h => h) (fun x u t H1 locs1 ht _ hw hB _ _ hS1 => ?_)
  obtain ⟨rfl, rfl⟩ := hw
  rw [ht] at hB
  exact kk H1 locs1 hB hS1
theorem sys_v {a : Array Value} (hS : va_S (IW N ad) s.heap H locs) (hr : va_Run p l e R s m args below meth c H locs cells slots 0 0 (F0 m pc ls st0) rest (va_Qv (fun (u : Mem) => u = S') (fun u t => va_P D vwCl (wl N ad (EE u)) t.heap) (IW N ad) a) (IW N ad))
    (kk : ∀ (H1 : Heap) (locs1 : List Loc), va_P D vwCl (wl N ad (EE S')) H1 → va_S (IW N ad) s.heap H1 locs1 → W p l e R s m args below meth c H1 locs1 cells slots Q (F0 m (pc + 3) ls rest)) : W p l e R s m args below meth c H locs cells slots Q (F0 m pc ls st0) := by
  refine va_callv hr hS (fun q _ h => h) (fun q h => h) (fun u t H1 locs1 ht _ hw hB _ _ hS1 => ?_)
  subst hw
  rw [ht] at hB
  exact kk H1 locs1 hB hS1
theorem sys_r {a : Array Value} {r : Nat} (hS : va_S (IW N ad) s.heap H locs) (hr : va_Run p l e R s m args below meth c H locs cells slots 0 0 (F0 m pc ls st0) rest (va_Qr (fun (u : Mem) => u = S') (fun u b t => b = ad r ∧ va_P D vwCl (wl N ad (EE u)) t.heap) (IW N ad) a) (IW N ad))
    (kk : ∀ (H1 : Heap) (locs1 : List Loc), va_P D vwCl (wl N ad (EE S')) H1 → va_S (IW N ad) s.heap H1 locs1 → W p l e R s m args below meth c H1 locs1 cells slots Q (F0 m (pc + 3) ls (.ref (ad r) :: rest))) : W p l e R s m args below meth c H locs cells slots Q (F0 m pc ls st0) := by
  refine va_callr hr hS (fun q _ h => h) (fun q h => h) (fun u ra t H1 locs1 ht _ hw hB _ _ hS1 => ?_)
  subst hw
  obtain ⟨rfl, hB⟩ := hB
  rw [ht] at hB
  exact kk H1 locs1 hB hS1
/-- a method's end -/
theorem ret_i {v r : Int32} (C0 : Cx p s m args meth c own Ts cc nL (some .int) KK) (hP : va_P D vwCl (wl N ad (EE S)) H) (hS : va_S (IW N ad) s.heap H locs) (hr : v = r) (hs : S = S') (hdg : decode cc pc = .ok (.ireturn, 1)) : W p l e R s m args below meth c H locs cells slots (MQ below (va_Qi (fun (x : Int32) (u : Mem) => x = r ∧ u = S') (fun u t => va_P D vwCl (wl N ad (EE u)) t.heap) (IW N ad)) args s cells slots (IW N ad)) (F0 m pc ls [.int v]) :=
  W.iret C0.1 C0.2.1 C0.2.2.2.2.2.1 (fun t ht hW => ⟨⟨v, S, rfl, ⟨hr, hs⟩, by dsimp only; rw [ht]; exact hP⟩, hS.F ht⟩) hS.2.2 hdg C0.2.2.2.2.2.2.1
theorem ret_z {v r : Int32} (C0 : Cx p s m args meth c own Ts cc nL (some .boolean) KK) (hP : va_P D vwCl (wl N ad (EE S)) H) (hS : va_S (IW N ad) s.heap H locs) (hv : v = 0 ∨ v = 1) (hr : v = r) (hs : S = S') (hdg : decode cc pc = .ok (.ireturn, 1)) : W p l e R s m args below meth c H locs cells slots (MQ below (va_Qi (fun (x : Int32) (u : Mem) => x = r ∧ u = S') (fun u t => va_P D vwCl (wl N ad (EE u)) t.heap) (IW N ad)) args s cells slots (IW N ad)) (F0 m pc ls [.int v]) :=
  W.zret C0.1 C0.2.1 C0.2.2.2.2.2.1 (by rcases hv with rfl | rfl <;> rfl) (fun t ht hW => ⟨⟨v, S, rfl, ⟨hr, hs⟩, by dsimp only; rw [ht]; exact hP⟩, hS.F ht⟩) hS.2.2 hdg C0.2.2.2.2.2.2.1
theorem ret_l {v r : Int64} (C0 : Cx p s m args meth c own Ts cc nL (some .long) KK) (hP : va_P D vwCl (wl N ad (EE S)) H) (hS : va_S (IW N ad) s.heap H locs) (hr : v = r) (hs : S = S') (hdg : decode cc pc = .ok (.lreturn, 1)) : W p l e R s m args below meth c H locs cells slots (MQ below (va_Ql (fun (x : Int64) (u : Mem) => x = r ∧ u = S') (fun u t => va_P D vwCl (wl N ad (EE u)) t.heap) (IW N ad)) args s cells slots (IW N ad)) (F0 m pc ls [.long v]) :=
  W.lret C0.1 C0.2.1 C0.2.2.2.2.2.1 (fun t ht hW => ⟨⟨v, S, rfl, ⟨hr, hs⟩, by dsimp only; rw [ht]; exact hP⟩, hS.F ht⟩) hS.2.2 hdg C0.2.2.2.2.2.2.1
theorem ret_v (C0 : Cx p s m args meth c own Ts cc nL none KK) (hP : va_P D vwCl (wl N ad (EE S)) H) (hS : va_S (IW N ad) s.heap H locs) (hs : S = S') (hdg : decode cc pc = .ok (.return_, 1)) : W p l e R s m args below meth c H locs cells slots (MQ below (va_Qv (fun (u : Mem) => u = S') (fun u t => va_P D vwCl (wl N ad (EE u)) t.heap) (IW N ad)) args s cells slots (IW N ad)) (F0 m pc ls []) :=
  W.vret C0.1 C0.2.1 C0.2.2.2.2.2.1 (fun t ht hW => ⟨⟨S, rfl, hs, by dsimp only; rw [ht]; exact hP⟩, hS.F ht⟩) hS.2.2 hdg C0.2.2.2.2.2.2.1
theorem ret_r {v r : Nat} {o : String} (C0 : Cx p s m args meth c own Ts cc nL (some (.object o)) KK) (hP : va_P D vwCl (wl N ad (EE S)) H) (hS : va_S (IW N ad) s.heap H locs) (hr : v = r) (hs : S = S') (hdg : decode cc pc = .ok (.areturn, 1)) : W p l e R s m args below meth c H locs cells slots (MQ below (va_Qr (fun (u : Mem) => u = S') (fun u b t => b = ad r ∧ va_P D vwCl (wl N ad (EE u)) t.heap) (IW N ad)) args s cells slots (IW N ad)) (F0 m pc ls [.ref (ad v)]) :=
  W.aret C0.1 C0.2.1 C0.2.2.2.2.2.1 (Or.inl ⟨o, rfl⟩) (Or.inr ⟨_, rfl⟩) (fun t ht hW => ⟨⟨S, ad v, rfl, hs, by rw [hr], by rw [ht]; exact hP⟩, hS.F ht⟩) hS.2.2 hdg C0.2.2.2.2.2.2.1
end OWN3
