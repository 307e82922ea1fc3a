/-! WHAT IS BEING MADE: the cells of a list of ids, at addresses ad, holding E -/
def wi (ids : List Nat) (ad : Nat → Nat) (E : Nat → va_E) : va_W := ids.map (fun k => (ad k, E k))
def GI (D : va_G) (ids : List Nat) (ad : Nat → Nat) (E : Nat → va_E) (A : Nat → Prop) (H : Heap) : Prop := ids.Nodup ∧ (∀ k ∈ ids, va_at D vwCl (ad k, E k) H) ∧ (∀ k ∈ ids, ∀ j ∈ ids, ad k = ad j → k = j) ∧ ∀ k ∈ ids, A (ad k)
theorem wi_at {ids : List Nat} {ad : Nat → Nat} {E : Nat → va_E} {p k : Nat} (h : ids[p]? = some k) : (wi ids ad E)[p]? = some (ad k, E k) := by
  unfold wi
  rw [List.getElem?_map, h]
  rfl
theorem wi_mem {ids : List Nat} {ad : Nat → Nat} {E : Nat → va_E} {p : Nat} {q : Nat × va_E} (h : (wi ids ad E)[p]? = some q) : ∃ k, ids[p]? = some k ∧ q = (ad k, E k) := by
  unfold wi at h
  rw [List.getElem?_map] at h
  cases hk : ids[p]? with
  | none =>
    rw [hk] at h
    cases h
  | some k =>
    rw [hk] at h
    exact ⟨k, rfl, (Option.some.inj h).symm⟩
theorem nodup_at {ids : List Nat} (h : ids.Nodup) {i j k : Nat} (hi : ids[i]? = some k) (hj : ids[j]? = some k) : i = j := by
  obtain ⟨h1, e1⟩ := List.getElem?_eq_some_iff.mp hi
  obtain ⟨h2, e2⟩ := List.getElem?_eq_some_iff.mp hj
  exact (List.getElem_inj h).mp (e1.trans e2.symm)
section GIs
variable {D : va_G} {ids : List Nat} {ad : Nat → Nat} {E : Nat → va_E} {A : Nat → Prop} {H H1 : Heap}
theorem GI.P (g : GI D ids ad E A H) : va_P D vwCl (wi ids ad E) H := by
  intro p q hq
  obtain ⟨k, h1, rfl⟩ := wi_mem hq
  exact g.2.1 k (List.mem_of_getElem? h1)
theorem GI.DD (g : GI D ids ad E A H) : va_D A (wi ids ad E) := by
  refine ⟨fun i j p q hi hj e => ?_, fun p q hq => ?_⟩
  · obtain ⟨k, h1, rfl⟩ := wi_mem hi
    obtain ⟨k2, h2, rfl⟩ := wi_mem hj
    have := g.2.2.1 k (List.mem_of_getElem? h1) k2 (List.mem_of_getElem? h2) e
    subst this
    exact nodup_at g.1 h1 h2
  · obtain ⟨k, h1, rfl⟩ := wi_mem hq
    exact g.2.2.2 k (List.mem_of_getElem? h1)
theorem GI.set (g : GI D ids ad E A H) {p k : Nat} {x : va_E} (hp : ids[p]? = some k) (hP : va_P D vwCl ((wi ids ad E).set p (ad k, x)) H1) : GI D ids ad (st E k x) A H1 := by
  refine ⟨g.1, fun j hj => ?_, g.2.2.1, g.2.2.2⟩
  obtain ⟨i, hi⟩ := List.getElem?_of_mem hj
  by_cases e : j = k
  · subst e
    have e2 := nodup_at g.1 hi hp
    subst e2
    have hl : i < (wi ids ad E).length := (List.getElem?_eq_some_iff.mp (wi_at (ad := ad) (E := E) hi)).1
    have := hP i (ad j, x) (List.getElem?_set_self hl)
    rw [st_same]
    exact this
  · have ne : ¬ p = i := fun q => by
      subst q
      rw [hp] at hi
      exact e (Option.some.inj hi).symm
    have := hP i (ad j, E j) (by rw [List.getElem?_set_ne ne]; exact wi_at hi)
    rw [st_else _ _ e]
    exact this
theorem GI.push (g : GI D ids ad E A H) {k q : Nat} {x : va_E} (hk : k ∉ ids) (hP : va_P D vwCl (wi ids ad E ++ [(q, x)]) H1) (hD : va_D A (wi ids ad E ++ [(q, x)])) : GI D (ids ++ [k]) (st ad k q) (st E k x) A H1 := by
  have e : wi ids ad E ++ [(q, x)] = wi (ids ++ [k]) (st ad k q) (st E k x) := by
    unfold wi
    rw [List.map_append]
    congr 1
    · apply List.map_congr_left
      intro j hj
      have ne : ¬ j = k := fun q => hk (q ▸ hj)
      rw [st_else _ _ ne, st_else _ _ ne]
    · simp [st]
  rw [e] at hP hD
  have nd : (ids ++ [k]).Nodup := by
    rw [List.nodup_append]
    refine ⟨g.1, by simp, fun a ha b hb => ?_⟩
    rw [List.mem_singleton] at hb
    subst hb
    exact fun q => hk (q ▸ ha)
  refine ⟨nd, fun j hj => ?_, fun i hi j hj e => ?_, fun j hj => ?_⟩
  · obtain ⟨p, hp⟩ := List.getElem?_of_mem hj
    exact hP p _ (wi_at hp)
  · obtain ⟨p, hp⟩ := List.getElem?_of_mem hi
    obtain ⟨p2, hp2⟩ := List.getElem?_of_mem hj
    have := hD.1 p p2 _ _ (wi_at hp) (wi_at hp2) e
    subst this
    exact Option.some.inj (hp.symm.trans hp2)
  · obtain ⟨p, hp⟩ := List.getElem?_of_mem hj
    exact hD.2 p _ (wi_at hp)
theorem GI.to {ad' : Nat → Nat} {E' : Nat → va_E} (g : GI D ids ad E A H) (ha : ∀ k ∈ ids, ad' k = ad k) (hE : ∀ k ∈ ids, va_at D vwCl (ad k, E k) H → va_at D vwCl (ad k, E' k) H) : GI D ids ad' E' A H := by
  obtain ⟨g1, g2, g3, g4⟩ := g
  refine ⟨g1, fun k hk => ?_, fun k hk j hj e => ?_, fun k hk => ?_⟩
  · rw [ha k hk]
    exact hE k hk (g2 k hk)
  · rw [ha k hk, ha j hj] at e
    exact g3 k hk j hj e
  · rw [ha k hk]
    exact g4 k hk
theorem GI.perm {ids' : List Nat} (g : GI D ids ad E A H) (hn : ids'.Nodup) (hs : ∀ k ∈ ids', k ∈ ids) : GI D ids' ad E A H :=
  ⟨hn, fun k hk => g.2.1 k (hs k hk), fun k hk j hj => g.2.2.1 k (hs k hk) j (hs j hj), fun k hk => g.2.2.2 k (hs k hk)⟩
/-- behind the call of a constructor: k is made ready, and the callee's other cells come -/
theorem GI.join {M k : Nat} {u : Nat → Nat} {EF : Nat → va_E} {B : Nat → Prop} (g : GI D ids ad E A H) (hk : k ∈ ids) (hu : u 0 = ad k) (hM : 0 < M) (g2 : GI D (List.range M) u EF B H1) (hsz : ∀ j, 0 < j → j < M → H.size ≤ u j) (hfr : ∀ q : Nat, q < H.size → ¬ (q = ad k ∨ H.size ≤ q) → H1[q]? = H[q]?) (hA : ∀ q, H.size ≤ q → A q) (gl inv : Nat → Nat) (h0 : gl 0 = k) (hinv : ∀ j, j < M → inv (gl j) = j) (hnew : ∀ j, 0 < j → j < M → gl j ∉ ids) : ∃ ad' E', GI D (ids ++ (List.range (M - 1)).map (fun j => gl (j + 1))) ad' E' A H1 ∧ (∀ i ∈ ids, ad' i = ad i) ∧ (∀ i ∈ ids, i ≠ k → E' i = E i) ∧ ∀ j, j < M → ad' (gl j) = u j ∧ E' (gl j) = EF j := by
  obtain ⟨a1, a2, a3, a4⟩ := g
  obtain ⟨b1, b2, b3, b4⟩ := g2
  have hi0 : inv k = 0 := by
    rw [← h0]
    exact hinv 0 hM
  have lt : ∀ i ∈ ids, ad i < H.size := fun i hi => (a2 i hi).lt
  have key : ∀ i ∈ (List.range (M - 1)).map (fun j => gl (j + 1)), ∃ j, 0 < j ∧ j < M ∧ i = gl j := fun i hi => by
    obtain ⟨j, hj, rfl⟩ := List.mem_map.mp hi
    rw [List.mem_range] at hj
    exact ⟨j + 1, by omega, by omega, rfl⟩
  have adA : ∀ i ∈ ids, (fun i => if i ∈ ids then ad i else u (inv i)) i = ad i := fun i hi => if_pos hi
  have adB : ∀ j, j < M → (fun i => if i ∈ ids then ad i else u (inv i)) (gl j) = u j := fun j hj => by
    by_cases c : j = 0
    · subst c
      rw [h0]
      show (if k ∈ ids then ad k else u (inv k)) = u 0
      rw [if_pos hk, hu]
    · show (if gl j ∈ ids then ad (gl j) else u (inv (gl j))) = u j
      rw [if_neg (hnew j (by omega) hj), hinv j hj]
  have EA : ∀ i ∈ ids, i ≠ k → (fun i => if i ∈ ids ∧ i ≠ k then E i else EF (inv i)) i = E i := fun i hi ne => if_pos ⟨hi, ne⟩
  have EB : ∀ j, j < M → (fun i => if i ∈ ids ∧ i ≠ k then E i else EF (inv i)) (gl j) = EF j := fun j hj => by
    have c : ¬ (gl j ∈ ids ∧ gl j ≠ k) := fun q => by
      by_cases c : j = 0
      · subst c
        exact q.2 h0
      · exact hnew j (by omega) hj q.1
    show (if gl j ∈ ids ∧ gl j ≠ k then E (gl j) else EF (inv (gl j))) = EF j
    rw [if_neg c, hinv j hj]
  generalize (fun i => if i ∈ ids then ad i else u (inv i)) = ad' at adA adB
  generalize (fun i => if i ∈ ids ∧ i ≠ k then E i else EF (inv i)) = E' at EA EB
  refine ⟨ad', E', ⟨?_, fun i hi => ?_, fun i hi j hj e => ?_, fun i hi => ?_⟩, adA, EA, fun j hj => ⟨adB j hj, EB j hj⟩⟩
  · rw [List.nodup_append]
    refine ⟨a1, ?_, fun x hx y hy e => ?_⟩
    · unfold List.Nodup
      rw [List.pairwise_map]
      refine (List.nodup_range (n := M - 1)).imp_of_mem (fun {i j} h1 h2 hne e1 => hne ?_)
      rw [List.mem_range] at h1 h2
      have e2 := hinv (i + 1) (by omega)
      rw [e1, hinv (j + 1) (by omega)] at e2
      omega
    · obtain ⟨j, j1, j2, rfl⟩ := key y hy
      subst e
      exact hnew j j1 j2 hx
  · rcases List.mem_append.mp hi with h | h
    · by_cases c : i = k
      · subst c
        have e1 := adB 0 hM
        have e2 := EB 0 hM
        rw [h0] at e1 e2
        rw [e1, e2]
        exact b2 0 (List.mem_range.mpr hM)
      · rw [adA i h, EA i h c]
        have hl := lt i h
        refine (a2 i h).kept (hfr (ad i) hl (fun q => ?_))
        rcases q with q | q
        · exact c (a3 i h k hk q)
        · omega
    · obtain ⟨j, j1, j2, rfl⟩ := key i h
      rw [adB j j2, EB j j2]
      exact b2 j (List.mem_range.mpr j2)
  · rcases List.mem_append.mp hi with h | h
    · rcases List.mem_append.mp hj with h2 | h2
      · rw [adA i h, adA j h2] at e
        exact a3 i h j h2 e
      · obtain ⟨j', j1, j2, rfl⟩ := key j h2
        rw [adA i h, adB j' j2] at e
        have := lt i h
        have := hsz j' j1 j2
        omega
    · obtain ⟨i', i1, i2, rfl⟩ := key i h
      rcases List.mem_append.mp hj with h2 | h2
      · rw [adA j h2, adB i' i2] at e
        have := lt j h2
        have := hsz i' i1 i2
        omega
      · obtain ⟨j', j1, j2, rfl⟩ := key j h2
        rw [adB i' i2, adB j' j2] at e
        rw [b3 i' (List.mem_range.mpr i2) j' (List.mem_range.mpr j2) e]
  · rcases List.mem_append.mp hi with h | h
    · rw [adA i h]
      exact a4 i h
    · obtain ⟨j, j1, j2, rfl⟩ := key i h
      rw [adB j j2]
      exact hA _ (hsz j j1 j2)
/-- one cell's turn alone -/
theorem GI.one {k : Nat} {x : va_E} (g : GI D ids ad E A H) (hk : k ∈ ids) (hx : va_at D vwCl (ad k, x) H1) (hfr : ∀ q : Nat, q < H.size → ¬ q = ad k → H1[q]? = H[q]?) : GI D ids ad (st E k x) A H1 := by
  obtain ⟨a1, a2, a3, a4⟩ := g
  refine ⟨a1, fun i hi => ?_, a3, a4⟩
  by_cases c : i = k
  · subst c
    rw [st_same]
    exact hx
  · rw [st_else _ _ c]
    exact (a2 i hi).kept (hfr (ad i) (a2 i hi).lt (fun q => c (a3 i hi k hk q)))
end GIs
/-! what is known at a constructor's start -/
theorem aoa_spec {ty : FieldType} {s : State} (h : va_AOA ty s) : ∃ comp c k, s.vm.findClass (FieldType.array ty).toString = some comp ∧ (s.vm.classes.findIdx? fun (x : Class) => match x.kind with | .array component _ => component == comp | _ => false) = some c ∧ s.vm.classes[c]? = some k ∧ k.kind = .array comp (.array ty) ∧ s.vm.findClass ("[" ++ (FieldType.array ty).toString) = some c := by
  unfold va_AOA Cond.before at h
  simp only [Cond.holds, Cond.value, beq_iff_eq] at h
  cases hc : s.vm.findClass (FieldType.array ty).toString with
  | none => simp [hc] at h
  | some comp =>
    simp only [hc, Option.bind_some, Option.bind_eq_some_iff, Option.map_eq_some_iff] at h
    obtain ⟨c, hi, k, hk, hb⟩ := h
    obtain ⟨hlt, hp, -⟩ := Array.findIdx?_eq_some_iff_getElem.mp hi
    have hkk : s.vm.classes[c] = k := (Array.getElem?_eq_some_iff.mp hk).2
    rw [hkk] at hp
    cases hkind : k.kind with
    | array component t =>
      rw [hkind] at hb hp
      simp at hb hp
      exact ⟨comp, c, k, rfl, hi, hk, by rw [hkind, hp, hb.1], hb.2⟩
    | _ => rw [hkind] at hb; simp at hb
theorem va_AOA.moved {ty : FieldType} {u U : State} (hvm : u.vm.Alike U.vm) (h : va_AOA ty u) : va_AOA ty U := by
  obtain ⟨comp, c, k, h1, h2, h3, h4, h5⟩ := aoa_spec h
  obtain ⟨k', hk', he⟩ := hvm.2.2 _ _ h3
  have hi : (U.vm.classes.findIdx? fun (x : Class) => match x.kind with | .array component _ => component == comp | _ => false) = some c := by
    refine (va_idx_bare U.vm comp).symm.trans ?_
    have e : U.vm.bare = u.vm.bare := by first | exact hvm.bare_eq | exact hvm.bare_eq.symm
    rw [e]
    exact (va_idx_bare u.vm comp).trans h2
  have hkind : k'.kind = .array comp (.array ty) := by rw [he]; exact h4
  have f1 : U.vm.findClass (FieldType.array ty).toString = some comp := by rw [hvm.findClass]; exact h1
  have f2 : U.vm.findClass ("[" ++ (FieldType.array ty).toString) = some c := by rw [hvm.findClass]; exact h5
  unfold va_AOA Cond.before Cond.holds
  simp only [Cond.value]
  rw [f1, Option.bind_some]
  refine (congrArg (fun o : Option Nat => (o.bind (fun c => (U.vm.classes[c]?).map fun (k : Class) => match k.kind with | .array _ t => decide (t = FieldType.array ty) && decide (U.vm.findClass ("[" ++ (FieldType.array ty).toString) = some c) | _ => false) == some true)) hi).trans ?_
  simp [hk', hkind, f2]
def KN (D : va_G) (K : Nat → ClassId) (U : State) : Prop := va_K D vwCl (TY K) U ∧ NEST U ∧ va_AO "LuckJars$Moment" U ∧ va_AO "LuckJars$Story" U ∧ va_AOA .int U ∧ va_AOA .byte U
theorem KN.go {D : va_G} {K : Nat → ClassId} {s U : State} (h : KN D K s) (hW : s.WarmedH U.vm) : KN D K U :=
  ⟨va_K.moved hW.alike h.1, h.2.1.warm hW, h.2.2.1.moved hW.alike, h.2.2.2.1.moved hW.alike, h.2.2.2.2.1.moved hW.alike, h.2.2.2.2.2.moved hW.alike⟩
theorem KN.calling {D : va_G} {K : Nat → ClassId} {U : State} {g : JFrame} {mk : MethodId} {a : Array Value} (h : KN D K U) : KN D K (U.calling g mk a) :=
  ⟨va_K.moved (u := U) (U := U.calling g mk a) (Vm.Alike.refl U.vm) h.1, h.2.1.same rfl, va_AO.moved (u := U) (U := U.calling g mk a) (Vm.Alike.refl U.vm) h.2.2.1, va_AO.moved (u := U) (U := U.calling g mk a) (Vm.Alike.refl U.vm) h.2.2.2.1, va_AOA.moved (u := U) (U := U.calling g mk a) (Vm.Alike.refl U.vm) h.2.2.2.2.1, va_AOA.moved (u := U) (U := U.calling g mk a) (Vm.Alike.refl U.vm) h.2.2.2.2.2⟩
theorem ra_one {s : State} {c1 c2 : ClassId} {ty : FieldType} (h1 : va_RA s c1 ty) (h2 : va_RA s c2 ty) : c1 = c2 := by
  cases ty with
  | object C =>
    obtain ⟨-, -, -, -, -, a⟩ := h1
    obtain ⟨-, -, -, -, -, b⟩ := h2
    exact Option.some.inj (a.symm.trans b)
  | _ => exact Option.some.inj (Eq.trans (Eq.symm h1) h2)
def AF (h0 sz : Nat) : Nat → Prop := fun q => q = h0 ∨ sz ≤ q
/-- a constructor's contract: of the object at h0 it makes the M cells of EF, the object the first -/
abbrev MkC (l : Launch) (y : MethodName) (ws : List Cond) (rm : Room) (D : va_G) (K : Nat → ClassId) (h0 sz : Nat) (x0 : va_E) (M : Nat) (EF : (Nat → Nat) → Nat → va_E) (mc ms : Nat) : Prop :=
  Met l y ws rm (va_Pc [.ref h0] (fun U => (U.heap.size = sz ∧ va_at D vwCl (h0, x0) U.heap) ∧ KN D K U)) (va_Qv (fun u : Nat → Nat => u 0 = h0 ∧ ∀ k, 0 < k → k < M → sz ≤ u k) (fun u t => GI D (List.range M) u (EF u) (fun _ => True) t.heap) (AF h0 sz)) mc ms (AF h0 sz)
section OWN4
variable {p : Program} {l : Launch} {e : Env} {R : Room} {s : State} {m : MethodId} {args : Array Value} {below : List Frame} {meth : Method} {c : Code} {H : Heap} {locs : List Loc} {cells slots : Nat} {Q : State → Prop}
variable {cc : ByteArray} {pc : Nat} {ls : Array Slot} {rest : List Value} {D : va_G} {K : Nat → ClassId} {ids : List Nat} {ad : Nat → Nat} {E : Nat → va_E} {A : Nat → Prop} {own : String} {Ts : List Cond} {nL : Nat} {ret : Option FieldType} {KK : State → Prop}
theorem g_newa (C0 : Cx p s m args meth c own Ts cc nL ret KK) (hK : va_K D vwCl (TY K) s) (g : GI D ids ad E A H) (hS : va_S A s.heap H locs) (hA : ∀ q, s.heap.size ≤ q → A q) (k : Nat) (hk : k ∉ ids) {atype : ArrayType} {ty : FieldType} (hty : newarray.typeOf atype = ty) (harr : Cond.arrayClass (newarray.typeOf atype) ∈ Ts) (t0 : Nat) {cK : ClassId} (ht : (TY K)[t0]? = some (cK, ty)) {n : Int32} {N' : Nat} {a0 : vp_A} (ha : ∀ cA : ClassId, vp_cell cA a0 = arrV cA N' (fun _ => defaultValue ty)) (hn : ¬ n < 0) (hN : n.toNatClampNeg = N') (hbytes : N' * componentBytes ty ≤ 536870912) (hcells : cells + 1 ≤ R.cells) (hslots : slots + N' ≤ R.slots) (hdg : decode cc pc = .ok (.newarray atype, 2))
    (kk : ∀ (q : Nat) (H1 : Heap), GI D (ids ++ [k]) (st ad k q) (st E k (.inl (cK, a0))) A H1 → va_S A s.heap H1 locs → W p l e R s m args below meth c H1 locs (cells + 1) (slots + N') Q (F0 m (pc + 2) ls (.ref q :: rest))) : W p l e R s m args below meth c H locs cells slots Q (F0 m pc ls (.int n :: rest)) := by
  refine va_newa C0.1 C0.2.1 (C0.2.2.2.2.1 _ harr) hty hK g.P g.DD hS hA ha hn hN hbytes hcells hslots hdg (fun q cA H1 hK1 hP1 hD1 hS1 => ?_)
  have e : cA = cK := ra_one (hK1.2 (TY K).length (cA, ty) (by simp)).2 (hK.2 t0 _ ht).2
  subst e
  exact kk q H1 (g.push hk hP1 hD1) hS1
theorem g_newq (C0 : Cx p s m args meth c own Ts cc nL ret KK) (hK : va_K D vwCl (TY K) s) (g : GI D ids ad E A H) (hS : va_S A s.heap H locs) (hA : ∀ q, s.heap.size ≤ q → A q) (k : Nat) (hk : k ∉ ids) {C : String} {index : Nat} (hlink : Cond.classLink own index C ∈ Ts) (hover : va_AO C s) (t0 : Nat) {cK : ClassId} (ht : (TY K)[t0]? = some (cK, .object C)) {n : Int32} {N' : Nat} (hn : ¬ n < 0) (hN : n.toNatClampNeg = N') (hbytes : N' * 4 ≤ 536870912) (hcells : cells + 1 ≤ R.cells) (hslots : slots + N' ≤ R.slots) (hdg : decode cc pc = .ok (.anewarray index, 3))
    (kk : ∀ (q : Nat) (H1 : Heap), GI D (ids ++ [k]) (st ad k q) (st E k (.inl (cK, N', .inr (.inr (.inr (.inr (fun _ => none))))))) A H1 → va_S A s.heap H1 locs → W p l e R s m args below meth c H1 locs (cells + 1) (slots + N') Q (F0 m (pc + 3) ls (.ref q :: rest))) : W p l e R s m args below meth c H locs cells slots Q (F0 m pc ls (.int n :: rest)) := by
  refine va_newq C0.1 C0.2.1 C0.2.2.2.1 (C0.2.2.2.2.1 _ hlink) hover hK g.P g.DD hS hA hn hN hbytes hcells hslots hdg (fun q cA H1 hK1 hP1 hD1 hS1 => ?_)
  have e : cA = cK := ra_one (hK1.2 (TY K).length (cA, .object C) (by simp)).2 (hK.2 t0 _ ht).2
  subst e
  exact kk q H1 (g.push hk hP1 hD1) hS1
theorem g_new (C0 : Cx p s m args meth c own Ts cc nL ret KK) (hK : va_K D vwCl (TY K) s) (g : GI D ids ad E A H) (hS : va_S A s.heap H locs) (hA : ∀ q, s.heap.size ≤ q → A q) (k : Nat) (hk : k ∉ ids) {C : String} {T : u_T} {NN ci index : Nat} (hin : ∀ w ∈ u_ws C T NN, w ∈ Ts) (ty : Nat → FieldType) (hty : ∀ k, k < NN → parseFieldDescriptor (T k).2.2.1 = some (ty k)) (hcl : Cond.classLink own index C ∈ Ts) (hinst : Cond.instantiable C NN ∈ Ts) (hini : Cond.initialized C ∈ Ts) (hc : vwCl[ci]? = some (C, T, NN)) (fs : List Value) (hfs : ∀ j, j < NN → defaultValue (ty j) = vp_V fs j) (hcells : cells + 1 ≤ R.cells) (hslots : slots + NN ≤ R.slots) (hdg : decode cc pc = .ok (.new index, 3))
    (kk : ∀ (q : Nat) (H1 : Heap), GI D (ids ++ [k]) (st ad k q) (st E k (.inr (ci, fs))) A H1 → va_S A s.heap H1 locs → W p l e R s m args below meth c H1 locs (cells + 1) (slots + NN) Q (F0 m (pc + 3) ls (.ref q :: rest))) : W p l e R s m args below meth c H locs cells slots Q (F0 m pc ls rest) := by
  have hts := C0.2.2.2.2.1
  refine va_new C0.1 C0.2.1 hts hin ty hty C0.2.2.2.1 (hts _ hcl) (hts _ hinst) (hts _ hini) hK g.P g.DD hS hA hc hfs hcells hslots hdg (fun q H1 hP1 hD1 hS1 => ?_)
  exact kk q H1 (g.push hk hP1 hD1) hS1
theorem g_put (C0 : Cx p s m args meth c own Ts cc nL ret KK) (hK : va_K D vwCl (TY K) s) (g : GI D ids ad E A H) (hS : va_S A s.heap H locs) (k : Nat) (hk : k ∈ ids) {a : Nat} (hak : ad k = a) {ci : Nat} {fs : List Value} {C : String} {T : u_T} {NN : Nat} (he : E k = .inr (ci, fs)) (hc : vwCl[ci]? = some (C, T, NN)) (ty0 : Nat → FieldType) (hty : ∀ k, k < NN → parseFieldDescriptor (T k).2.2.1 = some (ty0 k)) (hnm : ∀ a, a < NN → ∀ b, b < NN → a ≠ b → (T a).2.1 ≠ (T b).2.1) (hin : ∀ w ∈ u_ws C T NN, w ∈ Ts) (j : Nat) (hj : j < NN) {index : Nat} (hlink : Cond.fieldLink own index (T j).1 (T j).2.1 (T j).2.2.1 ∈ Ts) (hfin : (T j).2.2.2 = false) {ty : FieldType} {v : Value} (hd : parseFieldDescriptor (T j).2.2.1 = some ty) (hn : narrow ty v = v) (hfit : fits ty v = true) (hl : j < fs.length) (hdg : decode cc pc = .ok (.putfield index, 3))
    (kk : ∀ (H1 : Heap) (locs1 : List Loc), GI D ids ad (st E k (.inr (ci, fs.set j v))) A H1 → va_S A s.heap H1 locs1 → W p l e R s m args below meth c H1 locs1 cells slots Q (F0 m (pc + 3) ls rest)) : W p l e R s m args below meth c H locs cells slots Q (F0 m pc ls (v :: .ref a :: rest)) := by
  subst hak
  obtain ⟨q, hq⟩ := List.getElem?_of_mem hk
  have hw := wi_at (ad := ad) (E := E) hq
  rw [he] at hw
  exact va_put C0.1 C0.2.1 C0.2.2.2.2.1 hin ty0 hty hnm C0.2.2.2.1 hK g.P g.DD hS q hw hc j hj (C0.2.2.2.2.1 _ hlink) (fun _ h => h) hfin hd hn hfit hl hdg (fun H1 locs1 hP1 _ hS1 => kk H1 locs1 (g.set hq hP1) hS1)
theorem g_putF (C0 : Cx p s m args meth c own Ts cc nL ret KK) (hK : va_K D vwCl (TY K) s) (g : GI D ids ad E A H) (hS : va_S A s.heap H locs) (k : Nat) (hk : k ∈ ids) {a : Nat} (hak : ad k = a) {ci : Nat} {fs : List Value} {C : String} {T : u_T} {NN : Nat} (he : E k = .inr (ci, fs)) (hc : vwCl[ci]? = some (C, T, NN)) (ty0 : Nat → FieldType) (hty : ∀ k, k < NN → parseFieldDescriptor (T k).2.2.1 = some (ty0 k)) (hnm : ∀ a, a < NN → ∀ b, b < NN → a ≠ b → (T a).2.1 ≠ (T b).2.1) (hin : ∀ w ∈ u_ws C T NN, w ∈ Ts) (hin2 : meth.name = "<init>") (j : Nat) (hj : j < NN) {index : Nat} (hlink : Cond.fieldLink own index (T j).1 (T j).2.1 (T j).2.2.1 ∈ Ts) (hfin : (T j).2.2.2 = true) (hdecl : (T j).1 = own) {ty : FieldType} {v : Value} (hd : parseFieldDescriptor (T j).2.2.1 = some ty) (hn : narrow ty v = v) (hfit : fits ty v = true) (hl : j < fs.length) (hdg : decode cc pc = .ok (.putfield index, 3))
    (kk : ∀ (H1 : Heap) (locs1 : List Loc), GI D ids ad (st E k (.inr (ci, fs.set j v))) A H1 → va_S A s.heap H1 locs1 → W p l e R s m args below meth c H1 locs1 cells slots Q (F0 m (pc + 3) ls rest)) : W p l e R s m args below meth c H locs cells slots Q (F0 m pc ls (v :: .ref a :: rest)) := by
  subst hak
  obtain ⟨q, hq⟩ := List.getElem?_of_mem hk
  have hw := wi_at (ad := ad) (E := E) hq
  rw [he] at hw
  exact va_putF C0.1 C0.2.1 C0.2.2.2.2.1 hin ty0 hty hnm C0.2.2.2.1 hK g.P g.DD hS q hw hc j hj (C0.2.2.2.2.1 _ hlink) (fun _ h => h) hfin hin2 hdecl hd hn hfit hl hdg (fun H1 locs1 hP1 _ hS1 => kk H1 locs1 (g.set hq hP1) hS1)
theorem g_get (C0 : Cx p s m args meth c own Ts cc nL ret KK) (hK : va_K D vwCl (TY K) s) (g : GI D ids ad E A H) (k : Nat) (hk : k ∈ ids) {a : Nat} (hak : ad k = a) {ci : Nat} {fs : List Value} {C : String} {T : u_T} {NN : Nat} (he : E k = .inr (ci, fs)) (hc : vwCl[ci]? = some (C, T, NN)) (hin : ∀ w ∈ u_ws C T NN, w ∈ Ts) (j : Nat) (hj : j < NN) {index : Nat} (hlink : Cond.fieldLink own index (T j).1 (T j).2.1 (T j).2.2.1 ∈ Ts) {v : Value} (hv : fs[j]? = some v) (hdg : decode cc pc = .ok (.getfield index, 3))
    (kk : W p l e R s m args below meth c H locs cells slots Q (F0 m (pc + 3) ls (v :: rest))) : W p l e R s m args below meth c H locs cells slots Q (F0 m pc ls (.ref a :: rest)) := by
  subst hak
  obtain ⟨q, hq⟩ := List.getElem?_of_mem hk
  have hw := wi_at (ad := ad) (E := E) hq
  rw [he] at hw
  exact va_get C0.1 C0.2.1 C0.2.2.2.2.1 hin C0.2.2.2.1 hK g.P q hw hc j hj (C0.2.2.2.2.1 _ hlink) (fun _ h => h) hv hdg kk
theorem g_iast (C0 : Cx p s m args meth c own Ts cc nL ret KK) (hK : va_K D vwCl (TY K) s) (g : GI D ids ad E A H) (hS : va_S A s.heap H locs) (k : Nat) (hk : k ∈ ids) {a : Nat} (hak : ad k = a) {n : Nat} {f : Nat → Int32} (he : E k = .inl (K 0, n, .inl f)) {i x : Int32} (hin : inb i n = true) (hdg : decode cc pc = .ok (.iastore, 1))
    (kk : ∀ (H1 : Heap) (locs1 : List Loc), GI D ids ad (st E k (.inl (K 0, n, .inl (upd f i.toNatClampNeg x)))) A H1 → va_S A s.heap H1 locs1 → W p l e R s m args below meth c H1 locs1 cells slots Q (F0 m (pc + 1) ls rest)) : W p l e R s m args below meth c H locs cells slots Q (F0 m pc ls (.int x :: .int i :: .ref a :: rest)) := by
  subst hak
  obtain ⟨q, hq⟩ := List.getElem?_of_mem hk
  have hw := wi_at (ad := ad) (E := E) hq
  rw [he] at hw
  exact va_iast C0.1 C0.2.1 hK g.P g.DD hS q 0 hw rfl (inb_vp hin) hdg (fun H1 locs1 hP1 _ hS1 => kk H1 locs1 (g.set hq hP1) hS1)
theorem g_ast (C0 : Cx p s m args meth c own Ts cc nL ret KK) (hK : va_K D vwCl (TY K) s) (g : GI D ids ad E A H) (hS : va_S A s.heap H locs) (k kv : Nat) (hk : k ∈ ids) (hkv : kv ∈ ids) {a v : Nat} (hak : ad k = a) (hav : ad kv = v) (t0 : Nat) {cK : ClassId} {n : Nat} {f : Nat → Option Nat} (he : E k = .inl (cK, n, .inr (.inr (.inr (.inr f))))) {ci : Nat} {vs : List Value} {r : vw_C} (ht : (TY K)[t0]? = some (cK, .object r.1)) (hv : E kv = .inr (ci, vs)) (hc : vwCl[ci]? = some r) {i : Int32} (hin : inb i n = true) (hdg : decode cc pc = .ok (.aastore, 1))
    (kk : ∀ (H1 : Heap) (locs1 : List Loc), GI D ids ad (st E k (.inl (cK, n, .inr (.inr (.inr (.inr (va_up f i.toNatClampNeg (some v)))))))) A H1 → va_S A s.heap H1 locs1 → W p l e R s m args below meth c H1 locs1 cells slots Q (F0 m (pc + 1) ls rest)) : W p l e R s m args below meth c H locs cells slots Q (F0 m pc ls (.ref v :: .int i :: .ref a :: rest)) := by
  subst hak
  subst hav
  obtain ⟨q, hq⟩ := List.getElem?_of_mem hk
  obtain ⟨q2, hq2⟩ := List.getElem?_of_mem hkv
  have hw := wi_at (ad := ad) (E := E) hq
  rw [he] at hw
  have hw2 := wi_at (ad := ad) (E := E) hq2
  rw [hv] at hw2
  exact va_astq C0.1 C0.2.1 hK g.P g.DD hS q t0 q2 ci hw ht hw2 hc (inb_vp hin) hdg (fun H1 locs1 hP1 _ hS1 => kk H1 locs1 (g.set hq hP1) hS1)
/-- a constructor's call, plain -/
theorem g_init {y : MethodName} {bytes : ByteArray} {maxL mc ms index : Nat} {ws ws' : List Cond} {rm : Room} {h0 M : Nat} {x0 : va_E} {EF : (Nat → Nat) → Nat → va_E} {st0 : List Value} (C0 : Cx p s m args meth c own Ts cc nL ret (KN D K)) (g : GI D ids ad E A H) (hS : va_S A s.heap H locs) (hA : ∀ q, s.heap.size ≤ q → A q) (k : Nat) (hk : k ∈ ids) (hak : ad k = h0) (he : E k = x0) (hM0 : 0 < M) (hM : MkC l y ws rm D K h0 H.size x0 M EF mc ms) (hG : GoodIn Ts ws) (hw : ws = Cond.code y bytes maxL none :: ws') (hrm : rm.cells = mc ∧ rm.slots = ms) (hini : Cond.initialized y.cls ∈ Ts) (hl : Cond.methodLink own index y ∈ Ts) (hin : Cond.instanceMethod y ∈ Ts) (hy : y.name = "<init>") (hd : y.cls ≠ "java/lang/invoke/MethodHandle" ∧ y.cls ≠ "java/lang/invoke/VarHandle" ∧ (parseMethodDescriptor y.desc).map (fun d => d.parameters.length) = some 0) (hR : rm.frames + 1 ≤ R.frames ∧ 8 + (maxL + 11) + rm.locals ≤ R.locals) (gl inv : Nat → Nat) (hg0 : gl 0 = k) (hinv : ∀ j, j < M → inv (gl j) = j) (hnew : ∀ j, 0 < j → j < M → gl j ∉ ids) (hsz : ls.size = nL) (hst : st0 = .ref h0 :: rest) (hm : (rest.map fun v => v.category).sum ≤ 8) (hdg : decode cc pc = .ok (.invokespecial index, 3)) (hcs : cells + mc ≤ R.cells ∧ slots + ms ≤ R.slots)
    (kk : ∀ (ad' : Nat → Nat) (E' : Nat → va_E) (u : Nat → Nat) (H1 : Heap) (locs1 : List Loc), GI D (ids ++ (List.range (M - 1)).map (fun j => gl (j + 1))) ad' E' A H1 → (∀ i ∈ ids, ad' i = ad i) → (∀ i ∈ ids, i ≠ k → E' i = E i) → (∀ j, j < M → ad' (gl j) = u j ∧ E' (gl j) = EF u j) → va_S A s.heap H1 locs1 → W p l e R s m args below meth c H1 locs1 (cells + mc) (slots + ms) Q (F0 m (pc + 3) ls rest)) : W p l e R s m args below meth c H locs cells slots Q (F0 m pc ls st0) := by
  have hts := C0.2.2.2.2.1
  have hP := g.2.1 k hk
  rw [hak, he] at hP
  have hAk := g.2.2.2 k hk
  rw [hak] at hAk
  refine va_callv (va_runI (As := []) (rest := rest) ⟨C0.1, C0.2.1, C0.2.2.1, C0.2.2.2.1, hts⟩ hM (cwI 0 hts hG hw hrm.1 hrm.2 (hts _ hini) (hts _ hl) (hts _ hin) hy hd hR) ⟨fun a U g mk q => ⟨q.1, q.2.1, q.2.2.calling⟩, fun U hU hW => ⟨rfl, ⟨by rw [hU], by rw [hU]; exact hP⟩, C0.2.2.2.2.2.2.2.go hW⟩⟩ rfl rfl hsz hst (lv_room hm) hdg hcs) hS (fun q hq h => ?_) (fun q h => ?_) (fun u t H1 locs1 ht hvm hw hB hz1 hk1 hS1 => ?_)
  · rcases h with h | h
    · rw [h]
      exact hAk
    · exact hA q (Nat.le_trans hS.1 h)
  · rcases h with h | h
    · rw [h]
      exact hAk
    · exact hA q (Nat.le_trans hS.1 h)
  · rw [ht] at hB
    obtain ⟨ad', E', a1, a2, a3, a4⟩ := g.join hk (hw.1.trans hak.symm) hM0 hB hw.2 (fun q h1 h2 => hk1 q h1 (fun h3 => h2 (by rw [hak]; exact h3))) (fun q h => hA q (Nat.le_trans hS.1 h)) gl inv hg0 hinv hnew
    exact kk ad' E' u H1 locs1 a1 a2 a3 a4 hS1
/-- a private constructor's, of a nest mate -/
theorem g_initN {y : MethodName} {bytes : ByteArray} {maxL mc ms index : Nat} {host : String} {ws ws' : List Cond} {rm : Room} {h0 M : Nat} {x0 : va_E} {EF : (Nat → Nat) → Nat → va_E} {st0 : List Value} (C0 : Cx p s m args meth c own Ts cc nL ret (KN D K)) (g : GI D ids ad E A H) (hS : va_S A s.heap H locs) (hA : ∀ q, s.heap.size ≤ q → A q) (k : Nat) (hk : k ∈ ids) (hak : ad k = h0) (he : E k = x0) (hM0 : 0 < M) (hM : MkC l y ws rm D K h0 H.size x0 M EF mc ms) (hG : GoodIn Ts ws) (hw : ws = Cond.code y bytes maxL none :: ws') (hrm : rm.cells = mc ∧ rm.slots = ms) (hini : Cond.initialized y.cls ∈ Ts) (hN : va_Nw (.methodLinkNest own index y host) s) (hin : Cond.instanceMethod y ∈ Ts) (hy : y.name = "<init>") (hd : y.cls ≠ "java/lang/invoke/MethodHandle" ∧ y.cls ≠ "java/lang/invoke/VarHandle" ∧ (parseMethodDescriptor y.desc).map (fun d => d.parameters.length) = some 0) (hR : rm.frames + 1 ≤ R.frames ∧ 8 + (maxL + 11) + rm.locals ≤ R.locals) (gl inv : Nat → Nat) (hg0 : gl 0 = k) (hinv : ∀ j, j < M → inv (gl j) = j) (hnew : ∀ j, 0 < j → j < M → gl j ∉ ids) (hsz : ls.size = nL) (hst : st0 = .ref h0 :: rest) (hm : (rest.map fun v => v.category).sum ≤ 8) (hdg : decode cc pc = .ok (.invokespecial index, 3)) (hcs : cells + mc ≤ R.cells ∧ slots + ms ≤ R.slots)
    (kk : ∀ (ad' : Nat → Nat) (E' : Nat → va_E) (u : Nat → Nat) (H1 : Heap) (locs1 : List Loc), GI D (ids ++ (List.range (M - 1)).map (fun j => gl (j + 1))) ad' E' A H1 → (∀ i ∈ ids, ad' i = ad i) → (∀ i ∈ ids, i ≠ k → E' i = E i) → (∀ j, j < M → ad' (gl j) = u j ∧ E' (gl j) = EF u j) → va_S A s.heap H1 locs1 → W p l e R s m args below meth c H1 locs1 (cells + mc) (slots + ms) Q (F0 m (pc + 3) ls rest)) : W p l e R s m args below meth c H locs cells slots Q (F0 m pc ls st0) := by
  have hts := C0.2.2.2.2.1
  have hP := g.2.1 k hk
  rw [hak, he] at hP
  have hAk := g.2.2.2 k hk
  rw [hak] at hAk
  refine va_callv (va_runIN (As := []) (rest := rest) ⟨C0.1, C0.2.1, C0.2.2.1, C0.2.2.2.1, hts⟩ hM ⟨va_cnB 0 hts hG hw hrm.1 hrm.2 hN (hts _ hini) hd hR, hy, hts _ hin⟩ ⟨fun a U g mk q => ⟨q.1, q.2.1, q.2.2.calling⟩, fun U hU hW => ⟨rfl, ⟨by rw [hU], by rw [hU]; exact hP⟩, C0.2.2.2.2.2.2.2.go hW⟩⟩ rfl rfl hsz hst (lv_room hm) hdg hcs) hS (fun q hq h => ?_) (fun q h => ?_) (fun u t H1 locs1 ht hvm hw hB hz1 hk1 hS1 => ?_)
  · rcases h with h | h
    · rw [h]
      exact hAk
    · exact hA q (Nat.le_trans hS.1 h)
  · rcases h with h | h
    · rw [h]
      exact hAk
    · exact hA q (Nat.le_trans hS.1 h)
  · rw [ht] at hB
    obtain ⟨ad', E', a1, a2, a3, a4⟩ := g.join hk (hw.1.trans hak.symm) hM0 hB hw.2 (fun q h1 h2 => hk1 q h1 (fun h3 => h2 (by rw [hak]; exact h3))) (fun q h => hA q (Nat.le_trans hS.1 h)) gl inv hg0 hinv hnew
    exact kk ad' E' u H1 locs1 a1 a2 a3 a4 hS1
/-- a constructor's end -/
theorem g_ret {h0 M : Nat} {EF : (Nat → Nat) → Nat → va_E} (C0 : Cx p s m args meth c own Ts cc nL none KK) (g : GI D ids ad E (AF h0 s.heap.size) H) (hS : va_S (AF h0 s.heap.size) s.heap H locs) (h0' : ad 0 = h0) (hM0 : 0 < M) (hs : ∀ k, k < M → k ∈ ids) (hE : ∀ k, k < M → va_at D vwCl (ad k, E k) H → va_at D vwCl (ad k, EF ad k) H) (hdg : decode cc pc = .ok (.return_, 1)) : W p l e R s m args below meth c H locs cells slots (MQ below (va_Qv (fun u : Nat → Nat => u 0 = h0 ∧ ∀ k, 0 < k → k < M → s.heap.size ≤ u k) (fun u t => GI D (List.range M) u (EF u) (fun _ => True) t.heap) (AF h0 s.heap.size)) args s cells slots (AF h0 s.heap.size)) (F0 m pc ls []) := by
  have g2 : GI D (List.range M) ad (EF ad) (AF h0 s.heap.size) H := (g.perm List.nodup_range (fun k hk => hs k (List.mem_range.mp hk))).to (fun _ _ => rfl) (fun k hk => hE k (List.mem_range.mp hk))
  have hz : ∀ k, 0 < k → k < M → s.heap.size ≤ ad k := fun k k1 k2 => by
    rcases g2.2.2.2 k (List.mem_range.mpr k2) with h | h
    · have := g2.2.2.1 k (List.mem_range.mpr k2) 0 (List.mem_range.mpr hM0) (h.trans h0'.symm)
      omega
    · exact h
  exact W.vret C0.1 C0.2.1 C0.2.2.2.2.2.1 (fun t ht hW => ⟨⟨ad, rfl, ⟨h0', hz⟩, by dsimp only; rw [ht]; exact ⟨g2.1, g2.2.1, g2.2.2.1, fun _ _ => trivial⟩⟩, hS.F ht⟩) hS.2.2 hdg C0.2.2.2.2.2.2.1
end OWN4
