/-! CONSTRUCTORS: rows of rows, what fills them -/
theorem GI.of {D : va_G} {ids : List Nat} {ad : Nat → Nat} {E : Nat → va_E} {A : Nat → Prop} {H : Heap} (hn : ids.Nodup) (hP : va_P D vwCl (wi ids ad E) H) (hD : va_D A (wi ids ad E)) : GI D ids ad E A H := by
  refine ⟨hn, fun j hj => ?_, fun i hi j hj e => ?_, fun j hj => ?_⟩
  · obtain ⟨p, hp⟩ := List.getElem?_of_mem hj
    exact hP p _ (wi_at hp)
  · obtain ⟨p, hp⟩ := List.getElem?_of_mem hi
    obtain ⟨p2, hp2⟩ := List.getElem?_of_mem hj
    have := hD.1 p p2 _ _ (wi_at hp) (wi_at hp2) e
    subst this
    exact Option.some.inj (hp.symm.trans hp2)
  · obtain ⟨p, hp⟩ := List.getElem?_of_mem hj
    exact hD.2 p _ (wi_at hp)
section OWN5
variable {p : Program} {l : Launch} {e : Env} {R : Room} {s : State} {m : MethodId} {args : Array Value} {below : List Frame} {meth : Method} {c : Code} {H : Heap} {locs : List Loc} {cells slots : Nat} {Q : State → Prop}
variable {cc : ByteArray} {pc : Nat} {ls : Array Slot} {rest : List Value} {D : va_G} {K : Nat → ClassId} {ids : List Nat} {ad : Nat → Nat} {E : Nat → va_E} {A : Nat → Prop} {own : String} {Ts : List Cond} {nL : Nat} {ret : Option FieldType} {KK : State → Prop}
theorem g_mna (C0 : Cx p s m args meth c own Ts cc nL ret KK) (hK : va_K D vwCl (TY K) s) (g : GI D ids ad E A H) (hS : va_S A s.heap H locs) (hA : ∀ q, s.heap.size ≤ q → A q) (ko kr : Nat) {N' K' : Nat} (hnd : (ids ++ (ko :: (List.range N').map (fun j => kr + j))).Nodup) {index : Nat} {ty : FieldType} (hlink : Cond.classLink own index ("[" ++ (FieldType.array ty).toString) ∈ Ts) (hover : va_AOA ty s) (harr : Cond.arrayClass ty ∈ Ts) (t0 ty0 : Nat) {cK cy : ClassId} (ht : (TY K)[t0]? = some (cK, .array ty)) (ht0 : (TY K)[ty0]? = some (cy, ty)) (hcy : s.vm.findClass (FieldType.array ty).toString = some cy) {n k : Int32} {z : vp_A} (hn : ¬ n < 0) (hk : ¬ k < 0) (hN : n.toNatClampNeg = N') (hM : k.toNatClampNeg = K') (hb1 : N' * 4 ≤ 536870912) (hb2 : K' * componentBytes ty ≤ 536870912) (hb3 : K' ≤ 536870912) (hdf : fits ty (defaultValue ty) = true) (hdd : (defaultValue ty).isDefault = true) (hcells : cells + (1 + N') ≤ R.cells) (hslots : slots + (N' + N' * K') ≤ R.slots) (hz : ∀ c : ClassId, Jvm.Free.Multi.innerC c K' (defaultValue ty) = vp_cell c z) (hdg : decode cc pc = .ok (.multianewarray index 2, 4))
    (kk : ∀ (q : Nat) (ad' : Nat → Nat) (E' : Nat → va_E) (H1 : Heap), GI D (ids ++ (ko :: (List.range N').map (fun j => kr + j))) ad' E' A H1 → (∀ i ∈ ids, ad' i = ad i ∧ E' i = E i) → ad' ko = q → E' ko = .inl (cK, N', va_q (fun j => kr + j) ad') → (∀ j, j < N' → E' (kr + j) = .inl (cy, z)) → va_S A s.heap H1 locs → W p l e R s m args below meth c H1 locs (cells + 1 + N') (slots + N' + N' * K') Q (F0 m (pc + 4) ls (.ref q :: rest))) : W p l e R s m args below meth c H locs cells slots Q (F0 m pc ls (.int k :: .int n :: rest)) := by
  have hts := C0.2.2.2.2.1
  have enil : wi ids ad E ++ va_pl [] (fun _ => E 0) = wi ids ad E := List.append_nil _
  refine va_mna (X := wi ids ad E) (L := []) (f := fun _ => E 0) C0.1 C0.2.1 C0.2.2.2.1 (hts _ hlink) hover (hts _ harr) hcy hK (by rw [enil]; exact g.P) (by rw [enil]; exact g.DD) hS hA hn hk hN hM hb1 hb2 hb3 hdf hdd hcells hslots hz hdg (fun q r cA H1 hr _ hK1 hP1 hD1 hS1 => ?_)
  have e : cA = cK := ra_one (hK1.2 (TY K).length (cA, .array ty) (by simp)).2 (hK.2 t0 _ ht).2
  subst e
  have nd := List.nodup_append.mp hnd
  have nd2 := List.nodup_cons.mp nd.2.1
  have ko1 : ∀ i ∈ ids, i ≠ ko := fun i hi e => nd.2.2 i hi ko List.mem_cons_self e
  have kr1 : ∀ j, j < N' → kr + j ∉ ids := fun j hj h => nd.2.2 _ h _ (List.mem_cons_of_mem _ (List.mem_map.mpr ⟨j, List.mem_range.mpr hj, rfl⟩)) rfl
  have kr2 : ∀ j, j < N' → kr + j ≠ ko := fun j hj e => nd2.1 (e ▸ List.mem_map.mpr ⟨j, List.mem_range.mpr hj, rfl⟩)
  obtain ⟨ad', had⟩ : ∃ ad' : Nat → Nat, ad' = fun i => if i ∈ ids then ad i else if i = ko then q else r (i - kr) := ⟨_, rfl⟩
  have a1 : ∀ i ∈ ids, ad' i = ad i := fun i hi => by rw [had]; exact if_pos hi
  have a2 : ad' ko = q := by
    rw [had]
    show (if ko ∈ ids then ad ko else if ko = ko then q else r (ko - kr)) = q
    rw [if_neg (fun h => ko1 ko h rfl), if_pos rfl]
  have a3 : ∀ j, j < N' → ad' (kr + j) = r j := fun j hj => by
    rw [had]
    show (if kr + j ∈ ids then ad (kr + j) else if kr + j = ko then q else r (kr + j - kr)) = r j
    rw [if_neg (kr1 j hj), if_neg (kr2 j hj), Nat.add_sub_cancel_left]
  obtain ⟨E0, hE0⟩ : ∃ E0 : Nat → va_E, E0 = fun i => if i ∈ ids then E i else if i = ko then .inl (cA, N', .inr (.inr (.inr (.inr (fun i => if i < N' then some (r i) else none))))) else .inl (cy, z) := ⟨_, rfl⟩
  have b1 : ∀ i ∈ ids, E0 i = E i := fun i hi => by rw [hE0]; exact if_pos hi
  have b2 : E0 ko = .inl (cA, N', .inr (.inr (.inr (.inr (fun i => if i < N' then some (r i) else none))))) := by
    rw [hE0]
    show (if ko ∈ ids then E ko else if ko = ko then _ else _) = _
    rw [if_neg (fun h => ko1 ko h rfl), if_pos rfl]
  have b3 : ∀ j, j < N' → E0 (kr + j) = .inl (cy, z) := fun j hj => by
    rw [hE0]
    show (if kr + j ∈ ids then E (kr + j) else if kr + j = ko then _ else _) = _
    rw [if_neg (kr1 j hj), if_neg (kr2 j hj)]
  have ew : (wi ids ad E ++ [(q, (.inl (cA, N', .inr (.inr (.inr (.inr (fun i => if i < N' then some (r i) else none))))) : va_E))]) ++ va_pl ([] ++ (List.range N').map r) (vr_up (fun _ => E 0) ((List.range N').map r) (.inl (cy, z))) = wi (ids ++ (ko :: (List.range N').map (fun j => kr + j))) ad' E0 := by
    unfold wi va_pl
    rw [List.nil_append, List.map_append, List.map_cons, List.append_assoc, a2, b2]
    congr 1
    · apply List.map_congr_left
      intro i hi
      rw [a1 i hi, b1 i hi]
    · show _ :: _ = _ :: _
      congr 1
      rw [List.map_map, List.map_map]
      apply List.map_congr_left
      intro j hj
      have hj2 := List.mem_range.mp hj
      show (r j, vr_up (fun _ => E 0) ((List.range N').map r) (.inl (cy, z)) (r j)) = (ad' (kr + j), E0 (kr + j))
      rw [a3 j hj2, b3 j hj2, vr_up_in (List.mem_map.mpr ⟨j, hj, rfl⟩)]
  rw [ew] at hP1 hD1
  have g1 := GI.of hnd hP1 hD1
  have g2 : GI D (ids ++ (ko :: (List.range N').map (fun j => kr + j))) ad' (st E0 ko (.inl (cA, N', va_q (fun j => kr + j) ad'))) A H1 := g1.to (fun _ _ => rfl) (fun i _ h => by
    by_cases c : i = ko
    · subst c
      rw [b2] at h
      rw [st_same]
      exact at_q h (fun j hj => by
        show (if j < N' then some (r j) else none) = some (ad' (kr + j))
        rw [if_pos hj, a3 j hj])
    · rw [st_else _ _ c]
      exact h)
  exact kk q ad' _ H1 g2 (fun i hi => ⟨a1 i hi, by rw [st_else _ _ (ko1 i hi), b1 i hi]⟩) a2 (st_same _ _ _) (fun j hj => by rw [st_else _ _ (kr2 j hj), b3 j hj]) hS1
/-- Arrays.fill of whole numbers -/
theorem g_fill {n : Nat} {f : Nat → Int32} {v : Int32} {a index : Nat} {st0 : List Value} (C0 : Cx p s m args meth c own Ts cc nL ret (KN D K)) (g : GI D ids ad E A H) (hS : va_S A s.heap H locs) (k : Nat) (hk : k ∈ ids) (hak : ad k = a) (he : E k = .inl (K 0, n, .inl f)) (hn : n ≤ 1000) (hG : GoodIn Ts (va_wsS own index yJ7_fill_53178 wsJ7_fill_53178)) (hR : 1 ≤ R.frames ∧ 23 ≤ R.locals) (hsz : ls.size = nL) (hst : st0 = .int v :: .ref a :: rest) (hm : (rest.map fun v => v.category).sum ≤ 8) (hdg : decode cc pc = .ok (.invokestatic index, 3)) (hcs : cells ≤ R.cells ∧ slots ≤ R.slots)
    (kk : ∀ (H1 : Heap) (locs1 : List Loc), GI D ids ad (st E k (.inl (K 0, n, .inl (fun j => if j < n then v else f j)))) A H1 → va_S A s.heap H1 locs1 → W p l e R s m args below meth c H1 locs1 cells slots Q (F0 m (pc + 3) ls rest)) : W p l e R s m args below meth c H locs cells slots Q (F0 m pc ls st0) := by
  subst hak
  have hts := C0.2.2.2.2.1
  have hP := g.2.1 k hk
  have hAk := g.2.2.2 k hk
  rw [he] at hP
  have hP1 : va_P D vwCl (wl 1 (fun _ => ad k) (fun i => (.inl (K 0, n, .inl ((fun _ => f : Nat → Nat → Int32) i)) : va_E))) H := fun p q hq => by
    obtain ⟨h1, rfl⟩ := wl_mem hq
    exact hP
  have hf : f7_fillI ((fun _ => f, fun _ => 0) : Mem) 0 n v = some (upG ((fun _ => f, fun _ => 0) : Mem) 0 0 n (fun _ => v)) := by
    unfold f7_fillI
    rw [nmE, n_0, fillI_b5 v 0 n (by omega) FU 0 _ (Nat.lt_of_le_of_lt (show n - 0 ≤ 1000 from hn) (by decide)) (Nat.zero_le _)]
  have hM := m7_fillI l D (fun _ => ad k) (N := 1) (EE := fun S i => (.inl (K 0, n, .inl (S.1 i)) : va_E)) (KK := KN D K) (tys := TY K) (t0 := 0) (c0 := K 0) (fun i j hi hj _ => by omega) (fun S S' i h1 h2 => by dsimp only; rw [h1]) rfl (fun U h => h.1) ((fun _ => f, fun _ => 0) : Mem) 0 n v ⟨by decide, fun _ => rfl⟩ hf
  refine va_callv (va_runS (As := [.ref (ad k), .int v]) (rest := rest) ⟨C0.1, C0.2.1, C0.2.2.1, C0.2.2.2.1, hts⟩ hM (va_cwS 2 hts hG rfl rfl rfl hd_J7_fill_53178 ⟨hR.1, hR.2⟩) ⟨fun a U g mk q => ⟨q.1, q.2.1, q.2.2.calling⟩, fun U hU hW => ⟨rfl, by rw [hU]; exact hP1, C0.2.2.2.2.2.2.2.go hW⟩⟩ rfl rfl hsz hst (lv_room hm) hdg hcs) hS (fun q hq h => ?_) (fun q h => ?_) (fun u t H1 locs1 ht hvm hw hB hz1 hk1 hS1 => ?_)
  · obtain ⟨_, _, rfl⟩ := h
    exact hAk
  · obtain ⟨_, _, rfl⟩ := h
    exact hAk
  · subst hw
    dsimp only at hB
    rw [ht] at hB
    have hx := hB 0 _ (wl_at (by decide) rfl)
    refine kk H1 locs1 (g.one hk ?_ (fun q h1 h2 => hk1 q h1 (fun h3 => by obtain ⟨_, _, e⟩ := h3; exact h2 e))) hS1
    have e2 : (upG ((fun _ => f, fun _ => 0) : Mem) 0 0 n (fun _ => v)).1 0 = fun j => if j < n then v else f j := by
      funext j
      show (if 0 = 0 ∧ 0 ≤ j ∧ j < n then v else f j) = _
      by_cases c : j < n
      · rw [if_pos c, if_pos ⟨rfl, Nat.zero_le _, c⟩]
      · rw [if_neg c, if_neg (fun q => c q.2.2)]
    have hx2 : va_at D vwCl (ad k, .inl (K 0, n, .inl ((upG ((fun _ => f, fun _ => 0) : Mem) 0 0 n (fun _ => v)).1 0))) H1 := hx
    rw [e2] at hx2
    exact hx2
theorem g_ald (C0 : Cx p s m args meth c own Ts cc nL ret KK) (hK : va_K D vwCl (TY K) s) (g : GI D ids ad E A H) (k : Nat) (hk : k ∈ ids) {a v : Nat} (hak : ad k = a) (t0 : Nat) {cK : ClassId} {n : Nat} {f : Nat → Option Nat} {C : String} (he : E k = .inl (cK, n, .inr (.inr (.inr (.inr f))))) (ht : (TY K)[t0]? = some (cK, .object C)) {i : Int32} (hin : inb i n = true) (hv : f i.toNatClampNeg = some v) (hdg : decode cc pc = .ok (.aaload, 1))
    (kk : W p l e R s m args below meth c H locs cells slots Q (F0 m (pc + 1) ls (.ref v :: rest))) : W p l e R s m args below meth c H locs cells slots Q (F0 m pc ls (.int i :: .ref a :: rest)) := by
  subst hak
  obtain ⟨q, hq⟩ := List.getElem?_of_mem hk
  have hw := wi_at (ad := ad) (E := E) hq
  rw [he] at hw
  refine va_aldq C0.1 C0.2.1 hK g.P q t0 hw ht (inb_vp hin) hdg ?_
  rw [hv]
  exact kk
end OWN5
theorem we_mna {D : va_G} {K : Nat → ClassId} {ids new : List Nat} {ad ad' : Nat → Nat} {E' : Nat → va_E} {S : Mem} {n m : Nat} {A : Nat → Prop} {H : Heap} (g : GI D (ids ++ new) ad' E' A H) (hc : CLW ids n m) (a1 : ∀ i ∈ ids, ad' i = ad i ∧ E' i = WE K ad S n m i) (hE : ∀ i ∈ new, E' i = WE K ad' S n m i) : GI D (ids ++ new) ad' (WE K ad' S n m) A H :=
  g.to (fun _ _ => rfl) (fun i hi h => by
    rcases List.mem_append.mp hi with h1 | h1
    · rw [(a1 i h1).2] at h
      exact WE_cg (fun r hr => (a1 r (hc i h1 r hr)).1) h
    · rw [← hE i h1]
      exact h)
