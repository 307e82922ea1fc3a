/-! THE LAW: its first memories, its loop, its walk -/
theorem g_mem0 (a p : Nat) : gi mem0 a p = if a = 25 ∧ p = 1 then -1 else if a = 24 ∧ p = 1 then -1 else if a = 23 ∧ p = 1 then -1 else if a = 14 ∧ p < 4 then -1 else if a = 8 ∧ p < 6 then -1 else 0 := rfl
theorem g_memM (a p : Nat) : gi memM a p = if a = 13 ∧ p < 3 then -1 else if a = 4 ∧ p < 4 then -1 else if a = 2 ∧ p < 6 then -1 else 0 := rfl
theorem g0_z {a p : Nat} (h : a ≠ 8 ∧ a ≠ 14 ∧ a ≠ 23 ∧ a ≠ 24 ∧ a ≠ 25) : gi mem0 a p = 0 := by
  rw [g_mem0, if_neg (by omega), if_neg (by omega), if_neg (by omega), if_neg (by omega), if_neg (by omega)]
theorem gM_z {a p : Nat} (h : a ≠ 2 ∧ a ≠ 4 ∧ a ≠ 13) : gi memM a p = 0 := by
  rw [g_memM, if_neg (by omega), if_neg (by omega), if_neg (by omega)]
theorem rel_0 : Rel mem0 memM := by
  refine ⟨⟨rfl, rfl, rfl, rfl, fun f hf => ?_, fun r hr => ?_, fun r i hr hi => ?_, fun t ht => ?_, fun t i ht hi => ?_⟩, 0, fun _ => 0, fun _ => 0, fun _ => 0, 0, fun _ => 0, fun _ => 0, fun _ _ => 0, ⟨rfl, by decide, fun i hi => absurd hi (Nat.not_lt_zero i)⟩, ⟨rfl, by decide, fun i hi => absurd hi (Nat.not_lt_zero i)⟩, rfl, ⟨by decide, rfl, fun e he => ?_, ⟨rfl, rfl, fun i hi => absurd hi (Nat.not_lt_zero i)⟩, fun e he => absurd he (Nat.not_lt_zero e)⟩, fun k hk => Or.inl ⟨?_, ?_⟩⟩
  · rw [g0_z (by omega), gM_z (by omega)]
  · have e : gi mem0 8 r = -1 := by
      rw [g_mem0, if_neg (by omega), if_neg (by omega), if_neg (by omega), if_neg (by omega), if_pos ⟨rfl, hr⟩]
    rw [e, g_memM, if_neg (by omega), if_neg (by omega), if_pos ⟨rfl, hr⟩]
    exact ⟨rfl, Or.inl rfl⟩
  · rw [g0_z (by omega), gM_z (by omega)]
  · have e : gi mem0 14 t = -1 := by
      rw [g_mem0, if_neg (by omega), if_neg (by omega), if_neg (by omega), if_pos ⟨rfl, ht⟩]
    rw [e, g_memM, if_neg (by omega), if_pos ⟨rfl, ht⟩]
    exact ⟨rfl, Or.inl rfl⟩
  · rw [g0_z (by omega), gM_z (by omega)]
  · have e0 : e = 0 := by omega
    subst e0
    exact ⟨⟨rfl, rfl, fun i hi => absurd hi (Nat.not_lt_zero i)⟩, by decide, by decide, fun i hi => absurd hi (Nat.not_lt_zero i)⟩
  · rcases (show k = 0 ∨ k = 1 ∨ k = 2 by omega) with rfl | rfl | rfl <;> rfl
  · rw [g_memM, if_pos ⟨rfl, hk⟩]
set_option maxHeartbeats 8000000 in
set_option maxRecDepth 100000 in
theorem w_loop {p : Program} {l : Launch} {e : Env} {s : State} {m : MethodId} {below : List Frame} {meth : Method} {c : Code} {D : va_G} {K : Nat → ClassId} {tL : Nat} {aC aM : Nat → Nat} {KK : State → Prop} {b L : Nat} {xs : Nat → Int32} (C0 : Cx p s m #[Value.ref b] meth c RL wsL_law code 4 ret KK) (X : LX D K tL aC aM s) (hX : va_X b L xs s s.heap) (hbl : b < s.heap.size) (hL : L ≤ 3072) : ∀ (n i : Nat) (S T : Mem) (H : Heap) (locs : List Loc) (ls : Array Slot), L + 6 - i < n → i ≤ L + 6 → LI D K aC aM s S T H locs → lv_has ls 4 [(3, .int (nI i)), (0, .ref b), (1, .ref (aC 0)), (2, .ref (aM 0))] → W p l e room_1 s m #[Value.ref b] below meth c H locs 600000 7302249 (lw_Z below #[Value.ref b] s) (F0 m 18 ls []) := by
  have hx := C0.1
  have hb := C0.2.1
  have hbA : ¬ AL s b := Nat.not_le.mpr hbl
  have hcs : 600000 ≤ room_1.cells ∧ 7302249 ≤ room_1.slots := ⟨Nat.le_refl _, Nat.le_refl _⟩
  intro n
  induction n with
  | zero =>
    intro i S T H locs ls h1
    omega
  | succ n ih =>
    intro i S T H locs ls h1 h2 I hl
    have hS := I.2.2.2
    refine lv_iload_n hx hb dL_law_18 rfl (lv_at hl 0 rfl) ?_
    refine lv_aload_n hx hb dL_law_19 rfl (lv_at hl 1 rfl) ?_
    refine va_slen hx hb hX hbl hbA hS dL_law_20 ?_
    refine lv_bipush (v := 6) hx hb dL_law_21 (by decide) ?_
    refine lv_isub hx hb dL_law_23 ?_
    refine lv_icmp_gt (tgt := 1378) hx hb dL_law_24 (by decide) (fun c1 => ?_) (fun c1 => ?_)
    · refine va_forget (fun q hq => hS.2.2 q hq) ?_
      refine lv_iconst (v := 1) hx hb dL_law_1378 (by decide) ?_
      exact lw_ret hx hb C0.2.2.2.2.2.1 C0.2.2.2.2.2.2.1 dL_law_1379
    · have c2 : i + 6 ≤ L := by
        rw [show Int32.ofNat L = nI L from rfl, n_6, zI_sub, i_lt, zI_T (by omega) (by omega), nI_toInt (by omega)] at c1
        omega
      have sc := SC.of c2 hL
      have h0 : vp_in (nI i) L := inb_vp (inb_nI (by omega) (by omega))
      have kk : ∀ (S' T' : Mem) (H1 : Heap) (locs1 : List Loc), LI D K aC aM s S' T' H1 locs1 → W p l e room_1 s m #[Value.ref b] below meth c H1 locs1 600000 7302249 (lw_Z below #[Value.ref b] s) (F0 m 1372 ls []) := fun S' T' H1 locs1 I' => by
        refine lv_iinc (v := nI (i + 6)) (lv' := [(3, .int (nI (i + 6))), (0, .ref b), (1, .ref (aC 0)), (2, .ref (aM 0))]) hx hb dL_law_1372 hl (k := 0) rfl (by rw [← nI_add]; rfl) (by decide) rfl (fun ls hl => ?_)
        refine lv_goto (tgt := 18) hx hb dL_law_1375 (by decide) ?_
        exact ih (i + 6) S' T' H1 locs1 ls (by omega) (by omega) I' hl
      refine lv_aload_n hx hb dL_law_27 rfl (lv_at hl 1 rfl) ?_
      refine lv_iload_n hx hb dL_law_28 rfl (lv_at hl 0 rfl) ?_
      refine va_sld hx hb hX hbl hbA hS h0 dL_law_29 ?_
      refine lv_bipush (v := 63) hx hb dL_law_30 (by decide) ?_
      refine lv_iand hx hb dL_law_32 ?_
      refine lv_topi (fun w _ => ?_)
      by_cases hw : inb w 43 = true
      · obtain ⟨k, hk, rfl⟩ := inb_ex hw (by decide)
        have hk' := hk
        rcases (show k = 0 ∨ k = 1 ∨ k = 2 ∨ k = 3 ∨ k = 4 ∨ k = 5 ∨ k = 6 ∨ k = 7 ∨ k = 8 ∨ k = 9 ∨ k = 10 ∨ k = 11 ∨ k = 12 ∨ k = 13 ∨ k = 14 ∨ k = 15 ∨ k = 16 ∨ k = 17 ∨ k = 18 ∨ k = 19 ∨ k = 20 ∨ k = 21 ∨ k = 22 ∨ k = 23 ∨ k = 24 ∨ k = 25 ∨ k = 26 ∨ k = 27 ∨ k = 28 ∨ k = 29 ∨ k = 30 ∨ k = 31 ∨ k = 32 ∨ k = 33 ∨ k = 34 ∨ k = 35 ∨ k = 36 ∨ k = 37 ∨ k = 38 ∨ k = 39 ∨ k = 40 ∨ k = 41 ∨ k = 42 by omega) with rfl | rfl | rfl | rfl | rfl | rfl | rfl | rfl | rfl | rfl | rfl | rfl | rfl | rfl | rfl | rfl | rfl | rfl | rfl | rfl | rfl | rfl | rfl | rfl | rfl | rfl | rfl | rfl | rfl | rfl | rfl | rfl | rfl | rfl | rfl | rfl | rfl | rfl | rfl | rfl | rfl | rfl | rfl
        · exact lv_tableIn (off := 187) (tgt := 220) hx hb dL_law_33 (by decide) (by decide) rfl (by decide) (l_row C0 X I hX hbl hbA sc hcs hl kk)
        · exact lv_tableIn (off := 220) (tgt := 253) hx hb dL_law_33 (by decide) (by decide) rfl (by decide) (l_lay C0 X I hX hbl hbA sc hcs hl kk)
        · exact lv_tableIn (off := 263) (tgt := 296) hx hb dL_law_33 (by decide) (by decide) rfl (by decide) (l_at C0 X I hX hbl hbA sc hcs hl kk)
        · exact lv_tableIn (off := 296) (tgt := 329) hx hb dL_law_33 (by decide) (by decide) rfl (by decide) (l_tear C0 X I hX hbl hbA sc hcs hl kk)
        · exact lv_tableIn (off := 319) (tgt := 352) hx hb dL_law_33 (by decide) (by decide) rfl (by decide) (l_copy C0 X I hX hbl hbA sc hcs hl kk)
        · exact lv_tableIn (off := 382) (tgt := 415) hx hb dL_law_33 (by decide) (by decide) rfl (by decide) (l_mean C0 X I hX hbl hbA sc hcs hl kk)
        · exact lv_tableIn (off := 405) (tgt := 438) hx hb dL_law_33 (by decide) (by decide) rfl (by decide) (l_text C0 X I hX hbl hbA sc hcs hl kk)
        · exact lv_tableIn (off := 438) (tgt := 471) hx hb dL_law_33 (by decide) (by decide) rfl (by decide) (l_put C0 X I hX hbl hbA sc hcs hl kk)
        · exact lv_tableIn (off := 481) (tgt := 514) hx hb dL_law_33 (by decide) (by decide) rfl (by decide) (l_fault C0 X I hX hbl hbA sc hcs hl kk)
        · exact lv_tableIn (off := 504) (tgt := 537) hx hb dL_law_33 (by decide) (by decide) rfl (by decide) (l_place C0 X I hX hbl hbA sc hcs hl kk)
        · exact lv_tableIn (off := 527) (tgt := 560) hx hb dL_law_33 (by decide) (by decide) rfl (by decide) (l_house C0 X I hX hbl hbA sc hcs hl kk)
        · exact lv_tableIn (off := 560) (tgt := 593) hx hb dL_law_33 (by decide) (by decide) rfl (by decide) (l_mark C0 X I hX hbl hbA sc hcs hl kk)
        · exact lv_tableIn (off := 593) (tgt := 626) hx hb dL_law_33 (by decide) (by decide) rfl (by decide) (l_worth C0 X I hX hbl hbA sc hcs hl kk)
        · exact lv_tableIn (off := 626) (tgt := 659) hx hb dL_law_33 (by decide) (by decide) rfl (by decide) (l_day C0 X I hX hbl hbA sc hcs hl kk)
        · exact lv_tableIn (off := 639) (tgt := 672) hx hb dL_law_33 (by decide) (by decide) rfl (by decide) (l_spring C0 X I hX hbl hbA sc hcs hl kk)
        · exact lv_tableIn (off := 652) (tgt := 685) hx hb dL_law_33 (by decide) (by decide) rfl (by decide) (l_lend C0 X I hX hbl hbA sc hcs hl kk)
        · exact lv_tableIn (off := 695) (tgt := 728) hx hb dL_law_33 (by decide) (by decide) rfl (by decide) (l_leave C0 X I hX hbl hbA sc hcs hl kk)
        · exact lv_tableIn (off := 728) (tgt := 761) hx hb dL_law_33 (by decide) (by decide) rfl (by decide) (l_take C0 X I hX hbl hbA sc hcs hl kk)
        · exact lv_tableIn (off := 761) (tgt := 794) hx hb dL_law_33 (by decide) (by decide) rfl (by decide) (l_undo C0 X I hX hbl hbA sc hcs hl kk)
        · exact lv_tableIn (off := 784) (tgt := 817) hx hb dL_law_33 (by decide) (by decide) rfl (by decide) (l_keep C0 X I hX hbl hbA sc hcs hl kk)
        · exact lv_tableIn (off := 807) (tgt := 840) hx hb dL_law_33 (by decide) (by decide) rfl (by decide) (l_on C0 X I hX hbl hbA sc hcs hl kk)
        · exact lv_tableIn (off := 830) (tgt := 863) hx hb dL_law_33 (by decide) (by decide) rfl (by decide) (l_works C0 X I hX hbl hbA sc hcs hl kk)
        · exact lv_tableIn (off := 843) (tgt := 876) hx hb dL_law_33 (by decide) (by decide) rfl (by decide) (l_later C0 X I hX hbl hbA sc hcs hl kk)
        · exact lv_tableIn (off := 876) (tgt := 909) hx hb dL_law_33 (by decide) (by decide) rfl (by decide) (l_when C0 X I hX hbl hbA sc hcs hl kk)
        · exact lv_tableIn (off := 899) (tgt := 932) hx hb dL_law_33 (by decide) (by decide) rfl (by decide) (l_lacks C0 X I hX hbl hbA sc hcs hl kk)
        · exact lv_tableIn (off := 922) (tgt := 955) hx hb dL_law_33 (by decide) (by decide) rfl (by decide) (l_share C0 X I hX hbl hbA sc hcs hl kk)
        · exact lv_tableIn (off := 935) (tgt := 968) hx hb dL_law_33 (by decide) (by decide) rfl (by decide) (l_best C0 X I hX hbl hbA sc hcs hl kk)
        · exact lv_tableIn (off := 948) (tgt := 981) hx hb dL_law_33 (by decide) (by decide) rfl (by decide) (l_lending C0 X I hX hbl hbA sc hcs hl kk)
        · exact lv_tableIn (off := 971) (tgt := 1004) hx hb dL_law_33 (by decide) (by decide) rfl (by decide) (l_greedy C0 X I hX hbl hbA sc hcs hl kk)
        · exact lv_tableIn (off := 994) (tgt := 1027) hx hb dL_law_33 (by decide) (by decide) rfl (by decide) (l_kinds C0 X I hX hbl hbA sc hcs hl kk)
        · exact lv_tableIn (off := 1027) (tgt := 1060) hx hb dL_law_33 (by decide) (by decide) rfl (by decide) (l_test C0 X I hX hbl hbA sc hcs hl kk)
        · exact lv_tableIn (off := 1060) (tgt := 1093) hx hb dL_law_33 (by decide) (by decide) rfl (by decide) (l_jars C0 X I hX hbl hbA sc hcs hl kk)
        · exact lv_tableIn (off := 1093) (tgt := 1126) hx hb dL_law_33 (by decide) (by decide) rfl (by decide) (l_duel C0 X I hX hbl hbA sc hcs hl kk)
        · exact lv_tableIn (off := 1136) (tgt := 1169) hx hb dL_law_33 (by decide) (by decide) rfl (by decide) (l_odds C0 X I hX hbl hbA sc hcs hl kk)
        · exact lv_tableIn (off := 1169) (tgt := 1202) hx hb dL_law_33 (by decide) (by decide) rfl (by decide) (l_mid C0 X I hX hbl hbA sc hcs hl kk)
        · exact lv_tableIn (off := 1192) (tgt := 1225) hx hb dL_law_33 (by decide) (by decide) rfl (by decide) (l_lots C0 X I hX hbl hbA sc hcs hl kk)
        · exact lv_tableIn (off := 1225) (tgt := 1258) hx hb dL_law_33 (by decide) (by decide) rfl (by decide) (l_asked C0 X I hX hbl hbA sc hcs hl kk)
        · exact lv_tableIn (off := 1238) (tgt := 1271) hx hb dL_law_33 (by decide) (by decide) rfl (by decide) (l_upper C0 X I hX hbl hbA sc hcs hl kk)
        · exact lv_tableIn (off := 1252) (tgt := 1285) hx hb dL_law_33 (by decide) (by decide) rfl (by decide) (l_lower C0 X I hX hbl hbA sc hcs hl kk)
        · exact lv_tableIn (off := 1266) (tgt := 1299) hx hb dL_law_33 (by decide) (by decide) rfl (by decide) (l_count C0 X I hX hbl hbA sc hcs hl kk)
        · exact lv_tableIn (off := 1289) (tgt := 1322) hx hb dL_law_33 (by decide) (by decide) rfl (by decide) (l_finding C0 X I hX hbl hbA sc hcs hl kk)
        · exact lv_tableIn (off := 1302) (tgt := 1335) hx hb dL_law_33 (by decide) (by decide) rfl (by decide) (l_findings C0 X I hX hbl hbA sc hcs hl kk)
        · exact lv_tableIn (off := 1325) (tgt := 1358) hx hb dL_law_33 (by decide) (by decide) rfl (by decide) (l_digest C0 X I hX hbl hbA sc hcs hl kk)
      · refine lv_tableOut (tgt := 1372) hx hb dL_law_33 ?_ (by decide) (kk S T H locs I)
        rw [inb_iff] at hw
        omega
theorem wsL_in : ∀ w ∈ wsL_law, w ∈ lw_tbl := by
  have h : GoodIn lw_tbl wsL_law := by
    unfold wsL_law
    exact goodIn_app (goodIn_app (goodIn_app (goodIn_app (goodIn_app (goodIn_app (goodIn_app inL_1 (goodIn_app inL_2 (goodIn_app inL_3 (goodIn_app inL_4 (goodIn_app inL_5 (goodIn_app inL_6 (goodIn_app inL_7 (goodIn_app inL_8 (goodIn_app inL_9 (goodIn_app inL_10 (goodIn_app inL_11 (goodIn_app inL_12 (goodIn_app inL_13 (goodIn_app inL_14 (goodIn_app inL_15 (goodIn_app inL_16 (goodIn_app inL_17 (goodIn_app inL_18 (goodIn_app inL_19 (goodIn_app inL_20 (goodIn_app inL_21 (goodIn_app inL_22 (goodIn_app inL_23 (goodIn_app inL_24 (goodIn_app inL_25 (goodIn_app inL_26 (goodIn_app inL_27 (goodIn_app inL_28 (goodIn_app inL_29 (goodIn_app inL_30 (goodIn_app inL_31 (goodIn_app inL_32 (goodIn_app inL_33 (goodIn_app inL_34 (goodIn_app inL_35 (inL_36)))))))))))))))))))))))))))))))))))) inL_X3) inL_X4) inL_X0) inL_X2) inL_X1) (fun w h => absurd h List.not_mem_nil)
  exact fun w hw => (h w hw).1
theorem arr_of {s : State} {args : Array Value} {ty : FieldType} (h : (Cond.arrayClass ty).before args s = true) (hp : ∀ C, ty ≠ .object C) : ∃ cA : ClassId, ArrOfT s cA ty ∧ va_RA s cA ty := by
  obtain ⟨cA, k, comp, h1, h2, h3⟩ := Cond.arrayClass_spec h
  refine ⟨cA, fun N z => ⟨(fun k h => by cases h), k, h2, comp, h3⟩, ?_⟩
  cases ty with
  | object C => exact absurd rfl (hp C)
  | _ => exact h1
theorem arr_ob {s : State} {C : String} (h : va_AO C s) : ∃ cA : ClassId, ArrOfT s cA (.object C) ∧ va_RA s cA (.object C) := by
  obtain ⟨comp, cA, k, h1, h2, h3, h4, h5⟩ := Cond.arrayOver_spec h
  exact ⟨cA, fun N z => ⟨(fun k h => by cases h), k, h3, comp, h4⟩, k, comp, h3, h4, h1, h5⟩
theorem arr_ar {s : State} {ty : FieldType} (h : va_AOA ty s) : ∃ cA : ClassId, ArrOfT s cA (.array ty) ∧ va_RA s cA (.array ty) := by
  obtain ⟨comp, cA, k, h1, h2, h3, h4, h5⟩ := aoa_spec h
  exact ⟨cA, fun N z => ⟨(fun k h => by cases h), k, h3, comp, h4⟩, h5⟩
theorem known {s : State} {args : Array Value} (hts : ∀ w ∈ lw_tbl, w.before args s = true) : ∃ (D : va_G) (K : Nat → ClassId), KN D K s := by
  obtain ⟨c0, i0, k0⟩ := u_known (C := RX0) (T := TX0) (N := 4) (n := 4) hts (fun w h => (inL_X0 w h).1) (hts (.instantiable RX0 4) (by decide +kernel))
  obtain ⟨c1, i1, k1⟩ := u_known (C := RX1) (T := TX1) (N := 3) (n := 3) hts (fun w h => (inL_X1 w h).1) (hts (.instantiable RX1 3) (by decide +kernel))
  obtain ⟨c2, i2, k2⟩ := u_known (C := RX2) (T := TX2) (N := 2) (n := 2) hts (fun w h => (inL_X2 w h).1) (hts (.instantiable RX2 2) (by decide +kernel))
  obtain ⟨c3, i3, k3⟩ := u_known (C := RX3) (T := TX3) (N := 14) (n := 14) hts (fun w h => (inL_X3 w h).1) (hts (.instantiable RX3 14) (by decide +kernel))
  obtain ⟨c4, i4, k4⟩ := u_known (C := RX4) (T := TX4) (N := 23) (n := 23) hts (fun w h => (inL_X4 w h).1) (hts (.instantiable RX4 23) (by decide +kernel))
  have oM : va_AO "LuckJars$Moment" s := va_AO.of (hts (.arrayOver (.object "LuckJars$Moment")) (by decide +kernel))
  have oS : va_AO "LuckJars$Story" s := va_AO.of (hts (.arrayOver (.object "LuckJars$Story")) (by decide +kernel))
  have oI : va_AOA .int s := va_AOA.of (hts (.arrayOver (.array .int)) (by decide +kernel))
  have oB : va_AOA .byte s := va_AOA.of (hts (.arrayOver (.array .byte)) (by decide +kernel))
  obtain ⟨a0, b0⟩ := arr_of (hts (.arrayClass .int) (by decide +kernel)) (fun C h => by cases h)
  obtain ⟨a1, b1⟩ := arr_of (hts (.arrayClass .byte) (by decide +kernel)) (fun C h => by cases h)
  obtain ⟨a2, b2⟩ := arr_ob oM
  obtain ⟨a3, b3⟩ := arr_ob oS
  obtain ⟨a4, b4⟩ := arr_ar oI
  obtain ⟨a5, b5⟩ := arr_ar oB
  refine ⟨(fun k => if k = 0 then c0 else if k = 1 then c1 else if k = 2 then c2 else if k = 3 then c3 else c4, fun k => if k = 0 then i0 else if k = 1 then i1 else if k = 2 then i2 else if k = 3 then i3 else i4), fun k => if k = 0 then a0 else if k = 1 then a1 else if k = 2 then a2 else if k = 3 then a3 else if k = 4 then a4 else a5, ⟨fun k q hq => ?_, fun k q hq => ?_⟩, ⟨?_, ?_, ?_, ?_, ?_, ?_⟩, oM, oS, oI, oB⟩
  · match k, hq with
    | 0, hq => cases hq; exact k0
    | 1, hq => cases hq; exact k1
    | 2, hq => cases hq; exact k2
    | 3, hq => cases hq; exact k3
    | 4, hq => cases hq; exact k4
    | k + 5, hq => simp [vwCl] at hq
  · match k, hq with
    | 0, hq => cases hq; exact b0
    | 1, hq => cases hq; exact b1
    | 2, hq => cases hq; exact b2
    | 3, hq => cases hq; exact b3
    | 4, hq => cases hq; exact b4
    | 5, hq => cases hq; exact b5
    | k + 6, hq => simp [TY] at hq
  · exact va_Nw.of rfl (hts (.methodLinkNest RX1 58 yX3_broughtBy RX3) (by decide +kernel))
  · exact va_Nw.of rfl (hts (.methodLinkNest RX0 21 yX3_worthTo RX3) (by decide +kernel))
  · exact va_Nw.of rfl (hts (.methodLinkNest RX0 38 yX3_isA RX3) (by decide +kernel))
  · exact va_Nw.of rfl (hts (.methodLinkNest RX3 28 yX0_init RX3) (by decide +kernel))
  · exact va_Nw.of rfl (hts (.methodLinkNest RX2 17 yX1_init RX3) (by decide +kernel))
  · exact va_Nw.of rfl (hts (.methodLinkNest RX3 46 yX1_init RX3) (by decide +kernel))
theorem letters {s : State} {b : Nat} {A : Nat → Prop} (hts : ∀ w ∈ lw_tbl, w.before #[Value.ref b] s = true) (hgv : (Jvm.Cond.and given_1 narrow_1).before #[Value.ref b] s = true) (hA : ∀ a : Nat, a < s.heap.size → ¬ A a) : ∃ tL : Nat, va_Z "LuckJars" "LETTERS" "[B" (.ref tL) A s s.heap ∧ va_T .byte tL 6 (fun j => .int (lets j)) A s s.heap := by
  have hq := flat_of_before _ hgv
  obtain ⟨t, ht, hT⟩ := va_Tof (tm := .static "LuckJars" "LETTERS" "[B") (ty := .byte) (N := 6) (f := fun j => .int (lets j)) (by decide) (hq (Cond.arrayOf (.static "LuckJars" "LETTERS" "[B") .byte) (by decide +kernel)) (va_eqt (hq (Cond.eq (.length (.static "LuckJars" "LETTERS" "[B")) (.int 6)) (by decide +kernel))) (fun j hj => by
    rcases (show j = 0 ∨ j = 1 ∨ j = 2 ∨ j = 3 ∨ j = 4 ∨ j = 5 by omega) with rfl | rfl | rfl | rfl | rfl | rfl
    · exact va_eqt (hq (Cond.eq (.elem (.static "LuckJars" "LETTERS" "[B") (.int 0)) (.int 104)) (by decide +kernel))
    · exact va_eqt (hq (Cond.eq (.elem (.static "LuckJars" "LETTERS" "[B") (.int 1)) (.int 119)) (by decide +kernel))
    · exact va_eqt (hq (Cond.eq (.elem (.static "LuckJars" "LETTERS" "[B") (.int 2)) (.int 103)) (by decide +kernel))
    · exact va_eqt (hq (Cond.eq (.elem (.static "LuckJars" "LETTERS" "[B") (.int 3)) (.int 107)) (by decide +kernel))
    · exact va_eqt (hq (Cond.eq (.elem (.static "LuckJars" "LETTERS" "[B") (.int 4)) (.int 111)) (by decide +kernel))
    · exact va_eqt (hq (Cond.eq (.elem (.static "LuckJars" "LETTERS" "[B") (.int 5)) (.int 99)) (by decide +kernel))) hA
  exact ⟨t, va_Zof (hts (.laysStatic "LuckJars" "LETTERS" "[B") (by decide +kernel)) (hts (.initialized "LuckJars") (by decide +kernel)) ht hA, hT⟩
set_option maxHeartbeats 8000000 in
set_option maxRecDepth 100000 in
/-- YOUR PART: from the entry, for every script of at most 3072 ints, the law comes to its end with true ('hflags': the launch's flags, for a law that throws: no stack traces) -/
theorem whole_start {p : Program} {e : Env} {s : State} {m : MethodId} {below : List Frame} {meth : Method} {c : Code} (l : Launch) (hflags : l.flags = flags0) {b L : Nat} {xs : Nat → Int32} (hL : L ≤ 3072) (C0 : lw_At p s m meth c b L xs) : W p l e room_1 s m #[Value.ref b] below meth c s.heap [] 0 0 (lw_Z below #[Value.ref b] s) (entryFrame m ([Value.ref b] : List Value).toArray 4) := by
  obtain ⟨hx, hb, hr, hml, hown, hts, hX, hbl, hlocks, hgv⟩ := id C0
  obtain ⟨D, K, hKN⟩ := known hts
  have hK := hKN.1
  have C1 : Cx p s m #[Value.ref b] meth c RL wsL_law code 4 ret (KN D K) := ⟨hx, hb, hml, hown, fun w h => hts w (wsL_in w h), hr, hlocks, hKN⟩
  have hA : ∀ q : Nat, s.heap.size ≤ q → AL s q := fun _ h => h
  have hS : va_S (AL s) s.heap s.heap [] := va_S.rf
  have i3 : ∀ w ∈ wsX30, w ∈ wsL_law := fun _ h => List.mem_append_left _ (List.mem_append_left _ (List.mem_append_left _ (List.mem_append_left _ (List.mem_append_left _ (List.mem_append_right _ h)))))
  have i4 : ∀ w ∈ wsX40, w ∈ wsL_law := fun _ h => List.mem_append_left _ (List.mem_append_left _ (List.mem_append_left _ (List.mem_append_left _ (List.mem_append_right _ h))))
  have hl := lv_entry ([.ref b]) (n := 4) (Nat.le_of_ble_eq_true rfl)
  rw [lg_entry_eq]
  generalize (lg_sl ([.ref b]) ++ List.replicate (4 - (lg_sl ([.ref b])).length) Slot.unset).toArray = ls at hl ⊢
  have hl : lv_has ls 4 [(0, .ref b)] := hl
  have g : GI D [] (fun _ => 0) (fun _ => .inl (K 0, 0, .inl (fun _ => 0))) (AL s) s.heap := ⟨List.nodup_nil, fun k h => absurd h List.not_mem_nil, fun k h => absurd h List.not_mem_nil, fun k h => absurd h List.not_mem_nil⟩
  refine g_new C1 hK g hS hA 0 List.not_mem_nil (C := RX3) (T := TX3) (NN := 14) i3 tyX3 tyX3_ok (by decide +kernel) (by decide +kernel) (by decide +kernel) (ci := 3) rfl [.null, .null, .null, .null, .null, .null, .null, .null, .null, .int 0, .long 0, .long 0, .int 0, .null] (fun j hj => by rcases (show j = 0 ∨ j = 1 ∨ j = 2 ∨ j = 3 ∨ j = 4 ∨ j = 5 ∨ j = 6 ∨ j = 7 ∨ j = 8 ∨ j = 9 ∨ j = 10 ∨ j = 11 ∨ j = 12 ∨ j = 13 by omega) with rfl | rfl | rfl | rfl | rfl | rfl | rfl | rfl | rfl | rfl | rfl | rfl | rfl | rfl <;> rfl) (Nat.le_of_ble_eq_true rfl) (Nat.le_of_ble_eq_true rfl) dL_law_0 (fun q H g hS => ?_)
  refine lv_dup hx hb dL_law_3 rfl ?_
  refine g_init C1 g hS hA 0 (List.mem_append_right _ List.mem_cons_self) (st_same _ _ _) (st_same _ _ _) (by decide) (i_jars l D K q H.size) gL_law_X3_init rfl ⟨rfl, rfl⟩ (by decide +kernel) (by decide +kernel) (by decide +kernel) rfl (by decide +kernel) ⟨Nat.le_of_ble_eq_true rfl, Nat.le_of_ble_eq_true rfl⟩ (fun j => j) (fun j => j) rfl (fun _ _ => rfl) (fun j j1 j2 h => by
    rcases List.mem_append.mp h with h | h
    · exact absurd h List.not_mem_nil
    · rw [List.mem_singleton] at h
      omega) hl.1 rfl (Nat.le_of_ble_eq_true rfl) dL_law_4 ⟨Nat.le_of_ble_eq_true rfl, Nat.le_of_ble_eq_true rfl⟩ (fun ad E u H locs g a1 _ a3 hS => ?_)
  have g := g.perm (ids' := List.range 360) List.nodup_range (fun i hi => by
    rw [List.mem_range] at hi
    by_cases c : i = 0
    · subst c
      exact List.mem_append_left _ (List.mem_append_right _ List.mem_cons_self)
    · exact List.mem_append_right _ (List.mem_map.mpr ⟨i - 1, List.mem_range.mpr (by omega), by show i - 1 + 1 = i; omega⟩))
  refine lv_astore_n (lv' := [(1, .ref q), (0, .ref b)]) hx hb dL_law_7 rfl hl (by decide) rfl (fun ls hl => ?_)
  have hq0 : u 0 = q := ((a3 0 (by decide)).1.symm.trans (a1 0 (List.mem_append_right _ List.mem_cons_self))).trans (st_same _ _ _)
  refine g_new C1 hK g hS hA 360 (fun h => absurd (List.mem_range.mp h) (Nat.lt_irrefl 360)) (C := RX4) (T := TX4) (NN := 23) i4 tyX4 tyX4_ok (by decide +kernel) (by decide +kernel) (by decide +kernel) (ci := 4) rfl [.int 0, .null, .int 0, .long 0, .long 0, .null, .null, .null, .null, .null, .null, .int 0, .int 0, .null, .null, .null, .null, .null, .int 0, .null, .null, .null, .null] (fun j hj => by rcases (show j = 0 ∨ j = 1 ∨ j = 2 ∨ j = 3 ∨ j = 4 ∨ j = 5 ∨ j = 6 ∨ j = 7 ∨ j = 8 ∨ j = 9 ∨ j = 10 ∨ j = 11 ∨ j = 12 ∨ j = 13 ∨ j = 14 ∨ j = 15 ∨ j = 16 ∨ j = 17 ∨ j = 18 ∨ j = 19 ∨ j = 20 ∨ j = 21 ∨ j = 22 by omega) with rfl | rfl | rfl | rfl | rfl | rfl | rfl | rfl | rfl | rfl | rfl | rfl | rfl | rfl | rfl | rfl | rfl | rfl | rfl | rfl | rfl | rfl | rfl <;> rfl) (Nat.le_of_ble_eq_true rfl) (Nat.le_of_ble_eq_true rfl) dL_law_8 (fun q2 H g hS => ?_)
  refine lv_dup hx hb dL_law_11 rfl ?_
  refine g_init C1 g hS hA 360 (List.mem_append_right _ List.mem_cons_self) (st_same _ _ _) (st_same _ _ _) (by decide) (i_model l D K q2 H.size) gL_law_X4_init rfl ⟨rfl, rfl⟩ (by decide +kernel) (by decide +kernel) (by decide +kernel) rfl (by decide +kernel) ⟨Nat.le_of_ble_eq_true rfl, Nat.le_of_ble_eq_true rfl⟩ (fun j => 360 + j) (fun j => j - 360) rfl (fun j _ => by show 360 + j - 360 = j; omega) (fun j j1 j2 h => by
    rcases List.mem_append.mp h with h | h
    · rw [List.mem_range] at h
      omega
    · rw [List.mem_singleton] at h
      omega) hl.1 rfl (Nat.le_of_ble_eq_true rfl) dL_law_12 ⟨Nat.le_of_ble_eq_true rfl, Nat.le_of_ble_eq_true rfl⟩ (fun ad2 E2 u2 H locs g b1 b2 b3 hS => ?_)
  refine lv_astore_n (lv' := [(2, .ref q2), (1, .ref q), (0, .ref b)]) hx hb dL_law_15 rfl hl (by decide) rfl (fun ls hl => ?_)
  refine lv_iconst (v := 0) hx hb dL_law_16 (by decide) ?_
  refine lv_istore_n (lv' := [(3, .int 0), (2, .ref q2), (1, .ref q), (0, .ref b)]) hx hb dL_law_17 rfl hl (by decide) rfl (fun ls hl => ?_)
  have mI : ∀ i, i < 360 → i ∈ List.range 360 ++ [360] := fun i hi => List.mem_append_left _ (List.mem_range.mpr hi)
  have mJ : ∀ j, j < 17 → 360 + j ∈ (List.range 360 ++ [360]) ++ (List.range (17 - 1)).map (fun j => 360 + (j + 1)) := fun j hj => by
    by_cases c : j = 0
    · subst c
      exact List.mem_append_left _ (List.mem_append_right _ List.mem_cons_self)
    · exact List.mem_append_right _ (List.mem_map.mpr ⟨j - 1, List.mem_range.mpr (by omega), by show 360 + (j - 1 + 1) = 360 + j; omega⟩)
  have eA : ∀ i, i < 360 → ad2 i = u i := fun i hi => by
    rw [b1 i (mI i hi), st_else _ _ (by omega)]
    exact (a3 i hi).1
  have eE : ∀ i, i < 360 → E2 i = EC K u mem0 i := fun i hi => by
    rw [b2 i (mI i hi) (by omega), st_else _ _ (by omega)]
    exact (a3 i hi).2
  have hq2 : u2 0 = q2 := ((b3 0 (by decide)).1.symm.trans (b1 360 (List.mem_append_right _ List.mem_cons_self))).trans (st_same _ _ _)
  have hP : va_P D vwCl (wl NC u (EC K u mem0)) H := fun k x hk => by
    obtain ⟨h1, rfl⟩ := wl_mem hk
    have h := g.2.1 k (List.mem_append_left _ (mI k h1))
    rw [eA k h1, eE k h1] at h
    exact h
  have hQ : va_P D vwCl (wl NM u2 (EM K u2 memM)) H := fun k x hk => by
    obtain ⟨h1, rfl⟩ := wl_mem hk
    have h := g.2.1 (360 + k) (mJ k h1)
    rw [(b3 k h1).1, (b3 k h1).2] at h
    exact h
  have zC : ∀ i, i < NC → AL s (u i) := fun i hi => by
    rw [← eA i hi]
    exact g.2.2.2 i (List.mem_append_left _ (mI i hi))
  have zM : ∀ j, j < NM → AL s (u2 j) := fun j hj => by
    rw [← (b3 j hj).1]
    exact g.2.2.2 (360 + j) (mJ j hj)
  obtain ⟨tL, z1, z2⟩ := letters (A := IW NC u) hts hgv (fun a ha h => by
    obtain ⟨i, hi, rfl⟩ := h
    exact absurd ha (Nat.not_lt.mpr (zC i hi)))
  have X : LX D K tL u u2 s := by
    refine ⟨fun i j hi hj e => ?_, fun i j hi hj e => ?_, fun i j hi hj e => ?_, zC, zM, hK, hKN.2.1, z1, z2⟩
    · exact g.2.2.1 i (List.mem_append_left _ (mI i hi)) j (List.mem_append_left _ (mI j hj)) (by rw [eA i hi, eA j hj]; exact e)
    · have h := g.2.2.1 (360 + i) (mJ i hi) (360 + j) (mJ j hj) (by rw [(b3 i hi).1, (b3 j hj).1]; exact e)
      omega
    · have h := g.2.2.1 i (List.mem_append_left _ (mI i hi)) (360 + j) (mJ j hj) (by rw [eA i hi, (b3 j hj).1]; exact e)
      have hi' : i < 360 := hi
      omega
  have hl : lv_has ls 4 [(3, .int (nI 0)), (2, .ref (u2 0)), (1, .ref (u 0)), (0, .ref b)] := by
    rw [hq0, hq2]
    exact hl
  refine W.widen (k := 600000) (n := 7302249) (by omega) (by omega) ?_
  exact w_loop C1 X hX hbl hL (L + 7) 0 mem0 memM H locs ls (by omega) (by omega) ⟨rel_0, hP, hQ, hS⟩ (lv_sub hl [0, 3, 2, 1] rfl)
