/-! FretHands.drop()I -/
abbrev rm_FH_drop : Room := { frames := 1, cells := 0, slots := 0, locals := 20 }
theorem hd_FH_drop : yX9_drop.cls = RX9 ∧ yX9_drop.cls ≠ "java/lang/invoke/MethodHandle" ∧ yX9_drop.cls ≠ "java/lang/invoke/VarHandle" ∧ (parseMethodDescriptor yX9_drop.desc).map (fun d => d.parameters.length) = some 0 := by decide +kernel
noncomputable def p_FH_drop  (g : sG) (f : sF) : Option (Int32 × sG × sF) := (if (g 3) = 0 then some ((-4 : Int32), g, f) else lt_ (upd g 3 ((g 3) - (1 : Int32))) (fun g1 => Option.bind (p_Pl_forget  g1 f) (fun u2 => some (u2.1 3, u2.1, u2.2))))
set_option maxRecDepth 100000 in
set_option maxHeartbeats 4000000 in
theorem k_FH_drop {l : Launch} {D : va_G} {ad : Nat → Nat} {cy : Nat → ClassId}  {u : Int32 × sG × sF} {g : sG} {f : sF} (hf : p_FH_drop  g f = some u) : mMi l yX9_drop (Cond.code yX9_drop cX9_drop 1 (some .int) :: wU) rm_FH_drop D (cT cy) (cW ad cy) [.ref (ad 0)] g f u := by
  refine mk_i (by decide) rfl (Nat.le_of_ble_eq_true rfl) ?_
  intro p e s m below meth c Q A H0 Fx hret ls H locs hl hC
  replace hl : lv_has ls 1 [(0, .ref (ad 0))] := hl
  unfold p_FH_drop at hf
  refine lv_aload_n Fx.1 Fx.2.1 dX9_drop_0 rfl (lv_at hl 0 rfl) ?_
  refine gg_FH_tune Fx hC wd_204 dX9_drop_1 ?_
  refine gg_Tu_events Fx hC wd_59 dX9_drop_4 ?_
  refine lv_if_ne (tgt := 13) Fx.1 Fx.2.1 dX9_drop_7 (by decide) (fun hc => ?_) (fun hc => ?_)
  · replace hf := iff_ hc hf
    refine lv_aload_n Fx.1 Fx.2.1 dX9_drop_13 rfl (lv_at hl 0 rfl) ?_
    refine gg_FH_tune Fx hC wd_204 dX9_drop_14 ?_
    refine lv_dup Fx.1 Fx.2.1 dX9_drop_17 rfl ?_
    refine gg_Tu_events Fx hC wd_59 dX9_drop_18 ?_
    refine lv_iconst (v := (1 : Int32)) Fx.1 Fx.2.1 dX9_drop_21 (by decide) ?_
    refine lv_isub Fx.1 Fx.2.1 dX9_drop_22 ?_
    obtain ⟨g1, eg1, hf⟩ := lt_e hf
    refine gp_Tu_events Fx hC wd_59 eg1 dX9_drop_23 (fun H locs hC => ?_)
    refine lv_aload_n Fx.1 Fx.2.1 dX9_drop_26 rfl (lv_at hl 0 rfl) ?_
    refine gg_FH_latest Fx hC wd_205 dX9_drop_27 ?_
    obtain ⟨u2, hu2, hf⟩ := bd_e hf
    refine ca_v (As := []) (rest := []) Fx hC (k_Pl_forget hu2) (cVU 0 Fx.2.2.2.2 wd_228 wd_229 wd_230 wd_4 wd_231 rfl rfl hd_Pl_forget ⟨Nat.le_of_ble_eq_true rfl, Nat.le_of_ble_eq_true rfl⟩) 8 rfl rfl rfl hl.1 rfl (Nat.le_of_ble_eq_true rfl) dX9_drop_30 (fun H locs hC => ?_)
    refine lv_aload_n Fx.1 Fx.2.1 dX9_drop_33 rfl (lv_at hl 0 rfl) ?_
    refine gg_FH_tune Fx hC wd_204 dX9_drop_34 ?_
    refine gg_Tu_events Fx hC wd_59 dX9_drop_37 ?_
    obtain rfl := Option.some.inj hf
    exact hret _ _ _ _ dX9_drop_40 hC
  · replace hf := ift hc hf
    refine lv_bipush (v := (-4 : Int32)) Fx.1 Fx.2.1 dX9_drop_10 (by decide) ?_
    obtain rfl := Option.some.inj hf
    exact hret _ _ _ _ dX9_drop_12 hC
/-! FretHands.told(I)I -/
abbrev rm_FH_told : Room := { frames := 0, cells := 0, slots := 0, locals := 0 }
theorem hd_FH_told : yX9_told.cls = RX9 ∧ yX9_told.cls ≠ "java/lang/invoke/MethodHandle" ∧ yX9_told.cls ≠ "java/lang/invoke/VarHandle" ∧ (parseMethodDescriptor yX9_told.desc).map (fun d => d.parameters.length) = some 1 := by decide +kernel
noncomputable def p_FH_told (a1 : Int32) (g : sG) (f : sF) : Option (Int32) := (if a1 = (0 : Int32) then some (g 0) else (if a1 = (1 : Int32) then some (g 1) else (if a1 = (2 : Int32) then some (g 2) else (if a1 = (3 : Int32) then some (g 3) else (if a1 = (4 : Int32) then some (g 12) else some (-2 : Int32))))))
set_option maxRecDepth 100000 in
set_option maxHeartbeats 4000000 in
theorem k_FH_told {l : Launch} {D : va_G} {ad : Nat → Nat} {cy : Nat → ClassId} {a1 : Int32} {r : Int32} {g : sG} {f : sF} (hf : p_FH_told a1 g f = some r) : mMi l yX9_told (Cond.code yX9_told cX9_told 2 (some .int) :: wU) rm_FH_told D (cT cy) (cW ad cy) [.ref (ad 0), .int a1] g f (r, g, f) := by
  refine mk_i (by decide) rfl (Nat.le_of_ble_eq_true rfl) ?_
  intro p e s m below meth c Q A H0 Fx hret ls H locs hl hC
  replace hl : lv_has ls 2 [(0, .ref (ad 0)), (1, .int a1)] := hl
  unfold p_FH_told at hf
  refine lv_iload_n Fx.1 Fx.2.1 dX9_told_0 rfl (lv_at hl 1 rfl) ?_
  by_cases hc : a1 = (0 : Int32)
  · replace hf := ift hc hf
    refine lv_tableIn (tgt := 36) Fx.1 Fx.2.1 dX9_told_1 (by rw [hc]; decide) (by rw [hc]; decide) (by rw [hc]; rfl) (by decide) ?_
    refine lv_aload_n Fx.1 Fx.2.1 dX9_told_36 rfl (lv_at hl 0 rfl) ?_
    refine gg_FH_instrument Fx hC wd_202 dX9_told_37 ?_
    refine gg_In_strings Fx hC wd_29 dX9_told_40 ?_
    obtain rfl := Option.some.inj hf
    exact hret _ _ _ _ dX9_told_43 hC
  replace hf := iff_ hc hf
  have hne0 := lv_neT (a := 0) hc (by decide)
  by_cases hc : a1 = (1 : Int32)
  · replace hf := ift hc hf
    refine lv_tableIn (tgt := 44) Fx.1 Fx.2.1 dX9_told_1 (by rw [hc]; decide) (by rw [hc]; decide) (by rw [hc]; rfl) (by decide) ?_
    refine lv_aload_n Fx.1 Fx.2.1 dX9_told_44 rfl (lv_at hl 0 rfl) ?_
    refine gg_FH_instrument Fx hC wd_202 dX9_told_45 ?_
    refine gg_In_lastFret Fx hC wd_33 dX9_told_48 ?_
    obtain rfl := Option.some.inj hf
    exact hret _ _ _ _ dX9_told_51 hC
  replace hf := iff_ hc hf
  have hne1 := lv_neT (a := 1) hc (by decide)
  by_cases hc : a1 = (2 : Int32)
  · replace hf := ift hc hf
    refine lv_tableIn (tgt := 52) Fx.1 Fx.2.1 dX9_told_1 (by rw [hc]; decide) (by rw [hc]; decide) (by rw [hc]; rfl) (by decide) ?_
    refine lv_aload_n Fx.1 Fx.2.1 dX9_told_52 rfl (lv_at hl 0 rfl) ?_
    refine gg_FH_instrument Fx hC wd_202 dX9_told_53 ?_
    refine gg_In_capoFret Fx hC wd_38 dX9_told_56 ?_
    obtain rfl := Option.some.inj hf
    exact hret _ _ _ _ dX9_told_59 hC
  replace hf := iff_ hc hf
  have hne2 := lv_neT (a := 2) hc (by decide)
  by_cases hc : a1 = (3 : Int32)
  · replace hf := ift hc hf
    refine lv_tableIn (tgt := 60) Fx.1 Fx.2.1 dX9_told_1 (by rw [hc]; decide) (by rw [hc]; decide) (by rw [hc]; rfl) (by decide) ?_
    refine lv_aload_n Fx.1 Fx.2.1 dX9_told_60 rfl (lv_at hl 0 rfl) ?_
    refine gg_FH_tune Fx hC wd_204 dX9_told_61 ?_
    refine gg_Tu_events Fx hC wd_59 dX9_told_64 ?_
    obtain rfl := Option.some.inj hf
    exact hret _ _ _ _ dX9_told_67 hC
  replace hf := iff_ hc hf
  have hne3 := lv_neT (a := 3) hc (by decide)
  by_cases hc : a1 = (4 : Int32)
  · replace hf := ift hc hf
    refine lv_tableIn (tgt := 68) Fx.1 Fx.2.1 dX9_told_1 (by rw [hc]; decide) (by rw [hc]; decide) (by rw [hc]; rfl) (by decide) ?_
    refine lv_aload_n Fx.1 Fx.2.1 dX9_told_68 rfl (lv_at hl 0 rfl) ?_
    refine gg_FH_signs Fx hC wd_208 dX9_told_69 ?_
    refine gg_Ta_size Fx hC wd_164 dX9_told_72 ?_
    obtain rfl := Option.some.inj hf
    exact hret _ _ _ _ dX9_told_75 hC
  replace hf := iff_ hc hf
  have hne4 := lv_neT (a := 4) hc (by decide)
  refine lv_tableOut (tgt := 76) Fx.1 Fx.2.1 dX9_told_1 (by omega) (by decide) ?_
  refine lv_bipush (v := (-2 : Int32)) Fx.1 Fx.2.1 dX9_told_76 (by decide) ?_
  obtain rfl := Option.some.inj hf
  exact hret _ _ _ _ dX9_told_78 hC
/-! FretHands.at(II)I -/
abbrev rm_FH_at : Room := { frames := 3, cells := 0, slots := 0, locals := 65 }
theorem hd_FH_at : yX9_at.cls = RX9 ∧ yX9_at.cls ≠ "java/lang/invoke/MethodHandle" ∧ yX9_at.cls ≠ "java/lang/invoke/VarHandle" ∧ (parseMethodDescriptor yX9_at.desc).map (fun d => d.parameters.length) = some 2 := by decide +kernel
noncomputable def p_FH_at (a1 : Int32) (a2 : Int32) (g : sG) (f : sF) : Option (Int32) := Option.bind (p_Tu_hasEvent a1 g f) (fun u1 => (if u1 = 0 then some (-3 : Int32) else Option.bind (p_Tu_pitchOf a1 a2 g f) (fun u2 => some u2)))
set_option maxRecDepth 100000 in
set_option maxHeartbeats 4000000 in
theorem k_FH_at {l : Launch} {D : va_G} {ad : Nat → Nat} {cy : Nat → ClassId} {a1 : Int32} {a2 : Int32} {r : Int32} {g : sG} {f : sF} (hf : p_FH_at a1 a2 g f = some r) : mMi l yX9_at (Cond.code yX9_at cX9_at 3 (some .int) :: wU) rm_FH_at D (cT cy) (cW ad cy) [.ref (ad 0), .int a1, .int a2] g f (r, g, f) := by
  refine mk_i (by decide) rfl (Nat.le_of_ble_eq_true rfl) ?_
  intro p e s m below meth c Q A H0 Fx hret ls H locs hl hC
  replace hl : lv_has ls 3 [(0, .ref (ad 0)), (1, .int a1), (2, .int a2)] := hl
  unfold p_FH_at at hf
  refine lv_aload_n Fx.1 Fx.2.1 dX9_at_0 rfl (lv_at hl 0 rfl) ?_
  refine gg_FH_tune Fx hC wd_204 dX9_at_1 ?_
  refine lv_iload_n Fx.1 Fx.2.1 dX9_at_4 rfl (lv_at hl 1 rfl) ?_
  obtain ⟨u1, hu1, hf⟩ := bd_e hf
  refine ca_i (As := [.int a1]) (rest := []) Fx hC (k_Tu_hasEvent hu1) (cVU 1 Fx.2.2.2.2 wd_292 wd_276 wd_277 wd_3 wd_278 rfl rfl hd_Tu_hasEvent ⟨Nat.le_of_ble_eq_true rfl, Nat.le_of_ble_eq_true rfl⟩) 4 rfl rfl rfl hl.1 rfl (Nat.le_of_ble_eq_true rfl) dX9_at_5 (fun H locs hC => ?_)
  refine lv_if_eq (tgt := 23) Fx.1 Fx.2.1 dX9_at_8 (by decide) (fun hc => ?_) (fun hc => ?_)
  · replace hf := ift hc hf
    refine lv_bipush (v := (-3 : Int32)) Fx.1 Fx.2.1 dX9_at_23 (by decide) ?_
    obtain rfl := Option.some.inj hf
    exact hret _ _ _ _ dX9_at_25 hC
  · replace hf := iff_ hc hf
    refine lv_aload_n Fx.1 Fx.2.1 dX9_at_11 rfl (lv_at hl 0 rfl) ?_
    refine gg_FH_tune Fx hC wd_204 dX9_at_12 ?_
    refine lv_iload_n Fx.1 Fx.2.1 dX9_at_15 rfl (lv_at hl 1 rfl) ?_
    refine lv_iload_n Fx.1 Fx.2.1 dX9_at_16 rfl (lv_at hl 2 rfl) ?_
    obtain ⟨u2, hu2, hf⟩ := bd_e hf
    refine ca_i (As := [.int a1, .int a2]) (rest := []) Fx hC (k_Tu_pitchOf hu2) (cVU 2 Fx.2.2.2.2 wd_318 wd_280 wd_281 wd_3 wd_282 rfl rfl hd_Tu_pitchOf ⟨Nat.le_of_ble_eq_true rfl, Nat.le_of_ble_eq_true rfl⟩) 4 rfl rfl rfl hl.1 rfl (Nat.le_of_ble_eq_true rfl) dX9_at_17 (fun H locs hC => ?_)
    refine lv_goto (tgt := 25) Fx.1 Fx.2.1 dX9_at_20 (by decide) ?_
    obtain rfl := Option.some.inj hf
    exact hret _ _ _ _ dX9_at_25 hC
/-! FretHands.bound(II)I -/
abbrev rm_FH_bound : Room := { frames := 3, cells := 0, slots := 0, locals := 65 }
theorem hd_FH_bound : yX9_bound.cls = RX9 ∧ yX9_bound.cls ≠ "java/lang/invoke/MethodHandle" ∧ yX9_bound.cls ≠ "java/lang/invoke/VarHandle" ∧ (parseMethodDescriptor yX9_bound.desc).map (fun d => d.parameters.length) = some 2 := by decide +kernel
noncomputable def p_FH_bound (a1 : Int32) (a2 : Int32) (g : sG) (f : sF) : Option (Int32) := Option.bind (p_Tu_hasEvent a1 g f) (fun u1 => (if u1 = 0 then some (-3 : Int32) else Option.bind (p_Tu_stringOf a1 a2 g f) (fun u2 => some u2)))
set_option maxRecDepth 100000 in
set_option maxHeartbeats 4000000 in
theorem k_FH_bound {l : Launch} {D : va_G} {ad : Nat → Nat} {cy : Nat → ClassId} {a1 : Int32} {a2 : Int32} {r : Int32} {g : sG} {f : sF} (hf : p_FH_bound a1 a2 g f = some r) : mMi l yX9_bound (Cond.code yX9_bound cX9_bound 3 (some .int) :: wU) rm_FH_bound D (cT cy) (cW ad cy) [.ref (ad 0), .int a1, .int a2] g f (r, g, f) := by
  refine mk_i (by decide) rfl (Nat.le_of_ble_eq_true rfl) ?_
  intro p e s m below meth c Q A H0 Fx hret ls H locs hl hC
  replace hl : lv_has ls 3 [(0, .ref (ad 0)), (1, .int a1), (2, .int a2)] := hl
  unfold p_FH_bound at hf
  refine lv_aload_n Fx.1 Fx.2.1 dX9_bound_0 rfl (lv_at hl 0 rfl) ?_
  refine gg_FH_tune Fx hC wd_204 dX9_bound_1 ?_
  refine lv_iload_n Fx.1 Fx.2.1 dX9_bound_4 rfl (lv_at hl 1 rfl) ?_
  obtain ⟨u1, hu1, hf⟩ := bd_e hf
  refine ca_i (As := [.int a1]) (rest := []) Fx hC (k_Tu_hasEvent hu1) (cVU 1 Fx.2.2.2.2 wd_292 wd_276 wd_277 wd_3 wd_278 rfl rfl hd_Tu_hasEvent ⟨Nat.le_of_ble_eq_true rfl, Nat.le_of_ble_eq_true rfl⟩) 4 rfl rfl rfl hl.1 rfl (Nat.le_of_ble_eq_true rfl) dX9_bound_5 (fun H locs hC => ?_)
  refine lv_if_eq (tgt := 23) Fx.1 Fx.2.1 dX9_bound_8 (by decide) (fun hc => ?_) (fun hc => ?_)
  · replace hf := ift hc hf
    refine lv_bipush (v := (-3 : Int32)) Fx.1 Fx.2.1 dX9_bound_23 (by decide) ?_
    obtain rfl := Option.some.inj hf
    exact hret _ _ _ _ dX9_bound_25 hC
  · replace hf := iff_ hc hf
    refine lv_aload_n Fx.1 Fx.2.1 dX9_bound_11 rfl (lv_at hl 0 rfl) ?_
    refine gg_FH_tune Fx hC wd_204 dX9_bound_12 ?_
    refine lv_iload_n Fx.1 Fx.2.1 dX9_bound_15 rfl (lv_at hl 1 rfl) ?_
    refine lv_iload_n Fx.1 Fx.2.1 dX9_bound_16 rfl (lv_at hl 2 rfl) ?_
    obtain ⟨u2, hu2, hf⟩ := bd_e hf
    refine ca_i (As := [.int a1, .int a2]) (rest := []) Fx hC (k_Tu_stringOf hu2) (cVU 2 Fx.2.2.2.2 wd_298 wd_299 wd_300 wd_3 wd_301 rfl rfl hd_Tu_stringOf ⟨Nat.le_of_ble_eq_true rfl, Nat.le_of_ble_eq_true rfl⟩) 4 rfl rfl rfl hl.1 rfl (Nat.le_of_ble_eq_true rfl) dX9_bound_17 (fun H locs hC => ?_)
    refine lv_goto (tgt := 25) Fx.1 Fx.2.1 dX9_bound_20 (by decide) ?_
    obtain rfl := Option.some.inj hf
    exact hret _ _ _ _ dX9_bound_25 hC
/-! FretHands$Instrument.fretOf(II)I -/
abbrev rm_In_fretOf : Room := { frames := 1, cells := 0, slots := 0, locals := 21 }
theorem hd_In_fretOf : yX1_fretOf.cls = RX1 ∧ yX1_fretOf.cls ≠ "java/lang/invoke/MethodHandle" ∧ yX1_fretOf.cls ≠ "java/lang/invoke/VarHandle" ∧ (parseMethodDescriptor yX1_fretOf.desc).map (fun d => d.parameters.length) = some 2 := by decide +kernel
noncomputable def p_In_fretOf (a1 : Int32) (a2 : Int32) (g : sG) (f : sF) : Option (Int32) := Option.bind (p_In_hasString a1 g f) (fun u1 => (if u1 = 0 then some (-1 : Int32) else (if a1 < 0 ∨ 7 ≤ a1.toNatClampNeg then none else lt_ (a2 - (f 1 a1.toNatClampNeg)) (fun v3 => (if v3 < (g 2) then some (-1 : Int32) else (if (g 1) < v3 then some (-1 : Int32) else some v3))))))
set_option maxRecDepth 100000 in
set_option maxHeartbeats 4000000 in
theorem k_In_fretOf {l : Launch} {D : va_G} {ad : Nat → Nat} {cy : Nat → ClassId} {a1 : Int32} {a2 : Int32} {r : Int32} {g : sG} {f : sF} (hf : p_In_fretOf a1 a2 g f = some r) : mMi l yX1_fretOf (Cond.code yX1_fretOf cX1_fretOf 4 (some .int) :: wU) rm_In_fretOf D (cT cy) (cW ad cy) [.ref (ad 2), .int a1, .int a2] g f (r, g, f) := by
  refine mk_i (by decide) rfl (Nat.le_of_ble_eq_true rfl) ?_
  intro p e s m below meth c Q A H0 Fx hret ls H locs hl hC
  replace hl : lv_has ls 4 [(0, .ref (ad 2)), (1, .int a1), (2, .int a2)] := hl
  unfold p_In_fretOf at hf
  refine lv_aload_n Fx.1 Fx.2.1 dX1_fretOf_0 rfl (lv_at hl 0 rfl) ?_
  refine lv_iload_n Fx.1 Fx.2.1 dX1_fretOf_1 rfl (lv_at hl 1 rfl) ?_
  obtain ⟨u1, hu1, hf⟩ := bd_e hf
  refine ca_i (As := [.int a1]) (rest := []) Fx hC (k_In_hasString hu1) (cVU 1 Fx.2.2.2.2 wd_331 wd_295 wd_296 wd_2 wd_297 rfl rfl hd_In_hasString ⟨Nat.le_of_ble_eq_true rfl, Nat.le_of_ble_eq_true rfl⟩) 2 rfl rfl rfl hl.1 rfl (Nat.le_of_ble_eq_true rfl) dX1_fretOf_2 (fun H locs hC => ?_)
  refine lv_if_ne (tgt := 10) Fx.1 Fx.2.1 dX1_fretOf_5 (by decide) (fun hc => ?_) (fun hc => ?_)
  · replace hf := iff_ hc hf
    refine lv_iload_n Fx.1 Fx.2.1 dX1_fretOf_10 rfl (lv_at hl 2 rfl) ?_
    refine lv_aload_n Fx.1 Fx.2.1 dX1_fretOf_11 rfl (lv_at hl 0 rfl) ?_
    refine gg_In_openPitches Fx hC wd_26 dX1_fretOf_12 ?_
    refine lv_iload_n Fx.1 Fx.2.1 dX1_fretOf_15 rfl (lv_at hl 1 rfl) ?_
    obtain ⟨hi2, hf⟩ := gd_e hf
    refine ld_In_openPitches Fx hC hi2 dX1_fretOf_16 ?_
    refine lv_isub Fx.1 Fx.2.1 dX1_fretOf_17 ?_
    obtain ⟨v3, ev3, hf⟩ := lt_e hf
    refine tpi ev3 ?_
    refine lv_istore_n (lv' := [(3, .int v3), (0, .ref (ad 2)), (1, .int a1), (2, .int a2)]) Fx.1 Fx.2.1 dX1_fretOf_18 rfl hl (by decide) rfl (fun ls hl => ?_)
    refine lv_iload_n Fx.1 Fx.2.1 dX1_fretOf_19 rfl (lv_at hl 0 rfl) ?_
    refine lv_aload_n Fx.1 Fx.2.1 dX1_fretOf_20 rfl (lv_at hl 1 rfl) ?_
    refine gg_In_capoFret Fx hC wd_37 dX1_fretOf_21 ?_
    refine lv_icmp_lt (tgt := 39) Fx.1 Fx.2.1 dX1_fretOf_24 (by decide) (fun hc => ?_) (fun hc => ?_)
    · replace hf := ift hc hf
      refine lv_iconst (v := (-1 : Int32)) Fx.1 Fx.2.1 dX1_fretOf_39 (by decide) ?_
      obtain rfl := Option.some.inj hf
      exact hret _ _ _ _ dX1_fretOf_40 hC
    · replace hf := iff_ hc hf
      refine lv_iload_n Fx.1 Fx.2.1 dX1_fretOf_27 rfl (lv_at hl 0 rfl) ?_
      refine lv_aload_n Fx.1 Fx.2.1 dX1_fretOf_28 rfl (lv_at hl 1 rfl) ?_
      refine gg_In_lastFret Fx hC wd_32 dX1_fretOf_29 ?_
      refine lv_icmp_gt (tgt := 39) Fx.1 Fx.2.1 dX1_fretOf_32 (by decide) (fun hc => ?_) (fun hc => ?_)
      · replace hf := ift hc hf
        refine lv_iconst (v := (-1 : Int32)) Fx.1 Fx.2.1 dX1_fretOf_39 (by decide) ?_
        obtain rfl := Option.some.inj hf
        exact hret _ _ _ _ dX1_fretOf_40 hC
      · replace hf := iff_ hc hf
        refine lv_iload_n Fx.1 Fx.2.1 dX1_fretOf_35 rfl (lv_at hl 0 rfl) ?_
        refine lv_goto (tgt := 40) Fx.1 Fx.2.1 dX1_fretOf_36 (by decide) ?_
        obtain rfl := Option.some.inj hf
        exact hret _ _ _ _ dX1_fretOf_40 hC
  · replace hf := ift hc hf
    refine lv_iconst (v := (-1 : Int32)) Fx.1 Fx.2.1 dX1_fretOf_8 (by decide) ?_
    obtain rfl := Option.some.inj hf
    exact hret _ _ _ _ dX1_fretOf_9 hC
/-! FretHands.fret(II)I -/
abbrev rm_FH_fret : Room := { frames := 2, cells := 0, slots := 0, locals := 44 }
theorem hd_FH_fret : yX9_fret.cls = RX9 ∧ yX9_fret.cls ≠ "java/lang/invoke/MethodHandle" ∧ yX9_fret.cls ≠ "java/lang/invoke/VarHandle" ∧ (parseMethodDescriptor yX9_fret.desc).map (fun d => d.parameters.length) = some 2 := by decide +kernel
noncomputable def p_FH_fret (a1 : Int32) (a2 : Int32) (g : sG) (f : sF) : Option (Int32) := Option.bind (p_In_hasString a1 g f) (fun u1 => (if u1 = 0 then some (-2 : Int32) else Option.bind (p_In_fretOf a1 a2 g f) (fun u2 => some u2)))
set_option maxRecDepth 100000 in
set_option maxHeartbeats 4000000 in
theorem k_FH_fret {l : Launch} {D : va_G} {ad : Nat → Nat} {cy : Nat → ClassId} {a1 : Int32} {a2 : Int32} {r : Int32} {g : sG} {f : sF} (hf : p_FH_fret a1 a2 g f = some r) : mMi l yX9_fret (Cond.code yX9_fret cX9_fret 3 (some .int) :: wU) rm_FH_fret D (cT cy) (cW ad cy) [.ref (ad 0), .int a1, .int a2] g f (r, g, f) := by
  refine mk_i (by decide) rfl (Nat.le_of_ble_eq_true rfl) ?_
  intro p e s m below meth c Q A H0 Fx hret ls H locs hl hC
  replace hl : lv_has ls 3 [(0, .ref (ad 0)), (1, .int a1), (2, .int a2)] := hl
  unfold p_FH_fret at hf
  refine lv_aload_n Fx.1 Fx.2.1 dX9_fret_0 rfl (lv_at hl 0 rfl) ?_
  refine gg_FH_instrument Fx hC wd_202 dX9_fret_1 ?_
  refine lv_iload_n Fx.1 Fx.2.1 dX9_fret_4 rfl (lv_at hl 1 rfl) ?_
  obtain ⟨u1, hu1, hf⟩ := bd_e hf
  refine ca_i (As := [.int a1]) (rest := []) Fx hC (k_In_hasString hu1) (cVU 1 Fx.2.2.2.2 wd_294 wd_295 wd_296 wd_2 wd_297 rfl rfl hd_In_hasString ⟨Nat.le_of_ble_eq_true rfl, Nat.le_of_ble_eq_true rfl⟩) 2 rfl rfl rfl hl.1 rfl (Nat.le_of_ble_eq_true rfl) dX9_fret_5 (fun H locs hC => ?_)
  refine lv_if_eq (tgt := 23) Fx.1 Fx.2.1 dX9_fret_8 (by decide) (fun hc => ?_) (fun hc => ?_)
  · replace hf := ift hc hf
    refine lv_bipush (v := (-2 : Int32)) Fx.1 Fx.2.1 dX9_fret_23 (by decide) ?_
    obtain rfl := Option.some.inj hf
    exact hret _ _ _ _ dX9_fret_25 hC
  · replace hf := iff_ hc hf
    refine lv_aload_n Fx.1 Fx.2.1 dX9_fret_11 rfl (lv_at hl 0 rfl) ?_
    refine gg_FH_instrument Fx hC wd_202 dX9_fret_12 ?_
    refine lv_iload_n Fx.1 Fx.2.1 dX9_fret_15 rfl (lv_at hl 1 rfl) ?_
    refine lv_iload_n Fx.1 Fx.2.1 dX9_fret_16 rfl (lv_at hl 2 rfl) ?_
    obtain ⟨u2, hu2, hf⟩ := bd_e hf
    refine ca_i (As := [.int a1, .int a2]) (rest := []) Fx hC (k_In_fretOf hu2) (cVU 2 Fx.2.2.2.2 wd_327 wd_328 wd_329 wd_2 wd_330 rfl rfl hd_In_fretOf ⟨Nat.le_of_ble_eq_true rfl, Nat.le_of_ble_eq_true rfl⟩) 2 rfl rfl rfl hl.1 rfl (Nat.le_of_ble_eq_true rfl) dX9_fret_17 (fun H locs hC => ?_)
    refine lv_goto (tgt := 25) Fx.1 Fx.2.1 dX9_fret_20 (by decide) ?_
    obtain rfl := Option.some.inj hf
    exact hret _ _ _ _ dX9_fret_25 hC
/-! FretHands$GripFinder.pitchesAt(I)I -/
abbrev rm_GF_pitchesAt : Room := { frames := 0, cells := 0, slots := 0, locals := 0 }
theorem hd_GF_pitchesAt : yX0_pitchesAt.cls = RX0 ∧ yX0_pitchesAt.cls ≠ "java/lang/invoke/MethodHandle" ∧ yX0_pitchesAt.cls ≠ "java/lang/invoke/VarHandle" ∧ (parseMethodDescriptor yX0_pitchesAt.desc).map (fun d => d.parameters.length) = some 1 := by decide +kernel
noncomputable def p_GF_pitchesAt_L4 (K4 : (Int32 × Int32 × Int32) → Option (Int32)) (x1 : Int32) (x2 : Int32) (x3 : Int32) (g : sG) (f : sF) : Option (Int32) := (if (g 5) ≤ x3 then some x2 else (if (4 : Int32) ≤ x3 then some x2 else (if x3 < 0 ∨ 4 ≤ x3.toNatClampNeg then none else (if (f 16 x3.toNatClampNeg) = x1 then lt_ (x2 + (1 : Int32)) (fun v3 => lt_ (x3 + (1 : Int32)) (fun v4 => K4 (x1, v3, v4))) else lt_ (x3 + (1 : Int32)) (fun v2 => K4 (x1, x2, v2))))))
set_option maxRecDepth 100000 in
set_option maxHeartbeats 4000000 in
theorem s_GF_pitchesAt_L4 {K4 : (Int32 × Int32 × Int32) → Option (Int32)} {p : Program} {l : Launch} {e : Env} {s : State} {m : MethodId} {args : Array Value} {below : List Frame} {meth : Method} {c : Code} {Q : State → Prop} {D : va_G} {ad : Nat → Nat} {cy : Nat → ClassId} {A : Nat → Prop} {H0 : Heap} {r : Int32} {g : sG} {f : sF} (Fx : CallFix p m c cX0_pitchesAt 4 s args (Cond.code yX0_pitchesAt cX0_pitchesAt 4 (some .int) :: wU) RX0) (hret : mRi p l e rm_GF_pitchesAt s m args below meth c Q D (cT cy) (cW ad cy) A H0 cX0_pitchesAt (r, g, f)) (hK4 : ∀ (z : Int32 × Int32 × Int32), K4 z = some r → ∀ (ls : Array Slot) (H : Heap) (locs : List Loc), lv_has ls 4 [(0, .ref (ad 13)), (1, .int z.1), (2, .int z.2.1), (3, .int z.2.2)] → wH D (cT cy) (cW ad cy) A H0 s g f H locs → W p l e rm_GF_pitchesAt s m args below meth c H locs 0 0 Q (F0 m 4 ls [])) (x1 : Int32) (x2 : Int32) (x3 : Int32) (hf : p_GF_pitchesAt_L4 K4 x1 x2 x3 g f = some r) : ∀ (ls : Array Slot) (H : Heap) (locs : List Loc), lv_has ls 4 [(0, .ref (ad 13)), (1, .int x1), (2, .int x2), (3, .int x3)] → wH D (cT cy) (cW ad cy) A H0 s g f H locs → W p l e rm_GF_pitchesAt s m args below meth c H locs 0 0 Q (F0 m 4 ls []) := by
  intro ls H locs hl hC
  unfold p_GF_pitchesAt_L4 at hf
  refine lv_iload_n Fx.1 Fx.2.1 dX0_pitchesAt_4 rfl (lv_at hl 3 rfl) ?_
  refine lv_aload_n Fx.1 Fx.2.1 dX0_pitchesAt_5 rfl (lv_at hl 0 rfl) ?_
  refine gg_GF_size Fx hC wd_107 dX0_pitchesAt_6 ?_
  refine lv_icmp_ge (tgt := 36) Fx.1 Fx.2.1 dX0_pitchesAt_9 (by decide) (fun hc => ?_) (fun hc => ?_)
  · replace hf := ift hc hf
    refine lv_iload_n Fx.1 Fx.2.1 dX0_pitchesAt_36 rfl (lv_at hl 2 rfl) ?_
    obtain rfl := Option.some.inj hf
    exact hret _ _ _ _ dX0_pitchesAt_37 hC
  · replace hf := iff_ hc hf
    refine lv_iload_n Fx.1 Fx.2.1 dX0_pitchesAt_12 rfl (lv_at hl 3 rfl) ?_
    refine lv_iconst (v := (4 : Int32)) Fx.1 Fx.2.1 dX0_pitchesAt_13 (by decide) ?_
    refine lv_icmp_ge (tgt := 36) Fx.1 Fx.2.1 dX0_pitchesAt_14 (by decide) (fun hc => ?_) (fun hc => ?_)
    · replace hf := ift hc hf
      refine lv_iload_n Fx.1 Fx.2.1 dX0_pitchesAt_36 rfl (lv_at hl 2 rfl) ?_
      obtain rfl := Option.some.inj hf
      exact hret _ _ _ _ dX0_pitchesAt_37 hC
    · replace hf := iff_ hc hf
      refine lv_aload_n Fx.1 Fx.2.1 dX0_pitchesAt_17 rfl (lv_at hl 0 rfl) ?_
      refine gg_GF_frets Fx hC wd_106 dX0_pitchesAt_18 ?_
      refine lv_iload_n Fx.1 Fx.2.1 dX0_pitchesAt_21 rfl (lv_at hl 3 rfl) ?_
      obtain ⟨hi1, hf⟩ := gd_e hf
      refine ld_GF_frets Fx hC hi1 dX0_pitchesAt_22 ?_
      refine lv_iload_n Fx.1 Fx.2.1 dX0_pitchesAt_23 rfl (lv_at hl 1 rfl) ?_
      refine lv_icmp_ne (tgt := 30) Fx.1 Fx.2.1 dX0_pitchesAt_24 (by decide) (fun hc => ?_) (fun hc => ?_)
      · replace hf := iff_ hc hf
        obtain ⟨v2, ev2, hf⟩ := lt_e hf
        refine lv_iinc (v := v2) (lv' := [(3, .int v2), (0, .ref (ad 13)), (1, .int x1), (2, .int x2)]) Fx.1 Fx.2.1 dX0_pitchesAt_30 hl (k := 3) rfl ev2.symm (by decide) rfl (fun ls hl => ?_)
        refine lv_goto (tgt := 4) Fx.1 Fx.2.1 dX0_pitchesAt_33 (by decide) ?_
        exact hK4 _ hf _ _ _ (lv_sub hl [1, 2, 3, 0] rfl) hC
      · replace hf := ift hc hf
        obtain ⟨v3, ev3, hf⟩ := lt_e hf
        refine lv_iinc (v := v3) (lv' := [(2, .int v3), (0, .ref (ad 13)), (1, .int x1), (3, .int x3)]) Fx.1 Fx.2.1 dX0_pitchesAt_27 hl (k := 2) rfl ev3.symm (by decide) rfl (fun ls hl => ?_)
        obtain ⟨v4, ev4, hf⟩ := lt_e hf
        refine lv_iinc (v := v4) (lv' := [(3, .int v4), (2, .int v3), (0, .ref (ad 13)), (1, .int x1)]) Fx.1 Fx.2.1 dX0_pitchesAt_30 hl (k := 3) rfl ev4.symm (by decide) rfl (fun ls hl => ?_)
        refine lv_goto (tgt := 4) Fx.1 Fx.2.1 dX0_pitchesAt_33 (by decide) ?_
        exact hK4 _ hf _ _ _ (lv_sub hl [2, 3, 1, 0] rfl) hC
set_option maxRecDepth 100000 in
set_option maxHeartbeats 4000000 in
theorem t_GF_pitchesAt_L4 {p : Program} {l : Launch} {e : Env} {s : State} {m : MethodId} {args : Array Value} {below : List Frame} {meth : Method} {c : Code} {Q : State → Prop} {D : va_G} {ad : Nat → Nat} {cy : Nat → ClassId} {A : Nat → Prop} {H0 : Heap} {r : Int32} {g : sG} {f : sF} (Fx : CallFix p m c cX0_pitchesAt 4 s args (Cond.code yX0_pitchesAt cX0_pitchesAt 4 (some .int) :: wU) RX0) (hret : mRi p l e rm_GF_pitchesAt s m args below meth c Q D (cT cy) (cW ad cy) A H0 cX0_pitchesAt (r, g, f))  (n : Nat) (z : Int32 × Int32 × Int32) (hz : itr (fun K z => p_GF_pitchesAt_L4 K z.1 z.2.1 z.2.2 g f) n z = some r) : ∀ (ls : Array Slot) (H : Heap) (locs : List Loc), lv_has ls 4 [(0, .ref (ad 13)), (1, .int z.1), (2, .int z.2.1), (3, .int z.2.2)] → wH D (cT cy) (cW ad cy) A H0 s g f H locs → W p l e rm_GF_pitchesAt s m args below meth c H locs 0 0 Q (F0 m 4 ls []) :=
  itr_all (B := fun K z => p_GF_pitchesAt_L4 K z.1 z.2.1 z.2.2 g f) (r := r) (fun z => ∀ (ls : Array Slot) (H : Heap) (locs : List Loc), lv_has ls 4 [(0, .ref (ad 13)), (1, .int z.1), (2, .int z.2.1), (3, .int z.2.2)] → wH D (cT cy) (cW ad cy) A H0 s g f H locs → W p l e rm_GF_pitchesAt s m args below meth c H locs 0 0 Q (F0 m 4 ls [])) (fun K hK z h => s_GF_pitchesAt_L4 (K4 := K) Fx hret hK z.1 z.2.1 z.2.2 h) n z hz
noncomputable def p_GF_pitchesAt (a1 : Int32) (g : sG) (f : sF) : Option (Int32) := itr (fun K z => p_GF_pitchesAt_L4 K z.1 z.2.1 z.2.2 g f) FUEL (a1, (0 : Int32), (0 : Int32))
set_option maxRecDepth 100000 in
set_option maxHeartbeats 4000000 in
theorem k_GF_pitchesAt {l : Launch} {D : va_G} {ad : Nat → Nat} {cy : Nat → ClassId} {a1 : Int32} {r : Int32} {g : sG} {f : sF} (hf : p_GF_pitchesAt a1 g f = some r) : mMi l yX0_pitchesAt (Cond.code yX0_pitchesAt cX0_pitchesAt 4 (some .int) :: wU) rm_GF_pitchesAt D (cT cy) (cW ad cy) [.ref (ad 13), .int a1] g f (r, g, f) := by
  refine mk_i (by decide) rfl (Nat.le_of_ble_eq_true rfl) ?_
  intro p e s m below meth c Q A H0 Fx hret ls H locs hl hC
  replace hl : lv_has ls 4 [(0, .ref (ad 13)), (1, .int a1)] := hl
  unfold p_GF_pitchesAt at hf
  refine lv_iconst (v := (0 : Int32)) Fx.1 Fx.2.1 dX0_pitchesAt_0 (by decide) ?_
  refine lv_istore_n (lv' := [(2, .int (0 : Int32)), (0, .ref (ad 13)), (1, .int a1)]) Fx.1 Fx.2.1 dX0_pitchesAt_1 rfl hl (by decide) rfl (fun ls hl => ?_)
  refine lv_iconst (v := (0 : Int32)) Fx.1 Fx.2.1 dX0_pitchesAt_2 (by decide) ?_
  refine lv_istore_n (lv' := [(3, .int (0 : Int32)), (2, .int (0 : Int32)), (0, .ref (ad 13)), (1, .int a1)]) Fx.1 Fx.2.1 dX0_pitchesAt_3 rfl hl (by decide) rfl (fun ls hl => ?_)
  exact t_GF_pitchesAt_L4 Fx hret _ _ hf _ _ _ (lv_sub hl [2, 3, 1, 0] rfl) hC
/-! FretHands$GripFinder.tell(III)V -/
abbrev rm_GF_tell : Room := { frames := 0, cells := 0, slots := 0, locals := 0 }
theorem hd_GF_tell : yX0_tell.cls = RX0 ∧ yX0_tell.cls ≠ "java/lang/invoke/MethodHandle" ∧ yX0_tell.cls ≠ "java/lang/invoke/VarHandle" ∧ (parseMethodDescriptor yX0_tell.desc).map (fun d => d.parameters.length) = some 3 := by decide +kernel
noncomputable def p_GF_tell_J96 (x1 : Int32) (x2 : Int32) (x3 : Int32) (x4 : Int32) (g : sG) (f : sF) : Option (sG × sF) := (if x1 = (g 6) then (if x4 = (g 7) then lt_ (upd g 8 x2) (fun g1 => lt_ (upd g1 9 x3) (fun g2 => some (g2, f))) else some (g, f)) else some (g, f))
set_option maxRecDepth 100000 in
set_option maxHeartbeats 4000000 in
theorem s_GF_tell_J96 {p : Program} {l : Launch} {e : Env} {s : State} {m : MethodId} {args : Array Value} {below : List Frame} {meth : Method} {c : Code} {Q : State → Prop} {D : va_G} {ad : Nat → Nat} {cy : Nat → ClassId} {A : Nat → Prop} {H0 : Heap} {u : sG × sF} (Fx : CallFix p m c cX0_tell 5 s args (Cond.code yX0_tell cX0_tell 5 none :: wU) RX0) (hret : mRv p l e rm_GF_tell s m args below meth c Q D (cT cy) (cW ad cy) A H0 cX0_tell u)  (x1 : Int32) (x2 : Int32) (x3 : Int32) (x4 : Int32) (g : sG) (f : sF) (hf : p_GF_tell_J96 x1 x2 x3 x4 g f = some u) : ∀ (ls : Array Slot) (H : Heap) (locs : List Loc), lv_has ls 5 [(0, .ref (ad 13)), (1, .int x1), (2, .int x2), (3, .int x3), (4, .int x4)] → wH D (cT cy) (cW ad cy) A H0 s g f H locs → W p l e rm_GF_tell s m args below meth c H locs 0 0 Q (F0 m 96 ls []) := by
  intro ls H locs hl hC
  unfold p_GF_tell_J96 at hf
  refine lv_iload_n Fx.1 Fx.2.1 dX0_tell_96 rfl (lv_at hl 1 rfl) ?_
  refine lv_aload_n Fx.1 Fx.2.1 dX0_tell_97 rfl (lv_at hl 0 rfl) ?_
  refine gg_GF_wantedPosition Fx hC wd_108 dX0_tell_98 ?_
  refine lv_icmp_ne (tgt := 123) Fx.1 Fx.2.1 dX0_tell_101 (by decide) (fun hc => ?_) (fun hc => ?_)
  · replace hf := iff_ hc hf
    obtain rfl := Option.some.inj hf
    exact hret _ _ _ _ dX0_tell_123 hC
  · replace hf := ift hc hf
    refine lv_iload Fx.1 Fx.2.1 dX0_tell_104 (lv_at hl 4 rfl) ?_
    refine lv_aload_n Fx.1 Fx.2.1 dX0_tell_106 rfl (lv_at hl 0 rfl) ?_
    refine gg_GF_wantedPlace Fx hC wd_110 dX0_tell_107 ?_
    refine lv_icmp_ne (tgt := 123) Fx.1 Fx.2.1 dX0_tell_110 (by decide) (fun hc => ?_) (fun hc => ?_)
    · replace hf := iff_ hc hf
      obtain rfl := Option.some.inj hf
      exact hret _ _ _ _ dX0_tell_123 hC
    · replace hf := ift hc hf
      refine lv_aload_n Fx.1 Fx.2.1 dX0_tell_113 rfl (lv_at hl 0 rfl) ?_
      refine lv_iload_n Fx.1 Fx.2.1 dX0_tell_114 rfl (lv_at hl 2 rfl) ?_
      obtain ⟨g1, eg1, hf⟩ := lt_e hf
      refine gp_GF_wantedStrings Fx hC wd_111 eg1 dX0_tell_115 (fun H locs hC => ?_)
      refine lv_aload_n Fx.1 Fx.2.1 dX0_tell_118 rfl (lv_at hl 0 rfl) ?_
      refine lv_iload_n Fx.1 Fx.2.1 dX0_tell_119 rfl (lv_at hl 3 rfl) ?_
      obtain ⟨g2, eg2, hf⟩ := lt_e hf
      refine gp_GF_wantedCost Fx hC wd_113 eg2 dX0_tell_120 (fun H locs hC => ?_)
      obtain rfl := Option.some.inj hf
      exact hret _ _ _ _ dX0_tell_123 hC
noncomputable def p_GF_tell_J44 (x1 : Int32) (x2 : Int32) (x3 : Int32) (x4 : Int32) (g : sG) (f : sF) : Option (sG × sF) := (if x1 < 0 ∨ 25 ≤ x1.toNatClampNeg then none else lt_ (up2 f 10 x1.toNatClampNeg x3) (fun f2 => (if x1 < 0 ∨ 25 ≤ x1.toNatClampNeg then none else lt_ (up2 f2 11 x1.toNatClampNeg (1 : Int32)) (fun f4 => (if x1 < 0 ∨ 25 ≤ x1.toNatClampNeg then none else lt_ (up2 f4 13 x1.toNatClampNeg x4) (fun f6 => (if x1 < 0 ∨ 25 ≤ x1.toNatClampNeg then none else lt_ (up2 f6 12 x1.toNatClampNeg x2) (fun f8 => p_GF_tell_J96 x1 x2 x3 x4 g f8))))))))
set_option maxRecDepth 100000 in
set_option maxHeartbeats 4000000 in
theorem s_GF_tell_J44 {p : Program} {l : Launch} {e : Env} {s : State} {m : MethodId} {args : Array Value} {below : List Frame} {meth : Method} {c : Code} {Q : State → Prop} {D : va_G} {ad : Nat → Nat} {cy : Nat → ClassId} {A : Nat → Prop} {H0 : Heap} {u : sG × sF} (Fx : CallFix p m c cX0_tell 5 s args (Cond.code yX0_tell cX0_tell 5 none :: wU) RX0) (hret : mRv p l e rm_GF_tell s m args below meth c Q D (cT cy) (cW ad cy) A H0 cX0_tell u)  (x1 : Int32) (x2 : Int32) (x3 : Int32) (x4 : Int32) (g : sG) (f : sF) (hf : p_GF_tell_J44 x1 x2 x3 x4 g f = some u) : ∀ (ls : Array Slot) (H : Heap) (locs : List Loc), lv_has ls 5 [(0, .ref (ad 13)), (1, .int x1), (2, .int x2), (3, .int x3), (4, .int x4)] → wH D (cT cy) (cW ad cy) A H0 s g f H locs → W p l e rm_GF_tell s m args below meth c H locs 0 0 Q (F0 m 44 ls []) := by
  intro ls H locs hl hC
  unfold p_GF_tell_J44 at hf
  refine lv_aload_n Fx.1 Fx.2.1 dX0_tell_44 rfl (lv_at hl 0 rfl) ?_
  refine gg_GF_leastCosts Fx hC wd_96 dX0_tell_45 ?_
  refine lv_iload_n Fx.1 Fx.2.1 dX0_tell_48 rfl (lv_at hl 1 rfl) ?_
  refine lv_iload_n Fx.1 Fx.2.1 dX0_tell_49 rfl (lv_at hl 3 rfl) ?_
  obtain ⟨hi1, hf⟩ := gd_e hf
  obtain ⟨f2, ef2, hf⟩ := lt_e hf
  refine st_GF_leastCosts Fx hC hi1 ef2 dX0_tell_50 (fun H locs hC => ?_)
  refine lv_aload_n Fx.1 Fx.2.1 dX0_tell_51 rfl (lv_at hl 0 rfl) ?_
  refine gg_GF_leastCounts Fx hC wd_99 dX0_tell_52 ?_
  refine lv_iload_n Fx.1 Fx.2.1 dX0_tell_55 rfl (lv_at hl 1 rfl) ?_
  refine lv_iconst (v := (1 : Int32)) Fx.1 Fx.2.1 dX0_tell_56 (by decide) ?_
  obtain ⟨hi3, hf⟩ := gd_e hf
  obtain ⟨f4, ef4, hf⟩ := lt_e hf
  refine st_GF_leastCounts Fx hC hi3 ef4 dX0_tell_57 (fun H locs hC => ?_)
  refine lv_aload_n Fx.1 Fx.2.1 dX0_tell_58 rfl (lv_at hl 0 rfl) ?_
  refine gg_GF_firstPlaces Fx hC wd_103 dX0_tell_59 ?_
  refine lv_iload_n Fx.1 Fx.2.1 dX0_tell_62 rfl (lv_at hl 1 rfl) ?_
  refine lv_iload Fx.1 Fx.2.1 dX0_tell_63 (lv_at hl 4 rfl) ?_
  obtain ⟨hi5, hf⟩ := gd_e hf
  obtain ⟨f6, ef6, hf⟩ := lt_e hf
  refine st_GF_firstPlaces Fx hC hi5 ef6 dX0_tell_65 (fun H locs hC => ?_)
  refine lv_aload_n Fx.1 Fx.2.1 dX0_tell_66 rfl (lv_at hl 0 rfl) ?_
  refine gg_GF_firstStrings Fx hC wd_101 dX0_tell_67 ?_
  refine lv_iload_n Fx.1 Fx.2.1 dX0_tell_70 rfl (lv_at hl 1 rfl) ?_
  refine lv_iload_n Fx.1 Fx.2.1 dX0_tell_71 rfl (lv_at hl 2 rfl) ?_
  obtain ⟨hi7, hf⟩ := gd_e hf
  obtain ⟨f8, ef8, hf⟩ := lt_e hf
  refine st_GF_firstStrings Fx hC hi7 ef8 dX0_tell_72 (fun H locs hC => ?_)
  refine lv_goto (tgt := 96) Fx.1 Fx.2.1 dX0_tell_73 (by decide) ?_
  exact s_GF_tell_J96 Fx hret _ _ _ _ _ _  hf _ _ _ (lv_sub hl [0, 1, 2, 3, 4] rfl) hC
noncomputable def p_GF_tell (a1 : Int32) (a2 : Int32) (a3 : Int32) (g : sG) (f : sF) : Option (sG × sF) := (if a1 < 0 then some (g, f) else (if a1 < (25 : Int32) then (if a1 < 0 ∨ 25 ≤ a1.toNatClampNeg then none else lt_ (f 9 a1.toNatClampNeg) (fun v2 => (if a1 < 0 ∨ 25 ≤ a1.toNatClampNeg then none else (if a1 < 0 ∨ 25 ≤ a1.toNatClampNeg then none else lt_ (up2 f 9 a1.toNatClampNeg ((f 9 a1.toNatClampNeg) + (1 : Int32))) (fun f5 => (if v2 = 0 then p_GF_tell_J44 a1 a2 a3 v2 g f5 else (if a1 < 0 ∨ 25 ≤ a1.toNatClampNeg then none else (if (f5 10 a1.toNatClampNeg) ≤ a3 then (if a1 < 0 ∨ 25 ≤ a1.toNatClampNeg then none else (if a3 = (f5 10 a1.toNatClampNeg) then (if a1 < 0 ∨ 25 ≤ a1.toNatClampNeg then none else (if a1 < 0 ∨ 25 ≤ a1.toNatClampNeg then none else lt_ (up2 f5 11 a1.toNatClampNeg ((f5 11 a1.toNatClampNeg) + (1 : Int32))) (fun f10 => p_GF_tell_J96 a1 a2 a3 v2 g f10))) else p_GF_tell_J96 a1 a2 a3 v2 g f5)) else p_GF_tell_J44 a1 a2 a3 v2 g f5)))))))) else some (g, f)))
set_option maxRecDepth 100000 in
set_option maxHeartbeats 4000000 in
theorem k_GF_tell {l : Launch} {D : va_G} {ad : Nat → Nat} {cy : Nat → ClassId} {a1 : Int32} {a2 : Int32} {a3 : Int32} {u : sG × sF} {g : sG} {f : sF} (hf : p_GF_tell a1 a2 a3 g f = some u) : mMv l yX0_tell (Cond.code yX0_tell cX0_tell 5 none :: wU) rm_GF_tell D (cT cy) (cW ad cy) [.ref (ad 13), .int a1, .int a2, .int a3] g f u := by
  refine mk_v (by decide) rfl (Nat.le_of_ble_eq_true rfl) ?_
  intro p e s m below meth c Q A H0 Fx hret ls H locs hl hC
  replace hl : lv_has ls 5 [(0, .ref (ad 13)), (1, .int a1), (2, .int a2), (3, .int a3)] := hl
  unfold p_GF_tell at hf
  refine lv_iload_n Fx.1 Fx.2.1 dX0_tell_0 rfl (lv_at hl 1 rfl) ?_
  refine lv_if_lt (tgt := 10) Fx.1 Fx.2.1 dX0_tell_1 (by decide) (fun hc => ?_) (fun hc => ?_)
  · replace hf := ift hc hf
    obtain rfl := Option.some.inj hf
    exact hret _ _ _ _ dX0_tell_10 hC
  · replace hf := iff_ hc hf
    refine lv_iload_n Fx.1 Fx.2.1 dX0_tell_4 rfl (lv_at hl 1 rfl) ?_
    refine lv_bipush (v := (25 : Int32)) Fx.1 Fx.2.1 dX0_tell_5 (by decide) ?_
    refine lv_icmp_lt (tgt := 11) Fx.1 Fx.2.1 dX0_tell_7 (by decide) (fun hc => ?_) (fun hc => ?_)
    · replace hf := ift hc hf
      refine lv_aload_n Fx.1 Fx.2.1 dX0_tell_11 rfl (lv_at hl 0 rfl) ?_
      refine gg_GF_counts Fx hC wd_94 dX0_tell_12 ?_
      refine lv_iload_n Fx.1 Fx.2.1 dX0_tell_15 rfl (lv_at hl 1 rfl) ?_
      obtain ⟨hi1, hf⟩ := gd_e hf
      refine ld_GF_counts Fx hC hi1 dX0_tell_16 ?_
      obtain ⟨v2, ev2, hf⟩ := lt_e hf
      refine tpi ev2 ?_
      refine lv_istore (lv' := [(4, .int v2), (0, .ref (ad 13)), (1, .int a1), (2, .int a2), (3, .int a3)]) Fx.1 Fx.2.1 dX0_tell_17 hl (by decide) rfl (fun ls hl => ?_)
      refine lv_aload_n Fx.1 Fx.2.1 dX0_tell_19 rfl (lv_at hl 1 rfl) ?_
      refine gg_GF_counts Fx hC wd_94 dX0_tell_20 ?_
      refine lv_iload_n Fx.1 Fx.2.1 dX0_tell_23 rfl (lv_at hl 2 rfl) ?_
      refine lv_dup2_11 Fx.1 Fx.2.1 dX0_tell_24 rfl rfl ?_
      obtain ⟨hi3, hf⟩ := gd_e hf
      refine ld_GF_counts Fx hC hi3 dX0_tell_25 ?_
      refine lv_iconst (v := (1 : Int32)) Fx.1 Fx.2.1 dX0_tell_26 (by decide) ?_
      refine lv_iadd Fx.1 Fx.2.1 dX0_tell_27 ?_
      obtain ⟨hi4, hf⟩ := gd_e hf
      obtain ⟨f5, ef5, hf⟩ := lt_e hf
      refine st_GF_counts Fx hC hi4 ef5 dX0_tell_28 (fun H locs hC => ?_)
      refine lv_iload Fx.1 Fx.2.1 dX0_tell_29 (lv_at hl 0 rfl) ?_
      refine lv_if_eq (tgt := 44) Fx.1 Fx.2.1 dX0_tell_31 (by decide) (fun hc => ?_) (fun hc => ?_)
      · replace hf := ift hc hf
        exact s_GF_tell_J44 Fx hret _ _ _ _ _ _  hf _ _ _ (lv_sub hl [1, 2, 3, 4, 0] rfl) hC
      · replace hf := iff_ hc hf
        refine lv_iload_n Fx.1 Fx.2.1 dX0_tell_34 rfl (lv_at hl 4 rfl) ?_
        refine lv_aload_n Fx.1 Fx.2.1 dX0_tell_35 rfl (lv_at hl 1 rfl) ?_
        refine gg_GF_leastCosts Fx hC wd_96 dX0_tell_36 ?_
        refine lv_iload_n Fx.1 Fx.2.1 dX0_tell_39 rfl (lv_at hl 2 rfl) ?_
        obtain ⟨hi6, hf⟩ := gd_e hf
        refine ld_GF_leastCosts Fx hC hi6 dX0_tell_40 ?_
        refine lv_icmp_ge (tgt := 76) Fx.1 Fx.2.1 dX0_tell_41 (by decide) (fun hc => ?_) (fun hc => ?_)
        · replace hf := ift hc hf
          refine lv_iload_n Fx.1 Fx.2.1 dX0_tell_76 rfl (lv_at hl 4 rfl) ?_
          refine lv_aload_n Fx.1 Fx.2.1 dX0_tell_77 rfl (lv_at hl 1 rfl) ?_
          refine gg_GF_leastCosts Fx hC wd_96 dX0_tell_78 ?_
          refine lv_iload_n Fx.1 Fx.2.1 dX0_tell_81 rfl (lv_at hl 2 rfl) ?_
          obtain ⟨hi7, hf⟩ := gd_e hf
          refine ld_GF_leastCosts Fx hC hi7 dX0_tell_82 ?_
          refine lv_icmp_ne (tgt := 96) Fx.1 Fx.2.1 dX0_tell_83 (by decide) (fun hc => ?_) (fun hc => ?_)
          · replace hf := iff_ hc hf
            exact s_GF_tell_J96 Fx hret _ _ _ _ _ _  hf _ _ _ (lv_sub hl [1, 2, 3, 4, 0] rfl) hC
          · replace hf := ift hc hf
            refine lv_aload_n Fx.1 Fx.2.1 dX0_tell_86 rfl (lv_at hl 1 rfl) ?_
            refine gg_GF_leastCounts Fx hC wd_99 dX0_tell_87 ?_
            refine lv_iload_n Fx.1 Fx.2.1 dX0_tell_90 rfl (lv_at hl 2 rfl) ?_
            refine lv_dup2_11 Fx.1 Fx.2.1 dX0_tell_91 rfl rfl ?_
            obtain ⟨hi8, hf⟩ := gd_e hf
            refine ld_GF_leastCounts Fx hC hi8 dX0_tell_92 ?_
            refine lv_iconst (v := (1 : Int32)) Fx.1 Fx.2.1 dX0_tell_93 (by decide) ?_
            refine lv_iadd Fx.1 Fx.2.1 dX0_tell_94 ?_
            obtain ⟨hi9, hf⟩ := gd_e hf
            obtain ⟨f10, ef10, hf⟩ := lt_e hf
            refine st_GF_leastCounts Fx hC hi9 ef10 dX0_tell_95 (fun H locs hC => ?_)
            exact s_GF_tell_J96 Fx hret _ _ _ _ _ _  hf _ _ _ (lv_sub hl [1, 2, 3, 4, 0] rfl) hC
        · replace hf := iff_ hc hf
          exact s_GF_tell_J44 Fx hret _ _ _ _ _ _  hf _ _ _ (lv_sub hl [1, 2, 3, 4, 0] rfl) hC
    · replace hf := iff_ hc hf
      obtain rfl := Option.some.inj hf
      exact hret _ _ _ _ dX0_tell_10 hC
/-! FretHands$GripFinder.tellPositions(IIII)V -/
abbrev rm_GF_tellPositions : Room := { frames := 1, cells := 0, slots := 0, locals := 24 }
theorem hd_GF_tellPositions : yX0_tellPositions.cls = RX0 ∧ yX0_tellPositions.cls ≠ "java/lang/invoke/MethodHandle" ∧ yX0_tellPositions.cls ≠ "java/lang/invoke/VarHandle" ∧ (parseMethodDescriptor yX0_tellPositions.desc).map (fun d => d.parameters.length) = some 4 := by decide +kernel
noncomputable def p_GF_tellPositions_L21 (K21 : (Int32 × Int32 × Int32 × Int32 × sG × sF) → Option (sG × sF)) (x1 : Int32) (x2 : Int32) (x4 : Int32) (x6 : Int32) (g : sG) (f : sF) : Option (sG × sF) := (if x2 < x6 then some (g, f) else Option.bind (p_GF_pitchesAt (x6 + (3 : Int32)) g f) (fun u1 => Option.bind (p_GF_tell x6 x1 (x4 + ((f 0 (2 : Int32).toNatClampNeg) * u1)) g f) (fun u2 => lt_ (x6 + (1 : Int32)) (fun v3 => K21 (x1, x2, x4, v3, u2.1, u2.2)))))
set_option maxRecDepth 100000 in
set_option maxHeartbeats 4000000 in
theorem s_GF_tellPositions_L21 {K21 : (Int32 × Int32 × Int32 × Int32 × sG × sF) → Option (sG × sF)} {p : Program} {l : Launch} {e : Env} {s : State} {m : MethodId} {args : Array Value} {below : List Frame} {meth : Method} {c : Code} {Q : State → Prop} {D : va_G} {ad : Nat → Nat} {cy : Nat → ClassId} {A : Nat → Prop} {H0 : Heap} {u : sG × sF} (Fx : CallFix p m c cX0_tellPositions 7 s args (Cond.code yX0_tellPositions cX0_tellPositions 7 none :: wU) RX0) (hret : mRv p l e rm_GF_tellPositions s m args below meth c Q D (cT cy) (cW ad cy) A H0 cX0_tellPositions u) (hK21 : ∀ (z : Int32 × Int32 × Int32 × Int32 × sG × sF), K21 z = some u → ∀ (ls : Array Slot) (H : Heap) (locs : List Loc), lv_has ls 7 [(0, .ref (ad 13)), (1, .int z.1), (2, .int z.2.1), (4, .int z.2.2.1), (6, .int z.2.2.2.1)] → wH D (cT cy) (cW ad cy) A H0 s z.2.2.2.2.1 z.2.2.2.2.2 H locs → W p l e rm_GF_tellPositions s m args below meth c H locs 0 0 Q (F0 m 21 ls [])) (x1 : Int32) (x2 : Int32) (x4 : Int32) (x6 : Int32) (g : sG) (f : sF) (hf : p_GF_tellPositions_L21 K21 x1 x2 x4 x6 g f = some u) : ∀ (ls : Array Slot) (H : Heap) (locs : List Loc), lv_has ls 7 [(0, .ref (ad 13)), (1, .int x1), (2, .int x2), (4, .int x4), (6, .int x6)] → wH D (cT cy) (cW ad cy) A H0 s g f H locs → W p l e rm_GF_tellPositions s m args below meth c H locs 0 0 Q (F0 m 21 ls []) := by
  intro ls H locs hl hC
  unfold p_GF_tellPositions_L21 at hf
  refine lv_iload Fx.1 Fx.2.1 dX0_tellPositions_21 (lv_at hl 4 rfl) ?_
  refine lv_iload_n Fx.1 Fx.2.1 dX0_tellPositions_23 rfl (lv_at hl 2 rfl) ?_
  refine lv_icmp_gt (tgt := 58) Fx.1 Fx.2.1 dX0_tellPositions_24 (by decide) (fun hc => ?_) (fun hc => ?_)
  · replace hf := ift hc hf
    obtain rfl := Option.some.inj hf
    exact hret _ _ _ _ dX0_tellPositions_58 hC
  · replace hf := iff_ hc hf
    refine lv_aload_n Fx.1 Fx.2.1 dX0_tellPositions_27 rfl (lv_at hl 0 rfl) ?_
    refine lv_iload Fx.1 Fx.2.1 dX0_tellPositions_28 (lv_at hl 4 rfl) ?_
    refine lv_iload_n Fx.1 Fx.2.1 dX0_tellPositions_30 rfl (lv_at hl 1 rfl) ?_
    refine lv_iload Fx.1 Fx.2.1 dX0_tellPositions_31 (lv_at hl 3 rfl) ?_
    refine lv_aload_n Fx.1 Fx.2.1 dX0_tellPositions_33 rfl (lv_at hl 0 rfl) ?_
    refine gg_GF_weights Fx hC wd_92 dX0_tellPositions_34 ?_
    refine lv_iconst (v := (2 : Int32)) Fx.1 Fx.2.1 dX0_tellPositions_37 (by decide) ?_
    refine ld_FH_weights Fx hC (by decide) dX0_tellPositions_38 ?_
    refine lv_aload_n Fx.1 Fx.2.1 dX0_tellPositions_39 rfl (lv_at hl 0 rfl) ?_
    refine lv_iload Fx.1 Fx.2.1 dX0_tellPositions_40 (lv_at hl 4 rfl) ?_
    refine lv_iconst (v := (3 : Int32)) Fx.1 Fx.2.1 dX0_tellPositions_42 (by decide) ?_
    refine lv_iadd Fx.1 Fx.2.1 dX0_tellPositions_43 ?_
    obtain ⟨u1, hu1, hf⟩ := bd_e hf
    refine ca_i (As := [.int (x6 + (3 : Int32))]) (rest := [.int (f 0 (2 : Int32).toNatClampNeg), .int x4, .int x1, .int x6, .ref (ad 13)]) Fx hC (k_GF_pitchesAt hu1) (cVU 1 Fx.2.2.2.2 wd_358 wd_359 wd_852 wd_5 wd_360 rfl rfl hd_GF_pitchesAt ⟨Nat.le_of_ble_eq_true rfl, Nat.le_of_ble_eq_true rfl⟩) 13 rfl rfl rfl hl.1 rfl (Nat.le_of_ble_eq_true rfl) dX0_tellPositions_44 (fun H locs hC => ?_)
    refine lv_imul Fx.1 Fx.2.1 dX0_tellPositions_47 ?_
    refine lv_iadd Fx.1 Fx.2.1 dX0_tellPositions_48 ?_
    obtain ⟨u2, hu2, hf⟩ := bd_e hf
    refine ca_v (As := [.int x6, .int x1, .int (x4 + ((f 0 (2 : Int32).toNatClampNeg) * u1))]) (rest := []) Fx hC (k_GF_tell hu2) (cVU 3 Fx.2.2.2.2 wd_361 wd_362 wd_853 wd_5 wd_363 rfl rfl hd_GF_tell ⟨Nat.le_of_ble_eq_true rfl, Nat.le_of_ble_eq_true rfl⟩) 13 rfl rfl rfl hl.1 rfl (Nat.le_of_ble_eq_true rfl) dX0_tellPositions_49 (fun H locs hC => ?_)
    obtain ⟨v3, ev3, hf⟩ := lt_e hf
    refine lv_iinc (v := v3) (lv' := [(6, .int v3), (0, .ref (ad 13)), (1, .int x1), (2, .int x2), (4, .int x4)]) Fx.1 Fx.2.1 dX0_tellPositions_52 hl (k := 4) rfl ev3.symm (by decide) rfl (fun ls hl => ?_)
    refine lv_goto (tgt := 21) Fx.1 Fx.2.1 dX0_tellPositions_55 (by decide) ?_
    exact hK21 _ hf _ _ _ (lv_sub hl [1, 2, 3, 4, 0] rfl) hC
set_option maxRecDepth 100000 in
set_option maxHeartbeats 4000000 in
theorem t_GF_tellPositions_L21 {p : Program} {l : Launch} {e : Env} {s : State} {m : MethodId} {args : Array Value} {below : List Frame} {meth : Method} {c : Code} {Q : State → Prop} {D : va_G} {ad : Nat → Nat} {cy : Nat → ClassId} {A : Nat → Prop} {H0 : Heap} {u : sG × sF} (Fx : CallFix p m c cX0_tellPositions 7 s args (Cond.code yX0_tellPositions cX0_tellPositions 7 none :: wU) RX0) (hret : mRv p l e rm_GF_tellPositions s m args below meth c Q D (cT cy) (cW ad cy) A H0 cX0_tellPositions u)  (n : Nat) (z : Int32 × Int32 × Int32 × Int32 × sG × sF) (hz : itr (fun K z => p_GF_tellPositions_L21 K z.1 z.2.1 z.2.2.1 z.2.2.2.1 z.2.2.2.2.1 z.2.2.2.2.2) n z = some u) : ∀ (ls : Array Slot) (H : Heap) (locs : List Loc), lv_has ls 7 [(0, .ref (ad 13)), (1, .int z.1), (2, .int z.2.1), (4, .int z.2.2.1), (6, .int z.2.2.2.1)] → wH D (cT cy) (cW ad cy) A H0 s z.2.2.2.2.1 z.2.2.2.2.2 H locs → W p l e rm_GF_tellPositions s m args below meth c H locs 0 0 Q (F0 m 21 ls []) :=
  itr_all (B := fun K z => p_GF_tellPositions_L21 K z.1 z.2.1 z.2.2.1 z.2.2.2.1 z.2.2.2.2.1 z.2.2.2.2.2) (r := u) (fun z => ∀ (ls : Array Slot) (H : Heap) (locs : List Loc), lv_has ls 7 [(0, .ref (ad 13)), (1, .int z.1), (2, .int z.2.1), (4, .int z.2.2.1), (6, .int z.2.2.2.1)] → wH D (cT cy) (cW ad cy) A H0 s z.2.2.2.2.1 z.2.2.2.2.2 H locs → W p l e rm_GF_tellPositions s m args below meth c H locs 0 0 Q (F0 m 21 ls [])) (fun K hK z h => s_GF_tellPositions_L21 (K21 := K) Fx hret hK z.1 z.2.1 z.2.2.1 z.2.2.2.1 z.2.2.2.2.1 z.2.2.2.2.2 h) n z hz
noncomputable def p_GF_tellPositions (a1 : Int32) (a2 : Int32) (a3 : Int32) (a4 : Int32) (g : sG) (f : sF) : Option (sG × sF) := lt_ (if ((g 2) + (1 : Int32)) < (a3 - (3 : Int32)) then (a3 - (3 : Int32)) else ((g 2) + (1 : Int32))) (fun v1 => itr (fun K z => p_GF_tellPositions_L21 K z.1 z.2.1 z.2.2.1 z.2.2.2.1 z.2.2.2.2.1 z.2.2.2.2.2) FUEL (a1, a2, a4, v1, g, f))
set_option maxRecDepth 100000 in
set_option maxHeartbeats 4000000 in
theorem k_GF_tellPositions {l : Launch} {D : va_G} {ad : Nat → Nat} {cy : Nat → ClassId} {a1 : Int32} {a2 : Int32} {a3 : Int32} {a4 : Int32} {u : sG × sF} {g : sG} {f : sF} (hf : p_GF_tellPositions a1 a2 a3 a4 g f = some u) : mMv l yX0_tellPositions (Cond.code yX0_tellPositions cX0_tellPositions 7 none :: wU) rm_GF_tellPositions D (cT cy) (cW ad cy) [.ref (ad 13), .int a1, .int a2, .int a3, .int a4] g f u := by
  refine mk_v (by decide) rfl (Nat.le_of_ble_eq_true rfl) ?_
  intro p e s m below meth c Q A H0 Fx hret ls H locs hl hC
  replace hl : lv_has ls 7 [(0, .ref (ad 13)), (1, .int a1), (2, .int a2), (3, .int a3), (4, .int a4)] := hl
  unfold p_GF_tellPositions at hf
  refine lv_aload_n Fx.1 Fx.2.1 dX0_tellPositions_0 rfl (lv_at hl 0 rfl) ?_
  refine gg_GF_instrument Fx hC wd_91 dX0_tellPositions_1 ?_
  refine gg_In_capoFret Fx hC wd_40 dX0_tellPositions_4 ?_
  refine lv_iconst (v := (1 : Int32)) Fx.1 Fx.2.1 dX0_tellPositions_7 (by decide) ?_
  refine lv_iadd Fx.1 Fx.2.1 dX0_tellPositions_8 ?_
  refine lv_iload_n Fx.1 Fx.2.1 dX0_tellPositions_9 rfl (lv_at hl 3 rfl) ?_
  refine lv_iconst (v := (3 : Int32)) Fx.1 Fx.2.1 dX0_tellPositions_10 (by decide) ?_
  refine lv_isub Fx.1 Fx.2.1 dX0_tellPositions_11 ?_
  refine g_mmax (rest := []) Fx hl.1 wd_355 (Nat.le_of_ble_eq_true rfl) (Nat.le_of_ble_eq_true rfl) dX0_tellPositions_12 ?_
  obtain ⟨v1, ev1, hf⟩ := lt_e hf
  refine tpi ev1 ?_
  refine lv_istore (lv' := [(5, .int v1), (0, .ref (ad 13)), (1, .int a1), (2, .int a2), (3, .int a3), (4, .int a4)]) Fx.1 Fx.2.1 dX0_tellPositions_15 hl (by decide) rfl (fun ls hl => ?_)
  refine lv_iload Fx.1 Fx.2.1 dX0_tellPositions_17 (lv_at hl 0 rfl) ?_
  refine lv_istore (lv' := [(6, .int v1), (5, .int v1), (0, .ref (ad 13)), (1, .int a1), (2, .int a2), (3, .int a3), (4, .int a4)]) Fx.1 Fx.2.1 dX0_tellPositions_19 hl (by decide) rfl (fun ls hl => ?_)
  exact t_GF_tellPositions_L21 Fx hret _ _ hf _ _ _ (lv_sub hl [2, 3, 4, 6, 0] rfl) hC
/-! FretHands$StringRow.with(III)I -/
abbrev rm_SR_with : Room := { frames := 0, cells := 0, slots := 0, locals := 0 }
theorem hd_SR_with : yX4_with.cls ≠ "java/lang/invoke/MethodHandle" ∧ yX4_with.cls ≠ "java/lang/invoke/VarHandle" ∧ (parseMethodDescriptor yX4_with.desc).map (fun d => d.parameters.length) = some 3 := by decide +kernel
noncomputable def p_SR_with (a1 : Int32) (a2 : Int32) (a3 : Int32) (g : sG) (f : sF) : Option (Int32) := some (a1 ||| (a3 <<< (((3 : Int32) * a2) &&& (31 : Int32))))
set_option maxRecDepth 100000 in
set_option maxHeartbeats 4000000 in
theorem k_SR_with {l : Launch} {D : va_G} {ad : Nat → Nat} {cy : Nat → ClassId} {a1 : Int32} {a2 : Int32} {a3 : Int32} {r : Int32} {g : sG} {f : sF} (hf : p_SR_with a1 a2 a3 g f = some r) : mMi l yX4_with (Cond.code yX4_with cX4_with 3 (some .int) :: wU) rm_SR_with D (cT cy) (cW ad cy) [.int a1, .int a2, .int a3] g f (r, g, f) := by
  refine mk_i (by decide) rfl (Nat.le_of_ble_eq_true rfl) ?_
  intro p e s m below meth c Q A H0 Fx hret ls H locs hl hC
  replace hl : lv_has ls 3 [(0, .int a1), (1, .int a2), (2, .int a3)] := hl
  unfold p_SR_with at hf
  refine lv_iload_n Fx.1 Fx.2.1 dX4_with_0 rfl (lv_at hl 0 rfl) ?_
  refine lv_iload_n Fx.1 Fx.2.1 dX4_with_1 rfl (lv_at hl 2 rfl) ?_
  refine lv_iconst (v := (3 : Int32)) Fx.1 Fx.2.1 dX4_with_2 (by decide) ?_
  refine lv_iload_n Fx.1 Fx.2.1 dX4_with_3 rfl (lv_at hl 1 rfl) ?_
  refine lv_imul Fx.1 Fx.2.1 dX4_with_4 ?_
  refine lv_ishl Fx.1 Fx.2.1 dX4_with_5 ?_
  refine lv_ior Fx.1 Fx.2.1 dX4_with_6 ?_
  obtain rfl := Option.some.inj hf
  exact hret _ _ _ _ dX4_with_7 hC
/-! FretHands$GripFinder.layFrom(IIIIII)V -/
abbrev rm_GF_layFrom (d : Nat) : Room := { frames := 20 + d, cells := 0, slots := 0, locals := 400 + 60 * d }
theorem hd_GF_layFrom : yX0_layFrom.cls = RX0 ∧ yX0_layFrom.cls ≠ "java/lang/invoke/MethodHandle" ∧ yX0_layFrom.cls ≠ "java/lang/invoke/VarHandle" ∧ (parseMethodDescriptor yX0_layFrom.desc).map (fun d => d.parameters.length) = some 6 := by decide +kernel
noncomputable def p_GF_layFrom_J111 (Rec : Int32 → Int32 → Int32 → Int32 → Int32 → Int32 → sG → sF → Option (sG × sF)) (K38 : (Int32 × Int32 × Int32 × Int32 × Int32 × Int32 × Int32 × sG × sF) → Option (sG × sF)) (x1 : Int32) (x2 : Int32) (x3 : Int32) (x4 : Int32) (x5 : Int32) (x6 : Int32) (x7 : Int32) (y0 : Int32) (g : sG) (f : sF) : Option (sG × sF) := (if y0 = (-1 : Int32) then lt_ (x7 + (1 : Int32)) (fun v12 => K38 (x1, x2, x3, x4, x5, x6, v12, g, f)) else (if x1 < 0 ∨ 4 ≤ x1.toNatClampNeg then none else lt_ (up2 f 16 x1.toNatClampNeg y0) (fun f2 => lt_ (x2 ||| ((1 : Int32) <<< (x7 &&& (31 : Int32)))) (fun v3 => Option.bind (p_SR_with x3 x1 x7 g f2) (fun u4 => (if y0 = (g 2) then Option.bind (Rec (x1 + (1 : Int32)) v3 u4 x4 x5 (x6 + (f2 0 (3 : Int32).toNatClampNeg)) g f2) (fun u10 => lt_ (x7 + (1 : Int32)) (fun v11 => K38 (x1, x2, x3, x4, x5, x6, v11, u10.1, u10.2))) else lt_ (x6 + ((f2 0 (1 : Int32).toNatClampNeg) * (y0 - (g 2)))) (fun v5 => lt_ (if y0 < x4 then y0 else x4) (fun v6 => lt_ (if x5 < y0 then y0 else x5) (fun v7 => Option.bind (Rec (x1 + (1 : Int32)) v3 u4 v6 v7 v5 g f2) (fun u8 => lt_ (x7 + (1 : Int32)) (fun v9 => K38 (x1, x2, x3, x4, x5, x6, v9, u8.1, u8.2))))))))))))
set_option maxRecDepth 100000 in
set_option maxHeartbeats 4000000 in
theorem s_GF_layFrom_J111 {K38 : (Int32 × Int32 × Int32 × Int32 × Int32 × Int32 × Int32 × sG × sF) → Option (sG × sF)} {d : Nat} {Rec : Int32 → Int32 → Int32 → Int32 → Int32 → Int32 → sG → sF → Option (sG × sF)} {p : Program} {l : Launch} {e : Env} {s : State} {m : MethodId} {args : Array Value} {below : List Frame} {meth : Method} {c : Code} {Q : State → Prop} {D : va_G} {ad : Nat → Nat} {cy : Nat → ClassId} {A : Nat → Prop} {H0 : Heap} {u : sG × sF} (Fx : CallFix p m c cX0_layFrom 15 s args (Cond.code yX0_layFrom cX0_layFrom 15 none :: wU) RX0) (hret : mRv p l e (rm_GF_layFrom (d + 1)) s m args below meth c Q D (cT cy) (cW ad cy) A H0 cX0_layFrom u) (hRec : ∀ (b1 b2 b3 b4 b5 b6 : Int32) (g : sG) (f : sF) (w : sG × sF), Rec b1 b2 b3 b4 b5 b6 g f = some w → mMv l yX0_layFrom (Cond.code yX0_layFrom cX0_layFrom 15 none :: wU) (rm_GF_layFrom d) D (cT cy) (cW ad cy) [.ref (ad 13), .int b1, .int b2, .int b3, .int b4, .int b5, .int b6] g f w) (hK38 : ∀ (z : Int32 × Int32 × Int32 × Int32 × Int32 × Int32 × Int32 × sG × sF), K38 z = some u → ∀ (ls : Array Slot) (H : Heap) (locs : List Loc), lv_has ls 15 [(0, .ref (ad 13)), (1, .int z.1), (2, .int z.2.1), (3, .int z.2.2.1), (4, .int z.2.2.2.1), (5, .int z.2.2.2.2.1), (6, .int z.2.2.2.2.2.1), (7, .int z.2.2.2.2.2.2.1)] → wH D (cT cy) (cW ad cy) A H0 s z.2.2.2.2.2.2.2.1 z.2.2.2.2.2.2.2.2 H locs → W p l e (rm_GF_layFrom (d + 1)) s m args below meth c H locs 0 0 Q (F0 m 38 ls [])) (x1 : Int32) (x2 : Int32) (x3 : Int32) (x4 : Int32) (x5 : Int32) (x6 : Int32) (x7 : Int32) (y0 : Int32) (g : sG) (f : sF) (hf : p_GF_layFrom_J111 Rec K38 x1 x2 x3 x4 x5 x6 x7 y0 g f = some u) : ∀ (ls : Array Slot) (H : Heap) (locs : List Loc), lv_has ls 15 [(0, .ref (ad 13)), (1, .int x1), (2, .int x2), (3, .int x3), (4, .int x4), (5, .int x5), (6, .int x6), (7, .int x7)] → wH D (cT cy) (cW ad cy) A H0 s g f H locs → W p l e (rm_GF_layFrom (d + 1)) s m args below meth c H locs 0 0 Q (F0 m 111 ls [.int y0]) := by
  intro ls H locs hl hC
  unfold p_GF_layFrom_J111 at hf
  refine lv_istore (lv' := [(9, .int y0), (0, .ref (ad 13)), (1, .int x1), (2, .int x2), (3, .int x3), (4, .int x4), (5, .int x5), (6, .int x6), (7, .int x7)]) Fx.1 Fx.2.1 dX0_layFrom_111 hl (by decide) rfl (fun ls hl => ?_)
  refine lv_iload Fx.1 Fx.2.1 dX0_layFrom_113 (lv_at hl 0 rfl) ?_
  refine lv_iconst (v := (-1 : Int32)) Fx.1 Fx.2.1 dX0_layFrom_115 (by decide) ?_
  refine lv_icmp_ne (tgt := 122) Fx.1 Fx.2.1 dX0_layFrom_116 (by decide) (fun hc => ?_) (fun hc => ?_)
  · replace hf := iff_ hc hf
    refine lv_aload_n Fx.1 Fx.2.1 dX0_layFrom_122 rfl (lv_at hl 1 rfl) ?_
    refine gg_GF_frets Fx hC wd_106 dX0_layFrom_123 ?_
    refine lv_iload_n Fx.1 Fx.2.1 dX0_layFrom_126 rfl (lv_at hl 2 rfl) ?_
    refine lv_iload Fx.1 Fx.2.1 dX0_layFrom_127 (lv_at hl 0 rfl) ?_
    obtain ⟨hi1, hf⟩ := gd_e hf
    obtain ⟨f2, ef2, hf⟩ := lt_e hf
    refine st_GF_frets Fx hC hi1 ef2 dX0_layFrom_129 (fun H locs hC => ?_)
    refine lv_iload_n Fx.1 Fx.2.1 dX0_layFrom_130 rfl (lv_at hl 3 rfl) ?_
    refine lv_iconst (v := (1 : Int32)) Fx.1 Fx.2.1 dX0_layFrom_131 (by decide) ?_
    refine lv_iload Fx.1 Fx.2.1 dX0_layFrom_132 (lv_at hl 8 rfl) ?_
    refine lv_ishl Fx.1 Fx.2.1 dX0_layFrom_134 ?_
    refine lv_ior Fx.1 Fx.2.1 dX0_layFrom_135 ?_
    obtain ⟨v3, ev3, hf⟩ := lt_e hf
    refine tpi ev3 ?_
    refine lv_istore (lv' := [(10, .int v3), (9, .int y0), (0, .ref (ad 13)), (1, .int x1), (2, .int x2), (3, .int x3), (4, .int x4), (5, .int x5), (6, .int x6), (7, .int x7)]) Fx.1 Fx.2.1 dX0_layFrom_136 hl (by decide) rfl (fun ls hl => ?_)
    refine lv_iload_n Fx.1 Fx.2.1 dX0_layFrom_138 rfl (lv_at hl 5 rfl) ?_
    refine lv_iload_n Fx.1 Fx.2.1 dX0_layFrom_139 rfl (lv_at hl 3 rfl) ?_
    refine lv_iload Fx.1 Fx.2.1 dX0_layFrom_140 (lv_at hl 9 rfl) ?_
    obtain ⟨u4, hu4, hf⟩ := bd_e hf
    refine ca_s (As := [.int x3, .int x1, .int x7]) (rest := []) Fx hC (k_SR_with hu4) (cSU 3 Fx.2.2.2.2 wd_365 wd_366 wd_12 wd_367 rfl rfl hd_SR_with ⟨rmle4 d (Nat.le_of_ble_eq_true rfl), rmle5 d (Nat.le_of_ble_eq_true rfl)⟩) rfl hl.1 rfl (Nat.le_of_ble_eq_true rfl) dX0_layFrom_142 (fun H locs hC => ?_)
    refine lv_istore (lv' := [(11, .int u4), (10, .int v3), (9, .int y0), (0, .ref (ad 13)), (1, .int x1), (2, .int x2), (3, .int x3), (4, .int x4), (5, .int x5), (6, .int x6), (7, .int x7)]) Fx.1 Fx.2.1 dX0_layFrom_145 hl (by decide) rfl (fun ls hl => ?_)
    refine lv_iload Fx.1 Fx.2.1 dX0_layFrom_147 (lv_at hl 2 rfl) ?_
    refine lv_aload_n Fx.1 Fx.2.1 dX0_layFrom_149 rfl (lv_at hl 3 rfl) ?_
    refine gg_GF_instrument Fx hC wd_91 dX0_layFrom_150 ?_
    refine gg_In_capoFret Fx hC wd_40 dX0_layFrom_153 ?_
    refine lv_icmp_ne (tgt := 186) Fx.1 Fx.2.1 dX0_layFrom_156 (by decide) (fun hc => ?_) (fun hc => ?_)
    · replace hf := iff_ hc hf
      refine lv_iload Fx.1 Fx.2.1 dX0_layFrom_186 (lv_at hl 9 rfl) ?_
      refine lv_aload_n Fx.1 Fx.2.1 dX0_layFrom_188 rfl (lv_at hl 3 rfl) ?_
      refine gg_GF_weights Fx hC wd_92 dX0_layFrom_189 ?_
      refine lv_iconst (v := (1 : Int32)) Fx.1 Fx.2.1 dX0_layFrom_192 (by decide) ?_
      refine ld_FH_weights Fx hC (by decide) dX0_layFrom_193 ?_
      refine lv_iload Fx.1 Fx.2.1 dX0_layFrom_194 (lv_at hl 2 rfl) ?_
      refine lv_aload_n Fx.1 Fx.2.1 dX0_layFrom_196 rfl (lv_at hl 3 rfl) ?_
      refine gg_GF_instrument Fx hC wd_91 dX0_layFrom_197 ?_
      refine gg_In_capoFret Fx hC wd_40 dX0_layFrom_200 ?_
      refine lv_isub Fx.1 Fx.2.1 dX0_layFrom_203 ?_
      refine lv_imul Fx.1 Fx.2.1 dX0_layFrom_204 ?_
      refine lv_iadd Fx.1 Fx.2.1 dX0_layFrom_205 ?_
      obtain ⟨v5, ev5, hf⟩ := lt_e hf
      refine tpi ev5 ?_
      refine lv_istore (lv' := [(12, .int v5), (11, .int u4), (10, .int v3), (9, .int y0), (0, .ref (ad 13)), (1, .int x1), (2, .int x2), (3, .int x3), (4, .int x4), (5, .int x5), (6, .int x6), (7, .int x7)]) Fx.1 Fx.2.1 dX0_layFrom_206 hl (by decide) rfl (fun ls hl => ?_)
      refine lv_iload Fx.1 Fx.2.1 dX0_layFrom_208 (lv_at hl 8 rfl) ?_
      refine lv_iload Fx.1 Fx.2.1 dX0_layFrom_210 (lv_at hl 3 rfl) ?_
      refine g_mmin (rest := []) Fx hl.1 wd_344 (rmle1 d) (rmle5 d (Nat.le_of_ble_eq_true rfl)) dX0_layFrom_212 ?_
      obtain ⟨v6, ev6, hf⟩ := lt_e hf
      refine tpi ev6 ?_
      refine lv_istore (lv' := [(13, .int v6), (12, .int v5), (11, .int u4), (10, .int v3), (9, .int y0), (0, .ref (ad 13)), (1, .int x1), (2, .int x2), (3, .int x3), (4, .int x4), (5, .int x5), (6, .int x6), (7, .int x7)]) Fx.1 Fx.2.1 dX0_layFrom_215 hl (by decide) rfl (fun ls hl => ?_)
      refine lv_iload Fx.1 Fx.2.1 dX0_layFrom_217 (lv_at hl 10 rfl) ?_
      refine lv_iload Fx.1 Fx.2.1 dX0_layFrom_219 (lv_at hl 4 rfl) ?_
      refine g_mmax (rest := []) Fx hl.1 wd_355 (rmle1 d) (rmle5 d (Nat.le_of_ble_eq_true rfl)) dX0_layFrom_221 ?_
      obtain ⟨v7, ev7, hf⟩ := lt_e hf
      refine tpi ev7 ?_
      refine lv_istore (lv' := [(14, .int v7), (13, .int v6), (12, .int v5), (11, .int u4), (10, .int v3), (9, .int y0), (0, .ref (ad 13)), (1, .int x1), (2, .int x2), (3, .int x3), (4, .int x4), (5, .int x5), (6, .int x6), (7, .int x7)]) Fx.1 Fx.2.1 dX0_layFrom_224 hl (by decide) rfl (fun ls hl => ?_)
      refine lv_aload_n Fx.1 Fx.2.1 dX0_layFrom_226 rfl (lv_at hl 6 rfl) ?_
      refine lv_iload_n Fx.1 Fx.2.1 dX0_layFrom_227 rfl (lv_at hl 7 rfl) ?_
      refine lv_iconst (v := (1 : Int32)) Fx.1 Fx.2.1 dX0_layFrom_228 (by decide) ?_
      refine lv_iadd Fx.1 Fx.2.1 dX0_layFrom_229 ?_
      refine lv_iload Fx.1 Fx.2.1 dX0_layFrom_230 (lv_at hl 4 rfl) ?_
      refine lv_iload Fx.1 Fx.2.1 dX0_layFrom_232 (lv_at hl 3 rfl) ?_
      refine lv_iload Fx.1 Fx.2.1 dX0_layFrom_234 (lv_at hl 1 rfl) ?_
      refine lv_iload Fx.1 Fx.2.1 dX0_layFrom_236 (lv_at hl 0 rfl) ?_
      refine lv_iload Fx.1 Fx.2.1 dX0_layFrom_238 (lv_at hl 2 rfl) ?_
      obtain ⟨u8, hu8, hf⟩ := bd_e hf
      refine ca_v (As := [.int (x1 + (1 : Int32)), .int v3, .int u4, .int v6, .int v7, .int v5]) (rest := []) Fx hC (hRec _ _ _ _ _ _ _ _ _ hu8) (cVU 6 Fx.2.2.2.2 wd_349 wd_350 wd_850 wd_5 wd_351 rfl rfl hd_GF_layFrom ⟨Nat.le_refl _, rmle3 d⟩) 13 rfl rfl rfl hl.1 rfl (Nat.le_of_ble_eq_true rfl) dX0_layFrom_240 (fun H locs hC => ?_)
      obtain ⟨v9, ev9, hf⟩ := lt_e hf
      refine lv_iinc (v := v9) (lv' := [(7, .int v9), (14, .int v7), (13, .int v6), (12, .int v5), (11, .int u4), (10, .int v3), (9, .int y0), (0, .ref (ad 13)), (1, .int x1), (2, .int x2), (3, .int x3), (4, .int x4), (5, .int x5), (6, .int x6)]) Fx.1 Fx.2.1 dX0_layFrom_243 hl (k := 13) rfl ev9.symm (by decide) rfl (fun ls hl => ?_)
      refine lv_goto (tgt := 38) Fx.1 Fx.2.1 dX0_layFrom_246 (by decide) ?_
      exact hK38 _ hf _ _ _ (lv_sub hl [7, 8, 9, 10, 11, 12, 13, 0] rfl) hC
    · replace hf := ift hc hf
      refine lv_aload_n Fx.1 Fx.2.1 dX0_layFrom_159 rfl (lv_at hl 3 rfl) ?_
      refine lv_iload_n Fx.1 Fx.2.1 dX0_layFrom_160 rfl (lv_at hl 4 rfl) ?_
      refine lv_iconst (v := (1 : Int32)) Fx.1 Fx.2.1 dX0_layFrom_161 (by decide) ?_
      refine lv_iadd Fx.1 Fx.2.1 dX0_layFrom_162 ?_
      refine lv_iload Fx.1 Fx.2.1 dX0_layFrom_163 (lv_at hl 1 rfl) ?_
      refine lv_iload Fx.1 Fx.2.1 dX0_layFrom_165 (lv_at hl 0 rfl) ?_
      refine lv_iload Fx.1 Fx.2.1 dX0_layFrom_167 (lv_at hl 7 rfl) ?_
      refine lv_iload Fx.1 Fx.2.1 dX0_layFrom_169 (lv_at hl 8 rfl) ?_
      refine lv_iload Fx.1 Fx.2.1 dX0_layFrom_171 (lv_at hl 9 rfl) ?_
      refine lv_aload_n Fx.1 Fx.2.1 dX0_layFrom_173 rfl (lv_at hl 3 rfl) ?_
      refine gg_GF_weights Fx hC wd_92 dX0_layFrom_174 ?_
      refine lv_iconst (v := (3 : Int32)) Fx.1 Fx.2.1 dX0_layFrom_177 (by decide) ?_
      refine ld_FH_weights Fx hC (by decide) dX0_layFrom_178 ?_
      refine lv_iadd Fx.1 Fx.2.1 dX0_layFrom_179 ?_
      obtain ⟨u10, hu10, hf⟩ := bd_e hf
      refine ca_v (As := [.int (x1 + (1 : Int32)), .int v3, .int u4, .int x4, .int x5, .int (x6 + (f2 0 (3 : Int32).toNatClampNeg))]) (rest := []) Fx hC (hRec _ _ _ _ _ _ _ _ _ hu10) (cVU 6 Fx.2.2.2.2 wd_349 wd_350 wd_850 wd_5 wd_351 rfl rfl hd_GF_layFrom ⟨Nat.le_refl _, rmle3 d⟩) 13 rfl rfl rfl hl.1 rfl (Nat.le_of_ble_eq_true rfl) dX0_layFrom_180 (fun H locs hC => ?_)
      refine lv_goto (tgt := 243) Fx.1 Fx.2.1 dX0_layFrom_183 (by decide) ?_
      obtain ⟨v11, ev11, hf⟩ := lt_e hf
      refine lv_iinc (v := v11) (lv' := [(7, .int v11), (11, .int u4), (10, .int v3), (9, .int y0), (0, .ref (ad 13)), (1, .int x1), (2, .int x2), (3, .int x3), (4, .int x4), (5, .int x5), (6, .int x6)]) Fx.1 Fx.2.1 dX0_layFrom_243 hl (k := 10) rfl ev11.symm (by decide) rfl (fun ls hl => ?_)
      refine lv_goto (tgt := 38) Fx.1 Fx.2.1 dX0_layFrom_246 (by decide) ?_
      exact hK38 _ hf _ _ _ (lv_sub hl [4, 5, 6, 7, 8, 9, 10, 0] rfl) hC
  · replace hf := ift hc hf
    refine lv_goto (tgt := 243) Fx.1 Fx.2.1 dX0_layFrom_119 (by decide) ?_
    obtain ⟨v12, ev12, hf⟩ := lt_e hf
    refine lv_iinc (v := v12) (lv' := [(7, .int v12), (9, .int y0), (0, .ref (ad 13)), (1, .int x1), (2, .int x2), (3, .int x3), (4, .int x4), (5, .int x5), (6, .int x6)]) Fx.1 Fx.2.1 dX0_layFrom_243 hl (k := 8) rfl ev12.symm (by decide) rfl (fun ls hl => ?_)
    refine lv_goto (tgt := 38) Fx.1 Fx.2.1 dX0_layFrom_246 (by decide) ?_
    exact hK38 _ hf _ _ _ (lv_sub hl [2, 3, 4, 5, 6, 7, 8, 0] rfl) hC
noncomputable def p_GF_layFrom_J85 (Rec : Int32 → Int32 → Int32 → Int32 → Int32 → Int32 → sG → sF → Option (sG × sF)) (K38 : (Int32 × Int32 × Int32 × Int32 × Int32 × Int32 × Int32 × sG × sF) → Option (sG × sF)) (x1 : Int32) (x2 : Int32) (x3 : Int32) (x4 : Int32) (x5 : Int32) (x6 : Int32) (x7 : Int32) (y0 : Int32) (g : sG) (f : sF) : Option (sG × sF) := (if y0 = 0 then p_GF_layFrom_J111 Rec K38 x1 x2 x3 x4 x5 x6 x7 (-1 : Int32) g f else (if x1 < 0 ∨ 4 ≤ x1.toNatClampNeg then none else Option.bind (p_In_fretOf x7 (f 14 x1.toNatClampNeg) g f) (fun u2 => p_GF_layFrom_J111 Rec K38 x1 x2 x3 x4 x5 x6 x7 u2 g f)))
set_option maxRecDepth 100000 in
set_option maxHeartbeats 4000000 in
theorem s_GF_layFrom_J85 {K38 : (Int32 × Int32 × Int32 × Int32 × Int32 × Int32 × Int32 × sG × sF) → Option (sG × sF)} {d : Nat} {Rec : Int32 → Int32 → Int32 → Int32 → Int32 → Int32 → sG → sF → Option (sG × sF)} {p : Program} {l : Launch} {e : Env} {s : State} {m : MethodId} {args : Array Value} {below : List Frame} {meth : Method} {c : Code} {Q : State → Prop} {D : va_G} {ad : Nat → Nat} {cy : Nat → ClassId} {A : Nat → Prop} {H0 : Heap} {u : sG × sF} (Fx : CallFix p m c cX0_layFrom 15 s args (Cond.code yX0_layFrom cX0_layFrom 15 none :: wU) RX0) (hret : mRv p l e (rm_GF_layFrom (d + 1)) s m args below meth c Q D (cT cy) (cW ad cy) A H0 cX0_layFrom u) (hRec : ∀ (b1 b2 b3 b4 b5 b6 : Int32) (g : sG) (f : sF) (w : sG × sF), Rec b1 b2 b3 b4 b5 b6 g f = some w → mMv l yX0_layFrom (Cond.code yX0_layFrom cX0_layFrom 15 none :: wU) (rm_GF_layFrom d) D (cT cy) (cW ad cy) [.ref (ad 13), .int b1, .int b2, .int b3, .int b4, .int b5, .int b6] g f w) (hK38 : ∀ (z : Int32 × Int32 × Int32 × Int32 × Int32 × Int32 × Int32 × sG × sF), K38 z = some u → ∀ (ls : Array Slot) (H : Heap) (locs : List Loc), lv_has ls 15 [(0, .ref (ad 13)), (1, .int z.1), (2, .int z.2.1), (3, .int z.2.2.1), (4, .int z.2.2.2.1), (5, .int z.2.2.2.2.1), (6, .int z.2.2.2.2.2.1), (7, .int z.2.2.2.2.2.2.1)] → wH D (cT cy) (cW ad cy) A H0 s z.2.2.2.2.2.2.2.1 z.2.2.2.2.2.2.2.2 H locs → W p l e (rm_GF_layFrom (d + 1)) s m args below meth c H locs 0 0 Q (F0 m 38 ls [])) (x1 : Int32) (x2 : Int32) (x3 : Int32) (x4 : Int32) (x5 : Int32) (x6 : Int32) (x7 : Int32) (y0 : Int32) (g : sG) (f : sF) (hf : p_GF_layFrom_J85 Rec K38 x1 x2 x3 x4 x5 x6 x7 y0 g f = some u) : ∀ (ls : Array Slot) (H : Heap) (locs : List Loc), lv_has ls 15 [(0, .ref (ad 13)), (1, .int x1), (2, .int x2), (3, .int x3), (4, .int x4), (5, .int x5), (6, .int x6), (7, .int x7)] → wH D (cT cy) (cW ad cy) A H0 s g f H locs → W p l e (rm_GF_layFrom (d + 1)) s m args below meth c H locs 0 0 Q (F0 m 85 ls [.int y0]) := by
  intro ls H locs hl hC
  unfold p_GF_layFrom_J85 at hf
  refine lv_istore (lv' := [(8, .int y0), (0, .ref (ad 13)), (1, .int x1), (2, .int x2), (3, .int x3), (4, .int x4), (5, .int x5), (6, .int x6), (7, .int x7)]) Fx.1 Fx.2.1 dX0_layFrom_85 hl (by decide) rfl (fun ls hl => ?_)
  refine lv_iload Fx.1 Fx.2.1 dX0_layFrom_87 (lv_at hl 0 rfl) ?_
  refine lv_if_eq (tgt := 110) Fx.1 Fx.2.1 dX0_layFrom_89 (by decide) (fun hc => ?_) (fun hc => ?_)
  · replace hf := ift hc hf
    refine lv_iconst (v := (-1 : Int32)) Fx.1 Fx.2.1 dX0_layFrom_110 (by decide) ?_
    exact s_GF_layFrom_J111 Fx hret hRec hK38 _ _ _ _ _ _ _ _ _ _  hf _ _ _ (lv_sub hl [1, 2, 3, 4, 5, 6, 7, 8] rfl) hC
  · replace hf := iff_ hc hf
    refine lv_aload_n Fx.1 Fx.2.1 dX0_layFrom_92 rfl (lv_at hl 1 rfl) ?_
    refine gg_GF_instrument Fx hC wd_91 dX0_layFrom_93 ?_
    refine lv_iload Fx.1 Fx.2.1 dX0_layFrom_96 (lv_at hl 8 rfl) ?_
    refine lv_aload_n Fx.1 Fx.2.1 dX0_layFrom_98 rfl (lv_at hl 1 rfl) ?_
    refine gg_GF_pitches Fx hC wd_104 dX0_layFrom_99 ?_
    refine lv_iload_n Fx.1 Fx.2.1 dX0_layFrom_102 rfl (lv_at hl 2 rfl) ?_
    obtain ⟨hi1, hf⟩ := gd_e hf
    refine ld_GF_pitches Fx hC hi1 dX0_layFrom_103 ?_
    obtain ⟨u2, hu2, hf⟩ := bd_e hf
    refine ca_i (As := [.int x7, .int (f 14 x1.toNatClampNeg)]) (rest := []) Fx hC (k_In_fretOf hu2) (cVU 2 Fx.2.2.2.2 wd_364 wd_328 wd_329 wd_2 wd_330 rfl rfl hd_In_fretOf ⟨rmle4 d (Nat.le_of_ble_eq_true rfl), rmle5 d (Nat.le_of_ble_eq_true rfl)⟩) 2 rfl rfl rfl hl.1 rfl (Nat.le_of_ble_eq_true rfl) dX0_layFrom_104 (fun H locs hC => ?_)
    refine lv_goto (tgt := 111) Fx.1 Fx.2.1 dX0_layFrom_107 (by decide) ?_
    exact s_GF_layFrom_J111 Fx hret hRec hK38 _ _ _ _ _ _ _ _ _ _  hf _ _ _ (lv_sub hl [1, 2, 3, 4, 5, 6, 7, 8] rfl) hC
noncomputable def p_GF_layFrom_J84 (Rec : Int32 → Int32 → Int32 → Int32 → Int32 → Int32 → sG → sF → Option (sG × sF)) (K38 : (Int32 × Int32 × Int32 × Int32 × Int32 × Int32 × Int32 × sG × sF) → Option (sG × sF)) (x1 : Int32) (x2 : Int32) (x3 : Int32) (x4 : Int32) (x5 : Int32) (x6 : Int32) (x7 : Int32) (g : sG) (f : sF) : Option (sG × sF) := p_GF_layFrom_J85 Rec K38 x1 x2 x3 x4 x5 x6 x7 (0 : Int32) g f
set_option maxRecDepth 100000 in
set_option maxHeartbeats 4000000 in
theorem s_GF_layFrom_J84 {K38 : (Int32 × Int32 × Int32 × Int32 × Int32 × Int32 × Int32 × sG × sF) → Option (sG × sF)} {d : Nat} {Rec : Int32 → Int32 → Int32 → Int32 → Int32 → Int32 → sG → sF → Option (sG × sF)} {p : Program} {l : Launch} {e : Env} {s : State} {m : MethodId} {args : Array Value} {below : List Frame} {meth : Method} {c : Code} {Q : State → Prop} {D : va_G} {ad : Nat → Nat} {cy : Nat → ClassId} {A : Nat → Prop} {H0 : Heap} {u : sG × sF} (Fx : CallFix p m c cX0_layFrom 15 s args (Cond.code yX0_layFrom cX0_layFrom 15 none :: wU) RX0) (hret : mRv p l e (rm_GF_layFrom (d + 1)) s m args below meth c Q D (cT cy) (cW ad cy) A H0 cX0_layFrom u) (hRec : ∀ (b1 b2 b3 b4 b5 b6 : Int32) (g : sG) (f : sF) (w : sG × sF), Rec b1 b2 b3 b4 b5 b6 g f = some w → mMv l yX0_layFrom (Cond.code yX0_layFrom cX0_layFrom 15 none :: wU) (rm_GF_layFrom d) D (cT cy) (cW ad cy) [.ref (ad 13), .int b1, .int b2, .int b3, .int b4, .int b5, .int b6] g f w) (hK38 : ∀ (z : Int32 × Int32 × Int32 × Int32 × Int32 × Int32 × Int32 × sG × sF), K38 z = some u → ∀ (ls : Array Slot) (H : Heap) (locs : List Loc), lv_has ls 15 [(0, .ref (ad 13)), (1, .int z.1), (2, .int z.2.1), (3, .int z.2.2.1), (4, .int z.2.2.2.1), (5, .int z.2.2.2.2.1), (6, .int z.2.2.2.2.2.1), (7, .int z.2.2.2.2.2.2.1)] → wH D (cT cy) (cW ad cy) A H0 s z.2.2.2.2.2.2.2.1 z.2.2.2.2.2.2.2.2 H locs → W p l e (rm_GF_layFrom (d + 1)) s m args below meth c H locs 0 0 Q (F0 m 38 ls [])) (x1 : Int32) (x2 : Int32) (x3 : Int32) (x4 : Int32) (x5 : Int32) (x6 : Int32) (x7 : Int32) (g : sG) (f : sF) (hf : p_GF_layFrom_J84 Rec K38 x1 x2 x3 x4 x5 x6 x7 g f = some u) : ∀ (ls : Array Slot) (H : Heap) (locs : List Loc), lv_has ls 15 [(0, .ref (ad 13)), (1, .int x1), (2, .int x2), (3, .int x3), (4, .int x4), (5, .int x5), (6, .int x6), (7, .int x7)] → wH D (cT cy) (cW ad cy) A H0 s g f H locs → W p l e (rm_GF_layFrom (d + 1)) s m args below meth c H locs 0 0 Q (F0 m 84 ls []) := by
  intro ls H locs hl hC
  unfold p_GF_layFrom_J84 at hf
  refine lv_iconst (v := (0 : Int32)) Fx.1 Fx.2.1 dX0_layFrom_84 (by decide) ?_
  exact s_GF_layFrom_J85 Fx hret hRec hK38 _ _ _ _ _ _ _ _ _ _  hf _ _ _ (lv_sub hl [0, 1, 2, 3, 4, 5, 6, 7] rfl) hC
noncomputable def p_GF_layFrom_J80 (Rec : Int32 → Int32 → Int32 → Int32 → Int32 → Int32 → sG → sF → Option (sG × sF)) (K38 : (Int32 × Int32 × Int32 × Int32 × Int32 × Int32 × Int32 × sG × sF) → Option (sG × sF)) (x1 : Int32) (x2 : Int32) (x3 : Int32) (x4 : Int32) (x5 : Int32) (x6 : Int32) (x7 : Int32) (g : sG) (f : sF) : Option (sG × sF) := p_GF_layFrom_J85 Rec K38 x1 x2 x3 x4 x5 x6 x7 (1 : Int32) g f
set_option maxRecDepth 100000 in
set_option maxHeartbeats 4000000 in
theorem s_GF_layFrom_J80 {K38 : (Int32 × Int32 × Int32 × Int32 × Int32 × Int32 × Int32 × sG × sF) → Option (sG × sF)} {d : Nat} {Rec : Int32 → Int32 → Int32 → Int32 → Int32 → Int32 → sG → sF → Option (sG × sF)} {p : Program} {l : Launch} {e : Env} {s : State} {m : MethodId} {args : Array Value} {below : List Frame} {meth : Method} {c : Code} {Q : State → Prop} {D : va_G} {ad : Nat → Nat} {cy : Nat → ClassId} {A : Nat → Prop} {H0 : Heap} {u : sG × sF} (Fx : CallFix p m c cX0_layFrom 15 s args (Cond.code yX0_layFrom cX0_layFrom 15 none :: wU) RX0) (hret : mRv p l e (rm_GF_layFrom (d + 1)) s m args below meth c Q D (cT cy) (cW ad cy) A H0 cX0_layFrom u) (hRec : ∀ (b1 b2 b3 b4 b5 b6 : Int32) (g : sG) (f : sF) (w : sG × sF), Rec b1 b2 b3 b4 b5 b6 g f = some w → mMv l yX0_layFrom (Cond.code yX0_layFrom cX0_layFrom 15 none :: wU) (rm_GF_layFrom d) D (cT cy) (cW ad cy) [.ref (ad 13), .int b1, .int b2, .int b3, .int b4, .int b5, .int b6] g f w) (hK38 : ∀ (z : Int32 × Int32 × Int32 × Int32 × Int32 × Int32 × Int32 × sG × sF), K38 z = some u → ∀ (ls : Array Slot) (H : Heap) (locs : List Loc), lv_has ls 15 [(0, .ref (ad 13)), (1, .int z.1), (2, .int z.2.1), (3, .int z.2.2.1), (4, .int z.2.2.2.1), (5, .int z.2.2.2.2.1), (6, .int z.2.2.2.2.2.1), (7, .int z.2.2.2.2.2.2.1)] → wH D (cT cy) (cW ad cy) A H0 s z.2.2.2.2.2.2.2.1 z.2.2.2.2.2.2.2.2 H locs → W p l e (rm_GF_layFrom (d + 1)) s m args below meth c H locs 0 0 Q (F0 m 38 ls [])) (x1 : Int32) (x2 : Int32) (x3 : Int32) (x4 : Int32) (x5 : Int32) (x6 : Int32) (x7 : Int32) (g : sG) (f : sF) (hf : p_GF_layFrom_J80 Rec K38 x1 x2 x3 x4 x5 x6 x7 g f = some u) : ∀ (ls : Array Slot) (H : Heap) (locs : List Loc), lv_has ls 15 [(0, .ref (ad 13)), (1, .int x1), (2, .int x2), (3, .int x3), (4, .int x4), (5, .int x5), (6, .int x6), (7, .int x7)] → wH D (cT cy) (cW ad cy) A H0 s g f H locs → W p l e (rm_GF_layFrom (d + 1)) s m args below meth c H locs 0 0 Q (F0 m 80 ls []) := by
  intro ls H locs hl hC
  unfold p_GF_layFrom_J80 at hf
  refine lv_iconst (v := (1 : Int32)) Fx.1 Fx.2.1 dX0_layFrom_80 (by decide) ?_
  refine lv_goto (tgt := 85) Fx.1 Fx.2.1 dX0_layFrom_81 (by decide) ?_
  exact s_GF_layFrom_J85 Fx hret hRec hK38 _ _ _ _ _ _ _ _ _ _  hf _ _ _ (lv_sub hl [0, 1, 2, 3, 4, 5, 6, 7] rfl) hC
noncomputable def p_GF_layFrom_L38 (Rec : Int32 → Int32 → Int32 → Int32 → Int32 → Int32 → sG → sF → Option (sG × sF)) (K38 : (Int32 × Int32 × Int32 × Int32 × Int32 × Int32 × Int32 × sG × sF) → Option (sG × sF)) (x1 : Int32) (x2 : Int32) (x3 : Int32) (x4 : Int32) (x5 : Int32) (x6 : Int32) (x7 : Int32) (g : sG) (f : sF) : Option (sG × sF) := (if (g 0) ≤ x7 then some (g, f) else (if (x2 &&& ((1 : Int32) <<< (x7 &&& (31 : Int32)))) = 0 then (if x1 < 0 ∨ 4 ≤ x1.toNatClampNeg then none else (if (f 15 x1.toNatClampNeg) = (-1 : Int32) then p_GF_layFrom_J80 Rec K38 x1 x2 x3 x4 x5 x6 x7 g f else (if x1 < 0 ∨ 4 ≤ x1.toNatClampNeg then none else (if (f 15 x1.toNatClampNeg) = x7 then p_GF_layFrom_J80 Rec K38 x1 x2 x3 x4 x5 x6 x7 g f else p_GF_layFrom_J84 Rec K38 x1 x2 x3 x4 x5 x6 x7 g f)))) else p_GF_layFrom_J84 Rec K38 x1 x2 x3 x4 x5 x6 x7 g f))
set_option maxRecDepth 100000 in
set_option maxHeartbeats 4000000 in
theorem s_GF_layFrom_L38 {K38 : (Int32 × Int32 × Int32 × Int32 × Int32 × Int32 × Int32 × sG × sF) → Option (sG × sF)} {d : Nat} {Rec : Int32 → Int32 → Int32 → Int32 → Int32 → Int32 → sG → sF → Option (sG × sF)} {p : Program} {l : Launch} {e : Env} {s : State} {m : MethodId} {args : Array Value} {below : List Frame} {meth : Method} {c : Code} {Q : State → Prop} {D : va_G} {ad : Nat → Nat} {cy : Nat → ClassId} {A : Nat → Prop} {H0 : Heap} {u : sG × sF} (Fx : CallFix p m c cX0_layFrom 15 s args (Cond.code yX0_layFrom cX0_layFrom 15 none :: wU) RX0) (hret : mRv p l e (rm_GF_layFrom (d + 1)) s m args below meth c Q D (cT cy) (cW ad cy) A H0 cX0_layFrom u) (hRec : ∀ (b1 b2 b3 b4 b5 b6 : Int32) (g : sG) (f : sF) (w : sG × sF), Rec b1 b2 b3 b4 b5 b6 g f = some w → mMv l yX0_layFrom (Cond.code yX0_layFrom cX0_layFrom 15 none :: wU) (rm_GF_layFrom d) D (cT cy) (cW ad cy) [.ref (ad 13), .int b1, .int b2, .int b3, .int b4, .int b5, .int b6] g f w) (hK38 : ∀ (z : Int32 × Int32 × Int32 × Int32 × Int32 × Int32 × Int32 × sG × sF), K38 z = some u → ∀ (ls : Array Slot) (H : Heap) (locs : List Loc), lv_has ls 15 [(0, .ref (ad 13)), (1, .int z.1), (2, .int z.2.1), (3, .int z.2.2.1), (4, .int z.2.2.2.1), (5, .int z.2.2.2.2.1), (6, .int z.2.2.2.2.2.1), (7, .int z.2.2.2.2.2.2.1)] → wH D (cT cy) (cW ad cy) A H0 s z.2.2.2.2.2.2.2.1 z.2.2.2.2.2.2.2.2 H locs → W p l e (rm_GF_layFrom (d + 1)) s m args below meth c H locs 0 0 Q (F0 m 38 ls [])) (x1 : Int32) (x2 : Int32) (x3 : Int32) (x4 : Int32) (x5 : Int32) (x6 : Int32) (x7 : Int32) (g : sG) (f : sF) (hf : p_GF_layFrom_L38 Rec K38 x1 x2 x3 x4 x5 x6 x7 g f = some u) : ∀ (ls : Array Slot) (H : Heap) (locs : List Loc), lv_has ls 15 [(0, .ref (ad 13)), (1, .int x1), (2, .int x2), (3, .int x3), (4, .int x4), (5, .int x5), (6, .int x6), (7, .int x7)] → wH D (cT cy) (cW ad cy) A H0 s g f H locs → W p l e (rm_GF_layFrom (d + 1)) s m args below meth c H locs 0 0 Q (F0 m 38 ls []) := by
  intro ls H locs hl hC
  unfold p_GF_layFrom_L38 at hf
  refine lv_iload Fx.1 Fx.2.1 dX0_layFrom_38 (lv_at hl 7 rfl) ?_
  refine lv_aload_n Fx.1 Fx.2.1 dX0_layFrom_40 rfl (lv_at hl 0 rfl) ?_
  refine gg_GF_instrument Fx hC wd_91 dX0_layFrom_41 ?_
  refine gg_In_strings Fx hC wd_31 dX0_layFrom_44 ?_
  refine lv_icmp_ge (tgt := 249) Fx.1 Fx.2.1 dX0_layFrom_47 (by decide) (fun hc => ?_) (fun hc => ?_)
  · replace hf := ift hc hf
    obtain rfl := Option.some.inj hf
    exact hret _ _ _ _ dX0_layFrom_249 hC
  · replace hf := iff_ hc hf
    refine lv_iload_n Fx.1 Fx.2.1 dX0_layFrom_50 rfl (lv_at hl 2 rfl) ?_
    refine lv_iconst (v := (1 : Int32)) Fx.1 Fx.2.1 dX0_layFrom_51 (by decide) ?_
    refine lv_iload Fx.1 Fx.2.1 dX0_layFrom_52 (lv_at hl 7 rfl) ?_
    refine lv_ishl Fx.1 Fx.2.1 dX0_layFrom_54 ?_
    refine lv_iand Fx.1 Fx.2.1 dX0_layFrom_55 ?_
    refine lv_if_ne (tgt := 84) Fx.1 Fx.2.1 dX0_layFrom_56 (by decide) (fun hc => ?_) (fun hc => ?_)
    · replace hf := iff_ hc hf
      exact s_GF_layFrom_J84 Fx hret hRec hK38 _ _ _ _ _ _ _ _ _  hf _ _ _ (lv_sub hl [0, 1, 2, 3, 4, 5, 6, 7] rfl) hC
    · replace hf := ift hc hf
      refine lv_aload_n Fx.1 Fx.2.1 dX0_layFrom_59 rfl (lv_at hl 0 rfl) ?_
      refine gg_GF_bonds Fx hC wd_105 dX0_layFrom_60 ?_
      refine lv_iload_n Fx.1 Fx.2.1 dX0_layFrom_63 rfl (lv_at hl 1 rfl) ?_
      obtain ⟨hi1, hf⟩ := gd_e hf
      refine ld_GF_bonds Fx hC hi1 dX0_layFrom_64 ?_
      refine lv_iconst (v := (-1 : Int32)) Fx.1 Fx.2.1 dX0_layFrom_65 (by decide) ?_
      refine lv_icmp_eq (tgt := 80) Fx.1 Fx.2.1 dX0_layFrom_66 (by decide) (fun hc => ?_) (fun hc => ?_)
      · replace hf := ift hc hf
        exact s_GF_layFrom_J80 Fx hret hRec hK38 _ _ _ _ _ _ _ _ _  hf _ _ _ (lv_sub hl [0, 1, 2, 3, 4, 5, 6, 7] rfl) hC
      · replace hf := iff_ hc hf
        refine lv_aload_n Fx.1 Fx.2.1 dX0_layFrom_69 rfl (lv_at hl 0 rfl) ?_
        refine gg_GF_bonds Fx hC wd_105 dX0_layFrom_70 ?_
        refine lv_iload_n Fx.1 Fx.2.1 dX0_layFrom_73 rfl (lv_at hl 1 rfl) ?_
        obtain ⟨hi2, hf⟩ := gd_e hf
        refine ld_GF_bonds Fx hC hi2 dX0_layFrom_74 ?_
        refine lv_iload Fx.1 Fx.2.1 dX0_layFrom_75 (lv_at hl 7 rfl) ?_
        refine lv_icmp_ne (tgt := 84) Fx.1 Fx.2.1 dX0_layFrom_77 (by decide) (fun hc => ?_) (fun hc => ?_)
        · replace hf := iff_ hc hf
          exact s_GF_layFrom_J84 Fx hret hRec hK38 _ _ _ _ _ _ _ _ _  hf _ _ _ (lv_sub hl [0, 1, 2, 3, 4, 5, 6, 7] rfl) hC
        · replace hf := ift hc hf
          exact s_GF_layFrom_J80 Fx hret hRec hK38 _ _ _ _ _ _ _ _ _  hf _ _ _ (lv_sub hl [0, 1, 2, 3, 4, 5, 6, 7] rfl) hC
set_option maxRecDepth 100000 in
set_option maxHeartbeats 4000000 in
theorem t_GF_layFrom_L38 {d : Nat} {Rec : Int32 → Int32 → Int32 → Int32 → Int32 → Int32 → sG → sF → Option (sG × sF)} {p : Program} {l : Launch} {e : Env} {s : State} {m : MethodId} {args : Array Value} {below : List Frame} {meth : Method} {c : Code} {Q : State → Prop} {D : va_G} {ad : Nat → Nat} {cy : Nat → ClassId} {A : Nat → Prop} {H0 : Heap} {u : sG × sF} (Fx : CallFix p m c cX0_layFrom 15 s args (Cond.code yX0_layFrom cX0_layFrom 15 none :: wU) RX0) (hret : mRv p l e (rm_GF_layFrom (d + 1)) s m args below meth c Q D (cT cy) (cW ad cy) A H0 cX0_layFrom u) (hRec : ∀ (b1 b2 b3 b4 b5 b6 : Int32) (g : sG) (f : sF) (w : sG × sF), Rec b1 b2 b3 b4 b5 b6 g f = some w → mMv l yX0_layFrom (Cond.code yX0_layFrom cX0_layFrom 15 none :: wU) (rm_GF_layFrom d) D (cT cy) (cW ad cy) [.ref (ad 13), .int b1, .int b2, .int b3, .int b4, .int b5, .int b6] g f w)  (n : Nat) (z : Int32 × Int32 × Int32 × Int32 × Int32 × Int32 × Int32 × sG × sF) (hz : itr (fun K z => p_GF_layFrom_L38 Rec K z.1 z.2.1 z.2.2.1 z.2.2.2.1 z.2.2.2.2.1 z.2.2.2.2.2.1 z.2.2.2.2.2.2.1 z.2.2.2.2.2.2.2.1 z.2.2.2.2.2.2.2.2) n z = some u) : ∀ (ls : Array Slot) (H : Heap) (locs : List Loc), lv_has ls 15 [(0, .ref (ad 13)), (1, .int z.1), (2, .int z.2.1), (3, .int z.2.2.1), (4, .int z.2.2.2.1), (5, .int z.2.2.2.2.1), (6, .int z.2.2.2.2.2.1), (7, .int z.2.2.2.2.2.2.1)] → wH D (cT cy) (cW ad cy) A H0 s z.2.2.2.2.2.2.2.1 z.2.2.2.2.2.2.2.2 H locs → W p l e (rm_GF_layFrom (d + 1)) s m args below meth c H locs 0 0 Q (F0 m 38 ls []) :=
  itr_all (B := fun K z => p_GF_layFrom_L38 Rec K z.1 z.2.1 z.2.2.1 z.2.2.2.1 z.2.2.2.2.1 z.2.2.2.2.2.1 z.2.2.2.2.2.2.1 z.2.2.2.2.2.2.2.1 z.2.2.2.2.2.2.2.2) (r := u) (fun z => ∀ (ls : Array Slot) (H : Heap) (locs : List Loc), lv_has ls 15 [(0, .ref (ad 13)), (1, .int z.1), (2, .int z.2.1), (3, .int z.2.2.1), (4, .int z.2.2.2.1), (5, .int z.2.2.2.2.1), (6, .int z.2.2.2.2.2.1), (7, .int z.2.2.2.2.2.2.1)] → wH D (cT cy) (cW ad cy) A H0 s z.2.2.2.2.2.2.2.1 z.2.2.2.2.2.2.2.2 H locs → W p l e (rm_GF_layFrom (d + 1)) s m args below meth c H locs 0 0 Q (F0 m 38 ls [])) (fun K hK z h => s_GF_layFrom_L38 (K38 := K) Fx hret hRec hK z.1 z.2.1 z.2.2.1 z.2.2.2.1 z.2.2.2.2.1 z.2.2.2.2.2.1 z.2.2.2.2.2.2.1 z.2.2.2.2.2.2.2.1 z.2.2.2.2.2.2.2.2 h) n z hz
noncomputable def p_GF_layFrom_J23 (Rec : Int32 → Int32 → Int32 → Int32 → Int32 → Int32 → sG → sF → Option (sG × sF)) (x3 : Int32) (x4 : Int32) (x5 : Int32) (x6 : Int32) (g : sG) (f : sF) : Option (sG × sF) := Option.bind (p_GF_tellPositions x3 x4 x5 x6 g f) (fun u1 => some (u1.1, u1.2))
set_option maxRecDepth 100000 in
set_option maxHeartbeats 4000000 in
theorem s_GF_layFrom_J23 {d : Nat} {Rec : Int32 → Int32 → Int32 → Int32 → Int32 → Int32 → sG → sF → Option (sG × sF)} {p : Program} {l : Launch} {e : Env} {s : State} {m : MethodId} {args : Array Value} {below : List Frame} {meth : Method} {c : Code} {Q : State → Prop} {D : va_G} {ad : Nat → Nat} {cy : Nat → ClassId} {A : Nat → Prop} {H0 : Heap} {u : sG × sF} (Fx : CallFix p m c cX0_layFrom 15 s args (Cond.code yX0_layFrom cX0_layFrom 15 none :: wU) RX0) (hret : mRv p l e (rm_GF_layFrom (d + 1)) s m args below meth c Q D (cT cy) (cW ad cy) A H0 cX0_layFrom u) (hRec : ∀ (b1 b2 b3 b4 b5 b6 : Int32) (g : sG) (f : sF) (w : sG × sF), Rec b1 b2 b3 b4 b5 b6 g f = some w → mMv l yX0_layFrom (Cond.code yX0_layFrom cX0_layFrom 15 none :: wU) (rm_GF_layFrom d) D (cT cy) (cW ad cy) [.ref (ad 13), .int b1, .int b2, .int b3, .int b4, .int b5, .int b6] g f w)  (x3 : Int32) (x4 : Int32) (x5 : Int32) (x6 : Int32) (g : sG) (f : sF) (hf : p_GF_layFrom_J23 Rec x3 x4 x5 x6 g f = some u) : ∀ (ls : Array Slot) (H : Heap) (locs : List Loc), lv_has ls 15 [(0, .ref (ad 13)), (3, .int x3), (4, .int x4), (5, .int x5), (6, .int x6)] → wH D (cT cy) (cW ad cy) A H0 s g f H locs → W p l e (rm_GF_layFrom (d + 1)) s m args below meth c H locs 0 0 Q (F0 m 23 ls []) := by
  intro ls H locs hl hC
  unfold p_GF_layFrom_J23 at hf
  refine lv_aload_n Fx.1 Fx.2.1 dX0_layFrom_23 rfl (lv_at hl 0 rfl) ?_
  refine lv_iload_n Fx.1 Fx.2.1 dX0_layFrom_24 rfl (lv_at hl 1 rfl) ?_
  refine lv_iload Fx.1 Fx.2.1 dX0_layFrom_25 (lv_at hl 2 rfl) ?_
  refine lv_iload Fx.1 Fx.2.1 dX0_layFrom_27 (lv_at hl 3 rfl) ?_
  refine lv_iload Fx.1 Fx.2.1 dX0_layFrom_29 (lv_at hl 4 rfl) ?_
  obtain ⟨u1, hu1, hf⟩ := bd_e hf
  refine ca_v (As := [.int x3, .int x4, .int x5, .int x6]) (rest := []) Fx hC (k_GF_tellPositions hu1) (cVU 4 Fx.2.2.2.2 wd_352 wd_353 wd_851 wd_5 wd_354 rfl rfl hd_GF_tellPositions ⟨rmle4 d (Nat.le_of_ble_eq_true rfl), rmle5 d (Nat.le_of_ble_eq_true rfl)⟩) 13 rfl rfl rfl hl.1 rfl (Nat.le_of_ble_eq_true rfl) dX0_layFrom_31 (fun H locs hC => ?_)
  obtain rfl := Option.some.inj hf
  exact hret _ _ _ _ dX0_layFrom_34 hC
noncomputable def p_GF_layFrom_B (Rec : Int32 → Int32 → Int32 → Int32 → Int32 → Int32 → sG → sF → Option (sG × sF)) (a1 : Int32) (a2 : Int32) (a3 : Int32) (a4 : Int32) (a5 : Int32) (a6 : Int32) (g : sG) (f : sF) : Option (sG × sF) := (if (a5 - a4) ≤ (3 : Int32) then (if (g 5) ≤ a1 then p_GF_layFrom_J23 Rec a3 a4 a5 a6 g f else (if a1 < (4 : Int32) then itr (fun K z => p_GF_layFrom_L38 Rec K z.1 z.2.1 z.2.2.1 z.2.2.2.1 z.2.2.2.2.1 z.2.2.2.2.2.1 z.2.2.2.2.2.2.1 z.2.2.2.2.2.2.2.1 z.2.2.2.2.2.2.2.2) FUEL (a1, a2, a3, a4, a5, a6, (0 : Int32), g, f) else p_GF_layFrom_J23 Rec a3 a4 a5 a6 g f)) else some (g, f))
noncomputable def p_GF_layFrom (d : Nat) (a1 : Int32) (a2 : Int32) (a3 : Int32) (a4 : Int32) (a5 : Int32) (a6 : Int32) (g : sG) (f : sF) : Option (sG × sF) := itr (fun K z => p_GF_layFrom_B (fun a1 a2 a3 a4 a5 a6 g f => K (a1, a2, a3, a4, a5, a6, g, f)) z.1 z.2.1 z.2.2.1 z.2.2.2.1 z.2.2.2.2.1 z.2.2.2.2.2.1 z.2.2.2.2.2.2.1 z.2.2.2.2.2.2.2) d (a1, a2, a3, a4, a5, a6, g, f)
set_option maxRecDepth 100000 in
set_option maxHeartbeats 4000000 in
theorem s_GF_layFrom {l : Launch} {d : Nat} {D : va_G} {ad : Nat → Nat} {cy : Nat → ClassId} {Rec : Int32 → Int32 → Int32 → Int32 → Int32 → Int32 → sG → sF → Option (sG × sF)} {a1 : Int32} {a2 : Int32} {a3 : Int32} {a4 : Int32} {a5 : Int32} {a6 : Int32} {u : sG × sF} {g : sG} {f : sF} (hRec : ∀ (b1 b2 b3 b4 b5 b6 : Int32) (g : sG) (f : sF) (w : sG × sF), Rec b1 b2 b3 b4 b5 b6 g f = some w → mMv l yX0_layFrom (Cond.code yX0_layFrom cX0_layFrom 15 none :: wU) (rm_GF_layFrom d) D (cT cy) (cW ad cy) [.ref (ad 13), .int b1, .int b2, .int b3, .int b4, .int b5, .int b6] g f w) (hf : p_GF_layFrom_B Rec a1 a2 a3 a4 a5 a6 g f = some u) : mMv l yX0_layFrom (Cond.code yX0_layFrom cX0_layFrom 15 none :: wU) (rm_GF_layFrom (d + 1)) D (cT cy) (cW ad cy) [.ref (ad 13), .int a1, .int a2, .int a3, .int a4, .int a5, .int a6] g f u := by
  refine mk_v (by decide) rfl (Nat.le_of_ble_eq_true rfl) ?_
  intro p e s m below meth c Q A H0 Fx hret ls H locs hl hC
  replace hl : lv_has ls 15 [(0, .ref (ad 13)), (1, .int a1), (2, .int a2), (3, .int a3), (4, .int a4), (5, .int a5), (6, .int a6)] := hl
  unfold p_GF_layFrom_B at hf
  refine lv_iload Fx.1 Fx.2.1 dX0_layFrom_0 (lv_at hl 5 rfl) ?_
  refine lv_iload Fx.1 Fx.2.1 dX0_layFrom_2 (lv_at hl 4 rfl) ?_
  refine lv_isub Fx.1 Fx.2.1 dX0_layFrom_4 ?_
  refine lv_iconst (v := (3 : Int32)) Fx.1 Fx.2.1 dX0_layFrom_5 (by decide) ?_
  refine lv_icmp_le (tgt := 10) Fx.1 Fx.2.1 dX0_layFrom_6 (by decide) (fun hc => ?_) (fun hc => ?_)
  · replace hf := ift hc hf
    refine lv_iload_n Fx.1 Fx.2.1 dX0_layFrom_10 rfl (lv_at hl 1 rfl) ?_
    refine lv_aload_n Fx.1 Fx.2.1 dX0_layFrom_11 rfl (lv_at hl 0 rfl) ?_
    refine gg_GF_size Fx hC wd_107 dX0_layFrom_12 ?_
    refine lv_icmp_ge (tgt := 23) Fx.1 Fx.2.1 dX0_layFrom_15 (by decide) (fun hc => ?_) (fun hc => ?_)
    · replace hf := ift hc hf
      exact s_GF_layFrom_J23 Fx hret hRec _ _ _ _ _ _  hf _ _ _ (lv_sub hl [0, 3, 4, 5, 6] rfl) hC
    · replace hf := iff_ hc hf
      refine lv_iload_n Fx.1 Fx.2.1 dX0_layFrom_18 rfl (lv_at hl 1 rfl) ?_
      refine lv_iconst (v := (4 : Int32)) Fx.1 Fx.2.1 dX0_layFrom_19 (by decide) ?_
      refine lv_icmp_lt (tgt := 35) Fx.1 Fx.2.1 dX0_layFrom_20 (by decide) (fun hc => ?_) (fun hc => ?_)
      · replace hf := ift hc hf
        refine lv_iconst (v := (0 : Int32)) Fx.1 Fx.2.1 dX0_layFrom_35 (by decide) ?_
        refine lv_istore (lv' := [(7, .int (0 : Int32)), (0, .ref (ad 13)), (1, .int a1), (2, .int a2), (3, .int a3), (4, .int a4), (5, .int a5), (6, .int a6)]) Fx.1 Fx.2.1 dX0_layFrom_36 hl (by decide) rfl (fun ls hl => ?_)
        exact t_GF_layFrom_L38 Fx hret hRec _ _ hf _ _ _ (lv_sub hl [1, 2, 3, 4, 5, 6, 7, 0] rfl) hC
      · replace hf := iff_ hc hf
        exact s_GF_layFrom_J23 Fx hret hRec _ _ _ _ _ _  hf _ _ _ (lv_sub hl [0, 3, 4, 5, 6] rfl) hC
  · replace hf := iff_ hc hf
    obtain rfl := Option.some.inj hf
    exact hret _ _ _ _ dX0_layFrom_9 hC
theorem k_GF_layFrom0 {l : Launch} {D : va_G} {ad : Nat → Nat} {cy : Nat → ClassId} {u : sG × sF} : ∀ (d : Nat) (z : Int32 × Int32 × Int32 × Int32 × Int32 × Int32 × sG × sF), itr (fun K z => p_GF_layFrom_B (fun a1 a2 a3 a4 a5 a6 g f => K (a1, a2, a3, a4, a5, a6, g, f)) z.1 z.2.1 z.2.2.1 z.2.2.2.1 z.2.2.2.2.1 z.2.2.2.2.2.1 z.2.2.2.2.2.2.1 z.2.2.2.2.2.2.2) d z = some u → mMv l yX0_layFrom (Cond.code yX0_layFrom cX0_layFrom 15 none :: wU) (rm_GF_layFrom d) D (cT cy) (cW ad cy) [.ref (ad 13), .int z.1, .int z.2.1, .int z.2.2.1, .int z.2.2.2.1, .int z.2.2.2.2.1, .int z.2.2.2.2.2.1] z.2.2.2.2.2.2.1 z.2.2.2.2.2.2.2 u := by
  intro d
  induction d generalizing u with
  | zero => intro z h; cases h
  | succ d ih =>
    intro z h
    exact s_GF_layFrom (fun b1 b2 b3 b4 b5 b6 g f w hw => ih (b1, b2, b3, b4, b5, b6, g, f) hw) h
theorem k_GF_layFrom {l : Launch} {d : Nat} {D : va_G} {ad : Nat → Nat} {cy : Nat → ClassId} {a1 : Int32} {a2 : Int32} {a3 : Int32} {a4 : Int32} {a5 : Int32} {a6 : Int32} {u : sG × sF} {g : sG} {f : sF} (hf : p_GF_layFrom d a1 a2 a3 a4 a5 a6 g f = some u) : mMv l yX0_layFrom (Cond.code yX0_layFrom cX0_layFrom 15 none :: wU) (rm_GF_layFrom d) D (cT cy) (cW ad cy) [.ref (ad 13), .int a1, .int a2, .int a3, .int a4, .int a5, .int a6] g f u := k_GF_layFrom0 d (a1, a2, a3, a4, a5, a6, g, f) hf
theorem k_GF_layFromD {l : Launch} {D : va_G} {ad : Nat → Nat} {cy : Nat → ClassId} {a1 : Int32} {a2 : Int32} {a3 : Int32} {a4 : Int32} {a5 : Int32} {a6 : Int32} {u : sG × sF} {g : sG} {f : sF} (hf : p_GF_layFrom DEP a1 a2 a3 a4 a5 a6 g f = some u) : mMv l yX0_layFrom (Cond.code yX0_layFrom cX0_layFrom 15 none :: wU) (rm_GF_layFrom 6) D (cT cy) (cW ad cy) [.ref (ad 13), .int a1, .int a2, .int a3, .int a4, .int a5, .int a6] g f u := DEP_eq ▸ k_GF_layFrom (d := DEP) hf
/-! FretHands$GripFinder.goThrough(I)V -/
abbrev rm_GF_goThrough : Room := { frames := 27, cells := 0, slots := 0, locals := 794 }
theorem hd_GF_goThrough : yX0_goThrough.cls = RX0 ∧ yX0_goThrough.cls ≠ "java/lang/invoke/MethodHandle" ∧ yX0_goThrough.cls ≠ "java/lang/invoke/VarHandle" ∧ (parseMethodDescriptor yX0_goThrough.desc).map (fun d => d.parameters.length) = some 1 := by decide +kernel
noncomputable def p_GF_goThrough_L39 (K39 : (Int32 × Int32 × sG × sF) → Option (sG × sF)) (x1 : Int32) (x2 : Int32) (g : sG) (f : sF) : Option (sG × sF) := (if (g 5) ≤ x2 then Option.bind (p_GF_layFrom DEP (0 : Int32) (0 : Int32) (0 : Int32) (g 1) (g 2) (0 : Int32) g f) (fun u1 => some (u1.1, u1.2)) else Option.bind (p_Tu_pitchOf x1 x2 g f) (fun u2 => (if x2 < 0 ∨ 4 ≤ x2.toNatClampNeg then none else lt_ (up2 f 14 x2.toNatClampNeg u2) (fun f4 => Option.bind (p_Tu_stringOf x1 x2 g f4) (fun u5 => (if x2 < 0 ∨ 4 ≤ x2.toNatClampNeg then none else lt_ (up2 f4 15 x2.toNatClampNeg u5) (fun f7 => lt_ (x2 + (1 : Int32)) (fun v8 => K39 (x1, v8, g, f7)))))))))
set_option maxRecDepth 100000 in
set_option maxHeartbeats 4000000 in
theorem s_GF_goThrough_L39 {K39 : (Int32 × Int32 × sG × sF) → Option (sG × sF)} {p : Program} {l : Launch} {e : Env} {s : State} {m : MethodId} {args : Array Value} {below : List Frame} {meth : Method} {c : Code} {Q : State → Prop} {D : va_G} {ad : Nat → Nat} {cy : Nat → ClassId} {A : Nat → Prop} {H0 : Heap} {u : sG × sF} (Fx : CallFix p m c cX0_goThrough 3 s args (Cond.code yX0_goThrough cX0_goThrough 3 none :: wU) RX0) (hret : mRv p l e rm_GF_goThrough s m args below meth c Q D (cT cy) (cW ad cy) A H0 cX0_goThrough u) (hK39 : ∀ (z : Int32 × Int32 × sG × sF), K39 z = some u → ∀ (ls : Array Slot) (H : Heap) (locs : List Loc), lv_has ls 3 [(0, .ref (ad 13)), (1, .int z.1), (2, .int z.2.1)] → wH D (cT cy) (cW ad cy) A H0 s z.2.2.1 z.2.2.2 H locs → W p l e rm_GF_goThrough s m args below meth c H locs 0 0 Q (F0 m 39 ls [])) (x1 : Int32) (x2 : Int32) (g : sG) (f : sF) (hf : p_GF_goThrough_L39 K39 x1 x2 g f = some u) : ∀ (ls : Array Slot) (H : Heap) (locs : List Loc), lv_has ls 3 [(0, .ref (ad 13)), (1, .int x1), (2, .int x2)] → wH D (cT cy) (cW ad cy) A H0 s g f H locs → W p l e rm_GF_goThrough s m args below meth c H locs 0 0 Q (F0 m 39 ls []) := by
  intro ls H locs hl hC
  unfold p_GF_goThrough_L39 at hf
  refine lv_iload_n Fx.1 Fx.2.1 dX0_goThrough_39 rfl (lv_at hl 2 rfl) ?_
  refine lv_aload_n Fx.1 Fx.2.1 dX0_goThrough_40 rfl (lv_at hl 0 rfl) ?_
  refine gg_GF_size Fx hC wd_107 dX0_goThrough_41 ?_
  refine lv_icmp_ge (tgt := 83) Fx.1 Fx.2.1 dX0_goThrough_44 (by decide) (fun hc => ?_) (fun hc => ?_)
  · replace hf := ift hc hf
    refine lv_aload_n Fx.1 Fx.2.1 dX0_goThrough_83 rfl (lv_at hl 0 rfl) ?_
    refine lv_iconst (v := (0 : Int32)) Fx.1 Fx.2.1 dX0_goThrough_84 (by decide) ?_
    refine lv_iconst (v := (0 : Int32)) Fx.1 Fx.2.1 dX0_goThrough_85 (by decide) ?_
    refine lv_iconst (v := (0 : Int32)) Fx.1 Fx.2.1 dX0_goThrough_86 (by decide) ?_
    refine lv_aload_n Fx.1 Fx.2.1 dX0_goThrough_87 rfl (lv_at hl 0 rfl) ?_
    refine gg_GF_instrument Fx hC wd_91 dX0_goThrough_88 ?_
    refine gg_In_lastFret Fx hC wd_35 dX0_goThrough_91 ?_
    refine lv_aload_n Fx.1 Fx.2.1 dX0_goThrough_94 rfl (lv_at hl 0 rfl) ?_
    refine gg_GF_instrument Fx hC wd_91 dX0_goThrough_95 ?_
    refine gg_In_capoFret Fx hC wd_40 dX0_goThrough_98 ?_
    refine lv_iconst (v := (0 : Int32)) Fx.1 Fx.2.1 dX0_goThrough_101 (by decide) ?_
    obtain ⟨u1, hu1, hf⟩ := bd_e hf
    refine ca_v (As := [.int (0 : Int32), .int (0 : Int32), .int (0 : Int32), .int (g 1), .int (g 2), .int (0 : Int32)]) (rest := []) Fx hC (k_GF_layFromD hu1) (cVU 6 Fx.2.2.2.2 wd_349 wd_350 wd_850 wd_5 wd_351 rfl rfl hd_GF_layFrom ⟨Nat.le_of_ble_eq_true rfl, Nat.le_of_ble_eq_true rfl⟩) 13 rfl rfl rfl hl.1 rfl (Nat.le_of_ble_eq_true rfl) dX0_goThrough_102 (fun H locs hC => ?_)
    obtain rfl := Option.some.inj hf
    exact hret _ _ _ _ dX0_goThrough_105 hC
  · replace hf := iff_ hc hf
    refine lv_aload_n Fx.1 Fx.2.1 dX0_goThrough_47 rfl (lv_at hl 0 rfl) ?_
    refine gg_GF_pitches Fx hC wd_104 dX0_goThrough_48 ?_
    refine lv_iload_n Fx.1 Fx.2.1 dX0_goThrough_51 rfl (lv_at hl 2 rfl) ?_
    refine lv_aload_n Fx.1 Fx.2.1 dX0_goThrough_52 rfl (lv_at hl 0 rfl) ?_
    refine gg_GF_tune Fx hC wd_93 dX0_goThrough_53 ?_
    refine lv_iload_n Fx.1 Fx.2.1 dX0_goThrough_56 rfl (lv_at hl 1 rfl) ?_
    refine lv_iload_n Fx.1 Fx.2.1 dX0_goThrough_57 rfl (lv_at hl 2 rfl) ?_
    obtain ⟨u2, hu2, hf⟩ := bd_e hf
    refine ca_i (As := [.int x1, .int x2]) (rest := [.int x2, .ref (ad 19)]) Fx hC (k_Tu_pitchOf hu2) (cVU 2 Fx.2.2.2.2 wd_347 wd_280 wd_281 wd_3 wd_282 rfl rfl hd_Tu_pitchOf ⟨Nat.le_of_ble_eq_true rfl, Nat.le_of_ble_eq_true rfl⟩) 4 rfl rfl rfl hl.1 rfl (Nat.le_of_ble_eq_true rfl) dX0_goThrough_58 (fun H locs hC => ?_)
    obtain ⟨hi3, hf⟩ := gd_e hf
    obtain ⟨f4, ef4, hf⟩ := lt_e hf
    refine st_GF_pitches Fx hC hi3 ef4 dX0_goThrough_61 (fun H locs hC => ?_)
    refine lv_aload_n Fx.1 Fx.2.1 dX0_goThrough_62 rfl (lv_at hl 0 rfl) ?_
    refine gg_GF_bonds Fx hC wd_105 dX0_goThrough_63 ?_
    refine lv_iload_n Fx.1 Fx.2.1 dX0_goThrough_66 rfl (lv_at hl 2 rfl) ?_
    refine lv_aload_n Fx.1 Fx.2.1 dX0_goThrough_67 rfl (lv_at hl 0 rfl) ?_
    refine gg_GF_tune Fx hC wd_93 dX0_goThrough_68 ?_
    refine lv_iload_n Fx.1 Fx.2.1 dX0_goThrough_71 rfl (lv_at hl 1 rfl) ?_
    refine lv_iload_n Fx.1 Fx.2.1 dX0_goThrough_72 rfl (lv_at hl 2 rfl) ?_
    obtain ⟨u5, hu5, hf⟩ := bd_e hf
    refine ca_i (As := [.int x1, .int x2]) (rest := [.int x2, .ref (ad 20)]) Fx hC (k_Tu_stringOf hu5) (cVU 2 Fx.2.2.2.2 wd_348 wd_299 wd_300 wd_3 wd_301 rfl rfl hd_Tu_stringOf ⟨Nat.le_of_ble_eq_true rfl, Nat.le_of_ble_eq_true rfl⟩) 4 rfl rfl rfl hl.1 rfl (Nat.le_of_ble_eq_true rfl) dX0_goThrough_73 (fun H locs hC => ?_)
    obtain ⟨hi6, hf⟩ := gd_e hf
    obtain ⟨f7, ef7, hf⟩ := lt_e hf
    refine st_GF_bonds Fx hC hi6 ef7 dX0_goThrough_76 (fun H locs hC => ?_)
    obtain ⟨v8, ev8, hf⟩ := lt_e hf
    refine lv_iinc (v := v8) (lv' := [(2, .int v8), (0, .ref (ad 13)), (1, .int x1)]) Fx.1 Fx.2.1 dX0_goThrough_77 hl (k := 2) rfl ev8.symm (by decide) rfl (fun ls hl => ?_)
    refine lv_goto (tgt := 39) Fx.1 Fx.2.1 dX0_goThrough_80 (by decide) ?_
    exact hK39 _ hf _ _ _ (lv_sub hl [1, 2, 0] rfl) hC
set_option maxRecDepth 100000 in
set_option maxHeartbeats 4000000 in
theorem t_GF_goThrough_L39 {p : Program} {l : Launch} {e : Env} {s : State} {m : MethodId} {args : Array Value} {below : List Frame} {meth : Method} {c : Code} {Q : State → Prop} {D : va_G} {ad : Nat → Nat} {cy : Nat → ClassId} {A : Nat → Prop} {H0 : Heap} {u : sG × sF} (Fx : CallFix p m c cX0_goThrough 3 s args (Cond.code yX0_goThrough cX0_goThrough 3 none :: wU) RX0) (hret : mRv p l e rm_GF_goThrough s m args below meth c Q D (cT cy) (cW ad cy) A H0 cX0_goThrough u)  (n : Nat) (z : Int32 × Int32 × sG × sF) (hz : itr (fun K z => p_GF_goThrough_L39 K z.1 z.2.1 z.2.2.1 z.2.2.2) n z = some u) : ∀ (ls : Array Slot) (H : Heap) (locs : List Loc), lv_has ls 3 [(0, .ref (ad 13)), (1, .int z.1), (2, .int z.2.1)] → wH D (cT cy) (cW ad cy) A H0 s z.2.2.1 z.2.2.2 H locs → W p l e rm_GF_goThrough s m args below meth c H locs 0 0 Q (F0 m 39 ls []) :=
  itr_all (B := fun K z => p_GF_goThrough_L39 K z.1 z.2.1 z.2.2.1 z.2.2.2) (r := u) (fun z => ∀ (ls : Array Slot) (H : Heap) (locs : List Loc), lv_has ls 3 [(0, .ref (ad 13)), (1, .int z.1), (2, .int z.2.1)] → wH D (cT cy) (cW ad cy) A H0 s z.2.2.1 z.2.2.2 H locs → W p l e rm_GF_goThrough s m args below meth c H locs 0 0 Q (F0 m 39 ls [])) (fun K hK z h => s_GF_goThrough_L39 (K39 := K) Fx hret hK z.1 z.2.1 z.2.2.1 z.2.2.2 h) n z hz
noncomputable def p_GF_goThrough_L2 (K2 : (Int32 × Int32 × sG × sF) → Option (sG × sF)) (x1 : Int32) (x2 : Int32) (g : sG) (f : sF) : Option (sG × sF) := (if (25 : Int32) ≤ x2 then Option.bind (p_Tu_sizeOf x1 g f) (fun u1 => lt_ (upd g 5 (if (4 : Int32) < u1 then (4 : Int32) else u1)) (fun g2 => itr (fun K z => p_GF_goThrough_L39 K z.1 z.2.1 z.2.2.1 z.2.2.2) FUEL (x1, (0 : Int32), g2, f))) else (if x2 < 0 ∨ 25 ≤ x2.toNatClampNeg then none else lt_ (up2 f 9 x2.toNatClampNeg (0 : Int32)) (fun f4 => lt_ (x2 + (1 : Int32)) (fun v5 => K2 (x1, v5, g, f4)))))
set_option maxRecDepth 100000 in
set_option maxHeartbeats 4000000 in
theorem s_GF_goThrough_L2 {K2 : (Int32 × Int32 × sG × sF) → Option (sG × sF)} {p : Program} {l : Launch} {e : Env} {s : State} {m : MethodId} {args : Array Value} {below : List Frame} {meth : Method} {c : Code} {Q : State → Prop} {D : va_G} {ad : Nat → Nat} {cy : Nat → ClassId} {A : Nat → Prop} {H0 : Heap} {u : sG × sF} (Fx : CallFix p m c cX0_goThrough 3 s args (Cond.code yX0_goThrough cX0_goThrough 3 none :: wU) RX0) (hret : mRv p l e rm_GF_goThrough s m args below meth c Q D (cT cy) (cW ad cy) A H0 cX0_goThrough u) (hK2 : ∀ (z : Int32 × Int32 × sG × sF), K2 z = some u → ∀ (ls : Array Slot) (H : Heap) (locs : List Loc), lv_has ls 3 [(0, .ref (ad 13)), (1, .int z.1), (2, .int z.2.1)] → wH D (cT cy) (cW ad cy) A H0 s z.2.2.1 z.2.2.2 H locs → W p l e rm_GF_goThrough s m args below meth c H locs 0 0 Q (F0 m 2 ls [])) (x1 : Int32) (x2 : Int32) (g : sG) (f : sF) (hf : p_GF_goThrough_L2 K2 x1 x2 g f = some u) : ∀ (ls : Array Slot) (H : Heap) (locs : List Loc), lv_has ls 3 [(0, .ref (ad 13)), (1, .int x1), (2, .int x2)] → wH D (cT cy) (cW ad cy) A H0 s g f H locs → W p l e rm_GF_goThrough s m args below meth c H locs 0 0 Q (F0 m 2 ls []) := by
  intro ls H locs hl hC
  unfold p_GF_goThrough_L2 at hf
  refine lv_iload_n Fx.1 Fx.2.1 dX0_goThrough_2 rfl (lv_at hl 2 rfl) ?_
  refine lv_bipush (v := (25 : Int32)) Fx.1 Fx.2.1 dX0_goThrough_3 (by decide) ?_
  refine lv_icmp_ge (tgt := 21) Fx.1 Fx.2.1 dX0_goThrough_5 (by decide) (fun hc => ?_) (fun hc => ?_)
  · replace hf := ift hc hf
    refine lv_aload_n Fx.1 Fx.2.1 dX0_goThrough_21 rfl (lv_at hl 0 rfl) ?_
    refine lv_aload_n Fx.1 Fx.2.1 dX0_goThrough_22 rfl (lv_at hl 0 rfl) ?_
    refine gg_GF_tune Fx hC wd_93 dX0_goThrough_23 ?_
    refine lv_iload_n Fx.1 Fx.2.1 dX0_goThrough_26 rfl (lv_at hl 1 rfl) ?_
    obtain ⟨u1, hu1, hf⟩ := bd_e hf
    refine ca_i (As := [.int x1]) (rest := [.ref (ad 13)]) Fx hC (k_Tu_sizeOf hu1) (cVU 1 Fx.2.2.2.2 wd_343 wd_272 wd_273 wd_3 wd_274 rfl rfl hd_Tu_sizeOf ⟨Nat.le_of_ble_eq_true rfl, Nat.le_of_ble_eq_true rfl⟩) 4 rfl rfl rfl hl.1 rfl (Nat.le_of_ble_eq_true rfl) dX0_goThrough_27 (fun H locs hC => ?_)
    refine lv_iconst (v := (4 : Int32)) Fx.1 Fx.2.1 dX0_goThrough_30 (by decide) ?_
    refine g_mmin (rest := [.ref (ad 13)]) Fx hl.1 wd_344 (Nat.le_of_ble_eq_true rfl) (Nat.le_of_ble_eq_true rfl) dX0_goThrough_31 ?_
    obtain ⟨g2, eg2, hf⟩ := lt_e hf
    refine gp_GF_size Fx hC wd_107 eg2 dX0_goThrough_34 (fun H locs hC => ?_)
    refine lv_iconst (v := (0 : Int32)) Fx.1 Fx.2.1 dX0_goThrough_37 (by decide) ?_
    refine lv_istore_n (lv' := [(2, .int (0 : Int32)), (0, .ref (ad 13)), (1, .int x1)]) Fx.1 Fx.2.1 dX0_goThrough_38 rfl hl (by decide) rfl (fun ls hl => ?_)
    exact t_GF_goThrough_L39 Fx hret _ _ hf _ _ _ (lv_sub hl [1, 2, 0] rfl) hC
  · replace hf := iff_ hc hf
    refine lv_aload_n Fx.1 Fx.2.1 dX0_goThrough_8 rfl (lv_at hl 0 rfl) ?_
    refine gg_GF_counts Fx hC wd_94 dX0_goThrough_9 ?_
    refine lv_iload_n Fx.1 Fx.2.1 dX0_goThrough_12 rfl (lv_at hl 2 rfl) ?_
    refine lv_iconst (v := (0 : Int32)) Fx.1 Fx.2.1 dX0_goThrough_13 (by decide) ?_
    obtain ⟨hi3, hf⟩ := gd_e hf
    obtain ⟨f4, ef4, hf⟩ := lt_e hf
    refine st_GF_counts Fx hC hi3 ef4 dX0_goThrough_14 (fun H locs hC => ?_)
    obtain ⟨v5, ev5, hf⟩ := lt_e hf
    refine lv_iinc (v := v5) (lv' := [(2, .int v5), (0, .ref (ad 13)), (1, .int x1)]) Fx.1 Fx.2.1 dX0_goThrough_15 hl (k := 2) rfl ev5.symm (by decide) rfl (fun ls hl => ?_)
    refine lv_goto (tgt := 2) Fx.1 Fx.2.1 dX0_goThrough_18 (by decide) ?_
    exact hK2 _ hf _ _ _ (lv_sub hl [1, 2, 0] rfl) hC
set_option maxRecDepth 100000 in
set_option maxHeartbeats 4000000 in
theorem t_GF_goThrough_L2 {p : Program} {l : Launch} {e : Env} {s : State} {m : MethodId} {args : Array Value} {below : List Frame} {meth : Method} {c : Code} {Q : State → Prop} {D : va_G} {ad : Nat → Nat} {cy : Nat → ClassId} {A : Nat → Prop} {H0 : Heap} {u : sG × sF} (Fx : CallFix p m c cX0_goThrough 3 s args (Cond.code yX0_goThrough cX0_goThrough 3 none :: wU) RX0) (hret : mRv p l e rm_GF_goThrough s m args below meth c Q D (cT cy) (cW ad cy) A H0 cX0_goThrough u)  (n : Nat) (z : Int32 × Int32 × sG × sF) (hz : itr (fun K z => p_GF_goThrough_L2 K z.1 z.2.1 z.2.2.1 z.2.2.2) n z = some u) : ∀ (ls : Array Slot) (H : Heap) (locs : List Loc), lv_has ls 3 [(0, .ref (ad 13)), (1, .int z.1), (2, .int z.2.1)] → wH D (cT cy) (cW ad cy) A H0 s z.2.2.1 z.2.2.2 H locs → W p l e rm_GF_goThrough s m args below meth c H locs 0 0 Q (F0 m 2 ls []) :=
  itr_all (B := fun K z => p_GF_goThrough_L2 K z.1 z.2.1 z.2.2.1 z.2.2.2) (r := u) (fun z => ∀ (ls : Array Slot) (H : Heap) (locs : List Loc), lv_has ls 3 [(0, .ref (ad 13)), (1, .int z.1), (2, .int z.2.1)] → wH D (cT cy) (cW ad cy) A H0 s z.2.2.1 z.2.2.2 H locs → W p l e rm_GF_goThrough s m args below meth c H locs 0 0 Q (F0 m 2 ls [])) (fun K hK z h => s_GF_goThrough_L2 (K2 := K) Fx hret hK z.1 z.2.1 z.2.2.1 z.2.2.2 h) n z hz
noncomputable def p_GF_goThrough (a1 : Int32) (g : sG) (f : sF) : Option (sG × sF) := itr (fun K z => p_GF_goThrough_L2 K z.1 z.2.1 z.2.2.1 z.2.2.2) FUEL (a1, (0 : Int32), g, f)
set_option maxRecDepth 100000 in
set_option maxHeartbeats 4000000 in
theorem k_GF_goThrough {l : Launch} {D : va_G} {ad : Nat → Nat} {cy : Nat → ClassId} {a1 : Int32} {u : sG × sF} {g : sG} {f : sF} (hf : p_GF_goThrough a1 g f = some u) : mMv l yX0_goThrough (Cond.code yX0_goThrough cX0_goThrough 3 none :: wU) rm_GF_goThrough D (cT cy) (cW ad cy) [.ref (ad 13), .int a1] g f u := by
  refine mk_v (by decide) rfl (Nat.le_of_ble_eq_true rfl) ?_
  intro p e s m below meth c Q A H0 Fx hret ls H locs hl hC
  replace hl : lv_has ls 3 [(0, .ref (ad 13)), (1, .int a1)] := hl
  unfold p_GF_goThrough at hf
  refine lv_iconst (v := (0 : Int32)) Fx.1 Fx.2.1 dX0_goThrough_0 (by decide) ?_
  refine lv_istore_n (lv' := [(2, .int (0 : Int32)), (0, .ref (ad 13)), (1, .int a1)]) Fx.1 Fx.2.1 dX0_goThrough_1 rfl hl (by decide) rfl (fun ls hl => ?_)
  exact t_GF_goThrough_L2 Fx hret _ _ hf _ _ _ (lv_sub hl [1, 2, 0] rfl) hC
