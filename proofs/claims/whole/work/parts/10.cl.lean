/-! FretHands$Instrument.addString(I)Z -/
abbrev rm_In_addString : Room := { frames := 0, cells := 0, slots := 0, locals := 0 }
theorem hd_In_addString : yX1_addString.cls = RX1 ∧ yX1_addString.cls ≠ "java/lang/invoke/MethodHandle" ∧ yX1_addString.cls ≠ "java/lang/invoke/VarHandle" ∧ (parseMethodDescriptor yX1_addString.desc).map (fun d => d.parameters.length) = some 1 := by decide +kernel
noncomputable def p_In_addString (a1 : Int32) (g : sG) (f : sF) : Option (Int32 × sG × sF) := (if (g 0) < (7 : Int32) then (if (g 0) < 0 ∨ 7 ≤ (g 0).toNatClampNeg then none else lt_ (up2 f 1 (g 0).toNatClampNeg a1) (fun f2 => lt_ (upd g 0 ((g 0) + (1 : Int32))) (fun g3 => some ((1 : Int32), g3, f2)))) else some ((0 : Int32), g, f))
set_option maxRecDepth 100000 in
set_option maxHeartbeats 4000000 in
theorem k_In_addString {l : Launch} {D : va_G} {ad : Nat → Nat} {cy : Nat → ClassId} {a1 : Int32} {u : Int32 × sG × sF} {g : sG} {f : sF} (hf : p_In_addString a1 g f = some u) : mMi l yX1_addString (Cond.code yX1_addString cX1_addString 2 (some .boolean) :: wU) rm_In_addString D (cT cy) (cW ad cy) [.ref (ad 2), .int a1] g f u := by
  refine mk_z (by decide) rfl (Nat.le_of_ble_eq_true rfl) ?_
  intro p e s m below meth c Q A H0 Fx hret ls H locs hl hC
  replace hl : lv_has ls 2 [(0, .ref (ad 2)), (1, .int a1)] := hl
  unfold p_In_addString at hf
  refine lv_aload_n Fx.1 Fx.2.1 dX1_addString_0 rfl (lv_at hl 0 rfl) ?_
  refine gg_In_strings Fx hC wd_27 dX1_addString_1 ?_
  refine lv_bipush (v := (7 : Int32)) Fx.1 Fx.2.1 dX1_addString_4 (by decide) ?_
  refine lv_icmp_lt (tgt := 11) Fx.1 Fx.2.1 dX1_addString_6 (by decide) (fun hc => ?_) (fun hc => ?_)
  · replace hf := ift hc hf
    refine lv_aload_n Fx.1 Fx.2.1 dX1_addString_11 rfl (lv_at hl 0 rfl) ?_
    refine gg_In_openPitches Fx hC wd_26 dX1_addString_12 ?_
    refine lv_aload_n Fx.1 Fx.2.1 dX1_addString_15 rfl (lv_at hl 0 rfl) ?_
    refine gg_In_strings Fx hC wd_27 dX1_addString_16 ?_
    refine lv_iload_n Fx.1 Fx.2.1 dX1_addString_19 rfl (lv_at hl 1 rfl) ?_
    obtain ⟨hi1, hf⟩ := gd_e hf
    obtain ⟨f2, ef2, hf⟩ := lt_e hf
    refine st_In_openPitches Fx hC hi1 ef2 dX1_addString_20 (fun H locs hC => ?_)
    refine lv_aload_n Fx.1 Fx.2.1 dX1_addString_21 rfl (lv_at hl 0 rfl) ?_
    refine lv_dup Fx.1 Fx.2.1 dX1_addString_22 rfl ?_
    refine gg_In_strings Fx hC wd_27 dX1_addString_23 ?_
    refine lv_iconst (v := (1 : Int32)) Fx.1 Fx.2.1 dX1_addString_26 (by decide) ?_
    refine lv_iadd Fx.1 Fx.2.1 dX1_addString_27 ?_
    obtain ⟨g3, eg3, hf⟩ := lt_e hf
    refine gp_In_strings Fx hC wd_27 eg3 dX1_addString_28 (fun H locs hC => ?_)
    refine lv_iconst (v := (1 : Int32)) Fx.1 Fx.2.1 dX1_addString_31 (by decide) ?_
    obtain rfl := Option.some.inj hf
    exact hret _ _ _ _ dX1_addString_32 z01_1 hC
  · replace hf := iff_ hc hf
    refine lv_iconst (v := (0 : Int32)) Fx.1 Fx.2.1 dX1_addString_9 (by decide) ?_
    obtain rfl := Option.some.inj hf
    exact hret _ _ _ _ dX1_addString_10 z01_0 hC
/-! FretHands$Plan.forget()V -/
abbrev rm_Pl_forget : Room := { frames := 0, cells := 0, slots := 0, locals := 0 }
theorem hd_Pl_forget : yX2_forget.cls = RX2 ∧ yX2_forget.cls ≠ "java/lang/invoke/MethodHandle" ∧ yX2_forget.cls ≠ "java/lang/invoke/VarHandle" ∧ (parseMethodDescriptor yX2_forget.desc).map (fun d => d.parameters.length) = some 0 := by decide +kernel
noncomputable def p_Pl_forget  (g : sG) (f : sF) : Option (sG × sF) := lt_ (upd g 4 (0 : Int32)) (fun g1 => some (g1, f))
set_option maxRecDepth 100000 in
set_option maxHeartbeats 4000000 in
theorem k_Pl_forget {l : Launch} {D : va_G} {ad : Nat → Nat} {cy : Nat → ClassId}  {u : sG × sF} {g : sG} {f : sF} (hf : p_Pl_forget  g f = some u) : mMv l yX2_forget (Cond.code yX2_forget cX2_forget 1 none :: wU) rm_Pl_forget D (cT cy) (cW ad cy) [.ref (ad 8)] g f u := by
  refine mk_v (by decide) rfl (Nat.le_of_ble_eq_true rfl) ?_
  intro p e s m below meth c Q A H0 Fx hret ls H locs hl hC
  replace hl : lv_has ls 1 [(0, .ref (ad 8))] := hl
  unfold p_Pl_forget at hf
  refine lv_aload_n Fx.1 Fx.2.1 dX2_forget_0 rfl (lv_at hl 0 rfl) ?_
  refine lv_iconst (v := (0 : Int32)) Fx.1 Fx.2.1 dX2_forget_1 (by decide) ?_
  obtain ⟨g1, eg1, hf⟩ := lt_e hf
  refine gp_Pl_events Fx hC wd_79 eg1 dX2_forget_2 (fun H locs hC => ?_)
  obtain rfl := Option.some.inj hf
  exact hret _ _ _ _ dX2_forget_5 hC
/-! FretHands.string(I)I -/
abbrev rm_FH_string : Room := { frames := 1, cells := 0, slots := 0, locals := 21 }
theorem hd_FH_string : yX9_string.cls = RX9 ∧ yX9_string.cls ≠ "java/lang/invoke/MethodHandle" ∧ yX9_string.cls ≠ "java/lang/invoke/VarHandle" ∧ (parseMethodDescriptor yX9_string.desc).map (fun d => d.parameters.length) = some 1 := by decide +kernel
noncomputable def p_FH_string (a1 : Int32) (g : sG) (f : sF) : Option (Int32 × sG × sF) := (if a1 < 0 then some ((-2 : Int32), g, f) else (if a1 ≤ (99 : Int32) then (if (g 3) ≤ 0 then Option.bind (p_In_addString a1 g f) (fun u1 => (if u1.1 = 0 then some ((-5 : Int32), u1.2.1, u1.2.2) else Option.bind (p_Pl_forget  u1.2.1 u1.2.2) (fun u2 => some (u2.1 0, u2.1, u2.2)))) else some ((-4 : Int32), g, f)) else some ((-2 : Int32), g, f)))
set_option maxRecDepth 100000 in
set_option maxHeartbeats 4000000 in
theorem k_FH_string {l : Launch} {D : va_G} {ad : Nat → Nat} {cy : Nat → ClassId} {a1 : Int32} {u : Int32 × sG × sF} {g : sG} {f : sF} (hf : p_FH_string a1 g f = some u) : mMi l yX9_string (Cond.code yX9_string cX9_string 2 (some .int) :: wU) rm_FH_string D (cT cy) (cW ad cy) [.ref (ad 0), .int a1] g f u := by
  refine mk_i (by decide) rfl (Nat.le_of_ble_eq_true rfl) ?_
  intro p e s m below meth c Q A H0 Fx hret ls H locs hl hC
  replace hl : lv_has ls 2 [(0, .ref (ad 0)), (1, .int a1)] := hl
  unfold p_FH_string at hf
  refine lv_iload_n Fx.1 Fx.2.1 dX9_string_0 rfl (lv_at hl 1 rfl) ?_
  refine lv_if_lt (tgt := 10) Fx.1 Fx.2.1 dX9_string_1 (by decide) (fun hc => ?_) (fun hc => ?_)
  · replace hf := ift hc hf
    refine lv_bipush (v := (-2 : Int32)) Fx.1 Fx.2.1 dX9_string_10 (by decide) ?_
    obtain rfl := Option.some.inj hf
    exact hret _ _ _ _ dX9_string_12 hC
  · replace hf := iff_ hc hf
    refine lv_iload_n Fx.1 Fx.2.1 dX9_string_4 rfl (lv_at hl 1 rfl) ?_
    refine lv_bipush (v := (99 : Int32)) Fx.1 Fx.2.1 dX9_string_5 (by decide) ?_
    refine lv_icmp_le (tgt := 13) Fx.1 Fx.2.1 dX9_string_7 (by decide) (fun hc => ?_) (fun hc => ?_)
    · replace hf := ift hc hf
      refine lv_aload_n Fx.1 Fx.2.1 dX9_string_13 rfl (lv_at hl 0 rfl) ?_
      refine gg_FH_tune Fx hC wd_204 dX9_string_14 ?_
      refine gg_Tu_events Fx hC wd_59 dX9_string_17 ?_
      refine lv_if_le (tgt := 26) Fx.1 Fx.2.1 dX9_string_20 (by decide) (fun hc => ?_) (fun hc => ?_)
      · replace hf := ift hc hf
        refine lv_aload_n Fx.1 Fx.2.1 dX9_string_26 rfl (lv_at hl 0 rfl) ?_
        refine gg_FH_instrument Fx hC wd_202 dX9_string_27 ?_
        refine lv_iload_n Fx.1 Fx.2.1 dX9_string_30 rfl (lv_at hl 1 rfl) ?_
        obtain ⟨u1, hu1, hf⟩ := bd_e hf
        refine ca_i (As := [.int a1]) (rest := []) Fx hC (k_In_addString hu1) (cVU 1 Fx.2.2.2.2 wd_224 wd_225 wd_226 wd_2 wd_227 rfl rfl hd_In_addString ⟨Nat.le_of_ble_eq_true rfl, Nat.le_of_ble_eq_true rfl⟩) 2 rfl rfl rfl hl.1 rfl (Nat.le_of_ble_eq_true rfl) dX9_string_31 (fun H locs hC => ?_)
        refine lv_if_ne (tgt := 40) Fx.1 Fx.2.1 dX9_string_34 (by decide) (fun hc => ?_) (fun hc => ?_)
        · replace hf := iff_ hc hf
          refine lv_aload_n Fx.1 Fx.2.1 dX9_string_40 rfl (lv_at hl 0 rfl) ?_
          refine gg_FH_latest Fx hC wd_205 dX9_string_41 ?_
          obtain ⟨u2, hu2, hf⟩ := bd_e hf
          refine ca_v (As := []) (rest := []) Fx hC (k_Pl_forget hu2) (cVU 0 Fx.2.2.2.2 wd_228 wd_229 wd_230 wd_4 wd_231 rfl rfl hd_Pl_forget ⟨Nat.le_of_ble_eq_true rfl, Nat.le_of_ble_eq_true rfl⟩) 8 rfl rfl rfl hl.1 rfl (Nat.le_of_ble_eq_true rfl) dX9_string_44 (fun H locs hC => ?_)
          refine lv_aload_n Fx.1 Fx.2.1 dX9_string_47 rfl (lv_at hl 0 rfl) ?_
          refine gg_FH_instrument Fx hC wd_202 dX9_string_48 ?_
          refine gg_In_strings Fx hC wd_29 dX9_string_51 ?_
          obtain rfl := Option.some.inj hf
          exact hret _ _ _ _ dX9_string_54 hC
        · replace hf := ift hc hf
          refine lv_bipush (v := (-5 : Int32)) Fx.1 Fx.2.1 dX9_string_37 (by decide) ?_
          obtain rfl := Option.some.inj hf
          exact hret _ _ _ _ dX9_string_39 hC
      · replace hf := iff_ hc hf
        refine lv_bipush (v := (-4 : Int32)) Fx.1 Fx.2.1 dX9_string_23 (by decide) ?_
        obtain rfl := Option.some.inj hf
        exact hret _ _ _ _ dX9_string_25 hC
    · replace hf := iff_ hc hf
      refine lv_bipush (v := (-2 : Int32)) Fx.1 Fx.2.1 dX9_string_10 (by decide) ?_
      obtain rfl := Option.some.inj hf
      exact hret _ _ _ _ dX9_string_12 hC
/-! FretHands.clear()I -/
abbrev rm_FH_clear : Room := { frames := 1, cells := 0, slots := 0, locals := 20 }
theorem hd_FH_clear : yX9_clear.cls = RX9 ∧ yX9_clear.cls ≠ "java/lang/invoke/MethodHandle" ∧ yX9_clear.cls ≠ "java/lang/invoke/VarHandle" ∧ (parseMethodDescriptor yX9_clear.desc).map (fun d => d.parameters.length) = some 0 := by decide +kernel
noncomputable def p_FH_clear  (g : sG) (f : sF) : Option (Int32 × sG × sF) := lt_ (g 3) (fun v1 => lt_ (upd g 0 (0 : Int32)) (fun g2 => lt_ (upd g2 3 (0 : Int32)) (fun g3 => Option.bind (p_Pl_forget  g3 f) (fun u4 => some (v1, u4.1, u4.2)))))
set_option maxRecDepth 100000 in
set_option maxHeartbeats 4000000 in
theorem k_FH_clear {l : Launch} {D : va_G} {ad : Nat → Nat} {cy : Nat → ClassId}  {u : Int32 × sG × sF} {g : sG} {f : sF} (hf : p_FH_clear  g f = some u) : mMi l yX9_clear (Cond.code yX9_clear cX9_clear 2 (some .int) :: wU) rm_FH_clear D (cT cy) (cW ad cy) [.ref (ad 0)] g f u := by
  refine mk_i (by decide) rfl (Nat.le_of_ble_eq_true rfl) ?_
  intro p e s m below meth c Q A H0 Fx hret ls H locs hl hC
  replace hl : lv_has ls 2 [(0, .ref (ad 0))] := hl
  unfold p_FH_clear at hf
  refine lv_aload_n Fx.1 Fx.2.1 dX9_clear_0 rfl (lv_at hl 0 rfl) ?_
  refine gg_FH_tune Fx hC wd_204 dX9_clear_1 ?_
  refine gg_Tu_events Fx hC wd_59 dX9_clear_4 ?_
  obtain ⟨v1, ev1, hf⟩ := lt_e hf
  refine tpi ev1 ?_
  refine lv_istore_n (lv' := [(1, .int v1), (0, .ref (ad 0))]) Fx.1 Fx.2.1 dX9_clear_7 rfl hl (by decide) rfl (fun ls hl => ?_)
  refine lv_aload_n Fx.1 Fx.2.1 dX9_clear_8 rfl (lv_at hl 1 rfl) ?_
  refine gg_FH_instrument Fx hC wd_202 dX9_clear_9 ?_
  refine lv_iconst (v := (0 : Int32)) Fx.1 Fx.2.1 dX9_clear_12 (by decide) ?_
  obtain ⟨g2, eg2, hf⟩ := lt_e hf
  refine gp_In_strings Fx hC wd_29 eg2 dX9_clear_13 (fun H locs hC => ?_)
  refine lv_aload_n Fx.1 Fx.2.1 dX9_clear_16 rfl (lv_at hl 1 rfl) ?_
  refine gg_FH_tune Fx hC wd_204 dX9_clear_17 ?_
  refine lv_iconst (v := (0 : Int32)) Fx.1 Fx.2.1 dX9_clear_20 (by decide) ?_
  obtain ⟨g3, eg3, hf⟩ := lt_e hf
  refine gp_Tu_events Fx hC wd_59 eg3 dX9_clear_21 (fun H locs hC => ?_)
  refine lv_aload_n Fx.1 Fx.2.1 dX9_clear_24 rfl (lv_at hl 1 rfl) ?_
  refine gg_FH_latest Fx hC wd_205 dX9_clear_25 ?_
  obtain ⟨u4, hu4, hf⟩ := bd_e hf
  refine ca_v (As := []) (rest := []) Fx hC (k_Pl_forget hu4) (cVU 0 Fx.2.2.2.2 wd_228 wd_229 wd_230 wd_4 wd_231 rfl rfl hd_Pl_forget ⟨Nat.le_of_ble_eq_true rfl, Nat.le_of_ble_eq_true rfl⟩) 8 rfl rfl rfl hl.1 rfl (Nat.le_of_ble_eq_true rfl) dX9_clear_28 (fun H locs hC => ?_)
  refine lv_iload_n Fx.1 Fx.2.1 dX9_clear_31 rfl (lv_at hl 0 rfl) ?_
  obtain rfl := Option.some.inj hf
  exact hret _ _ _ _ dX9_clear_32 hC
/-! FretHands.neck(I)I -/
abbrev rm_FH_neck : Room := { frames := 1, cells := 0, slots := 0, locals := 20 }
theorem hd_FH_neck : yX9_neck.cls = RX9 ∧ yX9_neck.cls ≠ "java/lang/invoke/MethodHandle" ∧ yX9_neck.cls ≠ "java/lang/invoke/VarHandle" ∧ (parseMethodDescriptor yX9_neck.desc).map (fun d => d.parameters.length) = some 1 := by decide +kernel
noncomputable def p_FH_neck (a1 : Int32) (g : sG) (f : sF) : Option (Int32 × sG × sF) := (if a1 < (1 : Int32) then some ((-2 : Int32), g, f) else (if (24 : Int32) < a1 then some ((-2 : Int32), g, f) else (if (g 2) < a1 then lt_ (g 1) (fun v1 => lt_ (upd g 1 a1) (fun g2 => Option.bind (p_Pl_forget  g2 f) (fun u3 => some (v1, u3.1, u3.2)))) else some ((-2 : Int32), g, f))))
set_option maxRecDepth 100000 in
set_option maxHeartbeats 4000000 in
theorem k_FH_neck {l : Launch} {D : va_G} {ad : Nat → Nat} {cy : Nat → ClassId} {a1 : Int32} {u : Int32 × sG × sF} {g : sG} {f : sF} (hf : p_FH_neck a1 g f = some u) : mMi l yX9_neck (Cond.code yX9_neck cX9_neck 3 (some .int) :: wU) rm_FH_neck D (cT cy) (cW ad cy) [.ref (ad 0), .int a1] g f u := by
  refine mk_i (by decide) rfl (Nat.le_of_ble_eq_true rfl) ?_
  intro p e s m below meth c Q A H0 Fx hret ls H locs hl hC
  replace hl : lv_has ls 3 [(0, .ref (ad 0)), (1, .int a1)] := hl
  unfold p_FH_neck at hf
  refine lv_iload_n Fx.1 Fx.2.1 dX9_neck_0 rfl (lv_at hl 1 rfl) ?_
  refine lv_iconst (v := (1 : Int32)) Fx.1 Fx.2.1 dX9_neck_1 (by decide) ?_
  refine lv_icmp_lt (tgt := 22) Fx.1 Fx.2.1 dX9_neck_2 (by decide) (fun hc => ?_) (fun hc => ?_)
  · replace hf := ift hc hf
    refine lv_bipush (v := (-2 : Int32)) Fx.1 Fx.2.1 dX9_neck_22 (by decide) ?_
    obtain rfl := Option.some.inj hf
    exact hret _ _ _ _ dX9_neck_24 hC
  · replace hf := iff_ hc hf
    refine lv_iload_n Fx.1 Fx.2.1 dX9_neck_5 rfl (lv_at hl 1 rfl) ?_
    refine lv_bipush (v := (24 : Int32)) Fx.1 Fx.2.1 dX9_neck_6 (by decide) ?_
    refine lv_icmp_gt (tgt := 22) Fx.1 Fx.2.1 dX9_neck_8 (by decide) (fun hc => ?_) (fun hc => ?_)
    · replace hf := ift hc hf
      refine lv_bipush (v := (-2 : Int32)) Fx.1 Fx.2.1 dX9_neck_22 (by decide) ?_
      obtain rfl := Option.some.inj hf
      exact hret _ _ _ _ dX9_neck_24 hC
    · replace hf := iff_ hc hf
      refine lv_iload_n Fx.1 Fx.2.1 dX9_neck_11 rfl (lv_at hl 1 rfl) ?_
      refine lv_aload_n Fx.1 Fx.2.1 dX9_neck_12 rfl (lv_at hl 0 rfl) ?_
      refine gg_FH_instrument Fx hC wd_202 dX9_neck_13 ?_
      refine gg_In_capoFret Fx hC wd_38 dX9_neck_16 ?_
      refine lv_icmp_gt (tgt := 25) Fx.1 Fx.2.1 dX9_neck_19 (by decide) (fun hc => ?_) (fun hc => ?_)
      · replace hf := ift hc hf
        refine lv_aload_n Fx.1 Fx.2.1 dX9_neck_25 rfl (lv_at hl 0 rfl) ?_
        refine gg_FH_instrument Fx hC wd_202 dX9_neck_26 ?_
        refine gg_In_lastFret Fx hC wd_33 dX9_neck_29 ?_
        obtain ⟨v1, ev1, hf⟩ := lt_e hf
        refine tpi ev1 ?_
        refine lv_istore_n (lv' := [(2, .int v1), (0, .ref (ad 0)), (1, .int a1)]) Fx.1 Fx.2.1 dX9_neck_32 rfl hl (by decide) rfl (fun ls hl => ?_)
        refine lv_aload_n Fx.1 Fx.2.1 dX9_neck_33 rfl (lv_at hl 1 rfl) ?_
        refine gg_FH_instrument Fx hC wd_202 dX9_neck_34 ?_
        refine lv_iload_n Fx.1 Fx.2.1 dX9_neck_37 rfl (lv_at hl 2 rfl) ?_
        obtain ⟨g2, eg2, hf⟩ := lt_e hf
        refine gp_In_lastFret Fx hC wd_33 eg2 dX9_neck_38 (fun H locs hC => ?_)
        refine lv_aload_n Fx.1 Fx.2.1 dX9_neck_41 rfl (lv_at hl 1 rfl) ?_
        refine gg_FH_latest Fx hC wd_205 dX9_neck_42 ?_
        obtain ⟨u3, hu3, hf⟩ := bd_e hf
        refine ca_v (As := []) (rest := []) Fx hC (k_Pl_forget hu3) (cVU 0 Fx.2.2.2.2 wd_228 wd_229 wd_230 wd_4 wd_231 rfl rfl hd_Pl_forget ⟨Nat.le_of_ble_eq_true rfl, Nat.le_of_ble_eq_true rfl⟩) 8 rfl rfl rfl hl.1 rfl (Nat.le_of_ble_eq_true rfl) dX9_neck_45 (fun H locs hC => ?_)
        refine lv_iload_n Fx.1 Fx.2.1 dX9_neck_48 rfl (lv_at hl 0 rfl) ?_
        obtain rfl := Option.some.inj hf
        exact hret _ _ _ _ dX9_neck_49 hC
      · replace hf := iff_ hc hf
        refine lv_bipush (v := (-2 : Int32)) Fx.1 Fx.2.1 dX9_neck_22 (by decide) ?_
        obtain rfl := Option.some.inj hf
        exact hret _ _ _ _ dX9_neck_24 hC
/-! FretHands.capo(I)I -/
abbrev rm_FH_capo : Room := { frames := 1, cells := 0, slots := 0, locals := 20 }
theorem hd_FH_capo : yX9_capo.cls = RX9 ∧ yX9_capo.cls ≠ "java/lang/invoke/MethodHandle" ∧ yX9_capo.cls ≠ "java/lang/invoke/VarHandle" ∧ (parseMethodDescriptor yX9_capo.desc).map (fun d => d.parameters.length) = some 1 := by decide +kernel
noncomputable def p_FH_capo (a1 : Int32) (g : sG) (f : sF) : Option (Int32 × sG × sF) := (if a1 < 0 then some ((-2 : Int32), g, f) else (if a1 < (g 1) then lt_ (g 2) (fun v1 => lt_ (upd g 2 a1) (fun g2 => Option.bind (p_Pl_forget  g2 f) (fun u3 => some (v1, u3.1, u3.2)))) else some ((-2 : Int32), g, f)))
set_option maxRecDepth 100000 in
set_option maxHeartbeats 4000000 in
theorem k_FH_capo {l : Launch} {D : va_G} {ad : Nat → Nat} {cy : Nat → ClassId} {a1 : Int32} {u : Int32 × sG × sF} {g : sG} {f : sF} (hf : p_FH_capo a1 g f = some u) : mMi l yX9_capo (Cond.code yX9_capo cX9_capo 3 (some .int) :: wU) rm_FH_capo D (cT cy) (cW ad cy) [.ref (ad 0), .int a1] g f u := by
  refine mk_i (by decide) rfl (Nat.le_of_ble_eq_true rfl) ?_
  intro p e s m below meth c Q A H0 Fx hret ls H locs hl hC
  replace hl : lv_has ls 3 [(0, .ref (ad 0)), (1, .int a1)] := hl
  unfold p_FH_capo at hf
  refine lv_iload_n Fx.1 Fx.2.1 dX9_capo_0 rfl (lv_at hl 1 rfl) ?_
  refine lv_if_lt (tgt := 15) Fx.1 Fx.2.1 dX9_capo_1 (by decide) (fun hc => ?_) (fun hc => ?_)
  · replace hf := ift hc hf
    refine lv_bipush (v := (-2 : Int32)) Fx.1 Fx.2.1 dX9_capo_15 (by decide) ?_
    obtain rfl := Option.some.inj hf
    exact hret _ _ _ _ dX9_capo_17 hC
  · replace hf := iff_ hc hf
    refine lv_iload_n Fx.1 Fx.2.1 dX9_capo_4 rfl (lv_at hl 1 rfl) ?_
    refine lv_aload_n Fx.1 Fx.2.1 dX9_capo_5 rfl (lv_at hl 0 rfl) ?_
    refine gg_FH_instrument Fx hC wd_202 dX9_capo_6 ?_
    refine gg_In_lastFret Fx hC wd_33 dX9_capo_9 ?_
    refine lv_icmp_lt (tgt := 18) Fx.1 Fx.2.1 dX9_capo_12 (by decide) (fun hc => ?_) (fun hc => ?_)
    · replace hf := ift hc hf
      refine lv_aload_n Fx.1 Fx.2.1 dX9_capo_18 rfl (lv_at hl 0 rfl) ?_
      refine gg_FH_instrument Fx hC wd_202 dX9_capo_19 ?_
      refine gg_In_capoFret Fx hC wd_38 dX9_capo_22 ?_
      obtain ⟨v1, ev1, hf⟩ := lt_e hf
      refine tpi ev1 ?_
      refine lv_istore_n (lv' := [(2, .int v1), (0, .ref (ad 0)), (1, .int a1)]) Fx.1 Fx.2.1 dX9_capo_25 rfl hl (by decide) rfl (fun ls hl => ?_)
      refine lv_aload_n Fx.1 Fx.2.1 dX9_capo_26 rfl (lv_at hl 1 rfl) ?_
      refine gg_FH_instrument Fx hC wd_202 dX9_capo_27 ?_
      refine lv_iload_n Fx.1 Fx.2.1 dX9_capo_30 rfl (lv_at hl 2 rfl) ?_
      obtain ⟨g2, eg2, hf⟩ := lt_e hf
      refine gp_In_capoFret Fx hC wd_38 eg2 dX9_capo_31 (fun H locs hC => ?_)
      refine lv_aload_n Fx.1 Fx.2.1 dX9_capo_34 rfl (lv_at hl 1 rfl) ?_
      refine gg_FH_latest Fx hC wd_205 dX9_capo_35 ?_
      obtain ⟨u3, hu3, hf⟩ := bd_e hf
      refine ca_v (As := []) (rest := []) Fx hC (k_Pl_forget hu3) (cVU 0 Fx.2.2.2.2 wd_228 wd_229 wd_230 wd_4 wd_231 rfl rfl hd_Pl_forget ⟨Nat.le_of_ble_eq_true rfl, Nat.le_of_ble_eq_true rfl⟩) 8 rfl rfl rfl hl.1 rfl (Nat.le_of_ble_eq_true rfl) dX9_capo_38 (fun H locs hC => ?_)
      refine lv_iload_n Fx.1 Fx.2.1 dX9_capo_41 rfl (lv_at hl 0 rfl) ?_
      obtain rfl := Option.some.inj hf
      exact hret _ _ _ _ dX9_capo_42 hC
    · replace hf := iff_ hc hf
      refine lv_bipush (v := (-2 : Int32)) Fx.1 Fx.2.1 dX9_capo_15 (by decide) ?_
      obtain rfl := Option.some.inj hf
      exact hret _ _ _ _ dX9_capo_17 hC
/-! FretHands.weight(II)I -/
abbrev rm_FH_weight : Room := { frames := 1, cells := 0, slots := 0, locals := 20 }
theorem hd_FH_weight : yX9_weight.cls = RX9 ∧ yX9_weight.cls ≠ "java/lang/invoke/MethodHandle" ∧ yX9_weight.cls ≠ "java/lang/invoke/VarHandle" ∧ (parseMethodDescriptor yX9_weight.desc).map (fun d => d.parameters.length) = some 2 := by decide +kernel
noncomputable def p_FH_weight (a1 : Int32) (a2 : Int32) (g : sG) (f : sF) : Option (Int32 × sG × sF) := (if a1 < 0 then some ((-2 : Int32), g, f) else (if (4 : Int32) ≤ a1 then some ((-2 : Int32), g, f) else (if a2 < 0 then some ((-2 : Int32), g, f) else (if a2 ≤ (20 : Int32) then (if a1 < 0 ∨ 4 ≤ a1.toNatClampNeg then none else lt_ (f 0 a1.toNatClampNeg) (fun v2 => (if a1 < 0 ∨ 4 ≤ a1.toNatClampNeg then none else lt_ (up2 f 0 a1.toNatClampNeg a2) (fun f4 => Option.bind (p_Pl_forget  g f4) (fun u5 => some (v2, u5.1, u5.2)))))) else some ((-2 : Int32), g, f)))))
set_option maxRecDepth 100000 in
set_option maxHeartbeats 4000000 in
theorem k_FH_weight {l : Launch} {D : va_G} {ad : Nat → Nat} {cy : Nat → ClassId} {a1 : Int32} {a2 : Int32} {u : Int32 × sG × sF} {g : sG} {f : sF} (hf : p_FH_weight a1 a2 g f = some u) : mMi l yX9_weight (Cond.code yX9_weight cX9_weight 4 (some .int) :: wU) rm_FH_weight D (cT cy) (cW ad cy) [.ref (ad 0), .int a1, .int a2] g f u := by
  refine mk_i (by decide) rfl (Nat.le_of_ble_eq_true rfl) ?_
  intro p e s m below meth c Q A H0 Fx hret ls H locs hl hC
  replace hl : lv_has ls 4 [(0, .ref (ad 0)), (1, .int a1), (2, .int a2)] := hl
  unfold p_FH_weight at hf
  refine lv_iload_n Fx.1 Fx.2.1 dX9_weight_0 rfl (lv_at hl 1 rfl) ?_
  refine lv_if_lt (tgt := 19) Fx.1 Fx.2.1 dX9_weight_1 (by decide) (fun hc => ?_) (fun hc => ?_)
  · replace hf := ift hc hf
    refine lv_bipush (v := (-2 : Int32)) Fx.1 Fx.2.1 dX9_weight_19 (by decide) ?_
    obtain rfl := Option.some.inj hf
    exact hret _ _ _ _ dX9_weight_21 hC
  · replace hf := iff_ hc hf
    refine lv_iload_n Fx.1 Fx.2.1 dX9_weight_4 rfl (lv_at hl 1 rfl) ?_
    refine lv_iconst (v := (4 : Int32)) Fx.1 Fx.2.1 dX9_weight_5 (by decide) ?_
    refine lv_icmp_ge (tgt := 19) Fx.1 Fx.2.1 dX9_weight_6 (by decide) (fun hc => ?_) (fun hc => ?_)
    · replace hf := ift hc hf
      refine lv_bipush (v := (-2 : Int32)) Fx.1 Fx.2.1 dX9_weight_19 (by decide) ?_
      obtain rfl := Option.some.inj hf
      exact hret _ _ _ _ dX9_weight_21 hC
    · replace hf := iff_ hc hf
      refine lv_iload_n Fx.1 Fx.2.1 dX9_weight_9 rfl (lv_at hl 2 rfl) ?_
      refine lv_if_lt (tgt := 19) Fx.1 Fx.2.1 dX9_weight_10 (by decide) (fun hc => ?_) (fun hc => ?_)
      · replace hf := ift hc hf
        refine lv_bipush (v := (-2 : Int32)) Fx.1 Fx.2.1 dX9_weight_19 (by decide) ?_
        obtain rfl := Option.some.inj hf
        exact hret _ _ _ _ dX9_weight_21 hC
      · replace hf := iff_ hc hf
        refine lv_iload_n Fx.1 Fx.2.1 dX9_weight_13 rfl (lv_at hl 2 rfl) ?_
        refine lv_bipush (v := (20 : Int32)) Fx.1 Fx.2.1 dX9_weight_14 (by decide) ?_
        refine lv_icmp_le (tgt := 22) Fx.1 Fx.2.1 dX9_weight_16 (by decide) (fun hc => ?_) (fun hc => ?_)
        · replace hf := ift hc hf
          refine lv_aload_n Fx.1 Fx.2.1 dX9_weight_22 rfl (lv_at hl 0 rfl) ?_
          refine gg_FH_weights Fx hC wd_203 dX9_weight_23 ?_
          refine lv_iload_n Fx.1 Fx.2.1 dX9_weight_26 rfl (lv_at hl 1 rfl) ?_
          obtain ⟨hi1, hf⟩ := gd_e hf
          refine ld_FH_weights Fx hC hi1 dX9_weight_27 ?_
          obtain ⟨v2, ev2, hf⟩ := lt_e hf
          refine tpi ev2 ?_
          refine lv_istore_n (lv' := [(3, .int v2), (0, .ref (ad 0)), (1, .int a1), (2, .int a2)]) Fx.1 Fx.2.1 dX9_weight_28 rfl hl (by decide) rfl (fun ls hl => ?_)
          refine lv_aload_n Fx.1 Fx.2.1 dX9_weight_29 rfl (lv_at hl 1 rfl) ?_
          refine gg_FH_weights Fx hC wd_203 dX9_weight_30 ?_
          refine lv_iload_n Fx.1 Fx.2.1 dX9_weight_33 rfl (lv_at hl 2 rfl) ?_
          refine lv_iload_n Fx.1 Fx.2.1 dX9_weight_34 rfl (lv_at hl 3 rfl) ?_
          obtain ⟨hi3, hf⟩ := gd_e hf
          obtain ⟨f4, ef4, hf⟩ := lt_e hf
          refine st_FH_weights Fx hC hi3 ef4 dX9_weight_35 (fun H locs hC => ?_)
          refine lv_aload_n Fx.1 Fx.2.1 dX9_weight_36 rfl (lv_at hl 1 rfl) ?_
          refine gg_FH_latest Fx hC wd_205 dX9_weight_37 ?_
          obtain ⟨u5, hu5, hf⟩ := bd_e hf
          refine ca_v (As := []) (rest := []) Fx hC (k_Pl_forget hu5) (cVU 0 Fx.2.2.2.2 wd_228 wd_229 wd_230 wd_4 wd_231 rfl rfl hd_Pl_forget ⟨Nat.le_of_ble_eq_true rfl, Nat.le_of_ble_eq_true rfl⟩) 8 rfl rfl rfl hl.1 rfl (Nat.le_of_ble_eq_true rfl) dX9_weight_40 (fun H locs hC => ?_)
          refine lv_iload_n Fx.1 Fx.2.1 dX9_weight_43 rfl (lv_at hl 0 rfl) ?_
          obtain rfl := Option.some.inj hf
          exact hret _ _ _ _ dX9_weight_44 hC
        · replace hf := iff_ hc hf
          refine lv_bipush (v := (-2 : Int32)) Fx.1 Fx.2.1 dX9_weight_19 (by decide) ?_
          obtain rfl := Option.some.inj hf
          exact hret _ _ _ _ dX9_weight_21 hC
/-! FretHands.isPitch(I)Z -/
abbrev rm_FH_isPitch : Room := { frames := 0, cells := 0, slots := 0, locals := 0 }
theorem hd_FH_isPitch : yX9_isPitch.cls ≠ "java/lang/invoke/MethodHandle" ∧ yX9_isPitch.cls ≠ "java/lang/invoke/VarHandle" ∧ (parseMethodDescriptor yX9_isPitch.desc).map (fun d => d.parameters.length) = some 1 := by decide +kernel
noncomputable def p_FH_isPitch (a1 : Int32) (g : sG) (f : sF) : Option (Int32) := (if a1 < 0 then some (0 : Int32) else (if (123 : Int32) < a1 then some (0 : Int32) else some (1 : Int32)))
set_option maxRecDepth 100000 in
set_option maxHeartbeats 4000000 in
theorem k_FH_isPitch {l : Launch} {D : va_G} {ad : Nat → Nat} {cy : Nat → ClassId} {a1 : Int32} {r : Int32} {g : sG} {f : sF} (hf : p_FH_isPitch a1 g f = some r) : mMi l yX9_isPitch (Cond.code yX9_isPitch cX9_isPitch 1 (some .boolean) :: wU) rm_FH_isPitch D (cT cy) (cW ad cy) [.int a1] g f (r, g, f) := by
  refine mk_z (by decide) rfl (Nat.le_of_ble_eq_true rfl) ?_
  intro p e s m below meth c Q A H0 Fx hret ls H locs hl hC
  replace hl : lv_has ls 1 [(0, .int a1)] := hl
  unfold p_FH_isPitch at hf
  refine lv_iload_n Fx.1 Fx.2.1 dX9_isPitch_0 rfl (lv_at hl 0 rfl) ?_
  refine lv_if_lt (tgt := 14) Fx.1 Fx.2.1 dX9_isPitch_1 (by decide) (fun hc => ?_) (fun hc => ?_)
  · replace hf := ift hc hf
    refine lv_iconst (v := (0 : Int32)) Fx.1 Fx.2.1 dX9_isPitch_14 (by decide) ?_
    obtain rfl := Option.some.inj hf
    exact hret _ _ _ _ dX9_isPitch_15 z01_0 hC
  · replace hf := iff_ hc hf
    refine lv_iload_n Fx.1 Fx.2.1 dX9_isPitch_4 rfl (lv_at hl 0 rfl) ?_
    refine lv_bipush (v := (123 : Int32)) Fx.1 Fx.2.1 dX9_isPitch_5 (by decide) ?_
    refine lv_icmp_gt (tgt := 14) Fx.1 Fx.2.1 dX9_isPitch_7 (by decide) (fun hc => ?_) (fun hc => ?_)
    · replace hf := ift hc hf
      refine lv_iconst (v := (0 : Int32)) Fx.1 Fx.2.1 dX9_isPitch_14 (by decide) ?_
      obtain rfl := Option.some.inj hf
      exact hret _ _ _ _ dX9_isPitch_15 z01_0 hC
    · replace hf := iff_ hc hf
      refine lv_iconst (v := (1 : Int32)) Fx.1 Fx.2.1 dX9_isPitch_10 (by decide) ?_
      refine lv_goto (tgt := 15) Fx.1 Fx.2.1 dX9_isPitch_11 (by decide) ?_
      obtain rfl := Option.some.inj hf
      exact hret _ _ _ _ dX9_isPitch_15 z01_1 hC
/-! FretHands$Tune.addEvent()Z -/
abbrev rm_Tu_addEvent : Room := { frames := 0, cells := 0, slots := 0, locals := 0 }
theorem hd_Tu_addEvent : yX8_addEvent.cls = RX8 ∧ yX8_addEvent.cls ≠ "java/lang/invoke/MethodHandle" ∧ yX8_addEvent.cls ≠ "java/lang/invoke/VarHandle" ∧ (parseMethodDescriptor yX8_addEvent.desc).map (fun d => d.parameters.length) = some 0 := by decide +kernel
noncomputable def p_Tu_addEvent  (g : sG) (f : sF) : Option (Int32 × sG × sF) := (if (g 3) < (40 : Int32) then (if (g 3) < 0 ∨ 40 ≤ (g 3).toNatClampNeg then none else lt_ (up2 f 2 (g 3).toNatClampNeg (0 : Int32)) (fun f2 => lt_ (upd g 3 ((g 3) + (1 : Int32))) (fun g3 => some ((1 : Int32), g3, f2)))) else some ((0 : Int32), g, f))
set_option maxRecDepth 100000 in
set_option maxHeartbeats 4000000 in
theorem k_Tu_addEvent {l : Launch} {D : va_G} {ad : Nat → Nat} {cy : Nat → ClassId}  {u : Int32 × sG × sF} {g : sG} {f : sF} (hf : p_Tu_addEvent  g f = some u) : mMi l yX8_addEvent (Cond.code yX8_addEvent cX8_addEvent 1 (some .boolean) :: wU) rm_Tu_addEvent D (cT cy) (cW ad cy) [.ref (ad 4)] g f u := by
  refine mk_z (by decide) rfl (Nat.le_of_ble_eq_true rfl) ?_
  intro p e s m below meth c Q A H0 Fx hret ls H locs hl hC
  replace hl : lv_has ls 1 [(0, .ref (ad 4))] := hl
  unfold p_Tu_addEvent at hf
  refine lv_aload_n Fx.1 Fx.2.1 dX8_addEvent_0 rfl (lv_at hl 0 rfl) ?_
  refine gg_Tu_events Fx hC wd_56 dX8_addEvent_1 ?_
  refine lv_bipush (v := (40 : Int32)) Fx.1 Fx.2.1 dX8_addEvent_4 (by decide) ?_
  refine lv_icmp_lt (tgt := 11) Fx.1 Fx.2.1 dX8_addEvent_6 (by decide) (fun hc => ?_) (fun hc => ?_)
  · replace hf := ift hc hf
    refine lv_aload_n Fx.1 Fx.2.1 dX8_addEvent_11 rfl (lv_at hl 0 rfl) ?_
    refine gg_Tu_sizes Fx hC wd_53 dX8_addEvent_12 ?_
    refine lv_aload_n Fx.1 Fx.2.1 dX8_addEvent_15 rfl (lv_at hl 0 rfl) ?_
    refine gg_Tu_events Fx hC wd_56 dX8_addEvent_16 ?_
    refine lv_iconst (v := (0 : Int32)) Fx.1 Fx.2.1 dX8_addEvent_19 (by decide) ?_
    obtain ⟨hi1, hf⟩ := gd_e hf
    obtain ⟨f2, ef2, hf⟩ := lt_e hf
    refine st_Tu_sizes Fx hC hi1 ef2 dX8_addEvent_20 (fun H locs hC => ?_)
    refine lv_aload_n Fx.1 Fx.2.1 dX8_addEvent_21 rfl (lv_at hl 0 rfl) ?_
    refine lv_dup Fx.1 Fx.2.1 dX8_addEvent_22 rfl ?_
    refine gg_Tu_events Fx hC wd_56 dX8_addEvent_23 ?_
    refine lv_iconst (v := (1 : Int32)) Fx.1 Fx.2.1 dX8_addEvent_26 (by decide) ?_
    refine lv_iadd Fx.1 Fx.2.1 dX8_addEvent_27 ?_
    obtain ⟨g3, eg3, hf⟩ := lt_e hf
    refine gp_Tu_events Fx hC wd_56 eg3 dX8_addEvent_28 (fun H locs hC => ?_)
    refine lv_iconst (v := (1 : Int32)) Fx.1 Fx.2.1 dX8_addEvent_31 (by decide) ?_
    obtain rfl := Option.some.inj hf
    exact hret _ _ _ _ dX8_addEvent_32 z01_1 hC
  · replace hf := iff_ hc hf
    refine lv_iconst (v := (0 : Int32)) Fx.1 Fx.2.1 dX8_addEvent_9 (by decide) ?_
    obtain rfl := Option.some.inj hf
    exact hret _ _ _ _ dX8_addEvent_10 z01_0 hC
/-! FretHands$Tune.addPitch(II)Z -/
abbrev rm_Tu_addPitch : Room := { frames := 0, cells := 0, slots := 0, locals := 0 }
theorem hd_Tu_addPitch : yX8_addPitch.cls = RX8 ∧ yX8_addPitch.cls ≠ "java/lang/invoke/MethodHandle" ∧ yX8_addPitch.cls ≠ "java/lang/invoke/VarHandle" ∧ (parseMethodDescriptor yX8_addPitch.desc).map (fun d => d.parameters.length) = some 2 := by decide +kernel
noncomputable def p_Tu_addPitch (a1 : Int32) (a2 : Int32) (g : sG) (f : sF) : Option (Int32 × sG × sF) := lt_ ((g 3) - (1 : Int32)) (fun v1 => (if v1 < 0 then some ((0 : Int32), g, f) else (if v1 < 0 ∨ 40 ≤ v1.toNatClampNeg then none else (if (f 2 v1.toNatClampNeg) < (4 : Int32) then (if v1 < 0 ∨ 40 ≤ v1.toNatClampNeg then none else lt_ ((v1 * (4 : Int32)) + (f 2 v1.toNatClampNeg)) (fun v4 => (if v4 < 0 ∨ 160 ≤ v4.toNatClampNeg then none else lt_ (up2 f 3 v4.toNatClampNeg a1) (fun f6 => (if v4 < 0 ∨ 160 ≤ v4.toNatClampNeg then none else lt_ (up2 f6 4 v4.toNatClampNeg a2) (fun f8 => (if v1 < 0 ∨ 40 ≤ v1.toNatClampNeg then none else (if v1 < 0 ∨ 40 ≤ v1.toNatClampNeg then none else lt_ (up2 f8 2 v1.toNatClampNeg ((f8 2 v1.toNatClampNeg) + (1 : Int32))) (fun f11 => some ((1 : Int32), g, f11)))))))))) else some ((0 : Int32), g, f)))))
set_option maxRecDepth 100000 in
set_option maxHeartbeats 4000000 in
theorem k_Tu_addPitch {l : Launch} {D : va_G} {ad : Nat → Nat} {cy : Nat → ClassId} {a1 : Int32} {a2 : Int32} {u : Int32 × sG × sF} {g : sG} {f : sF} (hf : p_Tu_addPitch a1 a2 g f = some u) : mMi l yX8_addPitch (Cond.code yX8_addPitch cX8_addPitch 5 (some .boolean) :: wU) rm_Tu_addPitch D (cT cy) (cW ad cy) [.ref (ad 4), .int a1, .int a2] g f u := by
  refine mk_z (by decide) rfl (Nat.le_of_ble_eq_true rfl) ?_
  intro p e s m below meth c Q A H0 Fx hret ls H locs hl hC
  replace hl : lv_has ls 5 [(0, .ref (ad 4)), (1, .int a1), (2, .int a2)] := hl
  unfold p_Tu_addPitch at hf
  refine lv_aload_n Fx.1 Fx.2.1 dX8_addPitch_0 rfl (lv_at hl 0 rfl) ?_
  refine gg_Tu_events Fx hC wd_56 dX8_addPitch_1 ?_
  refine lv_iconst (v := (1 : Int32)) Fx.1 Fx.2.1 dX8_addPitch_4 (by decide) ?_
  refine lv_isub Fx.1 Fx.2.1 dX8_addPitch_5 ?_
  obtain ⟨v1, ev1, hf⟩ := lt_e hf
  refine tpi ev1 ?_
  refine lv_istore_n (lv' := [(3, .int v1), (0, .ref (ad 4)), (1, .int a1), (2, .int a2)]) Fx.1 Fx.2.1 dX8_addPitch_6 rfl hl (by decide) rfl (fun ls hl => ?_)
  refine lv_iload_n Fx.1 Fx.2.1 dX8_addPitch_7 rfl (lv_at hl 0 rfl) ?_
  refine lv_if_lt (tgt := 21) Fx.1 Fx.2.1 dX8_addPitch_8 (by decide) (fun hc => ?_) (fun hc => ?_)
  · replace hf := ift hc hf
    refine lv_iconst (v := (0 : Int32)) Fx.1 Fx.2.1 dX8_addPitch_21 (by decide) ?_
    obtain rfl := Option.some.inj hf
    exact hret _ _ _ _ dX8_addPitch_22 z01_0 hC
  · replace hf := iff_ hc hf
    refine lv_aload_n Fx.1 Fx.2.1 dX8_addPitch_11 rfl (lv_at hl 1 rfl) ?_
    refine gg_Tu_sizes Fx hC wd_53 dX8_addPitch_12 ?_
    refine lv_iload_n Fx.1 Fx.2.1 dX8_addPitch_15 rfl (lv_at hl 0 rfl) ?_
    obtain ⟨hi2, hf⟩ := gd_e hf
    refine ld_Tu_sizes Fx hC hi2 dX8_addPitch_16 ?_
    refine lv_iconst (v := (4 : Int32)) Fx.1 Fx.2.1 dX8_addPitch_17 (by decide) ?_
    refine lv_icmp_lt (tgt := 23) Fx.1 Fx.2.1 dX8_addPitch_18 (by decide) (fun hc => ?_) (fun hc => ?_)
    · replace hf := ift hc hf
      refine lv_iload_n Fx.1 Fx.2.1 dX8_addPitch_23 rfl (lv_at hl 0 rfl) ?_
      refine lv_iconst (v := (4 : Int32)) Fx.1 Fx.2.1 dX8_addPitch_24 (by decide) ?_
      refine lv_imul Fx.1 Fx.2.1 dX8_addPitch_25 ?_
      refine lv_aload_n Fx.1 Fx.2.1 dX8_addPitch_26 rfl (lv_at hl 1 rfl) ?_
      refine gg_Tu_sizes Fx hC wd_53 dX8_addPitch_27 ?_
      refine lv_iload_n Fx.1 Fx.2.1 dX8_addPitch_30 rfl (lv_at hl 0 rfl) ?_
      obtain ⟨hi3, hf⟩ := gd_e hf
      refine ld_Tu_sizes Fx hC hi3 dX8_addPitch_31 ?_
      refine lv_iadd Fx.1 Fx.2.1 dX8_addPitch_32 ?_
      obtain ⟨v4, ev4, hf⟩ := lt_e hf
      refine tpi ev4 ?_
      refine lv_istore (lv' := [(4, .int v4), (3, .int v1), (0, .ref (ad 4)), (1, .int a1), (2, .int a2)]) Fx.1 Fx.2.1 dX8_addPitch_33 hl (by decide) rfl (fun ls hl => ?_)
      refine lv_aload_n Fx.1 Fx.2.1 dX8_addPitch_35 rfl (lv_at hl 2 rfl) ?_
      refine gg_Tu_pitches Fx hC wd_54 dX8_addPitch_36 ?_
      refine lv_iload Fx.1 Fx.2.1 dX8_addPitch_39 (lv_at hl 0 rfl) ?_
      refine lv_iload_n Fx.1 Fx.2.1 dX8_addPitch_41 rfl (lv_at hl 3 rfl) ?_
      obtain ⟨hi5, hf⟩ := gd_e hf
      obtain ⟨f6, ef6, hf⟩ := lt_e hf
      refine st_Tu_pitches Fx hC hi5 ef6 dX8_addPitch_42 (fun H locs hC => ?_)
      refine lv_aload_n Fx.1 Fx.2.1 dX8_addPitch_43 rfl (lv_at hl 2 rfl) ?_
      refine gg_Tu_bonds Fx hC wd_55 dX8_addPitch_44 ?_
      refine lv_iload Fx.1 Fx.2.1 dX8_addPitch_47 (lv_at hl 0 rfl) ?_
      refine lv_iload_n Fx.1 Fx.2.1 dX8_addPitch_49 rfl (lv_at hl 4 rfl) ?_
      obtain ⟨hi7, hf⟩ := gd_e hf
      obtain ⟨f8, ef8, hf⟩ := lt_e hf
      refine st_Tu_bonds Fx hC hi7 ef8 dX8_addPitch_50 (fun H locs hC => ?_)
      refine lv_aload_n Fx.1 Fx.2.1 dX8_addPitch_51 rfl (lv_at hl 2 rfl) ?_
      refine gg_Tu_sizes Fx hC wd_53 dX8_addPitch_52 ?_
      refine lv_iload_n Fx.1 Fx.2.1 dX8_addPitch_55 rfl (lv_at hl 1 rfl) ?_
      refine lv_dup2_11 Fx.1 Fx.2.1 dX8_addPitch_56 rfl rfl ?_
      obtain ⟨hi9, hf⟩ := gd_e hf
      refine ld_Tu_sizes Fx hC hi9 dX8_addPitch_57 ?_
      refine lv_iconst (v := (1 : Int32)) Fx.1 Fx.2.1 dX8_addPitch_58 (by decide) ?_
      refine lv_iadd Fx.1 Fx.2.1 dX8_addPitch_59 ?_
      obtain ⟨hi10, hf⟩ := gd_e hf
      obtain ⟨f11, ef11, hf⟩ := lt_e hf
      refine st_Tu_sizes Fx hC hi10 ef11 dX8_addPitch_60 (fun H locs hC => ?_)
      refine lv_iconst (v := (1 : Int32)) Fx.1 Fx.2.1 dX8_addPitch_61 (by decide) ?_
      obtain rfl := Option.some.inj hf
      exact hret _ _ _ _ dX8_addPitch_62 z01_1 hC
    · replace hf := iff_ hc hf
      refine lv_iconst (v := (0 : Int32)) Fx.1 Fx.2.1 dX8_addPitch_21 (by decide) ?_
      obtain rfl := Option.some.inj hf
      exact hret _ _ _ _ dX8_addPitch_22 z01_0 hC
/-! FretHands.event(I)I -/
abbrev rm_FH_event : Room := { frames := 1, cells := 0, slots := 0, locals := 24 }
theorem hd_FH_event : yX9_event.cls = RX9 ∧ yX9_event.cls ≠ "java/lang/invoke/MethodHandle" ∧ yX9_event.cls ≠ "java/lang/invoke/VarHandle" ∧ (parseMethodDescriptor yX9_event.desc).map (fun d => d.parameters.length) = some 1 := by decide +kernel
noncomputable def p_FH_event (a1 : Int32) (g : sG) (f : sF) : Option (Int32 × sG × sF) := Option.bind (p_FH_isPitch a1 g f) (fun u1 => (if u1 = 0 then some ((-2 : Int32), g, f) else Option.bind (p_Tu_addEvent  g f) (fun u2 => (if u2.1 = 0 then some ((-5 : Int32), u2.2.1, u2.2.2) else Option.bind (p_Tu_addPitch a1 (-1 : Int32) u2.2.1 u2.2.2) (fun u3 => Option.bind (p_Pl_forget  u3.2.1 u3.2.2) (fun u4 => some ((u4.1 3) - (1 : Int32), u4.1, u4.2)))))))
set_option maxRecDepth 100000 in
set_option maxHeartbeats 4000000 in
theorem k_FH_event {l : Launch} {D : va_G} {ad : Nat → Nat} {cy : Nat → ClassId} {a1 : Int32} {u : Int32 × sG × sF} {g : sG} {f : sF} (hf : p_FH_event a1 g f = some u) : mMi l yX9_event (Cond.code yX9_event cX9_event 2 (some .int) :: wU) rm_FH_event D (cT cy) (cW ad cy) [.ref (ad 0), .int a1] g f u := by
  refine mk_i (by decide) rfl (Nat.le_of_ble_eq_true rfl) ?_
  intro p e s m below meth c Q A H0 Fx hret ls H locs hl hC
  replace hl : lv_has ls 2 [(0, .ref (ad 0)), (1, .int a1)] := hl
  unfold p_FH_event at hf
  refine lv_iload_n Fx.1 Fx.2.1 dX9_event_0 rfl (lv_at hl 1 rfl) ?_
  obtain ⟨u1, hu1, hf⟩ := bd_e hf
  refine ca_s (As := [.int a1]) (rest := []) Fx hC (k_FH_isPitch hu1) (cSU 1 Fx.2.2.2.2 wd_252 wd_253 wd_1 wd_254 rfl rfl hd_FH_isPitch ⟨Nat.le_of_ble_eq_true rfl, Nat.le_of_ble_eq_true rfl⟩) rfl hl.1 rfl (Nat.le_of_ble_eq_true rfl) dX9_event_1 (fun H locs hC => ?_)
  refine lv_if_ne (tgt := 10) Fx.1 Fx.2.1 dX9_event_4 (by decide) (fun hc => ?_) (fun hc => ?_)
  · replace hf := iff_ hc hf
    refine lv_aload_n Fx.1 Fx.2.1 dX9_event_10 rfl (lv_at hl 0 rfl) ?_
    refine gg_FH_tune Fx hC wd_204 dX9_event_11 ?_
    obtain ⟨u2, hu2, hf⟩ := bd_e hf
    refine ca_i (As := []) (rest := []) Fx hC (k_Tu_addEvent hu2) (cVU 0 Fx.2.2.2.2 wd_255 wd_256 wd_257 wd_3 wd_258 rfl rfl hd_Tu_addEvent ⟨Nat.le_of_ble_eq_true rfl, Nat.le_of_ble_eq_true rfl⟩) 4 rfl rfl rfl hl.1 rfl (Nat.le_of_ble_eq_true rfl) dX9_event_14 (fun H locs hC => ?_)
    refine lv_if_ne (tgt := 23) Fx.1 Fx.2.1 dX9_event_17 (by decide) (fun hc => ?_) (fun hc => ?_)
    · replace hf := iff_ hc hf
      refine lv_aload_n Fx.1 Fx.2.1 dX9_event_23 rfl (lv_at hl 0 rfl) ?_
      refine gg_FH_tune Fx hC wd_204 dX9_event_24 ?_
      refine lv_iload_n Fx.1 Fx.2.1 dX9_event_27 rfl (lv_at hl 1 rfl) ?_
      refine lv_iconst (v := (-1 : Int32)) Fx.1 Fx.2.1 dX9_event_28 (by decide) ?_
      obtain ⟨u3, hu3, hf⟩ := bd_e hf
      refine ca_i (As := [.int a1, .int (-1 : Int32)]) (rest := []) Fx hC (k_Tu_addPitch hu3) (cVU 2 Fx.2.2.2.2 wd_259 wd_260 wd_261 wd_3 wd_262 rfl rfl hd_Tu_addPitch ⟨Nat.le_of_ble_eq_true rfl, Nat.le_of_ble_eq_true rfl⟩) 4 rfl rfl rfl hl.1 rfl (Nat.le_of_ble_eq_true rfl) dX9_event_29 (fun H locs hC => ?_)
      refine lv_pop Fx.1 Fx.2.1 dX9_event_32 rfl ?_
      refine lv_aload_n Fx.1 Fx.2.1 dX9_event_33 rfl (lv_at hl 0 rfl) ?_
      refine gg_FH_latest Fx hC wd_205 dX9_event_34 ?_
      obtain ⟨u4, hu4, hf⟩ := bd_e hf
      refine ca_v (As := []) (rest := []) Fx hC (k_Pl_forget hu4) (cVU 0 Fx.2.2.2.2 wd_228 wd_229 wd_230 wd_4 wd_231 rfl rfl hd_Pl_forget ⟨Nat.le_of_ble_eq_true rfl, Nat.le_of_ble_eq_true rfl⟩) 8 rfl rfl rfl hl.1 rfl (Nat.le_of_ble_eq_true rfl) dX9_event_37 (fun H locs hC => ?_)
      refine lv_aload_n Fx.1 Fx.2.1 dX9_event_40 rfl (lv_at hl 0 rfl) ?_
      refine gg_FH_tune Fx hC wd_204 dX9_event_41 ?_
      refine gg_Tu_events Fx hC wd_59 dX9_event_44 ?_
      refine lv_iconst (v := (1 : Int32)) Fx.1 Fx.2.1 dX9_event_47 (by decide) ?_
      refine lv_isub Fx.1 Fx.2.1 dX9_event_48 ?_
      obtain rfl := Option.some.inj hf
      exact hret _ _ _ _ dX9_event_49 hC
    · replace hf := ift hc hf
      refine lv_bipush (v := (-5 : Int32)) Fx.1 Fx.2.1 dX9_event_20 (by decide) ?_
      obtain rfl := Option.some.inj hf
      exact hret _ _ _ _ dX9_event_22 hC
  · replace hf := ift hc hf
    refine lv_bipush (v := (-2 : Int32)) Fx.1 Fx.2.1 dX9_event_7 (by decide) ?_
    obtain rfl := Option.some.inj hf
    exact hret _ _ _ _ dX9_event_9 hC
/-! FretHands$Tune.hasEvent(I)Z -/
abbrev rm_Tu_hasEvent : Room := { frames := 0, cells := 0, slots := 0, locals := 0 }
theorem hd_Tu_hasEvent : yX8_hasEvent.cls = RX8 ∧ yX8_hasEvent.cls ≠ "java/lang/invoke/MethodHandle" ∧ yX8_hasEvent.cls ≠ "java/lang/invoke/VarHandle" ∧ (parseMethodDescriptor yX8_hasEvent.desc).map (fun d => d.parameters.length) = some 1 := by decide +kernel
noncomputable def p_Tu_hasEvent (a1 : Int32) (g : sG) (f : sF) : Option (Int32) := (if a1 < 0 then some (0 : Int32) else (if (g 3) ≤ a1 then some (0 : Int32) else some (1 : Int32)))
set_option maxRecDepth 100000 in
set_option maxHeartbeats 4000000 in
theorem k_Tu_hasEvent {l : Launch} {D : va_G} {ad : Nat → Nat} {cy : Nat → ClassId} {a1 : Int32} {r : Int32} {g : sG} {f : sF} (hf : p_Tu_hasEvent a1 g f = some r) : mMi l yX8_hasEvent (Cond.code yX8_hasEvent cX8_hasEvent 2 (some .boolean) :: wU) rm_Tu_hasEvent D (cT cy) (cW ad cy) [.ref (ad 4), .int a1] g f (r, g, f) := by
  refine mk_z (by decide) rfl (Nat.le_of_ble_eq_true rfl) ?_
  intro p e s m below meth c Q A H0 Fx hret ls H locs hl hC
  replace hl : lv_has ls 2 [(0, .ref (ad 4)), (1, .int a1)] := hl
  unfold p_Tu_hasEvent at hf
  refine lv_iload_n Fx.1 Fx.2.1 dX8_hasEvent_0 rfl (lv_at hl 1 rfl) ?_
  refine lv_if_lt (tgt := 16) Fx.1 Fx.2.1 dX8_hasEvent_1 (by decide) (fun hc => ?_) (fun hc => ?_)
  · replace hf := ift hc hf
    refine lv_iconst (v := (0 : Int32)) Fx.1 Fx.2.1 dX8_hasEvent_16 (by decide) ?_
    obtain rfl := Option.some.inj hf
    exact hret _ _ _ _ dX8_hasEvent_17 z01_0 hC
  · replace hf := iff_ hc hf
    refine lv_iload_n Fx.1 Fx.2.1 dX8_hasEvent_4 rfl (lv_at hl 1 rfl) ?_
    refine lv_aload_n Fx.1 Fx.2.1 dX8_hasEvent_5 rfl (lv_at hl 0 rfl) ?_
    refine gg_Tu_events Fx hC wd_56 dX8_hasEvent_6 ?_
    refine lv_icmp_ge (tgt := 16) Fx.1 Fx.2.1 dX8_hasEvent_9 (by decide) (fun hc => ?_) (fun hc => ?_)
    · replace hf := ift hc hf
      refine lv_iconst (v := (0 : Int32)) Fx.1 Fx.2.1 dX8_hasEvent_16 (by decide) ?_
      obtain rfl := Option.some.inj hf
      exact hret _ _ _ _ dX8_hasEvent_17 z01_0 hC
    · replace hf := iff_ hc hf
      refine lv_iconst (v := (1 : Int32)) Fx.1 Fx.2.1 dX8_hasEvent_12 (by decide) ?_
      refine lv_goto (tgt := 17) Fx.1 Fx.2.1 dX8_hasEvent_13 (by decide) ?_
      obtain rfl := Option.some.inj hf
      exact hret _ _ _ _ dX8_hasEvent_17 z01_1 hC
/-! FretHands$Tune.sizeOf(I)I -/
abbrev rm_Tu_sizeOf : Room := { frames := 1, cells := 0, slots := 0, locals := 21 }
theorem hd_Tu_sizeOf : yX8_sizeOf.cls = RX8 ∧ yX8_sizeOf.cls ≠ "java/lang/invoke/MethodHandle" ∧ yX8_sizeOf.cls ≠ "java/lang/invoke/VarHandle" ∧ (parseMethodDescriptor yX8_sizeOf.desc).map (fun d => d.parameters.length) = some 1 := by decide +kernel
noncomputable def p_Tu_sizeOf (a1 : Int32) (g : sG) (f : sF) : Option (Int32) := Option.bind (p_Tu_hasEvent a1 g f) (fun u1 => (if u1 = 0 then some (0 : Int32) else (if a1 < 0 ∨ 40 ≤ a1.toNatClampNeg then none else some (f 2 a1.toNatClampNeg))))
set_option maxRecDepth 100000 in
set_option maxHeartbeats 4000000 in
theorem k_Tu_sizeOf {l : Launch} {D : va_G} {ad : Nat → Nat} {cy : Nat → ClassId} {a1 : Int32} {r : Int32} {g : sG} {f : sF} (hf : p_Tu_sizeOf a1 g f = some r) : mMi l yX8_sizeOf (Cond.code yX8_sizeOf cX8_sizeOf 2 (some .int) :: wU) rm_Tu_sizeOf D (cT cy) (cW ad cy) [.ref (ad 4), .int a1] g f (r, g, f) := by
  refine mk_i (by decide) rfl (Nat.le_of_ble_eq_true rfl) ?_
  intro p e s m below meth c Q A H0 Fx hret ls H locs hl hC
  replace hl : lv_has ls 2 [(0, .ref (ad 4)), (1, .int a1)] := hl
  unfold p_Tu_sizeOf at hf
  refine lv_aload_n Fx.1 Fx.2.1 dX8_sizeOf_0 rfl (lv_at hl 0 rfl) ?_
  refine lv_iload_n Fx.1 Fx.2.1 dX8_sizeOf_1 rfl (lv_at hl 1 rfl) ?_
  obtain ⟨u1, hu1, hf⟩ := bd_e hf
  refine ca_i (As := [.int a1]) (rest := []) Fx hC (k_Tu_hasEvent hu1) (cVU 1 Fx.2.2.2.2 wd_275 wd_276 wd_277 wd_3 wd_278 rfl rfl hd_Tu_hasEvent ⟨Nat.le_of_ble_eq_true rfl, Nat.le_of_ble_eq_true rfl⟩) 4 rfl rfl rfl hl.1 rfl (Nat.le_of_ble_eq_true rfl) dX8_sizeOf_2 (fun H locs hC => ?_)
  refine lv_if_eq (tgt := 17) Fx.1 Fx.2.1 dX8_sizeOf_5 (by decide) (fun hc => ?_) (fun hc => ?_)
  · replace hf := ift hc hf
    refine lv_iconst (v := (0 : Int32)) Fx.1 Fx.2.1 dX8_sizeOf_17 (by decide) ?_
    obtain rfl := Option.some.inj hf
    exact hret _ _ _ _ dX8_sizeOf_18 hC
  · replace hf := iff_ hc hf
    refine lv_aload_n Fx.1 Fx.2.1 dX8_sizeOf_8 rfl (lv_at hl 0 rfl) ?_
    refine gg_Tu_sizes Fx hC wd_53 dX8_sizeOf_9 ?_
    refine lv_iload_n Fx.1 Fx.2.1 dX8_sizeOf_12 rfl (lv_at hl 1 rfl) ?_
    obtain ⟨hi2, hf⟩ := gd_e hf
    refine ld_Tu_sizes Fx hC hi2 dX8_sizeOf_13 ?_
    refine lv_goto (tgt := 18) Fx.1 Fx.2.1 dX8_sizeOf_14 (by decide) ?_
    obtain rfl := Option.some.inj hf
    exact hret _ _ _ _ dX8_sizeOf_18 hC
/-! FretHands$Tune.hasPitch(II)Z -/
abbrev rm_Tu_hasPitch : Room := { frames := 1, cells := 0, slots := 0, locals := 21 }
theorem hd_Tu_hasPitch : yX8_hasPitch.cls = RX8 ∧ yX8_hasPitch.cls ≠ "java/lang/invoke/MethodHandle" ∧ yX8_hasPitch.cls ≠ "java/lang/invoke/VarHandle" ∧ (parseMethodDescriptor yX8_hasPitch.desc).map (fun d => d.parameters.length) = some 2 := by decide +kernel
noncomputable def p_Tu_hasPitch (a1 : Int32) (a2 : Int32) (g : sG) (f : sF) : Option (Int32) := Option.bind (p_Tu_hasEvent a1 g f) (fun u1 => (if u1 = 0 then some (0 : Int32) else (if a2 < 0 then some (0 : Int32) else (if a1 < 0 ∨ 40 ≤ a1.toNatClampNeg then none else (if (f 2 a1.toNatClampNeg) ≤ a2 then some (0 : Int32) else some (1 : Int32))))))
set_option maxRecDepth 100000 in
set_option maxHeartbeats 4000000 in
theorem k_Tu_hasPitch {l : Launch} {D : va_G} {ad : Nat → Nat} {cy : Nat → ClassId} {a1 : Int32} {a2 : Int32} {r : Int32} {g : sG} {f : sF} (hf : p_Tu_hasPitch a1 a2 g f = some r) : mMi l yX8_hasPitch (Cond.code yX8_hasPitch cX8_hasPitch 3 (some .boolean) :: wU) rm_Tu_hasPitch D (cT cy) (cW ad cy) [.ref (ad 4), .int a1, .int a2] g f (r, g, f) := by
  refine mk_z (by decide) rfl (Nat.le_of_ble_eq_true rfl) ?_
  intro p e s m below meth c Q A H0 Fx hret ls H locs hl hC
  replace hl : lv_has ls 3 [(0, .ref (ad 4)), (1, .int a1), (2, .int a2)] := hl
  unfold p_Tu_hasPitch at hf
  refine lv_aload_n Fx.1 Fx.2.1 dX8_hasPitch_0 rfl (lv_at hl 0 rfl) ?_
  refine lv_iload_n Fx.1 Fx.2.1 dX8_hasPitch_1 rfl (lv_at hl 1 rfl) ?_
  obtain ⟨u1, hu1, hf⟩ := bd_e hf
  refine ca_i (As := [.int a1]) (rest := []) Fx hC (k_Tu_hasEvent hu1) (cVU 1 Fx.2.2.2.2 wd_275 wd_276 wd_277 wd_3 wd_278 rfl rfl hd_Tu_hasEvent ⟨Nat.le_of_ble_eq_true rfl, Nat.le_of_ble_eq_true rfl⟩) 4 rfl rfl rfl hl.1 rfl (Nat.le_of_ble_eq_true rfl) dX8_hasPitch_2 (fun H locs hC => ?_)
  refine lv_if_eq (tgt := 26) Fx.1 Fx.2.1 dX8_hasPitch_5 (by decide) (fun hc => ?_) (fun hc => ?_)
  · replace hf := ift hc hf
    refine lv_iconst (v := (0 : Int32)) Fx.1 Fx.2.1 dX8_hasPitch_26 (by decide) ?_
    obtain rfl := Option.some.inj hf
    exact hret _ _ _ _ dX8_hasPitch_27 z01_0 hC
  · replace hf := iff_ hc hf
    refine lv_iload_n Fx.1 Fx.2.1 dX8_hasPitch_8 rfl (lv_at hl 2 rfl) ?_
    refine lv_if_lt (tgt := 26) Fx.1 Fx.2.1 dX8_hasPitch_9 (by decide) (fun hc => ?_) (fun hc => ?_)
    · replace hf := ift hc hf
      refine lv_iconst (v := (0 : Int32)) Fx.1 Fx.2.1 dX8_hasPitch_26 (by decide) ?_
      obtain rfl := Option.some.inj hf
      exact hret _ _ _ _ dX8_hasPitch_27 z01_0 hC
    · replace hf := iff_ hc hf
      refine lv_iload_n Fx.1 Fx.2.1 dX8_hasPitch_12 rfl (lv_at hl 2 rfl) ?_
      refine lv_aload_n Fx.1 Fx.2.1 dX8_hasPitch_13 rfl (lv_at hl 0 rfl) ?_
      refine gg_Tu_sizes Fx hC wd_53 dX8_hasPitch_14 ?_
      refine lv_iload_n Fx.1 Fx.2.1 dX8_hasPitch_17 rfl (lv_at hl 1 rfl) ?_
      obtain ⟨hi2, hf⟩ := gd_e hf
      refine ld_Tu_sizes Fx hC hi2 dX8_hasPitch_18 ?_
      refine lv_icmp_ge (tgt := 26) Fx.1 Fx.2.1 dX8_hasPitch_19 (by decide) (fun hc => ?_) (fun hc => ?_)
      · replace hf := ift hc hf
        refine lv_iconst (v := (0 : Int32)) Fx.1 Fx.2.1 dX8_hasPitch_26 (by decide) ?_
        obtain rfl := Option.some.inj hf
        exact hret _ _ _ _ dX8_hasPitch_27 z01_0 hC
      · replace hf := iff_ hc hf
        refine lv_iconst (v := (1 : Int32)) Fx.1 Fx.2.1 dX8_hasPitch_22 (by decide) ?_
        refine lv_goto (tgt := 27) Fx.1 Fx.2.1 dX8_hasPitch_23 (by decide) ?_
        obtain rfl := Option.some.inj hf
        exact hret _ _ _ _ dX8_hasPitch_27 z01_1 hC
/-! FretHands$Tune.pitchOf(II)I -/
abbrev rm_Tu_pitchOf : Room := { frames := 2, cells := 0, slots := 0, locals := 43 }
theorem hd_Tu_pitchOf : yX8_pitchOf.cls = RX8 ∧ yX8_pitchOf.cls ≠ "java/lang/invoke/MethodHandle" ∧ yX8_pitchOf.cls ≠ "java/lang/invoke/VarHandle" ∧ (parseMethodDescriptor yX8_pitchOf.desc).map (fun d => d.parameters.length) = some 2 := by decide +kernel
noncomputable def p_Tu_pitchOf (a1 : Int32) (a2 : Int32) (g : sG) (f : sF) : Option (Int32) := Option.bind (p_Tu_hasPitch a1 a2 g f) (fun u1 => (if u1 = 0 then some (-1 : Int32) else (if ((a1 * (4 : Int32)) + a2) < 0 ∨ 160 ≤ ((a1 * (4 : Int32)) + a2).toNatClampNeg then none else some (f 3 ((a1 * (4 : Int32)) + a2).toNatClampNeg))))
set_option maxRecDepth 100000 in
set_option maxHeartbeats 4000000 in
theorem k_Tu_pitchOf {l : Launch} {D : va_G} {ad : Nat → Nat} {cy : Nat → ClassId} {a1 : Int32} {a2 : Int32} {r : Int32} {g : sG} {f : sF} (hf : p_Tu_pitchOf a1 a2 g f = some r) : mMi l yX8_pitchOf (Cond.code yX8_pitchOf cX8_pitchOf 3 (some .int) :: wU) rm_Tu_pitchOf D (cT cy) (cW ad cy) [.ref (ad 4), .int a1, .int a2] g f (r, g, f) := by
  refine mk_i (by decide) rfl (Nat.le_of_ble_eq_true rfl) ?_
  intro p e s m below meth c Q A H0 Fx hret ls H locs hl hC
  replace hl : lv_has ls 3 [(0, .ref (ad 4)), (1, .int a1), (2, .int a2)] := hl
  unfold p_Tu_pitchOf at hf
  refine lv_aload_n Fx.1 Fx.2.1 dX8_pitchOf_0 rfl (lv_at hl 0 rfl) ?_
  refine lv_iload_n Fx.1 Fx.2.1 dX8_pitchOf_1 rfl (lv_at hl 1 rfl) ?_
  refine lv_iload_n Fx.1 Fx.2.1 dX8_pitchOf_2 rfl (lv_at hl 2 rfl) ?_
  obtain ⟨u1, hu1, hf⟩ := bd_e hf
  refine ca_i (As := [.int a1, .int a2]) (rest := []) Fx hC (k_Tu_hasPitch hu1) (cVU 2 Fx.2.2.2.2 wd_283 wd_284 wd_285 wd_3 wd_286 rfl rfl hd_Tu_hasPitch ⟨Nat.le_of_ble_eq_true rfl, Nat.le_of_ble_eq_true rfl⟩) 4 rfl rfl rfl hl.1 rfl (Nat.le_of_ble_eq_true rfl) dX8_pitchOf_3 (fun H locs hC => ?_)
  refine lv_if_eq (tgt := 22) Fx.1 Fx.2.1 dX8_pitchOf_6 (by decide) (fun hc => ?_) (fun hc => ?_)
  · replace hf := ift hc hf
    refine lv_iconst (v := (-1 : Int32)) Fx.1 Fx.2.1 dX8_pitchOf_22 (by decide) ?_
    obtain rfl := Option.some.inj hf
    exact hret _ _ _ _ dX8_pitchOf_23 hC
  · replace hf := iff_ hc hf
    refine lv_aload_n Fx.1 Fx.2.1 dX8_pitchOf_9 rfl (lv_at hl 0 rfl) ?_
    refine gg_Tu_pitches Fx hC wd_54 dX8_pitchOf_10 ?_
    refine lv_iload_n Fx.1 Fx.2.1 dX8_pitchOf_13 rfl (lv_at hl 1 rfl) ?_
    refine lv_iconst (v := (4 : Int32)) Fx.1 Fx.2.1 dX8_pitchOf_14 (by decide) ?_
    refine lv_imul Fx.1 Fx.2.1 dX8_pitchOf_15 ?_
    refine lv_iload_n Fx.1 Fx.2.1 dX8_pitchOf_16 rfl (lv_at hl 2 rfl) ?_
    refine lv_iadd Fx.1 Fx.2.1 dX8_pitchOf_17 ?_
    obtain ⟨hi2, hf⟩ := gd_e hf
    refine ld_Tu_pitches Fx hC hi2 dX8_pitchOf_18 ?_
    refine lv_goto (tgt := 23) Fx.1 Fx.2.1 dX8_pitchOf_19 (by decide) ?_
    obtain rfl := Option.some.inj hf
    exact hret _ _ _ _ dX8_pitchOf_23 hC
/-! FretHands$Tune.contains(II)Z -/
abbrev rm_Tu_contains : Room := { frames := 3, cells := 0, slots := 0, locals := 65 }
theorem hd_Tu_contains : yX8_contains.cls = RX8 ∧ yX8_contains.cls ≠ "java/lang/invoke/MethodHandle" ∧ yX8_contains.cls ≠ "java/lang/invoke/VarHandle" ∧ (parseMethodDescriptor yX8_contains.desc).map (fun d => d.parameters.length) = some 2 := by decide +kernel
noncomputable def p_Tu_contains_L9 (K9 : (Int32 × Int32 × Int32 × Int32) → Option (Int32)) (x1 : Int32) (x2 : Int32) (x3 : Int32) (x4 : Int32) (g : sG) (f : sF) : Option (Int32) := (if x3 ≤ x4 then some (0 : Int32) else Option.bind (p_Tu_pitchOf x1 x4 g f) (fun u1 => (if u1 = x2 then some (1 : Int32) else lt_ (x4 + (1 : Int32)) (fun v2 => K9 (x1, x2, x3, v2)))))
set_option maxRecDepth 100000 in
set_option maxHeartbeats 4000000 in
theorem s_Tu_contains_L9 {K9 : (Int32 × Int32 × Int32 × Int32) → Option (Int32)} {p : Program} {l : Launch} {e : Env} {s : State} {m : MethodId} {args : Array Value} {below : List Frame} {meth : Method} {c : Code} {Q : State → Prop} {D : va_G} {ad : Nat → Nat} {cy : Nat → ClassId} {A : Nat → Prop} {H0 : Heap} {r : Int32} {g : sG} {f : sF} (Fx : CallFix p m c cX8_contains 5 s args (Cond.code yX8_contains cX8_contains 5 (some .boolean) :: wU) RX8) (hret : mRz p l e rm_Tu_contains s m args below meth c Q D (cT cy) (cW ad cy) A H0 cX8_contains (r, g, f)) (hK9 : ∀ (z : Int32 × Int32 × Int32 × Int32), K9 z = some r → ∀ (ls : Array Slot) (H : Heap) (locs : List Loc), lv_has ls 5 [(0, .ref (ad 4)), (1, .int z.1), (2, .int z.2.1), (3, .int z.2.2.1), (4, .int z.2.2.2)] → wH D (cT cy) (cW ad cy) A H0 s g f H locs → W p l e rm_Tu_contains s m args below meth c H locs 0 0 Q (F0 m 9 ls [])) (x1 : Int32) (x2 : Int32) (x3 : Int32) (x4 : Int32) (hf : p_Tu_contains_L9 K9 x1 x2 x3 x4 g f = some r) : ∀ (ls : Array Slot) (H : Heap) (locs : List Loc), lv_has ls 5 [(0, .ref (ad 4)), (1, .int x1), (2, .int x2), (3, .int x3), (4, .int x4)] → wH D (cT cy) (cW ad cy) A H0 s g f H locs → W p l e rm_Tu_contains s m args below meth c H locs 0 0 Q (F0 m 9 ls []) := by
  intro ls H locs hl hC
  unfold p_Tu_contains_L9 at hf
  refine lv_iload Fx.1 Fx.2.1 dX8_contains_9 (lv_at hl 4 rfl) ?_
  refine lv_iload_n Fx.1 Fx.2.1 dX8_contains_11 rfl (lv_at hl 3 rfl) ?_
  refine lv_icmp_ge (tgt := 34) Fx.1 Fx.2.1 dX8_contains_12 (by decide) (fun hc => ?_) (fun hc => ?_)
  · replace hf := ift hc hf
    refine lv_iconst (v := (0 : Int32)) Fx.1 Fx.2.1 dX8_contains_34 (by decide) ?_
    obtain rfl := Option.some.inj hf
    exact hret _ _ _ _ dX8_contains_35 z01_0 hC
  · replace hf := iff_ hc hf
    refine lv_aload_n Fx.1 Fx.2.1 dX8_contains_15 rfl (lv_at hl 0 rfl) ?_
    refine lv_iload_n Fx.1 Fx.2.1 dX8_contains_16 rfl (lv_at hl 1 rfl) ?_
    refine lv_iload Fx.1 Fx.2.1 dX8_contains_17 (lv_at hl 4 rfl) ?_
    obtain ⟨u1, hu1, hf⟩ := bd_e hf
    refine ca_i (As := [.int x1, .int x4]) (rest := []) Fx hC (k_Tu_pitchOf hu1) (cVU 2 Fx.2.2.2.2 wd_279 wd_280 wd_281 wd_3 wd_282 rfl rfl hd_Tu_pitchOf ⟨Nat.le_of_ble_eq_true rfl, Nat.le_of_ble_eq_true rfl⟩) 4 rfl rfl rfl hl.1 rfl (Nat.le_of_ble_eq_true rfl) dX8_contains_19 (fun H locs hC => ?_)
    refine lv_iload_n Fx.1 Fx.2.1 dX8_contains_22 rfl (lv_at hl 2 rfl) ?_
    refine lv_icmp_ne (tgt := 28) Fx.1 Fx.2.1 dX8_contains_23 (by decide) (fun hc => ?_) (fun hc => ?_)
    · replace hf := iff_ hc hf
      obtain ⟨v2, ev2, hf⟩ := lt_e hf
      refine lv_iinc (v := v2) (lv' := [(4, .int v2), (0, .ref (ad 4)), (1, .int x1), (2, .int x2), (3, .int x3)]) Fx.1 Fx.2.1 dX8_contains_28 hl (k := 4) rfl ev2.symm (by decide) rfl (fun ls hl => ?_)
      refine lv_goto (tgt := 9) Fx.1 Fx.2.1 dX8_contains_31 (by decide) ?_
      exact hK9 _ hf _ _ _ (lv_sub hl [1, 2, 3, 4, 0] rfl) hC
    · replace hf := ift hc hf
      refine lv_iconst (v := (1 : Int32)) Fx.1 Fx.2.1 dX8_contains_26 (by decide) ?_
      obtain rfl := Option.some.inj hf
      exact hret _ _ _ _ dX8_contains_27 z01_1 hC
set_option maxRecDepth 100000 in
set_option maxHeartbeats 4000000 in
theorem t_Tu_contains_L9 {p : Program} {l : Launch} {e : Env} {s : State} {m : MethodId} {args : Array Value} {below : List Frame} {meth : Method} {c : Code} {Q : State → Prop} {D : va_G} {ad : Nat → Nat} {cy : Nat → ClassId} {A : Nat → Prop} {H0 : Heap} {r : Int32} {g : sG} {f : sF} (Fx : CallFix p m c cX8_contains 5 s args (Cond.code yX8_contains cX8_contains 5 (some .boolean) :: wU) RX8) (hret : mRz p l e rm_Tu_contains s m args below meth c Q D (cT cy) (cW ad cy) A H0 cX8_contains (r, g, f))  (n : Nat) (z : Int32 × Int32 × Int32 × Int32) (hz : itr (fun K z => p_Tu_contains_L9 K z.1 z.2.1 z.2.2.1 z.2.2.2 g f) n z = some r) : ∀ (ls : Array Slot) (H : Heap) (locs : List Loc), lv_has ls 5 [(0, .ref (ad 4)), (1, .int z.1), (2, .int z.2.1), (3, .int z.2.2.1), (4, .int z.2.2.2)] → wH D (cT cy) (cW ad cy) A H0 s g f H locs → W p l e rm_Tu_contains s m args below meth c H locs 0 0 Q (F0 m 9 ls []) :=
  itr_all (B := fun K z => p_Tu_contains_L9 K z.1 z.2.1 z.2.2.1 z.2.2.2 g f) (r := r) (fun z => ∀ (ls : Array Slot) (H : Heap) (locs : List Loc), lv_has ls 5 [(0, .ref (ad 4)), (1, .int z.1), (2, .int z.2.1), (3, .int z.2.2.1), (4, .int z.2.2.2)] → wH D (cT cy) (cW ad cy) A H0 s g f H locs → W p l e rm_Tu_contains s m args below meth c H locs 0 0 Q (F0 m 9 ls [])) (fun K hK z h => s_Tu_contains_L9 (K9 := K) Fx hret hK z.1 z.2.1 z.2.2.1 z.2.2.2 h) n z hz
noncomputable def p_Tu_contains (a1 : Int32) (a2 : Int32) (g : sG) (f : sF) : Option (Int32) := Option.bind (p_Tu_sizeOf a1 g f) (fun u1 => itr (fun K z => p_Tu_contains_L9 K z.1 z.2.1 z.2.2.1 z.2.2.2 g f) FUEL (a1, a2, u1, (0 : Int32)))
set_option maxRecDepth 100000 in
set_option maxHeartbeats 4000000 in
theorem k_Tu_contains {l : Launch} {D : va_G} {ad : Nat → Nat} {cy : Nat → ClassId} {a1 : Int32} {a2 : Int32} {r : Int32} {g : sG} {f : sF} (hf : p_Tu_contains a1 a2 g f = some r) : mMi l yX8_contains (Cond.code yX8_contains cX8_contains 5 (some .boolean) :: wU) rm_Tu_contains D (cT cy) (cW ad cy) [.ref (ad 4), .int a1, .int a2] g f (r, g, f) := by
  refine mk_z (by decide) rfl (Nat.le_of_ble_eq_true rfl) ?_
  intro p e s m below meth c Q A H0 Fx hret ls H locs hl hC
  replace hl : lv_has ls 5 [(0, .ref (ad 4)), (1, .int a1), (2, .int a2)] := hl
  unfold p_Tu_contains at hf
  refine lv_aload_n Fx.1 Fx.2.1 dX8_contains_0 rfl (lv_at hl 0 rfl) ?_
  refine lv_iload_n Fx.1 Fx.2.1 dX8_contains_1 rfl (lv_at hl 1 rfl) ?_
  obtain ⟨u1, hu1, hf⟩ := bd_e hf
  refine ca_i (As := [.int a1]) (rest := []) Fx hC (k_Tu_sizeOf hu1) (cVU 1 Fx.2.2.2.2 wd_271 wd_272 wd_273 wd_3 wd_274 rfl rfl hd_Tu_sizeOf ⟨Nat.le_of_ble_eq_true rfl, Nat.le_of_ble_eq_true rfl⟩) 4 rfl rfl rfl hl.1 rfl (Nat.le_of_ble_eq_true rfl) dX8_contains_2 (fun H locs hC => ?_)
  refine lv_istore_n (lv' := [(3, .int u1), (0, .ref (ad 4)), (1, .int a1), (2, .int a2)]) Fx.1 Fx.2.1 dX8_contains_5 rfl hl (by decide) rfl (fun ls hl => ?_)
  refine lv_iconst (v := (0 : Int32)) Fx.1 Fx.2.1 dX8_contains_6 (by decide) ?_
  refine lv_istore (lv' := [(4, .int (0 : Int32)), (3, .int u1), (0, .ref (ad 4)), (1, .int a1), (2, .int a2)]) Fx.1 Fx.2.1 dX8_contains_7 hl (by decide) rfl (fun ls hl => ?_)
  exact t_Tu_contains_L9 Fx hret _ _ hf _ _ _ (lv_sub hl [2, 3, 4, 1, 0] rfl) hC
/-! FretHands.pitch(I)I -/
abbrev rm_FH_pitch : Room := { frames := 4, cells := 0, slots := 0, locals := 89 }
theorem hd_FH_pitch : yX9_pitch.cls = RX9 ∧ yX9_pitch.cls ≠ "java/lang/invoke/MethodHandle" ∧ yX9_pitch.cls ≠ "java/lang/invoke/VarHandle" ∧ (parseMethodDescriptor yX9_pitch.desc).map (fun d => d.parameters.length) = some 1 := by decide +kernel
noncomputable def p_FH_pitch (a1 : Int32) (g : sG) (f : sF) : Option (Int32 × sG × sF) := lt_ ((g 3) - (1 : Int32)) (fun v1 => Option.bind (p_FH_isPitch a1 g f) (fun u2 => (if u2 = 0 then some ((-2 : Int32), g, f) else Option.bind (p_Tu_contains v1 a1 g f) (fun u3 => (if u3 = 0 then (if 0 ≤ v1 then Option.bind (p_Tu_addPitch a1 (-1 : Int32) g f) (fun u4 => (if u4.1 = 0 then some ((-5 : Int32), u4.2.1, u4.2.2) else Option.bind (p_Pl_forget  u4.2.1 u4.2.2) (fun u5 => Option.bind (p_Tu_sizeOf v1 u5.1 u5.2) (fun u6 => some (u6, u5.1, u5.2))))) else some ((-4 : Int32), g, f)) else some ((-2 : Int32), g, f))))))
set_option maxRecDepth 100000 in
set_option maxHeartbeats 4000000 in
theorem k_FH_pitch {l : Launch} {D : va_G} {ad : Nat → Nat} {cy : Nat → ClassId} {a1 : Int32} {u : Int32 × sG × sF} {g : sG} {f : sF} (hf : p_FH_pitch a1 g f = some u) : mMi l yX9_pitch (Cond.code yX9_pitch cX9_pitch 3 (some .int) :: wU) rm_FH_pitch D (cT cy) (cW ad cy) [.ref (ad 0), .int a1] g f u := by
  refine mk_i (by decide) rfl (Nat.le_of_ble_eq_true rfl) ?_
  intro p e s m below meth c Q A H0 Fx hret ls H locs hl hC
  replace hl : lv_has ls 3 [(0, .ref (ad 0)), (1, .int a1)] := hl
  unfold p_FH_pitch at hf
  refine lv_aload_n Fx.1 Fx.2.1 dX9_pitch_0 rfl (lv_at hl 0 rfl) ?_
  refine gg_FH_tune Fx hC wd_204 dX9_pitch_1 ?_
  refine gg_Tu_events Fx hC wd_59 dX9_pitch_4 ?_
  refine lv_iconst (v := (1 : Int32)) Fx.1 Fx.2.1 dX9_pitch_7 (by decide) ?_
  refine lv_isub Fx.1 Fx.2.1 dX9_pitch_8 ?_
  obtain ⟨v1, ev1, hf⟩ := lt_e hf
  refine tpi ev1 ?_
  refine lv_istore_n (lv' := [(2, .int v1), (0, .ref (ad 0)), (1, .int a1)]) Fx.1 Fx.2.1 dX9_pitch_9 rfl hl (by decide) rfl (fun ls hl => ?_)
  refine lv_iload_n Fx.1 Fx.2.1 dX9_pitch_10 rfl (lv_at hl 2 rfl) ?_
  obtain ⟨u2, hu2, hf⟩ := bd_e hf
  refine ca_s (As := [.int a1]) (rest := []) Fx hC (k_FH_isPitch hu2) (cSU 1 Fx.2.2.2.2 wd_252 wd_253 wd_1 wd_254 rfl rfl hd_FH_isPitch ⟨Nat.le_of_ble_eq_true rfl, Nat.le_of_ble_eq_true rfl⟩) rfl hl.1 rfl (Nat.le_of_ble_eq_true rfl) dX9_pitch_11 (fun H locs hC => ?_)
  refine lv_if_eq (tgt := 29) Fx.1 Fx.2.1 dX9_pitch_14 (by decide) (fun hc => ?_) (fun hc => ?_)
  · replace hf := ift hc hf
    refine lv_bipush (v := (-2 : Int32)) Fx.1 Fx.2.1 dX9_pitch_29 (by decide) ?_
    obtain rfl := Option.some.inj hf
    exact hret _ _ _ _ dX9_pitch_31 hC
  · replace hf := iff_ hc hf
    refine lv_aload_n Fx.1 Fx.2.1 dX9_pitch_17 rfl (lv_at hl 1 rfl) ?_
    refine gg_FH_tune Fx hC wd_204 dX9_pitch_18 ?_
    refine lv_iload_n Fx.1 Fx.2.1 dX9_pitch_21 rfl (lv_at hl 0 rfl) ?_
    refine lv_iload_n Fx.1 Fx.2.1 dX9_pitch_22 rfl (lv_at hl 2 rfl) ?_
    obtain ⟨u3, hu3, hf⟩ := bd_e hf
    refine ca_i (As := [.int v1, .int a1]) (rest := []) Fx hC (k_Tu_contains hu3) (cVU 2 Fx.2.2.2.2 wd_267 wd_268 wd_269 wd_3 wd_270 rfl rfl hd_Tu_contains ⟨Nat.le_of_ble_eq_true rfl, Nat.le_of_ble_eq_true rfl⟩) 4 rfl rfl rfl hl.1 rfl (Nat.le_of_ble_eq_true rfl) dX9_pitch_23 (fun H locs hC => ?_)
    refine lv_if_eq (tgt := 32) Fx.1 Fx.2.1 dX9_pitch_26 (by decide) (fun hc => ?_) (fun hc => ?_)
    · replace hf := ift hc hf
      refine lv_iload_n Fx.1 Fx.2.1 dX9_pitch_32 rfl (lv_at hl 0 rfl) ?_
      refine lv_if_ge (tgt := 39) Fx.1 Fx.2.1 dX9_pitch_33 (by decide) (fun hc => ?_) (fun hc => ?_)
      · replace hf := ift hc hf
        refine lv_aload_n Fx.1 Fx.2.1 dX9_pitch_39 rfl (lv_at hl 1 rfl) ?_
        refine gg_FH_tune Fx hC wd_204 dX9_pitch_40 ?_
        refine lv_iload_n Fx.1 Fx.2.1 dX9_pitch_43 rfl (lv_at hl 2 rfl) ?_
        refine lv_iconst (v := (-1 : Int32)) Fx.1 Fx.2.1 dX9_pitch_44 (by decide) ?_
        obtain ⟨u4, hu4, hf⟩ := bd_e hf
        refine ca_i (As := [.int a1, .int (-1 : Int32)]) (rest := []) Fx hC (k_Tu_addPitch hu4) (cVU 2 Fx.2.2.2.2 wd_259 wd_260 wd_261 wd_3 wd_262 rfl rfl hd_Tu_addPitch ⟨Nat.le_of_ble_eq_true rfl, Nat.le_of_ble_eq_true rfl⟩) 4 rfl rfl rfl hl.1 rfl (Nat.le_of_ble_eq_true rfl) dX9_pitch_45 (fun H locs hC => ?_)
        refine lv_if_ne (tgt := 54) Fx.1 Fx.2.1 dX9_pitch_48 (by decide) (fun hc => ?_) (fun hc => ?_)
        · replace hf := iff_ hc hf
          refine lv_aload_n Fx.1 Fx.2.1 dX9_pitch_54 rfl (lv_at hl 1 rfl) ?_
          refine gg_FH_latest Fx hC wd_205 dX9_pitch_55 ?_
          obtain ⟨u5, hu5, hf⟩ := bd_e hf
          refine ca_v (As := []) (rest := []) Fx hC (k_Pl_forget hu5) (cVU 0 Fx.2.2.2.2 wd_228 wd_229 wd_230 wd_4 wd_231 rfl rfl hd_Pl_forget ⟨Nat.le_of_ble_eq_true rfl, Nat.le_of_ble_eq_true rfl⟩) 8 rfl rfl rfl hl.1 rfl (Nat.le_of_ble_eq_true rfl) dX9_pitch_58 (fun H locs hC => ?_)
          refine lv_aload_n Fx.1 Fx.2.1 dX9_pitch_61 rfl (lv_at hl 1 rfl) ?_
          refine gg_FH_tune Fx hC wd_204 dX9_pitch_62 ?_
          refine lv_iload_n Fx.1 Fx.2.1 dX9_pitch_65 rfl (lv_at hl 0 rfl) ?_
          obtain ⟨u6, hu6, hf⟩ := bd_e hf
          refine ca_i (As := [.int v1]) (rest := []) Fx hC (k_Tu_sizeOf hu6) (cVU 1 Fx.2.2.2.2 wd_287 wd_272 wd_273 wd_3 wd_274 rfl rfl hd_Tu_sizeOf ⟨Nat.le_of_ble_eq_true rfl, Nat.le_of_ble_eq_true rfl⟩) 4 rfl rfl rfl hl.1 rfl (Nat.le_of_ble_eq_true rfl) dX9_pitch_66 (fun H locs hC => ?_)
          obtain rfl := Option.some.inj hf
          exact hret _ _ _ _ dX9_pitch_69 hC
        · replace hf := ift hc hf
          refine lv_bipush (v := (-5 : Int32)) Fx.1 Fx.2.1 dX9_pitch_51 (by decide) ?_
          obtain rfl := Option.some.inj hf
          exact hret _ _ _ _ dX9_pitch_53 hC
      · replace hf := iff_ hc hf
        refine lv_bipush (v := (-4 : Int32)) Fx.1 Fx.2.1 dX9_pitch_36 (by decide) ?_
        obtain rfl := Option.some.inj hf
        exact hret _ _ _ _ dX9_pitch_38 hC
    · replace hf := iff_ hc hf
      refine lv_bipush (v := (-2 : Int32)) Fx.1 Fx.2.1 dX9_pitch_29 (by decide) ?_
      obtain rfl := Option.some.inj hf
      exact hret _ _ _ _ dX9_pitch_31 hC
/-! FretHands$Instrument.hasString(I)Z -/
abbrev rm_In_hasString : Room := { frames := 0, cells := 0, slots := 0, locals := 0 }
theorem hd_In_hasString : yX1_hasString.cls = RX1 ∧ yX1_hasString.cls ≠ "java/lang/invoke/MethodHandle" ∧ yX1_hasString.cls ≠ "java/lang/invoke/VarHandle" ∧ (parseMethodDescriptor yX1_hasString.desc).map (fun d => d.parameters.length) = some 1 := by decide +kernel
noncomputable def p_In_hasString (a1 : Int32) (g : sG) (f : sF) : Option (Int32) := (if a1 < 0 then some (0 : Int32) else (if (g 0) ≤ a1 then some (0 : Int32) else some (1 : Int32)))
set_option maxRecDepth 100000 in
set_option maxHeartbeats 4000000 in
theorem k_In_hasString {l : Launch} {D : va_G} {ad : Nat → Nat} {cy : Nat → ClassId} {a1 : Int32} {r : Int32} {g : sG} {f : sF} (hf : p_In_hasString a1 g f = some r) : mMi l yX1_hasString (Cond.code yX1_hasString cX1_hasString 2 (some .boolean) :: wU) rm_In_hasString D (cT cy) (cW ad cy) [.ref (ad 2), .int a1] g f (r, g, f) := by
  refine mk_z (by decide) rfl (Nat.le_of_ble_eq_true rfl) ?_
  intro p e s m below meth c Q A H0 Fx hret ls H locs hl hC
  replace hl : lv_has ls 2 [(0, .ref (ad 2)), (1, .int a1)] := hl
  unfold p_In_hasString at hf
  refine lv_iload_n Fx.1 Fx.2.1 dX1_hasString_0 rfl (lv_at hl 1 rfl) ?_
  refine lv_if_lt (tgt := 16) Fx.1 Fx.2.1 dX1_hasString_1 (by decide) (fun hc => ?_) (fun hc => ?_)
  · replace hf := ift hc hf
    refine lv_iconst (v := (0 : Int32)) Fx.1 Fx.2.1 dX1_hasString_16 (by decide) ?_
    obtain rfl := Option.some.inj hf
    exact hret _ _ _ _ dX1_hasString_17 z01_0 hC
  · replace hf := iff_ hc hf
    refine lv_iload_n Fx.1 Fx.2.1 dX1_hasString_4 rfl (lv_at hl 1 rfl) ?_
    refine lv_aload_n Fx.1 Fx.2.1 dX1_hasString_5 rfl (lv_at hl 0 rfl) ?_
    refine gg_In_strings Fx hC wd_27 dX1_hasString_6 ?_
    refine lv_icmp_ge (tgt := 16) Fx.1 Fx.2.1 dX1_hasString_9 (by decide) (fun hc => ?_) (fun hc => ?_)
    · replace hf := ift hc hf
      refine lv_iconst (v := (0 : Int32)) Fx.1 Fx.2.1 dX1_hasString_16 (by decide) ?_
      obtain rfl := Option.some.inj hf
      exact hret _ _ _ _ dX1_hasString_17 z01_0 hC
    · replace hf := iff_ hc hf
      refine lv_iconst (v := (1 : Int32)) Fx.1 Fx.2.1 dX1_hasString_12 (by decide) ?_
      refine lv_goto (tgt := 17) Fx.1 Fx.2.1 dX1_hasString_13 (by decide) ?_
      obtain rfl := Option.some.inj hf
      exact hret _ _ _ _ dX1_hasString_17 z01_1 hC
/-! FretHands$Tune.stringOf(II)I -/
abbrev rm_Tu_stringOf : Room := { frames := 2, cells := 0, slots := 0, locals := 43 }
theorem hd_Tu_stringOf : yX8_stringOf.cls = RX8 ∧ yX8_stringOf.cls ≠ "java/lang/invoke/MethodHandle" ∧ yX8_stringOf.cls ≠ "java/lang/invoke/VarHandle" ∧ (parseMethodDescriptor yX8_stringOf.desc).map (fun d => d.parameters.length) = some 2 := by decide +kernel
noncomputable def p_Tu_stringOf (a1 : Int32) (a2 : Int32) (g : sG) (f : sF) : Option (Int32) := Option.bind (p_Tu_hasPitch a1 a2 g f) (fun u1 => (if u1 = 0 then some (-1 : Int32) else (if ((a1 * (4 : Int32)) + a2) < 0 ∨ 160 ≤ ((a1 * (4 : Int32)) + a2).toNatClampNeg then none else some (f 4 ((a1 * (4 : Int32)) + a2).toNatClampNeg))))
set_option maxRecDepth 100000 in
set_option maxHeartbeats 4000000 in
theorem k_Tu_stringOf {l : Launch} {D : va_G} {ad : Nat → Nat} {cy : Nat → ClassId} {a1 : Int32} {a2 : Int32} {r : Int32} {g : sG} {f : sF} (hf : p_Tu_stringOf a1 a2 g f = some r) : mMi l yX8_stringOf (Cond.code yX8_stringOf cX8_stringOf 3 (some .int) :: wU) rm_Tu_stringOf D (cT cy) (cW ad cy) [.ref (ad 4), .int a1, .int a2] g f (r, g, f) := by
  refine mk_i (by decide) rfl (Nat.le_of_ble_eq_true rfl) ?_
  intro p e s m below meth c Q A H0 Fx hret ls H locs hl hC
  replace hl : lv_has ls 3 [(0, .ref (ad 4)), (1, .int a1), (2, .int a2)] := hl
  unfold p_Tu_stringOf at hf
  refine lv_aload_n Fx.1 Fx.2.1 dX8_stringOf_0 rfl (lv_at hl 0 rfl) ?_
  refine lv_iload_n Fx.1 Fx.2.1 dX8_stringOf_1 rfl (lv_at hl 1 rfl) ?_
  refine lv_iload_n Fx.1 Fx.2.1 dX8_stringOf_2 rfl (lv_at hl 2 rfl) ?_
  obtain ⟨u1, hu1, hf⟩ := bd_e hf
  refine ca_i (As := [.int a1, .int a2]) (rest := []) Fx hC (k_Tu_hasPitch hu1) (cVU 2 Fx.2.2.2.2 wd_283 wd_284 wd_285 wd_3 wd_286 rfl rfl hd_Tu_hasPitch ⟨Nat.le_of_ble_eq_true rfl, Nat.le_of_ble_eq_true rfl⟩) 4 rfl rfl rfl hl.1 rfl (Nat.le_of_ble_eq_true rfl) dX8_stringOf_3 (fun H locs hC => ?_)
  refine lv_if_eq (tgt := 22) Fx.1 Fx.2.1 dX8_stringOf_6 (by decide) (fun hc => ?_) (fun hc => ?_)
  · replace hf := ift hc hf
    refine lv_iconst (v := (-1 : Int32)) Fx.1 Fx.2.1 dX8_stringOf_22 (by decide) ?_
    obtain rfl := Option.some.inj hf
    exact hret _ _ _ _ dX8_stringOf_23 hC
  · replace hf := iff_ hc hf
    refine lv_aload_n Fx.1 Fx.2.1 dX8_stringOf_9 rfl (lv_at hl 0 rfl) ?_
    refine gg_Tu_bonds Fx hC wd_55 dX8_stringOf_10 ?_
    refine lv_iload_n Fx.1 Fx.2.1 dX8_stringOf_13 rfl (lv_at hl 1 rfl) ?_
    refine lv_iconst (v := (4 : Int32)) Fx.1 Fx.2.1 dX8_stringOf_14 (by decide) ?_
    refine lv_imul Fx.1 Fx.2.1 dX8_stringOf_15 ?_
    refine lv_iload_n Fx.1 Fx.2.1 dX8_stringOf_16 rfl (lv_at hl 2 rfl) ?_
    refine lv_iadd Fx.1 Fx.2.1 dX8_stringOf_17 ?_
    obtain ⟨hi2, hf⟩ := gd_e hf
    refine ld_Tu_bonds Fx hC hi2 dX8_stringOf_18 ?_
    refine lv_goto (tgt := 23) Fx.1 Fx.2.1 dX8_stringOf_19 (by decide) ?_
    obtain rfl := Option.some.inj hf
    exact hret _ _ _ _ dX8_stringOf_23 hC
/-! FretHands$Tune.bindPitch(III)V -/
abbrev rm_Tu_bindPitch : Room := { frames := 2, cells := 0, slots := 0, locals := 43 }
theorem hd_Tu_bindPitch : yX8_bindPitch.cls = RX8 ∧ yX8_bindPitch.cls ≠ "java/lang/invoke/MethodHandle" ∧ yX8_bindPitch.cls ≠ "java/lang/invoke/VarHandle" ∧ (parseMethodDescriptor yX8_bindPitch.desc).map (fun d => d.parameters.length) = some 3 := by decide +kernel
noncomputable def p_Tu_bindPitch (a1 : Int32) (a2 : Int32) (a3 : Int32) (g : sG) (f : sF) : Option (sG × sF) := Option.bind (p_Tu_hasPitch a1 a2 g f) (fun u1 => (if u1 = 0 then some (g, f) else (if ((a1 * (4 : Int32)) + a2) < 0 ∨ 160 ≤ ((a1 * (4 : Int32)) + a2).toNatClampNeg then none else lt_ (up2 f 4 ((a1 * (4 : Int32)) + a2).toNatClampNeg a3) (fun f3 => some (g, f3)))))
set_option maxRecDepth 100000 in
set_option maxHeartbeats 4000000 in
theorem k_Tu_bindPitch {l : Launch} {D : va_G} {ad : Nat → Nat} {cy : Nat → ClassId} {a1 : Int32} {a2 : Int32} {a3 : Int32} {u : sG × sF} {g : sG} {f : sF} (hf : p_Tu_bindPitch a1 a2 a3 g f = some u) : mMv l yX8_bindPitch (Cond.code yX8_bindPitch cX8_bindPitch 4 none :: wU) rm_Tu_bindPitch D (cT cy) (cW ad cy) [.ref (ad 4), .int a1, .int a2, .int a3] g f u := by
  refine mk_v (by decide) rfl (Nat.le_of_ble_eq_true rfl) ?_
  intro p e s m below meth c Q A H0 Fx hret ls H locs hl hC
  replace hl : lv_has ls 4 [(0, .ref (ad 4)), (1, .int a1), (2, .int a2), (3, .int a3)] := hl
  unfold p_Tu_bindPitch at hf
  refine lv_aload_n Fx.1 Fx.2.1 dX8_bindPitch_0 rfl (lv_at hl 0 rfl) ?_
  refine lv_iload_n Fx.1 Fx.2.1 dX8_bindPitch_1 rfl (lv_at hl 1 rfl) ?_
  refine lv_iload_n Fx.1 Fx.2.1 dX8_bindPitch_2 rfl (lv_at hl 2 rfl) ?_
  obtain ⟨u1, hu1, hf⟩ := bd_e hf
  refine ca_i (As := [.int a1, .int a2]) (rest := []) Fx hC (k_Tu_hasPitch hu1) (cVU 2 Fx.2.2.2.2 wd_283 wd_284 wd_285 wd_3 wd_286 rfl rfl hd_Tu_hasPitch ⟨Nat.le_of_ble_eq_true rfl, Nat.le_of_ble_eq_true rfl⟩) 4 rfl rfl rfl hl.1 rfl (Nat.le_of_ble_eq_true rfl) dX8_bindPitch_3 (fun H locs hC => ?_)
  refine lv_if_eq (tgt := 20) Fx.1 Fx.2.1 dX8_bindPitch_6 (by decide) (fun hc => ?_) (fun hc => ?_)
  · replace hf := ift hc hf
    obtain rfl := Option.some.inj hf
    exact hret _ _ _ _ dX8_bindPitch_20 hC
  · replace hf := iff_ hc hf
    refine lv_aload_n Fx.1 Fx.2.1 dX8_bindPitch_9 rfl (lv_at hl 0 rfl) ?_
    refine gg_Tu_bonds Fx hC wd_55 dX8_bindPitch_10 ?_
    refine lv_iload_n Fx.1 Fx.2.1 dX8_bindPitch_13 rfl (lv_at hl 1 rfl) ?_
    refine lv_iconst (v := (4 : Int32)) Fx.1 Fx.2.1 dX8_bindPitch_14 (by decide) ?_
    refine lv_imul Fx.1 Fx.2.1 dX8_bindPitch_15 ?_
    refine lv_iload_n Fx.1 Fx.2.1 dX8_bindPitch_16 rfl (lv_at hl 2 rfl) ?_
    refine lv_iadd Fx.1 Fx.2.1 dX8_bindPitch_17 ?_
    refine lv_iload_n Fx.1 Fx.2.1 dX8_bindPitch_18 rfl (lv_at hl 3 rfl) ?_
    obtain ⟨hi2, hf⟩ := gd_e hf
    obtain ⟨f3, ef3, hf⟩ := lt_e hf
    refine st_Tu_bonds Fx hC hi2 ef3 dX8_bindPitch_19 (fun H locs hC => ?_)
    obtain rfl := Option.some.inj hf
    exact hret _ _ _ _ dX8_bindPitch_20 hC
/-! FretHands.bind(III)I -/
abbrev rm_FH_bind : Room := { frames := 3, cells := 0, slots := 0, locals := 66 }
theorem hd_FH_bind : yX9_bind.cls = RX9 ∧ yX9_bind.cls ≠ "java/lang/invoke/MethodHandle" ∧ yX9_bind.cls ≠ "java/lang/invoke/VarHandle" ∧ (parseMethodDescriptor yX9_bind.desc).map (fun d => d.parameters.length) = some 3 := by decide +kernel
noncomputable def p_FH_bind_J45 (x1 : Int32) (x2 : Int32) (x3 : Int32) (g : sG) (f : sF) : Option (Int32 × sG × sF) := Option.bind (p_Tu_stringOf x1 x2 g f) (fun u1 => Option.bind (p_Tu_bindPitch x1 x2 x3 g f) (fun u2 => Option.bind (p_Pl_forget  u2.1 u2.2) (fun u3 => some (u1, u3.1, u3.2))))
set_option maxRecDepth 100000 in
set_option maxHeartbeats 4000000 in
theorem s_FH_bind_J45 {p : Program} {l : Launch} {e : Env} {s : State} {m : MethodId} {args : Array Value} {below : List Frame} {meth : Method} {c : Code} {Q : State → Prop} {D : va_G} {ad : Nat → Nat} {cy : Nat → ClassId} {A : Nat → Prop} {H0 : Heap} {u : Int32 × sG × sF} (Fx : CallFix p m c cX9_bind 5 s args (Cond.code yX9_bind cX9_bind 5 (some .int) :: wU) RX9) (hret : mRi p l e rm_FH_bind s m args below meth c Q D (cT cy) (cW ad cy) A H0 cX9_bind u)  (x1 : Int32) (x2 : Int32) (x3 : Int32) (g : sG) (f : sF) (hf : p_FH_bind_J45 x1 x2 x3 g f = some u) : ∀ (ls : Array Slot) (H : Heap) (locs : List Loc), lv_has ls 5 [(0, .ref (ad 0)), (1, .int x1), (2, .int x2), (3, .int x3)] → wH D (cT cy) (cW ad cy) A H0 s g f H locs → W p l e rm_FH_bind s m args below meth c H locs 0 0 Q (F0 m 45 ls []) := by
  intro ls H locs hl hC
  unfold p_FH_bind_J45 at hf
  refine lv_aload_n Fx.1 Fx.2.1 dX9_bind_45 rfl (lv_at hl 0 rfl) ?_
  refine gg_FH_tune Fx hC wd_204 dX9_bind_46 ?_
  refine lv_iload_n Fx.1 Fx.2.1 dX9_bind_49 rfl (lv_at hl 1 rfl) ?_
  refine lv_iload_n Fx.1 Fx.2.1 dX9_bind_50 rfl (lv_at hl 2 rfl) ?_
  obtain ⟨u1, hu1, hf⟩ := bd_e hf
  refine ca_i (As := [.int x1, .int x2]) (rest := []) Fx hC (k_Tu_stringOf hu1) (cVU 2 Fx.2.2.2.2 wd_298 wd_299 wd_300 wd_3 wd_301 rfl rfl hd_Tu_stringOf ⟨Nat.le_of_ble_eq_true rfl, Nat.le_of_ble_eq_true rfl⟩) 4 rfl rfl rfl hl.1 rfl (Nat.le_of_ble_eq_true rfl) dX9_bind_51 (fun H locs hC => ?_)
  refine lv_istore (lv' := [(4, .int u1), (0, .ref (ad 0)), (1, .int x1), (2, .int x2), (3, .int x3)]) Fx.1 Fx.2.1 dX9_bind_54 hl (by decide) rfl (fun ls hl => ?_)
  refine lv_aload_n Fx.1 Fx.2.1 dX9_bind_56 rfl (lv_at hl 1 rfl) ?_
  refine gg_FH_tune Fx hC wd_204 dX9_bind_57 ?_
  refine lv_iload_n Fx.1 Fx.2.1 dX9_bind_60 rfl (lv_at hl 2 rfl) ?_
  refine lv_iload_n Fx.1 Fx.2.1 dX9_bind_61 rfl (lv_at hl 3 rfl) ?_
  refine lv_iload_n Fx.1 Fx.2.1 dX9_bind_62 rfl (lv_at hl 4 rfl) ?_
  obtain ⟨u2, hu2, hf⟩ := bd_e hf
  refine ca_v (As := [.int x1, .int x2, .int x3]) (rest := []) Fx hC (k_Tu_bindPitch hu2) (cVU 3 Fx.2.2.2.2 wd_302 wd_303 wd_304 wd_3 wd_305 rfl rfl hd_Tu_bindPitch ⟨Nat.le_of_ble_eq_true rfl, Nat.le_of_ble_eq_true rfl⟩) 4 rfl rfl rfl hl.1 rfl (Nat.le_of_ble_eq_true rfl) dX9_bind_63 (fun H locs hC => ?_)
  refine lv_aload_n Fx.1 Fx.2.1 dX9_bind_66 rfl (lv_at hl 1 rfl) ?_
  refine gg_FH_latest Fx hC wd_205 dX9_bind_67 ?_
  obtain ⟨u3, hu3, hf⟩ := bd_e hf
  refine ca_v (As := []) (rest := []) Fx hC (k_Pl_forget hu3) (cVU 0 Fx.2.2.2.2 wd_228 wd_229 wd_230 wd_4 wd_231 rfl rfl hd_Pl_forget ⟨Nat.le_of_ble_eq_true rfl, Nat.le_of_ble_eq_true rfl⟩) 8 rfl rfl rfl hl.1 rfl (Nat.le_of_ble_eq_true rfl) dX9_bind_70 (fun H locs hC => ?_)
  refine lv_iload Fx.1 Fx.2.1 dX9_bind_73 (lv_at hl 0 rfl) ?_
  obtain rfl := Option.some.inj hf
  exact hret _ _ _ _ dX9_bind_75 hC
noncomputable def p_FH_bind (a1 : Int32) (a2 : Int32) (a3 : Int32) (g : sG) (f : sF) : Option (Int32 × sG × sF) := Option.bind (p_Tu_hasEvent a1 g f) (fun u1 => (if u1 = 0 then some ((-3 : Int32), g, f) else Option.bind (p_Tu_hasPitch a1 a2 g f) (fun u2 => (if u2 = 0 then some ((-2 : Int32), g, f) else (if a3 = (-1 : Int32) then p_FH_bind_J45 a1 a2 a3 g f else Option.bind (p_In_hasString a3 g f) (fun u3 => (if u3 = 0 then some ((-2 : Int32), g, f) else p_FH_bind_J45 a1 a2 a3 g f)))))))
set_option maxRecDepth 100000 in
set_option maxHeartbeats 4000000 in
theorem k_FH_bind {l : Launch} {D : va_G} {ad : Nat → Nat} {cy : Nat → ClassId} {a1 : Int32} {a2 : Int32} {a3 : Int32} {u : Int32 × sG × sF} {g : sG} {f : sF} (hf : p_FH_bind a1 a2 a3 g f = some u) : mMi l yX9_bind (Cond.code yX9_bind cX9_bind 5 (some .int) :: wU) rm_FH_bind D (cT cy) (cW ad cy) [.ref (ad 0), .int a1, .int a2, .int a3] g f u := by
  refine mk_i (by decide) rfl (Nat.le_of_ble_eq_true rfl) ?_
  intro p e s m below meth c Q A H0 Fx hret ls H locs hl hC
  replace hl : lv_has ls 5 [(0, .ref (ad 0)), (1, .int a1), (2, .int a2), (3, .int a3)] := hl
  unfold p_FH_bind at hf
  refine lv_aload_n Fx.1 Fx.2.1 dX9_bind_0 rfl (lv_at hl 0 rfl) ?_
  refine gg_FH_tune Fx hC wd_204 dX9_bind_1 ?_
  refine lv_iload_n Fx.1 Fx.2.1 dX9_bind_4 rfl (lv_at hl 1 rfl) ?_
  obtain ⟨u1, hu1, hf⟩ := bd_e hf
  refine ca_i (As := [.int a1]) (rest := []) Fx hC (k_Tu_hasEvent hu1) (cVU 1 Fx.2.2.2.2 wd_292 wd_276 wd_277 wd_3 wd_278 rfl rfl hd_Tu_hasEvent ⟨Nat.le_of_ble_eq_true rfl, Nat.le_of_ble_eq_true rfl⟩) 4 rfl rfl rfl hl.1 rfl (Nat.le_of_ble_eq_true rfl) dX9_bind_5 (fun H locs hC => ?_)
  refine lv_if_ne (tgt := 14) Fx.1 Fx.2.1 dX9_bind_8 (by decide) (fun hc => ?_) (fun hc => ?_)
  · replace hf := iff_ hc hf
    refine lv_aload_n Fx.1 Fx.2.1 dX9_bind_14 rfl (lv_at hl 0 rfl) ?_
    refine gg_FH_tune Fx hC wd_204 dX9_bind_15 ?_
    refine lv_iload_n Fx.1 Fx.2.1 dX9_bind_18 rfl (lv_at hl 1 rfl) ?_
    refine lv_iload_n Fx.1 Fx.2.1 dX9_bind_19 rfl (lv_at hl 2 rfl) ?_
    obtain ⟨u2, hu2, hf⟩ := bd_e hf
    refine ca_i (As := [.int a1, .int a2]) (rest := []) Fx hC (k_Tu_hasPitch hu2) (cVU 2 Fx.2.2.2.2 wd_293 wd_284 wd_285 wd_3 wd_286 rfl rfl hd_Tu_hasPitch ⟨Nat.le_of_ble_eq_true rfl, Nat.le_of_ble_eq_true rfl⟩) 4 rfl rfl rfl hl.1 rfl (Nat.le_of_ble_eq_true rfl) dX9_bind_20 (fun H locs hC => ?_)
    refine lv_if_eq (tgt := 42) Fx.1 Fx.2.1 dX9_bind_23 (by decide) (fun hc => ?_) (fun hc => ?_)
    · replace hf := ift hc hf
      refine lv_bipush (v := (-2 : Int32)) Fx.1 Fx.2.1 dX9_bind_42 (by decide) ?_
      obtain rfl := Option.some.inj hf
      exact hret _ _ _ _ dX9_bind_44 hC
    · replace hf := iff_ hc hf
      refine lv_iload_n Fx.1 Fx.2.1 dX9_bind_26 rfl (lv_at hl 3 rfl) ?_
      refine lv_iconst (v := (-1 : Int32)) Fx.1 Fx.2.1 dX9_bind_27 (by decide) ?_
      refine lv_icmp_eq (tgt := 45) Fx.1 Fx.2.1 dX9_bind_28 (by decide) (fun hc => ?_) (fun hc => ?_)
      · replace hf := ift hc hf
        exact s_FH_bind_J45 Fx hret _ _ _ _ _  hf _ _ _ (lv_sub hl [0, 1, 2, 3] rfl) hC
      · replace hf := iff_ hc hf
        refine lv_aload_n Fx.1 Fx.2.1 dX9_bind_31 rfl (lv_at hl 0 rfl) ?_
        refine gg_FH_instrument Fx hC wd_202 dX9_bind_32 ?_
        refine lv_iload_n Fx.1 Fx.2.1 dX9_bind_35 rfl (lv_at hl 3 rfl) ?_
        obtain ⟨u3, hu3, hf⟩ := bd_e hf
        refine ca_i (As := [.int a3]) (rest := []) Fx hC (k_In_hasString hu3) (cVU 1 Fx.2.2.2.2 wd_294 wd_295 wd_296 wd_2 wd_297 rfl rfl hd_In_hasString ⟨Nat.le_of_ble_eq_true rfl, Nat.le_of_ble_eq_true rfl⟩) 2 rfl rfl rfl hl.1 rfl (Nat.le_of_ble_eq_true rfl) dX9_bind_36 (fun H locs hC => ?_)
        refine lv_if_ne (tgt := 45) Fx.1 Fx.2.1 dX9_bind_39 (by decide) (fun hc => ?_) (fun hc => ?_)
        · replace hf := iff_ hc hf
          exact s_FH_bind_J45 Fx hret _ _ _ _ _  hf _ _ _ (lv_sub hl [0, 1, 2, 3] rfl) hC
        · replace hf := ift hc hf
          refine lv_bipush (v := (-2 : Int32)) Fx.1 Fx.2.1 dX9_bind_42 (by decide) ?_
          obtain rfl := Option.some.inj hf
          exact hret _ _ _ _ dX9_bind_44 hC
  · replace hf := ift hc hf
    refine lv_bipush (v := (-3 : Int32)) Fx.1 Fx.2.1 dX9_bind_11 (by decide) ?_
    obtain rfl := Option.some.inj hf
    exact hret _ _ _ _ dX9_bind_13 hC
