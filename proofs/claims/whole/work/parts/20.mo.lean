/-! FretHandsModel.within(III)Z -/
abbrev rm_M_within : Room := { frames := 0, cells := 0, slots := 0, locals := 0 }
theorem hd_M_within : yX10_within.cls ≠ "java/lang/invoke/MethodHandle" ∧ yX10_within.cls ≠ "java/lang/invoke/VarHandle" ∧ (parseMethodDescriptor yX10_within.desc).map (fun d => d.parameters.length) = some 3 := by decide +kernel
noncomputable def p_M_within (a1 : Int32) (a2 : Int32) (a3 : Int32) (g : sG) (f : sF) : Option (Int32) := (if a1 < a2 then some (0 : Int32) else (if a3 < a1 then some (0 : Int32) else some (1 : Int32)))
set_option maxRecDepth 100000 in
set_option maxHeartbeats 4000000 in
theorem k_M_within {l : Launch} {D : va_G} {ad : Nat → Nat} {cy : Nat → ClassId} {a1 : Int32} {a2 : Int32} {a3 : Int32} {r : Int32} {g : sG} {f : sF} (hf : p_M_within a1 a2 a3 g f = some r) : mMi l yX10_within (Cond.code yX10_within cX10_within 3 (some .boolean) :: wU) rm_M_within D (mT cy) (mW ad cy) [.int a1, .int a2, .int a3] g f (r, g, f) := by
  refine mk_z (by decide) rfl (Nat.le_of_ble_eq_true rfl) ?_
  intro p e s m below meth c Q A H0 Fx hret ls H locs hl hC
  replace hl : lv_has ls 3 [(0, .int a1), (1, .int a2), (2, .int a3)] := hl
  unfold p_M_within at hf
  refine lv_iload_n Fx.1 Fx.2.1 dX10_within_0 rfl (lv_at hl 0 rfl) ?_
  refine lv_iload_n Fx.1 Fx.2.1 dX10_within_1 rfl (lv_at hl 1 rfl) ?_
  refine lv_icmp_lt (tgt := 14) Fx.1 Fx.2.1 dX10_within_2 (by decide) (fun hc => ?_) (fun hc => ?_)
  · replace hf := ift hc hf
    refine lv_iconst (v := (0 : Int32)) Fx.1 Fx.2.1 dX10_within_14 (by decide) ?_
    obtain rfl := Option.some.inj hf
    exact hret _ _ _ _ dX10_within_15 z01_0 hC
  · replace hf := iff_ hc hf
    refine lv_iload_n Fx.1 Fx.2.1 dX10_within_5 rfl (lv_at hl 0 rfl) ?_
    refine lv_iload_n Fx.1 Fx.2.1 dX10_within_6 rfl (lv_at hl 2 rfl) ?_
    refine lv_icmp_gt (tgt := 14) Fx.1 Fx.2.1 dX10_within_7 (by decide) (fun hc => ?_) (fun hc => ?_)
    · replace hf := ift hc hf
      refine lv_iconst (v := (0 : Int32)) Fx.1 Fx.2.1 dX10_within_14 (by decide) ?_
      obtain rfl := Option.some.inj hf
      exact hret _ _ _ _ dX10_within_15 z01_0 hC
    · replace hf := iff_ hc hf
      refine lv_iconst (v := (1 : Int32)) Fx.1 Fx.2.1 dX10_within_10 (by decide) ?_
      refine lv_goto (tgt := 15) Fx.1 Fx.2.1 dX10_within_11 (by decide) ?_
      obtain rfl := Option.some.inj hf
      exact hret _ _ _ _ dX10_within_15 z01_1 hC
/-! FretHandsModel.isEvent(I)Z -/
abbrev rm_M_isEvent : Room := { frames := 1, cells := 0, slots := 0, locals := 22 }
theorem hd_M_isEvent : yX10_isEvent.cls = RX10 ∧ yX10_isEvent.cls ≠ "java/lang/invoke/MethodHandle" ∧ yX10_isEvent.cls ≠ "java/lang/invoke/VarHandle" ∧ (parseMethodDescriptor yX10_isEvent.desc).map (fun d => d.parameters.length) = some 1 := by decide +kernel
noncomputable def p_M_isEvent (a1 : Int32) (g : sG) (f : sF) : Option (Int32) := Option.bind (p_M_within a1 (0 : Int32) ((g 3) - (1 : Int32)) g f) (fun u1 => (if ¬ u1 = 0 ∧ ¬ u1 = 1 then none else some u1))
set_option maxRecDepth 100000 in
set_option maxHeartbeats 4000000 in
theorem k_M_isEvent {l : Launch} {D : va_G} {ad : Nat → Nat} {cy : Nat → ClassId} {a1 : Int32} {r : Int32} {g : sG} {f : sF} (hf : p_M_isEvent a1 g f = some r) : mMi l yX10_isEvent (Cond.code yX10_isEvent cX10_isEvent 2 (some .boolean) :: wU) rm_M_isEvent D (mT cy) (mW ad cy) [.ref (ad 0), .int a1] g f (r, g, f) := by
  refine mk_z (by decide) rfl (Nat.le_of_ble_eq_true rfl) ?_
  intro p e s m below meth c Q A H0 Fx hret ls H locs hl hC
  replace hl : lv_has ls 2 [(0, .ref (ad 0)), (1, .int a1)] := hl
  unfold p_M_isEvent at hf
  refine lv_iload_n Fx.1 Fx.2.1 dX10_isEvent_0 rfl (lv_at hl 1 rfl) ?_
  refine lv_iconst (v := (0 : Int32)) Fx.1 Fx.2.1 dX10_isEvent_1 (by decide) ?_
  refine lv_aload_n Fx.1 Fx.2.1 dX10_isEvent_2 rfl (lv_at hl 0 rfl) ?_
  refine gg_M_events Fx hC wd_595 dX10_isEvent_3 ?_
  refine lv_iconst (v := (1 : Int32)) Fx.1 Fx.2.1 dX10_isEvent_6 (by decide) ?_
  refine lv_isub Fx.1 Fx.2.1 dX10_isEvent_7 ?_
  obtain ⟨u1, hu1, hf⟩ := bd_e hf
  refine ca_s (As := [.int a1, .int (0 : Int32), .int ((g 3) - (1 : Int32))]) (rest := []) Fx hC (k_M_within hu1) (cSU 3 Fx.2.2.2.2 wd_661 wd_662 wd_10 wd_663 rfl rfl hd_M_within ⟨Nat.le_of_ble_eq_true rfl, Nat.le_of_ble_eq_true rfl⟩) rfl hl.1 rfl (Nat.le_of_ble_eq_true rfl) dX10_isEvent_8 (fun H locs hC => ?_)
  obtain ⟨hz, hf⟩ := gd_e hf
  obtain rfl := Option.some.inj hf
  exact hret _ _ _ _ dX10_isEvent_11 hz hC
/-! FretHandsModel.isString(I)Z -/
abbrev rm_M_isString : Room := { frames := 1, cells := 0, slots := 0, locals := 22 }
theorem hd_M_isString : yX10_isString.cls = RX10 ∧ yX10_isString.cls ≠ "java/lang/invoke/MethodHandle" ∧ yX10_isString.cls ≠ "java/lang/invoke/VarHandle" ∧ (parseMethodDescriptor yX10_isString.desc).map (fun d => d.parameters.length) = some 1 := by decide +kernel
noncomputable def p_M_isString (a1 : Int32) (g : sG) (f : sF) : Option (Int32) := Option.bind (p_M_within a1 (0 : Int32) ((g 0) - (1 : Int32)) g f) (fun u1 => (if ¬ u1 = 0 ∧ ¬ u1 = 1 then none else some u1))
set_option maxRecDepth 100000 in
set_option maxHeartbeats 4000000 in
theorem k_M_isString {l : Launch} {D : va_G} {ad : Nat → Nat} {cy : Nat → ClassId} {a1 : Int32} {r : Int32} {g : sG} {f : sF} (hf : p_M_isString a1 g f = some r) : mMi l yX10_isString (Cond.code yX10_isString cX10_isString 2 (some .boolean) :: wU) rm_M_isString D (mT cy) (mW ad cy) [.ref (ad 0), .int a1] g f (r, g, f) := by
  refine mk_z (by decide) rfl (Nat.le_of_ble_eq_true rfl) ?_
  intro p e s m below meth c Q A H0 Fx hret ls H locs hl hC
  replace hl : lv_has ls 2 [(0, .ref (ad 0)), (1, .int a1)] := hl
  unfold p_M_isString at hf
  refine lv_iload_n Fx.1 Fx.2.1 dX10_isString_0 rfl (lv_at hl 1 rfl) ?_
  refine lv_iconst (v := (0 : Int32)) Fx.1 Fx.2.1 dX10_isString_1 (by decide) ?_
  refine lv_aload_n Fx.1 Fx.2.1 dX10_isString_2 rfl (lv_at hl 0 rfl) ?_
  refine gg_M_strings Fx hC wd_590 dX10_isString_3 ?_
  refine lv_iconst (v := (1 : Int32)) Fx.1 Fx.2.1 dX10_isString_6 (by decide) ?_
  refine lv_isub Fx.1 Fx.2.1 dX10_isString_7 ?_
  obtain ⟨u1, hu1, hf⟩ := bd_e hf
  refine ca_s (As := [.int a1, .int (0 : Int32), .int ((g 0) - (1 : Int32))]) (rest := []) Fx hC (k_M_within hu1) (cSU 3 Fx.2.2.2.2 wd_661 wd_662 wd_10 wd_663 rfl rfl hd_M_within ⟨Nat.le_of_ble_eq_true rfl, Nat.le_of_ble_eq_true rfl⟩) rfl hl.1 rfl (Nat.le_of_ble_eq_true rfl) dX10_isString_8 (fun H locs hC => ?_)
  obtain ⟨hz, hf⟩ := gd_e hf
  obtain rfl := Option.some.inj hf
  exact hret _ _ _ _ dX10_isString_11 hz hC
/-! FretHandsModel.string(I)I -/
abbrev rm_M_string : Room := { frames := 1, cells := 0, slots := 0, locals := 22 }
theorem hd_M_string : yX10_string.cls = RX10 ∧ yX10_string.cls ≠ "java/lang/invoke/MethodHandle" ∧ yX10_string.cls ≠ "java/lang/invoke/VarHandle" ∧ (parseMethodDescriptor yX10_string.desc).map (fun d => d.parameters.length) = some 1 := by decide +kernel
noncomputable def p_M_string (a1 : Int32) (g : sG) (f : sF) : Option (Int32 × sG × sF) := Option.bind (p_M_within a1 (0 : Int32) (99 : Int32) g f) (fun u1 => (if u1 = 0 then some ((-2 : Int32), g, f) else (if (g 3) ≤ 0 then (if (g 0) = (7 : Int32) then some ((-5 : Int32), g, f) else (if (g 0) < 0 ∨ 7 ≤ (g 0).toNatClampNeg then none else lt_ (up2 f 0 (g 0).toNatClampNeg a1) (fun f3 => lt_ (upd g 0 ((g 0) + (1 : Int32))) (fun g4 => lt_ (upd g4 4 (0 : Int32)) (fun g5 => some (g5 0, g5, f3)))))) else some ((-4 : Int32), g, f))))
set_option maxRecDepth 100000 in
set_option maxHeartbeats 4000000 in
theorem k_M_string {l : Launch} {D : va_G} {ad : Nat → Nat} {cy : Nat → ClassId} {a1 : Int32} {u : Int32 × sG × sF} {g : sG} {f : sF} (hf : p_M_string a1 g f = some u) : mMi l yX10_string (Cond.code yX10_string cX10_string 2 (some .int) :: wU) rm_M_string D (mT cy) (mW ad cy) [.ref (ad 0), .int a1] g f u := by
  refine mk_i (by decide) rfl (Nat.le_of_ble_eq_true rfl) ?_
  intro p e s m below meth c Q A H0 Fx hret ls H locs hl hC
  replace hl : lv_has ls 2 [(0, .ref (ad 0)), (1, .int a1)] := hl
  unfold p_M_string at hf
  refine lv_iload_n Fx.1 Fx.2.1 dX10_string_0 rfl (lv_at hl 1 rfl) ?_
  refine lv_iconst (v := (0 : Int32)) Fx.1 Fx.2.1 dX10_string_1 (by decide) ?_
  refine lv_bipush (v := (99 : Int32)) Fx.1 Fx.2.1 dX10_string_2 (by decide) ?_
  obtain ⟨u1, hu1, hf⟩ := bd_e hf
  refine ca_s (As := [.int a1, .int (0 : Int32), .int (99 : Int32)]) (rest := []) Fx hC (k_M_within hu1) (cSU 3 Fx.2.2.2.2 wd_661 wd_662 wd_10 wd_663 rfl rfl hd_M_within ⟨Nat.le_of_ble_eq_true rfl, Nat.le_of_ble_eq_true rfl⟩) rfl hl.1 rfl (Nat.le_of_ble_eq_true rfl) dX10_string_4 (fun H locs hC => ?_)
  refine lv_if_ne (tgt := 13) Fx.1 Fx.2.1 dX10_string_7 (by decide) (fun hc => ?_) (fun hc => ?_)
  · replace hf := iff_ hc hf
    refine lv_aload_n Fx.1 Fx.2.1 dX10_string_13 rfl (lv_at hl 0 rfl) ?_
    refine gg_M_events Fx hC wd_595 dX10_string_14 ?_
    refine lv_if_le (tgt := 23) Fx.1 Fx.2.1 dX10_string_17 (by decide) (fun hc => ?_) (fun hc => ?_)
    · replace hf := ift hc hf
      refine lv_aload_n Fx.1 Fx.2.1 dX10_string_23 rfl (lv_at hl 0 rfl) ?_
      refine gg_M_strings Fx hC wd_590 dX10_string_24 ?_
      refine lv_bipush (v := (7 : Int32)) Fx.1 Fx.2.1 dX10_string_27 (by decide) ?_
      refine lv_icmp_ne (tgt := 35) Fx.1 Fx.2.1 dX10_string_29 (by decide) (fun hc => ?_) (fun hc => ?_)
      · replace hf := iff_ hc hf
        refine lv_aload_n Fx.1 Fx.2.1 dX10_string_35 rfl (lv_at hl 0 rfl) ?_
        refine gg_M_tuned Fx hC wd_591 dX10_string_36 ?_
        refine lv_aload_n Fx.1 Fx.2.1 dX10_string_39 rfl (lv_at hl 0 rfl) ?_
        refine gg_M_strings Fx hC wd_590 dX10_string_40 ?_
        refine lv_iload_n Fx.1 Fx.2.1 dX10_string_43 rfl (lv_at hl 1 rfl) ?_
        obtain ⟨hi2, hf⟩ := gd_e hf
        obtain ⟨f3, ef3, hf⟩ := lt_e hf
        refine st_M_tuned Fx hC hi2 ef3 dX10_string_44 (fun H locs hC => ?_)
        refine lv_aload_n Fx.1 Fx.2.1 dX10_string_45 rfl (lv_at hl 0 rfl) ?_
        refine lv_dup Fx.1 Fx.2.1 dX10_string_46 rfl ?_
        refine gg_M_strings Fx hC wd_590 dX10_string_47 ?_
        refine lv_iconst (v := (1 : Int32)) Fx.1 Fx.2.1 dX10_string_50 (by decide) ?_
        refine lv_iadd Fx.1 Fx.2.1 dX10_string_51 ?_
        obtain ⟨g4, eg4, hf⟩ := lt_e hf
        refine gp_M_strings Fx hC wd_590 eg4 dX10_string_52 (fun H locs hC => ?_)
        refine lv_aload_n Fx.1 Fx.2.1 dX10_string_55 rfl (lv_at hl 0 rfl) ?_
        refine lv_iconst (v := (0 : Int32)) Fx.1 Fx.2.1 dX10_string_56 (by decide) ?_
        obtain ⟨g5, eg5, hf⟩ := lt_e hf
        refine gp_M_isFound Fx hC wd_599 z01_0 eg5 dX10_string_57 (fun H locs hC => ?_)
        refine lv_aload_n Fx.1 Fx.2.1 dX10_string_60 rfl (lv_at hl 0 rfl) ?_
        refine gg_M_strings Fx hC wd_590 dX10_string_61 ?_
        obtain rfl := Option.some.inj hf
        exact hret _ _ _ _ dX10_string_64 hC
      · replace hf := ift hc hf
        refine lv_bipush (v := (-5 : Int32)) Fx.1 Fx.2.1 dX10_string_32 (by decide) ?_
        obtain rfl := Option.some.inj hf
        exact hret _ _ _ _ dX10_string_34 hC
    · replace hf := iff_ hc hf
      refine lv_bipush (v := (-4 : Int32)) Fx.1 Fx.2.1 dX10_string_20 (by decide) ?_
      obtain rfl := Option.some.inj hf
      exact hret _ _ _ _ dX10_string_22 hC
  · replace hf := ift hc hf
    refine lv_bipush (v := (-2 : Int32)) Fx.1 Fx.2.1 dX10_string_10 (by decide) ?_
    obtain rfl := Option.some.inj hf
    exact hret _ _ _ _ dX10_string_12 hC
/-! FretHandsModel.clear()I -/
abbrev rm_M_clear : Room := { frames := 0, cells := 0, slots := 0, locals := 0 }
theorem hd_M_clear : yX10_clear.cls = RX10 ∧ yX10_clear.cls ≠ "java/lang/invoke/MethodHandle" ∧ yX10_clear.cls ≠ "java/lang/invoke/VarHandle" ∧ (parseMethodDescriptor yX10_clear.desc).map (fun d => d.parameters.length) = some 0 := by decide +kernel
noncomputable def p_M_clear  (g : sG) (f : sF) : Option (Int32 × sG × sF) := lt_ (g 3) (fun v1 => lt_ (upd g 0 (0 : Int32)) (fun g2 => lt_ (upd g2 3 (0 : Int32)) (fun g3 => lt_ (upd g3 4 (0 : Int32)) (fun g4 => some (v1, g4, f)))))
set_option maxRecDepth 100000 in
set_option maxHeartbeats 4000000 in
theorem k_M_clear {l : Launch} {D : va_G} {ad : Nat → Nat} {cy : Nat → ClassId}  {u : Int32 × sG × sF} {g : sG} {f : sF} (hf : p_M_clear  g f = some u) : mMi l yX10_clear (Cond.code yX10_clear cX10_clear 2 (some .int) :: wU) rm_M_clear D (mT cy) (mW ad cy) [.ref (ad 0)] g f u := by
  refine mk_i (by decide) rfl (Nat.le_of_ble_eq_true rfl) ?_
  intro p e s m below meth c Q A H0 Fx hret ls H locs hl hC
  replace hl : lv_has ls 2 [(0, .ref (ad 0))] := hl
  unfold p_M_clear at hf
  refine lv_aload_n Fx.1 Fx.2.1 dX10_clear_0 rfl (lv_at hl 0 rfl) ?_
  refine gg_M_events Fx hC wd_595 dX10_clear_1 ?_
  obtain ⟨v1, ev1, hf⟩ := lt_e hf
  refine tpi ev1 ?_
  refine lv_istore_n (lv' := [(1, .int v1), (0, .ref (ad 0))]) Fx.1 Fx.2.1 dX10_clear_4 rfl hl (by decide) rfl (fun ls hl => ?_)
  refine lv_aload_n Fx.1 Fx.2.1 dX10_clear_5 rfl (lv_at hl 1 rfl) ?_
  refine lv_iconst (v := (0 : Int32)) Fx.1 Fx.2.1 dX10_clear_6 (by decide) ?_
  obtain ⟨g2, eg2, hf⟩ := lt_e hf
  refine gp_M_strings Fx hC wd_590 eg2 dX10_clear_7 (fun H locs hC => ?_)
  refine lv_aload_n Fx.1 Fx.2.1 dX10_clear_10 rfl (lv_at hl 1 rfl) ?_
  refine lv_iconst (v := (0 : Int32)) Fx.1 Fx.2.1 dX10_clear_11 (by decide) ?_
  obtain ⟨g3, eg3, hf⟩ := lt_e hf
  refine gp_M_events Fx hC wd_595 eg3 dX10_clear_12 (fun H locs hC => ?_)
  refine lv_aload_n Fx.1 Fx.2.1 dX10_clear_15 rfl (lv_at hl 1 rfl) ?_
  refine lv_iconst (v := (0 : Int32)) Fx.1 Fx.2.1 dX10_clear_16 (by decide) ?_
  obtain ⟨g4, eg4, hf⟩ := lt_e hf
  refine gp_M_isFound Fx hC wd_599 z01_0 eg4 dX10_clear_17 (fun H locs hC => ?_)
  refine lv_iload_n Fx.1 Fx.2.1 dX10_clear_20 rfl (lv_at hl 0 rfl) ?_
  obtain rfl := Option.some.inj hf
  exact hret _ _ _ _ dX10_clear_21 hC
/-! FretHandsModel.neck(I)I -/
abbrev rm_M_neck : Room := { frames := 1, cells := 0, slots := 0, locals := 22 }
theorem hd_M_neck : yX10_neck.cls = RX10 ∧ yX10_neck.cls ≠ "java/lang/invoke/MethodHandle" ∧ yX10_neck.cls ≠ "java/lang/invoke/VarHandle" ∧ (parseMethodDescriptor yX10_neck.desc).map (fun d => d.parameters.length) = some 1 := by decide +kernel
noncomputable def p_M_neck (a1 : Int32) (g : sG) (f : sF) : Option (Int32 × sG × sF) := Option.bind (p_M_within a1 (1 : Int32) (24 : Int32) g f) (fun u1 => (if u1 = 0 then some ((-2 : Int32), g, f) else (if (g 2) < a1 then lt_ (g 1) (fun v2 => lt_ (upd g 1 a1) (fun g3 => lt_ (upd g3 4 (0 : Int32)) (fun g4 => some (v2, g4, f)))) else some ((-2 : Int32), g, f))))
set_option maxRecDepth 100000 in
set_option maxHeartbeats 4000000 in
theorem k_M_neck {l : Launch} {D : va_G} {ad : Nat → Nat} {cy : Nat → ClassId} {a1 : Int32} {u : Int32 × sG × sF} {g : sG} {f : sF} (hf : p_M_neck a1 g f = some u) : mMi l yX10_neck (Cond.code yX10_neck cX10_neck 3 (some .int) :: wU) rm_M_neck D (mT cy) (mW ad cy) [.ref (ad 0), .int a1] g f u := by
  refine mk_i (by decide) rfl (Nat.le_of_ble_eq_true rfl) ?_
  intro p e s m below meth c Q A H0 Fx hret ls H locs hl hC
  replace hl : lv_has ls 3 [(0, .ref (ad 0)), (1, .int a1)] := hl
  unfold p_M_neck at hf
  refine lv_iload_n Fx.1 Fx.2.1 dX10_neck_0 rfl (lv_at hl 1 rfl) ?_
  refine lv_iconst (v := (1 : Int32)) Fx.1 Fx.2.1 dX10_neck_1 (by decide) ?_
  refine lv_bipush (v := (24 : Int32)) Fx.1 Fx.2.1 dX10_neck_2 (by decide) ?_
  obtain ⟨u1, hu1, hf⟩ := bd_e hf
  refine ca_s (As := [.int a1, .int (1 : Int32), .int (24 : Int32)]) (rest := []) Fx hC (k_M_within hu1) (cSU 3 Fx.2.2.2.2 wd_661 wd_662 wd_10 wd_663 rfl rfl hd_M_within ⟨Nat.le_of_ble_eq_true rfl, Nat.le_of_ble_eq_true rfl⟩) rfl hl.1 rfl (Nat.le_of_ble_eq_true rfl) dX10_neck_4 (fun H locs hC => ?_)
  refine lv_if_eq (tgt := 18) Fx.1 Fx.2.1 dX10_neck_7 (by decide) (fun hc => ?_) (fun hc => ?_)
  · replace hf := ift hc hf
    refine lv_bipush (v := (-2 : Int32)) Fx.1 Fx.2.1 dX10_neck_18 (by decide) ?_
    obtain rfl := Option.some.inj hf
    exact hret _ _ _ _ dX10_neck_20 hC
  · replace hf := iff_ hc hf
    refine lv_iload_n Fx.1 Fx.2.1 dX10_neck_10 rfl (lv_at hl 1 rfl) ?_
    refine lv_aload_n Fx.1 Fx.2.1 dX10_neck_11 rfl (lv_at hl 0 rfl) ?_
    refine gg_M_capo Fx hC wd_593 dX10_neck_12 ?_
    refine lv_icmp_gt (tgt := 21) Fx.1 Fx.2.1 dX10_neck_15 (by decide) (fun hc => ?_) (fun hc => ?_)
    · replace hf := ift hc hf
      refine lv_aload_n Fx.1 Fx.2.1 dX10_neck_21 rfl (lv_at hl 0 rfl) ?_
      refine gg_M_neck Fx hC wd_592 dX10_neck_22 ?_
      obtain ⟨v2, ev2, hf⟩ := lt_e hf
      refine tpi ev2 ?_
      refine lv_istore_n (lv' := [(2, .int v2), (0, .ref (ad 0)), (1, .int a1)]) Fx.1 Fx.2.1 dX10_neck_25 rfl hl (by decide) rfl (fun ls hl => ?_)
      refine lv_aload_n Fx.1 Fx.2.1 dX10_neck_26 rfl (lv_at hl 1 rfl) ?_
      refine lv_iload_n Fx.1 Fx.2.1 dX10_neck_27 rfl (lv_at hl 2 rfl) ?_
      obtain ⟨g3, eg3, hf⟩ := lt_e hf
      refine gp_M_neck Fx hC wd_592 eg3 dX10_neck_28 (fun H locs hC => ?_)
      refine lv_aload_n Fx.1 Fx.2.1 dX10_neck_31 rfl (lv_at hl 1 rfl) ?_
      refine lv_iconst (v := (0 : Int32)) Fx.1 Fx.2.1 dX10_neck_32 (by decide) ?_
      obtain ⟨g4, eg4, hf⟩ := lt_e hf
      refine gp_M_isFound Fx hC wd_599 z01_0 eg4 dX10_neck_33 (fun H locs hC => ?_)
      refine lv_iload_n Fx.1 Fx.2.1 dX10_neck_36 rfl (lv_at hl 0 rfl) ?_
      obtain rfl := Option.some.inj hf
      exact hret _ _ _ _ dX10_neck_37 hC
    · replace hf := iff_ hc hf
      refine lv_bipush (v := (-2 : Int32)) Fx.1 Fx.2.1 dX10_neck_18 (by decide) ?_
      obtain rfl := Option.some.inj hf
      exact hret _ _ _ _ dX10_neck_20 hC
/-! FretHandsModel.capo(I)I -/
abbrev rm_M_capo : Room := { frames := 1, cells := 0, slots := 0, locals := 22 }
theorem hd_M_capo : yX10_capo.cls = RX10 ∧ yX10_capo.cls ≠ "java/lang/invoke/MethodHandle" ∧ yX10_capo.cls ≠ "java/lang/invoke/VarHandle" ∧ (parseMethodDescriptor yX10_capo.desc).map (fun d => d.parameters.length) = some 1 := by decide +kernel
noncomputable def p_M_capo (a1 : Int32) (g : sG) (f : sF) : Option (Int32 × sG × sF) := Option.bind (p_M_within a1 (0 : Int32) ((g 1) - (1 : Int32)) g f) (fun u1 => (if u1 = 0 then some ((-2 : Int32), g, f) else lt_ (g 2) (fun v2 => lt_ (upd g 2 a1) (fun g3 => lt_ (upd g3 4 (0 : Int32)) (fun g4 => some (v2, g4, f))))))
set_option maxRecDepth 100000 in
set_option maxHeartbeats 4000000 in
theorem k_M_capo {l : Launch} {D : va_G} {ad : Nat → Nat} {cy : Nat → ClassId} {a1 : Int32} {u : Int32 × sG × sF} {g : sG} {f : sF} (hf : p_M_capo a1 g f = some u) : mMi l yX10_capo (Cond.code yX10_capo cX10_capo 3 (some .int) :: wU) rm_M_capo D (mT cy) (mW ad cy) [.ref (ad 0), .int a1] g f u := by
  refine mk_i (by decide) rfl (Nat.le_of_ble_eq_true rfl) ?_
  intro p e s m below meth c Q A H0 Fx hret ls H locs hl hC
  replace hl : lv_has ls 3 [(0, .ref (ad 0)), (1, .int a1)] := hl
  unfold p_M_capo at hf
  refine lv_iload_n Fx.1 Fx.2.1 dX10_capo_0 rfl (lv_at hl 1 rfl) ?_
  refine lv_iconst (v := (0 : Int32)) Fx.1 Fx.2.1 dX10_capo_1 (by decide) ?_
  refine lv_aload_n Fx.1 Fx.2.1 dX10_capo_2 rfl (lv_at hl 0 rfl) ?_
  refine gg_M_neck Fx hC wd_592 dX10_capo_3 ?_
  refine lv_iconst (v := (1 : Int32)) Fx.1 Fx.2.1 dX10_capo_6 (by decide) ?_
  refine lv_isub Fx.1 Fx.2.1 dX10_capo_7 ?_
  obtain ⟨u1, hu1, hf⟩ := bd_e hf
  refine ca_s (As := [.int a1, .int (0 : Int32), .int ((g 1) - (1 : Int32))]) (rest := []) Fx hC (k_M_within hu1) (cSU 3 Fx.2.2.2.2 wd_661 wd_662 wd_10 wd_663 rfl rfl hd_M_within ⟨Nat.le_of_ble_eq_true rfl, Nat.le_of_ble_eq_true rfl⟩) rfl hl.1 rfl (Nat.le_of_ble_eq_true rfl) dX10_capo_8 (fun H locs hC => ?_)
  refine lv_if_ne (tgt := 17) Fx.1 Fx.2.1 dX10_capo_11 (by decide) (fun hc => ?_) (fun hc => ?_)
  · replace hf := iff_ hc hf
    refine lv_aload_n Fx.1 Fx.2.1 dX10_capo_17 rfl (lv_at hl 0 rfl) ?_
    refine gg_M_capo Fx hC wd_593 dX10_capo_18 ?_
    obtain ⟨v2, ev2, hf⟩ := lt_e hf
    refine tpi ev2 ?_
    refine lv_istore_n (lv' := [(2, .int v2), (0, .ref (ad 0)), (1, .int a1)]) Fx.1 Fx.2.1 dX10_capo_21 rfl hl (by decide) rfl (fun ls hl => ?_)
    refine lv_aload_n Fx.1 Fx.2.1 dX10_capo_22 rfl (lv_at hl 1 rfl) ?_
    refine lv_iload_n Fx.1 Fx.2.1 dX10_capo_23 rfl (lv_at hl 2 rfl) ?_
    obtain ⟨g3, eg3, hf⟩ := lt_e hf
    refine gp_M_capo Fx hC wd_593 eg3 dX10_capo_24 (fun H locs hC => ?_)
    refine lv_aload_n Fx.1 Fx.2.1 dX10_capo_27 rfl (lv_at hl 1 rfl) ?_
    refine lv_iconst (v := (0 : Int32)) Fx.1 Fx.2.1 dX10_capo_28 (by decide) ?_
    obtain ⟨g4, eg4, hf⟩ := lt_e hf
    refine gp_M_isFound Fx hC wd_599 z01_0 eg4 dX10_capo_29 (fun H locs hC => ?_)
    refine lv_iload_n Fx.1 Fx.2.1 dX10_capo_32 rfl (lv_at hl 0 rfl) ?_
    obtain rfl := Option.some.inj hf
    exact hret _ _ _ _ dX10_capo_33 hC
  · replace hf := ift hc hf
    refine lv_bipush (v := (-2 : Int32)) Fx.1 Fx.2.1 dX10_capo_14 (by decide) ?_
    obtain rfl := Option.some.inj hf
    exact hret _ _ _ _ dX10_capo_16 hC
/-! FretHandsModel.weight(II)I -/
abbrev rm_M_weight : Room := { frames := 1, cells := 0, slots := 0, locals := 22 }
theorem hd_M_weight : yX10_weight.cls = RX10 ∧ yX10_weight.cls ≠ "java/lang/invoke/MethodHandle" ∧ yX10_weight.cls ≠ "java/lang/invoke/VarHandle" ∧ (parseMethodDescriptor yX10_weight.desc).map (fun d => d.parameters.length) = some 2 := by decide +kernel
noncomputable def p_M_weight (a1 : Int32) (a2 : Int32) (g : sG) (f : sF) : Option (Int32 × sG × sF) := Option.bind (p_M_within a1 (0 : Int32) (3 : Int32) g f) (fun u1 => (if u1 = 0 then some ((-2 : Int32), g, f) else Option.bind (p_M_within a2 (0 : Int32) (20 : Int32) g f) (fun u2 => (if u2 = 0 then some ((-2 : Int32), g, f) else (if a1 < 0 ∨ 4 ≤ a1.toNatClampNeg then none else lt_ (f 1 a1.toNatClampNeg) (fun v4 => (if a1 < 0 ∨ 4 ≤ a1.toNatClampNeg then none else lt_ (up2 f 1 a1.toNatClampNeg a2) (fun f6 => lt_ (upd g 4 (0 : Int32)) (fun g7 => some (v4, g7, f6))))))))))
set_option maxRecDepth 100000 in
set_option maxHeartbeats 4000000 in
theorem k_M_weight {l : Launch} {D : va_G} {ad : Nat → Nat} {cy : Nat → ClassId} {a1 : Int32} {a2 : Int32} {u : Int32 × sG × sF} {g : sG} {f : sF} (hf : p_M_weight a1 a2 g f = some u) : mMi l yX10_weight (Cond.code yX10_weight cX10_weight 4 (some .int) :: wU) rm_M_weight D (mT cy) (mW ad cy) [.ref (ad 0), .int a1, .int a2] g f u := by
  refine mk_i (by decide) rfl (Nat.le_of_ble_eq_true rfl) ?_
  intro p e s m below meth c Q A H0 Fx hret ls H locs hl hC
  replace hl : lv_has ls 4 [(0, .ref (ad 0)), (1, .int a1), (2, .int a2)] := hl
  unfold p_M_weight at hf
  refine lv_iload_n Fx.1 Fx.2.1 dX10_weight_0 rfl (lv_at hl 1 rfl) ?_
  refine lv_iconst (v := (0 : Int32)) Fx.1 Fx.2.1 dX10_weight_1 (by decide) ?_
  refine lv_iconst (v := (3 : Int32)) Fx.1 Fx.2.1 dX10_weight_2 (by decide) ?_
  obtain ⟨u1, hu1, hf⟩ := bd_e hf
  refine ca_s (As := [.int a1, .int (0 : Int32), .int (3 : Int32)]) (rest := []) Fx hC (k_M_within hu1) (cSU 3 Fx.2.2.2.2 wd_661 wd_662 wd_10 wd_663 rfl rfl hd_M_within ⟨Nat.le_of_ble_eq_true rfl, Nat.le_of_ble_eq_true rfl⟩) rfl hl.1 rfl (Nat.le_of_ble_eq_true rfl) dX10_weight_3 (fun H locs hC => ?_)
  refine lv_if_eq (tgt := 19) Fx.1 Fx.2.1 dX10_weight_6 (by decide) (fun hc => ?_) (fun hc => ?_)
  · replace hf := ift hc hf
    refine lv_bipush (v := (-2 : Int32)) Fx.1 Fx.2.1 dX10_weight_19 (by decide) ?_
    obtain rfl := Option.some.inj hf
    exact hret _ _ _ _ dX10_weight_21 hC
  · replace hf := iff_ hc hf
    refine lv_iload_n Fx.1 Fx.2.1 dX10_weight_9 rfl (lv_at hl 2 rfl) ?_
    refine lv_iconst (v := (0 : Int32)) Fx.1 Fx.2.1 dX10_weight_10 (by decide) ?_
    refine lv_bipush (v := (20 : Int32)) Fx.1 Fx.2.1 dX10_weight_11 (by decide) ?_
    obtain ⟨u2, hu2, hf⟩ := bd_e hf
    refine ca_s (As := [.int a2, .int (0 : Int32), .int (20 : Int32)]) (rest := []) Fx hC (k_M_within hu2) (cSU 3 Fx.2.2.2.2 wd_661 wd_662 wd_10 wd_663 rfl rfl hd_M_within ⟨Nat.le_of_ble_eq_true rfl, Nat.le_of_ble_eq_true rfl⟩) rfl hl.1 rfl (Nat.le_of_ble_eq_true rfl) dX10_weight_13 (fun H locs hC => ?_)
    refine lv_if_ne (tgt := 22) Fx.1 Fx.2.1 dX10_weight_16 (by decide) (fun hc => ?_) (fun hc => ?_)
    · replace hf := iff_ hc hf
      refine lv_aload_n Fx.1 Fx.2.1 dX10_weight_22 rfl (lv_at hl 0 rfl) ?_
      refine gg_M_weights Fx hC wd_594 dX10_weight_23 ?_
      refine lv_iload_n Fx.1 Fx.2.1 dX10_weight_26 rfl (lv_at hl 1 rfl) ?_
      obtain ⟨hi3, hf⟩ := gd_e hf
      refine ld_M_weights Fx hC hi3 dX10_weight_27 ?_
      obtain ⟨v4, ev4, hf⟩ := lt_e hf
      refine tpi ev4 ?_
      refine lv_istore_n (lv' := [(3, .int v4), (0, .ref (ad 0)), (1, .int a1), (2, .int a2)]) Fx.1 Fx.2.1 dX10_weight_28 rfl hl (by decide) rfl (fun ls hl => ?_)
      refine lv_aload_n Fx.1 Fx.2.1 dX10_weight_29 rfl (lv_at hl 1 rfl) ?_
      refine gg_M_weights Fx hC wd_594 dX10_weight_30 ?_
      refine lv_iload_n Fx.1 Fx.2.1 dX10_weight_33 rfl (lv_at hl 2 rfl) ?_
      refine lv_iload_n Fx.1 Fx.2.1 dX10_weight_34 rfl (lv_at hl 3 rfl) ?_
      obtain ⟨hi5, hf⟩ := gd_e hf
      obtain ⟨f6, ef6, hf⟩ := lt_e hf
      refine st_M_weights Fx hC hi5 ef6 dX10_weight_35 (fun H locs hC => ?_)
      refine lv_aload_n Fx.1 Fx.2.1 dX10_weight_36 rfl (lv_at hl 1 rfl) ?_
      refine lv_iconst (v := (0 : Int32)) Fx.1 Fx.2.1 dX10_weight_37 (by decide) ?_
      obtain ⟨g7, eg7, hf⟩ := lt_e hf
      refine gp_M_isFound Fx hC wd_599 z01_0 eg7 dX10_weight_38 (fun H locs hC => ?_)
      refine lv_iload_n Fx.1 Fx.2.1 dX10_weight_41 rfl (lv_at hl 0 rfl) ?_
      obtain rfl := Option.some.inj hf
      exact hret _ _ _ _ dX10_weight_42 hC
    · replace hf := ift hc hf
      refine lv_bipush (v := (-2 : Int32)) Fx.1 Fx.2.1 dX10_weight_19 (by decide) ?_
      obtain rfl := Option.some.inj hf
      exact hret _ _ _ _ dX10_weight_21 hC
/-! FretHandsModel.event(I)I -/
abbrev rm_M_event : Room := { frames := 1, cells := 0, slots := 0, locals := 22 }
theorem hd_M_event : yX10_event.cls = RX10 ∧ yX10_event.cls ≠ "java/lang/invoke/MethodHandle" ∧ yX10_event.cls ≠ "java/lang/invoke/VarHandle" ∧ (parseMethodDescriptor yX10_event.desc).map (fun d => d.parameters.length) = some 1 := by decide +kernel
noncomputable def p_M_event (a1 : Int32) (g : sG) (f : sF) : Option (Int32 × sG × sF) := Option.bind (p_M_within a1 (0 : Int32) (123 : Int32) g f) (fun u1 => (if u1 = 0 then some ((-2 : Int32), g, f) else (if (g 3) = (40 : Int32) then some ((-5 : Int32), g, f) else (if (g 3) < 0 ∨ 40 ≤ (g 3).toNatClampNeg then none else lt_ (up2 f 2 (g 3).toNatClampNeg (1 : Int32)) (fun f3 => (if ((4 : Int32) * (g 3)) < 0 ∨ 160 ≤ ((4 : Int32) * (g 3)).toNatClampNeg then none else lt_ (up2 f3 3 ((4 : Int32) * (g 3)).toNatClampNeg a1) (fun f5 => (if ((4 : Int32) * (g 3)) < 0 ∨ 160 ≤ ((4 : Int32) * (g 3)).toNatClampNeg then none else lt_ (up2 f5 4 ((4 : Int32) * (g 3)).toNatClampNeg (-1 : Int32)) (fun f7 => lt_ (upd g 3 ((g 3) + (1 : Int32))) (fun g8 => lt_ (upd g8 4 (0 : Int32)) (fun g9 => some ((g9 3) - (1 : Int32), g9, f7))))))))))))
set_option maxRecDepth 100000 in
set_option maxHeartbeats 4000000 in
theorem k_M_event {l : Launch} {D : va_G} {ad : Nat → Nat} {cy : Nat → ClassId} {a1 : Int32} {u : Int32 × sG × sF} {g : sG} {f : sF} (hf : p_M_event a1 g f = some u) : mMi l yX10_event (Cond.code yX10_event cX10_event 2 (some .int) :: wU) rm_M_event D (mT cy) (mW ad cy) [.ref (ad 0), .int a1] g f u := by
  refine mk_i (by decide) rfl (Nat.le_of_ble_eq_true rfl) ?_
  intro p e s m below meth c Q A H0 Fx hret ls H locs hl hC
  replace hl : lv_has ls 2 [(0, .ref (ad 0)), (1, .int a1)] := hl
  unfold p_M_event at hf
  refine lv_iload_n Fx.1 Fx.2.1 dX10_event_0 rfl (lv_at hl 1 rfl) ?_
  refine lv_iconst (v := (0 : Int32)) Fx.1 Fx.2.1 dX10_event_1 (by decide) ?_
  refine lv_bipush (v := (123 : Int32)) Fx.1 Fx.2.1 dX10_event_2 (by decide) ?_
  obtain ⟨u1, hu1, hf⟩ := bd_e hf
  refine ca_s (As := [.int a1, .int (0 : Int32), .int (123 : Int32)]) (rest := []) Fx hC (k_M_within hu1) (cSU 3 Fx.2.2.2.2 wd_661 wd_662 wd_10 wd_663 rfl rfl hd_M_within ⟨Nat.le_of_ble_eq_true rfl, Nat.le_of_ble_eq_true rfl⟩) rfl hl.1 rfl (Nat.le_of_ble_eq_true rfl) dX10_event_4 (fun H locs hC => ?_)
  refine lv_if_ne (tgt := 13) Fx.1 Fx.2.1 dX10_event_7 (by decide) (fun hc => ?_) (fun hc => ?_)
  · replace hf := iff_ hc hf
    refine lv_aload_n Fx.1 Fx.2.1 dX10_event_13 rfl (lv_at hl 0 rfl) ?_
    refine gg_M_events Fx hC wd_595 dX10_event_14 ?_
    refine lv_bipush (v := (40 : Int32)) Fx.1 Fx.2.1 dX10_event_17 (by decide) ?_
    refine lv_icmp_ne (tgt := 25) Fx.1 Fx.2.1 dX10_event_19 (by decide) (fun hc => ?_) (fun hc => ?_)
    · replace hf := iff_ hc hf
      refine lv_aload_n Fx.1 Fx.2.1 dX10_event_25 rfl (lv_at hl 0 rfl) ?_
      refine gg_M_pitchMany Fx hC wd_596 dX10_event_26 ?_
      refine lv_aload_n Fx.1 Fx.2.1 dX10_event_29 rfl (lv_at hl 0 rfl) ?_
      refine gg_M_events Fx hC wd_595 dX10_event_30 ?_
      refine lv_iconst (v := (1 : Int32)) Fx.1 Fx.2.1 dX10_event_33 (by decide) ?_
      obtain ⟨hi2, hf⟩ := gd_e hf
      obtain ⟨f3, ef3, hf⟩ := lt_e hf
      refine st_M_pitchMany Fx hC hi2 ef3 dX10_event_34 (fun H locs hC => ?_)
      refine lv_aload_n Fx.1 Fx.2.1 dX10_event_35 rfl (lv_at hl 0 rfl) ?_
      refine gg_M_pitches Fx hC wd_597 dX10_event_36 ?_
      refine lv_iconst (v := (4 : Int32)) Fx.1 Fx.2.1 dX10_event_39 (by decide) ?_
      refine lv_aload_n Fx.1 Fx.2.1 dX10_event_40 rfl (lv_at hl 0 rfl) ?_
      refine gg_M_events Fx hC wd_595 dX10_event_41 ?_
      refine lv_imul Fx.1 Fx.2.1 dX10_event_44 ?_
      refine lv_iload_n Fx.1 Fx.2.1 dX10_event_45 rfl (lv_at hl 1 rfl) ?_
      obtain ⟨hi4, hf⟩ := gd_e hf
      obtain ⟨f5, ef5, hf⟩ := lt_e hf
      refine st_M_pitches Fx hC hi4 ef5 dX10_event_46 (fun H locs hC => ?_)
      refine lv_aload_n Fx.1 Fx.2.1 dX10_event_47 rfl (lv_at hl 0 rfl) ?_
      refine gg_M_bounds Fx hC wd_598 dX10_event_48 ?_
      refine lv_iconst (v := (4 : Int32)) Fx.1 Fx.2.1 dX10_event_51 (by decide) ?_
      refine lv_aload_n Fx.1 Fx.2.1 dX10_event_52 rfl (lv_at hl 0 rfl) ?_
      refine gg_M_events Fx hC wd_595 dX10_event_53 ?_
      refine lv_imul Fx.1 Fx.2.1 dX10_event_56 ?_
      refine lv_iconst (v := (-1 : Int32)) Fx.1 Fx.2.1 dX10_event_57 (by decide) ?_
      obtain ⟨hi6, hf⟩ := gd_e hf
      obtain ⟨f7, ef7, hf⟩ := lt_e hf
      refine st_M_bounds Fx hC hi6 ef7 dX10_event_58 (fun H locs hC => ?_)
      refine lv_aload_n Fx.1 Fx.2.1 dX10_event_59 rfl (lv_at hl 0 rfl) ?_
      refine lv_dup Fx.1 Fx.2.1 dX10_event_60 rfl ?_
      refine gg_M_events Fx hC wd_595 dX10_event_61 ?_
      refine lv_iconst (v := (1 : Int32)) Fx.1 Fx.2.1 dX10_event_64 (by decide) ?_
      refine lv_iadd Fx.1 Fx.2.1 dX10_event_65 ?_
      obtain ⟨g8, eg8, hf⟩ := lt_e hf
      refine gp_M_events Fx hC wd_595 eg8 dX10_event_66 (fun H locs hC => ?_)
      refine lv_aload_n Fx.1 Fx.2.1 dX10_event_69 rfl (lv_at hl 0 rfl) ?_
      refine lv_iconst (v := (0 : Int32)) Fx.1 Fx.2.1 dX10_event_70 (by decide) ?_
      obtain ⟨g9, eg9, hf⟩ := lt_e hf
      refine gp_M_isFound Fx hC wd_599 z01_0 eg9 dX10_event_71 (fun H locs hC => ?_)
      refine lv_aload_n Fx.1 Fx.2.1 dX10_event_74 rfl (lv_at hl 0 rfl) ?_
      refine gg_M_events Fx hC wd_595 dX10_event_75 ?_
      refine lv_iconst (v := (1 : Int32)) Fx.1 Fx.2.1 dX10_event_78 (by decide) ?_
      refine lv_isub Fx.1 Fx.2.1 dX10_event_79 ?_
      obtain rfl := Option.some.inj hf
      exact hret _ _ _ _ dX10_event_80 hC
    · replace hf := ift hc hf
      refine lv_bipush (v := (-5 : Int32)) Fx.1 Fx.2.1 dX10_event_22 (by decide) ?_
      obtain rfl := Option.some.inj hf
      exact hret _ _ _ _ dX10_event_24 hC
  · replace hf := ift hc hf
    refine lv_bipush (v := (-2 : Int32)) Fx.1 Fx.2.1 dX10_event_10 (by decide) ?_
    obtain rfl := Option.some.inj hf
    exact hret _ _ _ _ dX10_event_12 hC
/-! FretHandsModel.hasPitch(II)Z -/
abbrev rm_M_hasPitch : Room := { frames := 0, cells := 0, slots := 0, locals := 0 }
theorem hd_M_hasPitch : yX10_hasPitch.cls = RX10 ∧ yX10_hasPitch.cls ≠ "java/lang/invoke/MethodHandle" ∧ yX10_hasPitch.cls ≠ "java/lang/invoke/VarHandle" ∧ (parseMethodDescriptor yX10_hasPitch.desc).map (fun d => d.parameters.length) = some 2 := by decide +kernel
noncomputable def p_M_hasPitch_L5 (K5 : (Int32 × Int32 × Int32 × Int32) → Option (Int32)) (x1 : Int32) (x2 : Int32) (x3 : Int32) (x4 : Int32) (g : sG) (f : sF) : Option (Int32) := (if x1 < 0 ∨ 40 ≤ x1.toNatClampNeg then none else (if (f 2 x1.toNatClampNeg) ≤ x4 then (if ¬ x3 = 0 ∧ ¬ x3 = 1 then none else some x3) else (if x3 = 0 then (if (((4 : Int32) * x1) + x4) < 0 ∨ 160 ≤ (((4 : Int32) * x1) + x4).toNatClampNeg then none else (if (f 3 (((4 : Int32) * x1) + x4).toNatClampNeg) = x2 then lt_ (x4 + (1 : Int32)) (fun v5 => K5 (x1, x2, (1 : Int32), v5)) else lt_ (x4 + (1 : Int32)) (fun v4 => K5 (x1, x2, (0 : Int32), v4)))) else lt_ (x4 + (1 : Int32)) (fun v2 => K5 (x1, x2, (1 : Int32), v2)))))
set_option maxRecDepth 100000 in
set_option maxHeartbeats 4000000 in
theorem s_M_hasPitch_L5 {K5 : (Int32 × Int32 × Int32 × Int32) → Option (Int32)} {p : Program} {l : Launch} {e : Env} {s : State} {m : MethodId} {args : Array Value} {below : List Frame} {meth : Method} {c : Code} {Q : State → Prop} {D : va_G} {ad : Nat → Nat} {cy : Nat → ClassId} {A : Nat → Prop} {H0 : Heap} {r : Int32} {g : sG} {f : sF} (Fx : CallFix p m c cX10_hasPitch 5 s args (Cond.code yX10_hasPitch cX10_hasPitch 5 (some .boolean) :: wU) RX10) (hret : mRz p l e rm_M_hasPitch s m args below meth c Q D (mT cy) (mW ad cy) A H0 cX10_hasPitch (r, g, f)) (hK5 : ∀ (z : Int32 × Int32 × Int32 × Int32), K5 z = some r → ∀ (ls : Array Slot) (H : Heap) (locs : List Loc), lv_has ls 5 [(0, .ref (ad 0)), (1, .int z.1), (2, .int z.2.1), (3, .int z.2.2.1), (4, .int z.2.2.2)] → wH D (mT cy) (mW ad cy) A H0 s g f H locs → W p l e rm_M_hasPitch s m args below meth c H locs 0 0 Q (F0 m 5 ls [])) (x1 : Int32) (x2 : Int32) (x3 : Int32) (x4 : Int32) (hf : p_M_hasPitch_L5 K5 x1 x2 x3 x4 g f = some r) : ∀ (ls : Array Slot) (H : Heap) (locs : List Loc), lv_has ls 5 [(0, .ref (ad 0)), (1, .int x1), (2, .int x2), (3, .int x3), (4, .int x4)] → wH D (mT cy) (mW ad cy) A H0 s g f H locs → W p l e rm_M_hasPitch s m args below meth c H locs 0 0 Q (F0 m 5 ls []) := by
  intro ls H locs hl hC
  unfold p_M_hasPitch_L5 at hf
  refine lv_iload Fx.1 Fx.2.1 dX10_hasPitch_5 (lv_at hl 4 rfl) ?_
  refine lv_aload_n Fx.1 Fx.2.1 dX10_hasPitch_7 rfl (lv_at hl 0 rfl) ?_
  refine gg_M_pitchMany Fx hC wd_596 dX10_hasPitch_8 ?_
  refine lv_iload_n Fx.1 Fx.2.1 dX10_hasPitch_11 rfl (lv_at hl 1 rfl) ?_
  obtain ⟨hi1, hf⟩ := gd_e hf
  refine ld_M_pitchMany Fx hC hi1 dX10_hasPitch_12 ?_
  refine lv_icmp_ge (tgt := 47) Fx.1 Fx.2.1 dX10_hasPitch_13 (by decide) (fun hc => ?_) (fun hc => ?_)
  · replace hf := ift hc hf
    refine lv_iload_n Fx.1 Fx.2.1 dX10_hasPitch_47 rfl (lv_at hl 3 rfl) ?_
    obtain ⟨hz, hf⟩ := gd_e hf
    obtain rfl := Option.some.inj hf
    exact hret _ _ _ _ dX10_hasPitch_48 hz hC
  · replace hf := iff_ hc hf
    refine lv_iload_n Fx.1 Fx.2.1 dX10_hasPitch_16 rfl (lv_at hl 3 rfl) ?_
    refine lv_if_ne (tgt := 35) Fx.1 Fx.2.1 dX10_hasPitch_17 (by decide) (fun hc => ?_) (fun hc => ?_)
    · replace hf := iff_ hc hf
      refine lv_iconst (v := (1 : Int32)) Fx.1 Fx.2.1 dX10_hasPitch_35 (by decide) ?_
      refine lv_goto (tgt := 40) Fx.1 Fx.2.1 dX10_hasPitch_36 (by decide) ?_
      refine lv_istore_n (lv' := [(3, .int (1 : Int32)), (0, .ref (ad 0)), (1, .int x1), (2, .int x2), (4, .int x4)]) Fx.1 Fx.2.1 dX10_hasPitch_40 rfl hl (by decide) rfl (fun ls hl => ?_)
      obtain ⟨v2, ev2, hf⟩ := lt_e hf
      refine lv_iinc (v := v2) (lv' := [(4, .int v2), (3, .int (1 : Int32)), (0, .ref (ad 0)), (1, .int x1), (2, .int x2)]) Fx.1 Fx.2.1 dX10_hasPitch_41 hl (k := 4) rfl ev2.symm (by decide) rfl (fun ls hl => ?_)
      refine lv_goto (tgt := 5) Fx.1 Fx.2.1 dX10_hasPitch_44 (by decide) ?_
      exact hK5 _ hf _ _ _ (lv_sub hl [2, 3, 4, 1, 0] rfl) hC
    · replace hf := ift hc hf
      refine lv_aload_n Fx.1 Fx.2.1 dX10_hasPitch_20 rfl (lv_at hl 0 rfl) ?_
      refine gg_M_pitches Fx hC wd_597 dX10_hasPitch_21 ?_
      refine lv_iconst (v := (4 : Int32)) Fx.1 Fx.2.1 dX10_hasPitch_24 (by decide) ?_
      refine lv_iload_n Fx.1 Fx.2.1 dX10_hasPitch_25 rfl (lv_at hl 1 rfl) ?_
      refine lv_imul Fx.1 Fx.2.1 dX10_hasPitch_26 ?_
      refine lv_iload Fx.1 Fx.2.1 dX10_hasPitch_27 (lv_at hl 4 rfl) ?_
      refine lv_iadd Fx.1 Fx.2.1 dX10_hasPitch_29 ?_
      obtain ⟨hi3, hf⟩ := gd_e hf
      refine ld_M_pitches Fx hC hi3 dX10_hasPitch_30 ?_
      refine lv_iload_n Fx.1 Fx.2.1 dX10_hasPitch_31 rfl (lv_at hl 2 rfl) ?_
      refine lv_icmp_ne (tgt := 39) Fx.1 Fx.2.1 dX10_hasPitch_32 (by decide) (fun hc => ?_) (fun hc => ?_)
      · replace hf := iff_ hc hf
        refine lv_iconst (v := (0 : Int32)) Fx.1 Fx.2.1 dX10_hasPitch_39 (by decide) ?_
        refine lv_istore_n (lv' := [(3, .int (0 : Int32)), (0, .ref (ad 0)), (1, .int x1), (2, .int x2), (4, .int x4)]) Fx.1 Fx.2.1 dX10_hasPitch_40 rfl hl (by decide) rfl (fun ls hl => ?_)
        obtain ⟨v4, ev4, hf⟩ := lt_e hf
        refine lv_iinc (v := v4) (lv' := [(4, .int v4), (3, .int (0 : Int32)), (0, .ref (ad 0)), (1, .int x1), (2, .int x2)]) Fx.1 Fx.2.1 dX10_hasPitch_41 hl (k := 4) rfl ev4.symm (by decide) rfl (fun ls hl => ?_)
        refine lv_goto (tgt := 5) Fx.1 Fx.2.1 dX10_hasPitch_44 (by decide) ?_
        exact hK5 _ hf _ _ _ (lv_sub hl [2, 3, 4, 1, 0] rfl) hC
      · replace hf := ift hc hf
        refine lv_iconst (v := (1 : Int32)) Fx.1 Fx.2.1 dX10_hasPitch_35 (by decide) ?_
        refine lv_goto (tgt := 40) Fx.1 Fx.2.1 dX10_hasPitch_36 (by decide) ?_
        refine lv_istore_n (lv' := [(3, .int (1 : Int32)), (0, .ref (ad 0)), (1, .int x1), (2, .int x2), (4, .int x4)]) Fx.1 Fx.2.1 dX10_hasPitch_40 rfl hl (by decide) rfl (fun ls hl => ?_)
        obtain ⟨v5, ev5, hf⟩ := lt_e hf
        refine lv_iinc (v := v5) (lv' := [(4, .int v5), (3, .int (1 : Int32)), (0, .ref (ad 0)), (1, .int x1), (2, .int x2)]) Fx.1 Fx.2.1 dX10_hasPitch_41 hl (k := 4) rfl ev5.symm (by decide) rfl (fun ls hl => ?_)
        refine lv_goto (tgt := 5) Fx.1 Fx.2.1 dX10_hasPitch_44 (by decide) ?_
        exact hK5 _ hf _ _ _ (lv_sub hl [2, 3, 4, 1, 0] rfl) hC
set_option maxRecDepth 100000 in
set_option maxHeartbeats 4000000 in
theorem t_M_hasPitch_L5 {p : Program} {l : Launch} {e : Env} {s : State} {m : MethodId} {args : Array Value} {below : List Frame} {meth : Method} {c : Code} {Q : State → Prop} {D : va_G} {ad : Nat → Nat} {cy : Nat → ClassId} {A : Nat → Prop} {H0 : Heap} {r : Int32} {g : sG} {f : sF} (Fx : CallFix p m c cX10_hasPitch 5 s args (Cond.code yX10_hasPitch cX10_hasPitch 5 (some .boolean) :: wU) RX10) (hret : mRz p l e rm_M_hasPitch s m args below meth c Q D (mT cy) (mW ad cy) A H0 cX10_hasPitch (r, g, f))  (n : Nat) (z : Int32 × Int32 × Int32 × Int32) (hz : itr (fun K z => p_M_hasPitch_L5 K z.1 z.2.1 z.2.2.1 z.2.2.2 g f) n z = some r) : ∀ (ls : Array Slot) (H : Heap) (locs : List Loc), lv_has ls 5 [(0, .ref (ad 0)), (1, .int z.1), (2, .int z.2.1), (3, .int z.2.2.1), (4, .int z.2.2.2)] → wH D (mT cy) (mW ad cy) A H0 s g f H locs → W p l e rm_M_hasPitch s m args below meth c H locs 0 0 Q (F0 m 5 ls []) :=
  itr_all (B := fun K z => p_M_hasPitch_L5 K z.1 z.2.1 z.2.2.1 z.2.2.2 g f) (r := r) (fun z => ∀ (ls : Array Slot) (H : Heap) (locs : List Loc), lv_has ls 5 [(0, .ref (ad 0)), (1, .int z.1), (2, .int z.2.1), (3, .int z.2.2.1), (4, .int z.2.2.2)] → wH D (mT cy) (mW ad cy) A H0 s g f H locs → W p l e rm_M_hasPitch s m args below meth c H locs 0 0 Q (F0 m 5 ls [])) (fun K hK z h => s_M_hasPitch_L5 (K5 := K) Fx hret hK z.1 z.2.1 z.2.2.1 z.2.2.2 h) n z hz
noncomputable def p_M_hasPitch (a1 : Int32) (a2 : Int32) (g : sG) (f : sF) : Option (Int32) := itr (fun K z => p_M_hasPitch_L5 K z.1 z.2.1 z.2.2.1 z.2.2.2 g f) FUEL (a1, a2, (0 : Int32), (0 : Int32))
set_option maxRecDepth 100000 in
set_option maxHeartbeats 4000000 in
theorem k_M_hasPitch {l : Launch} {D : va_G} {ad : Nat → Nat} {cy : Nat → ClassId} {a1 : Int32} {a2 : Int32} {r : Int32} {g : sG} {f : sF} (hf : p_M_hasPitch a1 a2 g f = some r) : mMi l yX10_hasPitch (Cond.code yX10_hasPitch cX10_hasPitch 5 (some .boolean) :: wU) rm_M_hasPitch D (mT cy) (mW ad cy) [.ref (ad 0), .int a1, .int a2] g f (r, g, f) := by
  refine mk_z (by decide) rfl (Nat.le_of_ble_eq_true rfl) ?_
  intro p e s m below meth c Q A H0 Fx hret ls H locs hl hC
  replace hl : lv_has ls 5 [(0, .ref (ad 0)), (1, .int a1), (2, .int a2)] := hl
  unfold p_M_hasPitch at hf
  refine lv_iconst (v := (0 : Int32)) Fx.1 Fx.2.1 dX10_hasPitch_0 (by decide) ?_
  refine lv_istore_n (lv' := [(3, .int (0 : Int32)), (0, .ref (ad 0)), (1, .int a1), (2, .int a2)]) Fx.1 Fx.2.1 dX10_hasPitch_1 rfl hl (by decide) rfl (fun ls hl => ?_)
  refine lv_iconst (v := (0 : Int32)) Fx.1 Fx.2.1 dX10_hasPitch_2 (by decide) ?_
  refine lv_istore (lv' := [(4, .int (0 : Int32)), (3, .int (0 : Int32)), (0, .ref (ad 0)), (1, .int a1), (2, .int a2)]) Fx.1 Fx.2.1 dX10_hasPitch_3 hl (by decide) rfl (fun ls hl => ?_)
  exact t_M_hasPitch_L5 Fx hret _ _ hf _ _ _ (lv_sub hl [2, 3, 4, 1, 0] rfl) hC
/-! FretHandsModel.pitch(I)I -/
abbrev rm_M_pitch : Room := { frames := 1, cells := 0, slots := 0, locals := 24 }
theorem hd_M_pitch : yX10_pitch.cls = RX10 ∧ yX10_pitch.cls ≠ "java/lang/invoke/MethodHandle" ∧ yX10_pitch.cls ≠ "java/lang/invoke/VarHandle" ∧ (parseMethodDescriptor yX10_pitch.desc).map (fun d => d.parameters.length) = some 1 := by decide +kernel
noncomputable def p_M_pitch_J33 (x1 : Int32) (x2 : Int32) (g : sG) (f : sF) : Option (Int32 × sG × sF) := (if 0 ≤ x2 then (if x2 < 0 ∨ 40 ≤ x2.toNatClampNeg then none else (if (f 2 x2.toNatClampNeg) = (4 : Int32) then some ((-5 : Int32), g, f) else (if x2 < 0 ∨ 40 ≤ x2.toNatClampNeg then none else (if (((4 : Int32) * x2) + (f 2 x2.toNatClampNeg)) < 0 ∨ 160 ≤ (((4 : Int32) * x2) + (f 2 x2.toNatClampNeg)).toNatClampNeg then none else lt_ (up2 f 3 (((4 : Int32) * x2) + (f 2 x2.toNatClampNeg)).toNatClampNeg x1) (fun f4 => (if x2 < 0 ∨ 40 ≤ x2.toNatClampNeg then none else (if (((4 : Int32) * x2) + (f4 2 x2.toNatClampNeg)) < 0 ∨ 160 ≤ (((4 : Int32) * x2) + (f4 2 x2.toNatClampNeg)).toNatClampNeg then none else lt_ (up2 f4 4 (((4 : Int32) * x2) + (f4 2 x2.toNatClampNeg)).toNatClampNeg (-1 : Int32)) (fun f7 => (if x2 < 0 ∨ 40 ≤ x2.toNatClampNeg then none else (if x2 < 0 ∨ 40 ≤ x2.toNatClampNeg then none else lt_ (up2 f7 2 x2.toNatClampNeg ((f7 2 x2.toNatClampNeg) + (1 : Int32))) (fun f10 => lt_ (upd g 4 (0 : Int32)) (fun g11 => (if x2 < 0 ∨ 40 ≤ x2.toNatClampNeg then none else some (f10 2 x2.toNatClampNeg, g11, f10)))))))))))))) else some ((-4 : Int32), g, f))
set_option maxRecDepth 100000 in
set_option maxHeartbeats 4000000 in
theorem s_M_pitch_J33 {p : Program} {l : Launch} {e : Env} {s : State} {m : MethodId} {args : Array Value} {below : List Frame} {meth : Method} {c : Code} {Q : State → Prop} {D : va_G} {ad : Nat → Nat} {cy : Nat → ClassId} {A : Nat → Prop} {H0 : Heap} {u : Int32 × sG × sF} (Fx : CallFix p m c cX10_pitch 3 s args (Cond.code yX10_pitch cX10_pitch 3 (some .int) :: wU) RX10) (hret : mRi p l e rm_M_pitch s m args below meth c Q D (mT cy) (mW ad cy) A H0 cX10_pitch u)  (x1 : Int32) (x2 : Int32) (g : sG) (f : sF) (hf : p_M_pitch_J33 x1 x2 g f = some u) : ∀ (ls : Array Slot) (H : Heap) (locs : List Loc), lv_has ls 3 [(0, .ref (ad 0)), (1, .int x1), (2, .int x2)] → wH D (mT cy) (mW ad cy) A H0 s g f H locs → W p l e rm_M_pitch s m args below meth c H locs 0 0 Q (F0 m 33 ls []) := by
  intro ls H locs hl hC
  unfold p_M_pitch_J33 at hf
  refine lv_iload_n Fx.1 Fx.2.1 dX10_pitch_33 rfl (lv_at hl 2 rfl) ?_
  refine lv_if_ge (tgt := 40) Fx.1 Fx.2.1 dX10_pitch_34 (by decide) (fun hc => ?_) (fun hc => ?_)
  · replace hf := ift hc hf
    refine lv_aload_n Fx.1 Fx.2.1 dX10_pitch_40 rfl (lv_at hl 0 rfl) ?_
    refine gg_M_pitchMany Fx hC wd_596 dX10_pitch_41 ?_
    refine lv_iload_n Fx.1 Fx.2.1 dX10_pitch_44 rfl (lv_at hl 2 rfl) ?_
    obtain ⟨hi1, hf⟩ := gd_e hf
    refine ld_M_pitchMany Fx hC hi1 dX10_pitch_45 ?_
    refine lv_iconst (v := (4 : Int32)) Fx.1 Fx.2.1 dX10_pitch_46 (by decide) ?_
    refine lv_icmp_ne (tgt := 53) Fx.1 Fx.2.1 dX10_pitch_47 (by decide) (fun hc => ?_) (fun hc => ?_)
    · replace hf := iff_ hc hf
      refine lv_aload_n Fx.1 Fx.2.1 dX10_pitch_53 rfl (lv_at hl 0 rfl) ?_
      refine gg_M_pitches Fx hC wd_597 dX10_pitch_54 ?_
      refine lv_iconst (v := (4 : Int32)) Fx.1 Fx.2.1 dX10_pitch_57 (by decide) ?_
      refine lv_iload_n Fx.1 Fx.2.1 dX10_pitch_58 rfl (lv_at hl 2 rfl) ?_
      refine lv_imul Fx.1 Fx.2.1 dX10_pitch_59 ?_
      refine lv_aload_n Fx.1 Fx.2.1 dX10_pitch_60 rfl (lv_at hl 0 rfl) ?_
      refine gg_M_pitchMany Fx hC wd_596 dX10_pitch_61 ?_
      refine lv_iload_n Fx.1 Fx.2.1 dX10_pitch_64 rfl (lv_at hl 2 rfl) ?_
      obtain ⟨hi2, hf⟩ := gd_e hf
      refine ld_M_pitchMany Fx hC hi2 dX10_pitch_65 ?_
      refine lv_iadd Fx.1 Fx.2.1 dX10_pitch_66 ?_
      refine lv_iload_n Fx.1 Fx.2.1 dX10_pitch_67 rfl (lv_at hl 1 rfl) ?_
      obtain ⟨hi3, hf⟩ := gd_e hf
      obtain ⟨f4, ef4, hf⟩ := lt_e hf
      refine st_M_pitches Fx hC hi3 ef4 dX10_pitch_68 (fun H locs hC => ?_)
      refine lv_aload_n Fx.1 Fx.2.1 dX10_pitch_69 rfl (lv_at hl 0 rfl) ?_
      refine gg_M_bounds Fx hC wd_598 dX10_pitch_70 ?_
      refine lv_iconst (v := (4 : Int32)) Fx.1 Fx.2.1 dX10_pitch_73 (by decide) ?_
      refine lv_iload_n Fx.1 Fx.2.1 dX10_pitch_74 rfl (lv_at hl 2 rfl) ?_
      refine lv_imul Fx.1 Fx.2.1 dX10_pitch_75 ?_
      refine lv_aload_n Fx.1 Fx.2.1 dX10_pitch_76 rfl (lv_at hl 0 rfl) ?_
      refine gg_M_pitchMany Fx hC wd_596 dX10_pitch_77 ?_
      refine lv_iload_n Fx.1 Fx.2.1 dX10_pitch_80 rfl (lv_at hl 2 rfl) ?_
      obtain ⟨hi5, hf⟩ := gd_e hf
      refine ld_M_pitchMany Fx hC hi5 dX10_pitch_81 ?_
      refine lv_iadd Fx.1 Fx.2.1 dX10_pitch_82 ?_
      refine lv_iconst (v := (-1 : Int32)) Fx.1 Fx.2.1 dX10_pitch_83 (by decide) ?_
      obtain ⟨hi6, hf⟩ := gd_e hf
      obtain ⟨f7, ef7, hf⟩ := lt_e hf
      refine st_M_bounds Fx hC hi6 ef7 dX10_pitch_84 (fun H locs hC => ?_)
      refine lv_aload_n Fx.1 Fx.2.1 dX10_pitch_85 rfl (lv_at hl 0 rfl) ?_
      refine gg_M_pitchMany Fx hC wd_596 dX10_pitch_86 ?_
      refine lv_iload_n Fx.1 Fx.2.1 dX10_pitch_89 rfl (lv_at hl 2 rfl) ?_
      refine lv_dup2_11 Fx.1 Fx.2.1 dX10_pitch_90 rfl rfl ?_
      obtain ⟨hi8, hf⟩ := gd_e hf
      refine ld_M_pitchMany Fx hC hi8 dX10_pitch_91 ?_
      refine lv_iconst (v := (1 : Int32)) Fx.1 Fx.2.1 dX10_pitch_92 (by decide) ?_
      refine lv_iadd Fx.1 Fx.2.1 dX10_pitch_93 ?_
      obtain ⟨hi9, hf⟩ := gd_e hf
      obtain ⟨f10, ef10, hf⟩ := lt_e hf
      refine st_M_pitchMany Fx hC hi9 ef10 dX10_pitch_94 (fun H locs hC => ?_)
      refine lv_aload_n Fx.1 Fx.2.1 dX10_pitch_95 rfl (lv_at hl 0 rfl) ?_
      refine lv_iconst (v := (0 : Int32)) Fx.1 Fx.2.1 dX10_pitch_96 (by decide) ?_
      obtain ⟨g11, eg11, hf⟩ := lt_e hf
      refine gp_M_isFound Fx hC wd_599 z01_0 eg11 dX10_pitch_97 (fun H locs hC => ?_)
      refine lv_aload_n Fx.1 Fx.2.1 dX10_pitch_100 rfl (lv_at hl 0 rfl) ?_
      refine gg_M_pitchMany Fx hC wd_596 dX10_pitch_101 ?_
      refine lv_iload_n Fx.1 Fx.2.1 dX10_pitch_104 rfl (lv_at hl 2 rfl) ?_
      obtain ⟨hi12, hf⟩ := gd_e hf
      refine ld_M_pitchMany Fx hC hi12 dX10_pitch_105 ?_
      obtain rfl := Option.some.inj hf
      exact hret _ _ _ _ dX10_pitch_106 hC
    · replace hf := ift hc hf
      refine lv_bipush (v := (-5 : Int32)) Fx.1 Fx.2.1 dX10_pitch_50 (by decide) ?_
      obtain rfl := Option.some.inj hf
      exact hret _ _ _ _ dX10_pitch_52 hC
  · replace hf := iff_ hc hf
    refine lv_bipush (v := (-4 : Int32)) Fx.1 Fx.2.1 dX10_pitch_37 (by decide) ?_
    obtain rfl := Option.some.inj hf
    exact hret _ _ _ _ dX10_pitch_39 hC
noncomputable def p_M_pitch (a1 : Int32) (g : sG) (f : sF) : Option (Int32 × sG × sF) := lt_ ((g 3) - (1 : Int32)) (fun v1 => Option.bind (p_M_within a1 (0 : Int32) (123 : Int32) g f) (fun u2 => (if u2 = 0 then some ((-2 : Int32), g, f) else (if v1 < 0 then p_M_pitch_J33 a1 v1 g f else Option.bind (p_M_hasPitch v1 a1 g f) (fun u3 => (if u3 = 0 then p_M_pitch_J33 a1 v1 g f else some ((-2 : Int32), g, f)))))))
set_option maxRecDepth 100000 in
set_option maxHeartbeats 4000000 in
theorem k_M_pitch {l : Launch} {D : va_G} {ad : Nat → Nat} {cy : Nat → ClassId} {a1 : Int32} {u : Int32 × sG × sF} {g : sG} {f : sF} (hf : p_M_pitch a1 g f = some u) : mMi l yX10_pitch (Cond.code yX10_pitch cX10_pitch 3 (some .int) :: wU) rm_M_pitch D (mT cy) (mW ad cy) [.ref (ad 0), .int a1] g f u := by
  refine mk_i (by decide) rfl (Nat.le_of_ble_eq_true rfl) ?_
  intro p e s m below meth c Q A H0 Fx hret ls H locs hl hC
  replace hl : lv_has ls 3 [(0, .ref (ad 0)), (1, .int a1)] := hl
  unfold p_M_pitch at hf
  refine lv_aload_n Fx.1 Fx.2.1 dX10_pitch_0 rfl (lv_at hl 0 rfl) ?_
  refine gg_M_events Fx hC wd_595 dX10_pitch_1 ?_
  refine lv_iconst (v := (1 : Int32)) Fx.1 Fx.2.1 dX10_pitch_4 (by decide) ?_
  refine lv_isub Fx.1 Fx.2.1 dX10_pitch_5 ?_
  obtain ⟨v1, ev1, hf⟩ := lt_e hf
  refine tpi ev1 ?_
  refine lv_istore_n (lv' := [(2, .int v1), (0, .ref (ad 0)), (1, .int a1)]) Fx.1 Fx.2.1 dX10_pitch_6 rfl hl (by decide) rfl (fun ls hl => ?_)
  refine lv_iload_n Fx.1 Fx.2.1 dX10_pitch_7 rfl (lv_at hl 2 rfl) ?_
  refine lv_iconst (v := (0 : Int32)) Fx.1 Fx.2.1 dX10_pitch_8 (by decide) ?_
  refine lv_bipush (v := (123 : Int32)) Fx.1 Fx.2.1 dX10_pitch_9 (by decide) ?_
  obtain ⟨u2, hu2, hf⟩ := bd_e hf
  refine ca_s (As := [.int a1, .int (0 : Int32), .int (123 : Int32)]) (rest := []) Fx hC (k_M_within hu2) (cSU 3 Fx.2.2.2.2 wd_661 wd_662 wd_10 wd_663 rfl rfl hd_M_within ⟨Nat.le_of_ble_eq_true rfl, Nat.le_of_ble_eq_true rfl⟩) rfl hl.1 rfl (Nat.le_of_ble_eq_true rfl) dX10_pitch_11 (fun H locs hC => ?_)
  refine lv_if_eq (tgt := 30) Fx.1 Fx.2.1 dX10_pitch_14 (by decide) (fun hc => ?_) (fun hc => ?_)
  · replace hf := ift hc hf
    refine lv_bipush (v := (-2 : Int32)) Fx.1 Fx.2.1 dX10_pitch_30 (by decide) ?_
    obtain rfl := Option.some.inj hf
    exact hret _ _ _ _ dX10_pitch_32 hC
  · replace hf := iff_ hc hf
    refine lv_iload_n Fx.1 Fx.2.1 dX10_pitch_17 rfl (lv_at hl 0 rfl) ?_
    refine lv_if_lt (tgt := 33) Fx.1 Fx.2.1 dX10_pitch_18 (by decide) (fun hc => ?_) (fun hc => ?_)
    · replace hf := ift hc hf
      exact s_M_pitch_J33 Fx hret _ _ _ _  hf _ _ _ (lv_sub hl [1, 2, 0] rfl) hC
    · replace hf := iff_ hc hf
      refine lv_aload_n Fx.1 Fx.2.1 dX10_pitch_21 rfl (lv_at hl 1 rfl) ?_
      refine lv_iload_n Fx.1 Fx.2.1 dX10_pitch_22 rfl (lv_at hl 0 rfl) ?_
      refine lv_iload_n Fx.1 Fx.2.1 dX10_pitch_23 rfl (lv_at hl 2 rfl) ?_
      obtain ⟨u3, hu3, hf⟩ := bd_e hf
      refine ca_i (As := [.int v1, .int a1]) (rest := []) Fx hC (k_M_hasPitch hu3) (cVU 2 Fx.2.2.2.2 wd_688 wd_689 wd_882 wd_10 wd_690 rfl rfl hd_M_hasPitch ⟨Nat.le_of_ble_eq_true rfl, Nat.le_of_ble_eq_true rfl⟩) 0 rfl rfl rfl hl.1 rfl (Nat.le_of_ble_eq_true rfl) dX10_pitch_24 (fun H locs hC => ?_)
      refine lv_if_eq (tgt := 33) Fx.1 Fx.2.1 dX10_pitch_27 (by decide) (fun hc => ?_) (fun hc => ?_)
      · replace hf := ift hc hf
        exact s_M_pitch_J33 Fx hret _ _ _ _  hf _ _ _ (lv_sub hl [1, 2, 0] rfl) hC
      · replace hf := iff_ hc hf
        refine lv_bipush (v := (-2 : Int32)) Fx.1 Fx.2.1 dX10_pitch_30 (by decide) ?_
        obtain rfl := Option.some.inj hf
        exact hret _ _ _ _ dX10_pitch_32 hC
/-! FretHandsModel.bind(III)I -/
abbrev rm_M_bind : Room := { frames := 2, cells := 0, slots := 0, locals := 43 }
theorem hd_M_bind : yX10_bind.cls = RX10 ∧ yX10_bind.cls ≠ "java/lang/invoke/MethodHandle" ∧ yX10_bind.cls ≠ "java/lang/invoke/VarHandle" ∧ (parseMethodDescriptor yX10_bind.desc).map (fun d => d.parameters.length) = some 3 := by decide +kernel
noncomputable def p_M_bind_J43 (x1 : Int32) (x2 : Int32) (x3 : Int32) (g : sG) (f : sF) : Option (Int32 × sG × sF) := (if (((4 : Int32) * x1) + x2) < 0 ∨ 160 ≤ (((4 : Int32) * x1) + x2).toNatClampNeg then none else lt_ (f 4 (((4 : Int32) * x1) + x2).toNatClampNeg) (fun v2 => (if (((4 : Int32) * x1) + x2) < 0 ∨ 160 ≤ (((4 : Int32) * x1) + x2).toNatClampNeg then none else lt_ (up2 f 4 (((4 : Int32) * x1) + x2).toNatClampNeg x3) (fun f4 => lt_ (upd g 4 (0 : Int32)) (fun g5 => some (v2, g5, f4))))))
set_option maxRecDepth 100000 in
set_option maxHeartbeats 4000000 in
theorem s_M_bind_J43 {p : Program} {l : Launch} {e : Env} {s : State} {m : MethodId} {args : Array Value} {below : List Frame} {meth : Method} {c : Code} {Q : State → Prop} {D : va_G} {ad : Nat → Nat} {cy : Nat → ClassId} {A : Nat → Prop} {H0 : Heap} {u : Int32 × sG × sF} (Fx : CallFix p m c cX10_bind 5 s args (Cond.code yX10_bind cX10_bind 5 (some .int) :: wU) RX10) (hret : mRi p l e rm_M_bind s m args below meth c Q D (mT cy) (mW ad cy) A H0 cX10_bind u)  (x1 : Int32) (x2 : Int32) (x3 : Int32) (g : sG) (f : sF) (hf : p_M_bind_J43 x1 x2 x3 g f = some u) : ∀ (ls : Array Slot) (H : Heap) (locs : List Loc), lv_has ls 5 [(0, .ref (ad 0)), (1, .int x1), (2, .int x2), (3, .int x3)] → wH D (mT cy) (mW ad cy) A H0 s g f H locs → W p l e rm_M_bind s m args below meth c H locs 0 0 Q (F0 m 43 ls []) := by
  intro ls H locs hl hC
  unfold p_M_bind_J43 at hf
  refine lv_aload_n Fx.1 Fx.2.1 dX10_bind_43 rfl (lv_at hl 0 rfl) ?_
  refine gg_M_bounds Fx hC wd_598 dX10_bind_44 ?_
  refine lv_iconst (v := (4 : Int32)) Fx.1 Fx.2.1 dX10_bind_47 (by decide) ?_
  refine lv_iload_n Fx.1 Fx.2.1 dX10_bind_48 rfl (lv_at hl 1 rfl) ?_
  refine lv_imul Fx.1 Fx.2.1 dX10_bind_49 ?_
  refine lv_iload_n Fx.1 Fx.2.1 dX10_bind_50 rfl (lv_at hl 2 rfl) ?_
  refine lv_iadd Fx.1 Fx.2.1 dX10_bind_51 ?_
  obtain ⟨hi1, hf⟩ := gd_e hf
  refine ld_M_bounds Fx hC hi1 dX10_bind_52 ?_
  obtain ⟨v2, ev2, hf⟩ := lt_e hf
  refine tpi ev2 ?_
  refine lv_istore (lv' := [(4, .int v2), (0, .ref (ad 0)), (1, .int x1), (2, .int x2), (3, .int x3)]) Fx.1 Fx.2.1 dX10_bind_53 hl (by decide) rfl (fun ls hl => ?_)
  refine lv_aload_n Fx.1 Fx.2.1 dX10_bind_55 rfl (lv_at hl 1 rfl) ?_
  refine gg_M_bounds Fx hC wd_598 dX10_bind_56 ?_
  refine lv_iconst (v := (4 : Int32)) Fx.1 Fx.2.1 dX10_bind_59 (by decide) ?_
  refine lv_iload_n Fx.1 Fx.2.1 dX10_bind_60 rfl (lv_at hl 2 rfl) ?_
  refine lv_imul Fx.1 Fx.2.1 dX10_bind_61 ?_
  refine lv_iload_n Fx.1 Fx.2.1 dX10_bind_62 rfl (lv_at hl 3 rfl) ?_
  refine lv_iadd Fx.1 Fx.2.1 dX10_bind_63 ?_
  refine lv_iload_n Fx.1 Fx.2.1 dX10_bind_64 rfl (lv_at hl 4 rfl) ?_
  obtain ⟨hi3, hf⟩ := gd_e hf
  obtain ⟨f4, ef4, hf⟩ := lt_e hf
  refine st_M_bounds Fx hC hi3 ef4 dX10_bind_65 (fun H locs hC => ?_)
  refine lv_aload_n Fx.1 Fx.2.1 dX10_bind_66 rfl (lv_at hl 1 rfl) ?_
  refine lv_iconst (v := (0 : Int32)) Fx.1 Fx.2.1 dX10_bind_67 (by decide) ?_
  obtain ⟨g5, eg5, hf⟩ := lt_e hf
  refine gp_M_isFound Fx hC wd_599 z01_0 eg5 dX10_bind_68 (fun H locs hC => ?_)
  refine lv_iload Fx.1 Fx.2.1 dX10_bind_71 (lv_at hl 0 rfl) ?_
  obtain rfl := Option.some.inj hf
  exact hret _ _ _ _ dX10_bind_73 hC
noncomputable def p_M_bind (a1 : Int32) (a2 : Int32) (a3 : Int32) (g : sG) (f : sF) : Option (Int32 × sG × sF) := Option.bind (p_M_isEvent a1 g f) (fun u1 => (if u1 = 0 then some ((-3 : Int32), g, f) else (if a1 < 0 ∨ 40 ≤ a1.toNatClampNeg then none else Option.bind (p_M_within a2 (0 : Int32) ((f 2 a1.toNatClampNeg) - (1 : Int32)) g f) (fun u3 => (if u3 = 0 then some ((-2 : Int32), g, f) else (if a3 = (-1 : Int32) then p_M_bind_J43 a1 a2 a3 g f else Option.bind (p_M_isString a3 g f) (fun u4 => (if u4 = 0 then some ((-2 : Int32), g, f) else p_M_bind_J43 a1 a2 a3 g f))))))))
set_option maxRecDepth 100000 in
set_option maxHeartbeats 4000000 in
theorem k_M_bind {l : Launch} {D : va_G} {ad : Nat → Nat} {cy : Nat → ClassId} {a1 : Int32} {a2 : Int32} {a3 : Int32} {u : Int32 × sG × sF} {g : sG} {f : sF} (hf : p_M_bind a1 a2 a3 g f = some u) : mMi l yX10_bind (Cond.code yX10_bind cX10_bind 5 (some .int) :: wU) rm_M_bind D (mT cy) (mW ad cy) [.ref (ad 0), .int a1, .int a2, .int a3] g f u := by
  refine mk_i (by decide) rfl (Nat.le_of_ble_eq_true rfl) ?_
  intro p e s m below meth c Q A H0 Fx hret ls H locs hl hC
  replace hl : lv_has ls 5 [(0, .ref (ad 0)), (1, .int a1), (2, .int a2), (3, .int a3)] := hl
  unfold p_M_bind at hf
  refine lv_aload_n Fx.1 Fx.2.1 dX10_bind_0 rfl (lv_at hl 0 rfl) ?_
  refine lv_iload_n Fx.1 Fx.2.1 dX10_bind_1 rfl (lv_at hl 1 rfl) ?_
  obtain ⟨u1, hu1, hf⟩ := bd_e hf
  refine ca_i (As := [.int a1]) (rest := []) Fx hC (k_M_isEvent hu1) (cVU 1 Fx.2.2.2.2 wd_695 wd_696 wd_883 wd_10 wd_697 rfl rfl hd_M_isEvent ⟨Nat.le_of_ble_eq_true rfl, Nat.le_of_ble_eq_true rfl⟩) 0 rfl rfl rfl hl.1 rfl (Nat.le_of_ble_eq_true rfl) dX10_bind_2 (fun H locs hC => ?_)
  refine lv_if_ne (tgt := 11) Fx.1 Fx.2.1 dX10_bind_5 (by decide) (fun hc => ?_) (fun hc => ?_)
  · replace hf := iff_ hc hf
    refine lv_iload_n Fx.1 Fx.2.1 dX10_bind_11 rfl (lv_at hl 2 rfl) ?_
    refine lv_iconst (v := (0 : Int32)) Fx.1 Fx.2.1 dX10_bind_12 (by decide) ?_
    refine lv_aload_n Fx.1 Fx.2.1 dX10_bind_13 rfl (lv_at hl 0 rfl) ?_
    refine gg_M_pitchMany Fx hC wd_596 dX10_bind_14 ?_
    refine lv_iload_n Fx.1 Fx.2.1 dX10_bind_17 rfl (lv_at hl 1 rfl) ?_
    obtain ⟨hi2, hf⟩ := gd_e hf
    refine ld_M_pitchMany Fx hC hi2 dX10_bind_18 ?_
    refine lv_iconst (v := (1 : Int32)) Fx.1 Fx.2.1 dX10_bind_19 (by decide) ?_
    refine lv_isub Fx.1 Fx.2.1 dX10_bind_20 ?_
    obtain ⟨u3, hu3, hf⟩ := bd_e hf
    refine ca_s (As := [.int a2, .int (0 : Int32), .int ((f 2 a1.toNatClampNeg) - (1 : Int32))]) (rest := []) Fx hC (k_M_within hu3) (cSU 3 Fx.2.2.2.2 wd_661 wd_662 wd_10 wd_663 rfl rfl hd_M_within ⟨Nat.le_of_ble_eq_true rfl, Nat.le_of_ble_eq_true rfl⟩) rfl hl.1 rfl (Nat.le_of_ble_eq_true rfl) dX10_bind_21 (fun H locs hC => ?_)
    refine lv_if_eq (tgt := 40) Fx.1 Fx.2.1 dX10_bind_24 (by decide) (fun hc => ?_) (fun hc => ?_)
    · replace hf := ift hc hf
      refine lv_bipush (v := (-2 : Int32)) Fx.1 Fx.2.1 dX10_bind_40 (by decide) ?_
      obtain rfl := Option.some.inj hf
      exact hret _ _ _ _ dX10_bind_42 hC
    · replace hf := iff_ hc hf
      refine lv_iload_n Fx.1 Fx.2.1 dX10_bind_27 rfl (lv_at hl 3 rfl) ?_
      refine lv_iconst (v := (-1 : Int32)) Fx.1 Fx.2.1 dX10_bind_28 (by decide) ?_
      refine lv_icmp_eq (tgt := 43) Fx.1 Fx.2.1 dX10_bind_29 (by decide) (fun hc => ?_) (fun hc => ?_)
      · replace hf := ift hc hf
        exact s_M_bind_J43 Fx hret _ _ _ _ _  hf _ _ _ (lv_sub hl [0, 1, 2, 3] rfl) hC
      · replace hf := iff_ hc hf
        refine lv_aload_n Fx.1 Fx.2.1 dX10_bind_32 rfl (lv_at hl 0 rfl) ?_
        refine lv_iload_n Fx.1 Fx.2.1 dX10_bind_33 rfl (lv_at hl 3 rfl) ?_
        obtain ⟨u4, hu4, hf⟩ := bd_e hf
        refine ca_i (As := [.int a3]) (rest := []) Fx hC (k_M_isString hu4) (cVU 1 Fx.2.2.2.2 wd_698 wd_699 wd_884 wd_10 wd_700 rfl rfl hd_M_isString ⟨Nat.le_of_ble_eq_true rfl, Nat.le_of_ble_eq_true rfl⟩) 0 rfl rfl rfl hl.1 rfl (Nat.le_of_ble_eq_true rfl) dX10_bind_34 (fun H locs hC => ?_)
        refine lv_if_ne (tgt := 43) Fx.1 Fx.2.1 dX10_bind_37 (by decide) (fun hc => ?_) (fun hc => ?_)
        · replace hf := iff_ hc hf
          exact s_M_bind_J43 Fx hret _ _ _ _ _  hf _ _ _ (lv_sub hl [0, 1, 2, 3] rfl) hC
        · replace hf := ift hc hf
          refine lv_bipush (v := (-2 : Int32)) Fx.1 Fx.2.1 dX10_bind_40 (by decide) ?_
          obtain rfl := Option.some.inj hf
          exact hret _ _ _ _ dX10_bind_42 hC
  · replace hf := ift hc hf
    refine lv_bipush (v := (-3 : Int32)) Fx.1 Fx.2.1 dX10_bind_8 (by decide) ?_
    obtain rfl := Option.some.inj hf
    exact hret _ _ _ _ dX10_bind_10 hC
/-! FretHandsModel.drop()I -/
abbrev rm_M_drop : Room := { frames := 0, cells := 0, slots := 0, locals := 0 }
theorem hd_M_drop : yX10_drop.cls = RX10 ∧ yX10_drop.cls ≠ "java/lang/invoke/MethodHandle" ∧ yX10_drop.cls ≠ "java/lang/invoke/VarHandle" ∧ (parseMethodDescriptor yX10_drop.desc).map (fun d => d.parameters.length) = some 0 := by decide +kernel
noncomputable def p_M_drop  (g : sG) (f : sF) : Option (Int32 × sG × sF) := (if (g 3) = 0 then some ((-4 : Int32), g, f) else lt_ (upd g 3 ((g 3) - (1 : Int32))) (fun g1 => lt_ (upd g1 4 (0 : Int32)) (fun g2 => some (g2 3, g2, f))))
set_option maxRecDepth 100000 in
set_option maxHeartbeats 4000000 in
theorem k_M_drop {l : Launch} {D : va_G} {ad : Nat → Nat} {cy : Nat → ClassId}  {u : Int32 × sG × sF} {g : sG} {f : sF} (hf : p_M_drop  g f = some u) : mMi l yX10_drop (Cond.code yX10_drop cX10_drop 1 (some .int) :: wU) rm_M_drop D (mT cy) (mW ad cy) [.ref (ad 0)] g f u := by
  refine mk_i (by decide) rfl (Nat.le_of_ble_eq_true rfl) ?_
  intro p e s m below meth c Q A H0 Fx hret ls H locs hl hC
  replace hl : lv_has ls 1 [(0, .ref (ad 0))] := hl
  unfold p_M_drop at hf
  refine lv_aload_n Fx.1 Fx.2.1 dX10_drop_0 rfl (lv_at hl 0 rfl) ?_
  refine gg_M_events Fx hC wd_595 dX10_drop_1 ?_
  refine lv_if_ne (tgt := 10) Fx.1 Fx.2.1 dX10_drop_4 (by decide) (fun hc => ?_) (fun hc => ?_)
  · replace hf := iff_ hc hf
    refine lv_aload_n Fx.1 Fx.2.1 dX10_drop_10 rfl (lv_at hl 0 rfl) ?_
    refine lv_dup Fx.1 Fx.2.1 dX10_drop_11 rfl ?_
    refine gg_M_events Fx hC wd_595 dX10_drop_12 ?_
    refine lv_iconst (v := (1 : Int32)) Fx.1 Fx.2.1 dX10_drop_15 (by decide) ?_
    refine lv_isub Fx.1 Fx.2.1 dX10_drop_16 ?_
    obtain ⟨g1, eg1, hf⟩ := lt_e hf
    refine gp_M_events Fx hC wd_595 eg1 dX10_drop_17 (fun H locs hC => ?_)
    refine lv_aload_n Fx.1 Fx.2.1 dX10_drop_20 rfl (lv_at hl 0 rfl) ?_
    refine lv_iconst (v := (0 : Int32)) Fx.1 Fx.2.1 dX10_drop_21 (by decide) ?_
    obtain ⟨g2, eg2, hf⟩ := lt_e hf
    refine gp_M_isFound Fx hC wd_599 z01_0 eg2 dX10_drop_22 (fun H locs hC => ?_)
    refine lv_aload_n Fx.1 Fx.2.1 dX10_drop_25 rfl (lv_at hl 0 rfl) ?_
    refine gg_M_events Fx hC wd_595 dX10_drop_26 ?_
    obtain rfl := Option.some.inj hf
    exact hret _ _ _ _ dX10_drop_29 hC
  · replace hf := ift hc hf
    refine lv_bipush (v := (-4 : Int32)) Fx.1 Fx.2.1 dX10_drop_7 (by decide) ?_
    obtain rfl := Option.some.inj hf
    exact hret _ _ _ _ dX10_drop_9 hC
/-! FretHandsModel.told(I)I -/
abbrev rm_M_told : Room := { frames := 0, cells := 0, slots := 0, locals := 0 }
theorem hd_M_told : yX10_told.cls = RX10 ∧ yX10_told.cls ≠ "java/lang/invoke/MethodHandle" ∧ yX10_told.cls ≠ "java/lang/invoke/VarHandle" ∧ (parseMethodDescriptor yX10_told.desc).map (fun d => d.parameters.length) = some 1 := by decide +kernel
noncomputable def p_M_told (a1 : Int32) (g : sG) (f : sF) : Option (Int32) := (if a1 = 0 then some (g 0) else (if a1 = (1 : Int32) then some (g 1) else (if a1 = (2 : Int32) then some (g 2) else (if a1 = (3 : Int32) then some (g 3) else (if a1 = (4 : Int32) then some (g 5) else some (-2 : Int32))))))
set_option maxRecDepth 100000 in
set_option maxHeartbeats 4000000 in
theorem k_M_told {l : Launch} {D : va_G} {ad : Nat → Nat} {cy : Nat → ClassId} {a1 : Int32} {r : Int32} {g : sG} {f : sF} (hf : p_M_told a1 g f = some r) : mMi l yX10_told (Cond.code yX10_told cX10_told 2 (some .int) :: wU) rm_M_told D (mT cy) (mW ad cy) [.ref (ad 0), .int a1] g f (r, g, f) := by
  refine mk_i (by decide) rfl (Nat.le_of_ble_eq_true rfl) ?_
  intro p e s m below meth c Q A H0 Fx hret ls H locs hl hC
  replace hl : lv_has ls 2 [(0, .ref (ad 0)), (1, .int a1)] := hl
  unfold p_M_told at hf
  refine lv_iload_n Fx.1 Fx.2.1 dX10_told_0 rfl (lv_at hl 1 rfl) ?_
  refine lv_if_ne (tgt := 11) Fx.1 Fx.2.1 dX10_told_1 (by decide) (fun hc => ?_) (fun hc => ?_)
  · replace hf := iff_ hc hf
    refine lv_iload_n Fx.1 Fx.2.1 dX10_told_11 rfl (lv_at hl 1 rfl) ?_
    refine lv_iconst (v := (1 : Int32)) Fx.1 Fx.2.1 dX10_told_12 (by decide) ?_
    refine lv_icmp_ne (tgt := 23) Fx.1 Fx.2.1 dX10_told_13 (by decide) (fun hc => ?_) (fun hc => ?_)
    · replace hf := iff_ hc hf
      refine lv_iload_n Fx.1 Fx.2.1 dX10_told_23 rfl (lv_at hl 1 rfl) ?_
      refine lv_iconst (v := (2 : Int32)) Fx.1 Fx.2.1 dX10_told_24 (by decide) ?_
      refine lv_icmp_ne (tgt := 35) Fx.1 Fx.2.1 dX10_told_25 (by decide) (fun hc => ?_) (fun hc => ?_)
      · replace hf := iff_ hc hf
        refine lv_iload_n Fx.1 Fx.2.1 dX10_told_35 rfl (lv_at hl 1 rfl) ?_
        refine lv_iconst (v := (3 : Int32)) Fx.1 Fx.2.1 dX10_told_36 (by decide) ?_
        refine lv_icmp_ne (tgt := 47) Fx.1 Fx.2.1 dX10_told_37 (by decide) (fun hc => ?_) (fun hc => ?_)
        · replace hf := iff_ hc hf
          refine lv_iload_n Fx.1 Fx.2.1 dX10_told_47 rfl (lv_at hl 1 rfl) ?_
          refine lv_iconst (v := (4 : Int32)) Fx.1 Fx.2.1 dX10_told_48 (by decide) ?_
          refine lv_icmp_ne (tgt := 59) Fx.1 Fx.2.1 dX10_told_49 (by decide) (fun hc => ?_) (fun hc => ?_)
          · replace hf := iff_ hc hf
            refine lv_bipush (v := (-2 : Int32)) Fx.1 Fx.2.1 dX10_told_59 (by decide) ?_
            obtain rfl := Option.some.inj hf
            exact hret _ _ _ _ dX10_told_61 hC
          · replace hf := ift hc hf
            refine lv_aload_n Fx.1 Fx.2.1 dX10_told_52 rfl (lv_at hl 0 rfl) ?_
            refine gg_M_signs Fx hC wd_604 dX10_told_53 ?_
            refine lv_goto (tgt := 61) Fx.1 Fx.2.1 dX10_told_56 (by decide) ?_
            obtain rfl := Option.some.inj hf
            exact hret _ _ _ _ dX10_told_61 hC
        · replace hf := ift hc hf
          refine lv_aload_n Fx.1 Fx.2.1 dX10_told_40 rfl (lv_at hl 0 rfl) ?_
          refine gg_M_events Fx hC wd_595 dX10_told_41 ?_
          refine lv_goto (tgt := 61) Fx.1 Fx.2.1 dX10_told_44 (by decide) ?_
          obtain rfl := Option.some.inj hf
          exact hret _ _ _ _ dX10_told_61 hC
      · replace hf := ift hc hf
        refine lv_aload_n Fx.1 Fx.2.1 dX10_told_28 rfl (lv_at hl 0 rfl) ?_
        refine gg_M_capo Fx hC wd_593 dX10_told_29 ?_
        refine lv_goto (tgt := 61) Fx.1 Fx.2.1 dX10_told_32 (by decide) ?_
        obtain rfl := Option.some.inj hf
        exact hret _ _ _ _ dX10_told_61 hC
    · replace hf := ift hc hf
      refine lv_aload_n Fx.1 Fx.2.1 dX10_told_16 rfl (lv_at hl 0 rfl) ?_
      refine gg_M_neck Fx hC wd_592 dX10_told_17 ?_
      refine lv_goto (tgt := 61) Fx.1 Fx.2.1 dX10_told_20 (by decide) ?_
      obtain rfl := Option.some.inj hf
      exact hret _ _ _ _ dX10_told_61 hC
  · replace hf := ift hc hf
    refine lv_aload_n Fx.1 Fx.2.1 dX10_told_4 rfl (lv_at hl 0 rfl) ?_
    refine gg_M_strings Fx hC wd_590 dX10_told_5 ?_
    refine lv_goto (tgt := 61) Fx.1 Fx.2.1 dX10_told_8 (by decide) ?_
    obtain rfl := Option.some.inj hf
    exact hret _ _ _ _ dX10_told_61 hC
/-! FretHandsModel.at(II)I -/
abbrev rm_M_at : Room := { frames := 2, cells := 0, slots := 0, locals := 43 }
theorem hd_M_at : yX10_at.cls = RX10 ∧ yX10_at.cls ≠ "java/lang/invoke/MethodHandle" ∧ yX10_at.cls ≠ "java/lang/invoke/VarHandle" ∧ (parseMethodDescriptor yX10_at.desc).map (fun d => d.parameters.length) = some 2 := by decide +kernel
noncomputable def p_M_at (a1 : Int32) (a2 : Int32) (g : sG) (f : sF) : Option (Int32) := Option.bind (p_M_isEvent a1 g f) (fun u1 => (if u1 = 0 then some (-3 : Int32) else (if a1 < 0 ∨ 40 ≤ a1.toNatClampNeg then none else Option.bind (p_M_within a2 (0 : Int32) ((f 2 a1.toNatClampNeg) - (1 : Int32)) g f) (fun u3 => (if u3 = 0 then some (-1 : Int32) else (if (((4 : Int32) * a1) + a2) < 0 ∨ 160 ≤ (((4 : Int32) * a1) + a2).toNatClampNeg then none else some (f 3 (((4 : Int32) * a1) + a2).toNatClampNeg)))))))
set_option maxRecDepth 100000 in
set_option maxHeartbeats 4000000 in
theorem k_M_at {l : Launch} {D : va_G} {ad : Nat → Nat} {cy : Nat → ClassId} {a1 : Int32} {a2 : Int32} {r : Int32} {g : sG} {f : sF} (hf : p_M_at a1 a2 g f = some r) : mMi l yX10_at (Cond.code yX10_at cX10_at 3 (some .int) :: wU) rm_M_at D (mT cy) (mW ad cy) [.ref (ad 0), .int a1, .int a2] g f (r, g, f) := by
  refine mk_i (by decide) rfl (Nat.le_of_ble_eq_true rfl) ?_
  intro p e s m below meth c Q A H0 Fx hret ls H locs hl hC
  replace hl : lv_has ls 3 [(0, .ref (ad 0)), (1, .int a1), (2, .int a2)] := hl
  unfold p_M_at at hf
  refine lv_aload_n Fx.1 Fx.2.1 dX10_at_0 rfl (lv_at hl 0 rfl) ?_
  refine lv_iload_n Fx.1 Fx.2.1 dX10_at_1 rfl (lv_at hl 1 rfl) ?_
  obtain ⟨u1, hu1, hf⟩ := bd_e hf
  refine ca_i (As := [.int a1]) (rest := []) Fx hC (k_M_isEvent hu1) (cVU 1 Fx.2.2.2.2 wd_695 wd_696 wd_883 wd_10 wd_697 rfl rfl hd_M_isEvent ⟨Nat.le_of_ble_eq_true rfl, Nat.le_of_ble_eq_true rfl⟩) 0 rfl rfl rfl hl.1 rfl (Nat.le_of_ble_eq_true rfl) dX10_at_2 (fun H locs hC => ?_)
  refine lv_if_ne (tgt := 11) Fx.1 Fx.2.1 dX10_at_5 (by decide) (fun hc => ?_) (fun hc => ?_)
  · replace hf := iff_ hc hf
    refine lv_iload_n Fx.1 Fx.2.1 dX10_at_11 rfl (lv_at hl 2 rfl) ?_
    refine lv_iconst (v := (0 : Int32)) Fx.1 Fx.2.1 dX10_at_12 (by decide) ?_
    refine lv_aload_n Fx.1 Fx.2.1 dX10_at_13 rfl (lv_at hl 0 rfl) ?_
    refine gg_M_pitchMany Fx hC wd_596 dX10_at_14 ?_
    refine lv_iload_n Fx.1 Fx.2.1 dX10_at_17 rfl (lv_at hl 1 rfl) ?_
    obtain ⟨hi2, hf⟩ := gd_e hf
    refine ld_M_pitchMany Fx hC hi2 dX10_at_18 ?_
    refine lv_iconst (v := (1 : Int32)) Fx.1 Fx.2.1 dX10_at_19 (by decide) ?_
    refine lv_isub Fx.1 Fx.2.1 dX10_at_20 ?_
    obtain ⟨u3, hu3, hf⟩ := bd_e hf
    refine ca_s (As := [.int a2, .int (0 : Int32), .int ((f 2 a1.toNatClampNeg) - (1 : Int32))]) (rest := []) Fx hC (k_M_within hu3) (cSU 3 Fx.2.2.2.2 wd_661 wd_662 wd_10 wd_663 rfl rfl hd_M_within ⟨Nat.le_of_ble_eq_true rfl, Nat.le_of_ble_eq_true rfl⟩) rfl hl.1 rfl (Nat.le_of_ble_eq_true rfl) dX10_at_21 (fun H locs hC => ?_)
    refine lv_if_eq (tgt := 40) Fx.1 Fx.2.1 dX10_at_24 (by decide) (fun hc => ?_) (fun hc => ?_)
    · replace hf := ift hc hf
      refine lv_iconst (v := (-1 : Int32)) Fx.1 Fx.2.1 dX10_at_40 (by decide) ?_
      obtain rfl := Option.some.inj hf
      exact hret _ _ _ _ dX10_at_41 hC
    · replace hf := iff_ hc hf
      refine lv_aload_n Fx.1 Fx.2.1 dX10_at_27 rfl (lv_at hl 0 rfl) ?_
      refine gg_M_pitches Fx hC wd_597 dX10_at_28 ?_
      refine lv_iconst (v := (4 : Int32)) Fx.1 Fx.2.1 dX10_at_31 (by decide) ?_
      refine lv_iload_n Fx.1 Fx.2.1 dX10_at_32 rfl (lv_at hl 1 rfl) ?_
      refine lv_imul Fx.1 Fx.2.1 dX10_at_33 ?_
      refine lv_iload_n Fx.1 Fx.2.1 dX10_at_34 rfl (lv_at hl 2 rfl) ?_
      refine lv_iadd Fx.1 Fx.2.1 dX10_at_35 ?_
      obtain ⟨hi4, hf⟩ := gd_e hf
      refine ld_M_pitches Fx hC hi4 dX10_at_36 ?_
      refine lv_goto (tgt := 41) Fx.1 Fx.2.1 dX10_at_37 (by decide) ?_
      obtain rfl := Option.some.inj hf
      exact hret _ _ _ _ dX10_at_41 hC
  · replace hf := ift hc hf
    refine lv_bipush (v := (-3 : Int32)) Fx.1 Fx.2.1 dX10_at_8 (by decide) ?_
    obtain rfl := Option.some.inj hf
    exact hret _ _ _ _ dX10_at_10 hC
/-! FretHandsModel.bound(II)I -/
abbrev rm_M_bound : Room := { frames := 2, cells := 0, slots := 0, locals := 43 }
theorem hd_M_bound : yX10_bound.cls = RX10 ∧ yX10_bound.cls ≠ "java/lang/invoke/MethodHandle" ∧ yX10_bound.cls ≠ "java/lang/invoke/VarHandle" ∧ (parseMethodDescriptor yX10_bound.desc).map (fun d => d.parameters.length) = some 2 := by decide +kernel
noncomputable def p_M_bound (a1 : Int32) (a2 : Int32) (g : sG) (f : sF) : Option (Int32) := Option.bind (p_M_isEvent a1 g f) (fun u1 => (if u1 = 0 then some (-3 : Int32) else (if a1 < 0 ∨ 40 ≤ a1.toNatClampNeg then none else Option.bind (p_M_within a2 (0 : Int32) ((f 2 a1.toNatClampNeg) - (1 : Int32)) g f) (fun u3 => (if u3 = 0 then some (-1 : Int32) else (if (((4 : Int32) * a1) + a2) < 0 ∨ 160 ≤ (((4 : Int32) * a1) + a2).toNatClampNeg then none else some (f 4 (((4 : Int32) * a1) + a2).toNatClampNeg)))))))
set_option maxRecDepth 100000 in
set_option maxHeartbeats 4000000 in
theorem k_M_bound {l : Launch} {D : va_G} {ad : Nat → Nat} {cy : Nat → ClassId} {a1 : Int32} {a2 : Int32} {r : Int32} {g : sG} {f : sF} (hf : p_M_bound a1 a2 g f = some r) : mMi l yX10_bound (Cond.code yX10_bound cX10_bound 3 (some .int) :: wU) rm_M_bound D (mT cy) (mW ad cy) [.ref (ad 0), .int a1, .int a2] g f (r, g, f) := by
  refine mk_i (by decide) rfl (Nat.le_of_ble_eq_true rfl) ?_
  intro p e s m below meth c Q A H0 Fx hret ls H locs hl hC
  replace hl : lv_has ls 3 [(0, .ref (ad 0)), (1, .int a1), (2, .int a2)] := hl
  unfold p_M_bound at hf
  refine lv_aload_n Fx.1 Fx.2.1 dX10_bound_0 rfl (lv_at hl 0 rfl) ?_
  refine lv_iload_n Fx.1 Fx.2.1 dX10_bound_1 rfl (lv_at hl 1 rfl) ?_
  obtain ⟨u1, hu1, hf⟩ := bd_e hf
  refine ca_i (As := [.int a1]) (rest := []) Fx hC (k_M_isEvent hu1) (cVU 1 Fx.2.2.2.2 wd_695 wd_696 wd_883 wd_10 wd_697 rfl rfl hd_M_isEvent ⟨Nat.le_of_ble_eq_true rfl, Nat.le_of_ble_eq_true rfl⟩) 0 rfl rfl rfl hl.1 rfl (Nat.le_of_ble_eq_true rfl) dX10_bound_2 (fun H locs hC => ?_)
  refine lv_if_ne (tgt := 11) Fx.1 Fx.2.1 dX10_bound_5 (by decide) (fun hc => ?_) (fun hc => ?_)
  · replace hf := iff_ hc hf
    refine lv_iload_n Fx.1 Fx.2.1 dX10_bound_11 rfl (lv_at hl 2 rfl) ?_
    refine lv_iconst (v := (0 : Int32)) Fx.1 Fx.2.1 dX10_bound_12 (by decide) ?_
    refine lv_aload_n Fx.1 Fx.2.1 dX10_bound_13 rfl (lv_at hl 0 rfl) ?_
    refine gg_M_pitchMany Fx hC wd_596 dX10_bound_14 ?_
    refine lv_iload_n Fx.1 Fx.2.1 dX10_bound_17 rfl (lv_at hl 1 rfl) ?_
    obtain ⟨hi2, hf⟩ := gd_e hf
    refine ld_M_pitchMany Fx hC hi2 dX10_bound_18 ?_
    refine lv_iconst (v := (1 : Int32)) Fx.1 Fx.2.1 dX10_bound_19 (by decide) ?_
    refine lv_isub Fx.1 Fx.2.1 dX10_bound_20 ?_
    obtain ⟨u3, hu3, hf⟩ := bd_e hf
    refine ca_s (As := [.int a2, .int (0 : Int32), .int ((f 2 a1.toNatClampNeg) - (1 : Int32))]) (rest := []) Fx hC (k_M_within hu3) (cSU 3 Fx.2.2.2.2 wd_661 wd_662 wd_10 wd_663 rfl rfl hd_M_within ⟨Nat.le_of_ble_eq_true rfl, Nat.le_of_ble_eq_true rfl⟩) rfl hl.1 rfl (Nat.le_of_ble_eq_true rfl) dX10_bound_21 (fun H locs hC => ?_)
    refine lv_if_eq (tgt := 40) Fx.1 Fx.2.1 dX10_bound_24 (by decide) (fun hc => ?_) (fun hc => ?_)
    · replace hf := ift hc hf
      refine lv_iconst (v := (-1 : Int32)) Fx.1 Fx.2.1 dX10_bound_40 (by decide) ?_
      obtain rfl := Option.some.inj hf
      exact hret _ _ _ _ dX10_bound_41 hC
    · replace hf := iff_ hc hf
      refine lv_aload_n Fx.1 Fx.2.1 dX10_bound_27 rfl (lv_at hl 0 rfl) ?_
      refine gg_M_bounds Fx hC wd_598 dX10_bound_28 ?_
      refine lv_iconst (v := (4 : Int32)) Fx.1 Fx.2.1 dX10_bound_31 (by decide) ?_
      refine lv_iload_n Fx.1 Fx.2.1 dX10_bound_32 rfl (lv_at hl 1 rfl) ?_
      refine lv_imul Fx.1 Fx.2.1 dX10_bound_33 ?_
      refine lv_iload_n Fx.1 Fx.2.1 dX10_bound_34 rfl (lv_at hl 2 rfl) ?_
      refine lv_iadd Fx.1 Fx.2.1 dX10_bound_35 ?_
      obtain ⟨hi4, hf⟩ := gd_e hf
      refine ld_M_bounds Fx hC hi4 dX10_bound_36 ?_
      refine lv_goto (tgt := 41) Fx.1 Fx.2.1 dX10_bound_37 (by decide) ?_
      obtain rfl := Option.some.inj hf
      exact hret _ _ _ _ dX10_bound_41 hC
  · replace hf := ift hc hf
    refine lv_bipush (v := (-3 : Int32)) Fx.1 Fx.2.1 dX10_bound_8 (by decide) ?_
    obtain rfl := Option.some.inj hf
    exact hret _ _ _ _ dX10_bound_10 hC
