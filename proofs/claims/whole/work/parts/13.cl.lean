/-! FretHands$GripFinder.numberOfFirstLeast(I)I -/
abbrev rm_GF_numberOfFirstLeast : Room := { frames := 1, cells := 0, slots := 0, locals := 23 }
theorem hd_GF_numberOfFirstLeast : yX0_numberOfFirstLeast.cls = RX0 ∧ yX0_numberOfFirstLeast.cls ≠ "java/lang/invoke/MethodHandle" ∧ yX0_numberOfFirstLeast.cls ≠ "java/lang/invoke/VarHandle" ∧ (parseMethodDescriptor yX0_numberOfFirstLeast.desc).map (fun d => d.parameters.length) = some 1 := by decide +kernel
noncomputable def p_GF_numberOfFirstLeast (a1 : Int32) (g : sG) (f : sF) : Option (Int32) := (if a1 < 0 then some (-1 : Int32) else (if a1 < (25 : Int32) then Option.bind (p_GF_countBelow a1 g f) (fun u1 => (if a1 < 0 ∨ 25 ≤ a1.toNatClampNeg then none else some (u1 + (f 13 a1.toNatClampNeg)))) else some (-1 : Int32)))
set_option maxRecDepth 100000 in
set_option maxHeartbeats 4000000 in
theorem k_GF_numberOfFirstLeast {l : Launch} {D : va_G} {ad : Nat → Nat} {cy : Nat → ClassId} {a1 : Int32} {r : Int32} {g : sG} {f : sF} (hf : p_GF_numberOfFirstLeast a1 g f = some r) : mMi l yX0_numberOfFirstLeast (Cond.code yX0_numberOfFirstLeast cX0_numberOfFirstLeast 2 (some .int) :: wU) rm_GF_numberOfFirstLeast D (cT cy) (cW ad cy) [.ref (ad 13), .int a1] g f (r, g, f) := by
  refine mk_i (by decide) rfl (Nat.le_of_ble_eq_true rfl) ?_
  intro p e s m below meth c Q A H0 Fx hret ls H locs hl hC
  replace hl : lv_has ls 2 [(0, .ref (ad 13)), (1, .int a1)] := hl
  unfold p_GF_numberOfFirstLeast at hf
  refine lv_iload_n Fx.1 Fx.2.1 dX0_numberOfFirstLeast_0 rfl (lv_at hl 1 rfl) ?_
  refine lv_if_lt (tgt := 10) Fx.1 Fx.2.1 dX0_numberOfFirstLeast_1 (by decide) (fun hc => ?_) (fun hc => ?_)
  · replace hf := ift hc hf
    refine lv_iconst (v := (-1 : Int32)) Fx.1 Fx.2.1 dX0_numberOfFirstLeast_10 (by decide) ?_
    obtain rfl := Option.some.inj hf
    exact hret _ _ _ _ dX0_numberOfFirstLeast_11 hC
  · replace hf := iff_ hc hf
    refine lv_iload_n Fx.1 Fx.2.1 dX0_numberOfFirstLeast_4 rfl (lv_at hl 1 rfl) ?_
    refine lv_bipush (v := (25 : Int32)) Fx.1 Fx.2.1 dX0_numberOfFirstLeast_5 (by decide) ?_
    refine lv_icmp_lt (tgt := 12) Fx.1 Fx.2.1 dX0_numberOfFirstLeast_7 (by decide) (fun hc => ?_) (fun hc => ?_)
    · replace hf := ift hc hf
      refine lv_aload_n Fx.1 Fx.2.1 dX0_numberOfFirstLeast_12 rfl (lv_at hl 0 rfl) ?_
      refine lv_iload_n Fx.1 Fx.2.1 dX0_numberOfFirstLeast_13 rfl (lv_at hl 1 rfl) ?_
      obtain ⟨u1, hu1, hf⟩ := bd_e hf
      refine ca_i (As := [.int a1]) (rest := []) Fx hC (k_GF_countBelow hu1) (cVU 1 Fx.2.2.2.2 wd_434 wd_369 wd_370 wd_5 wd_371 rfl rfl hd_GF_countBelow ⟨Nat.le_of_ble_eq_true rfl, Nat.le_of_ble_eq_true rfl⟩) 13 rfl rfl rfl hl.1 rfl (Nat.le_of_ble_eq_true rfl) dX0_numberOfFirstLeast_14 (fun H locs hC => ?_)
      refine lv_aload_n Fx.1 Fx.2.1 dX0_numberOfFirstLeast_17 rfl (lv_at hl 0 rfl) ?_
      refine gg_GF_firstPlaces Fx hC wd_103 dX0_numberOfFirstLeast_18 ?_
      refine lv_iload_n Fx.1 Fx.2.1 dX0_numberOfFirstLeast_21 rfl (lv_at hl 1 rfl) ?_
      obtain ⟨hi2, hf⟩ := gd_e hf
      refine ld_GF_firstPlaces Fx hC hi2 dX0_numberOfFirstLeast_22 ?_
      refine lv_iadd Fx.1 Fx.2.1 dX0_numberOfFirstLeast_23 ?_
      obtain rfl := Option.some.inj hf
      exact hret _ _ _ _ dX0_numberOfFirstLeast_24 hC
    · replace hf := iff_ hc hf
      refine lv_iconst (v := (-1 : Int32)) Fx.1 Fx.2.1 dX0_numberOfFirstLeast_10 (by decide) ?_
      obtain rfl := Option.some.inj hf
      exact hret _ _ _ _ dX0_numberOfFirstLeast_11 hC
/-! FretHands$Plan.addFirstLeast(LFretHands$GripFinder;I)V -/
abbrev rm_Pl_addFirstLeast : Room := { frames := 2, cells := 0, slots := 0, locals := 44 }
theorem hd_Pl_addFirstLeast : yX2_addFirstLeast.cls = RX2 ∧ yX2_addFirstLeast.cls ≠ "java/lang/invoke/MethodHandle" ∧ yX2_addFirstLeast.cls ≠ "java/lang/invoke/VarHandle" ∧ (parseMethodDescriptor yX2_addFirstLeast.desc).map (fun d => d.parameters.length) = some 2 := by decide +kernel
noncomputable def p_Pl_addFirstLeast (a2 : Int32) (g : sG) (f : sF) : Option (sG × sF) := (if (40 : Int32) ≤ (g 4) then some (g, f) else (if a2 < 0 then some (g, f) else (if a2 < (25 : Int32) then (if (g 4) < 0 ∨ 40 ≤ (g 4).toNatClampNeg then none else lt_ (up2 f 5 (g 4).toNatClampNeg a2) (fun f2 => (if a2 < 0 ∨ 25 ≤ a2.toNatClampNeg then none else (if (g 4) < 0 ∨ 40 ≤ (g 4).toNatClampNeg then none else lt_ (up2 f2 6 (g 4).toNatClampNeg (f2 12 a2.toNatClampNeg)) (fun f5 => (if a2 < 0 ∨ 25 ≤ a2.toNatClampNeg then none else (if (g 4) < 0 ∨ 40 ≤ (g 4).toNatClampNeg then none else lt_ (up2 f5 7 (g 4).toNatClampNeg (f5 10 a2.toNatClampNeg)) (fun f8 => Option.bind (p_GF_numberOfFirstLeast a2 g f8) (fun u9 => (if (g 4) < 0 ∨ 40 ≤ (g 4).toNatClampNeg then none else lt_ (up2 f8 8 (g 4).toNatClampNeg u9) (fun f11 => lt_ (upd g 4 ((g 4) + (1 : Int32))) (fun g12 => some (g12, f11))))))))))))) else some (g, f))))
set_option maxRecDepth 100000 in
set_option maxHeartbeats 4000000 in
theorem k_Pl_addFirstLeast {l : Launch} {D : va_G} {ad : Nat → Nat} {cy : Nat → ClassId} {a2 : Int32} {u : sG × sF} {g : sG} {f : sF} (hf : p_Pl_addFirstLeast a2 g f = some u) : mMv l yX2_addFirstLeast (Cond.code yX2_addFirstLeast cX2_addFirstLeast 3 none :: wU) rm_Pl_addFirstLeast D (cT cy) (cW ad cy) [.ref (ad 8), .ref (ad 13), .int a2] g f u := by
  refine mk_v (by decide) rfl (Nat.le_of_ble_eq_true rfl) ?_
  intro p e s m below meth c Q A H0 Fx hret ls H locs hl hC
  replace hl : lv_has ls 3 [(0, .ref (ad 8)), (1, .ref (ad 13)), (2, .int a2)] := hl
  unfold p_Pl_addFirstLeast at hf
  refine lv_aload_n Fx.1 Fx.2.1 dX2_addFirstLeast_0 rfl (lv_at hl 0 rfl) ?_
  refine gg_Pl_events Fx hC wd_79 dX2_addFirstLeast_1 ?_
  refine lv_bipush (v := (40 : Int32)) Fx.1 Fx.2.1 dX2_addFirstLeast_4 (by decide) ?_
  refine lv_icmp_ge (tgt := 19) Fx.1 Fx.2.1 dX2_addFirstLeast_6 (by decide) (fun hc => ?_) (fun hc => ?_)
  · replace hf := ift hc hf
    obtain rfl := Option.some.inj hf
    exact hret _ _ _ _ dX2_addFirstLeast_19 hC
  · replace hf := iff_ hc hf
    refine lv_iload_n Fx.1 Fx.2.1 dX2_addFirstLeast_9 rfl (lv_at hl 2 rfl) ?_
    refine lv_if_lt (tgt := 19) Fx.1 Fx.2.1 dX2_addFirstLeast_10 (by decide) (fun hc => ?_) (fun hc => ?_)
    · replace hf := ift hc hf
      obtain rfl := Option.some.inj hf
      exact hret _ _ _ _ dX2_addFirstLeast_19 hC
    · replace hf := iff_ hc hf
      refine lv_iload_n Fx.1 Fx.2.1 dX2_addFirstLeast_13 rfl (lv_at hl 2 rfl) ?_
      refine lv_bipush (v := (25 : Int32)) Fx.1 Fx.2.1 dX2_addFirstLeast_14 (by decide) ?_
      refine lv_icmp_lt (tgt := 20) Fx.1 Fx.2.1 dX2_addFirstLeast_16 (by decide) (fun hc => ?_) (fun hc => ?_)
      · replace hf := ift hc hf
        refine lv_aload_n Fx.1 Fx.2.1 dX2_addFirstLeast_20 rfl (lv_at hl 0 rfl) ?_
        refine gg_Pl_positions Fx hC wd_70 dX2_addFirstLeast_21 ?_
        refine lv_aload_n Fx.1 Fx.2.1 dX2_addFirstLeast_24 rfl (lv_at hl 0 rfl) ?_
        refine gg_Pl_events Fx hC wd_79 dX2_addFirstLeast_25 ?_
        refine lv_iload_n Fx.1 Fx.2.1 dX2_addFirstLeast_28 rfl (lv_at hl 2 rfl) ?_
        obtain ⟨hi1, hf⟩ := gd_e hf
        obtain ⟨f2, ef2, hf⟩ := lt_e hf
        refine st_Pl_positions Fx hC hi1 ef2 dX2_addFirstLeast_29 (fun H locs hC => ?_)
        refine lv_aload_n Fx.1 Fx.2.1 dX2_addFirstLeast_30 rfl (lv_at hl 0 rfl) ?_
        refine gg_Pl_strings Fx hC wd_72 dX2_addFirstLeast_31 ?_
        refine lv_aload_n Fx.1 Fx.2.1 dX2_addFirstLeast_34 rfl (lv_at hl 0 rfl) ?_
        refine gg_Pl_events Fx hC wd_79 dX2_addFirstLeast_35 ?_
        refine lv_aload_n Fx.1 Fx.2.1 dX2_addFirstLeast_38 rfl (lv_at hl 1 rfl) ?_
        refine gg_GF_firstStrings Fx hC wd_102 dX2_addFirstLeast_39 ?_
        refine lv_iload_n Fx.1 Fx.2.1 dX2_addFirstLeast_42 rfl (lv_at hl 2 rfl) ?_
        obtain ⟨hi3, hf⟩ := gd_e hf
        refine ld_GF_firstStrings Fx hC hi3 dX2_addFirstLeast_43 ?_
        obtain ⟨hi4, hf⟩ := gd_e hf
        obtain ⟨f5, ef5, hf⟩ := lt_e hf
        refine st_Pl_strings Fx hC hi4 ef5 dX2_addFirstLeast_44 (fun H locs hC => ?_)
        refine lv_aload_n Fx.1 Fx.2.1 dX2_addFirstLeast_45 rfl (lv_at hl 0 rfl) ?_
        refine gg_Pl_costs Fx hC wd_75 dX2_addFirstLeast_46 ?_
        refine lv_aload_n Fx.1 Fx.2.1 dX2_addFirstLeast_49 rfl (lv_at hl 0 rfl) ?_
        refine gg_Pl_events Fx hC wd_79 dX2_addFirstLeast_50 ?_
        refine lv_aload_n Fx.1 Fx.2.1 dX2_addFirstLeast_53 rfl (lv_at hl 1 rfl) ?_
        refine gg_GF_leastCosts Fx hC wd_98 dX2_addFirstLeast_54 ?_
        refine lv_iload_n Fx.1 Fx.2.1 dX2_addFirstLeast_57 rfl (lv_at hl 2 rfl) ?_
        obtain ⟨hi6, hf⟩ := gd_e hf
        refine ld_GF_leastCosts Fx hC hi6 dX2_addFirstLeast_58 ?_
        obtain ⟨hi7, hf⟩ := gd_e hf
        obtain ⟨f8, ef8, hf⟩ := lt_e hf
        refine st_Pl_costs Fx hC hi7 ef8 dX2_addFirstLeast_59 (fun H locs hC => ?_)
        refine lv_aload_n Fx.1 Fx.2.1 dX2_addFirstLeast_60 rfl (lv_at hl 0 rfl) ?_
        refine gg_Pl_numbers Fx hC wd_77 dX2_addFirstLeast_61 ?_
        refine lv_aload_n Fx.1 Fx.2.1 dX2_addFirstLeast_64 rfl (lv_at hl 0 rfl) ?_
        refine gg_Pl_events Fx hC wd_79 dX2_addFirstLeast_65 ?_
        refine lv_aload_n Fx.1 Fx.2.1 dX2_addFirstLeast_68 rfl (lv_at hl 1 rfl) ?_
        refine lv_iload_n Fx.1 Fx.2.1 dX2_addFirstLeast_69 rfl (lv_at hl 2 rfl) ?_
        obtain ⟨u9, hu9, hf⟩ := bd_e hf
        refine ca_i (As := [.int a2]) (rest := [.int (g 4), .ref (ad 12)]) Fx hC (k_GF_numberOfFirstLeast hu9) (cVU 1 Fx.2.2.2.2 wd_430 wd_431 wd_432 wd_5 wd_433 rfl rfl hd_GF_numberOfFirstLeast ⟨Nat.le_of_ble_eq_true rfl, Nat.le_of_ble_eq_true rfl⟩) 13 rfl rfl rfl hl.1 rfl (Nat.le_of_ble_eq_true rfl) dX2_addFirstLeast_70 (fun H locs hC => ?_)
        obtain ⟨hi10, hf⟩ := gd_e hf
        obtain ⟨f11, ef11, hf⟩ := lt_e hf
        refine st_Pl_numbers Fx hC hi10 ef11 dX2_addFirstLeast_73 (fun H locs hC => ?_)
        refine lv_aload_n Fx.1 Fx.2.1 dX2_addFirstLeast_74 rfl (lv_at hl 0 rfl) ?_
        refine lv_dup Fx.1 Fx.2.1 dX2_addFirstLeast_75 rfl ?_
        refine gg_Pl_events Fx hC wd_79 dX2_addFirstLeast_76 ?_
        refine lv_iconst (v := (1 : Int32)) Fx.1 Fx.2.1 dX2_addFirstLeast_79 (by decide) ?_
        refine lv_iadd Fx.1 Fx.2.1 dX2_addFirstLeast_80 ?_
        obtain ⟨g12, eg12, hf⟩ := lt_e hf
        refine gp_Pl_events Fx hC wd_79 eg12 dX2_addFirstLeast_81 (fun H locs hC => ?_)
        obtain rfl := Option.some.inj hf
        exact hret _ _ _ _ dX2_addFirstLeast_84 hC
      · replace hf := iff_ hc hf
        obtain rfl := Option.some.inj hf
        exact hret _ _ _ _ dX2_addFirstLeast_19 hC
/-! FretHands$Planner.choose(LFretHands$Plan;)V -/
abbrev rm_Pr_choose : Room := { frames := 29, cells := 0, slots := 0, locals := 837 }
theorem hd_Pr_choose : yX3_choose.cls = RX3 ∧ yX3_choose.cls ≠ "java/lang/invoke/MethodHandle" ∧ yX3_choose.cls ≠ "java/lang/invoke/VarHandle" ∧ (parseMethodDescriptor yX3_choose.desc).map (fun d => d.parameters.length) = some 1 := by decide +kernel
noncomputable def p_Pr_choose_L4 (K4 : (Int32 × Int32 × sG × sF) → Option (sG × sF)) (x2 : Int32) (x3 : Int32) (g : sG) (f : sF) : Option (sG × sF) := (if (g 3) ≤ x3 then some (g, f) else Option.bind (p_Pr_firstBest x3 x2 g f) (fun u1 => Option.bind (p_GF_survey x3 g f) (fun u2 => Option.bind (p_Pl_addFirstLeast u1 u2.1 u2.2) (fun u3 => lt_ (x3 + (1 : Int32)) (fun v4 => K4 (u1, v4, u3.1, u3.2))))))
set_option maxRecDepth 100000 in
set_option maxHeartbeats 4000000 in
theorem s_Pr_choose_L4 {K4 : (Int32 × Int32 × sG × sF) → Option (sG × sF)} {p : Program} {l : Launch} {e : Env} {s : State} {m : MethodId} {args : Array Value} {below : List Frame} {meth : Method} {c : Code} {Q : State → Prop} {D : va_G} {ad : Nat → Nat} {cy : Nat → ClassId} {A : Nat → Prop} {H0 : Heap} {u : sG × sF} (Fx : CallFix p m c cX3_choose 5 s args (Cond.code yX3_choose cX3_choose 5 none :: wU) RX3) (hret : mRv p l e rm_Pr_choose s m args below meth c Q D (cT cy) (cW ad cy) A H0 cX3_choose u) (hK4 : ∀ (z : Int32 × Int32 × sG × sF), K4 z = some u → ∀ (ls : Array Slot) (H : Heap) (locs : List Loc), lv_has ls 5 [(0, .ref (ad 22)), (1, .ref (ad 8)), (2, .int z.1), (3, .int z.2.1)] → wH D (cT cy) (cW ad cy) A H0 s z.2.2.1 z.2.2.2 H locs → W p l e rm_Pr_choose s m args below meth c H locs 0 0 Q (F0 m 4 ls [])) (x2 : Int32) (x3 : Int32) (g : sG) (f : sF) (hf : p_Pr_choose_L4 K4 x2 x3 g f = some u) : ∀ (ls : Array Slot) (H : Heap) (locs : List Loc), lv_has ls 5 [(0, .ref (ad 22)), (1, .ref (ad 8)), (2, .int x2), (3, .int x3)] → wH D (cT cy) (cW ad cy) A H0 s g f H locs → W p l e rm_Pr_choose s m args below meth c H locs 0 0 Q (F0 m 4 ls []) := by
  intro ls H locs hl hC
  unfold p_Pr_choose_L4 at hf
  refine lv_iload_n Fx.1 Fx.2.1 dX3_choose_4 rfl (lv_at hl 3 rfl) ?_
  refine lv_aload_n Fx.1 Fx.2.1 dX3_choose_5 rfl (lv_at hl 0 rfl) ?_
  refine gg_Pr_tune Fx hC wd_139 dX3_choose_6 ?_
  refine gg_Tu_events Fx hC wd_57 dX3_choose_9 ?_
  refine lv_icmp_ge (tgt := 50) Fx.1 Fx.2.1 dX3_choose_12 (by decide) (fun hc => ?_) (fun hc => ?_)
  · replace hf := ift hc hf
    obtain rfl := Option.some.inj hf
    exact hret _ _ _ _ dX3_choose_50 hC
  · replace hf := iff_ hc hf
    refine lv_aload_n Fx.1 Fx.2.1 dX3_choose_15 rfl (lv_at hl 0 rfl) ?_
    refine lv_iload_n Fx.1 Fx.2.1 dX3_choose_16 rfl (lv_at hl 3 rfl) ?_
    refine lv_iload_n Fx.1 Fx.2.1 dX3_choose_17 rfl (lv_at hl 2 rfl) ?_
    obtain ⟨u1, hu1, hf⟩ := bd_e hf
    refine ca_i (As := [.int x3, .int x2]) (rest := []) Fx hC (k_Pr_firstBest hu1) (cVU 2 Fx.2.2.2.2 wd_423 wd_424 wd_859 wd_6 wd_425 rfl rfl hd_Pr_firstBest ⟨Nat.le_of_ble_eq_true rfl, Nat.le_of_ble_eq_true rfl⟩) 22 rfl rfl rfl hl.1 rfl (Nat.le_of_ble_eq_true rfl) dX3_choose_18 (fun H locs hC => ?_)
    refine lv_istore (lv' := [(4, .int u1), (0, .ref (ad 22)), (1, .ref (ad 8)), (2, .int x2), (3, .int x3)]) Fx.1 Fx.2.1 dX3_choose_21 hl (by decide) rfl (fun ls hl => ?_)
    refine lv_aload_n Fx.1 Fx.2.1 dX3_choose_23 rfl (lv_at hl 1 rfl) ?_
    refine gg_Pr_finder Fx hC wd_140 dX3_choose_24 ?_
    refine lv_iload_n Fx.1 Fx.2.1 dX3_choose_27 rfl (lv_at hl 4 rfl) ?_
    obtain ⟨u2, hu2, hf⟩ := bd_e hf
    refine ca_v (As := [.int x3]) (rest := []) Fx hC (k_GF_survey hu2) (cVU 1 Fx.2.2.2.2 wd_395 wd_337 wd_338 wd_5 wd_339 rfl rfl hd_GF_survey ⟨Nat.le_of_ble_eq_true rfl, Nat.le_of_ble_eq_true rfl⟩) 13 rfl rfl rfl hl.1 rfl (Nat.le_of_ble_eq_true rfl) dX3_choose_28 (fun H locs hC => ?_)
    refine lv_aload_n Fx.1 Fx.2.1 dX3_choose_31 rfl (lv_at hl 2 rfl) ?_
    refine lv_aload_n Fx.1 Fx.2.1 dX3_choose_32 rfl (lv_at hl 1 rfl) ?_
    refine gg_Pr_finder Fx hC wd_140 dX3_choose_33 ?_
    refine lv_iload Fx.1 Fx.2.1 dX3_choose_36 (lv_at hl 0 rfl) ?_
    obtain ⟨u3, hu3, hf⟩ := bd_e hf
    refine ca_v (As := [.ref (ad 13), .int u1]) (rest := []) Fx hC (k_Pl_addFirstLeast hu3) (cVU 2 Fx.2.2.2.2 wd_426 wd_427 wd_428 wd_4 wd_429 rfl rfl hd_Pl_addFirstLeast ⟨Nat.le_of_ble_eq_true rfl, Nat.le_of_ble_eq_true rfl⟩) 8 rfl rfl rfl hl.1 rfl (Nat.le_of_ble_eq_true rfl) dX3_choose_38 (fun H locs hC => ?_)
    refine lv_iload Fx.1 Fx.2.1 dX3_choose_41 (lv_at hl 0 rfl) ?_
    refine lv_istore_n (lv' := [(2, .int u1), (4, .int u1), (0, .ref (ad 22)), (1, .ref (ad 8)), (3, .int x3)]) Fx.1 Fx.2.1 dX3_choose_43 rfl hl (by decide) rfl (fun ls hl => ?_)
    obtain ⟨v4, ev4, hf⟩ := lt_e hf
    refine lv_iinc (v := v4) (lv' := [(3, .int v4), (2, .int u1), (4, .int u1), (0, .ref (ad 22)), (1, .ref (ad 8))]) Fx.1 Fx.2.1 dX3_choose_44 hl (k := 4) rfl ev4.symm (by decide) rfl (fun ls hl => ?_)
    refine lv_goto (tgt := 4) Fx.1 Fx.2.1 dX3_choose_47 (by decide) ?_
    exact hK4 _ hf _ _ _ (lv_sub hl [3, 4, 1, 0] rfl) hC
set_option maxRecDepth 100000 in
set_option maxHeartbeats 4000000 in
theorem t_Pr_choose_L4 {p : Program} {l : Launch} {e : Env} {s : State} {m : MethodId} {args : Array Value} {below : List Frame} {meth : Method} {c : Code} {Q : State → Prop} {D : va_G} {ad : Nat → Nat} {cy : Nat → ClassId} {A : Nat → Prop} {H0 : Heap} {u : sG × sF} (Fx : CallFix p m c cX3_choose 5 s args (Cond.code yX3_choose cX3_choose 5 none :: wU) RX3) (hret : mRv p l e rm_Pr_choose s m args below meth c Q D (cT cy) (cW ad cy) A H0 cX3_choose u)  (n : Nat) (z : Int32 × Int32 × sG × sF) (hz : itr (fun K z => p_Pr_choose_L4 K z.1 z.2.1 z.2.2.1 z.2.2.2) n z = some u) : ∀ (ls : Array Slot) (H : Heap) (locs : List Loc), lv_has ls 5 [(0, .ref (ad 22)), (1, .ref (ad 8)), (2, .int z.1), (3, .int z.2.1)] → wH D (cT cy) (cW ad cy) A H0 s z.2.2.1 z.2.2.2 H locs → W p l e rm_Pr_choose s m args below meth c H locs 0 0 Q (F0 m 4 ls []) :=
  itr_all (B := fun K z => p_Pr_choose_L4 K z.1 z.2.1 z.2.2.1 z.2.2.2) (r := u) (fun z => ∀ (ls : Array Slot) (H : Heap) (locs : List Loc), lv_has ls 5 [(0, .ref (ad 22)), (1, .ref (ad 8)), (2, .int z.1), (3, .int z.2.1)] → wH D (cT cy) (cW ad cy) A H0 s z.2.2.1 z.2.2.2 H locs → W p l e rm_Pr_choose s m args below meth c H locs 0 0 Q (F0 m 4 ls [])) (fun K hK z h => s_Pr_choose_L4 (K4 := K) Fx hret hK z.1 z.2.1 z.2.2.1 z.2.2.2 h) n z hz
noncomputable def p_Pr_choose  (g : sG) (f : sF) : Option (sG × sF) := itr (fun K z => p_Pr_choose_L4 K z.1 z.2.1 z.2.2.1 z.2.2.2) FUEL ((-1 : Int32), (0 : Int32), g, f)
set_option maxRecDepth 100000 in
set_option maxHeartbeats 4000000 in
theorem k_Pr_choose {l : Launch} {D : va_G} {ad : Nat → Nat} {cy : Nat → ClassId}  {u : sG × sF} {g : sG} {f : sF} (hf : p_Pr_choose  g f = some u) : mMv l yX3_choose (Cond.code yX3_choose cX3_choose 5 none :: wU) rm_Pr_choose D (cT cy) (cW ad cy) [.ref (ad 22), .ref (ad 8)] g f u := by
  refine mk_v (by decide) rfl (Nat.le_of_ble_eq_true rfl) ?_
  intro p e s m below meth c Q A H0 Fx hret ls H locs hl hC
  replace hl : lv_has ls 5 [(0, .ref (ad 22)), (1, .ref (ad 8))] := hl
  unfold p_Pr_choose at hf
  refine lv_iconst (v := (-1 : Int32)) Fx.1 Fx.2.1 dX3_choose_0 (by decide) ?_
  refine lv_istore_n (lv' := [(2, .int (-1 : Int32)), (0, .ref (ad 22)), (1, .ref (ad 8))]) Fx.1 Fx.2.1 dX3_choose_1 rfl hl (by decide) rfl (fun ls hl => ?_)
  refine lv_iconst (v := (0 : Int32)) Fx.1 Fx.2.1 dX3_choose_2 (by decide) ?_
  refine lv_istore_n (lv' := [(3, .int (0 : Int32)), (2, .int (-1 : Int32)), (0, .ref (ad 22)), (1, .ref (ad 8))]) Fx.1 Fx.2.1 dX3_choose_3 rfl hl (by decide) rfl (fun ls hl => ?_)
  exact t_Pr_choose_L4 Fx hret _ _ hf _ _ _ (lv_sub hl [2, 3, 1, 0] rfl) hC
/-! FretHands.plan()I -/
abbrev rm_FH_plan : Room := { frames := 30, cells := 0, slots := 0, locals := 861 }
theorem hd_FH_plan : yX9_plan.cls = RX9 ∧ yX9_plan.cls ≠ "java/lang/invoke/MethodHandle" ∧ yX9_plan.cls ≠ "java/lang/invoke/VarHandle" ∧ (parseMethodDescriptor yX9_plan.desc).map (fun d => d.parameters.length) = some 0 := by decide +kernel
noncomputable def p_FH_plan  (g : sG) (f : sF) : Option (Int32 × sG × sF) := (if (g 3) = 0 then some ((-4 : Int32), g, f) else Option.bind (p_Pl_forget  g f) (fun u1 => Option.bind (p_Pr_search  u1.1 u1.2) (fun u2 => (if (u2.1 10) = (-1 : Int32) then some (u2.1 10, u2.1, u2.2) else Option.bind (p_Pr_choose  u2.1 u2.2) (fun u3 => some (u3.1 10, u3.1, u3.2))))))
set_option maxRecDepth 100000 in
set_option maxHeartbeats 4000000 in
theorem k_FH_plan {l : Launch} {D : va_G} {ad : Nat → Nat} {cy : Nat → ClassId}  {u : Int32 × sG × sF} {g : sG} {f : sF} (hf : p_FH_plan  g f = some u) : mMi l yX9_plan (Cond.code yX9_plan cX9_plan 1 (some .int) :: wU) rm_FH_plan D (cT cy) (cW ad cy) [.ref (ad 0)] g f u := by
  refine mk_i (by decide) rfl (Nat.le_of_ble_eq_true rfl) ?_
  intro p e s m below meth c Q A H0 Fx hret ls H locs hl hC
  replace hl : lv_has ls 1 [(0, .ref (ad 0))] := hl
  unfold p_FH_plan at hf
  refine lv_aload_n Fx.1 Fx.2.1 dX9_plan_0 rfl (lv_at hl 0 rfl) ?_
  refine gg_FH_tune Fx hC wd_204 dX9_plan_1 ?_
  refine gg_Tu_events Fx hC wd_59 dX9_plan_4 ?_
  refine lv_if_ne (tgt := 13) Fx.1 Fx.2.1 dX9_plan_7 (by decide) (fun hc => ?_) (fun hc => ?_)
  · replace hf := iff_ hc hf
    refine lv_aload_n Fx.1 Fx.2.1 dX9_plan_13 rfl (lv_at hl 0 rfl) ?_
    refine gg_FH_latest Fx hC wd_205 dX9_plan_14 ?_
    obtain ⟨u1, hu1, hf⟩ := bd_e hf
    refine ca_v (As := []) (rest := []) Fx hC (k_Pl_forget hu1) (cVU 0 Fx.2.2.2.2 wd_228 wd_229 wd_230 wd_4 wd_231 rfl rfl hd_Pl_forget ⟨Nat.le_of_ble_eq_true rfl, Nat.le_of_ble_eq_true rfl⟩) 8 rfl rfl rfl hl.1 rfl (Nat.le_of_ble_eq_true rfl) dX9_plan_17 (fun H locs hC => ?_)
    refine lv_aload_n Fx.1 Fx.2.1 dX9_plan_20 rfl (lv_at hl 0 rfl) ?_
    refine gg_FH_planner Fx hC wd_207 dX9_plan_21 ?_
    obtain ⟨u2, hu2, hf⟩ := bd_e hf
    refine ca_v (As := []) (rest := []) Fx hC (k_Pr_search hu2) (cVU 0 Fx.2.2.2.2 wd_391 wd_392 wd_393 wd_6 wd_394 rfl rfl hd_Pr_search ⟨Nat.le_of_ble_eq_true rfl, Nat.le_of_ble_eq_true rfl⟩) 22 rfl rfl rfl hl.1 rfl (Nat.le_of_ble_eq_true rfl) dX9_plan_24 (fun H locs hC => ?_)
    refine lv_aload_n Fx.1 Fx.2.1 dX9_plan_27 rfl (lv_at hl 0 rfl) ?_
    refine gg_FH_planner Fx hC wd_207 dX9_plan_28 ?_
    refine gg_Pr_leastSum Fx hC wd_144 dX9_plan_31 ?_
    refine lv_iconst (v := (-1 : Int32)) Fx.1 Fx.2.1 dX9_plan_34 (by decide) ?_
    refine lv_icmp_eq (tgt := 49) Fx.1 Fx.2.1 dX9_plan_35 (by decide) (fun hc => ?_) (fun hc => ?_)
    · replace hf := ift hc hf
      refine lv_aload_n Fx.1 Fx.2.1 dX9_plan_49 rfl (lv_at hl 0 rfl) ?_
      refine gg_FH_planner Fx hC wd_207 dX9_plan_50 ?_
      refine gg_Pr_leastSum Fx hC wd_144 dX9_plan_53 ?_
      obtain rfl := Option.some.inj hf
      exact hret _ _ _ _ dX9_plan_56 hC
    · replace hf := iff_ hc hf
      refine lv_aload_n Fx.1 Fx.2.1 dX9_plan_38 rfl (lv_at hl 0 rfl) ?_
      refine gg_FH_planner Fx hC wd_207 dX9_plan_39 ?_
      refine lv_aload_n Fx.1 Fx.2.1 dX9_plan_42 rfl (lv_at hl 0 rfl) ?_
      refine gg_FH_latest Fx hC wd_205 dX9_plan_43 ?_
      obtain ⟨u3, hu3, hf⟩ := bd_e hf
      refine ca_v (As := [.ref (ad 8)]) (rest := []) Fx hC (k_Pr_choose hu3) (cVU 1 Fx.2.2.2.2 wd_419 wd_420 wd_421 wd_6 wd_422 rfl rfl hd_Pr_choose ⟨Nat.le_of_ble_eq_true rfl, Nat.le_of_ble_eq_true rfl⟩) 22 rfl rfl rfl hl.1 rfl (Nat.le_of_ble_eq_true rfl) dX9_plan_46 (fun H locs hC => ?_)
      refine lv_aload_n Fx.1 Fx.2.1 dX9_plan_49 rfl (lv_at hl 0 rfl) ?_
      refine gg_FH_planner Fx hC wd_207 dX9_plan_50 ?_
      refine gg_Pr_leastSum Fx hC wd_144 dX9_plan_53 ?_
      obtain rfl := Option.some.inj hf
      exact hret _ _ _ _ dX9_plan_56 hC
  · replace hf := ift hc hf
    refine lv_bipush (v := (-4 : Int32)) Fx.1 Fx.2.1 dX9_plan_10 (by decide) ?_
    obtain rfl := Option.some.inj hf
    exact hret _ _ _ _ dX9_plan_12 hC
/-! FretHands$Plan.hasEvent(I)Z -/
abbrev rm_Pl_hasEvent : Room := { frames := 0, cells := 0, slots := 0, locals := 0 }
theorem hd_Pl_hasEvent : yX2_hasEvent.cls = RX2 ∧ yX2_hasEvent.cls ≠ "java/lang/invoke/MethodHandle" ∧ yX2_hasEvent.cls ≠ "java/lang/invoke/VarHandle" ∧ (parseMethodDescriptor yX2_hasEvent.desc).map (fun d => d.parameters.length) = some 1 := by decide +kernel
noncomputable def p_Pl_hasEvent (a1 : Int32) (g : sG) (f : sF) : Option (Int32) := (if a1 < 0 then some (0 : Int32) else (if (g 4) ≤ a1 then some (0 : Int32) else some (1 : Int32)))
set_option maxRecDepth 100000 in
set_option maxHeartbeats 4000000 in
theorem k_Pl_hasEvent {l : Launch} {D : va_G} {ad : Nat → Nat} {cy : Nat → ClassId} {a1 : Int32} {r : Int32} {g : sG} {f : sF} (hf : p_Pl_hasEvent a1 g f = some r) : mMi l yX2_hasEvent (Cond.code yX2_hasEvent cX2_hasEvent 2 (some .boolean) :: wU) rm_Pl_hasEvent D (cT cy) (cW ad cy) [.ref (ad 8), .int a1] g f (r, g, f) := by
  refine mk_z (by decide) rfl (Nat.le_of_ble_eq_true rfl) ?_
  intro p e s m below meth c Q A H0 Fx hret ls H locs hl hC
  replace hl : lv_has ls 2 [(0, .ref (ad 8)), (1, .int a1)] := hl
  unfold p_Pl_hasEvent at hf
  refine lv_iload_n Fx.1 Fx.2.1 dX2_hasEvent_0 rfl (lv_at hl 1 rfl) ?_
  refine lv_if_lt (tgt := 16) Fx.1 Fx.2.1 dX2_hasEvent_1 (by decide) (fun hc => ?_) (fun hc => ?_)
  · replace hf := ift hc hf
    refine lv_iconst (v := (0 : Int32)) Fx.1 Fx.2.1 dX2_hasEvent_16 (by decide) ?_
    obtain rfl := Option.some.inj hf
    exact hret _ _ _ _ dX2_hasEvent_17 z01_0 hC
  · replace hf := iff_ hc hf
    refine lv_iload_n Fx.1 Fx.2.1 dX2_hasEvent_4 rfl (lv_at hl 1 rfl) ?_
    refine lv_aload_n Fx.1 Fx.2.1 dX2_hasEvent_5 rfl (lv_at hl 0 rfl) ?_
    refine gg_Pl_events Fx hC wd_79 dX2_hasEvent_6 ?_
    refine lv_icmp_ge (tgt := 16) Fx.1 Fx.2.1 dX2_hasEvent_9 (by decide) (fun hc => ?_) (fun hc => ?_)
    · replace hf := ift hc hf
      refine lv_iconst (v := (0 : Int32)) Fx.1 Fx.2.1 dX2_hasEvent_16 (by decide) ?_
      obtain rfl := Option.some.inj hf
      exact hret _ _ _ _ dX2_hasEvent_17 z01_0 hC
    · replace hf := iff_ hc hf
      refine lv_iconst (v := (1 : Int32)) Fx.1 Fx.2.1 dX2_hasEvent_12 (by decide) ?_
      refine lv_goto (tgt := 17) Fx.1 Fx.2.1 dX2_hasEvent_13 (by decide) ?_
      obtain rfl := Option.some.inj hf
      exact hret _ _ _ _ dX2_hasEvent_17 z01_1 hC
/-! FretHands.planned(II)I -/
abbrev rm_FH_planned : Room := { frames := 3, cells := 0, slots := 0, locals := 68 }
theorem hd_FH_planned : yX9_planned.cls = RX9 ∧ yX9_planned.cls ≠ "java/lang/invoke/MethodHandle" ∧ yX9_planned.cls ≠ "java/lang/invoke/VarHandle" ∧ (parseMethodDescriptor yX9_planned.desc).map (fun d => d.parameters.length) = some 2 := by decide +kernel
noncomputable def p_FH_planned (a1 : Int32) (a2 : Int32) (g : sG) (f : sF) : Option (Int32) := (if a2 < 0 then some (-2 : Int32) else (if a2 ≤ (6 : Int32) then Option.bind (p_Pl_hasEvent a1 g f) (fun u1 => (if u1 = 0 then some (-1 : Int32) else (if a2 = (6 : Int32) then (if a1 < 0 ∨ 40 ≤ a1.toNatClampNeg then none else some (f 8 a1.toNatClampNeg)) else (if a1 < 0 ∨ 40 ≤ a1.toNatClampNeg then none else (if a1 < 0 ∨ 40 ≤ a1.toNatClampNeg then none else (if a1 < 0 ∨ 40 ≤ a1.toNatClampNeg then none else Option.bind (p_FH_partOf a1 a2 (f 5 a1.toNatClampNeg) (f 6 a1.toNatClampNeg) (f 7 a1.toNatClampNeg) g f) (fun u5 => some u5))))))) else some (-2 : Int32)))
set_option maxRecDepth 100000 in
set_option maxHeartbeats 4000000 in
theorem k_FH_planned {l : Launch} {D : va_G} {ad : Nat → Nat} {cy : Nat → ClassId} {a1 : Int32} {a2 : Int32} {r : Int32} {g : sG} {f : sF} (hf : p_FH_planned a1 a2 g f = some r) : mMi l yX9_planned (Cond.code yX9_planned cX9_planned 3 (some .int) :: wU) rm_FH_planned D (cT cy) (cW ad cy) [.ref (ad 0), .int a1, .int a2] g f (r, g, f) := by
  refine mk_i (by decide) rfl (Nat.le_of_ble_eq_true rfl) ?_
  intro p e s m below meth c Q A H0 Fx hret ls H locs hl hC
  replace hl : lv_has ls 3 [(0, .ref (ad 0)), (1, .int a1), (2, .int a2)] := hl
  unfold p_FH_planned at hf
  refine lv_iload_n Fx.1 Fx.2.1 dX9_planned_0 rfl (lv_at hl 2 rfl) ?_
  refine lv_if_lt (tgt := 10) Fx.1 Fx.2.1 dX9_planned_1 (by decide) (fun hc => ?_) (fun hc => ?_)
  · replace hf := ift hc hf
    refine lv_bipush (v := (-2 : Int32)) Fx.1 Fx.2.1 dX9_planned_10 (by decide) ?_
    obtain rfl := Option.some.inj hf
    exact hret _ _ _ _ dX9_planned_12 hC
  · replace hf := iff_ hc hf
    refine lv_iload_n Fx.1 Fx.2.1 dX9_planned_4 rfl (lv_at hl 2 rfl) ?_
    refine lv_bipush (v := (6 : Int32)) Fx.1 Fx.2.1 dX9_planned_5 (by decide) ?_
    refine lv_icmp_le (tgt := 13) Fx.1 Fx.2.1 dX9_planned_7 (by decide) (fun hc => ?_) (fun hc => ?_)
    · replace hf := ift hc hf
      refine lv_aload_n Fx.1 Fx.2.1 dX9_planned_13 rfl (lv_at hl 0 rfl) ?_
      refine gg_FH_latest Fx hC wd_205 dX9_planned_14 ?_
      refine lv_iload_n Fx.1 Fx.2.1 dX9_planned_17 rfl (lv_at hl 1 rfl) ?_
      obtain ⟨u1, hu1, hf⟩ := bd_e hf
      refine ca_i (As := [.int a1]) (rest := []) Fx hC (k_Pl_hasEvent hu1) (cVU 1 Fx.2.2.2.2 wd_439 wd_440 wd_441 wd_4 wd_442 rfl rfl hd_Pl_hasEvent ⟨Nat.le_of_ble_eq_true rfl, Nat.le_of_ble_eq_true rfl⟩) 8 rfl rfl rfl hl.1 rfl (Nat.le_of_ble_eq_true rfl) dX9_planned_18 (fun H locs hC => ?_)
      refine lv_if_ne (tgt := 26) Fx.1 Fx.2.1 dX9_planned_21 (by decide) (fun hc => ?_) (fun hc => ?_)
      · replace hf := iff_ hc hf
        refine lv_iload_n Fx.1 Fx.2.1 dX9_planned_26 rfl (lv_at hl 2 rfl) ?_
        refine lv_bipush (v := (6 : Int32)) Fx.1 Fx.2.1 dX9_planned_27 (by decide) ?_
        refine lv_icmp_ne (tgt := 42) Fx.1 Fx.2.1 dX9_planned_29 (by decide) (fun hc => ?_) (fun hc => ?_)
        · replace hf := iff_ hc hf
          refine lv_aload_n Fx.1 Fx.2.1 dX9_planned_42 rfl (lv_at hl 0 rfl) ?_
          refine lv_iload_n Fx.1 Fx.2.1 dX9_planned_43 rfl (lv_at hl 1 rfl) ?_
          refine lv_iload_n Fx.1 Fx.2.1 dX9_planned_44 rfl (lv_at hl 2 rfl) ?_
          refine lv_aload_n Fx.1 Fx.2.1 dX9_planned_45 rfl (lv_at hl 0 rfl) ?_
          refine gg_FH_latest Fx hC wd_205 dX9_planned_46 ?_
          refine gg_Pl_positions Fx hC wd_71 dX9_planned_49 ?_
          refine lv_iload_n Fx.1 Fx.2.1 dX9_planned_52 rfl (lv_at hl 1 rfl) ?_
          obtain ⟨hi2, hf⟩ := gd_e hf
          refine ld_Pl_positions Fx hC hi2 dX9_planned_53 ?_
          refine lv_aload_n Fx.1 Fx.2.1 dX9_planned_54 rfl (lv_at hl 0 rfl) ?_
          refine gg_FH_latest Fx hC wd_205 dX9_planned_55 ?_
          refine gg_Pl_strings Fx hC wd_74 dX9_planned_58 ?_
          refine lv_iload_n Fx.1 Fx.2.1 dX9_planned_61 rfl (lv_at hl 1 rfl) ?_
          obtain ⟨hi3, hf⟩ := gd_e hf
          refine ld_Pl_strings Fx hC hi3 dX9_planned_62 ?_
          refine lv_aload_n Fx.1 Fx.2.1 dX9_planned_63 rfl (lv_at hl 0 rfl) ?_
          refine gg_FH_latest Fx hC wd_205 dX9_planned_64 ?_
          refine gg_Pl_costs Fx hC wd_76 dX9_planned_67 ?_
          refine lv_iload_n Fx.1 Fx.2.1 dX9_planned_70 rfl (lv_at hl 1 rfl) ?_
          obtain ⟨hi4, hf⟩ := gd_e hf
          refine ld_Pl_costs Fx hC hi4 dX9_planned_71 ?_
          obtain ⟨u5, hu5, hf⟩ := bd_e hf
          refine ca_i (As := [.int a1, .int a2, .int (f 5 a1.toNatClampNeg), .int (f 6 a1.toNatClampNeg), .int (f 7 a1.toNatClampNeg)]) (rest := []) Fx hC (k_FH_partOf hu5) (cVU 5 Fx.2.2.2.2 wd_381 wd_382 wd_854 wd_1 wd_383 rfl rfl hd_FH_partOf ⟨Nat.le_of_ble_eq_true rfl, Nat.le_of_ble_eq_true rfl⟩) 0 rfl rfl rfl hl.1 rfl (Nat.le_of_ble_eq_true rfl) dX9_planned_72 (fun H locs hC => ?_)
          obtain rfl := Option.some.inj hf
          exact hret _ _ _ _ dX9_planned_75 hC
        · replace hf := ift hc hf
          refine lv_aload_n Fx.1 Fx.2.1 dX9_planned_32 rfl (lv_at hl 0 rfl) ?_
          refine gg_FH_latest Fx hC wd_205 dX9_planned_33 ?_
          refine gg_Pl_numbers Fx hC wd_78 dX9_planned_36 ?_
          refine lv_iload_n Fx.1 Fx.2.1 dX9_planned_39 rfl (lv_at hl 1 rfl) ?_
          obtain ⟨hi6, hf⟩ := gd_e hf
          refine ld_Pl_numbers Fx hC hi6 dX9_planned_40 ?_
          obtain rfl := Option.some.inj hf
          exact hret _ _ _ _ dX9_planned_41 hC
      · replace hf := ift hc hf
        refine lv_iconst (v := (-1 : Int32)) Fx.1 Fx.2.1 dX9_planned_24 (by decide) ?_
        obtain rfl := Option.some.inj hf
        exact hret _ _ _ _ dX9_planned_25 hC
    · replace hf := iff_ hc hf
      refine lv_bipush (v := (-2 : Int32)) Fx.1 Fx.2.1 dX9_planned_10 (by decide) ?_
      obtain rfl := Option.some.inj hf
      exact hret _ _ _ _ dX9_planned_12 hC
/-! FretHands.ties()I -/
abbrev rm_FH_ties : Room := { frames := 30, cells := 0, slots := 0, locals := 859 }
theorem hd_FH_ties : yX9_ties.cls = RX9 ∧ yX9_ties.cls ≠ "java/lang/invoke/MethodHandle" ∧ yX9_ties.cls ≠ "java/lang/invoke/VarHandle" ∧ (parseMethodDescriptor yX9_ties.desc).map (fun d => d.parameters.length) = some 0 := by decide +kernel
noncomputable def p_FH_ties  (g : sG) (f : sF) : Option (Int32 × sG × sF) := (if (g 3) = 0 then some ((-4 : Int32), g, f) else Option.bind (p_Pr_search  g f) (fun u1 => (if (u1.1 10) = (-1 : Int32) then some ((0 : Int32), u1.1, u1.2) else some (u1.1 11, u1.1, u1.2))))
set_option maxRecDepth 100000 in
set_option maxHeartbeats 4000000 in
theorem k_FH_ties {l : Launch} {D : va_G} {ad : Nat → Nat} {cy : Nat → ClassId}  {u : Int32 × sG × sF} {g : sG} {f : sF} (hf : p_FH_ties  g f = some u) : mMi l yX9_ties (Cond.code yX9_ties cX9_ties 1 (some .int) :: wU) rm_FH_ties D (cT cy) (cW ad cy) [.ref (ad 0)] g f u := by
  refine mk_i (by decide) rfl (Nat.le_of_ble_eq_true rfl) ?_
  intro p e s m below meth c Q A H0 Fx hret ls H locs hl hC
  replace hl : lv_has ls 1 [(0, .ref (ad 0))] := hl
  unfold p_FH_ties at hf
  refine lv_aload_n Fx.1 Fx.2.1 dX9_ties_0 rfl (lv_at hl 0 rfl) ?_
  refine gg_FH_tune Fx hC wd_204 dX9_ties_1 ?_
  refine gg_Tu_events Fx hC wd_59 dX9_ties_4 ?_
  refine lv_if_ne (tgt := 13) Fx.1 Fx.2.1 dX9_ties_7 (by decide) (fun hc => ?_) (fun hc => ?_)
  · replace hf := iff_ hc hf
    refine lv_aload_n Fx.1 Fx.2.1 dX9_ties_13 rfl (lv_at hl 0 rfl) ?_
    refine gg_FH_planner Fx hC wd_207 dX9_ties_14 ?_
    obtain ⟨u1, hu1, hf⟩ := bd_e hf
    refine ca_v (As := []) (rest := []) Fx hC (k_Pr_search hu1) (cVU 0 Fx.2.2.2.2 wd_391 wd_392 wd_393 wd_6 wd_394 rfl rfl hd_Pr_search ⟨Nat.le_of_ble_eq_true rfl, Nat.le_of_ble_eq_true rfl⟩) 22 rfl rfl rfl hl.1 rfl (Nat.le_of_ble_eq_true rfl) dX9_ties_17 (fun H locs hC => ?_)
    refine lv_aload_n Fx.1 Fx.2.1 dX9_ties_20 rfl (lv_at hl 0 rfl) ?_
    refine gg_FH_planner Fx hC wd_207 dX9_ties_21 ?_
    refine gg_Pr_leastSum Fx hC wd_144 dX9_ties_24 ?_
    refine lv_iconst (v := (-1 : Int32)) Fx.1 Fx.2.1 dX9_ties_27 (by decide) ?_
    refine lv_icmp_ne (tgt := 35) Fx.1 Fx.2.1 dX9_ties_28 (by decide) (fun hc => ?_) (fun hc => ?_)
    · replace hf := iff_ hc hf
      refine lv_aload_n Fx.1 Fx.2.1 dX9_ties_35 rfl (lv_at hl 0 rfl) ?_
      refine gg_FH_planner Fx hC wd_207 dX9_ties_36 ?_
      refine gg_Pr_leastWays Fx hC wd_146 dX9_ties_39 ?_
      obtain rfl := Option.some.inj hf
      exact hret _ _ _ _ dX9_ties_42 hC
    · replace hf := ift hc hf
      refine lv_iconst (v := (0 : Int32)) Fx.1 Fx.2.1 dX9_ties_31 (by decide) ?_
      refine lv_goto (tgt := 42) Fx.1 Fx.2.1 dX9_ties_32 (by decide) ?_
      obtain rfl := Option.some.inj hf
      exact hret _ _ _ _ dX9_ties_42 hC
  · replace hf := ift hc hf
    refine lv_bipush (v := (-4 : Int32)) Fx.1 Fx.2.1 dX9_ties_10 (by decide) ?_
    obtain rfl := Option.some.inj hf
    exact hret _ _ _ _ dX9_ties_12 hC
/-! FretHands$Tape.add(I)Z -/
abbrev rm_Ta_add : Room := { frames := 0, cells := 0, slots := 0, locals := 0 }
theorem hd_Ta_add : yX7_add.cls = RX7 ∧ yX7_add.cls ≠ "java/lang/invoke/MethodHandle" ∧ yX7_add.cls ≠ "java/lang/invoke/VarHandle" ∧ (parseMethodDescriptor yX7_add.desc).map (fun d => d.parameters.length) = some 1 := by decide +kernel
noncomputable def p_Ta_add (a1 : Int32) (g : sG) (f : sF) : Option (Int32 × sG × sF) := (if (g 12) < (2000 : Int32) then (if (g 12) < 0 ∨ 2000 ≤ (g 12).toNatClampNeg then none else lt_ (up2 f 19 (g 12).toNatClampNeg a1) (fun f2 => lt_ (upd g 12 ((g 12) + (1 : Int32))) (fun g3 => some ((1 : Int32), g3, f2)))) else some ((0 : Int32), g, f))
set_option maxRecDepth 100000 in
set_option maxHeartbeats 4000000 in
theorem k_Ta_add {l : Launch} {D : va_G} {ad : Nat → Nat} {cy : Nat → ClassId} {a1 : Int32} {u : Int32 × sG × sF} {g : sG} {f : sF} (hf : p_Ta_add a1 g f = some u) : mMi l yX7_add (Cond.code yX7_add cX7_add 2 (some .boolean) :: wU) rm_Ta_add D (cT cy) (cW ad cy) [.ref (ad 25), .int a1] g f u := by
  refine mk_z (by decide) rfl (Nat.le_of_ble_eq_true rfl) ?_
  intro p e s m below meth c Q A H0 Fx hret ls H locs hl hC
  replace hl : lv_has ls 2 [(0, .ref (ad 25)), (1, .int a1)] := hl
  unfold p_Ta_add at hf
  refine lv_aload_n Fx.1 Fx.2.1 dX7_add_0 rfl (lv_at hl 0 rfl) ?_
  refine gg_Ta_size Fx hC wd_161 dX7_add_1 ?_
  refine lv_sipush (v := (2000 : Int32)) Fx.1 Fx.2.1 dX7_add_4 (by decide) ?_
  refine lv_icmp_lt (tgt := 12) Fx.1 Fx.2.1 dX7_add_7 (by decide) (fun hc => ?_) (fun hc => ?_)
  · replace hf := ift hc hf
    refine lv_aload_n Fx.1 Fx.2.1 dX7_add_12 rfl (lv_at hl 0 rfl) ?_
    refine gg_Ta_row Fx hC wd_160 dX7_add_13 ?_
    refine lv_aload_n Fx.1 Fx.2.1 dX7_add_16 rfl (lv_at hl 0 rfl) ?_
    refine gg_Ta_size Fx hC wd_161 dX7_add_17 ?_
    refine lv_iload_n Fx.1 Fx.2.1 dX7_add_20 rfl (lv_at hl 1 rfl) ?_
    obtain ⟨hi1, hf⟩ := gd_e hf
    obtain ⟨f2, ef2, hf⟩ := lt_e hf
    refine st_Ta_row Fx hC hi1 ef2 dX7_add_21 (fun H locs hC => ?_)
    refine lv_aload_n Fx.1 Fx.2.1 dX7_add_22 rfl (lv_at hl 0 rfl) ?_
    refine lv_dup Fx.1 Fx.2.1 dX7_add_23 rfl ?_
    refine gg_Ta_size Fx hC wd_161 dX7_add_24 ?_
    refine lv_iconst (v := (1 : Int32)) Fx.1 Fx.2.1 dX7_add_27 (by decide) ?_
    refine lv_iadd Fx.1 Fx.2.1 dX7_add_28 ?_
    obtain ⟨g3, eg3, hf⟩ := lt_e hf
    refine gp_Ta_size Fx hC wd_161 eg3 dX7_add_29 (fun H locs hC => ?_)
    refine lv_iconst (v := (1 : Int32)) Fx.1 Fx.2.1 dX7_add_32 (by decide) ?_
    obtain rfl := Option.some.inj hf
    exact hret _ _ _ _ dX7_add_33 z01_1 hC
  · replace hf := iff_ hc hf
    refine lv_iconst (v := (0 : Int32)) Fx.1 Fx.2.1 dX7_add_10 (by decide) ?_
    obtain rfl := Option.some.inj hf
    exact hret _ _ _ _ dX7_add_11 z01_0 hC
/-! FretHands.sign(I)I -/
abbrev rm_FH_sign : Room := { frames := 1, cells := 0, slots := 0, locals := 21 }
theorem hd_FH_sign : yX9_sign.cls = RX9 ∧ yX9_sign.cls ≠ "java/lang/invoke/MethodHandle" ∧ yX9_sign.cls ≠ "java/lang/invoke/VarHandle" ∧ (parseMethodDescriptor yX9_sign.desc).map (fun d => d.parameters.length) = some 1 := by decide +kernel
noncomputable def p_FH_sign (a1 : Int32) (g : sG) (f : sF) : Option (Int32 × sG × sF) := (if a1 < (1 : Int32) then some ((-2 : Int32), g, f) else (if a1 ≤ (127 : Int32) then Option.bind (p_Ta_add a1 g f) (fun u1 => (if u1.1 = 0 then some ((-5 : Int32), u1.2.1, u1.2.2) else some (u1.2.1 12, u1.2.1, u1.2.2))) else some ((-2 : Int32), g, f)))
set_option maxRecDepth 100000 in
set_option maxHeartbeats 4000000 in
theorem k_FH_sign {l : Launch} {D : va_G} {ad : Nat → Nat} {cy : Nat → ClassId} {a1 : Int32} {u : Int32 × sG × sF} {g : sG} {f : sF} (hf : p_FH_sign a1 g f = some u) : mMi l yX9_sign (Cond.code yX9_sign cX9_sign 2 (some .int) :: wU) rm_FH_sign D (cT cy) (cW ad cy) [.ref (ad 0), .int a1] g f u := by
  refine mk_i (by decide) rfl (Nat.le_of_ble_eq_true rfl) ?_
  intro p e s m below meth c Q A H0 Fx hret ls H locs hl hC
  replace hl : lv_has ls 2 [(0, .ref (ad 0)), (1, .int a1)] := hl
  unfold p_FH_sign at hf
  refine lv_iload_n Fx.1 Fx.2.1 dX9_sign_0 rfl (lv_at hl 1 rfl) ?_
  refine lv_iconst (v := (1 : Int32)) Fx.1 Fx.2.1 dX9_sign_1 (by decide) ?_
  refine lv_icmp_lt (tgt := 11) Fx.1 Fx.2.1 dX9_sign_2 (by decide) (fun hc => ?_) (fun hc => ?_)
  · replace hf := ift hc hf
    refine lv_bipush (v := (-2 : Int32)) Fx.1 Fx.2.1 dX9_sign_11 (by decide) ?_
    obtain rfl := Option.some.inj hf
    exact hret _ _ _ _ dX9_sign_13 hC
  · replace hf := iff_ hc hf
    refine lv_iload_n Fx.1 Fx.2.1 dX9_sign_5 rfl (lv_at hl 1 rfl) ?_
    refine lv_bipush (v := (127 : Int32)) Fx.1 Fx.2.1 dX9_sign_6 (by decide) ?_
    refine lv_icmp_le (tgt := 14) Fx.1 Fx.2.1 dX9_sign_8 (by decide) (fun hc => ?_) (fun hc => ?_)
    · replace hf := ift hc hf
      refine lv_aload_n Fx.1 Fx.2.1 dX9_sign_14 rfl (lv_at hl 0 rfl) ?_
      refine gg_FH_signs Fx hC wd_208 dX9_sign_15 ?_
      refine lv_iload_n Fx.1 Fx.2.1 dX9_sign_18 rfl (lv_at hl 1 rfl) ?_
      obtain ⟨u1, hu1, hf⟩ := bd_e hf
      refine ca_i (As := [.int a1]) (rest := []) Fx hC (k_Ta_add hu1) (cVU 1 Fx.2.2.2.2 wd_451 wd_452 wd_453 wd_7 wd_454 rfl rfl hd_Ta_add ⟨Nat.le_of_ble_eq_true rfl, Nat.le_of_ble_eq_true rfl⟩) 25 rfl rfl rfl hl.1 rfl (Nat.le_of_ble_eq_true rfl) dX9_sign_19 (fun H locs hC => ?_)
      refine lv_if_eq (tgt := 35) Fx.1 Fx.2.1 dX9_sign_22 (by decide) (fun hc => ?_) (fun hc => ?_)
      · replace hf := ift hc hf
        refine lv_bipush (v := (-5 : Int32)) Fx.1 Fx.2.1 dX9_sign_35 (by decide) ?_
        obtain rfl := Option.some.inj hf
        exact hret _ _ _ _ dX9_sign_37 hC
      · replace hf := iff_ hc hf
        refine lv_aload_n Fx.1 Fx.2.1 dX9_sign_25 rfl (lv_at hl 0 rfl) ?_
        refine gg_FH_signs Fx hC wd_208 dX9_sign_26 ?_
        refine gg_Ta_size Fx hC wd_164 dX9_sign_29 ?_
        refine lv_goto (tgt := 37) Fx.1 Fx.2.1 dX9_sign_32 (by decide) ?_
        obtain rfl := Option.some.inj hf
        exact hret _ _ _ _ dX9_sign_37 hC
    · replace hf := iff_ hc hf
      refine lv_bipush (v := (-2 : Int32)) Fx.1 Fx.2.1 dX9_sign_11 (by decide) ?_
      obtain rfl := Option.some.inj hf
      exact hret _ _ _ _ dX9_sign_13 hC
/-! FretHands$Tape.signAt(I)I -/
abbrev rm_Ta_signAt : Room := { frames := 0, cells := 0, slots := 0, locals := 0 }
theorem hd_Ta_signAt : yX7_signAt.cls = RX7 ∧ yX7_signAt.cls ≠ "java/lang/invoke/MethodHandle" ∧ yX7_signAt.cls ≠ "java/lang/invoke/VarHandle" ∧ (parseMethodDescriptor yX7_signAt.desc).map (fun d => d.parameters.length) = some 1 := by decide +kernel
noncomputable def p_Ta_signAt (a1 : Int32) (g : sG) (f : sF) : Option (Int32) := (if a1 < 0 then some (-1 : Int32) else (if (g 12) ≤ a1 then some (-1 : Int32) else (if a1 < 0 ∨ 2000 ≤ a1.toNatClampNeg then none else some (f 19 a1.toNatClampNeg))))
set_option maxRecDepth 100000 in
set_option maxHeartbeats 4000000 in
theorem k_Ta_signAt {l : Launch} {D : va_G} {ad : Nat → Nat} {cy : Nat → ClassId} {a1 : Int32} {r : Int32} {g : sG} {f : sF} (hf : p_Ta_signAt a1 g f = some r) : mMi l yX7_signAt (Cond.code yX7_signAt cX7_signAt 2 (some .int) :: wU) rm_Ta_signAt D (cT cy) (cW ad cy) [.ref (ad 25), .int a1] g f (r, g, f) := by
  refine mk_i (by decide) rfl (Nat.le_of_ble_eq_true rfl) ?_
  intro p e s m below meth c Q A H0 Fx hret ls H locs hl hC
  replace hl : lv_has ls 2 [(0, .ref (ad 25)), (1, .int a1)] := hl
  unfold p_Ta_signAt at hf
  refine lv_iload_n Fx.1 Fx.2.1 dX7_signAt_0 rfl (lv_at hl 1 rfl) ?_
  refine lv_if_lt (tgt := 21) Fx.1 Fx.2.1 dX7_signAt_1 (by decide) (fun hc => ?_) (fun hc => ?_)
  · replace hf := ift hc hf
    refine lv_iconst (v := (-1 : Int32)) Fx.1 Fx.2.1 dX7_signAt_21 (by decide) ?_
    obtain rfl := Option.some.inj hf
    exact hret _ _ _ _ dX7_signAt_22 hC
  · replace hf := iff_ hc hf
    refine lv_iload_n Fx.1 Fx.2.1 dX7_signAt_4 rfl (lv_at hl 1 rfl) ?_
    refine lv_aload_n Fx.1 Fx.2.1 dX7_signAt_5 rfl (lv_at hl 0 rfl) ?_
    refine gg_Ta_size Fx hC wd_161 dX7_signAt_6 ?_
    refine lv_icmp_ge (tgt := 21) Fx.1 Fx.2.1 dX7_signAt_9 (by decide) (fun hc => ?_) (fun hc => ?_)
    · replace hf := ift hc hf
      refine lv_iconst (v := (-1 : Int32)) Fx.1 Fx.2.1 dX7_signAt_21 (by decide) ?_
      obtain rfl := Option.some.inj hf
      exact hret _ _ _ _ dX7_signAt_22 hC
    · replace hf := iff_ hc hf
      refine lv_aload_n Fx.1 Fx.2.1 dX7_signAt_12 rfl (lv_at hl 0 rfl) ?_
      refine gg_Ta_row Fx hC wd_160 dX7_signAt_13 ?_
      refine lv_iload_n Fx.1 Fx.2.1 dX7_signAt_16 rfl (lv_at hl 1 rfl) ?_
      obtain ⟨hi1, hf⟩ := gd_e hf
      refine ld_Ta_row Fx hC hi1 dX7_signAt_17 ?_
      refine lv_goto (tgt := 22) Fx.1 Fx.2.1 dX7_signAt_18 (by decide) ?_
      obtain rfl := Option.some.inj hf
      exact hret _ _ _ _ dX7_signAt_22 hC
/-! FretHands.tape(I)I -/
abbrev rm_FH_tape : Room := { frames := 1, cells := 0, slots := 0, locals := 21 }
theorem hd_FH_tape : yX9_tape.cls = RX9 ∧ yX9_tape.cls ≠ "java/lang/invoke/MethodHandle" ∧ yX9_tape.cls ≠ "java/lang/invoke/VarHandle" ∧ (parseMethodDescriptor yX9_tape.desc).map (fun d => d.parameters.length) = some 1 := by decide +kernel
noncomputable def p_FH_tape (a1 : Int32) (g : sG) (f : sF) : Option (Int32) := Option.bind (p_Ta_signAt a1 g f) (fun u1 => some u1)
set_option maxRecDepth 100000 in
set_option maxHeartbeats 4000000 in
theorem k_FH_tape {l : Launch} {D : va_G} {ad : Nat → Nat} {cy : Nat → ClassId} {a1 : Int32} {r : Int32} {g : sG} {f : sF} (hf : p_FH_tape a1 g f = some r) : mMi l yX9_tape (Cond.code yX9_tape cX9_tape 2 (some .int) :: wU) rm_FH_tape D (cT cy) (cW ad cy) [.ref (ad 0), .int a1] g f (r, g, f) := by
  refine mk_i (by decide) rfl (Nat.le_of_ble_eq_true rfl) ?_
  intro p e s m below meth c Q A H0 Fx hret ls H locs hl hC
  replace hl : lv_has ls 2 [(0, .ref (ad 0)), (1, .int a1)] := hl
  unfold p_FH_tape at hf
  refine lv_aload_n Fx.1 Fx.2.1 dX9_tape_0 rfl (lv_at hl 0 rfl) ?_
  refine gg_FH_signs Fx hC wd_208 dX9_tape_1 ?_
  refine lv_iload_n Fx.1 Fx.2.1 dX9_tape_4 rfl (lv_at hl 1 rfl) ?_
  obtain ⟨u1, hu1, hf⟩ := bd_e hf
  refine ca_i (As := [.int a1]) (rest := []) Fx hC (k_Ta_signAt hu1) (cVU 1 Fx.2.2.2.2 wd_459 wd_460 wd_461 wd_7 wd_462 rfl rfl hd_Ta_signAt ⟨Nat.le_of_ble_eq_true rfl, Nat.le_of_ble_eq_true rfl⟩) 25 rfl rfl rfl hl.1 rfl (Nat.le_of_ble_eq_true rfl) dX9_tape_5 (fun H locs hC => ?_)
  obtain rfl := Option.some.inj hf
  exact hret _ _ _ _ dX9_tape_8 hC
/-! FretHands.empty()I -/
abbrev rm_FH_empty : Room := { frames := 0, cells := 0, slots := 0, locals := 0 }
theorem hd_FH_empty : yX9_empty.cls = RX9 ∧ yX9_empty.cls ≠ "java/lang/invoke/MethodHandle" ∧ yX9_empty.cls ≠ "java/lang/invoke/VarHandle" ∧ (parseMethodDescriptor yX9_empty.desc).map (fun d => d.parameters.length) = some 0 := by decide +kernel
noncomputable def p_FH_empty  (g : sG) (f : sF) : Option (Int32 × sG × sF) := lt_ (g 12) (fun v1 => lt_ (upd g 12 (0 : Int32)) (fun g2 => some (v1, g2, f)))
set_option maxRecDepth 100000 in
set_option maxHeartbeats 4000000 in
theorem k_FH_empty {l : Launch} {D : va_G} {ad : Nat → Nat} {cy : Nat → ClassId}  {u : Int32 × sG × sF} {g : sG} {f : sF} (hf : p_FH_empty  g f = some u) : mMi l yX9_empty (Cond.code yX9_empty cX9_empty 2 (some .int) :: wU) rm_FH_empty D (cT cy) (cW ad cy) [.ref (ad 0)] g f u := by
  refine mk_i (by decide) rfl (Nat.le_of_ble_eq_true rfl) ?_
  intro p e s m below meth c Q A H0 Fx hret ls H locs hl hC
  replace hl : lv_has ls 2 [(0, .ref (ad 0))] := hl
  unfold p_FH_empty at hf
  refine lv_aload_n Fx.1 Fx.2.1 dX9_empty_0 rfl (lv_at hl 0 rfl) ?_
  refine gg_FH_signs Fx hC wd_208 dX9_empty_1 ?_
  refine gg_Ta_size Fx hC wd_164 dX9_empty_4 ?_
  obtain ⟨v1, ev1, hf⟩ := lt_e hf
  refine tpi ev1 ?_
  refine lv_istore_n (lv' := [(1, .int v1), (0, .ref (ad 0))]) Fx.1 Fx.2.1 dX9_empty_7 rfl hl (by decide) rfl (fun ls hl => ?_)
  refine lv_aload_n Fx.1 Fx.2.1 dX9_empty_8 rfl (lv_at hl 1 rfl) ?_
  refine gg_FH_signs Fx hC wd_208 dX9_empty_9 ?_
  refine lv_iconst (v := (0 : Int32)) Fx.1 Fx.2.1 dX9_empty_12 (by decide) ?_
  obtain ⟨g2, eg2, hf⟩ := lt_e hf
  refine gp_Ta_size Fx hC wd_164 eg2 dX9_empty_13 (fun H locs hC => ?_)
  refine lv_iload_n Fx.1 Fx.2.1 dX9_empty_16 rfl (lv_at hl 0 rfl) ?_
  obtain rfl := Option.some.inj hf
  exact hret _ _ _ _ dX9_empty_17 hC
/-! FretHands$Plan.isFound()Z -/
abbrev rm_Pl_isFound : Room := { frames := 0, cells := 0, slots := 0, locals := 0 }
theorem hd_Pl_isFound : yX2_isFound.cls = RX2 ∧ yX2_isFound.cls ≠ "java/lang/invoke/MethodHandle" ∧ yX2_isFound.cls ≠ "java/lang/invoke/VarHandle" ∧ (parseMethodDescriptor yX2_isFound.desc).map (fun d => d.parameters.length) = some 0 := by decide +kernel
noncomputable def p_Pl_isFound  (g : sG) (f : sF) : Option (Int32) := (if (g 4) ≤ 0 then some (0 : Int32) else some (1 : Int32))
set_option maxRecDepth 100000 in
set_option maxHeartbeats 4000000 in
theorem k_Pl_isFound {l : Launch} {D : va_G} {ad : Nat → Nat} {cy : Nat → ClassId}  {r : Int32} {g : sG} {f : sF} (hf : p_Pl_isFound  g f = some r) : mMi l yX2_isFound (Cond.code yX2_isFound cX2_isFound 1 (some .boolean) :: wU) rm_Pl_isFound D (cT cy) (cW ad cy) [.ref (ad 8)] g f (r, g, f) := by
  refine mk_z (by decide) rfl (Nat.le_of_ble_eq_true rfl) ?_
  intro p e s m below meth c Q A H0 Fx hret ls H locs hl hC
  replace hl : lv_has ls 1 [(0, .ref (ad 8))] := hl
  unfold p_Pl_isFound at hf
  refine lv_aload_n Fx.1 Fx.2.1 dX2_isFound_0 rfl (lv_at hl 0 rfl) ?_
  refine gg_Pl_events Fx hC wd_79 dX2_isFound_1 ?_
  refine lv_if_le (tgt := 11) Fx.1 Fx.2.1 dX2_isFound_4 (by decide) (fun hc => ?_) (fun hc => ?_)
  · replace hf := ift hc hf
    refine lv_iconst (v := (0 : Int32)) Fx.1 Fx.2.1 dX2_isFound_11 (by decide) ?_
    obtain rfl := Option.some.inj hf
    exact hret _ _ _ _ dX2_isFound_12 z01_0 hC
  · replace hf := iff_ hc hf
    refine lv_iconst (v := (1 : Int32)) Fx.1 Fx.2.1 dX2_isFound_7 (by decide) ?_
    refine lv_goto (tgt := 12) Fx.1 Fx.2.1 dX2_isFound_8 (by decide) ?_
    obtain rfl := Option.some.inj hf
    exact hret _ _ _ _ dX2_isFound_12 z01_1 hC
/-! FretHands$TabWriter.fretsBehindCapo(II)I -/
abbrev rm_TW_fretsBehindCapo : Room := { frames := 3, cells := 0, slots := 0, locals := 65 }
theorem hd_TW_fretsBehindCapo : yX6_fretsBehindCapo.cls = RX6 ∧ yX6_fretsBehindCapo.cls ≠ "java/lang/invoke/MethodHandle" ∧ yX6_fretsBehindCapo.cls ≠ "java/lang/invoke/VarHandle" ∧ (parseMethodDescriptor yX6_fretsBehindCapo.desc).map (fun d => d.parameters.length) = some 2 := by decide +kernel
noncomputable def p_TW_fretsBehindCapo_L25 (K25 : (Int32 × Int32 × Int32 × Int32) → Option (Int32)) (x1 : Int32) (x2 : Int32) (x3 : Int32) (x4 : Int32) (g : sG) (f : sF) : Option (Int32) := (if x3 ≤ x4 then some (-1 : Int32) else (if x1 < 0 ∨ 40 ≤ x1.toNatClampNeg then none else Option.bind (p_SR_stringIn (f 6 x1.toNatClampNeg) x4 g f) (fun u2 => (if u2 = x2 then Option.bind (p_Tu_pitchOf x1 x4 g f) (fun u4 => Option.bind (p_In_fretOf x2 u4 g f) (fun u5 => some (u5 - (g 2)))) else lt_ (x4 + (1 : Int32)) (fun v3 => K25 (x1, x2, x3, v3))))))
set_option maxRecDepth 100000 in
set_option maxHeartbeats 4000000 in
theorem s_TW_fretsBehindCapo_L25 {K25 : (Int32 × Int32 × Int32 × Int32) → Option (Int32)} {p : Program} {l : Launch} {e : Env} {s : State} {m : MethodId} {args : Array Value} {below : List Frame} {meth : Method} {c : Code} {Q : State → Prop} {D : va_G} {ad : Nat → Nat} {cy : Nat → ClassId} {A : Nat → Prop} {H0 : Heap} {r : Int32} {g : sG} {f : sF} (Fx : CallFix p m c cX6_fretsBehindCapo 5 s args (Cond.code yX6_fretsBehindCapo cX6_fretsBehindCapo 5 (some .int) :: wU) RX6) (hret : mRi p l e rm_TW_fretsBehindCapo s m args below meth c Q D (cT cy) (cW ad cy) A H0 cX6_fretsBehindCapo (r, g, f)) (hK25 : ∀ (z : Int32 × Int32 × Int32 × Int32), K25 z = some r → ∀ (ls : Array Slot) (H : Heap) (locs : List Loc), lv_has ls 5 [(0, .ref (ad 27)), (1, .int z.1), (2, .int z.2.1), (3, .int z.2.2.1), (4, .int z.2.2.2)] → wH D (cT cy) (cW ad cy) A H0 s g f H locs → W p l e rm_TW_fretsBehindCapo s m args below meth c H locs 0 0 Q (F0 m 25 ls [])) (x1 : Int32) (x2 : Int32) (x3 : Int32) (x4 : Int32) (hf : p_TW_fretsBehindCapo_L25 K25 x1 x2 x3 x4 g f = some r) : ∀ (ls : Array Slot) (H : Heap) (locs : List Loc), lv_has ls 5 [(0, .ref (ad 27)), (1, .int x1), (2, .int x2), (3, .int x3), (4, .int x4)] → wH D (cT cy) (cW ad cy) A H0 s g f H locs → W p l e rm_TW_fretsBehindCapo s m args below meth c H locs 0 0 Q (F0 m 25 ls []) := by
  intro ls H locs hl hC
  unfold p_TW_fretsBehindCapo_L25 at hf
  refine lv_iload Fx.1 Fx.2.1 dX6_fretsBehindCapo_25 (lv_at hl 4 rfl) ?_
  refine lv_iload_n Fx.1 Fx.2.1 dX6_fretsBehindCapo_27 rfl (lv_at hl 3 rfl) ?_
  refine lv_icmp_ge (tgt := 82) Fx.1 Fx.2.1 dX6_fretsBehindCapo_28 (by decide) (fun hc => ?_) (fun hc => ?_)
  · replace hf := ift hc hf
    refine lv_iconst (v := (-1 : Int32)) Fx.1 Fx.2.1 dX6_fretsBehindCapo_82 (by decide) ?_
    obtain rfl := Option.some.inj hf
    exact hret _ _ _ _ dX6_fretsBehindCapo_83 hC
  · replace hf := iff_ hc hf
    refine lv_aload_n Fx.1 Fx.2.1 dX6_fretsBehindCapo_31 rfl (lv_at hl 0 rfl) ?_
    refine gg_TW_plan Fx hC wd_175 dX6_fretsBehindCapo_32 ?_
    refine gg_Pl_strings Fx hC wd_73 dX6_fretsBehindCapo_35 ?_
    refine lv_iload_n Fx.1 Fx.2.1 dX6_fretsBehindCapo_38 rfl (lv_at hl 1 rfl) ?_
    obtain ⟨hi1, hf⟩ := gd_e hf
    refine ld_Pl_strings Fx hC hi1 dX6_fretsBehindCapo_39 ?_
    refine lv_iload Fx.1 Fx.2.1 dX6_fretsBehindCapo_40 (lv_at hl 4 rfl) ?_
    obtain ⟨u2, hu2, hf⟩ := bd_e hf
    refine ca_s (As := [.int (f 6 x1.toNatClampNeg), .int x4]) (rest := []) Fx hC (k_SR_stringIn hu2) (cSU 2 Fx.2.2.2.2 wd_487 wd_385 wd_12 wd_386 rfl rfl hd_SR_stringIn ⟨Nat.le_of_ble_eq_true rfl, Nat.le_of_ble_eq_true rfl⟩) rfl hl.1 rfl (Nat.le_of_ble_eq_true rfl) dX6_fretsBehindCapo_42 (fun H locs hC => ?_)
    refine lv_iload_n Fx.1 Fx.2.1 dX6_fretsBehindCapo_45 rfl (lv_at hl 2 rfl) ?_
    refine lv_icmp_ne (tgt := 76) Fx.1 Fx.2.1 dX6_fretsBehindCapo_46 (by decide) (fun hc => ?_) (fun hc => ?_)
    · replace hf := iff_ hc hf
      obtain ⟨v3, ev3, hf⟩ := lt_e hf
      refine lv_iinc (v := v3) (lv' := [(4, .int v3), (0, .ref (ad 27)), (1, .int x1), (2, .int x2), (3, .int x3)]) Fx.1 Fx.2.1 dX6_fretsBehindCapo_76 hl (k := 4) rfl ev3.symm (by decide) rfl (fun ls hl => ?_)
      refine lv_goto (tgt := 25) Fx.1 Fx.2.1 dX6_fretsBehindCapo_79 (by decide) ?_
      exact hK25 _ hf _ _ _ (lv_sub hl [1, 2, 3, 4, 0] rfl) hC
    · replace hf := ift hc hf
      refine lv_aload_n Fx.1 Fx.2.1 dX6_fretsBehindCapo_49 rfl (lv_at hl 0 rfl) ?_
      refine gg_TW_instrument Fx hC wd_173 dX6_fretsBehindCapo_50 ?_
      refine lv_iload_n Fx.1 Fx.2.1 dX6_fretsBehindCapo_53 rfl (lv_at hl 2 rfl) ?_
      refine lv_aload_n Fx.1 Fx.2.1 dX6_fretsBehindCapo_54 rfl (lv_at hl 0 rfl) ?_
      refine gg_TW_tune Fx hC wd_174 dX6_fretsBehindCapo_55 ?_
      refine lv_iload_n Fx.1 Fx.2.1 dX6_fretsBehindCapo_58 rfl (lv_at hl 1 rfl) ?_
      refine lv_iload Fx.1 Fx.2.1 dX6_fretsBehindCapo_59 (lv_at hl 4 rfl) ?_
      obtain ⟨u4, hu4, hf⟩ := bd_e hf
      refine ca_i (As := [.int x1, .int x4]) (rest := [.int x2, .ref (ad 2)]) Fx hC (k_Tu_pitchOf hu4) (cVU 2 Fx.2.2.2.2 wd_488 wd_280 wd_281 wd_3 wd_282 rfl rfl hd_Tu_pitchOf ⟨Nat.le_of_ble_eq_true rfl, Nat.le_of_ble_eq_true rfl⟩) 4 rfl rfl rfl hl.1 rfl (Nat.le_of_ble_eq_true rfl) dX6_fretsBehindCapo_61 (fun H locs hC => ?_)
      obtain ⟨u5, hu5, hf⟩ := bd_e hf
      refine ca_i (As := [.int x2, .int u4]) (rest := []) Fx hC (k_In_fretOf hu5) (cVU 2 Fx.2.2.2.2 wd_489 wd_328 wd_329 wd_2 wd_330 rfl rfl hd_In_fretOf ⟨Nat.le_of_ble_eq_true rfl, Nat.le_of_ble_eq_true rfl⟩) 2 rfl rfl rfl hl.1 rfl (Nat.le_of_ble_eq_true rfl) dX6_fretsBehindCapo_64 (fun H locs hC => ?_)
      refine lv_aload_n Fx.1 Fx.2.1 dX6_fretsBehindCapo_67 rfl (lv_at hl 0 rfl) ?_
      refine gg_TW_instrument Fx hC wd_173 dX6_fretsBehindCapo_68 ?_
      refine gg_In_capoFret Fx hC wd_41 dX6_fretsBehindCapo_71 ?_
      refine lv_isub Fx.1 Fx.2.1 dX6_fretsBehindCapo_74 ?_
      obtain rfl := Option.some.inj hf
      exact hret _ _ _ _ dX6_fretsBehindCapo_75 hC
set_option maxRecDepth 100000 in
set_option maxHeartbeats 4000000 in
theorem t_TW_fretsBehindCapo_L25 {p : Program} {l : Launch} {e : Env} {s : State} {m : MethodId} {args : Array Value} {below : List Frame} {meth : Method} {c : Code} {Q : State → Prop} {D : va_G} {ad : Nat → Nat} {cy : Nat → ClassId} {A : Nat → Prop} {H0 : Heap} {r : Int32} {g : sG} {f : sF} (Fx : CallFix p m c cX6_fretsBehindCapo 5 s args (Cond.code yX6_fretsBehindCapo cX6_fretsBehindCapo 5 (some .int) :: wU) RX6) (hret : mRi p l e rm_TW_fretsBehindCapo s m args below meth c Q D (cT cy) (cW ad cy) A H0 cX6_fretsBehindCapo (r, g, f))  (n : Nat) (z : Int32 × Int32 × Int32 × Int32) (hz : itr (fun K z => p_TW_fretsBehindCapo_L25 K z.1 z.2.1 z.2.2.1 z.2.2.2 g f) n z = some r) : ∀ (ls : Array Slot) (H : Heap) (locs : List Loc), lv_has ls 5 [(0, .ref (ad 27)), (1, .int z.1), (2, .int z.2.1), (3, .int z.2.2.1), (4, .int z.2.2.2)] → wH D (cT cy) (cW ad cy) A H0 s g f H locs → W p l e rm_TW_fretsBehindCapo s m args below meth c H locs 0 0 Q (F0 m 25 ls []) :=
  itr_all (B := fun K z => p_TW_fretsBehindCapo_L25 K z.1 z.2.1 z.2.2.1 z.2.2.2 g f) (r := r) (fun z => ∀ (ls : Array Slot) (H : Heap) (locs : List Loc), lv_has ls 5 [(0, .ref (ad 27)), (1, .int z.1), (2, .int z.2.1), (3, .int z.2.2.1), (4, .int z.2.2.2)] → wH D (cT cy) (cW ad cy) A H0 s g f H locs → W p l e rm_TW_fretsBehindCapo s m args below meth c H locs 0 0 Q (F0 m 25 ls [])) (fun K hK z h => s_TW_fretsBehindCapo_L25 (K25 := K) Fx hret hK z.1 z.2.1 z.2.2.1 z.2.2.2 h) n z hz
noncomputable def p_TW_fretsBehindCapo (a1 : Int32) (a2 : Int32) (g : sG) (f : sF) : Option (Int32) := Option.bind (p_Pl_hasEvent a1 g f) (fun u1 => (if u1 = 0 then some (-1 : Int32) else Option.bind (p_Tu_sizeOf a1 g f) (fun u2 => itr (fun K z => p_TW_fretsBehindCapo_L25 K z.1 z.2.1 z.2.2.1 z.2.2.2 g f) FUEL (a1, a2, u2, (0 : Int32)))))
set_option maxRecDepth 100000 in
set_option maxHeartbeats 4000000 in
theorem k_TW_fretsBehindCapo {l : Launch} {D : va_G} {ad : Nat → Nat} {cy : Nat → ClassId} {a1 : Int32} {a2 : Int32} {r : Int32} {g : sG} {f : sF} (hf : p_TW_fretsBehindCapo a1 a2 g f = some r) : mMi l yX6_fretsBehindCapo (Cond.code yX6_fretsBehindCapo cX6_fretsBehindCapo 5 (some .int) :: wU) rm_TW_fretsBehindCapo D (cT cy) (cW ad cy) [.ref (ad 27), .int a1, .int a2] g f (r, g, f) := by
  refine mk_i (by decide) rfl (Nat.le_of_ble_eq_true rfl) ?_
  intro p e s m below meth c Q A H0 Fx hret ls H locs hl hC
  replace hl : lv_has ls 5 [(0, .ref (ad 27)), (1, .int a1), (2, .int a2)] := hl
  unfold p_TW_fretsBehindCapo at hf
  refine lv_aload_n Fx.1 Fx.2.1 dX6_fretsBehindCapo_0 rfl (lv_at hl 0 rfl) ?_
  refine gg_TW_plan Fx hC wd_175 dX6_fretsBehindCapo_1 ?_
  refine lv_iload_n Fx.1 Fx.2.1 dX6_fretsBehindCapo_4 rfl (lv_at hl 1 rfl) ?_
  obtain ⟨u1, hu1, hf⟩ := bd_e hf
  refine ca_i (As := [.int a1]) (rest := []) Fx hC (k_Pl_hasEvent hu1) (cVU 1 Fx.2.2.2.2 wd_485 wd_440 wd_441 wd_4 wd_442 rfl rfl hd_Pl_hasEvent ⟨Nat.le_of_ble_eq_true rfl, Nat.le_of_ble_eq_true rfl⟩) 8 rfl rfl rfl hl.1 rfl (Nat.le_of_ble_eq_true rfl) dX6_fretsBehindCapo_5 (fun H locs hC => ?_)
  refine lv_if_ne (tgt := 13) Fx.1 Fx.2.1 dX6_fretsBehindCapo_8 (by decide) (fun hc => ?_) (fun hc => ?_)
  · replace hf := iff_ hc hf
    refine lv_aload_n Fx.1 Fx.2.1 dX6_fretsBehindCapo_13 rfl (lv_at hl 0 rfl) ?_
    refine gg_TW_tune Fx hC wd_174 dX6_fretsBehindCapo_14 ?_
    refine lv_iload_n Fx.1 Fx.2.1 dX6_fretsBehindCapo_17 rfl (lv_at hl 1 rfl) ?_
    obtain ⟨u2, hu2, hf⟩ := bd_e hf
    refine ca_i (As := [.int a1]) (rest := []) Fx hC (k_Tu_sizeOf hu2) (cVU 1 Fx.2.2.2.2 wd_486 wd_272 wd_273 wd_3 wd_274 rfl rfl hd_Tu_sizeOf ⟨Nat.le_of_ble_eq_true rfl, Nat.le_of_ble_eq_true rfl⟩) 4 rfl rfl rfl hl.1 rfl (Nat.le_of_ble_eq_true rfl) dX6_fretsBehindCapo_18 (fun H locs hC => ?_)
    refine lv_istore_n (lv' := [(3, .int u2), (0, .ref (ad 27)), (1, .int a1), (2, .int a2)]) Fx.1 Fx.2.1 dX6_fretsBehindCapo_21 rfl hl (by decide) rfl (fun ls hl => ?_)
    refine lv_iconst (v := (0 : Int32)) Fx.1 Fx.2.1 dX6_fretsBehindCapo_22 (by decide) ?_
    refine lv_istore (lv' := [(4, .int (0 : Int32)), (3, .int u2), (0, .ref (ad 27)), (1, .int a1), (2, .int a2)]) Fx.1 Fx.2.1 dX6_fretsBehindCapo_23 hl (by decide) rfl (fun ls hl => ?_)
    exact t_TW_fretsBehindCapo_L25 Fx hret _ _ hf _ _ _ (lv_sub hl [2, 3, 4, 1, 0] rfl) hC
  · replace hf := ift hc hf
    refine lv_iconst (v := (-1 : Int32)) Fx.1 Fx.2.1 dX6_fretsBehindCapo_11 (by decide) ?_
    obtain rfl := Option.some.inj hf
    exact hret _ _ _ _ dX6_fretsBehindCapo_12 hC
/-! FretHands$TabWriter.lengthOf(I)I -/
abbrev rm_TW_lengthOf : Room := { frames := 0, cells := 0, slots := 0, locals := 0 }
theorem hd_TW_lengthOf : yX6_lengthOf.cls ≠ "java/lang/invoke/MethodHandle" ∧ yX6_lengthOf.cls ≠ "java/lang/invoke/VarHandle" ∧ (parseMethodDescriptor yX6_lengthOf.desc).map (fun d => d.parameters.length) = some 1 := by decide +kernel
noncomputable def p_TW_lengthOf (a1 : Int32) (g : sG) (f : sF) : Option (Int32) := (if a1 = (-1 : Int32) then some (0 : Int32) else (if (10 : Int32) ≤ a1 then some (2 : Int32) else some (1 : Int32)))
set_option maxRecDepth 100000 in
set_option maxHeartbeats 4000000 in
theorem k_TW_lengthOf {l : Launch} {D : va_G} {ad : Nat → Nat} {cy : Nat → ClassId} {a1 : Int32} {r : Int32} {g : sG} {f : sF} (hf : p_TW_lengthOf a1 g f = some r) : mMi l yX6_lengthOf (Cond.code yX6_lengthOf cX6_lengthOf 1 (some .int) :: wU) rm_TW_lengthOf D (cT cy) (cW ad cy) [.int a1] g f (r, g, f) := by
  refine mk_i (by decide) rfl (Nat.le_of_ble_eq_true rfl) ?_
  intro p e s m below meth c Q A H0 Fx hret ls H locs hl hC
  replace hl : lv_has ls 1 [(0, .int a1)] := hl
  unfold p_TW_lengthOf at hf
  refine lv_iload_n Fx.1 Fx.2.1 dX6_lengthOf_0 rfl (lv_at hl 0 rfl) ?_
  refine lv_iconst (v := (-1 : Int32)) Fx.1 Fx.2.1 dX6_lengthOf_1 (by decide) ?_
  refine lv_icmp_ne (tgt := 7) Fx.1 Fx.2.1 dX6_lengthOf_2 (by decide) (fun hc => ?_) (fun hc => ?_)
  · replace hf := iff_ hc hf
    refine lv_iload_n Fx.1 Fx.2.1 dX6_lengthOf_7 rfl (lv_at hl 0 rfl) ?_
    refine lv_bipush (v := (10 : Int32)) Fx.1 Fx.2.1 dX6_lengthOf_8 (by decide) ?_
    refine lv_icmp_ge (tgt := 17) Fx.1 Fx.2.1 dX6_lengthOf_10 (by decide) (fun hc => ?_) (fun hc => ?_)
    · replace hf := ift hc hf
      refine lv_iconst (v := (2 : Int32)) Fx.1 Fx.2.1 dX6_lengthOf_17 (by decide) ?_
      obtain rfl := Option.some.inj hf
      exact hret _ _ _ _ dX6_lengthOf_18 hC
    · replace hf := iff_ hc hf
      refine lv_iconst (v := (1 : Int32)) Fx.1 Fx.2.1 dX6_lengthOf_13 (by decide) ?_
      refine lv_goto (tgt := 18) Fx.1 Fx.2.1 dX6_lengthOf_14 (by decide) ?_
      obtain rfl := Option.some.inj hf
      exact hret _ _ _ _ dX6_lengthOf_18 hC
  · replace hf := ift hc hf
    refine lv_iconst (v := (0 : Int32)) Fx.1 Fx.2.1 dX6_lengthOf_5 (by decide) ?_
    obtain rfl := Option.some.inj hf
    exact hret _ _ _ _ dX6_lengthOf_6 hC
/-! FretHands$TabWriter.longestNumber(I)I -/
abbrev rm_TW_longestNumber : Room := { frames := 4, cells := 0, slots := 0, locals := 89 }
theorem hd_TW_longestNumber : yX6_longestNumber.cls = RX6 ∧ yX6_longestNumber.cls ≠ "java/lang/invoke/MethodHandle" ∧ yX6_longestNumber.cls ≠ "java/lang/invoke/VarHandle" ∧ (parseMethodDescriptor yX6_longestNumber.desc).map (fun d => d.parameters.length) = some 1 := by decide +kernel
noncomputable def p_TW_longestNumber_L4 (K4 : (Int32 × Int32 × Int32) → Option (Int32)) (x1 : Int32) (x2 : Int32) (x3 : Int32) (g : sG) (f : sF) : Option (Int32) := (if (g 0) ≤ x3 then some x2 else Option.bind (p_TW_fretsBehindCapo x1 x3 g f) (fun u1 => Option.bind (p_TW_lengthOf u1 g f) (fun u2 => lt_ (if x2 < u2 then u2 else x2) (fun v3 => lt_ (x3 + (1 : Int32)) (fun v4 => K4 (x1, v3, v4))))))
set_option maxRecDepth 100000 in
set_option maxHeartbeats 4000000 in
theorem s_TW_longestNumber_L4 {K4 : (Int32 × Int32 × Int32) → Option (Int32)} {p : Program} {l : Launch} {e : Env} {s : State} {m : MethodId} {args : Array Value} {below : List Frame} {meth : Method} {c : Code} {Q : State → Prop} {D : va_G} {ad : Nat → Nat} {cy : Nat → ClassId} {A : Nat → Prop} {H0 : Heap} {r : Int32} {g : sG} {f : sF} (Fx : CallFix p m c cX6_longestNumber 4 s args (Cond.code yX6_longestNumber cX6_longestNumber 4 (some .int) :: wU) RX6) (hret : mRi p l e rm_TW_longestNumber s m args below meth c Q D (cT cy) (cW ad cy) A H0 cX6_longestNumber (r, g, f)) (hK4 : ∀ (z : Int32 × Int32 × Int32), K4 z = some r → ∀ (ls : Array Slot) (H : Heap) (locs : List Loc), lv_has ls 4 [(0, .ref (ad 27)), (1, .int z.1), (2, .int z.2.1), (3, .int z.2.2)] → wH D (cT cy) (cW ad cy) A H0 s g f H locs → W p l e rm_TW_longestNumber s m args below meth c H locs 0 0 Q (F0 m 4 ls [])) (x1 : Int32) (x2 : Int32) (x3 : Int32) (hf : p_TW_longestNumber_L4 K4 x1 x2 x3 g f = some r) : ∀ (ls : Array Slot) (H : Heap) (locs : List Loc), lv_has ls 4 [(0, .ref (ad 27)), (1, .int x1), (2, .int x2), (3, .int x3)] → wH D (cT cy) (cW ad cy) A H0 s g f H locs → W p l e rm_TW_longestNumber s m args below meth c H locs 0 0 Q (F0 m 4 ls []) := by
  intro ls H locs hl hC
  unfold p_TW_longestNumber_L4 at hf
  refine lv_iload_n Fx.1 Fx.2.1 dX6_longestNumber_4 rfl (lv_at hl 3 rfl) ?_
  refine lv_aload_n Fx.1 Fx.2.1 dX6_longestNumber_5 rfl (lv_at hl 0 rfl) ?_
  refine gg_TW_instrument Fx hC wd_173 dX6_longestNumber_6 ?_
  refine gg_In_strings Fx hC wd_28 dX6_longestNumber_9 ?_
  refine lv_icmp_ge (tgt := 35) Fx.1 Fx.2.1 dX6_longestNumber_12 (by decide) (fun hc => ?_) (fun hc => ?_)
  · replace hf := ift hc hf
    refine lv_iload_n Fx.1 Fx.2.1 dX6_longestNumber_35 rfl (lv_at hl 2 rfl) ?_
    obtain rfl := Option.some.inj hf
    exact hret _ _ _ _ dX6_longestNumber_36 hC
  · replace hf := iff_ hc hf
    refine lv_iload_n Fx.1 Fx.2.1 dX6_longestNumber_15 rfl (lv_at hl 2 rfl) ?_
    refine lv_aload_n Fx.1 Fx.2.1 dX6_longestNumber_16 rfl (lv_at hl 0 rfl) ?_
    refine lv_iload_n Fx.1 Fx.2.1 dX6_longestNumber_17 rfl (lv_at hl 1 rfl) ?_
    refine lv_iload_n Fx.1 Fx.2.1 dX6_longestNumber_18 rfl (lv_at hl 3 rfl) ?_
    obtain ⟨u1, hu1, hf⟩ := bd_e hf
    refine ca_i (As := [.int x1, .int x3]) (rest := [.int x2]) Fx hC (k_TW_fretsBehindCapo hu1) (cVU 2 Fx.2.2.2.2 wd_482 wd_483 wd_861 wd_8 wd_484 rfl rfl hd_TW_fretsBehindCapo ⟨Nat.le_of_ble_eq_true rfl, Nat.le_of_ble_eq_true rfl⟩) 27 rfl rfl rfl hl.1 rfl (Nat.le_of_ble_eq_true rfl) dX6_longestNumber_19 (fun H locs hC => ?_)
    obtain ⟨u2, hu2, hf⟩ := bd_e hf
    refine ca_s (As := [.int u1]) (rest := [.int x2]) Fx hC (k_TW_lengthOf hu2) (cSU 1 Fx.2.2.2.2 wd_490 wd_491 wd_8 wd_492 rfl rfl hd_TW_lengthOf ⟨Nat.le_of_ble_eq_true rfl, Nat.le_of_ble_eq_true rfl⟩) rfl hl.1 rfl (Nat.le_of_ble_eq_true rfl) dX6_longestNumber_22 (fun H locs hC => ?_)
    refine g_mmax (rest := []) Fx hl.1 wd_493 (Nat.le_of_ble_eq_true rfl) (Nat.le_of_ble_eq_true rfl) dX6_longestNumber_25 ?_
    obtain ⟨v3, ev3, hf⟩ := lt_e hf
    refine tpi ev3 ?_
    refine lv_istore_n (lv' := [(2, .int v3), (0, .ref (ad 27)), (1, .int x1), (3, .int x3)]) Fx.1 Fx.2.1 dX6_longestNumber_28 rfl hl (by decide) rfl (fun ls hl => ?_)
    obtain ⟨v4, ev4, hf⟩ := lt_e hf
    refine lv_iinc (v := v4) (lv' := [(3, .int v4), (2, .int v3), (0, .ref (ad 27)), (1, .int x1)]) Fx.1 Fx.2.1 dX6_longestNumber_29 hl (k := 3) rfl ev4.symm (by decide) rfl (fun ls hl => ?_)
    refine lv_goto (tgt := 4) Fx.1 Fx.2.1 dX6_longestNumber_32 (by decide) ?_
    exact hK4 _ hf _ _ _ (lv_sub hl [2, 3, 1, 0] rfl) hC
set_option maxRecDepth 100000 in
set_option maxHeartbeats 4000000 in
theorem t_TW_longestNumber_L4 {p : Program} {l : Launch} {e : Env} {s : State} {m : MethodId} {args : Array Value} {below : List Frame} {meth : Method} {c : Code} {Q : State → Prop} {D : va_G} {ad : Nat → Nat} {cy : Nat → ClassId} {A : Nat → Prop} {H0 : Heap} {r : Int32} {g : sG} {f : sF} (Fx : CallFix p m c cX6_longestNumber 4 s args (Cond.code yX6_longestNumber cX6_longestNumber 4 (some .int) :: wU) RX6) (hret : mRi p l e rm_TW_longestNumber s m args below meth c Q D (cT cy) (cW ad cy) A H0 cX6_longestNumber (r, g, f))  (n : Nat) (z : Int32 × Int32 × Int32) (hz : itr (fun K z => p_TW_longestNumber_L4 K z.1 z.2.1 z.2.2 g f) n z = some r) : ∀ (ls : Array Slot) (H : Heap) (locs : List Loc), lv_has ls 4 [(0, .ref (ad 27)), (1, .int z.1), (2, .int z.2.1), (3, .int z.2.2)] → wH D (cT cy) (cW ad cy) A H0 s g f H locs → W p l e rm_TW_longestNumber s m args below meth c H locs 0 0 Q (F0 m 4 ls []) :=
  itr_all (B := fun K z => p_TW_longestNumber_L4 K z.1 z.2.1 z.2.2 g f) (r := r) (fun z => ∀ (ls : Array Slot) (H : Heap) (locs : List Loc), lv_has ls 4 [(0, .ref (ad 27)), (1, .int z.1), (2, .int z.2.1), (3, .int z.2.2)] → wH D (cT cy) (cW ad cy) A H0 s g f H locs → W p l e rm_TW_longestNumber s m args below meth c H locs 0 0 Q (F0 m 4 ls [])) (fun K hK z h => s_TW_longestNumber_L4 (K4 := K) Fx hret hK z.1 z.2.1 z.2.2 h) n z hz
noncomputable def p_TW_longestNumber (a1 : Int32) (g : sG) (f : sF) : Option (Int32) := itr (fun K z => p_TW_longestNumber_L4 K z.1 z.2.1 z.2.2 g f) FUEL (a1, (0 : Int32), (0 : Int32))
set_option maxRecDepth 100000 in
set_option maxHeartbeats 4000000 in
theorem k_TW_longestNumber {l : Launch} {D : va_G} {ad : Nat → Nat} {cy : Nat → ClassId} {a1 : Int32} {r : Int32} {g : sG} {f : sF} (hf : p_TW_longestNumber a1 g f = some r) : mMi l yX6_longestNumber (Cond.code yX6_longestNumber cX6_longestNumber 4 (some .int) :: wU) rm_TW_longestNumber D (cT cy) (cW ad cy) [.ref (ad 27), .int a1] g f (r, g, f) := by
  refine mk_i (by decide) rfl (Nat.le_of_ble_eq_true rfl) ?_
  intro p e s m below meth c Q A H0 Fx hret ls H locs hl hC
  replace hl : lv_has ls 4 [(0, .ref (ad 27)), (1, .int a1)] := hl
  unfold p_TW_longestNumber at hf
  refine lv_iconst (v := (0 : Int32)) Fx.1 Fx.2.1 dX6_longestNumber_0 (by decide) ?_
  refine lv_istore_n (lv' := [(2, .int (0 : Int32)), (0, .ref (ad 27)), (1, .int a1)]) Fx.1 Fx.2.1 dX6_longestNumber_1 rfl hl (by decide) rfl (fun ls hl => ?_)
  refine lv_iconst (v := (0 : Int32)) Fx.1 Fx.2.1 dX6_longestNumber_2 (by decide) ?_
  refine lv_istore_n (lv' := [(3, .int (0 : Int32)), (2, .int (0 : Int32)), (0, .ref (ad 27)), (1, .int a1)]) Fx.1 Fx.2.1 dX6_longestNumber_3 rfl hl (by decide) rfl (fun ls hl => ?_)
  exact t_TW_longestNumber_L4 Fx hret _ _ hf _ _ _ (lv_sub hl [2, 3, 1, 0] rfl) hC
/-! FretHands$TabWriter.writeNumber(I)I -/
abbrev rm_TW_writeNumber : Room := { frames := 1, cells := 0, slots := 0, locals := 21 }
theorem hd_TW_writeNumber : yX6_writeNumber.cls = RX6 ∧ yX6_writeNumber.cls ≠ "java/lang/invoke/MethodHandle" ∧ yX6_writeNumber.cls ≠ "java/lang/invoke/VarHandle" ∧ (parseMethodDescriptor yX6_writeNumber.desc).map (fun d => d.parameters.length) = some 1 := by decide +kernel
noncomputable def p_TW_writeNumber_J25 (x1 : Int32) (x2 : Int32) (g : sG) (f : sF) : Option (Int32 × sG × sF) := (if x2 ≤ 0 then some (x2, g, f) else Option.bind (p_Ta_add ((48 : Int32) + (x1 - x1 / (10 : Int32) * (10 : Int32))) g f) (fun u1 => some (x2, u1.2.1, u1.2.2)))
set_option maxRecDepth 100000 in
set_option maxHeartbeats 4000000 in
theorem s_TW_writeNumber_J25 {p : Program} {l : Launch} {e : Env} {s : State} {m : MethodId} {args : Array Value} {below : List Frame} {meth : Method} {c : Code} {Q : State → Prop} {D : va_G} {ad : Nat → Nat} {cy : Nat → ClassId} {A : Nat → Prop} {H0 : Heap} {u : Int32 × sG × sF} (Fx : CallFix p m c cX6_writeNumber 3 s args (Cond.code yX6_writeNumber cX6_writeNumber 3 (some .int) :: wU) RX6) (hret : mRi p l e rm_TW_writeNumber s m args below meth c Q D (cT cy) (cW ad cy) A H0 cX6_writeNumber u)  (x1 : Int32) (x2 : Int32) (g : sG) (f : sF) (hf : p_TW_writeNumber_J25 x1 x2 g f = some u) : ∀ (ls : Array Slot) (H : Heap) (locs : List Loc), lv_has ls 3 [(0, .ref (ad 27)), (1, .int x1), (2, .int x2)] → wH D (cT cy) (cW ad cy) A H0 s g f H locs → W p l e rm_TW_writeNumber s m args below meth c H locs 0 0 Q (F0 m 25 ls []) := by
  intro ls H locs hl hC
  unfold p_TW_writeNumber_J25 at hf
  refine lv_iload_n Fx.1 Fx.2.1 dX6_writeNumber_25 rfl (lv_at hl 2 rfl) ?_
  refine lv_if_le (tgt := 44) Fx.1 Fx.2.1 dX6_writeNumber_26 (by decide) (fun hc => ?_) (fun hc => ?_)
  · replace hf := ift hc hf
    refine lv_iload_n Fx.1 Fx.2.1 dX6_writeNumber_44 rfl (lv_at hl 2 rfl) ?_
    obtain rfl := Option.some.inj hf
    exact hret _ _ _ _ dX6_writeNumber_45 hC
  · replace hf := iff_ hc hf
    refine lv_aload_n Fx.1 Fx.2.1 dX6_writeNumber_29 rfl (lv_at hl 0 rfl) ?_
    refine gg_TW_tape Fx hC wd_176 dX6_writeNumber_30 ?_
    refine lv_bipush (v := (48 : Int32)) Fx.1 Fx.2.1 dX6_writeNumber_33 (by decide) ?_
    refine lv_iload_n Fx.1 Fx.2.1 dX6_writeNumber_35 rfl (lv_at hl 1 rfl) ?_
    refine lv_bipush (v := (10 : Int32)) Fx.1 Fx.2.1 dX6_writeNumber_36 (by decide) ?_
    refine lv_irem Fx.1 Fx.2.1 dX6_writeNumber_38 (by decide) ?_
    refine lv_iadd Fx.1 Fx.2.1 dX6_writeNumber_39 ?_
    obtain ⟨u1, hu1, hf⟩ := bd_e hf
    refine ca_i (As := [.int ((48 : Int32) + (x1 - x1 / (10 : Int32) * (10 : Int32)))]) (rest := []) Fx hC (k_Ta_add hu1) (cVU 1 Fx.2.2.2.2 wd_497 wd_452 wd_453 wd_7 wd_454 rfl rfl hd_Ta_add ⟨Nat.le_of_ble_eq_true rfl, Nat.le_of_ble_eq_true rfl⟩) 25 rfl rfl rfl hl.1 rfl (Nat.le_of_ble_eq_true rfl) dX6_writeNumber_40 (fun H locs hC => ?_)
    refine lv_pop Fx.1 Fx.2.1 dX6_writeNumber_43 rfl ?_
    refine lv_iload_n Fx.1 Fx.2.1 dX6_writeNumber_44 rfl (lv_at hl 2 rfl) ?_
    obtain rfl := Option.some.inj hf
    exact hret _ _ _ _ dX6_writeNumber_45 hC
noncomputable def p_TW_writeNumber (a1 : Int32) (g : sG) (f : sF) : Option (Int32 × sG × sF) := Option.bind (p_TW_lengthOf a1 g f) (fun u1 => (if u1 ≤ (1 : Int32) then p_TW_writeNumber_J25 a1 u1 g f else Option.bind (p_Ta_add ((48 : Int32) + (a1 / (10 : Int32))) g f) (fun u2 => p_TW_writeNumber_J25 a1 u1 u2.2.1 u2.2.2)))
set_option maxRecDepth 100000 in
set_option maxHeartbeats 4000000 in
theorem k_TW_writeNumber {l : Launch} {D : va_G} {ad : Nat → Nat} {cy : Nat → ClassId} {a1 : Int32} {u : Int32 × sG × sF} {g : sG} {f : sF} (hf : p_TW_writeNumber a1 g f = some u) : mMi l yX6_writeNumber (Cond.code yX6_writeNumber cX6_writeNumber 3 (some .int) :: wU) rm_TW_writeNumber D (cT cy) (cW ad cy) [.ref (ad 27), .int a1] g f u := by
  refine mk_i (by decide) rfl (Nat.le_of_ble_eq_true rfl) ?_
  intro p e s m below meth c Q A H0 Fx hret ls H locs hl hC
  replace hl : lv_has ls 3 [(0, .ref (ad 27)), (1, .int a1)] := hl
  unfold p_TW_writeNumber at hf
  refine lv_iload_n Fx.1 Fx.2.1 dX6_writeNumber_0 rfl (lv_at hl 1 rfl) ?_
  obtain ⟨u1, hu1, hf⟩ := bd_e hf
  refine ca_s (As := [.int a1]) (rest := []) Fx hC (k_TW_lengthOf hu1) (cSU 1 Fx.2.2.2.2 wd_490 wd_491 wd_8 wd_492 rfl rfl hd_TW_lengthOf ⟨Nat.le_of_ble_eq_true rfl, Nat.le_of_ble_eq_true rfl⟩) rfl hl.1 rfl (Nat.le_of_ble_eq_true rfl) dX6_writeNumber_1 (fun H locs hC => ?_)
  refine lv_istore_n (lv' := [(2, .int u1), (0, .ref (ad 27)), (1, .int a1)]) Fx.1 Fx.2.1 dX6_writeNumber_4 rfl hl (by decide) rfl (fun ls hl => ?_)
  refine lv_iload_n Fx.1 Fx.2.1 dX6_writeNumber_5 rfl (lv_at hl 0 rfl) ?_
  refine lv_iconst (v := (1 : Int32)) Fx.1 Fx.2.1 dX6_writeNumber_6 (by decide) ?_
  refine lv_icmp_le (tgt := 25) Fx.1 Fx.2.1 dX6_writeNumber_7 (by decide) (fun hc => ?_) (fun hc => ?_)
  · replace hf := ift hc hf
    exact s_TW_writeNumber_J25 Fx hret _ _ _ _  hf _ _ _ (lv_sub hl [1, 2, 0] rfl) hC
  · replace hf := iff_ hc hf
    refine lv_aload_n Fx.1 Fx.2.1 dX6_writeNumber_10 rfl (lv_at hl 1 rfl) ?_
    refine gg_TW_tape Fx hC wd_176 dX6_writeNumber_11 ?_
    refine lv_bipush (v := (48 : Int32)) Fx.1 Fx.2.1 dX6_writeNumber_14 (by decide) ?_
    refine lv_iload_n Fx.1 Fx.2.1 dX6_writeNumber_16 rfl (lv_at hl 2 rfl) ?_
    refine lv_bipush (v := (10 : Int32)) Fx.1 Fx.2.1 dX6_writeNumber_17 (by decide) ?_
    refine lv_idiv Fx.1 Fx.2.1 dX6_writeNumber_19 (by decide) ?_
    refine lv_iadd Fx.1 Fx.2.1 dX6_writeNumber_20 ?_
    obtain ⟨u2, hu2, hf⟩ := bd_e hf
    refine ca_i (As := [.int ((48 : Int32) + (a1 / (10 : Int32)))]) (rest := []) Fx hC (k_Ta_add hu2) (cVU 1 Fx.2.2.2.2 wd_497 wd_452 wd_453 wd_7 wd_454 rfl rfl hd_Ta_add ⟨Nat.le_of_ble_eq_true rfl, Nat.le_of_ble_eq_true rfl⟩) 25 rfl rfl rfl hl.1 rfl (Nat.le_of_ble_eq_true rfl) dX6_writeNumber_21 (fun H locs hC => ?_)
    refine lv_pop Fx.1 Fx.2.1 dX6_writeNumber_24 rfl ?_
    exact s_TW_writeNumber_J25 Fx hret _ _ _ _  hf _ _ _ (lv_sub hl [1, 2, 0] rfl) hC
/-! FretHands$TabWriter.writeLine(I)V -/
abbrev rm_TW_writeLine : Room := { frames := 4, cells := 0, slots := 0, locals := 89 }
theorem hd_TW_writeLine : yX6_writeLine.cls = RX6 ∧ yX6_writeLine.cls ≠ "java/lang/invoke/MethodHandle" ∧ yX6_writeLine.cls ≠ "java/lang/invoke/VarHandle" ∧ (parseMethodDescriptor yX6_writeLine.desc).map (fun d => d.parameters.length) = some 1 := by decide +kernel
noncomputable def p_TW_writeLine_L47 (K12 : (Int32 × Int32 × sG × sF) → Option (sG × sF)) (K47 : (Int32 × Int32 × Int32 × sG × sF) → Option (sG × sF)) (x1 : Int32) (x2 : Int32) (x4 : Int32) (g : sG) (f : sF) : Option (sG × sF) := (if x2 < 0 ∨ 40 ≤ x2.toNatClampNeg then none else (if (f 20 x2.toNatClampNeg) ≤ x4 then lt_ (x2 + (1 : Int32)) (fun v2 => K12 (x1, v2, g, f)) else Option.bind (p_Ta_add (45 : Int32) g f) (fun u3 => lt_ (x4 + (1 : Int32)) (fun v4 => K47 (x1, x2, v4, u3.2.1, u3.2.2)))))
set_option maxRecDepth 100000 in
set_option maxHeartbeats 4000000 in
theorem s_TW_writeLine_L47 {K12 : (Int32 × Int32 × sG × sF) → Option (sG × sF)} {K47 : (Int32 × Int32 × Int32 × sG × sF) → Option (sG × sF)} {p : Program} {l : Launch} {e : Env} {s : State} {m : MethodId} {args : Array Value} {below : List Frame} {meth : Method} {c : Code} {Q : State → Prop} {D : va_G} {ad : Nat → Nat} {cy : Nat → ClassId} {A : Nat → Prop} {H0 : Heap} {u : sG × sF} (Fx : CallFix p m c cX6_writeLine 5 s args (Cond.code yX6_writeLine cX6_writeLine 5 none :: wU) RX6) (hret : mRv p l e rm_TW_writeLine s m args below meth c Q D (cT cy) (cW ad cy) A H0 cX6_writeLine u) (hK12 : ∀ (z : Int32 × Int32 × sG × sF), K12 z = some u → ∀ (ls : Array Slot) (H : Heap) (locs : List Loc), lv_has ls 5 [(0, .ref (ad 27)), (1, .int z.1), (2, .int z.2.1)] → wH D (cT cy) (cW ad cy) A H0 s z.2.2.1 z.2.2.2 H locs → W p l e rm_TW_writeLine s m args below meth c H locs 0 0 Q (F0 m 12 ls [])) (hK47 : ∀ (z : Int32 × Int32 × Int32 × sG × sF), K47 z = some u → ∀ (ls : Array Slot) (H : Heap) (locs : List Loc), lv_has ls 5 [(0, .ref (ad 27)), (1, .int z.1), (2, .int z.2.1), (4, .int z.2.2.1)] → wH D (cT cy) (cW ad cy) A H0 s z.2.2.2.1 z.2.2.2.2 H locs → W p l e rm_TW_writeLine s m args below meth c H locs 0 0 Q (F0 m 47 ls [])) (x1 : Int32) (x2 : Int32) (x4 : Int32) (g : sG) (f : sF) (hf : p_TW_writeLine_L47 K12 K47 x1 x2 x4 g f = some u) : ∀ (ls : Array Slot) (H : Heap) (locs : List Loc), lv_has ls 5 [(0, .ref (ad 27)), (1, .int x1), (2, .int x2), (4, .int x4)] → wH D (cT cy) (cW ad cy) A H0 s g f H locs → W p l e rm_TW_writeLine s m args below meth c H locs 0 0 Q (F0 m 47 ls []) := by
  intro ls H locs hl hC
  unfold p_TW_writeLine_L47 at hf
  refine lv_iload Fx.1 Fx.2.1 dX6_writeLine_47 (lv_at hl 3 rfl) ?_
  refine lv_aload_n Fx.1 Fx.2.1 dX6_writeLine_49 rfl (lv_at hl 0 rfl) ?_
  refine gg_TW_widths Fx hC wd_177 dX6_writeLine_50 ?_
  refine lv_iload_n Fx.1 Fx.2.1 dX6_writeLine_53 rfl (lv_at hl 2 rfl) ?_
  obtain ⟨hi1, hf⟩ := gd_e hf
  refine ld_TW_widths Fx hC hi1 dX6_writeLine_54 ?_
  refine lv_icmp_ge (tgt := 74) Fx.1 Fx.2.1 dX6_writeLine_55 (by decide) (fun hc => ?_) (fun hc => ?_)
  · replace hf := ift hc hf
    obtain ⟨v2, ev2, hf⟩ := lt_e hf
    refine lv_iinc (v := v2) (lv' := [(2, .int v2), (0, .ref (ad 27)), (1, .int x1), (4, .int x4)]) Fx.1 Fx.2.1 dX6_writeLine_74 hl (k := 2) rfl ev2.symm (by decide) rfl (fun ls hl => ?_)
    refine lv_goto (tgt := 12) Fx.1 Fx.2.1 dX6_writeLine_77 (by decide) ?_
    exact hK12 _ hf _ _ _ (lv_sub hl [1, 2, 0] rfl) hC
  · replace hf := iff_ hc hf
    refine lv_aload_n Fx.1 Fx.2.1 dX6_writeLine_58 rfl (lv_at hl 0 rfl) ?_
    refine gg_TW_tape Fx hC wd_176 dX6_writeLine_59 ?_
    refine lv_bipush (v := (45 : Int32)) Fx.1 Fx.2.1 dX6_writeLine_62 (by decide) ?_
    obtain ⟨u3, hu3, hf⟩ := bd_e hf
    refine ca_i (As := [.int (45 : Int32)]) (rest := []) Fx hC (k_Ta_add hu3) (cVU 1 Fx.2.2.2.2 wd_497 wd_452 wd_453 wd_7 wd_454 rfl rfl hd_Ta_add ⟨Nat.le_of_ble_eq_true rfl, Nat.le_of_ble_eq_true rfl⟩) 25 rfl rfl rfl hl.1 rfl (Nat.le_of_ble_eq_true rfl) dX6_writeLine_64 (fun H locs hC => ?_)
    refine lv_pop Fx.1 Fx.2.1 dX6_writeLine_67 rfl ?_
    obtain ⟨v4, ev4, hf⟩ := lt_e hf
    refine lv_iinc (v := v4) (lv' := [(4, .int v4), (0, .ref (ad 27)), (1, .int x1), (2, .int x2)]) Fx.1 Fx.2.1 dX6_writeLine_68 hl (k := 3) rfl ev4.symm (by decide) rfl (fun ls hl => ?_)
    refine lv_goto (tgt := 47) Fx.1 Fx.2.1 dX6_writeLine_71 (by decide) ?_
    exact hK47 _ hf _ _ _ (lv_sub hl [1, 2, 3, 0] rfl) hC
set_option maxRecDepth 100000 in
set_option maxHeartbeats 4000000 in
theorem t_TW_writeLine_L47 {K12 : (Int32 × Int32 × sG × sF) → Option (sG × sF)} {p : Program} {l : Launch} {e : Env} {s : State} {m : MethodId} {args : Array Value} {below : List Frame} {meth : Method} {c : Code} {Q : State → Prop} {D : va_G} {ad : Nat → Nat} {cy : Nat → ClassId} {A : Nat → Prop} {H0 : Heap} {u : sG × sF} (Fx : CallFix p m c cX6_writeLine 5 s args (Cond.code yX6_writeLine cX6_writeLine 5 none :: wU) RX6) (hret : mRv p l e rm_TW_writeLine s m args below meth c Q D (cT cy) (cW ad cy) A H0 cX6_writeLine u) (hK12 : ∀ (z : Int32 × Int32 × sG × sF), K12 z = some u → ∀ (ls : Array Slot) (H : Heap) (locs : List Loc), lv_has ls 5 [(0, .ref (ad 27)), (1, .int z.1), (2, .int z.2.1)] → wH D (cT cy) (cW ad cy) A H0 s z.2.2.1 z.2.2.2 H locs → W p l e rm_TW_writeLine s m args below meth c H locs 0 0 Q (F0 m 12 ls [])) (n : Nat) (z : Int32 × Int32 × Int32 × sG × sF) (hz : itr (fun K z => p_TW_writeLine_L47 K12 K z.1 z.2.1 z.2.2.1 z.2.2.2.1 z.2.2.2.2) n z = some u) : ∀ (ls : Array Slot) (H : Heap) (locs : List Loc), lv_has ls 5 [(0, .ref (ad 27)), (1, .int z.1), (2, .int z.2.1), (4, .int z.2.2.1)] → wH D (cT cy) (cW ad cy) A H0 s z.2.2.2.1 z.2.2.2.2 H locs → W p l e rm_TW_writeLine s m args below meth c H locs 0 0 Q (F0 m 47 ls []) :=
  itr_all (B := fun K z => p_TW_writeLine_L47 K12 K z.1 z.2.1 z.2.2.1 z.2.2.2.1 z.2.2.2.2) (r := u) (fun z => ∀ (ls : Array Slot) (H : Heap) (locs : List Loc), lv_has ls 5 [(0, .ref (ad 27)), (1, .int z.1), (2, .int z.2.1), (4, .int z.2.2.1)] → wH D (cT cy) (cW ad cy) A H0 s z.2.2.2.1 z.2.2.2.2 H locs → W p l e rm_TW_writeLine s m args below meth c H locs 0 0 Q (F0 m 47 ls [])) (fun K hK z h => s_TW_writeLine_L47 (K47 := K) Fx hret hK12 hK z.1 z.2.1 z.2.2.1 z.2.2.2.1 z.2.2.2.2 h) n z hz
noncomputable def p_TW_writeLine_L12 (K12 : (Int32 × Int32 × sG × sF) → Option (sG × sF)) (x1 : Int32) (x2 : Int32) (g : sG) (f : sF) : Option (sG × sF) := (if (g 3) ≤ x2 then Option.bind (p_Ta_add (45 : Int32) g f) (fun u1 => Option.bind (p_Ta_add (124 : Int32) u1.2.1 u1.2.2) (fun u2 => Option.bind (p_Ta_add (10 : Int32) u2.2.1 u2.2.2) (fun u3 => some (u3.2.1, u3.2.2)))) else Option.bind (p_Ta_add (45 : Int32) g f) (fun u4 => Option.bind (p_TW_fretsBehindCapo x2 x1 u4.2.1 u4.2.2) (fun u5 => Option.bind (p_TW_writeNumber u5 u4.2.1 u4.2.2) (fun u6 => itr (fun K z => p_TW_writeLine_L47 K12 K z.1 z.2.1 z.2.2.1 z.2.2.2.1 z.2.2.2.2) FUEL (x1, x2, u6.1, u6.2.1, u6.2.2)))))
set_option maxRecDepth 100000 in
set_option maxHeartbeats 4000000 in
theorem s_TW_writeLine_L12 {K12 : (Int32 × Int32 × sG × sF) → Option (sG × sF)} {p : Program} {l : Launch} {e : Env} {s : State} {m : MethodId} {args : Array Value} {below : List Frame} {meth : Method} {c : Code} {Q : State → Prop} {D : va_G} {ad : Nat → Nat} {cy : Nat → ClassId} {A : Nat → Prop} {H0 : Heap} {u : sG × sF} (Fx : CallFix p m c cX6_writeLine 5 s args (Cond.code yX6_writeLine cX6_writeLine 5 none :: wU) RX6) (hret : mRv p l e rm_TW_writeLine s m args below meth c Q D (cT cy) (cW ad cy) A H0 cX6_writeLine u) (hK12 : ∀ (z : Int32 × Int32 × sG × sF), K12 z = some u → ∀ (ls : Array Slot) (H : Heap) (locs : List Loc), lv_has ls 5 [(0, .ref (ad 27)), (1, .int z.1), (2, .int z.2.1)] → wH D (cT cy) (cW ad cy) A H0 s z.2.2.1 z.2.2.2 H locs → W p l e rm_TW_writeLine s m args below meth c H locs 0 0 Q (F0 m 12 ls [])) (x1 : Int32) (x2 : Int32) (g : sG) (f : sF) (hf : p_TW_writeLine_L12 K12 x1 x2 g f = some u) : ∀ (ls : Array Slot) (H : Heap) (locs : List Loc), lv_has ls 5 [(0, .ref (ad 27)), (1, .int x1), (2, .int x2)] → wH D (cT cy) (cW ad cy) A H0 s g f H locs → W p l e rm_TW_writeLine s m args below meth c H locs 0 0 Q (F0 m 12 ls []) := by
  intro ls H locs hl hC
  unfold p_TW_writeLine_L12 at hf
  refine lv_iload_n Fx.1 Fx.2.1 dX6_writeLine_12 rfl (lv_at hl 2 rfl) ?_
  refine lv_aload_n Fx.1 Fx.2.1 dX6_writeLine_13 rfl (lv_at hl 0 rfl) ?_
  refine gg_TW_tune Fx hC wd_174 dX6_writeLine_14 ?_
  refine gg_Tu_events Fx hC wd_58 dX6_writeLine_17 ?_
  refine lv_icmp_ge (tgt := 80) Fx.1 Fx.2.1 dX6_writeLine_20 (by decide) (fun hc => ?_) (fun hc => ?_)
  · replace hf := ift hc hf
    refine lv_aload_n Fx.1 Fx.2.1 dX6_writeLine_80 rfl (lv_at hl 0 rfl) ?_
    refine gg_TW_tape Fx hC wd_176 dX6_writeLine_81 ?_
    refine lv_bipush (v := (45 : Int32)) Fx.1 Fx.2.1 dX6_writeLine_84 (by decide) ?_
    obtain ⟨u1, hu1, hf⟩ := bd_e hf
    refine ca_i (As := [.int (45 : Int32)]) (rest := []) Fx hC (k_Ta_add hu1) (cVU 1 Fx.2.2.2.2 wd_497 wd_452 wd_453 wd_7 wd_454 rfl rfl hd_Ta_add ⟨Nat.le_of_ble_eq_true rfl, Nat.le_of_ble_eq_true rfl⟩) 25 rfl rfl rfl hl.1 rfl (Nat.le_of_ble_eq_true rfl) dX6_writeLine_86 (fun H locs hC => ?_)
    refine lv_pop Fx.1 Fx.2.1 dX6_writeLine_89 rfl ?_
    refine lv_aload_n Fx.1 Fx.2.1 dX6_writeLine_90 rfl (lv_at hl 0 rfl) ?_
    refine gg_TW_tape Fx hC wd_176 dX6_writeLine_91 ?_
    refine lv_bipush (v := (124 : Int32)) Fx.1 Fx.2.1 dX6_writeLine_94 (by decide) ?_
    obtain ⟨u2, hu2, hf⟩ := bd_e hf
    refine ca_i (As := [.int (124 : Int32)]) (rest := []) Fx hC (k_Ta_add hu2) (cVU 1 Fx.2.2.2.2 wd_497 wd_452 wd_453 wd_7 wd_454 rfl rfl hd_Ta_add ⟨Nat.le_of_ble_eq_true rfl, Nat.le_of_ble_eq_true rfl⟩) 25 rfl rfl rfl hl.1 rfl (Nat.le_of_ble_eq_true rfl) dX6_writeLine_96 (fun H locs hC => ?_)
    refine lv_pop Fx.1 Fx.2.1 dX6_writeLine_99 rfl ?_
    refine lv_aload_n Fx.1 Fx.2.1 dX6_writeLine_100 rfl (lv_at hl 0 rfl) ?_
    refine gg_TW_tape Fx hC wd_176 dX6_writeLine_101 ?_
    refine lv_bipush (v := (10 : Int32)) Fx.1 Fx.2.1 dX6_writeLine_104 (by decide) ?_
    obtain ⟨u3, hu3, hf⟩ := bd_e hf
    refine ca_i (As := [.int (10 : Int32)]) (rest := []) Fx hC (k_Ta_add hu3) (cVU 1 Fx.2.2.2.2 wd_497 wd_452 wd_453 wd_7 wd_454 rfl rfl hd_Ta_add ⟨Nat.le_of_ble_eq_true rfl, Nat.le_of_ble_eq_true rfl⟩) 25 rfl rfl rfl hl.1 rfl (Nat.le_of_ble_eq_true rfl) dX6_writeLine_106 (fun H locs hC => ?_)
    refine lv_pop Fx.1 Fx.2.1 dX6_writeLine_109 rfl ?_
    obtain rfl := Option.some.inj hf
    exact hret _ _ _ _ dX6_writeLine_110 hC
  · replace hf := iff_ hc hf
    refine lv_aload_n Fx.1 Fx.2.1 dX6_writeLine_23 rfl (lv_at hl 0 rfl) ?_
    refine gg_TW_tape Fx hC wd_176 dX6_writeLine_24 ?_
    refine lv_bipush (v := (45 : Int32)) Fx.1 Fx.2.1 dX6_writeLine_27 (by decide) ?_
    obtain ⟨u4, hu4, hf⟩ := bd_e hf
    refine ca_i (As := [.int (45 : Int32)]) (rest := []) Fx hC (k_Ta_add hu4) (cVU 1 Fx.2.2.2.2 wd_497 wd_452 wd_453 wd_7 wd_454 rfl rfl hd_Ta_add ⟨Nat.le_of_ble_eq_true rfl, Nat.le_of_ble_eq_true rfl⟩) 25 rfl rfl rfl hl.1 rfl (Nat.le_of_ble_eq_true rfl) dX6_writeLine_29 (fun H locs hC => ?_)
    refine lv_pop Fx.1 Fx.2.1 dX6_writeLine_32 rfl ?_
    refine lv_aload_n Fx.1 Fx.2.1 dX6_writeLine_33 rfl (lv_at hl 0 rfl) ?_
    refine lv_aload_n Fx.1 Fx.2.1 dX6_writeLine_34 rfl (lv_at hl 0 rfl) ?_
    refine lv_iload_n Fx.1 Fx.2.1 dX6_writeLine_35 rfl (lv_at hl 2 rfl) ?_
    refine lv_iload_n Fx.1 Fx.2.1 dX6_writeLine_36 rfl (lv_at hl 1 rfl) ?_
    obtain ⟨u5, hu5, hf⟩ := bd_e hf
    refine ca_i (As := [.int x2, .int x1]) (rest := [.ref (ad 27)]) Fx hC (k_TW_fretsBehindCapo hu5) (cVU 2 Fx.2.2.2.2 wd_482 wd_483 wd_861 wd_8 wd_484 rfl rfl hd_TW_fretsBehindCapo ⟨Nat.le_of_ble_eq_true rfl, Nat.le_of_ble_eq_true rfl⟩) 27 rfl rfl rfl hl.1 rfl (Nat.le_of_ble_eq_true rfl) dX6_writeLine_37 (fun H locs hC => ?_)
    obtain ⟨u6, hu6, hf⟩ := bd_e hf
    refine ca_i (As := [.int u5]) (rest := []) Fx hC (k_TW_writeNumber hu6) (cVU 1 Fx.2.2.2.2 wd_498 wd_499 wd_863 wd_8 wd_500 rfl rfl hd_TW_writeNumber ⟨Nat.le_of_ble_eq_true rfl, Nat.le_of_ble_eq_true rfl⟩) 27 rfl rfl rfl hl.1 rfl (Nat.le_of_ble_eq_true rfl) dX6_writeLine_40 (fun H locs hC => ?_)
    refine lv_istore_n (lv' := [(3, .int u6.1), (0, .ref (ad 27)), (1, .int x1), (2, .int x2)]) Fx.1 Fx.2.1 dX6_writeLine_43 rfl hl (by decide) rfl (fun ls hl => ?_)
    refine lv_iload_n Fx.1 Fx.2.1 dX6_writeLine_44 rfl (lv_at hl 0 rfl) ?_
    refine lv_istore (lv' := [(4, .int u6.1), (3, .int u6.1), (0, .ref (ad 27)), (1, .int x1), (2, .int x2)]) Fx.1 Fx.2.1 dX6_writeLine_45 hl (by decide) rfl (fun ls hl => ?_)
    exact t_TW_writeLine_L47 Fx hret hK12 _ _ hf _ _ _ (lv_sub hl [2, 3, 4, 0] rfl) hC
set_option maxRecDepth 100000 in
set_option maxHeartbeats 4000000 in
theorem t_TW_writeLine_L12 {p : Program} {l : Launch} {e : Env} {s : State} {m : MethodId} {args : Array Value} {below : List Frame} {meth : Method} {c : Code} {Q : State → Prop} {D : va_G} {ad : Nat → Nat} {cy : Nat → ClassId} {A : Nat → Prop} {H0 : Heap} {u : sG × sF} (Fx : CallFix p m c cX6_writeLine 5 s args (Cond.code yX6_writeLine cX6_writeLine 5 none :: wU) RX6) (hret : mRv p l e rm_TW_writeLine s m args below meth c Q D (cT cy) (cW ad cy) A H0 cX6_writeLine u)  (n : Nat) (z : Int32 × Int32 × sG × sF) (hz : itr (fun K z => p_TW_writeLine_L12 K z.1 z.2.1 z.2.2.1 z.2.2.2) n z = some u) : ∀ (ls : Array Slot) (H : Heap) (locs : List Loc), lv_has ls 5 [(0, .ref (ad 27)), (1, .int z.1), (2, .int z.2.1)] → wH D (cT cy) (cW ad cy) A H0 s z.2.2.1 z.2.2.2 H locs → W p l e rm_TW_writeLine s m args below meth c H locs 0 0 Q (F0 m 12 ls []) :=
  itr_all (B := fun K z => p_TW_writeLine_L12 K z.1 z.2.1 z.2.2.1 z.2.2.2) (r := u) (fun z => ∀ (ls : Array Slot) (H : Heap) (locs : List Loc), lv_has ls 5 [(0, .ref (ad 27)), (1, .int z.1), (2, .int z.2.1)] → wH D (cT cy) (cW ad cy) A H0 s z.2.2.1 z.2.2.2 H locs → W p l e rm_TW_writeLine s m args below meth c H locs 0 0 Q (F0 m 12 ls [])) (fun K hK z h => s_TW_writeLine_L12 (K12 := K) Fx hret hK z.1 z.2.1 z.2.2.1 z.2.2.2 h) n z hz
noncomputable def p_TW_writeLine (a1 : Int32) (g : sG) (f : sF) : Option (sG × sF) := Option.bind (p_Ta_add (124 : Int32) g f) (fun u1 => itr (fun K z => p_TW_writeLine_L12 K z.1 z.2.1 z.2.2.1 z.2.2.2) FUEL (a1, (0 : Int32), u1.2.1, u1.2.2))
set_option maxRecDepth 100000 in
set_option maxHeartbeats 4000000 in
theorem k_TW_writeLine {l : Launch} {D : va_G} {ad : Nat → Nat} {cy : Nat → ClassId} {a1 : Int32} {u : sG × sF} {g : sG} {f : sF} (hf : p_TW_writeLine a1 g f = some u) : mMv l yX6_writeLine (Cond.code yX6_writeLine cX6_writeLine 5 none :: wU) rm_TW_writeLine D (cT cy) (cW ad cy) [.ref (ad 27), .int a1] g f u := by
  refine mk_v (by decide) rfl (Nat.le_of_ble_eq_true rfl) ?_
  intro p e s m below meth c Q A H0 Fx hret ls H locs hl hC
  replace hl : lv_has ls 5 [(0, .ref (ad 27)), (1, .int a1)] := hl
  unfold p_TW_writeLine at hf
  refine lv_aload_n Fx.1 Fx.2.1 dX6_writeLine_0 rfl (lv_at hl 0 rfl) ?_
  refine gg_TW_tape Fx hC wd_176 dX6_writeLine_1 ?_
  refine lv_bipush (v := (124 : Int32)) Fx.1 Fx.2.1 dX6_writeLine_4 (by decide) ?_
  obtain ⟨u1, hu1, hf⟩ := bd_e hf
  refine ca_i (As := [.int (124 : Int32)]) (rest := []) Fx hC (k_Ta_add hu1) (cVU 1 Fx.2.2.2.2 wd_497 wd_452 wd_453 wd_7 wd_454 rfl rfl hd_Ta_add ⟨Nat.le_of_ble_eq_true rfl, Nat.le_of_ble_eq_true rfl⟩) 25 rfl rfl rfl hl.1 rfl (Nat.le_of_ble_eq_true rfl) dX6_writeLine_6 (fun H locs hC => ?_)
  refine lv_pop Fx.1 Fx.2.1 dX6_writeLine_9 rfl ?_
  refine lv_iconst (v := (0 : Int32)) Fx.1 Fx.2.1 dX6_writeLine_10 (by decide) ?_
  refine lv_istore_n (lv' := [(2, .int (0 : Int32)), (0, .ref (ad 27)), (1, .int a1)]) Fx.1 Fx.2.1 dX6_writeLine_11 rfl hl (by decide) rfl (fun ls hl => ?_)
  exact t_TW_writeLine_L12 Fx hret _ _ hf _ _ _ (lv_sub hl [1, 2, 0] rfl) hC
