/-! FretHands$GripFinder.survey(I)V -/
abbrev rm_GF_survey : Room := { frames := 28, cells := 0, slots := 0, locals := 816 }
theorem hd_GF_survey : yX0_survey.cls = RX0 ∧ yX0_survey.cls ≠ "java/lang/invoke/MethodHandle" ∧ yX0_survey.cls ≠ "java/lang/invoke/VarHandle" ∧ (parseMethodDescriptor yX0_survey.desc).map (fun d => d.parameters.length) = some 1 := by decide +kernel
noncomputable def p_GF_survey (a1 : Int32) (g : sG) (f : sF) : Option (sG × sF) := lt_ (upd g 6 (-1 : Int32)) (fun g1 => Option.bind (p_GF_goThrough a1 g1 f) (fun u2 => some (u2.1, u2.2)))
set_option maxRecDepth 100000 in
set_option maxHeartbeats 4000000 in
theorem k_GF_survey {l : Launch} {D : va_G} {ad : Nat → Nat} {cy : Nat → ClassId} {a1 : Int32} {u : sG × sF} {g : sG} {f : sF} (hf : p_GF_survey a1 g f = some u) : mMv l yX0_survey (Cond.code yX0_survey cX0_survey 2 none :: wU) rm_GF_survey D (cT cy) (cW ad cy) [.ref (ad 13), .int a1] g f u := by
  refine mk_v (by decide) rfl (Nat.le_of_ble_eq_true rfl) ?_
  intro p e s m below meth c Q A H0 Fx hret ls H locs hl hC
  replace hl : lv_has ls 2 [(0, .ref (ad 13)), (1, .int a1)] := hl
  unfold p_GF_survey at hf
  refine lv_aload_n Fx.1 Fx.2.1 dX0_survey_0 rfl (lv_at hl 0 rfl) ?_
  refine lv_iconst (v := (-1 : Int32)) Fx.1 Fx.2.1 dX0_survey_1 (by decide) ?_
  obtain ⟨g1, eg1, hf⟩ := lt_e hf
  refine gp_GF_wantedPosition Fx hC wd_108 eg1 dX0_survey_2 (fun H locs hC => ?_)
  refine lv_aload_n Fx.1 Fx.2.1 dX0_survey_5 rfl (lv_at hl 0 rfl) ?_
  refine lv_iload_n Fx.1 Fx.2.1 dX0_survey_6 rfl (lv_at hl 1 rfl) ?_
  obtain ⟨u2, hu2, hf⟩ := bd_e hf
  refine ca_v (As := [.int a1]) (rest := []) Fx hC (k_GF_goThrough hu2) (cVU 1 Fx.2.2.2.2 wd_340 wd_341 wd_849 wd_5 wd_342 rfl rfl hd_GF_goThrough ⟨Nat.le_of_ble_eq_true rfl, Nat.le_of_ble_eq_true rfl⟩) 13 rfl rfl rfl hl.1 rfl (Nat.le_of_ble_eq_true rfl) dX0_survey_7 (fun H locs hC => ?_)
  obtain rfl := Option.some.inj hf
  exact hret _ _ _ _ dX0_survey_10 hC
/-! FretHands$GripFinder.countBelow(I)I -/
abbrev rm_GF_countBelow : Room := { frames := 0, cells := 0, slots := 0, locals := 0 }
theorem hd_GF_countBelow : yX0_countBelow.cls = RX0 ∧ yX0_countBelow.cls ≠ "java/lang/invoke/MethodHandle" ∧ yX0_countBelow.cls ≠ "java/lang/invoke/VarHandle" ∧ (parseMethodDescriptor yX0_countBelow.desc).map (fun d => d.parameters.length) = some 1 := by decide +kernel
noncomputable def p_GF_countBelow_L4 (K4 : (Int32 × Int32 × Int32) → Option (Int32)) (x1 : Int32) (x2 : Int32) (x3 : Int32) (g : sG) (f : sF) : Option (Int32) := (if x1 ≤ x3 then some x2 else (if (25 : Int32) ≤ x3 then some x2 else (if x3 < 0 ∨ 25 ≤ x3.toNatClampNeg then none else lt_ (x2 + (f 9 x3.toNatClampNeg)) (fun v2 => lt_ (x3 + (1 : Int32)) (fun v3 => K4 (x1, v2, v3))))))
set_option maxRecDepth 100000 in
set_option maxHeartbeats 4000000 in
theorem s_GF_countBelow_L4 {K4 : (Int32 × Int32 × Int32) → Option (Int32)} {p : Program} {l : Launch} {e : Env} {s : State} {m : MethodId} {args : Array Value} {below : List Frame} {meth : Method} {c : Code} {Q : State → Prop} {D : va_G} {ad : Nat → Nat} {cy : Nat → ClassId} {A : Nat → Prop} {H0 : Heap} {r : Int32} {g : sG} {f : sF} (Fx : CallFix p m c cX0_countBelow 4 s args (Cond.code yX0_countBelow cX0_countBelow 4 (some .int) :: wU) RX0) (hret : mRi p l e rm_GF_countBelow s m args below meth c Q D (cT cy) (cW ad cy) A H0 cX0_countBelow (r, g, f)) (hK4 : ∀ (z : Int32 × Int32 × Int32), K4 z = some r → ∀ (ls : Array Slot) (H : Heap) (locs : List Loc), lv_has ls 4 [(0, .ref (ad 13)), (1, .int z.1), (2, .int z.2.1), (3, .int z.2.2)] → wH D (cT cy) (cW ad cy) A H0 s g f H locs → W p l e rm_GF_countBelow s m args below meth c H locs 0 0 Q (F0 m 4 ls [])) (x1 : Int32) (x2 : Int32) (x3 : Int32) (hf : p_GF_countBelow_L4 K4 x1 x2 x3 g f = some r) : ∀ (ls : Array Slot) (H : Heap) (locs : List Loc), lv_has ls 4 [(0, .ref (ad 13)), (1, .int x1), (2, .int x2), (3, .int x3)] → wH D (cT cy) (cW ad cy) A H0 s g f H locs → W p l e rm_GF_countBelow s m args below meth c H locs 0 0 Q (F0 m 4 ls []) := by
  intro ls H locs hl hC
  unfold p_GF_countBelow_L4 at hf
  refine lv_iload_n Fx.1 Fx.2.1 dX0_countBelow_4 rfl (lv_at hl 3 rfl) ?_
  refine lv_iload_n Fx.1 Fx.2.1 dX0_countBelow_5 rfl (lv_at hl 1 rfl) ?_
  refine lv_icmp_ge (tgt := 30) Fx.1 Fx.2.1 dX0_countBelow_6 (by decide) (fun hc => ?_) (fun hc => ?_)
  · replace hf := ift hc hf
    refine lv_iload_n Fx.1 Fx.2.1 dX0_countBelow_30 rfl (lv_at hl 2 rfl) ?_
    obtain rfl := Option.some.inj hf
    exact hret _ _ _ _ dX0_countBelow_31 hC
  · replace hf := iff_ hc hf
    refine lv_iload_n Fx.1 Fx.2.1 dX0_countBelow_9 rfl (lv_at hl 3 rfl) ?_
    refine lv_bipush (v := (25 : Int32)) Fx.1 Fx.2.1 dX0_countBelow_10 (by decide) ?_
    refine lv_icmp_ge (tgt := 30) Fx.1 Fx.2.1 dX0_countBelow_12 (by decide) (fun hc => ?_) (fun hc => ?_)
    · replace hf := ift hc hf
      refine lv_iload_n Fx.1 Fx.2.1 dX0_countBelow_30 rfl (lv_at hl 2 rfl) ?_
      obtain rfl := Option.some.inj hf
      exact hret _ _ _ _ dX0_countBelow_31 hC
    · replace hf := iff_ hc hf
      refine lv_iload_n Fx.1 Fx.2.1 dX0_countBelow_15 rfl (lv_at hl 2 rfl) ?_
      refine lv_aload_n Fx.1 Fx.2.1 dX0_countBelow_16 rfl (lv_at hl 0 rfl) ?_
      refine gg_GF_counts Fx hC wd_94 dX0_countBelow_17 ?_
      refine lv_iload_n Fx.1 Fx.2.1 dX0_countBelow_20 rfl (lv_at hl 3 rfl) ?_
      obtain ⟨hi1, hf⟩ := gd_e hf
      refine ld_GF_counts Fx hC hi1 dX0_countBelow_21 ?_
      refine lv_iadd Fx.1 Fx.2.1 dX0_countBelow_22 ?_
      obtain ⟨v2, ev2, hf⟩ := lt_e hf
      refine tpi ev2 ?_
      refine lv_istore_n (lv' := [(2, .int v2), (0, .ref (ad 13)), (1, .int x1), (3, .int x3)]) Fx.1 Fx.2.1 dX0_countBelow_23 rfl hl (by decide) rfl (fun ls hl => ?_)
      obtain ⟨v3, ev3, hf⟩ := lt_e hf
      refine lv_iinc (v := v3) (lv' := [(3, .int v3), (2, .int v2), (0, .ref (ad 13)), (1, .int x1)]) Fx.1 Fx.2.1 dX0_countBelow_24 hl (k := 3) rfl ev3.symm (by decide) rfl (fun ls hl => ?_)
      refine lv_goto (tgt := 4) Fx.1 Fx.2.1 dX0_countBelow_27 (by decide) ?_
      exact hK4 _ hf _ _ _ (lv_sub hl [2, 3, 1, 0] rfl) hC
set_option maxRecDepth 100000 in
set_option maxHeartbeats 4000000 in
theorem t_GF_countBelow_L4 {p : Program} {l : Launch} {e : Env} {s : State} {m : MethodId} {args : Array Value} {below : List Frame} {meth : Method} {c : Code} {Q : State → Prop} {D : va_G} {ad : Nat → Nat} {cy : Nat → ClassId} {A : Nat → Prop} {H0 : Heap} {r : Int32} {g : sG} {f : sF} (Fx : CallFix p m c cX0_countBelow 4 s args (Cond.code yX0_countBelow cX0_countBelow 4 (some .int) :: wU) RX0) (hret : mRi p l e rm_GF_countBelow s m args below meth c Q D (cT cy) (cW ad cy) A H0 cX0_countBelow (r, g, f))  (n : Nat) (z : Int32 × Int32 × Int32) (hz : itr (fun K z => p_GF_countBelow_L4 K z.1 z.2.1 z.2.2 g f) n z = some r) : ∀ (ls : Array Slot) (H : Heap) (locs : List Loc), lv_has ls 4 [(0, .ref (ad 13)), (1, .int z.1), (2, .int z.2.1), (3, .int z.2.2)] → wH D (cT cy) (cW ad cy) A H0 s g f H locs → W p l e rm_GF_countBelow s m args below meth c H locs 0 0 Q (F0 m 4 ls []) :=
  itr_all (B := fun K z => p_GF_countBelow_L4 K z.1 z.2.1 z.2.2 g f) (r := r) (fun z => ∀ (ls : Array Slot) (H : Heap) (locs : List Loc), lv_has ls 4 [(0, .ref (ad 13)), (1, .int z.1), (2, .int z.2.1), (3, .int z.2.2)] → wH D (cT cy) (cW ad cy) A H0 s g f H locs → W p l e rm_GF_countBelow s m args below meth c H locs 0 0 Q (F0 m 4 ls [])) (fun K hK z h => s_GF_countBelow_L4 (K4 := K) Fx hret hK z.1 z.2.1 z.2.2 h) n z hz
noncomputable def p_GF_countBelow (a1 : Int32) (g : sG) (f : sF) : Option (Int32) := itr (fun K z => p_GF_countBelow_L4 K z.1 z.2.1 z.2.2 g f) FUEL (a1, (0 : Int32), (0 : Int32))
set_option maxRecDepth 100000 in
set_option maxHeartbeats 4000000 in
theorem k_GF_countBelow {l : Launch} {D : va_G} {ad : Nat → Nat} {cy : Nat → ClassId} {a1 : Int32} {r : Int32} {g : sG} {f : sF} (hf : p_GF_countBelow a1 g f = some r) : mMi l yX0_countBelow (Cond.code yX0_countBelow cX0_countBelow 4 (some .int) :: wU) rm_GF_countBelow D (cT cy) (cW ad cy) [.ref (ad 13), .int a1] g f (r, g, f) := by
  refine mk_i (by decide) rfl (Nat.le_of_ble_eq_true rfl) ?_
  intro p e s m below meth c Q A H0 Fx hret ls H locs hl hC
  replace hl : lv_has ls 4 [(0, .ref (ad 13)), (1, .int a1)] := hl
  unfold p_GF_countBelow at hf
  refine lv_iconst (v := (0 : Int32)) Fx.1 Fx.2.1 dX0_countBelow_0 (by decide) ?_
  refine lv_istore_n (lv' := [(2, .int (0 : Int32)), (0, .ref (ad 13)), (1, .int a1)]) Fx.1 Fx.2.1 dX0_countBelow_1 rfl hl (by decide) rfl (fun ls hl => ?_)
  refine lv_iconst (v := (0 : Int32)) Fx.1 Fx.2.1 dX0_countBelow_2 (by decide) ?_
  refine lv_istore_n (lv' := [(3, .int (0 : Int32)), (2, .int (0 : Int32)), (0, .ref (ad 13)), (1, .int a1)]) Fx.1 Fx.2.1 dX0_countBelow_3 rfl hl (by decide) rfl (fun ls hl => ?_)
  exact t_GF_countBelow_L4 Fx hret _ _ hf _ _ _ (lv_sub hl [2, 3, 1, 0] rfl) hC
/-! FretHands.grips(I)I -/
abbrev rm_FH_grips : Room := { frames := 29, cells := 0, slots := 0, locals := 837 }
theorem hd_FH_grips : yX9_grips.cls = RX9 ∧ yX9_grips.cls ≠ "java/lang/invoke/MethodHandle" ∧ yX9_grips.cls ≠ "java/lang/invoke/VarHandle" ∧ (parseMethodDescriptor yX9_grips.desc).map (fun d => d.parameters.length) = some 1 := by decide +kernel
noncomputable def p_FH_grips (a1 : Int32) (g : sG) (f : sF) : Option (Int32 × sG × sF) := Option.bind (p_Tu_hasEvent a1 g f) (fun u1 => (if u1 = 0 then some ((-3 : Int32), g, f) else Option.bind (p_GF_survey a1 g f) (fun u2 => Option.bind (p_GF_countBelow (25 : Int32) u2.1 u2.2) (fun u3 => some (u3, u2.1, u2.2)))))
set_option maxRecDepth 100000 in
set_option maxHeartbeats 4000000 in
theorem k_FH_grips {l : Launch} {D : va_G} {ad : Nat → Nat} {cy : Nat → ClassId} {a1 : Int32} {u : Int32 × sG × sF} {g : sG} {f : sF} (hf : p_FH_grips a1 g f = some u) : mMi l yX9_grips (Cond.code yX9_grips cX9_grips 2 (some .int) :: wU) rm_FH_grips D (cT cy) (cW ad cy) [.ref (ad 0), .int a1] g f u := by
  refine mk_i (by decide) rfl (Nat.le_of_ble_eq_true rfl) ?_
  intro p e s m below meth c Q A H0 Fx hret ls H locs hl hC
  replace hl : lv_has ls 2 [(0, .ref (ad 0)), (1, .int a1)] := hl
  unfold p_FH_grips at hf
  refine lv_aload_n Fx.1 Fx.2.1 dX9_grips_0 rfl (lv_at hl 0 rfl) ?_
  refine gg_FH_tune Fx hC wd_204 dX9_grips_1 ?_
  refine lv_iload_n Fx.1 Fx.2.1 dX9_grips_4 rfl (lv_at hl 1 rfl) ?_
  obtain ⟨u1, hu1, hf⟩ := bd_e hf
  refine ca_i (As := [.int a1]) (rest := []) Fx hC (k_Tu_hasEvent hu1) (cVU 1 Fx.2.2.2.2 wd_292 wd_276 wd_277 wd_3 wd_278 rfl rfl hd_Tu_hasEvent ⟨Nat.le_of_ble_eq_true rfl, Nat.le_of_ble_eq_true rfl⟩) 4 rfl rfl rfl hl.1 rfl (Nat.le_of_ble_eq_true rfl) dX9_grips_5 (fun H locs hC => ?_)
  refine lv_if_ne (tgt := 14) Fx.1 Fx.2.1 dX9_grips_8 (by decide) (fun hc => ?_) (fun hc => ?_)
  · replace hf := iff_ hc hf
    refine lv_aload_n Fx.1 Fx.2.1 dX9_grips_14 rfl (lv_at hl 0 rfl) ?_
    refine gg_FH_finder Fx hC wd_206 dX9_grips_15 ?_
    refine lv_iload_n Fx.1 Fx.2.1 dX9_grips_18 rfl (lv_at hl 1 rfl) ?_
    obtain ⟨u2, hu2, hf⟩ := bd_e hf
    refine ca_v (As := [.int a1]) (rest := []) Fx hC (k_GF_survey hu2) (cVU 1 Fx.2.2.2.2 wd_336 wd_337 wd_338 wd_5 wd_339 rfl rfl hd_GF_survey ⟨Nat.le_of_ble_eq_true rfl, Nat.le_of_ble_eq_true rfl⟩) 13 rfl rfl rfl hl.1 rfl (Nat.le_of_ble_eq_true rfl) dX9_grips_19 (fun H locs hC => ?_)
    refine lv_aload_n Fx.1 Fx.2.1 dX9_grips_22 rfl (lv_at hl 0 rfl) ?_
    refine gg_FH_finder Fx hC wd_206 dX9_grips_23 ?_
    refine lv_bipush (v := (25 : Int32)) Fx.1 Fx.2.1 dX9_grips_26 (by decide) ?_
    obtain ⟨u3, hu3, hf⟩ := bd_e hf
    refine ca_i (As := [.int (25 : Int32)]) (rest := []) Fx hC (k_GF_countBelow hu3) (cVU 1 Fx.2.2.2.2 wd_368 wd_369 wd_370 wd_5 wd_371 rfl rfl hd_GF_countBelow ⟨Nat.le_of_ble_eq_true rfl, Nat.le_of_ble_eq_true rfl⟩) 13 rfl rfl rfl hl.1 rfl (Nat.le_of_ble_eq_true rfl) dX9_grips_28 (fun H locs hC => ?_)
    obtain rfl := Option.some.inj hf
    exact hret _ _ _ _ dX9_grips_31 hC
  · replace hf := ift hc hf
    refine lv_bipush (v := (-3 : Int32)) Fx.1 Fx.2.1 dX9_grips_11 (by decide) ?_
    obtain rfl := Option.some.inj hf
    exact hret _ _ _ _ dX9_grips_13 hC
/-! FretHands$GripFinder.findNumber(II)Z -/
abbrev rm_GF_findNumber : Room := { frames := 29, cells := 0, slots := 0, locals := 837 }
theorem hd_GF_findNumber : yX0_findNumber.cls = RX0 ∧ yX0_findNumber.cls ≠ "java/lang/invoke/MethodHandle" ∧ yX0_findNumber.cls ≠ "java/lang/invoke/VarHandle" ∧ (parseMethodDescriptor yX0_findNumber.desc).map (fun d => d.parameters.length) = some 2 := by decide +kernel
noncomputable def p_GF_findNumber_L16 (K16 : (Int32 × Int32 × Int32 × sG × sF) → Option (Int32 × sG × sF)) (x1 : Int32) (x3 : Int32) (x4 : Int32) (g : sG) (f : sF) : Option (Int32 × sG × sF) := (if (25 : Int32) ≤ x4 then some ((0 : Int32), g, f) else (if x4 < 0 ∨ 25 ≤ x4.toNatClampNeg then none else (if (f 9 x4.toNatClampNeg) ≤ x3 then (if x4 < 0 ∨ 25 ≤ x4.toNatClampNeg then none else lt_ (x3 - (f 9 x4.toNatClampNeg)) (fun v3 => lt_ (x4 + (1 : Int32)) (fun v4 => K16 (x1, v3, v4, g, f)))) else lt_ (upd g 6 x4) (fun g5 => lt_ (upd g5 7 x3) (fun g6 => Option.bind (p_GF_goThrough x1 g6 f) (fun u7 => some ((1 : Int32), u7.1, u7.2)))))))
set_option maxRecDepth 100000 in
set_option maxHeartbeats 4000000 in
theorem s_GF_findNumber_L16 {K16 : (Int32 × Int32 × Int32 × sG × sF) → Option (Int32 × sG × sF)} {p : Program} {l : Launch} {e : Env} {s : State} {m : MethodId} {args : Array Value} {below : List Frame} {meth : Method} {c : Code} {Q : State → Prop} {D : va_G} {ad : Nat → Nat} {cy : Nat → ClassId} {A : Nat → Prop} {H0 : Heap} {u : Int32 × sG × sF} (Fx : CallFix p m c cX0_findNumber 5 s args (Cond.code yX0_findNumber cX0_findNumber 5 (some .boolean) :: wU) RX0) (hret : mRz p l e rm_GF_findNumber s m args below meth c Q D (cT cy) (cW ad cy) A H0 cX0_findNumber u) (hK16 : ∀ (z : Int32 × Int32 × Int32 × sG × sF), K16 z = some u → ∀ (ls : Array Slot) (H : Heap) (locs : List Loc), lv_has ls 5 [(0, .ref (ad 13)), (1, .int z.1), (3, .int z.2.1), (4, .int z.2.2.1)] → wH D (cT cy) (cW ad cy) A H0 s z.2.2.2.1 z.2.2.2.2 H locs → W p l e rm_GF_findNumber s m args below meth c H locs 0 0 Q (F0 m 16 ls [])) (x1 : Int32) (x3 : Int32) (x4 : Int32) (g : sG) (f : sF) (hf : p_GF_findNumber_L16 K16 x1 x3 x4 g f = some u) : ∀ (ls : Array Slot) (H : Heap) (locs : List Loc), lv_has ls 5 [(0, .ref (ad 13)), (1, .int x1), (3, .int x3), (4, .int x4)] → wH D (cT cy) (cW ad cy) A H0 s g f H locs → W p l e rm_GF_findNumber s m args below meth c H locs 0 0 Q (F0 m 16 ls []) := by
  intro ls H locs hl hC
  unfold p_GF_findNumber_L16 at hf
  refine lv_iload Fx.1 Fx.2.1 dX0_findNumber_16 (lv_at hl 3 rfl) ?_
  refine lv_bipush (v := (25 : Int32)) Fx.1 Fx.2.1 dX0_findNumber_18 (by decide) ?_
  refine lv_icmp_ge (tgt := 68) Fx.1 Fx.2.1 dX0_findNumber_20 (by decide) (fun hc => ?_) (fun hc => ?_)
  · replace hf := ift hc hf
    refine lv_iconst (v := (0 : Int32)) Fx.1 Fx.2.1 dX0_findNumber_68 (by decide) ?_
    obtain rfl := Option.some.inj hf
    exact hret _ _ _ _ dX0_findNumber_69 z01_0 hC
  · replace hf := iff_ hc hf
    refine lv_iload_n Fx.1 Fx.2.1 dX0_findNumber_23 rfl (lv_at hl 2 rfl) ?_
    refine lv_aload_n Fx.1 Fx.2.1 dX0_findNumber_24 rfl (lv_at hl 0 rfl) ?_
    refine gg_GF_counts Fx hC wd_94 dX0_findNumber_25 ?_
    refine lv_iload Fx.1 Fx.2.1 dX0_findNumber_28 (lv_at hl 3 rfl) ?_
    obtain ⟨hi1, hf⟩ := gd_e hf
    refine ld_GF_counts Fx hC hi1 dX0_findNumber_30 ?_
    refine lv_icmp_ge (tgt := 52) Fx.1 Fx.2.1 dX0_findNumber_31 (by decide) (fun hc => ?_) (fun hc => ?_)
    · replace hf := ift hc hf
      refine lv_iload_n Fx.1 Fx.2.1 dX0_findNumber_52 rfl (lv_at hl 2 rfl) ?_
      refine lv_aload_n Fx.1 Fx.2.1 dX0_findNumber_53 rfl (lv_at hl 0 rfl) ?_
      refine gg_GF_counts Fx hC wd_94 dX0_findNumber_54 ?_
      refine lv_iload Fx.1 Fx.2.1 dX0_findNumber_57 (lv_at hl 3 rfl) ?_
      obtain ⟨hi2, hf⟩ := gd_e hf
      refine ld_GF_counts Fx hC hi2 dX0_findNumber_59 ?_
      refine lv_isub Fx.1 Fx.2.1 dX0_findNumber_60 ?_
      obtain ⟨v3, ev3, hf⟩ := lt_e hf
      refine tpi ev3 ?_
      refine lv_istore_n (lv' := [(3, .int v3), (0, .ref (ad 13)), (1, .int x1), (4, .int x4)]) Fx.1 Fx.2.1 dX0_findNumber_61 rfl hl (by decide) rfl (fun ls hl => ?_)
      obtain ⟨v4, ev4, hf⟩ := lt_e hf
      refine lv_iinc (v := v4) (lv' := [(4, .int v4), (3, .int v3), (0, .ref (ad 13)), (1, .int x1)]) Fx.1 Fx.2.1 dX0_findNumber_62 hl (k := 3) rfl ev4.symm (by decide) rfl (fun ls hl => ?_)
      refine lv_goto (tgt := 16) Fx.1 Fx.2.1 dX0_findNumber_65 (by decide) ?_
      exact hK16 _ hf _ _ _ (lv_sub hl [2, 3, 1, 0] rfl) hC
    · replace hf := iff_ hc hf
      refine lv_aload_n Fx.1 Fx.2.1 dX0_findNumber_34 rfl (lv_at hl 0 rfl) ?_
      refine lv_iload Fx.1 Fx.2.1 dX0_findNumber_35 (lv_at hl 3 rfl) ?_
      obtain ⟨g5, eg5, hf⟩ := lt_e hf
      refine gp_GF_wantedPosition Fx hC wd_108 eg5 dX0_findNumber_37 (fun H locs hC => ?_)
      refine lv_aload_n Fx.1 Fx.2.1 dX0_findNumber_40 rfl (lv_at hl 0 rfl) ?_
      refine lv_iload_n Fx.1 Fx.2.1 dX0_findNumber_41 rfl (lv_at hl 2 rfl) ?_
      obtain ⟨g6, eg6, hf⟩ := lt_e hf
      refine gp_GF_wantedPlace Fx hC wd_110 eg6 dX0_findNumber_42 (fun H locs hC => ?_)
      refine lv_aload_n Fx.1 Fx.2.1 dX0_findNumber_45 rfl (lv_at hl 0 rfl) ?_
      refine lv_iload_n Fx.1 Fx.2.1 dX0_findNumber_46 rfl (lv_at hl 1 rfl) ?_
      obtain ⟨u7, hu7, hf⟩ := bd_e hf
      refine ca_v (As := [.int x1]) (rest := []) Fx hC (k_GF_goThrough hu7) (cVU 1 Fx.2.2.2.2 wd_340 wd_341 wd_849 wd_5 wd_342 rfl rfl hd_GF_goThrough ⟨Nat.le_of_ble_eq_true rfl, Nat.le_of_ble_eq_true rfl⟩) 13 rfl rfl rfl hl.1 rfl (Nat.le_of_ble_eq_true rfl) dX0_findNumber_47 (fun H locs hC => ?_)
      refine lv_iconst (v := (1 : Int32)) Fx.1 Fx.2.1 dX0_findNumber_50 (by decide) ?_
      obtain rfl := Option.some.inj hf
      exact hret _ _ _ _ dX0_findNumber_51 z01_1 hC
set_option maxRecDepth 100000 in
set_option maxHeartbeats 4000000 in
theorem t_GF_findNumber_L16 {p : Program} {l : Launch} {e : Env} {s : State} {m : MethodId} {args : Array Value} {below : List Frame} {meth : Method} {c : Code} {Q : State → Prop} {D : va_G} {ad : Nat → Nat} {cy : Nat → ClassId} {A : Nat → Prop} {H0 : Heap} {u : Int32 × sG × sF} (Fx : CallFix p m c cX0_findNumber 5 s args (Cond.code yX0_findNumber cX0_findNumber 5 (some .boolean) :: wU) RX0) (hret : mRz p l e rm_GF_findNumber s m args below meth c Q D (cT cy) (cW ad cy) A H0 cX0_findNumber u)  (n : Nat) (z : Int32 × Int32 × Int32 × sG × sF) (hz : itr (fun K z => p_GF_findNumber_L16 K z.1 z.2.1 z.2.2.1 z.2.2.2.1 z.2.2.2.2) n z = some u) : ∀ (ls : Array Slot) (H : Heap) (locs : List Loc), lv_has ls 5 [(0, .ref (ad 13)), (1, .int z.1), (3, .int z.2.1), (4, .int z.2.2.1)] → wH D (cT cy) (cW ad cy) A H0 s z.2.2.2.1 z.2.2.2.2 H locs → W p l e rm_GF_findNumber s m args below meth c H locs 0 0 Q (F0 m 16 ls []) :=
  itr_all (B := fun K z => p_GF_findNumber_L16 K z.1 z.2.1 z.2.2.1 z.2.2.2.1 z.2.2.2.2) (r := u) (fun z => ∀ (ls : Array Slot) (H : Heap) (locs : List Loc), lv_has ls 5 [(0, .ref (ad 13)), (1, .int z.1), (3, .int z.2.1), (4, .int z.2.2.1)] → wH D (cT cy) (cW ad cy) A H0 s z.2.2.2.1 z.2.2.2.2 H locs → W p l e rm_GF_findNumber s m args below meth c H locs 0 0 Q (F0 m 16 ls [])) (fun K hK z h => s_GF_findNumber_L16 (K16 := K) Fx hret hK z.1 z.2.1 z.2.2.1 z.2.2.2.1 z.2.2.2.2 h) n z hz
noncomputable def p_GF_findNumber (a1 : Int32) (a2 : Int32) (g : sG) (f : sF) : Option (Int32 × sG × sF) := Option.bind (p_GF_survey a1 g f) (fun u1 => (if 0 ≤ a2 then itr (fun K z => p_GF_findNumber_L16 K z.1 z.2.1 z.2.2.1 z.2.2.2.1 z.2.2.2.2) FUEL (a1, a2, (0 : Int32), u1.1, u1.2) else some ((0 : Int32), u1.1, u1.2)))
set_option maxRecDepth 100000 in
set_option maxHeartbeats 4000000 in
theorem k_GF_findNumber {l : Launch} {D : va_G} {ad : Nat → Nat} {cy : Nat → ClassId} {a1 : Int32} {a2 : Int32} {u : Int32 × sG × sF} {g : sG} {f : sF} (hf : p_GF_findNumber a1 a2 g f = some u) : mMi l yX0_findNumber (Cond.code yX0_findNumber cX0_findNumber 5 (some .boolean) :: wU) rm_GF_findNumber D (cT cy) (cW ad cy) [.ref (ad 13), .int a1, .int a2] g f u := by
  refine mk_z (by decide) rfl (Nat.le_of_ble_eq_true rfl) ?_
  intro p e s m below meth c Q A H0 Fx hret ls H locs hl hC
  replace hl : lv_has ls 5 [(0, .ref (ad 13)), (1, .int a1), (2, .int a2)] := hl
  unfold p_GF_findNumber at hf
  refine lv_aload_n Fx.1 Fx.2.1 dX0_findNumber_0 rfl (lv_at hl 0 rfl) ?_
  refine lv_iload_n Fx.1 Fx.2.1 dX0_findNumber_1 rfl (lv_at hl 1 rfl) ?_
  obtain ⟨u1, hu1, hf⟩ := bd_e hf
  refine ca_v (As := [.int a1]) (rest := []) Fx hC (k_GF_survey hu1) (cVU 1 Fx.2.2.2.2 wd_380 wd_337 wd_338 wd_5 wd_339 rfl rfl hd_GF_survey ⟨Nat.le_of_ble_eq_true rfl, Nat.le_of_ble_eq_true rfl⟩) 13 rfl rfl rfl hl.1 rfl (Nat.le_of_ble_eq_true rfl) dX0_findNumber_2 (fun H locs hC => ?_)
  refine lv_iload_n Fx.1 Fx.2.1 dX0_findNumber_5 rfl (lv_at hl 2 rfl) ?_
  refine lv_if_ge (tgt := 11) Fx.1 Fx.2.1 dX0_findNumber_6 (by decide) (fun hc => ?_) (fun hc => ?_)
  · replace hf := ift hc hf
    refine lv_iload_n Fx.1 Fx.2.1 dX0_findNumber_11 rfl (lv_at hl 2 rfl) ?_
    refine lv_istore_n (lv' := [(3, .int a2), (0, .ref (ad 13)), (1, .int a1), (2, .int a2)]) Fx.1 Fx.2.1 dX0_findNumber_12 rfl hl (by decide) rfl (fun ls hl => ?_)
    refine lv_iconst (v := (0 : Int32)) Fx.1 Fx.2.1 dX0_findNumber_13 (by decide) ?_
    refine lv_istore (lv' := [(4, .int (0 : Int32)), (3, .int a2), (0, .ref (ad 13)), (1, .int a1), (2, .int a2)]) Fx.1 Fx.2.1 dX0_findNumber_14 hl (by decide) rfl (fun ls hl => ?_)
    exact t_GF_findNumber_L16 Fx hret _ _ hf _ _ _ (lv_sub hl [2, 3, 1, 0] rfl) hC
  · replace hf := iff_ hc hf
    refine lv_iconst (v := (0 : Int32)) Fx.1 Fx.2.1 dX0_findNumber_9 (by decide) ?_
    obtain rfl := Option.some.inj hf
    exact hret _ _ _ _ dX0_findNumber_10 z01_0 hC
/-! FretHands$StringRow.stringIn(II)I -/
abbrev rm_SR_stringIn : Room := { frames := 0, cells := 0, slots := 0, locals := 0 }
theorem hd_SR_stringIn : yX4_stringIn.cls ≠ "java/lang/invoke/MethodHandle" ∧ yX4_stringIn.cls ≠ "java/lang/invoke/VarHandle" ∧ (parseMethodDescriptor yX4_stringIn.desc).map (fun d => d.parameters.length) = some 2 := by decide +kernel
noncomputable def p_SR_stringIn (a1 : Int32) (a2 : Int32) (g : sG) (f : sF) : Option (Int32) := some ((a1 >>> (((3 : Int32) * a2) &&& (31 : Int32))) &&& (7 : Int32))
set_option maxRecDepth 100000 in
set_option maxHeartbeats 4000000 in
theorem k_SR_stringIn {l : Launch} {D : va_G} {ad : Nat → Nat} {cy : Nat → ClassId} {a1 : Int32} {a2 : Int32} {r : Int32} {g : sG} {f : sF} (hf : p_SR_stringIn a1 a2 g f = some r) : mMi l yX4_stringIn (Cond.code yX4_stringIn cX4_stringIn 2 (some .int) :: wU) rm_SR_stringIn D (cT cy) (cW ad cy) [.int a1, .int a2] g f (r, g, f) := by
  refine mk_i (by decide) rfl (Nat.le_of_ble_eq_true rfl) ?_
  intro p e s m below meth c Q A H0 Fx hret ls H locs hl hC
  replace hl : lv_has ls 2 [(0, .int a1), (1, .int a2)] := hl
  unfold p_SR_stringIn at hf
  refine lv_iload_n Fx.1 Fx.2.1 dX4_stringIn_0 rfl (lv_at hl 0 rfl) ?_
  refine lv_iconst (v := (3 : Int32)) Fx.1 Fx.2.1 dX4_stringIn_1 (by decide) ?_
  refine lv_iload_n Fx.1 Fx.2.1 dX4_stringIn_2 rfl (lv_at hl 1 rfl) ?_
  refine lv_imul Fx.1 Fx.2.1 dX4_stringIn_3 ?_
  refine lv_ishr Fx.1 Fx.2.1 dX4_stringIn_4 ?_
  refine lv_bipush (v := (7 : Int32)) Fx.1 Fx.2.1 dX4_stringIn_5 (by decide) ?_
  refine lv_iand Fx.1 Fx.2.1 dX4_stringIn_7 ?_
  obtain rfl := Option.some.inj hf
  exact hret _ _ _ _ dX4_stringIn_8 hC
/-! FretHands.partOf(IIIII)I -/
abbrev rm_FH_partOf : Room := { frames := 2, cells := 0, slots := 0, locals := 43 }
theorem hd_FH_partOf : yX9_partOf.cls = RX9 ∧ yX9_partOf.cls ≠ "java/lang/invoke/MethodHandle" ∧ yX9_partOf.cls ≠ "java/lang/invoke/VarHandle" ∧ (parseMethodDescriptor yX9_partOf.desc).map (fun d => d.parameters.length) = some 5 := by decide +kernel
noncomputable def p_FH_partOf (a1 : Int32) (a2 : Int32) (a3 : Int32) (a4 : Int32) (a5 : Int32) (g : sG) (f : sF) : Option (Int32) := (if a2 = 0 then some a3 else (if a2 = (5 : Int32) then some a5 else Option.bind (p_Tu_hasPitch a1 (a2 - (1 : Int32)) g f) (fun u1 => (if u1 = 0 then some (-1 : Int32) else Option.bind (p_SR_stringIn a4 (a2 - (1 : Int32)) g f) (fun u2 => some u2)))))
set_option maxRecDepth 100000 in
set_option maxHeartbeats 4000000 in
theorem k_FH_partOf {l : Launch} {D : va_G} {ad : Nat → Nat} {cy : Nat → ClassId} {a1 : Int32} {a2 : Int32} {a3 : Int32} {a4 : Int32} {a5 : Int32} {r : Int32} {g : sG} {f : sF} (hf : p_FH_partOf a1 a2 a3 a4 a5 g f = some r) : mMi l yX9_partOf (Cond.code yX9_partOf cX9_partOf 6 (some .int) :: wU) rm_FH_partOf D (cT cy) (cW ad cy) [.ref (ad 0), .int a1, .int a2, .int a3, .int a4, .int a5] g f (r, g, f) := by
  refine mk_i (by decide) rfl (Nat.le_of_ble_eq_true rfl) ?_
  intro p e s m below meth c Q A H0 Fx hret ls H locs hl hC
  replace hl : lv_has ls 6 [(0, .ref (ad 0)), (1, .int a1), (2, .int a2), (3, .int a3), (4, .int a4), (5, .int a5)] := hl
  unfold p_FH_partOf at hf
  refine lv_iload_n Fx.1 Fx.2.1 dX9_partOf_0 rfl (lv_at hl 2 rfl) ?_
  refine lv_if_ne (tgt := 6) Fx.1 Fx.2.1 dX9_partOf_1 (by decide) (fun hc => ?_) (fun hc => ?_)
  · replace hf := iff_ hc hf
    refine lv_iload_n Fx.1 Fx.2.1 dX9_partOf_6 rfl (lv_at hl 2 rfl) ?_
    refine lv_iconst (v := (5 : Int32)) Fx.1 Fx.2.1 dX9_partOf_7 (by decide) ?_
    refine lv_icmp_ne (tgt := 14) Fx.1 Fx.2.1 dX9_partOf_8 (by decide) (fun hc => ?_) (fun hc => ?_)
    · replace hf := iff_ hc hf
      refine lv_aload_n Fx.1 Fx.2.1 dX9_partOf_14 rfl (lv_at hl 0 rfl) ?_
      refine gg_FH_tune Fx hC wd_204 dX9_partOf_15 ?_
      refine lv_iload_n Fx.1 Fx.2.1 dX9_partOf_18 rfl (lv_at hl 1 rfl) ?_
      refine lv_iload_n Fx.1 Fx.2.1 dX9_partOf_19 rfl (lv_at hl 2 rfl) ?_
      refine lv_iconst (v := (1 : Int32)) Fx.1 Fx.2.1 dX9_partOf_20 (by decide) ?_
      refine lv_isub Fx.1 Fx.2.1 dX9_partOf_21 ?_
      obtain ⟨u1, hu1, hf⟩ := bd_e hf
      refine ca_i (As := [.int a1, .int (a2 - (1 : Int32))]) (rest := []) Fx hC (k_Tu_hasPitch hu1) (cVU 2 Fx.2.2.2.2 wd_293 wd_284 wd_285 wd_3 wd_286 rfl rfl hd_Tu_hasPitch ⟨Nat.le_of_ble_eq_true rfl, Nat.le_of_ble_eq_true rfl⟩) 4 rfl rfl rfl hl.1 rfl (Nat.le_of_ble_eq_true rfl) dX9_partOf_22 (fun H locs hC => ?_)
      refine lv_if_eq (tgt := 39) Fx.1 Fx.2.1 dX9_partOf_25 (by decide) (fun hc => ?_) (fun hc => ?_)
      · replace hf := ift hc hf
        refine lv_iconst (v := (-1 : Int32)) Fx.1 Fx.2.1 dX9_partOf_39 (by decide) ?_
        obtain rfl := Option.some.inj hf
        exact hret _ _ _ _ dX9_partOf_40 hC
      · replace hf := iff_ hc hf
        refine lv_iload Fx.1 Fx.2.1 dX9_partOf_28 (lv_at hl 4 rfl) ?_
        refine lv_iload_n Fx.1 Fx.2.1 dX9_partOf_30 rfl (lv_at hl 2 rfl) ?_
        refine lv_iconst (v := (1 : Int32)) Fx.1 Fx.2.1 dX9_partOf_31 (by decide) ?_
        refine lv_isub Fx.1 Fx.2.1 dX9_partOf_32 ?_
        obtain ⟨u2, hu2, hf⟩ := bd_e hf
        refine ca_s (As := [.int a4, .int (a2 - (1 : Int32))]) (rest := []) Fx hC (k_SR_stringIn hu2) (cSU 2 Fx.2.2.2.2 wd_384 wd_385 wd_12 wd_386 rfl rfl hd_SR_stringIn ⟨Nat.le_of_ble_eq_true rfl, Nat.le_of_ble_eq_true rfl⟩) rfl hl.1 rfl (Nat.le_of_ble_eq_true rfl) dX9_partOf_33 (fun H locs hC => ?_)
        refine lv_goto (tgt := 40) Fx.1 Fx.2.1 dX9_partOf_36 (by decide) ?_
        obtain rfl := Option.some.inj hf
        exact hret _ _ _ _ dX9_partOf_40 hC
    · replace hf := ift hc hf
      refine lv_iload Fx.1 Fx.2.1 dX9_partOf_11 (lv_at hl 5 rfl) ?_
      obtain rfl := Option.some.inj hf
      exact hret _ _ _ _ dX9_partOf_13 hC
  · replace hf := ift hc hf
    refine lv_iload_n Fx.1 Fx.2.1 dX9_partOf_4 rfl (lv_at hl 3 rfl) ?_
    obtain rfl := Option.some.inj hf
    exact hret _ _ _ _ dX9_partOf_5 hC
/-! FretHands.grip(III)I -/
abbrev rm_FH_grip : Room := { frames := 30, cells := 0, slots := 0, locals := 861 }
theorem hd_FH_grip : yX9_grip.cls = RX9 ∧ yX9_grip.cls ≠ "java/lang/invoke/MethodHandle" ∧ yX9_grip.cls ≠ "java/lang/invoke/VarHandle" ∧ (parseMethodDescriptor yX9_grip.desc).map (fun d => d.parameters.length) = some 3 := by decide +kernel
noncomputable def p_FH_grip (a1 : Int32) (a2 : Int32) (a3 : Int32) (g : sG) (f : sF) : Option (Int32 × sG × sF) := Option.bind (p_Tu_hasEvent a1 g f) (fun u1 => (if u1 = 0 then some ((-3 : Int32), g, f) else (if a3 < 0 then some ((-2 : Int32), g, f) else (if a3 ≤ (5 : Int32) then Option.bind (p_GF_findNumber a1 a2 g f) (fun u2 => (if u2.1 = 0 then some ((-1 : Int32), u2.2.1, u2.2.2) else Option.bind (p_FH_partOf a1 a3 (u2.2.1 6) (u2.2.1 8) (u2.2.1 9) u2.2.1 u2.2.2) (fun u3 => some (u3, u2.2.1, u2.2.2)))) else some ((-2 : Int32), g, f)))))
set_option maxRecDepth 100000 in
set_option maxHeartbeats 4000000 in
theorem k_FH_grip {l : Launch} {D : va_G} {ad : Nat → Nat} {cy : Nat → ClassId} {a1 : Int32} {a2 : Int32} {a3 : Int32} {u : Int32 × sG × sF} {g : sG} {f : sF} (hf : p_FH_grip a1 a2 a3 g f = some u) : mMi l yX9_grip (Cond.code yX9_grip cX9_grip 4 (some .int) :: wU) rm_FH_grip D (cT cy) (cW ad cy) [.ref (ad 0), .int a1, .int a2, .int a3] g f u := by
  refine mk_i (by decide) rfl (Nat.le_of_ble_eq_true rfl) ?_
  intro p e s m below meth c Q A H0 Fx hret ls H locs hl hC
  replace hl : lv_has ls 4 [(0, .ref (ad 0)), (1, .int a1), (2, .int a2), (3, .int a3)] := hl
  unfold p_FH_grip at hf
  refine lv_aload_n Fx.1 Fx.2.1 dX9_grip_0 rfl (lv_at hl 0 rfl) ?_
  refine gg_FH_tune Fx hC wd_204 dX9_grip_1 ?_
  refine lv_iload_n Fx.1 Fx.2.1 dX9_grip_4 rfl (lv_at hl 1 rfl) ?_
  obtain ⟨u1, hu1, hf⟩ := bd_e hf
  refine ca_i (As := [.int a1]) (rest := []) Fx hC (k_Tu_hasEvent hu1) (cVU 1 Fx.2.2.2.2 wd_292 wd_276 wd_277 wd_3 wd_278 rfl rfl hd_Tu_hasEvent ⟨Nat.le_of_ble_eq_true rfl, Nat.le_of_ble_eq_true rfl⟩) 4 rfl rfl rfl hl.1 rfl (Nat.le_of_ble_eq_true rfl) dX9_grip_5 (fun H locs hC => ?_)
  refine lv_if_ne (tgt := 14) Fx.1 Fx.2.1 dX9_grip_8 (by decide) (fun hc => ?_) (fun hc => ?_)
  · replace hf := iff_ hc hf
    refine lv_iload_n Fx.1 Fx.2.1 dX9_grip_14 rfl (lv_at hl 3 rfl) ?_
    refine lv_if_lt (tgt := 23) Fx.1 Fx.2.1 dX9_grip_15 (by decide) (fun hc => ?_) (fun hc => ?_)
    · replace hf := ift hc hf
      refine lv_bipush (v := (-2 : Int32)) Fx.1 Fx.2.1 dX9_grip_23 (by decide) ?_
      obtain rfl := Option.some.inj hf
      exact hret _ _ _ _ dX9_grip_25 hC
    · replace hf := iff_ hc hf
      refine lv_iload_n Fx.1 Fx.2.1 dX9_grip_18 rfl (lv_at hl 3 rfl) ?_
      refine lv_iconst (v := (5 : Int32)) Fx.1 Fx.2.1 dX9_grip_19 (by decide) ?_
      refine lv_icmp_le (tgt := 26) Fx.1 Fx.2.1 dX9_grip_20 (by decide) (fun hc => ?_) (fun hc => ?_)
      · replace hf := ift hc hf
        refine lv_aload_n Fx.1 Fx.2.1 dX9_grip_26 rfl (lv_at hl 0 rfl) ?_
        refine gg_FH_finder Fx hC wd_206 dX9_grip_27 ?_
        refine lv_iload_n Fx.1 Fx.2.1 dX9_grip_30 rfl (lv_at hl 1 rfl) ?_
        refine lv_iload_n Fx.1 Fx.2.1 dX9_grip_31 rfl (lv_at hl 2 rfl) ?_
        obtain ⟨u2, hu2, hf⟩ := bd_e hf
        refine ca_i (As := [.int a1, .int a2]) (rest := []) Fx hC (k_GF_findNumber hu2) (cVU 2 Fx.2.2.2.2 wd_376 wd_377 wd_378 wd_5 wd_379 rfl rfl hd_GF_findNumber ⟨Nat.le_of_ble_eq_true rfl, Nat.le_of_ble_eq_true rfl⟩) 13 rfl rfl rfl hl.1 rfl (Nat.le_of_ble_eq_true rfl) dX9_grip_32 (fun H locs hC => ?_)
        refine lv_if_ne (tgt := 40) Fx.1 Fx.2.1 dX9_grip_35 (by decide) (fun hc => ?_) (fun hc => ?_)
        · replace hf := iff_ hc hf
          refine lv_aload_n Fx.1 Fx.2.1 dX9_grip_40 rfl (lv_at hl 0 rfl) ?_
          refine lv_iload_n Fx.1 Fx.2.1 dX9_grip_41 rfl (lv_at hl 1 rfl) ?_
          refine lv_iload_n Fx.1 Fx.2.1 dX9_grip_42 rfl (lv_at hl 3 rfl) ?_
          refine lv_aload_n Fx.1 Fx.2.1 dX9_grip_43 rfl (lv_at hl 0 rfl) ?_
          refine gg_FH_finder Fx hC wd_206 dX9_grip_44 ?_
          refine gg_GF_wantedPosition Fx hC wd_109 dX9_grip_47 ?_
          refine lv_aload_n Fx.1 Fx.2.1 dX9_grip_50 rfl (lv_at hl 0 rfl) ?_
          refine gg_FH_finder Fx hC wd_206 dX9_grip_51 ?_
          refine gg_GF_wantedStrings Fx hC wd_112 dX9_grip_54 ?_
          refine lv_aload_n Fx.1 Fx.2.1 dX9_grip_57 rfl (lv_at hl 0 rfl) ?_
          refine gg_FH_finder Fx hC wd_206 dX9_grip_58 ?_
          refine gg_GF_wantedCost Fx hC wd_114 dX9_grip_61 ?_
          obtain ⟨u3, hu3, hf⟩ := bd_e hf
          refine ca_i (As := [.int a1, .int a3, .int (u2.2.1 6), .int (u2.2.1 8), .int (u2.2.1 9)]) (rest := []) Fx hC (k_FH_partOf hu3) (cVU 5 Fx.2.2.2.2 wd_381 wd_382 wd_854 wd_1 wd_383 rfl rfl hd_FH_partOf ⟨Nat.le_of_ble_eq_true rfl, Nat.le_of_ble_eq_true rfl⟩) 0 rfl rfl rfl hl.1 rfl (Nat.le_of_ble_eq_true rfl) dX9_grip_64 (fun H locs hC => ?_)
          obtain rfl := Option.some.inj hf
          exact hret _ _ _ _ dX9_grip_67 hC
        · replace hf := ift hc hf
          refine lv_iconst (v := (-1 : Int32)) Fx.1 Fx.2.1 dX9_grip_38 (by decide) ?_
          obtain rfl := Option.some.inj hf
          exact hret _ _ _ _ dX9_grip_39 hC
      · replace hf := iff_ hc hf
        refine lv_bipush (v := (-2 : Int32)) Fx.1 Fx.2.1 dX9_grip_23 (by decide) ?_
        obtain rfl := Option.some.inj hf
        exact hret _ _ _ _ dX9_grip_25 hC
  · replace hf := ift hc hf
    refine lv_bipush (v := (-3 : Int32)) Fx.1 Fx.2.1 dX9_grip_11 (by decide) ?_
    obtain rfl := Option.some.inj hf
    exact hret _ _ _ _ dX9_grip_13 hC
/-! FretHands$Planner.isCell(II)Z -/
abbrev rm_Pr_isCell : Room := { frames := 0, cells := 0, slots := 0, locals := 0 }
theorem hd_Pr_isCell : yX3_isCell.cls ≠ "java/lang/invoke/MethodHandle" ∧ yX3_isCell.cls ≠ "java/lang/invoke/VarHandle" ∧ (parseMethodDescriptor yX3_isCell.desc).map (fun d => d.parameters.length) = some 2 := by decide +kernel
noncomputable def p_Pr_isCell (a1 : Int32) (a2 : Int32) (g : sG) (f : sF) : Option (Int32) := (if a1 < 0 then some (0 : Int32) else (if (40 : Int32) ≤ a1 then some (0 : Int32) else (if a2 < 0 then some (0 : Int32) else (if (25 : Int32) ≤ a2 then some (0 : Int32) else some (1 : Int32)))))
set_option maxRecDepth 100000 in
set_option maxHeartbeats 4000000 in
theorem k_Pr_isCell {l : Launch} {D : va_G} {ad : Nat → Nat} {cy : Nat → ClassId} {a1 : Int32} {a2 : Int32} {r : Int32} {g : sG} {f : sF} (hf : p_Pr_isCell a1 a2 g f = some r) : mMi l yX3_isCell (Cond.code yX3_isCell cX3_isCell 2 (some .boolean) :: wU) rm_Pr_isCell D (cT cy) (cW ad cy) [.int a1, .int a2] g f (r, g, f) := by
  refine mk_z (by decide) rfl (Nat.le_of_ble_eq_true rfl) ?_
  intro p e s m below meth c Q A H0 Fx hret ls H locs hl hC
  replace hl : lv_has ls 2 [(0, .int a1), (1, .int a2)] := hl
  unfold p_Pr_isCell at hf
  refine lv_iload_n Fx.1 Fx.2.1 dX3_isCell_0 rfl (lv_at hl 0 rfl) ?_
  refine lv_if_lt (tgt := 24) Fx.1 Fx.2.1 dX3_isCell_1 (by decide) (fun hc => ?_) (fun hc => ?_)
  · replace hf := ift hc hf
    refine lv_iconst (v := (0 : Int32)) Fx.1 Fx.2.1 dX3_isCell_24 (by decide) ?_
    obtain rfl := Option.some.inj hf
    exact hret _ _ _ _ dX3_isCell_25 z01_0 hC
  · replace hf := iff_ hc hf
    refine lv_iload_n Fx.1 Fx.2.1 dX3_isCell_4 rfl (lv_at hl 0 rfl) ?_
    refine lv_bipush (v := (40 : Int32)) Fx.1 Fx.2.1 dX3_isCell_5 (by decide) ?_
    refine lv_icmp_ge (tgt := 24) Fx.1 Fx.2.1 dX3_isCell_7 (by decide) (fun hc => ?_) (fun hc => ?_)
    · replace hf := ift hc hf
      refine lv_iconst (v := (0 : Int32)) Fx.1 Fx.2.1 dX3_isCell_24 (by decide) ?_
      obtain rfl := Option.some.inj hf
      exact hret _ _ _ _ dX3_isCell_25 z01_0 hC
    · replace hf := iff_ hc hf
      refine lv_iload_n Fx.1 Fx.2.1 dX3_isCell_10 rfl (lv_at hl 1 rfl) ?_
      refine lv_if_lt (tgt := 24) Fx.1 Fx.2.1 dX3_isCell_11 (by decide) (fun hc => ?_) (fun hc => ?_)
      · replace hf := ift hc hf
        refine lv_iconst (v := (0 : Int32)) Fx.1 Fx.2.1 dX3_isCell_24 (by decide) ?_
        obtain rfl := Option.some.inj hf
        exact hret _ _ _ _ dX3_isCell_25 z01_0 hC
      · replace hf := iff_ hc hf
        refine lv_iload_n Fx.1 Fx.2.1 dX3_isCell_14 rfl (lv_at hl 1 rfl) ?_
        refine lv_bipush (v := (25 : Int32)) Fx.1 Fx.2.1 dX3_isCell_15 (by decide) ?_
        refine lv_icmp_ge (tgt := 24) Fx.1 Fx.2.1 dX3_isCell_17 (by decide) (fun hc => ?_) (fun hc => ?_)
        · replace hf := ift hc hf
          refine lv_iconst (v := (0 : Int32)) Fx.1 Fx.2.1 dX3_isCell_24 (by decide) ?_
          obtain rfl := Option.some.inj hf
          exact hret _ _ _ _ dX3_isCell_25 z01_0 hC
        · replace hf := iff_ hc hf
          refine lv_iconst (v := (1 : Int32)) Fx.1 Fx.2.1 dX3_isCell_20 (by decide) ?_
          refine lv_goto (tgt := 25) Fx.1 Fx.2.1 dX3_isCell_21 (by decide) ?_
          obtain rfl := Option.some.inj hf
          exact hret _ _ _ _ dX3_isCell_25 z01_1 hC
/-! FretHands$Planner.sumFrom(III)I -/
abbrev rm_Pr_sumFrom : Room := { frames := 1, cells := 0, slots := 0, locals := 24 }
theorem hd_Pr_sumFrom : yX3_sumFrom.cls = RX3 ∧ yX3_sumFrom.cls ≠ "java/lang/invoke/MethodHandle" ∧ yX3_sumFrom.cls ≠ "java/lang/invoke/VarHandle" ∧ (parseMethodDescriptor yX3_sumFrom.desc).map (fun d => d.parameters.length) = some 3 := by decide +kernel
noncomputable def p_Pr_sumFrom_J23 (x2 : Int32) (x3 : Int32) (y0 : Int32) (g : sG) (f : sF) : Option (Int32) := (if y0 = (-1 : Int32) then some y0 else (if x2 = (-1 : Int32) then some y0 else some (y0 + ((f 0 (0 : Int32).toNatClampNeg) * (if 0 ≤ (x3 - x2) then (x3 - x2) else 0 - (x3 - x2))))))
set_option maxRecDepth 100000 in
set_option maxHeartbeats 4000000 in
theorem s_Pr_sumFrom_J23 {p : Program} {l : Launch} {e : Env} {s : State} {m : MethodId} {args : Array Value} {below : List Frame} {meth : Method} {c : Code} {Q : State → Prop} {D : va_G} {ad : Nat → Nat} {cy : Nat → ClassId} {A : Nat → Prop} {H0 : Heap} {r : Int32} {g : sG} {f : sF} (Fx : CallFix p m c cX3_sumFrom 5 s args (Cond.code yX3_sumFrom cX3_sumFrom 5 (some .int) :: wU) RX3) (hret : mRi p l e rm_Pr_sumFrom s m args below meth c Q D (cT cy) (cW ad cy) A H0 cX3_sumFrom (r, g, f))  (x2 : Int32) (x3 : Int32) (y0 : Int32) (hf : p_Pr_sumFrom_J23 x2 x3 y0 g f = some r) : ∀ (ls : Array Slot) (H : Heap) (locs : List Loc), lv_has ls 5 [(0, .ref (ad 22)), (2, .int x2), (3, .int x3)] → wH D (cT cy) (cW ad cy) A H0 s g f H locs → W p l e rm_Pr_sumFrom s m args below meth c H locs 0 0 Q (F0 m 23 ls [.int y0]) := by
  intro ls H locs hl hC
  unfold p_Pr_sumFrom_J23 at hf
  refine lv_istore (lv' := [(4, .int y0), (0, .ref (ad 22)), (2, .int x2), (3, .int x3)]) Fx.1 Fx.2.1 dX3_sumFrom_23 hl (by decide) rfl (fun ls hl => ?_)
  refine lv_iload Fx.1 Fx.2.1 dX3_sumFrom_25 (lv_at hl 0 rfl) ?_
  refine lv_iconst (v := (-1 : Int32)) Fx.1 Fx.2.1 dX3_sumFrom_27 (by decide) ?_
  refine lv_icmp_eq (tgt := 36) Fx.1 Fx.2.1 dX3_sumFrom_28 (by decide) (fun hc => ?_) (fun hc => ?_)
  · replace hf := ift hc hf
    refine lv_iload Fx.1 Fx.2.1 dX3_sumFrom_36 (lv_at hl 0 rfl) ?_
    obtain rfl := Option.some.inj hf
    exact hret _ _ _ _ dX3_sumFrom_38 hC
  · replace hf := iff_ hc hf
    refine lv_iload_n Fx.1 Fx.2.1 dX3_sumFrom_31 rfl (lv_at hl 2 rfl) ?_
    refine lv_iconst (v := (-1 : Int32)) Fx.1 Fx.2.1 dX3_sumFrom_32 (by decide) ?_
    refine lv_icmp_ne (tgt := 39) Fx.1 Fx.2.1 dX3_sumFrom_33 (by decide) (fun hc => ?_) (fun hc => ?_)
    · replace hf := iff_ hc hf
      refine lv_iload Fx.1 Fx.2.1 dX3_sumFrom_39 (lv_at hl 0 rfl) ?_
      refine lv_aload_n Fx.1 Fx.2.1 dX3_sumFrom_41 rfl (lv_at hl 1 rfl) ?_
      refine gg_Pr_weights Fx hC wd_138 dX3_sumFrom_42 ?_
      refine lv_iconst (v := (0 : Int32)) Fx.1 Fx.2.1 dX3_sumFrom_45 (by decide) ?_
      refine ld_FH_weights Fx hC (by decide) dX3_sumFrom_46 ?_
      refine lv_iload_n Fx.1 Fx.2.1 dX3_sumFrom_47 rfl (lv_at hl 3 rfl) ?_
      refine lv_iload_n Fx.1 Fx.2.1 dX3_sumFrom_48 rfl (lv_at hl 2 rfl) ?_
      refine lv_isub Fx.1 Fx.2.1 dX3_sumFrom_49 ?_
      refine g_mabs (rest := [.int (f 0 (0 : Int32).toNatClampNeg), .int y0]) Fx hl.1 wd_408 (Nat.le_of_ble_eq_true rfl) (Nat.le_of_ble_eq_true rfl) dX3_sumFrom_50 ?_
      refine lv_imul Fx.1 Fx.2.1 dX3_sumFrom_53 ?_
      refine lv_iadd Fx.1 Fx.2.1 dX3_sumFrom_54 ?_
      obtain rfl := Option.some.inj hf
      exact hret _ _ _ _ dX3_sumFrom_55 hC
    · replace hf := ift hc hf
      refine lv_iload Fx.1 Fx.2.1 dX3_sumFrom_36 (lv_at hl 0 rfl) ?_
      obtain rfl := Option.some.inj hf
      exact hret _ _ _ _ dX3_sumFrom_38 hC
noncomputable def p_Pr_sumFrom (a1 : Int32) (a2 : Int32) (a3 : Int32) (g : sG) (f : sF) : Option (Int32) := Option.bind (p_Pr_isCell a1 a3 g f) (fun u1 => (if u1 = 0 then p_Pr_sumFrom_J23 a2 a3 (-1 : Int32) g f else (if ((a1 * (25 : Int32)) + a3) < 0 ∨ 1000 ≤ ((a1 * (25 : Int32)) + a3).toNatClampNeg then none else p_Pr_sumFrom_J23 a2 a3 (f 17 ((a1 * (25 : Int32)) + a3).toNatClampNeg) g f)))
set_option maxRecDepth 100000 in
set_option maxHeartbeats 4000000 in
theorem k_Pr_sumFrom {l : Launch} {D : va_G} {ad : Nat → Nat} {cy : Nat → ClassId} {a1 : Int32} {a2 : Int32} {a3 : Int32} {r : Int32} {g : sG} {f : sF} (hf : p_Pr_sumFrom a1 a2 a3 g f = some r) : mMi l yX3_sumFrom (Cond.code yX3_sumFrom cX3_sumFrom 5 (some .int) :: wU) rm_Pr_sumFrom D (cT cy) (cW ad cy) [.ref (ad 22), .int a1, .int a2, .int a3] g f (r, g, f) := by
  refine mk_i (by decide) rfl (Nat.le_of_ble_eq_true rfl) ?_
  intro p e s m below meth c Q A H0 Fx hret ls H locs hl hC
  replace hl : lv_has ls 5 [(0, .ref (ad 22)), (1, .int a1), (2, .int a2), (3, .int a3)] := hl
  unfold p_Pr_sumFrom at hf
  refine lv_iload_n Fx.1 Fx.2.1 dX3_sumFrom_0 rfl (lv_at hl 1 rfl) ?_
  refine lv_iload_n Fx.1 Fx.2.1 dX3_sumFrom_1 rfl (lv_at hl 3 rfl) ?_
  obtain ⟨u1, hu1, hf⟩ := bd_e hf
  refine ca_s (As := [.int a1, .int a3]) (rest := []) Fx hC (k_Pr_isCell hu1) (cSU 2 Fx.2.2.2.2 wd_399 wd_400 wd_6 wd_401 rfl rfl hd_Pr_isCell ⟨Nat.le_of_ble_eq_true rfl, Nat.le_of_ble_eq_true rfl⟩) rfl hl.1 rfl (Nat.le_of_ble_eq_true rfl) dX3_sumFrom_2 (fun H locs hC => ?_)
  refine lv_if_eq (tgt := 22) Fx.1 Fx.2.1 dX3_sumFrom_5 (by decide) (fun hc => ?_) (fun hc => ?_)
  · replace hf := ift hc hf
    refine lv_iconst (v := (-1 : Int32)) Fx.1 Fx.2.1 dX3_sumFrom_22 (by decide) ?_
    exact s_Pr_sumFrom_J23 Fx hret _ _ _  hf _ _ _ (lv_sub hl [0, 2, 3] rfl) hC
  · replace hf := iff_ hc hf
    refine lv_aload_n Fx.1 Fx.2.1 dX3_sumFrom_8 rfl (lv_at hl 0 rfl) ?_
    refine gg_Pr_sums Fx hC wd_141 dX3_sumFrom_9 ?_
    refine lv_iload_n Fx.1 Fx.2.1 dX3_sumFrom_12 rfl (lv_at hl 1 rfl) ?_
    refine lv_bipush (v := (25 : Int32)) Fx.1 Fx.2.1 dX3_sumFrom_13 (by decide) ?_
    refine lv_imul Fx.1 Fx.2.1 dX3_sumFrom_15 ?_
    refine lv_iload_n Fx.1 Fx.2.1 dX3_sumFrom_16 rfl (lv_at hl 3 rfl) ?_
    refine lv_iadd Fx.1 Fx.2.1 dX3_sumFrom_17 ?_
    obtain ⟨hi2, hf⟩ := gd_e hf
    refine ld_Pr_sums Fx hC hi2 dX3_sumFrom_18 ?_
    refine lv_goto (tgt := 23) Fx.1 Fx.2.1 dX3_sumFrom_19 (by decide) ?_
    exact s_Pr_sumFrom_J23 Fx hret _ _ _  hf _ _ _ (lv_sub hl [0, 2, 3] rfl) hC
/-! FretHands$Planner.waysAt(II)I -/
abbrev rm_Pr_waysAt : Room := { frames := 1, cells := 0, slots := 0, locals := 21 }
theorem hd_Pr_waysAt : yX3_waysAt.cls = RX3 ∧ yX3_waysAt.cls ≠ "java/lang/invoke/MethodHandle" ∧ yX3_waysAt.cls ≠ "java/lang/invoke/VarHandle" ∧ (parseMethodDescriptor yX3_waysAt.desc).map (fun d => d.parameters.length) = some 2 := by decide +kernel
noncomputable def p_Pr_waysAt (a1 : Int32) (a2 : Int32) (g : sG) (f : sF) : Option (Int32) := Option.bind (p_Pr_isCell a1 a2 g f) (fun u1 => (if u1 = 0 then some (0 : Int32) else (if ((a1 * (25 : Int32)) + a2) < 0 ∨ 1000 ≤ ((a1 * (25 : Int32)) + a2).toNatClampNeg then none else some (f 18 ((a1 * (25 : Int32)) + a2).toNatClampNeg))))
set_option maxRecDepth 100000 in
set_option maxHeartbeats 4000000 in
theorem k_Pr_waysAt {l : Launch} {D : va_G} {ad : Nat → Nat} {cy : Nat → ClassId} {a1 : Int32} {a2 : Int32} {r : Int32} {g : sG} {f : sF} (hf : p_Pr_waysAt a1 a2 g f = some r) : mMi l yX3_waysAt (Cond.code yX3_waysAt cX3_waysAt 3 (some .int) :: wU) rm_Pr_waysAt D (cT cy) (cW ad cy) [.ref (ad 22), .int a1, .int a2] g f (r, g, f) := by
  refine mk_i (by decide) rfl (Nat.le_of_ble_eq_true rfl) ?_
  intro p e s m below meth c Q A H0 Fx hret ls H locs hl hC
  replace hl : lv_has ls 3 [(0, .ref (ad 22)), (1, .int a1), (2, .int a2)] := hl
  unfold p_Pr_waysAt at hf
  refine lv_iload_n Fx.1 Fx.2.1 dX3_waysAt_0 rfl (lv_at hl 1 rfl) ?_
  refine lv_iload_n Fx.1 Fx.2.1 dX3_waysAt_1 rfl (lv_at hl 2 rfl) ?_
  obtain ⟨u1, hu1, hf⟩ := bd_e hf
  refine ca_s (As := [.int a1, .int a2]) (rest := []) Fx hC (k_Pr_isCell hu1) (cSU 2 Fx.2.2.2.2 wd_399 wd_400 wd_6 wd_401 rfl rfl hd_Pr_isCell ⟨Nat.le_of_ble_eq_true rfl, Nat.le_of_ble_eq_true rfl⟩) rfl hl.1 rfl (Nat.le_of_ble_eq_true rfl) dX3_waysAt_2 (fun H locs hC => ?_)
  refine lv_if_eq (tgt := 22) Fx.1 Fx.2.1 dX3_waysAt_5 (by decide) (fun hc => ?_) (fun hc => ?_)
  · replace hf := ift hc hf
    refine lv_iconst (v := (0 : Int32)) Fx.1 Fx.2.1 dX3_waysAt_22 (by decide) ?_
    obtain rfl := Option.some.inj hf
    exact hret _ _ _ _ dX3_waysAt_23 hC
  · replace hf := iff_ hc hf
    refine lv_aload_n Fx.1 Fx.2.1 dX3_waysAt_8 rfl (lv_at hl 0 rfl) ?_
    refine gg_Pr_ways Fx hC wd_142 dX3_waysAt_9 ?_
    refine lv_iload_n Fx.1 Fx.2.1 dX3_waysAt_12 rfl (lv_at hl 1 rfl) ?_
    refine lv_bipush (v := (25 : Int32)) Fx.1 Fx.2.1 dX3_waysAt_13 (by decide) ?_
    refine lv_imul Fx.1 Fx.2.1 dX3_waysAt_15 ?_
    refine lv_iload_n Fx.1 Fx.2.1 dX3_waysAt_16 rfl (lv_at hl 2 rfl) ?_
    refine lv_iadd Fx.1 Fx.2.1 dX3_waysAt_17 ?_
    obtain ⟨hi2, hf⟩ := gd_e hf
    refine ld_Pr_ways Fx hC hi2 dX3_waysAt_18 ?_
    refine lv_goto (tgt := 23) Fx.1 Fx.2.1 dX3_waysAt_19 (by decide) ?_
    obtain rfl := Option.some.inj hf
    exact hret _ _ _ _ dX3_waysAt_23 hC
/-! FretHands$Planner.atMostTies(J)I -/
abbrev rm_Pr_atMostTies : Room := { frames := 0, cells := 0, slots := 0, locals := 0 }
theorem hd_Pr_atMostTies : yX3_atMostTies.cls ≠ "java/lang/invoke/MethodHandle" ∧ yX3_atMostTies.cls ≠ "java/lang/invoke/VarHandle" ∧ (parseMethodDescriptor yX3_atMostTies.desc).map (fun d => d.parameters.length) = some 1 := by decide +kernel
noncomputable def p_Pr_atMostTies (a1 : Int64) (g : sG) (f : sF) : Option (Int32) := (if (lg_cmp a1 (999999 : Int64)) ≤ 0 then some a1.toInt32 else some (999999 : Int32))
set_option maxRecDepth 100000 in
set_option maxHeartbeats 4000000 in
theorem k_Pr_atMostTies {l : Launch} {D : va_G} {ad : Nat → Nat} {cy : Nat → ClassId} {a1 : Int64} {r : Int32} {g : sG} {f : sF} (hf : p_Pr_atMostTies a1 g f = some r) : mMi l yX3_atMostTies (Cond.code yX3_atMostTies cX3_atMostTies 2 (some .int) :: wU) rm_Pr_atMostTies D (cT cy) (cW ad cy) [.long a1] g f (r, g, f) := by
  refine mk_i (by decide) rfl (Nat.le_of_ble_eq_true rfl) ?_
  intro p e s m below meth c Q A H0 Fx hret ls H locs hl hC
  replace hl : lv_has ls 2 [(0, .long a1)] := hl
  unfold p_Pr_atMostTies at hf
  refine lv_lload_n Fx.1 Fx.2.1 dX3_atMostTies_0 rfl (lv_at hl 0 rfl) ?_
  refine lv_ldc2 (v := (999999 : Int64)) Fx.1 Fx.2.1 Fx.2.2.2.1 (Fx.2.2.2.2 _ (List.mem_cons_of_mem _ wd_417)) dX3_atMostTies_1 ?_
  refine W.lcmp Fx.1 Fx.2.1 dX3_atMostTies_4 ?_
  refine lv_if_le (tgt := 13) Fx.1 Fx.2.1 dX3_atMostTies_5 (by decide) (fun hc => ?_) (fun hc => ?_)
  · replace hf := ift hc hf
    refine lv_lload_n Fx.1 Fx.2.1 dX3_atMostTies_13 rfl (lv_at hl 0 rfl) ?_
    refine lv_l2i (v := a1.toInt32) Fx.1 Fx.2.1 dX3_atMostTies_14 rfl ?_
    obtain rfl := Option.some.inj hf
    exact hret _ _ _ _ dX3_atMostTies_15 hC
  · replace hf := iff_ hc hf
    refine lv_ldc (v := (999999 : Int32)) Fx.1 Fx.2.1 Fx.2.2.2.1 (Fx.2.2.2.2 _ (List.mem_cons_of_mem _ wd_418)) dX3_atMostTies_8 ?_
    refine lv_goto (tgt := 15) Fx.1 Fx.2.1 dX3_atMostTies_10 (by decide) ?_
    obtain rfl := Option.some.inj hf
    exact hret _ _ _ _ dX3_atMostTies_15 hC
/-! FretHands$Planner.weighRest(II)V -/
abbrev rm_Pr_weighRest : Room := { frames := 2, cells := 0, slots := 0, locals := 48 }
theorem hd_Pr_weighRest : yX3_weighRest.cls = RX3 ∧ yX3_weighRest.cls ≠ "java/lang/invoke/MethodHandle" ∧ yX3_weighRest.cls ≠ "java/lang/invoke/VarHandle" ∧ (parseMethodDescriptor yX3_weighRest.desc).map (fun d => d.parameters.length) = some 2 := by decide +kernel
noncomputable def p_Pr_weighRest_J88 (K42 : (Int32 × Int32 × Int32 × sG × sF) → Option (sG × sF)) (x1 : Int32) (x2 : Int32) (x3 : Int32) (x4 : Int32) (g : sG) (f : sF) : Option (sG × sF) := lt_ (upd g 10 x4) (fun g1 => Option.bind (p_Pr_waysAt x1 x3 g1 f) (fun u2 => lt_ (upd g1 11 u2) (fun g3 => lt_ (x3 + (1 : Int32)) (fun v4 => K42 (x1, x2, v4, g3, f)))))
set_option maxRecDepth 100000 in
set_option maxHeartbeats 4000000 in
theorem s_Pr_weighRest_J88 {K42 : (Int32 × Int32 × Int32 × sG × sF) → Option (sG × sF)} {p : Program} {l : Launch} {e : Env} {s : State} {m : MethodId} {args : Array Value} {below : List Frame} {meth : Method} {c : Code} {Q : State → Prop} {D : va_G} {ad : Nat → Nat} {cy : Nat → ClassId} {A : Nat → Prop} {H0 : Heap} {u : sG × sF} (Fx : CallFix p m c cX3_weighRest 5 s args (Cond.code yX3_weighRest cX3_weighRest 5 none :: wU) RX3) (hret : mRv p l e rm_Pr_weighRest s m args below meth c Q D (cT cy) (cW ad cy) A H0 cX3_weighRest u) (hK42 : ∀ (z : Int32 × Int32 × Int32 × sG × sF), K42 z = some u → ∀ (ls : Array Slot) (H : Heap) (locs : List Loc), lv_has ls 5 [(0, .ref (ad 22)), (1, .int z.1), (2, .int z.2.1), (3, .int z.2.2.1)] → wH D (cT cy) (cW ad cy) A H0 s z.2.2.2.1 z.2.2.2.2 H locs → W p l e rm_Pr_weighRest s m args below meth c H locs 0 0 Q (F0 m 42 ls [])) (x1 : Int32) (x2 : Int32) (x3 : Int32) (x4 : Int32) (g : sG) (f : sF) (hf : p_Pr_weighRest_J88 K42 x1 x2 x3 x4 g f = some u) : ∀ (ls : Array Slot) (H : Heap) (locs : List Loc), lv_has ls 5 [(0, .ref (ad 22)), (1, .int x1), (2, .int x2), (3, .int x3), (4, .int x4)] → wH D (cT cy) (cW ad cy) A H0 s g f H locs → W p l e rm_Pr_weighRest s m args below meth c H locs 0 0 Q (F0 m 88 ls []) := by
  intro ls H locs hl hC
  unfold p_Pr_weighRest_J88 at hf
  refine lv_aload_n Fx.1 Fx.2.1 dX3_weighRest_88 rfl (lv_at hl 0 rfl) ?_
  refine lv_iload Fx.1 Fx.2.1 dX3_weighRest_89 (lv_at hl 4 rfl) ?_
  obtain ⟨g1, eg1, hf⟩ := lt_e hf
  refine gp_Pr_leastSum Fx hC wd_143 eg1 dX3_weighRest_91 (fun H locs hC => ?_)
  refine lv_aload_n Fx.1 Fx.2.1 dX3_weighRest_94 rfl (lv_at hl 0 rfl) ?_
  refine lv_aload_n Fx.1 Fx.2.1 dX3_weighRest_95 rfl (lv_at hl 0 rfl) ?_
  refine lv_iload_n Fx.1 Fx.2.1 dX3_weighRest_96 rfl (lv_at hl 1 rfl) ?_
  refine lv_iload_n Fx.1 Fx.2.1 dX3_weighRest_97 rfl (lv_at hl 3 rfl) ?_
  obtain ⟨u2, hu2, hf⟩ := bd_e hf
  refine ca_i (As := [.int x1, .int x3]) (rest := [.ref (ad 22)]) Fx hC (k_Pr_waysAt hu2) (cVU 2 Fx.2.2.2.2 wd_411 wd_412 wd_858 wd_6 wd_413 rfl rfl hd_Pr_waysAt ⟨Nat.le_of_ble_eq_true rfl, Nat.le_of_ble_eq_true rfl⟩) 22 rfl rfl rfl hl.1 rfl (Nat.le_of_ble_eq_true rfl) dX3_weighRest_98 (fun H locs hC => ?_)
  obtain ⟨g3, eg3, hf⟩ := lt_e hf
  refine gp_Pr_leastWays Fx hC wd_145 eg3 dX3_weighRest_101 (fun H locs hC => ?_)
  refine lv_goto (tgt := 136) Fx.1 Fx.2.1 dX3_weighRest_104 (by decide) ?_
  obtain ⟨v4, ev4, hf⟩ := lt_e hf
  refine lv_iinc (v := v4) (lv' := [(3, .int v4), (0, .ref (ad 22)), (1, .int x1), (2, .int x2), (4, .int x4)]) Fx.1 Fx.2.1 dX3_weighRest_136 hl (k := 3) rfl ev4.symm (by decide) rfl (fun ls hl => ?_)
  refine lv_goto (tgt := 42) Fx.1 Fx.2.1 dX3_weighRest_139 (by decide) ?_
  exact hK42 _ hf _ _ _ (lv_sub hl [1, 2, 3, 0] rfl) hC
noncomputable def p_Pr_weighRest_L42 (K42 : (Int32 × Int32 × Int32 × sG × sF) → Option (sG × sF)) (x1 : Int32) (x2 : Int32) (x3 : Int32) (g : sG) (f : sF) : Option (sG × sF) := (if (g 1) < x3 then some (g, f) else Option.bind (p_Pr_sumFrom x1 x2 x3 g f) (fun u1 => (if u1 = (-1 : Int32) then lt_ (x3 + (1 : Int32)) (fun v7 => K42 (x1, x2, v7, g, f)) else (if (g 10) = (-1 : Int32) then p_Pr_weighRest_J88 K42 x1 x2 x3 u1 g f else (if (g 10) ≤ u1 then (if u1 = (g 10) then Option.bind (p_Pr_waysAt x1 x3 g f) (fun u3 => Option.bind (p_Pr_atMostTies (((g 11).toInt64) + u3.toInt64) g f) (fun u4 => lt_ (upd g 11 u4) (fun g5 => lt_ (x3 + (1 : Int32)) (fun v6 => K42 (x1, x2, v6, g5, f))))) else lt_ (x3 + (1 : Int32)) (fun v2 => K42 (x1, x2, v2, g, f))) else p_Pr_weighRest_J88 K42 x1 x2 x3 u1 g f)))))
set_option maxRecDepth 100000 in
set_option maxHeartbeats 4000000 in
theorem s_Pr_weighRest_L42 {K42 : (Int32 × Int32 × Int32 × sG × sF) → Option (sG × sF)} {p : Program} {l : Launch} {e : Env} {s : State} {m : MethodId} {args : Array Value} {below : List Frame} {meth : Method} {c : Code} {Q : State → Prop} {D : va_G} {ad : Nat → Nat} {cy : Nat → ClassId} {A : Nat → Prop} {H0 : Heap} {u : sG × sF} (Fx : CallFix p m c cX3_weighRest 5 s args (Cond.code yX3_weighRest cX3_weighRest 5 none :: wU) RX3) (hret : mRv p l e rm_Pr_weighRest s m args below meth c Q D (cT cy) (cW ad cy) A H0 cX3_weighRest u) (hK42 : ∀ (z : Int32 × Int32 × Int32 × sG × sF), K42 z = some u → ∀ (ls : Array Slot) (H : Heap) (locs : List Loc), lv_has ls 5 [(0, .ref (ad 22)), (1, .int z.1), (2, .int z.2.1), (3, .int z.2.2.1)] → wH D (cT cy) (cW ad cy) A H0 s z.2.2.2.1 z.2.2.2.2 H locs → W p l e rm_Pr_weighRest s m args below meth c H locs 0 0 Q (F0 m 42 ls [])) (x1 : Int32) (x2 : Int32) (x3 : Int32) (g : sG) (f : sF) (hf : p_Pr_weighRest_L42 K42 x1 x2 x3 g f = some u) : ∀ (ls : Array Slot) (H : Heap) (locs : List Loc), lv_has ls 5 [(0, .ref (ad 22)), (1, .int x1), (2, .int x2), (3, .int x3)] → wH D (cT cy) (cW ad cy) A H0 s g f H locs → W p l e rm_Pr_weighRest s m args below meth c H locs 0 0 Q (F0 m 42 ls []) := by
  intro ls H locs hl hC
  unfold p_Pr_weighRest_L42 at hf
  refine lv_iload_n Fx.1 Fx.2.1 dX3_weighRest_42 rfl (lv_at hl 3 rfl) ?_
  refine lv_aload_n Fx.1 Fx.2.1 dX3_weighRest_43 rfl (lv_at hl 0 rfl) ?_
  refine gg_Pr_instrument Fx hC wd_137 dX3_weighRest_44 ?_
  refine gg_In_lastFret Fx hC wd_34 dX3_weighRest_47 ?_
  refine lv_icmp_gt (tgt := 142) Fx.1 Fx.2.1 dX3_weighRest_50 (by decide) (fun hc => ?_) (fun hc => ?_)
  · replace hf := ift hc hf
    obtain rfl := Option.some.inj hf
    exact hret _ _ _ _ dX3_weighRest_142 hC
  · replace hf := iff_ hc hf
    refine lv_aload_n Fx.1 Fx.2.1 dX3_weighRest_53 rfl (lv_at hl 0 rfl) ?_
    refine lv_iload_n Fx.1 Fx.2.1 dX3_weighRest_54 rfl (lv_at hl 1 rfl) ?_
    refine lv_iload_n Fx.1 Fx.2.1 dX3_weighRest_55 rfl (lv_at hl 2 rfl) ?_
    refine lv_iload_n Fx.1 Fx.2.1 dX3_weighRest_56 rfl (lv_at hl 3 rfl) ?_
    obtain ⟨u1, hu1, hf⟩ := bd_e hf
    refine ca_i (As := [.int x1, .int x2, .int x3]) (rest := []) Fx hC (k_Pr_sumFrom hu1) (cVU 3 Fx.2.2.2.2 wd_405 wd_406 wd_857 wd_6 wd_407 rfl rfl hd_Pr_sumFrom ⟨Nat.le_of_ble_eq_true rfl, Nat.le_of_ble_eq_true rfl⟩) 22 rfl rfl rfl hl.1 rfl (Nat.le_of_ble_eq_true rfl) dX3_weighRest_57 (fun H locs hC => ?_)
    refine lv_istore (lv' := [(4, .int u1), (0, .ref (ad 22)), (1, .int x1), (2, .int x2), (3, .int x3)]) Fx.1 Fx.2.1 dX3_weighRest_60 hl (by decide) rfl (fun ls hl => ?_)
    refine lv_iload Fx.1 Fx.2.1 dX3_weighRest_62 (lv_at hl 0 rfl) ?_
    refine lv_iconst (v := (-1 : Int32)) Fx.1 Fx.2.1 dX3_weighRest_64 (by decide) ?_
    refine lv_icmp_ne (tgt := 71) Fx.1 Fx.2.1 dX3_weighRest_65 (by decide) (fun hc => ?_) (fun hc => ?_)
    · replace hf := iff_ hc hf
      refine lv_aload_n Fx.1 Fx.2.1 dX3_weighRest_71 rfl (lv_at hl 1 rfl) ?_
      refine gg_Pr_leastSum Fx hC wd_143 dX3_weighRest_72 ?_
      refine lv_iconst (v := (-1 : Int32)) Fx.1 Fx.2.1 dX3_weighRest_75 (by decide) ?_
      refine lv_icmp_eq (tgt := 88) Fx.1 Fx.2.1 dX3_weighRest_76 (by decide) (fun hc => ?_) (fun hc => ?_)
      · replace hf := ift hc hf
        exact s_Pr_weighRest_J88 Fx hret hK42 _ _ _ _ _ _  hf _ _ _ (lv_sub hl [1, 2, 3, 4, 0] rfl) hC
      · replace hf := iff_ hc hf
        refine lv_iload Fx.1 Fx.2.1 dX3_weighRest_79 (lv_at hl 0 rfl) ?_
        refine lv_aload_n Fx.1 Fx.2.1 dX3_weighRest_81 rfl (lv_at hl 1 rfl) ?_
        refine gg_Pr_leastSum Fx hC wd_143 dX3_weighRest_82 ?_
        refine lv_icmp_ge (tgt := 107) Fx.1 Fx.2.1 dX3_weighRest_85 (by decide) (fun hc => ?_) (fun hc => ?_)
        · replace hf := ift hc hf
          refine lv_iload Fx.1 Fx.2.1 dX3_weighRest_107 (lv_at hl 0 rfl) ?_
          refine lv_aload_n Fx.1 Fx.2.1 dX3_weighRest_109 rfl (lv_at hl 1 rfl) ?_
          refine gg_Pr_leastSum Fx hC wd_143 dX3_weighRest_110 ?_
          refine lv_icmp_ne (tgt := 136) Fx.1 Fx.2.1 dX3_weighRest_113 (by decide) (fun hc => ?_) (fun hc => ?_)
          · replace hf := iff_ hc hf
            obtain ⟨v2, ev2, hf⟩ := lt_e hf
            refine lv_iinc (v := v2) (lv' := [(3, .int v2), (4, .int u1), (0, .ref (ad 22)), (1, .int x1), (2, .int x2)]) Fx.1 Fx.2.1 dX3_weighRest_136 hl (k := 4) rfl ev2.symm (by decide) rfl (fun ls hl => ?_)
            refine lv_goto (tgt := 42) Fx.1 Fx.2.1 dX3_weighRest_139 (by decide) ?_
            exact hK42 _ hf _ _ _ (lv_sub hl [2, 3, 4, 0] rfl) hC
          · replace hf := ift hc hf
            refine lv_aload_n Fx.1 Fx.2.1 dX3_weighRest_116 rfl (lv_at hl 1 rfl) ?_
            refine lv_aload_n Fx.1 Fx.2.1 dX3_weighRest_117 rfl (lv_at hl 1 rfl) ?_
            refine gg_Pr_leastWays Fx hC wd_145 dX3_weighRest_118 ?_
            refine lv_i2l (v := (g 11).toInt64) Fx.1 Fx.2.1 dX3_weighRest_121 rfl ?_
            refine lv_aload_n Fx.1 Fx.2.1 dX3_weighRest_122 rfl (lv_at hl 1 rfl) ?_
            refine lv_iload_n Fx.1 Fx.2.1 dX3_weighRest_123 rfl (lv_at hl 2 rfl) ?_
            refine lv_iload_n Fx.1 Fx.2.1 dX3_weighRest_124 rfl (lv_at hl 4 rfl) ?_
            obtain ⟨u3, hu3, hf⟩ := bd_e hf
            refine ca_i (As := [.int x1, .int x3]) (rest := [.long ((g 11).toInt64), .ref (ad 22)]) Fx hC (k_Pr_waysAt hu3) (cVU 2 Fx.2.2.2.2 wd_411 wd_412 wd_858 wd_6 wd_413 rfl rfl hd_Pr_waysAt ⟨Nat.le_of_ble_eq_true rfl, Nat.le_of_ble_eq_true rfl⟩) 22 rfl rfl rfl hl.1 rfl (Nat.le_of_ble_eq_true rfl) dX3_weighRest_125 (fun H locs hC => ?_)
            refine lv_i2l (v := u3.toInt64) Fx.1 Fx.2.1 dX3_weighRest_128 rfl ?_
            refine lv_ladd Fx.1 Fx.2.1 dX3_weighRest_129 ?_
            obtain ⟨u4, hu4, hf⟩ := bd_e hf
            refine ca_s (As := [.long (((g 11).toInt64) + u3.toInt64)]) (rest := [.ref (ad 22)]) Fx hC (k_Pr_atMostTies hu4) (cSU 1 Fx.2.2.2.2 wd_414 wd_415 wd_6 wd_416 rfl rfl hd_Pr_atMostTies ⟨Nat.le_of_ble_eq_true rfl, Nat.le_of_ble_eq_true rfl⟩) rfl hl.1 rfl (Nat.le_of_ble_eq_true rfl) dX3_weighRest_130 (fun H locs hC => ?_)
            obtain ⟨g5, eg5, hf⟩ := lt_e hf
            refine gp_Pr_leastWays Fx hC wd_145 eg5 dX3_weighRest_133 (fun H locs hC => ?_)
            obtain ⟨v6, ev6, hf⟩ := lt_e hf
            refine lv_iinc (v := v6) (lv' := [(3, .int v6), (4, .int u1), (0, .ref (ad 22)), (1, .int x1), (2, .int x2)]) Fx.1 Fx.2.1 dX3_weighRest_136 hl (k := 4) rfl ev6.symm (by decide) rfl (fun ls hl => ?_)
            refine lv_goto (tgt := 42) Fx.1 Fx.2.1 dX3_weighRest_139 (by decide) ?_
            exact hK42 _ hf _ _ _ (lv_sub hl [2, 3, 4, 0] rfl) hC
        · replace hf := iff_ hc hf
          exact s_Pr_weighRest_J88 Fx hret hK42 _ _ _ _ _ _  hf _ _ _ (lv_sub hl [1, 2, 3, 4, 0] rfl) hC
    · replace hf := ift hc hf
      refine lv_goto (tgt := 136) Fx.1 Fx.2.1 dX3_weighRest_68 (by decide) ?_
      obtain ⟨v7, ev7, hf⟩ := lt_e hf
      refine lv_iinc (v := v7) (lv' := [(3, .int v7), (4, .int u1), (0, .ref (ad 22)), (1, .int x1), (2, .int x2)]) Fx.1 Fx.2.1 dX3_weighRest_136 hl (k := 4) rfl ev7.symm (by decide) rfl (fun ls hl => ?_)
      refine lv_goto (tgt := 42) Fx.1 Fx.2.1 dX3_weighRest_139 (by decide) ?_
      exact hK42 _ hf _ _ _ (lv_sub hl [2, 3, 4, 0] rfl) hC
set_option maxRecDepth 100000 in
set_option maxHeartbeats 4000000 in
theorem t_Pr_weighRest_L42 {p : Program} {l : Launch} {e : Env} {s : State} {m : MethodId} {args : Array Value} {below : List Frame} {meth : Method} {c : Code} {Q : State → Prop} {D : va_G} {ad : Nat → Nat} {cy : Nat → ClassId} {A : Nat → Prop} {H0 : Heap} {u : sG × sF} (Fx : CallFix p m c cX3_weighRest 5 s args (Cond.code yX3_weighRest cX3_weighRest 5 none :: wU) RX3) (hret : mRv p l e rm_Pr_weighRest s m args below meth c Q D (cT cy) (cW ad cy) A H0 cX3_weighRest u)  (n : Nat) (z : Int32 × Int32 × Int32 × sG × sF) (hz : itr (fun K z => p_Pr_weighRest_L42 K z.1 z.2.1 z.2.2.1 z.2.2.2.1 z.2.2.2.2) n z = some u) : ∀ (ls : Array Slot) (H : Heap) (locs : List Loc), lv_has ls 5 [(0, .ref (ad 22)), (1, .int z.1), (2, .int z.2.1), (3, .int z.2.2.1)] → wH D (cT cy) (cW ad cy) A H0 s z.2.2.2.1 z.2.2.2.2 H locs → W p l e rm_Pr_weighRest s m args below meth c H locs 0 0 Q (F0 m 42 ls []) :=
  itr_all (B := fun K z => p_Pr_weighRest_L42 K z.1 z.2.1 z.2.2.1 z.2.2.2.1 z.2.2.2.2) (r := u) (fun z => ∀ (ls : Array Slot) (H : Heap) (locs : List Loc), lv_has ls 5 [(0, .ref (ad 22)), (1, .int z.1), (2, .int z.2.1), (3, .int z.2.2.1)] → wH D (cT cy) (cW ad cy) A H0 s z.2.2.2.1 z.2.2.2.2 H locs → W p l e rm_Pr_weighRest s m args below meth c H locs 0 0 Q (F0 m 42 ls [])) (fun K hK z h => s_Pr_weighRest_L42 (K42 := K) Fx hret hK z.1 z.2.1 z.2.2.1 z.2.2.2.1 z.2.2.2.2 h) n z hz
noncomputable def p_Pr_weighRest (a1 : Int32) (a2 : Int32) (g : sG) (f : sF) : Option (sG × sF) := (if a1 < (g 3) then lt_ (upd g 10 (-1 : Int32)) (fun g1 => lt_ (upd g1 11 (0 : Int32)) (fun g2 => lt_ ((g2 2) + (1 : Int32)) (fun v3 => itr (fun K z => p_Pr_weighRest_L42 K z.1 z.2.1 z.2.2.1 z.2.2.2.1 z.2.2.2.2) FUEL (a1, a2, v3, g2, f)))) else lt_ (upd g 10 (0 : Int32)) (fun g4 => lt_ (upd g4 11 (1 : Int32)) (fun g5 => some (g5, f))))
set_option maxRecDepth 100000 in
set_option maxHeartbeats 4000000 in
theorem k_Pr_weighRest {l : Launch} {D : va_G} {ad : Nat → Nat} {cy : Nat → ClassId} {a1 : Int32} {a2 : Int32} {u : sG × sF} {g : sG} {f : sF} (hf : p_Pr_weighRest a1 a2 g f = some u) : mMv l yX3_weighRest (Cond.code yX3_weighRest cX3_weighRest 5 none :: wU) rm_Pr_weighRest D (cT cy) (cW ad cy) [.ref (ad 22), .int a1, .int a2] g f u := by
  refine mk_v (by decide) rfl (Nat.le_of_ble_eq_true rfl) ?_
  intro p e s m below meth c Q A H0 Fx hret ls H locs hl hC
  replace hl : lv_has ls 5 [(0, .ref (ad 22)), (1, .int a1), (2, .int a2)] := hl
  unfold p_Pr_weighRest at hf
  refine lv_iload_n Fx.1 Fx.2.1 dX3_weighRest_0 rfl (lv_at hl 1 rfl) ?_
  refine lv_aload_n Fx.1 Fx.2.1 dX3_weighRest_1 rfl (lv_at hl 0 rfl) ?_
  refine gg_Pr_tune Fx hC wd_139 dX3_weighRest_2 ?_
  refine gg_Tu_events Fx hC wd_57 dX3_weighRest_5 ?_
  refine lv_icmp_lt (tgt := 22) Fx.1 Fx.2.1 dX3_weighRest_8 (by decide) (fun hc => ?_) (fun hc => ?_)
  · replace hf := ift hc hf
    refine lv_aload_n Fx.1 Fx.2.1 dX3_weighRest_22 rfl (lv_at hl 0 rfl) ?_
    refine lv_iconst (v := (-1 : Int32)) Fx.1 Fx.2.1 dX3_weighRest_23 (by decide) ?_
    obtain ⟨g1, eg1, hf⟩ := lt_e hf
    refine gp_Pr_leastSum Fx hC wd_143 eg1 dX3_weighRest_24 (fun H locs hC => ?_)
    refine lv_aload_n Fx.1 Fx.2.1 dX3_weighRest_27 rfl (lv_at hl 0 rfl) ?_
    refine lv_iconst (v := (0 : Int32)) Fx.1 Fx.2.1 dX3_weighRest_28 (by decide) ?_
    obtain ⟨g2, eg2, hf⟩ := lt_e hf
    refine gp_Pr_leastWays Fx hC wd_145 eg2 dX3_weighRest_29 (fun H locs hC => ?_)
    refine lv_aload_n Fx.1 Fx.2.1 dX3_weighRest_32 rfl (lv_at hl 0 rfl) ?_
    refine gg_Pr_instrument Fx hC wd_137 dX3_weighRest_33 ?_
    refine gg_In_capoFret Fx hC wd_39 dX3_weighRest_36 ?_
    refine lv_iconst (v := (1 : Int32)) Fx.1 Fx.2.1 dX3_weighRest_39 (by decide) ?_
    refine lv_iadd Fx.1 Fx.2.1 dX3_weighRest_40 ?_
    obtain ⟨v3, ev3, hf⟩ := lt_e hf
    refine tpi ev3 ?_
    refine lv_istore_n (lv' := [(3, .int v3), (0, .ref (ad 22)), (1, .int a1), (2, .int a2)]) Fx.1 Fx.2.1 dX3_weighRest_41 rfl hl (by decide) rfl (fun ls hl => ?_)
    exact t_Pr_weighRest_L42 Fx hret _ _ hf _ _ _ (lv_sub hl [1, 2, 3, 0] rfl) hC
  · replace hf := iff_ hc hf
    refine lv_aload_n Fx.1 Fx.2.1 dX3_weighRest_11 rfl (lv_at hl 0 rfl) ?_
    refine lv_iconst (v := (0 : Int32)) Fx.1 Fx.2.1 dX3_weighRest_12 (by decide) ?_
    obtain ⟨g4, eg4, hf⟩ := lt_e hf
    refine gp_Pr_leastSum Fx hC wd_143 eg4 dX3_weighRest_13 (fun H locs hC => ?_)
    refine lv_aload_n Fx.1 Fx.2.1 dX3_weighRest_16 rfl (lv_at hl 0 rfl) ?_
    refine lv_iconst (v := (1 : Int32)) Fx.1 Fx.2.1 dX3_weighRest_17 (by decide) ?_
    obtain ⟨g5, eg5, hf⟩ := lt_e hf
    refine gp_Pr_leastWays Fx hC wd_145 eg5 dX3_weighRest_18 (fun H locs hC => ?_)
    obtain rfl := Option.some.inj hf
    exact hret _ _ _ _ dX3_weighRest_21 hC
/-! FretHands$Planner.fillCell(II)V -/
abbrev rm_Pr_fillCell : Room := { frames := 3, cells := 0, slots := 0, locals := 72 }
theorem hd_Pr_fillCell : yX3_fillCell.cls = RX3 ∧ yX3_fillCell.cls ≠ "java/lang/invoke/MethodHandle" ∧ yX3_fillCell.cls ≠ "java/lang/invoke/VarHandle" ∧ (parseMethodDescriptor yX3_fillCell.desc).map (fun d => d.parameters.length) = some 2 := by decide +kernel
noncomputable def p_Pr_fillCell (a1 : Int32) (a2 : Int32) (g : sG) (f : sF) : Option (sG × sF) := Option.bind (p_Pr_isCell a1 a2 g f) (fun u1 => (if u1 = 0 then some (g, f) else lt_ ((a1 * (25 : Int32)) + a2) (fun v2 => (if v2 < 0 ∨ 1000 ≤ v2.toNatClampNeg then none else lt_ (up2 f 17 v2.toNatClampNeg (-1 : Int32)) (fun f4 => (if a2 < 0 ∨ 25 ≤ a2.toNatClampNeg then none else (if (f4 9 a2.toNatClampNeg) = 0 then some (g, f4) else Option.bind (p_Pr_weighRest (a1 + (1 : Int32)) a2 g f4) (fun u6 => (if (u6.1 10) = (-1 : Int32) then some (u6.1, u6.2) else (if a2 < 0 ∨ 25 ≤ a2.toNatClampNeg then none else (if v2 < 0 ∨ 1000 ≤ v2.toNatClampNeg then none else lt_ (up2 u6.2 17 v2.toNatClampNeg ((u6.2 10 a2.toNatClampNeg) + (u6.1 10))) (fun f9 => (if a2 < 0 ∨ 25 ≤ a2.toNatClampNeg then none else Option.bind (p_Pr_atMostTies (((f9 11 a2.toNatClampNeg).toInt64) * ((u6.1 11).toInt64)) u6.1 f9) (fun u11 => (if v2 < 0 ∨ 1000 ≤ v2.toNatClampNeg then none else lt_ (up2 f9 18 v2.toNatClampNeg u11) (fun f13 => some (u6.1, f13)))))))))))))))))
set_option maxRecDepth 100000 in
set_option maxHeartbeats 4000000 in
theorem k_Pr_fillCell {l : Launch} {D : va_G} {ad : Nat → Nat} {cy : Nat → ClassId} {a1 : Int32} {a2 : Int32} {u : sG × sF} {g : sG} {f : sF} (hf : p_Pr_fillCell a1 a2 g f = some u) : mMv l yX3_fillCell (Cond.code yX3_fillCell cX3_fillCell 4 none :: wU) rm_Pr_fillCell D (cT cy) (cW ad cy) [.ref (ad 22), .int a1, .int a2] g f u := by
  refine mk_v (by decide) rfl (Nat.le_of_ble_eq_true rfl) ?_
  intro p e s m below meth c Q A H0 Fx hret ls H locs hl hC
  replace hl : lv_has ls 4 [(0, .ref (ad 22)), (1, .int a1), (2, .int a2)] := hl
  unfold p_Pr_fillCell at hf
  refine lv_iload_n Fx.1 Fx.2.1 dX3_fillCell_0 rfl (lv_at hl 1 rfl) ?_
  refine lv_iload_n Fx.1 Fx.2.1 dX3_fillCell_1 rfl (lv_at hl 2 rfl) ?_
  obtain ⟨u1, hu1, hf⟩ := bd_e hf
  refine ca_s (As := [.int a1, .int a2]) (rest := []) Fx hC (k_Pr_isCell hu1) (cSU 2 Fx.2.2.2.2 wd_399 wd_400 wd_6 wd_401 rfl rfl hd_Pr_isCell ⟨Nat.le_of_ble_eq_true rfl, Nat.le_of_ble_eq_true rfl⟩) rfl hl.1 rfl (Nat.le_of_ble_eq_true rfl) dX3_fillCell_2 (fun H locs hC => ?_)
  refine lv_if_ne (tgt := 9) Fx.1 Fx.2.1 dX3_fillCell_5 (by decide) (fun hc => ?_) (fun hc => ?_)
  · replace hf := iff_ hc hf
    refine lv_iload_n Fx.1 Fx.2.1 dX3_fillCell_9 rfl (lv_at hl 1 rfl) ?_
    refine lv_bipush (v := (25 : Int32)) Fx.1 Fx.2.1 dX3_fillCell_10 (by decide) ?_
    refine lv_imul Fx.1 Fx.2.1 dX3_fillCell_12 ?_
    refine lv_iload_n Fx.1 Fx.2.1 dX3_fillCell_13 rfl (lv_at hl 2 rfl) ?_
    refine lv_iadd Fx.1 Fx.2.1 dX3_fillCell_14 ?_
    obtain ⟨v2, ev2, hf⟩ := lt_e hf
    refine tpi ev2 ?_
    refine lv_istore_n (lv' := [(3, .int v2), (0, .ref (ad 22)), (1, .int a1), (2, .int a2)]) Fx.1 Fx.2.1 dX3_fillCell_15 rfl hl (by decide) rfl (fun ls hl => ?_)
    refine lv_aload_n Fx.1 Fx.2.1 dX3_fillCell_16 rfl (lv_at hl 1 rfl) ?_
    refine gg_Pr_sums Fx hC wd_141 dX3_fillCell_17 ?_
    refine lv_iload_n Fx.1 Fx.2.1 dX3_fillCell_20 rfl (lv_at hl 0 rfl) ?_
    refine lv_iconst (v := (-1 : Int32)) Fx.1 Fx.2.1 dX3_fillCell_21 (by decide) ?_
    obtain ⟨hi3, hf⟩ := gd_e hf
    obtain ⟨f4, ef4, hf⟩ := lt_e hf
    refine st_Pr_sums Fx hC hi3 ef4 dX3_fillCell_22 (fun H locs hC => ?_)
    refine lv_aload_n Fx.1 Fx.2.1 dX3_fillCell_23 rfl (lv_at hl 1 rfl) ?_
    refine gg_Pr_finder Fx hC wd_140 dX3_fillCell_24 ?_
    refine gg_GF_counts Fx hC wd_95 dX3_fillCell_27 ?_
    refine lv_iload_n Fx.1 Fx.2.1 dX3_fillCell_30 rfl (lv_at hl 3 rfl) ?_
    obtain ⟨hi5, hf⟩ := gd_e hf
    refine ld_GF_counts Fx hC hi5 dX3_fillCell_31 ?_
    refine lv_if_ne (tgt := 36) Fx.1 Fx.2.1 dX3_fillCell_32 (by decide) (fun hc => ?_) (fun hc => ?_)
    · replace hf := iff_ hc hf
      refine lv_aload_n Fx.1 Fx.2.1 dX3_fillCell_36 rfl (lv_at hl 1 rfl) ?_
      refine lv_iload_n Fx.1 Fx.2.1 dX3_fillCell_37 rfl (lv_at hl 2 rfl) ?_
      refine lv_iconst (v := (1 : Int32)) Fx.1 Fx.2.1 dX3_fillCell_38 (by decide) ?_
      refine lv_iadd Fx.1 Fx.2.1 dX3_fillCell_39 ?_
      refine lv_iload_n Fx.1 Fx.2.1 dX3_fillCell_40 rfl (lv_at hl 3 rfl) ?_
      obtain ⟨u6, hu6, hf⟩ := bd_e hf
      refine ca_v (As := [.int (a1 + (1 : Int32)), .int a2]) (rest := []) Fx hC (k_Pr_weighRest hu6) (cVU 2 Fx.2.2.2.2 wd_402 wd_403 wd_856 wd_6 wd_404 rfl rfl hd_Pr_weighRest ⟨Nat.le_of_ble_eq_true rfl, Nat.le_of_ble_eq_true rfl⟩) 22 rfl rfl rfl hl.1 rfl (Nat.le_of_ble_eq_true rfl) dX3_fillCell_41 (fun H locs hC => ?_)
      refine lv_aload_n Fx.1 Fx.2.1 dX3_fillCell_44 rfl (lv_at hl 1 rfl) ?_
      refine gg_Pr_leastSum Fx hC wd_143 dX3_fillCell_45 ?_
      refine lv_iconst (v := (-1 : Int32)) Fx.1 Fx.2.1 dX3_fillCell_48 (by decide) ?_
      refine lv_icmp_ne (tgt := 53) Fx.1 Fx.2.1 dX3_fillCell_49 (by decide) (fun hc => ?_) (fun hc => ?_)
      · replace hf := iff_ hc hf
        refine lv_aload_n Fx.1 Fx.2.1 dX3_fillCell_53 rfl (lv_at hl 1 rfl) ?_
        refine gg_Pr_sums Fx hC wd_141 dX3_fillCell_54 ?_
        refine lv_iload_n Fx.1 Fx.2.1 dX3_fillCell_57 rfl (lv_at hl 0 rfl) ?_
        refine lv_aload_n Fx.1 Fx.2.1 dX3_fillCell_58 rfl (lv_at hl 1 rfl) ?_
        refine gg_Pr_finder Fx hC wd_140 dX3_fillCell_59 ?_
        refine gg_GF_leastCosts Fx hC wd_97 dX3_fillCell_62 ?_
        refine lv_iload_n Fx.1 Fx.2.1 dX3_fillCell_65 rfl (lv_at hl 3 rfl) ?_
        obtain ⟨hi7, hf⟩ := gd_e hf
        refine ld_GF_leastCosts Fx hC hi7 dX3_fillCell_66 ?_
        refine lv_aload_n Fx.1 Fx.2.1 dX3_fillCell_67 rfl (lv_at hl 1 rfl) ?_
        refine gg_Pr_leastSum Fx hC wd_143 dX3_fillCell_68 ?_
        refine lv_iadd Fx.1 Fx.2.1 dX3_fillCell_71 ?_
        obtain ⟨hi8, hf⟩ := gd_e hf
        obtain ⟨f9, ef9, hf⟩ := lt_e hf
        refine st_Pr_sums Fx hC hi8 ef9 dX3_fillCell_72 (fun H locs hC => ?_)
        refine lv_aload_n Fx.1 Fx.2.1 dX3_fillCell_73 rfl (lv_at hl 1 rfl) ?_
        refine gg_Pr_ways Fx hC wd_142 dX3_fillCell_74 ?_
        refine lv_iload_n Fx.1 Fx.2.1 dX3_fillCell_77 rfl (lv_at hl 0 rfl) ?_
        refine lv_aload_n Fx.1 Fx.2.1 dX3_fillCell_78 rfl (lv_at hl 1 rfl) ?_
        refine gg_Pr_finder Fx hC wd_140 dX3_fillCell_79 ?_
        refine gg_GF_leastCounts Fx hC wd_100 dX3_fillCell_82 ?_
        refine lv_iload_n Fx.1 Fx.2.1 dX3_fillCell_85 rfl (lv_at hl 3 rfl) ?_
        obtain ⟨hi10, hf⟩ := gd_e hf
        refine ld_GF_leastCounts Fx hC hi10 dX3_fillCell_86 ?_
        refine lv_i2l (v := (f9 11 a2.toNatClampNeg).toInt64) Fx.1 Fx.2.1 dX3_fillCell_87 rfl ?_
        refine lv_aload_n Fx.1 Fx.2.1 dX3_fillCell_88 rfl (lv_at hl 1 rfl) ?_
        refine gg_Pr_leastWays Fx hC wd_145 dX3_fillCell_89 ?_
        refine lv_i2l (v := (u6.1 11).toInt64) Fx.1 Fx.2.1 dX3_fillCell_92 rfl ?_
        refine lv_lmul Fx.1 Fx.2.1 dX3_fillCell_93 ?_
        obtain ⟨u11, hu11, hf⟩ := bd_e hf
        refine ca_s (As := [.long (((f9 11 a2.toNatClampNeg).toInt64) * ((u6.1 11).toInt64))]) (rest := [.int v2, .ref (ad 24)]) Fx hC (k_Pr_atMostTies hu11) (cSU 1 Fx.2.2.2.2 wd_414 wd_415 wd_6 wd_416 rfl rfl hd_Pr_atMostTies ⟨Nat.le_of_ble_eq_true rfl, Nat.le_of_ble_eq_true rfl⟩) rfl hl.1 rfl (Nat.le_of_ble_eq_true rfl) dX3_fillCell_94 (fun H locs hC => ?_)
        obtain ⟨hi12, hf⟩ := gd_e hf
        obtain ⟨f13, ef13, hf⟩ := lt_e hf
        refine st_Pr_ways Fx hC hi12 ef13 dX3_fillCell_97 (fun H locs hC => ?_)
        obtain rfl := Option.some.inj hf
        exact hret _ _ _ _ dX3_fillCell_98 hC
      · replace hf := ift hc hf
        obtain rfl := Option.some.inj hf
        exact hret _ _ _ _ dX3_fillCell_52 hC
    · replace hf := ift hc hf
      obtain rfl := Option.some.inj hf
      exact hret _ _ _ _ dX3_fillCell_35 hC
  · replace hf := ift hc hf
    obtain rfl := Option.some.inj hf
    exact hret _ _ _ _ dX3_fillCell_8 hC
/-! FretHands$Planner.search()V -/
abbrev rm_Pr_search : Room := { frames := 29, cells := 0, slots := 0, locals := 837 }
theorem hd_Pr_search : yX3_search.cls = RX3 ∧ yX3_search.cls ≠ "java/lang/invoke/MethodHandle" ∧ yX3_search.cls ≠ "java/lang/invoke/VarHandle" ∧ (parseMethodDescriptor yX3_search.desc).map (fun d => d.parameters.length) = some 0 := by decide +kernel
noncomputable def p_Pr_search_L24 (K10 : (Int32 × sG × sF) → Option (sG × sF)) (K24 : (Int32 × Int32 × sG × sF) → Option (sG × sF)) (x1 : Int32) (x2 : Int32) (g : sG) (f : sF) : Option (sG × sF) := (if (25 : Int32) ≤ x2 then lt_ (x1 + (-1 : Int32)) (fun v1 => K10 (v1, g, f)) else Option.bind (p_Pr_fillCell x1 x2 g f) (fun u2 => lt_ (x2 + (1 : Int32)) (fun v3 => K24 (x1, v3, u2.1, u2.2))))
set_option maxRecDepth 100000 in
set_option maxHeartbeats 4000000 in
theorem s_Pr_search_L24 {K10 : (Int32 × sG × sF) → Option (sG × sF)} {K24 : (Int32 × Int32 × sG × sF) → Option (sG × sF)} {p : Program} {l : Launch} {e : Env} {s : State} {m : MethodId} {args : Array Value} {below : List Frame} {meth : Method} {c : Code} {Q : State → Prop} {D : va_G} {ad : Nat → Nat} {cy : Nat → ClassId} {A : Nat → Prop} {H0 : Heap} {u : sG × sF} (Fx : CallFix p m c cX3_search 3 s args (Cond.code yX3_search cX3_search 3 none :: wU) RX3) (hret : mRv p l e rm_Pr_search s m args below meth c Q D (cT cy) (cW ad cy) A H0 cX3_search u) (hK10 : ∀ (z : Int32 × sG × sF), K10 z = some u → ∀ (ls : Array Slot) (H : Heap) (locs : List Loc), lv_has ls 3 [(0, .ref (ad 22)), (1, .int z.1)] → wH D (cT cy) (cW ad cy) A H0 s z.2.1 z.2.2 H locs → W p l e rm_Pr_search s m args below meth c H locs 0 0 Q (F0 m 10 ls [])) (hK24 : ∀ (z : Int32 × Int32 × sG × sF), K24 z = some u → ∀ (ls : Array Slot) (H : Heap) (locs : List Loc), lv_has ls 3 [(0, .ref (ad 22)), (1, .int z.1), (2, .int z.2.1)] → wH D (cT cy) (cW ad cy) A H0 s z.2.2.1 z.2.2.2 H locs → W p l e rm_Pr_search s m args below meth c H locs 0 0 Q (F0 m 24 ls [])) (x1 : Int32) (x2 : Int32) (g : sG) (f : sF) (hf : p_Pr_search_L24 K10 K24 x1 x2 g f = some u) : ∀ (ls : Array Slot) (H : Heap) (locs : List Loc), lv_has ls 3 [(0, .ref (ad 22)), (1, .int x1), (2, .int x2)] → wH D (cT cy) (cW ad cy) A H0 s g f H locs → W p l e rm_Pr_search s m args below meth c H locs 0 0 Q (F0 m 24 ls []) := by
  intro ls H locs hl hC
  unfold p_Pr_search_L24 at hf
  refine lv_iload_n Fx.1 Fx.2.1 dX3_search_24 rfl (lv_at hl 2 rfl) ?_
  refine lv_bipush (v := (25 : Int32)) Fx.1 Fx.2.1 dX3_search_25 (by decide) ?_
  refine lv_icmp_ge (tgt := 42) Fx.1 Fx.2.1 dX3_search_27 (by decide) (fun hc => ?_) (fun hc => ?_)
  · replace hf := ift hc hf
    obtain ⟨v1, ev1, hf⟩ := lt_e hf
    refine lv_iinc (v := v1) (lv' := [(1, .int v1), (0, .ref (ad 22)), (2, .int x2)]) Fx.1 Fx.2.1 dX3_search_42 hl (k := 1) rfl ev1.symm (by decide) rfl (fun ls hl => ?_)
    refine lv_goto (tgt := 10) Fx.1 Fx.2.1 dX3_search_45 (by decide) ?_
    exact hK10 _ hf _ _ _ (lv_sub hl [1, 0] rfl) hC
  · replace hf := iff_ hc hf
    refine lv_aload_n Fx.1 Fx.2.1 dX3_search_30 rfl (lv_at hl 0 rfl) ?_
    refine lv_iload_n Fx.1 Fx.2.1 dX3_search_31 rfl (lv_at hl 1 rfl) ?_
    refine lv_iload_n Fx.1 Fx.2.1 dX3_search_32 rfl (lv_at hl 2 rfl) ?_
    obtain ⟨u2, hu2, hf⟩ := bd_e hf
    refine ca_v (As := [.int x1, .int x2]) (rest := []) Fx hC (k_Pr_fillCell hu2) (cVU 2 Fx.2.2.2.2 wd_396 wd_397 wd_855 wd_6 wd_398 rfl rfl hd_Pr_fillCell ⟨Nat.le_of_ble_eq_true rfl, Nat.le_of_ble_eq_true rfl⟩) 22 rfl rfl rfl hl.1 rfl (Nat.le_of_ble_eq_true rfl) dX3_search_33 (fun H locs hC => ?_)
    obtain ⟨v3, ev3, hf⟩ := lt_e hf
    refine lv_iinc (v := v3) (lv' := [(2, .int v3), (0, .ref (ad 22)), (1, .int x1)]) Fx.1 Fx.2.1 dX3_search_36 hl (k := 2) rfl ev3.symm (by decide) rfl (fun ls hl => ?_)
    refine lv_goto (tgt := 24) Fx.1 Fx.2.1 dX3_search_39 (by decide) ?_
    exact hK24 _ hf _ _ _ (lv_sub hl [1, 2, 0] rfl) hC
set_option maxRecDepth 100000 in
set_option maxHeartbeats 4000000 in
theorem t_Pr_search_L24 {K10 : (Int32 × sG × sF) → Option (sG × sF)} {p : Program} {l : Launch} {e : Env} {s : State} {m : MethodId} {args : Array Value} {below : List Frame} {meth : Method} {c : Code} {Q : State → Prop} {D : va_G} {ad : Nat → Nat} {cy : Nat → ClassId} {A : Nat → Prop} {H0 : Heap} {u : sG × sF} (Fx : CallFix p m c cX3_search 3 s args (Cond.code yX3_search cX3_search 3 none :: wU) RX3) (hret : mRv p l e rm_Pr_search s m args below meth c Q D (cT cy) (cW ad cy) A H0 cX3_search u) (hK10 : ∀ (z : Int32 × sG × sF), K10 z = some u → ∀ (ls : Array Slot) (H : Heap) (locs : List Loc), lv_has ls 3 [(0, .ref (ad 22)), (1, .int z.1)] → wH D (cT cy) (cW ad cy) A H0 s z.2.1 z.2.2 H locs → W p l e rm_Pr_search s m args below meth c H locs 0 0 Q (F0 m 10 ls [])) (n : Nat) (z : Int32 × Int32 × sG × sF) (hz : itr (fun K z => p_Pr_search_L24 K10 K z.1 z.2.1 z.2.2.1 z.2.2.2) n z = some u) : ∀ (ls : Array Slot) (H : Heap) (locs : List Loc), lv_has ls 3 [(0, .ref (ad 22)), (1, .int z.1), (2, .int z.2.1)] → wH D (cT cy) (cW ad cy) A H0 s z.2.2.1 z.2.2.2 H locs → W p l e rm_Pr_search s m args below meth c H locs 0 0 Q (F0 m 24 ls []) :=
  itr_all (B := fun K z => p_Pr_search_L24 K10 K z.1 z.2.1 z.2.2.1 z.2.2.2) (r := u) (fun z => ∀ (ls : Array Slot) (H : Heap) (locs : List Loc), lv_has ls 3 [(0, .ref (ad 22)), (1, .int z.1), (2, .int z.2.1)] → wH D (cT cy) (cW ad cy) A H0 s z.2.2.1 z.2.2.2 H locs → W p l e rm_Pr_search s m args below meth c H locs 0 0 Q (F0 m 24 ls [])) (fun K hK z h => s_Pr_search_L24 (K24 := K) Fx hret hK10 hK z.1 z.2.1 z.2.2.1 z.2.2.2 h) n z hz
noncomputable def p_Pr_search_L10 (K10 : (Int32 × sG × sF) → Option (sG × sF)) (x1 : Int32) (g : sG) (f : sF) : Option (sG × sF) := (if x1 < 0 then Option.bind (p_Pr_weighRest (0 : Int32) (-1 : Int32) g f) (fun u1 => some (u1.1, u1.2)) else Option.bind (p_GF_survey x1 g f) (fun u2 => itr (fun K z => p_Pr_search_L24 K10 K z.1 z.2.1 z.2.2.1 z.2.2.2) FUEL (x1, (0 : Int32), u2.1, u2.2)))
set_option maxRecDepth 100000 in
set_option maxHeartbeats 4000000 in
theorem s_Pr_search_L10 {K10 : (Int32 × sG × sF) → Option (sG × sF)} {p : Program} {l : Launch} {e : Env} {s : State} {m : MethodId} {args : Array Value} {below : List Frame} {meth : Method} {c : Code} {Q : State → Prop} {D : va_G} {ad : Nat → Nat} {cy : Nat → ClassId} {A : Nat → Prop} {H0 : Heap} {u : sG × sF} (Fx : CallFix p m c cX3_search 3 s args (Cond.code yX3_search cX3_search 3 none :: wU) RX3) (hret : mRv p l e rm_Pr_search s m args below meth c Q D (cT cy) (cW ad cy) A H0 cX3_search u) (hK10 : ∀ (z : Int32 × sG × sF), K10 z = some u → ∀ (ls : Array Slot) (H : Heap) (locs : List Loc), lv_has ls 3 [(0, .ref (ad 22)), (1, .int z.1)] → wH D (cT cy) (cW ad cy) A H0 s z.2.1 z.2.2 H locs → W p l e rm_Pr_search s m args below meth c H locs 0 0 Q (F0 m 10 ls [])) (x1 : Int32) (g : sG) (f : sF) (hf : p_Pr_search_L10 K10 x1 g f = some u) : ∀ (ls : Array Slot) (H : Heap) (locs : List Loc), lv_has ls 3 [(0, .ref (ad 22)), (1, .int x1)] → wH D (cT cy) (cW ad cy) A H0 s g f H locs → W p l e rm_Pr_search s m args below meth c H locs 0 0 Q (F0 m 10 ls []) := by
  intro ls H locs hl hC
  unfold p_Pr_search_L10 at hf
  refine lv_iload_n Fx.1 Fx.2.1 dX3_search_10 rfl (lv_at hl 1 rfl) ?_
  refine lv_if_lt (tgt := 48) Fx.1 Fx.2.1 dX3_search_11 (by decide) (fun hc => ?_) (fun hc => ?_)
  · replace hf := ift hc hf
    refine lv_aload_n Fx.1 Fx.2.1 dX3_search_48 rfl (lv_at hl 0 rfl) ?_
    refine lv_iconst (v := (0 : Int32)) Fx.1 Fx.2.1 dX3_search_49 (by decide) ?_
    refine lv_iconst (v := (-1 : Int32)) Fx.1 Fx.2.1 dX3_search_50 (by decide) ?_
    obtain ⟨u1, hu1, hf⟩ := bd_e hf
    refine ca_v (As := [.int (0 : Int32), .int (-1 : Int32)]) (rest := []) Fx hC (k_Pr_weighRest hu1) (cVU 2 Fx.2.2.2.2 wd_402 wd_403 wd_856 wd_6 wd_404 rfl rfl hd_Pr_weighRest ⟨Nat.le_of_ble_eq_true rfl, Nat.le_of_ble_eq_true rfl⟩) 22 rfl rfl rfl hl.1 rfl (Nat.le_of_ble_eq_true rfl) dX3_search_51 (fun H locs hC => ?_)
    obtain rfl := Option.some.inj hf
    exact hret _ _ _ _ dX3_search_54 hC
  · replace hf := iff_ hc hf
    refine lv_aload_n Fx.1 Fx.2.1 dX3_search_14 rfl (lv_at hl 0 rfl) ?_
    refine gg_Pr_finder Fx hC wd_140 dX3_search_15 ?_
    refine lv_iload_n Fx.1 Fx.2.1 dX3_search_18 rfl (lv_at hl 1 rfl) ?_
    obtain ⟨u2, hu2, hf⟩ := bd_e hf
    refine ca_v (As := [.int x1]) (rest := []) Fx hC (k_GF_survey hu2) (cVU 1 Fx.2.2.2.2 wd_395 wd_337 wd_338 wd_5 wd_339 rfl rfl hd_GF_survey ⟨Nat.le_of_ble_eq_true rfl, Nat.le_of_ble_eq_true rfl⟩) 13 rfl rfl rfl hl.1 rfl (Nat.le_of_ble_eq_true rfl) dX3_search_19 (fun H locs hC => ?_)
    refine lv_iconst (v := (0 : Int32)) Fx.1 Fx.2.1 dX3_search_22 (by decide) ?_
    refine lv_istore_n (lv' := [(2, .int (0 : Int32)), (0, .ref (ad 22)), (1, .int x1)]) Fx.1 Fx.2.1 dX3_search_23 rfl hl (by decide) rfl (fun ls hl => ?_)
    exact t_Pr_search_L24 Fx hret hK10 _ _ hf _ _ _ (lv_sub hl [1, 2, 0] rfl) hC
set_option maxRecDepth 100000 in
set_option maxHeartbeats 4000000 in
theorem t_Pr_search_L10 {p : Program} {l : Launch} {e : Env} {s : State} {m : MethodId} {args : Array Value} {below : List Frame} {meth : Method} {c : Code} {Q : State → Prop} {D : va_G} {ad : Nat → Nat} {cy : Nat → ClassId} {A : Nat → Prop} {H0 : Heap} {u : sG × sF} (Fx : CallFix p m c cX3_search 3 s args (Cond.code yX3_search cX3_search 3 none :: wU) RX3) (hret : mRv p l e rm_Pr_search s m args below meth c Q D (cT cy) (cW ad cy) A H0 cX3_search u)  (n : Nat) (z : Int32 × sG × sF) (hz : itr (fun K z => p_Pr_search_L10 K z.1 z.2.1 z.2.2) n z = some u) : ∀ (ls : Array Slot) (H : Heap) (locs : List Loc), lv_has ls 3 [(0, .ref (ad 22)), (1, .int z.1)] → wH D (cT cy) (cW ad cy) A H0 s z.2.1 z.2.2 H locs → W p l e rm_Pr_search s m args below meth c H locs 0 0 Q (F0 m 10 ls []) :=
  itr_all (B := fun K z => p_Pr_search_L10 K z.1 z.2.1 z.2.2) (r := u) (fun z => ∀ (ls : Array Slot) (H : Heap) (locs : List Loc), lv_has ls 3 [(0, .ref (ad 22)), (1, .int z.1)] → wH D (cT cy) (cW ad cy) A H0 s z.2.1 z.2.2 H locs → W p l e rm_Pr_search s m args below meth c H locs 0 0 Q (F0 m 10 ls [])) (fun K hK z h => s_Pr_search_L10 (K10 := K) Fx hret hK z.1 z.2.1 z.2.2 h) n z hz
noncomputable def p_Pr_search  (g : sG) (f : sF) : Option (sG × sF) := lt_ ((g 3) - (1 : Int32)) (fun v1 => itr (fun K z => p_Pr_search_L10 K z.1 z.2.1 z.2.2) FUEL (v1, g, f))
set_option maxRecDepth 100000 in
set_option maxHeartbeats 4000000 in
theorem k_Pr_search {l : Launch} {D : va_G} {ad : Nat → Nat} {cy : Nat → ClassId}  {u : sG × sF} {g : sG} {f : sF} (hf : p_Pr_search  g f = some u) : mMv l yX3_search (Cond.code yX3_search cX3_search 3 none :: wU) rm_Pr_search D (cT cy) (cW ad cy) [.ref (ad 22)] g f u := by
  refine mk_v (by decide) rfl (Nat.le_of_ble_eq_true rfl) ?_
  intro p e s m below meth c Q A H0 Fx hret ls H locs hl hC
  replace hl : lv_has ls 3 [(0, .ref (ad 22))] := hl
  unfold p_Pr_search at hf
  refine lv_aload_n Fx.1 Fx.2.1 dX3_search_0 rfl (lv_at hl 0 rfl) ?_
  refine gg_Pr_tune Fx hC wd_139 dX3_search_1 ?_
  refine gg_Tu_events Fx hC wd_57 dX3_search_4 ?_
  refine lv_iconst (v := (1 : Int32)) Fx.1 Fx.2.1 dX3_search_7 (by decide) ?_
  refine lv_isub Fx.1 Fx.2.1 dX3_search_8 ?_
  obtain ⟨v1, ev1, hf⟩ := lt_e hf
  refine tpi ev1 ?_
  refine lv_istore_n (lv' := [(1, .int v1), (0, .ref (ad 22))]) Fx.1 Fx.2.1 dX3_search_9 rfl hl (by decide) rfl (fun ls hl => ?_)
  exact t_Pr_search_L10 Fx hret _ _ hf _ _ _ (lv_sub hl [1, 0] rfl) hC
/-! FretHands$Planner.firstBest(II)I -/
abbrev rm_Pr_firstBest : Room := { frames := 2, cells := 0, slots := 0, locals := 48 }
theorem hd_Pr_firstBest : yX3_firstBest.cls = RX3 ∧ yX3_firstBest.cls ≠ "java/lang/invoke/MethodHandle" ∧ yX3_firstBest.cls ≠ "java/lang/invoke/VarHandle" ∧ (parseMethodDescriptor yX3_firstBest.desc).map (fun d => d.parameters.length) = some 2 := by decide +kernel
noncomputable def p_Pr_firstBest_L16 (K16 : (Int32 × Int32 × Int32 × Int32 × Int32) → Option (Int32)) (x1 : Int32) (x2 : Int32) (x3 : Int32) (x4 : Int32) (x5 : Int32) (g : sG) (f : sF) : Option (Int32) := (if (g 1) < x5 then some x3 else Option.bind (p_Pr_sumFrom x1 x2 x5 g f) (fun u1 => (if u1 = (-1 : Int32) then lt_ (x5 + (1 : Int32)) (fun v2 => K16 (x1, x2, x3, x4, v2)) else (if x3 = (-1 : Int32) then lt_ (x5 + (1 : Int32)) (fun v3 => K16 (x1, x2, x5, u1, v3)) else (if x4 ≤ u1 then lt_ (x5 + (1 : Int32)) (fun v4 => K16 (x1, x2, x3, x4, v4)) else lt_ (x5 + (1 : Int32)) (fun v5 => K16 (x1, x2, x5, u1, v5)))))))
set_option maxRecDepth 100000 in
set_option maxHeartbeats 4000000 in
theorem s_Pr_firstBest_L16 {K16 : (Int32 × Int32 × Int32 × Int32 × Int32) → Option (Int32)} {p : Program} {l : Launch} {e : Env} {s : State} {m : MethodId} {args : Array Value} {below : List Frame} {meth : Method} {c : Code} {Q : State → Prop} {D : va_G} {ad : Nat → Nat} {cy : Nat → ClassId} {A : Nat → Prop} {H0 : Heap} {r : Int32} {g : sG} {f : sF} (Fx : CallFix p m c cX3_firstBest 7 s args (Cond.code yX3_firstBest cX3_firstBest 7 (some .int) :: wU) RX3) (hret : mRi p l e rm_Pr_firstBest s m args below meth c Q D (cT cy) (cW ad cy) A H0 cX3_firstBest (r, g, f)) (hK16 : ∀ (z : Int32 × Int32 × Int32 × Int32 × Int32), K16 z = some r → ∀ (ls : Array Slot) (H : Heap) (locs : List Loc), lv_has ls 7 [(0, .ref (ad 22)), (1, .int z.1), (2, .int z.2.1), (3, .int z.2.2.1), (4, .int z.2.2.2.1), (5, .int z.2.2.2.2)] → wH D (cT cy) (cW ad cy) A H0 s g f H locs → W p l e rm_Pr_firstBest s m args below meth c H locs 0 0 Q (F0 m 16 ls [])) (x1 : Int32) (x2 : Int32) (x3 : Int32) (x4 : Int32) (x5 : Int32) (hf : p_Pr_firstBest_L16 K16 x1 x2 x3 x4 x5 g f = some r) : ∀ (ls : Array Slot) (H : Heap) (locs : List Loc), lv_has ls 7 [(0, .ref (ad 22)), (1, .int x1), (2, .int x2), (3, .int x3), (4, .int x4), (5, .int x5)] → wH D (cT cy) (cW ad cy) A H0 s g f H locs → W p l e rm_Pr_firstBest s m args below meth c H locs 0 0 Q (F0 m 16 ls []) := by
  intro ls H locs hl hC
  unfold p_Pr_firstBest_L16 at hf
  refine lv_iload Fx.1 Fx.2.1 dX3_firstBest_16 (lv_at hl 5 rfl) ?_
  refine lv_aload_n Fx.1 Fx.2.1 dX3_firstBest_18 rfl (lv_at hl 0 rfl) ?_
  refine gg_Pr_instrument Fx hC wd_137 dX3_firstBest_19 ?_
  refine gg_In_lastFret Fx hC wd_34 dX3_firstBest_22 ?_
  refine lv_icmp_gt (tgt := 69) Fx.1 Fx.2.1 dX3_firstBest_25 (by decide) (fun hc => ?_) (fun hc => ?_)
  · replace hf := ift hc hf
    refine lv_iload_n Fx.1 Fx.2.1 dX3_firstBest_69 rfl (lv_at hl 3 rfl) ?_
    obtain rfl := Option.some.inj hf
    exact hret _ _ _ _ dX3_firstBest_70 hC
  · replace hf := iff_ hc hf
    refine lv_aload_n Fx.1 Fx.2.1 dX3_firstBest_28 rfl (lv_at hl 0 rfl) ?_
    refine lv_iload_n Fx.1 Fx.2.1 dX3_firstBest_29 rfl (lv_at hl 1 rfl) ?_
    refine lv_iload_n Fx.1 Fx.2.1 dX3_firstBest_30 rfl (lv_at hl 2 rfl) ?_
    refine lv_iload Fx.1 Fx.2.1 dX3_firstBest_31 (lv_at hl 5 rfl) ?_
    obtain ⟨u1, hu1, hf⟩ := bd_e hf
    refine ca_i (As := [.int x1, .int x2, .int x5]) (rest := []) Fx hC (k_Pr_sumFrom hu1) (cVU 3 Fx.2.2.2.2 wd_405 wd_406 wd_857 wd_6 wd_407 rfl rfl hd_Pr_sumFrom ⟨Nat.le_of_ble_eq_true rfl, Nat.le_of_ble_eq_true rfl⟩) 22 rfl rfl rfl hl.1 rfl (Nat.le_of_ble_eq_true rfl) dX3_firstBest_33 (fun H locs hC => ?_)
    refine lv_istore (lv' := [(6, .int u1), (0, .ref (ad 22)), (1, .int x1), (2, .int x2), (3, .int x3), (4, .int x4), (5, .int x5)]) Fx.1 Fx.2.1 dX3_firstBest_36 hl (by decide) rfl (fun ls hl => ?_)
    refine lv_iload Fx.1 Fx.2.1 dX3_firstBest_38 (lv_at hl 0 rfl) ?_
    refine lv_iconst (v := (-1 : Int32)) Fx.1 Fx.2.1 dX3_firstBest_40 (by decide) ?_
    refine lv_icmp_eq (tgt := 63) Fx.1 Fx.2.1 dX3_firstBest_41 (by decide) (fun hc => ?_) (fun hc => ?_)
    · replace hf := ift hc hf
      obtain ⟨v2, ev2, hf⟩ := lt_e hf
      refine lv_iinc (v := v2) (lv' := [(5, .int v2), (6, .int u1), (0, .ref (ad 22)), (1, .int x1), (2, .int x2), (3, .int x3), (4, .int x4)]) Fx.1 Fx.2.1 dX3_firstBest_63 hl (k := 6) rfl ev2.symm (by decide) rfl (fun ls hl => ?_)
      refine lv_goto (tgt := 16) Fx.1 Fx.2.1 dX3_firstBest_66 (by decide) ?_
      exact hK16 _ hf _ _ _ (lv_sub hl [2, 3, 4, 5, 6, 0] rfl) hC
    · replace hf := iff_ hc hf
      refine lv_iload_n Fx.1 Fx.2.1 dX3_firstBest_44 rfl (lv_at hl 4 rfl) ?_
      refine lv_iconst (v := (-1 : Int32)) Fx.1 Fx.2.1 dX3_firstBest_45 (by decide) ?_
      refine lv_icmp_eq (tgt := 56) Fx.1 Fx.2.1 dX3_firstBest_46 (by decide) (fun hc => ?_) (fun hc => ?_)
      · replace hf := ift hc hf
        refine lv_iload Fx.1 Fx.2.1 dX3_firstBest_56 (lv_at hl 6 rfl) ?_
        refine lv_istore_n (lv' := [(3, .int x5), (6, .int u1), (0, .ref (ad 22)), (1, .int x1), (2, .int x2), (4, .int x4), (5, .int x5)]) Fx.1 Fx.2.1 dX3_firstBest_58 rfl hl (by decide) rfl (fun ls hl => ?_)
        refine lv_iload Fx.1 Fx.2.1 dX3_firstBest_59 (lv_at hl 1 rfl) ?_
        refine lv_istore (lv' := [(4, .int u1), (3, .int x5), (6, .int u1), (0, .ref (ad 22)), (1, .int x1), (2, .int x2), (5, .int x5)]) Fx.1 Fx.2.1 dX3_firstBest_61 hl (by decide) rfl (fun ls hl => ?_)
        obtain ⟨v3, ev3, hf⟩ := lt_e hf
        refine lv_iinc (v := v3) (lv' := [(5, .int v3), (4, .int u1), (3, .int x5), (6, .int u1), (0, .ref (ad 22)), (1, .int x1), (2, .int x2)]) Fx.1 Fx.2.1 dX3_firstBest_63 hl (k := 6) rfl ev3.symm (by decide) rfl (fun ls hl => ?_)
        refine lv_goto (tgt := 16) Fx.1 Fx.2.1 dX3_firstBest_66 (by decide) ?_
        exact hK16 _ hf _ _ _ (lv_sub hl [4, 5, 6, 2, 1, 0] rfl) hC
      · replace hf := iff_ hc hf
        refine lv_iload Fx.1 Fx.2.1 dX3_firstBest_49 (lv_at hl 0 rfl) ?_
        refine lv_iload Fx.1 Fx.2.1 dX3_firstBest_51 (lv_at hl 5 rfl) ?_
        refine lv_icmp_ge (tgt := 63) Fx.1 Fx.2.1 dX3_firstBest_53 (by decide) (fun hc => ?_) (fun hc => ?_)
        · replace hf := ift hc hf
          obtain ⟨v4, ev4, hf⟩ := lt_e hf
          refine lv_iinc (v := v4) (lv' := [(5, .int v4), (6, .int u1), (0, .ref (ad 22)), (1, .int x1), (2, .int x2), (3, .int x3), (4, .int x4)]) Fx.1 Fx.2.1 dX3_firstBest_63 hl (k := 6) rfl ev4.symm (by decide) rfl (fun ls hl => ?_)
          refine lv_goto (tgt := 16) Fx.1 Fx.2.1 dX3_firstBest_66 (by decide) ?_
          exact hK16 _ hf _ _ _ (lv_sub hl [2, 3, 4, 5, 6, 0] rfl) hC
        · replace hf := iff_ hc hf
          refine lv_iload Fx.1 Fx.2.1 dX3_firstBest_56 (lv_at hl 6 rfl) ?_
          refine lv_istore_n (lv' := [(3, .int x5), (6, .int u1), (0, .ref (ad 22)), (1, .int x1), (2, .int x2), (4, .int x4), (5, .int x5)]) Fx.1 Fx.2.1 dX3_firstBest_58 rfl hl (by decide) rfl (fun ls hl => ?_)
          refine lv_iload Fx.1 Fx.2.1 dX3_firstBest_59 (lv_at hl 1 rfl) ?_
          refine lv_istore (lv' := [(4, .int u1), (3, .int x5), (6, .int u1), (0, .ref (ad 22)), (1, .int x1), (2, .int x2), (5, .int x5)]) Fx.1 Fx.2.1 dX3_firstBest_61 hl (by decide) rfl (fun ls hl => ?_)
          obtain ⟨v5, ev5, hf⟩ := lt_e hf
          refine lv_iinc (v := v5) (lv' := [(5, .int v5), (4, .int u1), (3, .int x5), (6, .int u1), (0, .ref (ad 22)), (1, .int x1), (2, .int x2)]) Fx.1 Fx.2.1 dX3_firstBest_63 hl (k := 6) rfl ev5.symm (by decide) rfl (fun ls hl => ?_)
          refine lv_goto (tgt := 16) Fx.1 Fx.2.1 dX3_firstBest_66 (by decide) ?_
          exact hK16 _ hf _ _ _ (lv_sub hl [4, 5, 6, 2, 1, 0] rfl) hC
set_option maxRecDepth 100000 in
set_option maxHeartbeats 4000000 in
theorem t_Pr_firstBest_L16 {p : Program} {l : Launch} {e : Env} {s : State} {m : MethodId} {args : Array Value} {below : List Frame} {meth : Method} {c : Code} {Q : State → Prop} {D : va_G} {ad : Nat → Nat} {cy : Nat → ClassId} {A : Nat → Prop} {H0 : Heap} {r : Int32} {g : sG} {f : sF} (Fx : CallFix p m c cX3_firstBest 7 s args (Cond.code yX3_firstBest cX3_firstBest 7 (some .int) :: wU) RX3) (hret : mRi p l e rm_Pr_firstBest s m args below meth c Q D (cT cy) (cW ad cy) A H0 cX3_firstBest (r, g, f))  (n : Nat) (z : Int32 × Int32 × Int32 × Int32 × Int32) (hz : itr (fun K z => p_Pr_firstBest_L16 K z.1 z.2.1 z.2.2.1 z.2.2.2.1 z.2.2.2.2 g f) n z = some r) : ∀ (ls : Array Slot) (H : Heap) (locs : List Loc), lv_has ls 7 [(0, .ref (ad 22)), (1, .int z.1), (2, .int z.2.1), (3, .int z.2.2.1), (4, .int z.2.2.2.1), (5, .int z.2.2.2.2)] → wH D (cT cy) (cW ad cy) A H0 s g f H locs → W p l e rm_Pr_firstBest s m args below meth c H locs 0 0 Q (F0 m 16 ls []) :=
  itr_all (B := fun K z => p_Pr_firstBest_L16 K z.1 z.2.1 z.2.2.1 z.2.2.2.1 z.2.2.2.2 g f) (r := r) (fun z => ∀ (ls : Array Slot) (H : Heap) (locs : List Loc), lv_has ls 7 [(0, .ref (ad 22)), (1, .int z.1), (2, .int z.2.1), (3, .int z.2.2.1), (4, .int z.2.2.2.1), (5, .int z.2.2.2.2)] → wH D (cT cy) (cW ad cy) A H0 s g f H locs → W p l e rm_Pr_firstBest s m args below meth c H locs 0 0 Q (F0 m 16 ls [])) (fun K hK z h => s_Pr_firstBest_L16 (K16 := K) Fx hret hK z.1 z.2.1 z.2.2.1 z.2.2.2.1 z.2.2.2.2 h) n z hz
noncomputable def p_Pr_firstBest (a1 : Int32) (a2 : Int32) (g : sG) (f : sF) : Option (Int32) := lt_ ((g 2) + (1 : Int32)) (fun v1 => itr (fun K z => p_Pr_firstBest_L16 K z.1 z.2.1 z.2.2.1 z.2.2.2.1 z.2.2.2.2 g f) FUEL (a1, a2, (-1 : Int32), (-1 : Int32), v1))
set_option maxRecDepth 100000 in
set_option maxHeartbeats 4000000 in
theorem k_Pr_firstBest {l : Launch} {D : va_G} {ad : Nat → Nat} {cy : Nat → ClassId} {a1 : Int32} {a2 : Int32} {r : Int32} {g : sG} {f : sF} (hf : p_Pr_firstBest a1 a2 g f = some r) : mMi l yX3_firstBest (Cond.code yX3_firstBest cX3_firstBest 7 (some .int) :: wU) rm_Pr_firstBest D (cT cy) (cW ad cy) [.ref (ad 22), .int a1, .int a2] g f (r, g, f) := by
  refine mk_i (by decide) rfl (Nat.le_of_ble_eq_true rfl) ?_
  intro p e s m below meth c Q A H0 Fx hret ls H locs hl hC
  replace hl : lv_has ls 7 [(0, .ref (ad 22)), (1, .int a1), (2, .int a2)] := hl
  unfold p_Pr_firstBest at hf
  refine lv_iconst (v := (-1 : Int32)) Fx.1 Fx.2.1 dX3_firstBest_0 (by decide) ?_
  refine lv_istore_n (lv' := [(3, .int (-1 : Int32)), (0, .ref (ad 22)), (1, .int a1), (2, .int a2)]) Fx.1 Fx.2.1 dX3_firstBest_1 rfl hl (by decide) rfl (fun ls hl => ?_)
  refine lv_iconst (v := (-1 : Int32)) Fx.1 Fx.2.1 dX3_firstBest_2 (by decide) ?_
  refine lv_istore (lv' := [(4, .int (-1 : Int32)), (3, .int (-1 : Int32)), (0, .ref (ad 22)), (1, .int a1), (2, .int a2)]) Fx.1 Fx.2.1 dX3_firstBest_3 hl (by decide) rfl (fun ls hl => ?_)
  refine lv_aload_n Fx.1 Fx.2.1 dX3_firstBest_5 rfl (lv_at hl 2 rfl) ?_
  refine gg_Pr_instrument Fx hC wd_137 dX3_firstBest_6 ?_
  refine gg_In_capoFret Fx hC wd_39 dX3_firstBest_9 ?_
  refine lv_iconst (v := (1 : Int32)) Fx.1 Fx.2.1 dX3_firstBest_12 (by decide) ?_
  refine lv_iadd Fx.1 Fx.2.1 dX3_firstBest_13 ?_
  obtain ⟨v1, ev1, hf⟩ := lt_e hf
  refine tpi ev1 ?_
  refine lv_istore (lv' := [(5, .int v1), (4, .int (-1 : Int32)), (3, .int (-1 : Int32)), (0, .ref (ad 22)), (1, .int a1), (2, .int a2)]) Fx.1 Fx.2.1 dX3_firstBest_14 hl (by decide) rfl (fun ls hl => ?_)
  exact t_Pr_firstBest_L16 Fx hret _ _ hf _ _ _ (lv_sub hl [3, 4, 5, 2, 1, 0] rfl) hC
