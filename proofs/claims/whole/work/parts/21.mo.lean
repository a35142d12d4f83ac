/-! FretHandsModel.fretOf(II)I -/
abbrev rm_M_fretOf : Room := { frames := 0, cells := 0, slots := 0, locals := 0 }
theorem hd_M_fretOf : yX10_fretOf.cls = RX10 ∧ yX10_fretOf.cls ≠ "java/lang/invoke/MethodHandle" ∧ yX10_fretOf.cls ≠ "java/lang/invoke/VarHandle" ∧ (parseMethodDescriptor yX10_fretOf.desc).map (fun d => d.parameters.length) = some 2 := by decide +kernel
noncomputable def p_M_fretOf (a1 : Int32) (a2 : Int32) (g : sG) (f : sF) : Option (Int32) := (if a1 < 0 ∨ 7 ≤ a1.toNatClampNeg then none else lt_ (a2.toInt64 - ((f 0 a1.toNatClampNeg).toInt64)) (fun v2 => (if (lg_cmp v2 ((g 2).toInt64)) < 0 then some (-1 : Int32) else (if 0 < (lg_cmp v2 ((g 1).toInt64)) then some (-1 : Int32) else some v2.toInt32))))
set_option maxRecDepth 100000 in
set_option maxHeartbeats 4000000 in
theorem k_M_fretOf {l : Launch} {D : va_G} {ad : Nat → Nat} {cy : Nat → ClassId} {a1 : Int32} {a2 : Int32} {r : Int32} {g : sG} {f : sF} (hf : p_M_fretOf a1 a2 g f = some r) : mMi l yX10_fretOf (Cond.code yX10_fretOf cX10_fretOf 5 (some .int) :: wU) rm_M_fretOf D (mT cy) (mW ad cy) [.ref (ad 0), .int a1, .int a2] g f (r, g, f) := by
  refine mk_i (by decide) rfl (Nat.le_of_ble_eq_true rfl) ?_
  intro p e s m below meth c Q A H0 Fx hret ls H locs hl hC
  replace hl : lv_has ls 5 [(0, .ref (ad 0)), (1, .int a1), (2, .int a2)] := hl
  unfold p_M_fretOf at hf
  refine lv_iload_n Fx.1 Fx.2.1 dX10_fretOf_0 rfl (lv_at hl 2 rfl) ?_
  refine lv_i2l (v := a2.toInt64) Fx.1 Fx.2.1 dX10_fretOf_1 rfl ?_
  refine lv_aload_n Fx.1 Fx.2.1 dX10_fretOf_2 rfl (lv_at hl 0 rfl) ?_
  refine gg_M_tuned Fx hC wd_591 dX10_fretOf_3 ?_
  refine lv_iload_n Fx.1 Fx.2.1 dX10_fretOf_6 rfl (lv_at hl 1 rfl) ?_
  obtain ⟨hi1, hf⟩ := gd_e hf
  refine ld_M_tuned Fx hC hi1 dX10_fretOf_7 ?_
  refine lv_i2l (v := (f 0 a1.toNatClampNeg).toInt64) Fx.1 Fx.2.1 dX10_fretOf_8 rfl ?_
  refine lv_lsub Fx.1 Fx.2.1 dX10_fretOf_9 ?_
  obtain ⟨v2, ev2, hf⟩ := lt_e hf
  refine tpl ev2 ?_
  refine lv_lstore_n (lv' := [(3, .long v2), (0, .ref (ad 0)), (1, .int a1), (2, .int a2)]) Fx.1 Fx.2.1 dX10_fretOf_10 rfl hl (by decide) rfl (fun ls hl => ?_)
  refine lv_lload_n Fx.1 Fx.2.1 dX10_fretOf_11 rfl (lv_at hl 0 rfl) ?_
  refine lv_aload_n Fx.1 Fx.2.1 dX10_fretOf_12 rfl (lv_at hl 1 rfl) ?_
  refine gg_M_capo Fx hC wd_593 dX10_fretOf_13 ?_
  refine lv_i2l (v := (g 2).toInt64) Fx.1 Fx.2.1 dX10_fretOf_16 rfl ?_
  refine W.lcmp Fx.1 Fx.2.1 dX10_fretOf_17 ?_
  refine lv_if_lt (tgt := 36) Fx.1 Fx.2.1 dX10_fretOf_18 (by decide) (fun hc => ?_) (fun hc => ?_)
  · replace hf := ift hc hf
    refine lv_iconst (v := (-1 : Int32)) Fx.1 Fx.2.1 dX10_fretOf_36 (by decide) ?_
    obtain rfl := Option.some.inj hf
    exact hret _ _ _ _ dX10_fretOf_37 hC
  · replace hf := iff_ hc hf
    refine lv_lload_n Fx.1 Fx.2.1 dX10_fretOf_21 rfl (lv_at hl 0 rfl) ?_
    refine lv_aload_n Fx.1 Fx.2.1 dX10_fretOf_22 rfl (lv_at hl 1 rfl) ?_
    refine gg_M_neck Fx hC wd_592 dX10_fretOf_23 ?_
    refine lv_i2l (v := (g 1).toInt64) Fx.1 Fx.2.1 dX10_fretOf_26 rfl ?_
    refine W.lcmp Fx.1 Fx.2.1 dX10_fretOf_27 ?_
    refine lv_if_gt (tgt := 36) Fx.1 Fx.2.1 dX10_fretOf_28 (by decide) (fun hc => ?_) (fun hc => ?_)
    · replace hf := ift hc hf
      refine lv_iconst (v := (-1 : Int32)) Fx.1 Fx.2.1 dX10_fretOf_36 (by decide) ?_
      obtain rfl := Option.some.inj hf
      exact hret _ _ _ _ dX10_fretOf_37 hC
    · replace hf := iff_ hc hf
      refine lv_lload_n Fx.1 Fx.2.1 dX10_fretOf_31 rfl (lv_at hl 0 rfl) ?_
      refine lv_l2i (v := v2.toInt32) Fx.1 Fx.2.1 dX10_fretOf_32 rfl ?_
      refine lv_goto (tgt := 37) Fx.1 Fx.2.1 dX10_fretOf_33 (by decide) ?_
      obtain rfl := Option.some.inj hf
      exact hret _ _ _ _ dX10_fretOf_37 hC
/-! FretHandsModel.fret(II)I -/
abbrev rm_M_fret : Room := { frames := 2, cells := 0, slots := 0, locals := 43 }
theorem hd_M_fret : yX10_fret.cls = RX10 ∧ yX10_fret.cls ≠ "java/lang/invoke/MethodHandle" ∧ yX10_fret.cls ≠ "java/lang/invoke/VarHandle" ∧ (parseMethodDescriptor yX10_fret.desc).map (fun d => d.parameters.length) = some 2 := by decide +kernel
noncomputable def p_M_fret (a1 : Int32) (a2 : Int32) (g : sG) (f : sF) : Option (Int32) := Option.bind (p_M_isString a1 g f) (fun u1 => (if u1 = 0 then some (-2 : Int32) else Option.bind (p_M_fretOf a1 a2 g f) (fun u2 => some u2)))
set_option maxRecDepth 100000 in
set_option maxHeartbeats 4000000 in
theorem k_M_fret {l : Launch} {D : va_G} {ad : Nat → Nat} {cy : Nat → ClassId} {a1 : Int32} {a2 : Int32} {r : Int32} {g : sG} {f : sF} (hf : p_M_fret a1 a2 g f = some r) : mMi l yX10_fret (Cond.code yX10_fret cX10_fret 3 (some .int) :: wU) rm_M_fret D (mT cy) (mW ad cy) [.ref (ad 0), .int a1, .int a2] g f (r, g, f) := by
  refine mk_i (by decide) rfl (Nat.le_of_ble_eq_true rfl) ?_
  intro p e s m below meth c Q A H0 Fx hret ls H locs hl hC
  replace hl : lv_has ls 3 [(0, .ref (ad 0)), (1, .int a1), (2, .int a2)] := hl
  unfold p_M_fret at hf
  refine lv_aload_n Fx.1 Fx.2.1 dX10_fret_0 rfl (lv_at hl 0 rfl) ?_
  refine lv_iload_n Fx.1 Fx.2.1 dX10_fret_1 rfl (lv_at hl 1 rfl) ?_
  obtain ⟨u1, hu1, hf⟩ := bd_e hf
  refine ca_i (As := [.int a1]) (rest := []) Fx hC (k_M_isString hu1) (cVU 1 Fx.2.2.2.2 wd_698 wd_699 wd_884 wd_10 wd_700 rfl rfl hd_M_isString ⟨Nat.le_of_ble_eq_true rfl, Nat.le_of_ble_eq_true rfl⟩) 0 rfl rfl rfl hl.1 rfl (Nat.le_of_ble_eq_true rfl) dX10_fret_2 (fun H locs hC => ?_)
  refine lv_if_eq (tgt := 17) Fx.1 Fx.2.1 dX10_fret_5 (by decide) (fun hc => ?_) (fun hc => ?_)
  · replace hf := ift hc hf
    refine lv_bipush (v := (-2 : Int32)) Fx.1 Fx.2.1 dX10_fret_17 (by decide) ?_
    obtain rfl := Option.some.inj hf
    exact hret _ _ _ _ dX10_fret_19 hC
  · replace hf := iff_ hc hf
    refine lv_aload_n Fx.1 Fx.2.1 dX10_fret_8 rfl (lv_at hl 0 rfl) ?_
    refine lv_iload_n Fx.1 Fx.2.1 dX10_fret_9 rfl (lv_at hl 1 rfl) ?_
    refine lv_iload_n Fx.1 Fx.2.1 dX10_fret_10 rfl (lv_at hl 2 rfl) ?_
    obtain ⟨u2, hu2, hf⟩ := bd_e hf
    refine ca_i (As := [.int a1, .int a2]) (rest := []) Fx hC (k_M_fretOf hu2) (cVU 2 Fx.2.2.2.2 wd_721 wd_722 wd_885 wd_10 wd_723 rfl rfl hd_M_fretOf ⟨Nat.le_of_ble_eq_true rfl, Nat.le_of_ble_eq_true rfl⟩) 0 rfl rfl rfl hl.1 rfl (Nat.le_of_ble_eq_true rfl) dX10_fret_11 (fun H locs hC => ?_)
    refine lv_goto (tgt := 19) Fx.1 Fx.2.1 dX10_fret_14 (by decide) ?_
    obtain rfl := Option.some.inj hf
    exact hret _ _ _ _ dX10_fret_19 hC
/-! FretHandsModel.findWays(I)V -/
abbrev rm_M_findWays : Room := { frames := 1, cells := 0, slots := 0, locals := 24 }
theorem hd_M_findWays : yX10_findWays.cls = RX10 ∧ yX10_findWays.cls ≠ "java/lang/invoke/MethodHandle" ∧ yX10_findWays.cls ≠ "java/lang/invoke/VarHandle" ∧ (parseMethodDescriptor yX10_findWays.desc).map (fun d => d.parameters.length) = some 1 := by decide +kernel
noncomputable def p_M_findWays_J251 (K50 : (Int32 × Int32 × Int32 × Int32 × sG × sF) → Option (sG × sF)) (x1 : Int32) (x2 : Int32) (x3 : Int32) (x4 : Int32) (y0 : Int32) (y1 : Int32) (g : sG) (f : sF) : Option (sG × sF) := lt_ (upd g 7 (y1 + y0)) (fun g1 => lt_ (x4 + (1 : Int32)) (fun v2 => K50 (x1, x2, x3, v2, g1, f)))
set_option maxRecDepth 100000 in
set_option maxHeartbeats 4000000 in
theorem s_M_findWays_J251 {K50 : (Int32 × Int32 × Int32 × Int32 × sG × sF) → Option (sG × sF)} {p : Program} {l : Launch} {e : Env} {s : State} {m : MethodId} {args : Array Value} {below : List Frame} {meth : Method} {c : Code} {Q : State → Prop} {D : va_G} {ad : Nat → Nat} {cy : Nat → ClassId} {A : Nat → Prop} {H0 : Heap} {u : sG × sF} (Fx : CallFix p m c cX10_findWays 12 s args (Cond.code yX10_findWays cX10_findWays 12 none :: wU) RX10) (hret : mRv p l e rm_M_findWays s m args below meth c Q D (mT cy) (mW ad cy) A H0 cX10_findWays u) (hK50 : ∀ (z : Int32 × Int32 × Int32 × Int32 × sG × sF), K50 z = some u → ∀ (ls : Array Slot) (H : Heap) (locs : List Loc), lv_has ls 12 [(0, .ref (ad 0)), (1, .int z.1), (2, .int z.2.1), (3, .int z.2.2.1), (4, .int z.2.2.2.1)] → wH D (mT cy) (mW ad cy) A H0 s z.2.2.2.2.1 z.2.2.2.2.2 H locs → W p l e rm_M_findWays s m args below meth c H locs 0 0 Q (F0 m 50 ls [])) (x1 : Int32) (x2 : Int32) (x3 : Int32) (x4 : Int32) (y0 : Int32) (y1 : Int32) (g : sG) (f : sF) (hf : p_M_findWays_J251 K50 x1 x2 x3 x4 y0 y1 g f = some u) : ∀ (ls : Array Slot) (H : Heap) (locs : List Loc), lv_has ls 12 [(0, .ref (ad 0)), (1, .int x1), (2, .int x2), (3, .int x3), (4, .int x4)] → wH D (mT cy) (mW ad cy) A H0 s g f H locs → W p l e rm_M_findWays s m args below meth c H locs 0 0 Q (F0 m 251 ls [.int y0, .int y1, .ref (ad 0)]) := by
  intro ls H locs hl hC
  unfold p_M_findWays_J251 at hf
  refine lv_iadd Fx.1 Fx.2.1 dX10_findWays_251 ?_
  obtain ⟨g1, eg1, hf⟩ := lt_e hf
  refine gp_M_ways Fx hC wd_607 eg1 dX10_findWays_252 (fun H locs hC => ?_)
  obtain ⟨v2, ev2, hf⟩ := lt_e hf
  refine lv_iinc (v := v2) (lv' := [(4, .int v2), (0, .ref (ad 0)), (1, .int x1), (2, .int x2), (3, .int x3)]) Fx.1 Fx.2.1 dX10_findWays_255 hl (k := 4) rfl ev2.symm (by decide) rfl (fun ls hl => ?_)
  refine lv_goto (tgt := 50) Fx.1 Fx.2.1 dX10_findWays_258 (by decide) ?_
  exact hK50 _ hf _ _ _ (lv_sub hl [1, 2, 3, 4, 0] rfl) hC
noncomputable def p_M_findWays_J182 (K50 : (Int32 × Int32 × Int32 × Int32 × sG × sF) → Option (sG × sF)) (K71 : (Int32 × Int32 × Int32 × Int32 × Int32 × Int32 × Int32 × Int32 × sG × sF) → Option (sG × sF)) (x1 : Int32) (x2 : Int32) (x3 : Int32) (x4 : Int32) (x5 : Int32) (x6 : Int32) (x8 : Int32) (x9 : Int32) (x10 : Int32) (y0 : Int32) (g : sG) (f : sF) : Option (sG × sF) := lt_ (x6 ||| ((1 : Int32) <<< (x9 &&& (31 : Int32)))) (fun v1 => (if y0 = 0 then lt_ (x8 + (-1 : Int32)) (fun v2 => K71 (x1, x2, x3, x4, x5, v1, y0, v2, g, f)) else (if (((4 : Int32) * (g 7)) + x8) < 0 ∨ 3364 ≤ (((4 : Int32) * (g 7)) + x8).toNatClampNeg then none else lt_ (up2 f 10 (((4 : Int32) * (g 7)) + x8).toNatClampNeg x9) (fun f4 => (if (((4 : Int32) * (g 7)) + x8) < 0 ∨ 3364 ≤ (((4 : Int32) * (g 7)) + x8).toNatClampNeg then none else lt_ (up2 f4 11 (((4 : Int32) * (g 7)) + x8).toNatClampNeg x10) (fun f6 => lt_ (x8 + (-1 : Int32)) (fun v7 => K71 (x1, x2, x3, x4, x5, v1, y0, v7, g, f6))))))))
set_option maxRecDepth 100000 in
set_option maxHeartbeats 4000000 in
theorem s_M_findWays_J182 {K50 : (Int32 × Int32 × Int32 × Int32 × sG × sF) → Option (sG × sF)} {K71 : (Int32 × Int32 × Int32 × Int32 × Int32 × Int32 × Int32 × Int32 × sG × sF) → Option (sG × sF)} {p : Program} {l : Launch} {e : Env} {s : State} {m : MethodId} {args : Array Value} {below : List Frame} {meth : Method} {c : Code} {Q : State → Prop} {D : va_G} {ad : Nat → Nat} {cy : Nat → ClassId} {A : Nat → Prop} {H0 : Heap} {u : sG × sF} (Fx : CallFix p m c cX10_findWays 12 s args (Cond.code yX10_findWays cX10_findWays 12 none :: wU) RX10) (hret : mRv p l e rm_M_findWays s m args below meth c Q D (mT cy) (mW ad cy) A H0 cX10_findWays u) (hK50 : ∀ (z : Int32 × Int32 × Int32 × Int32 × sG × sF), K50 z = some u → ∀ (ls : Array Slot) (H : Heap) (locs : List Loc), lv_has ls 12 [(0, .ref (ad 0)), (1, .int z.1), (2, .int z.2.1), (3, .int z.2.2.1), (4, .int z.2.2.2.1)] → wH D (mT cy) (mW ad cy) A H0 s z.2.2.2.2.1 z.2.2.2.2.2 H locs → W p l e rm_M_findWays s m args below meth c H locs 0 0 Q (F0 m 50 ls [])) (hK71 : ∀ (z : Int32 × Int32 × Int32 × Int32 × Int32 × Int32 × Int32 × Int32 × sG × sF), K71 z = some u → ∀ (ls : Array Slot) (H : Heap) (locs : List Loc), lv_has ls 12 [(0, .ref (ad 0)), (1, .int z.1), (2, .int z.2.1), (3, .int z.2.2.1), (4, .int z.2.2.2.1), (5, .int z.2.2.2.2.1), (6, .int z.2.2.2.2.2.1), (7, .int z.2.2.2.2.2.2.1), (8, .int z.2.2.2.2.2.2.2.1)] → wH D (mT cy) (mW ad cy) A H0 s z.2.2.2.2.2.2.2.2.1 z.2.2.2.2.2.2.2.2.2 H locs → W p l e rm_M_findWays s m args below meth c H locs 0 0 Q (F0 m 71 ls [])) (x1 : Int32) (x2 : Int32) (x3 : Int32) (x4 : Int32) (x5 : Int32) (x6 : Int32) (x8 : Int32) (x9 : Int32) (x10 : Int32) (y0 : Int32) (g : sG) (f : sF) (hf : p_M_findWays_J182 K50 K71 x1 x2 x3 x4 x5 x6 x8 x9 x10 y0 g f = some u) : ∀ (ls : Array Slot) (H : Heap) (locs : List Loc), lv_has ls 12 [(0, .ref (ad 0)), (1, .int x1), (2, .int x2), (3, .int x3), (4, .int x4), (5, .int x5), (6, .int x6), (8, .int x8), (9, .int x9), (10, .int x10)] → wH D (mT cy) (mW ad cy) A H0 s g f H locs → W p l e rm_M_findWays s m args below meth c H locs 0 0 Q (F0 m 182 ls [.int y0]) := by
  intro ls H locs hl hC
  unfold p_M_findWays_J182 at hf
  refine lv_istore (lv' := [(7, .int y0), (0, .ref (ad 0)), (1, .int x1), (2, .int x2), (3, .int x3), (4, .int x4), (5, .int x5), (6, .int x6), (8, .int x8), (9, .int x9), (10, .int x10)]) Fx.1 Fx.2.1 dX10_findWays_182 hl (by decide) rfl (fun ls hl => ?_)
  refine lv_iload Fx.1 Fx.2.1 dX10_findWays_184 (lv_at hl 7 rfl) ?_
  refine lv_iconst (v := (1 : Int32)) Fx.1 Fx.2.1 dX10_findWays_186 (by decide) ?_
  refine lv_iload Fx.1 Fx.2.1 dX10_findWays_187 (lv_at hl 9 rfl) ?_
  refine lv_ishl Fx.1 Fx.2.1 dX10_findWays_189 ?_
  refine lv_ior Fx.1 Fx.2.1 dX10_findWays_190 ?_
  obtain ⟨v1, ev1, hf⟩ := lt_e hf
  refine tpi ev1 ?_
  refine lv_istore (lv' := [(6, .int v1), (7, .int y0), (0, .ref (ad 0)), (1, .int x1), (2, .int x2), (3, .int x3), (4, .int x4), (5, .int x5), (8, .int x8), (9, .int x9), (10, .int x10)]) Fx.1 Fx.2.1 dX10_findWays_191 hl (by decide) rfl (fun ls hl => ?_)
  refine lv_iload Fx.1 Fx.2.1 dX10_findWays_193 (lv_at hl 1 rfl) ?_
  refine lv_if_eq (tgt := 230) Fx.1 Fx.2.1 dX10_findWays_195 (by decide) (fun hc => ?_) (fun hc => ?_)
  · replace hf := ift hc hf
    obtain ⟨v2, ev2, hf⟩ := lt_e hf
    refine lv_iinc (v := v2) (lv' := [(8, .int v2), (6, .int v1), (7, .int y0), (0, .ref (ad 0)), (1, .int x1), (2, .int x2), (3, .int x3), (4, .int x4), (5, .int x5), (9, .int x9), (10, .int x10)]) Fx.1 Fx.2.1 dX10_findWays_230 hl (k := 8) rfl ev2.symm (by decide) rfl (fun ls hl => ?_)
    refine lv_goto (tgt := 71) Fx.1 Fx.2.1 dX10_findWays_233 (by decide) ?_
    exact hK71 _ hf _ _ _ (lv_sub hl [3, 4, 5, 6, 7, 8, 1, 2, 0] rfl) hC
  · replace hf := iff_ hc hf
    refine lv_aload_n Fx.1 Fx.2.1 dX10_findWays_198 rfl (lv_at hl 2 rfl) ?_
    refine gg_M_wayStrings Fx hC wd_608 dX10_findWays_199 ?_
    refine lv_iconst (v := (4 : Int32)) Fx.1 Fx.2.1 dX10_findWays_202 (by decide) ?_
    refine lv_aload_n Fx.1 Fx.2.1 dX10_findWays_203 rfl (lv_at hl 2 rfl) ?_
    refine gg_M_ways Fx hC wd_607 dX10_findWays_204 ?_
    refine lv_imul Fx.1 Fx.2.1 dX10_findWays_207 ?_
    refine lv_iload Fx.1 Fx.2.1 dX10_findWays_208 (lv_at hl 8 rfl) ?_
    refine lv_iadd Fx.1 Fx.2.1 dX10_findWays_210 ?_
    refine lv_iload Fx.1 Fx.2.1 dX10_findWays_211 (lv_at hl 9 rfl) ?_
    obtain ⟨hi3, hf⟩ := gd_e hf
    obtain ⟨f4, ef4, hf⟩ := lt_e hf
    refine st_M_wayStrings Fx hC hi3 ef4 dX10_findWays_213 (fun H locs hC => ?_)
    refine lv_aload_n Fx.1 Fx.2.1 dX10_findWays_214 rfl (lv_at hl 2 rfl) ?_
    refine gg_M_wayFrets Fx hC wd_609 dX10_findWays_215 ?_
    refine lv_iconst (v := (4 : Int32)) Fx.1 Fx.2.1 dX10_findWays_218 (by decide) ?_
    refine lv_aload_n Fx.1 Fx.2.1 dX10_findWays_219 rfl (lv_at hl 2 rfl) ?_
    refine gg_M_ways Fx hC wd_607 dX10_findWays_220 ?_
    refine lv_imul Fx.1 Fx.2.1 dX10_findWays_223 ?_
    refine lv_iload Fx.1 Fx.2.1 dX10_findWays_224 (lv_at hl 8 rfl) ?_
    refine lv_iadd Fx.1 Fx.2.1 dX10_findWays_226 ?_
    refine lv_iload Fx.1 Fx.2.1 dX10_findWays_227 (lv_at hl 10 rfl) ?_
    obtain ⟨hi5, hf⟩ := gd_e hf
    obtain ⟨f6, ef6, hf⟩ := lt_e hf
    refine st_M_wayFrets Fx hC hi5 ef6 dX10_findWays_229 (fun H locs hC => ?_)
    obtain ⟨v7, ev7, hf⟩ := lt_e hf
    refine lv_iinc (v := v7) (lv' := [(8, .int v7), (6, .int v1), (7, .int y0), (0, .ref (ad 0)), (1, .int x1), (2, .int x2), (3, .int x3), (4, .int x4), (5, .int x5), (9, .int x9), (10, .int x10)]) Fx.1 Fx.2.1 dX10_findWays_230 hl (k := 8) rfl ev7.symm (by decide) rfl (fun ls hl => ?_)
    refine lv_goto (tgt := 71) Fx.1 Fx.2.1 dX10_findWays_233 (by decide) ?_
    exact hK71 _ hf _ _ _ (lv_sub hl [3, 4, 5, 6, 7, 8, 1, 2, 0] rfl) hC
noncomputable def p_M_findWays_J181 (K50 : (Int32 × Int32 × Int32 × Int32 × sG × sF) → Option (sG × sF)) (K71 : (Int32 × Int32 × Int32 × Int32 × Int32 × Int32 × Int32 × Int32 × sG × sF) → Option (sG × sF)) (x1 : Int32) (x2 : Int32) (x3 : Int32) (x4 : Int32) (x5 : Int32) (x6 : Int32) (x8 : Int32) (x9 : Int32) (x10 : Int32) (g : sG) (f : sF) : Option (sG × sF) := p_M_findWays_J182 K50 K71 x1 x2 x3 x4 x5 x6 x8 x9 x10 (0 : Int32) g f
set_option maxRecDepth 100000 in
set_option maxHeartbeats 4000000 in
theorem s_M_findWays_J181 {K50 : (Int32 × Int32 × Int32 × Int32 × sG × sF) → Option (sG × sF)} {K71 : (Int32 × Int32 × Int32 × Int32 × Int32 × Int32 × Int32 × Int32 × sG × sF) → Option (sG × sF)} {p : Program} {l : Launch} {e : Env} {s : State} {m : MethodId} {args : Array Value} {below : List Frame} {meth : Method} {c : Code} {Q : State → Prop} {D : va_G} {ad : Nat → Nat} {cy : Nat → ClassId} {A : Nat → Prop} {H0 : Heap} {u : sG × sF} (Fx : CallFix p m c cX10_findWays 12 s args (Cond.code yX10_findWays cX10_findWays 12 none :: wU) RX10) (hret : mRv p l e rm_M_findWays s m args below meth c Q D (mT cy) (mW ad cy) A H0 cX10_findWays u) (hK50 : ∀ (z : Int32 × Int32 × Int32 × Int32 × sG × sF), K50 z = some u → ∀ (ls : Array Slot) (H : Heap) (locs : List Loc), lv_has ls 12 [(0, .ref (ad 0)), (1, .int z.1), (2, .int z.2.1), (3, .int z.2.2.1), (4, .int z.2.2.2.1)] → wH D (mT cy) (mW ad cy) A H0 s z.2.2.2.2.1 z.2.2.2.2.2 H locs → W p l e rm_M_findWays s m args below meth c H locs 0 0 Q (F0 m 50 ls [])) (hK71 : ∀ (z : Int32 × Int32 × Int32 × Int32 × Int32 × Int32 × Int32 × Int32 × sG × sF), K71 z = some u → ∀ (ls : Array Slot) (H : Heap) (locs : List Loc), lv_has ls 12 [(0, .ref (ad 0)), (1, .int z.1), (2, .int z.2.1), (3, .int z.2.2.1), (4, .int z.2.2.2.1), (5, .int z.2.2.2.2.1), (6, .int z.2.2.2.2.2.1), (7, .int z.2.2.2.2.2.2.1), (8, .int z.2.2.2.2.2.2.2.1)] → wH D (mT cy) (mW ad cy) A H0 s z.2.2.2.2.2.2.2.2.1 z.2.2.2.2.2.2.2.2.2 H locs → W p l e rm_M_findWays s m args below meth c H locs 0 0 Q (F0 m 71 ls [])) (x1 : Int32) (x2 : Int32) (x3 : Int32) (x4 : Int32) (x5 : Int32) (x6 : Int32) (x8 : Int32) (x9 : Int32) (x10 : Int32) (g : sG) (f : sF) (hf : p_M_findWays_J181 K50 K71 x1 x2 x3 x4 x5 x6 x8 x9 x10 g f = some u) : ∀ (ls : Array Slot) (H : Heap) (locs : List Loc), lv_has ls 12 [(0, .ref (ad 0)), (1, .int x1), (2, .int x2), (3, .int x3), (4, .int x4), (5, .int x5), (6, .int x6), (8, .int x8), (9, .int x9), (10, .int x10)] → wH D (mT cy) (mW ad cy) A H0 s g f H locs → W p l e rm_M_findWays s m args below meth c H locs 0 0 Q (F0 m 181 ls []) := by
  intro ls H locs hl hC
  unfold p_M_findWays_J181 at hf
  refine lv_iconst (v := (0 : Int32)) Fx.1 Fx.2.1 dX10_findWays_181 (by decide) ?_
  exact s_M_findWays_J182 Fx hret hK50 hK71 _ _ _ _ _ _ _ _ _ _ _ _  hf _ _ _ (lv_sub hl [0, 1, 2, 3, 4, 5, 6, 7, 8, 9] rfl) hC
noncomputable def p_M_findWays_J149 (K50 : (Int32 × Int32 × Int32 × Int32 × sG × sF) → Option (sG × sF)) (K71 : (Int32 × Int32 × Int32 × Int32 × Int32 × Int32 × Int32 × Int32 × sG × sF) → Option (sG × sF)) (x1 : Int32) (x2 : Int32) (x3 : Int32) (x4 : Int32) (x5 : Int32) (x6 : Int32) (x7 : Int32) (x8 : Int32) (x9 : Int32) (x10 : Int32) (y0 : Int32) (g : sG) (f : sF) : Option (sG × sF) := (if x7 = 0 then p_M_findWays_J181 K50 K71 x1 x2 x3 x4 x5 x6 x8 x9 x10 g f else (if y0 = 0 then p_M_findWays_J181 K50 K71 x1 x2 x3 x4 x5 x6 x8 x9 x10 g f else (if x10 = (-1 : Int32) then p_M_findWays_J181 K50 K71 x1 x2 x3 x4 x5 x6 x8 x9 x10 g f else (if ((x6 >>> (x9 &&& (31 : Int32))) &&& (1 : Int32)) = 0 then p_M_findWays_J182 K50 K71 x1 x2 x3 x4 x5 x6 x8 x9 x10 (1 : Int32) g f else p_M_findWays_J181 K50 K71 x1 x2 x3 x4 x5 x6 x8 x9 x10 g f))))
set_option maxRecDepth 100000 in
set_option maxHeartbeats 4000000 in
theorem s_M_findWays_J149 {K50 : (Int32 × Int32 × Int32 × Int32 × sG × sF) → Option (sG × sF)} {K71 : (Int32 × Int32 × Int32 × Int32 × Int32 × Int32 × Int32 × Int32 × sG × sF) → Option (sG × sF)} {p : Program} {l : Launch} {e : Env} {s : State} {m : MethodId} {args : Array Value} {below : List Frame} {meth : Method} {c : Code} {Q : State → Prop} {D : va_G} {ad : Nat → Nat} {cy : Nat → ClassId} {A : Nat → Prop} {H0 : Heap} {u : sG × sF} (Fx : CallFix p m c cX10_findWays 12 s args (Cond.code yX10_findWays cX10_findWays 12 none :: wU) RX10) (hret : mRv p l e rm_M_findWays s m args below meth c Q D (mT cy) (mW ad cy) A H0 cX10_findWays u) (hK50 : ∀ (z : Int32 × Int32 × Int32 × Int32 × sG × sF), K50 z = some u → ∀ (ls : Array Slot) (H : Heap) (locs : List Loc), lv_has ls 12 [(0, .ref (ad 0)), (1, .int z.1), (2, .int z.2.1), (3, .int z.2.2.1), (4, .int z.2.2.2.1)] → wH D (mT cy) (mW ad cy) A H0 s z.2.2.2.2.1 z.2.2.2.2.2 H locs → W p l e rm_M_findWays s m args below meth c H locs 0 0 Q (F0 m 50 ls [])) (hK71 : ∀ (z : Int32 × Int32 × Int32 × Int32 × Int32 × Int32 × Int32 × Int32 × sG × sF), K71 z = some u → ∀ (ls : Array Slot) (H : Heap) (locs : List Loc), lv_has ls 12 [(0, .ref (ad 0)), (1, .int z.1), (2, .int z.2.1), (3, .int z.2.2.1), (4, .int z.2.2.2.1), (5, .int z.2.2.2.2.1), (6, .int z.2.2.2.2.2.1), (7, .int z.2.2.2.2.2.2.1), (8, .int z.2.2.2.2.2.2.2.1)] → wH D (mT cy) (mW ad cy) A H0 s z.2.2.2.2.2.2.2.2.1 z.2.2.2.2.2.2.2.2.2 H locs → W p l e rm_M_findWays s m args below meth c H locs 0 0 Q (F0 m 71 ls [])) (x1 : Int32) (x2 : Int32) (x3 : Int32) (x4 : Int32) (x5 : Int32) (x6 : Int32) (x7 : Int32) (x8 : Int32) (x9 : Int32) (x10 : Int32) (y0 : Int32) (g : sG) (f : sF) (hf : p_M_findWays_J149 K50 K71 x1 x2 x3 x4 x5 x6 x7 x8 x9 x10 y0 g f = some u) : ∀ (ls : Array Slot) (H : Heap) (locs : List Loc), lv_has ls 12 [(0, .ref (ad 0)), (1, .int x1), (2, .int x2), (3, .int x3), (4, .int x4), (5, .int x5), (6, .int x6), (7, .int x7), (8, .int x8), (9, .int x9), (10, .int x10)] → wH D (mT cy) (mW ad cy) A H0 s g f H locs → W p l e rm_M_findWays s m args below meth c H locs 0 0 Q (F0 m 149 ls [.int y0]) := by
  intro ls H locs hl hC
  unfold p_M_findWays_J149 at hf
  refine lv_istore (lv' := [(11, .int y0), (0, .ref (ad 0)), (1, .int x1), (2, .int x2), (3, .int x3), (4, .int x4), (5, .int x5), (6, .int x6), (7, .int x7), (8, .int x8), (9, .int x9), (10, .int x10)]) Fx.1 Fx.2.1 dX10_findWays_149 hl (by decide) rfl (fun ls hl => ?_)
  refine lv_iload Fx.1 Fx.2.1 dX10_findWays_151 (lv_at hl 8 rfl) ?_
  refine lv_if_eq (tgt := 181) Fx.1 Fx.2.1 dX10_findWays_153 (by decide) (fun hc => ?_) (fun hc => ?_)
  · replace hf := ift hc hf
    exact s_M_findWays_J181 Fx hret hK50 hK71 _ _ _ _ _ _ _ _ _ _ _  hf _ _ _ (lv_sub hl [1, 2, 3, 4, 5, 6, 7, 9, 10, 11] rfl) hC
  · replace hf := iff_ hc hf
    refine lv_iload Fx.1 Fx.2.1 dX10_findWays_156 (lv_at hl 0 rfl) ?_
    refine lv_if_eq (tgt := 181) Fx.1 Fx.2.1 dX10_findWays_158 (by decide) (fun hc => ?_) (fun hc => ?_)
    · replace hf := ift hc hf
      exact s_M_findWays_J181 Fx hret hK50 hK71 _ _ _ _ _ _ _ _ _ _ _  hf _ _ _ (lv_sub hl [1, 2, 3, 4, 5, 6, 7, 9, 10, 11] rfl) hC
    · replace hf := iff_ hc hf
      refine lv_iload Fx.1 Fx.2.1 dX10_findWays_161 (lv_at hl 11 rfl) ?_
      refine lv_iconst (v := (-1 : Int32)) Fx.1 Fx.2.1 dX10_findWays_163 (by decide) ?_
      refine lv_icmp_eq (tgt := 181) Fx.1 Fx.2.1 dX10_findWays_164 (by decide) (fun hc => ?_) (fun hc => ?_)
      · replace hf := ift hc hf
        exact s_M_findWays_J181 Fx hret hK50 hK71 _ _ _ _ _ _ _ _ _ _ _  hf _ _ _ (lv_sub hl [1, 2, 3, 4, 5, 6, 7, 9, 10, 11] rfl) hC
      · replace hf := iff_ hc hf
        refine lv_iload Fx.1 Fx.2.1 dX10_findWays_167 (lv_at hl 7 rfl) ?_
        refine lv_iload Fx.1 Fx.2.1 dX10_findWays_169 (lv_at hl 10 rfl) ?_
        refine lv_ishr Fx.1 Fx.2.1 dX10_findWays_171 ?_
        refine lv_iconst (v := (1 : Int32)) Fx.1 Fx.2.1 dX10_findWays_172 (by decide) ?_
        refine lv_iand Fx.1 Fx.2.1 dX10_findWays_173 ?_
        refine lv_if_ne (tgt := 181) Fx.1 Fx.2.1 dX10_findWays_174 (by decide) (fun hc => ?_) (fun hc => ?_)
        · replace hf := iff_ hc hf
          exact s_M_findWays_J181 Fx hret hK50 hK71 _ _ _ _ _ _ _ _ _ _ _  hf _ _ _ (lv_sub hl [1, 2, 3, 4, 5, 6, 7, 9, 10, 11] rfl) hC
        · replace hf := ift hc hf
          refine lv_iconst (v := (1 : Int32)) Fx.1 Fx.2.1 dX10_findWays_177 (by decide) ?_
          refine lv_goto (tgt := 182) Fx.1 Fx.2.1 dX10_findWays_178 (by decide) ?_
          exact s_M_findWays_J182 Fx hret hK50 hK71 _ _ _ _ _ _ _ _ _ _ _ _  hf _ _ _ (lv_sub hl [1, 2, 3, 4, 5, 6, 7, 9, 10, 11] rfl) hC
noncomputable def p_M_findWays_J144 (K50 : (Int32 × Int32 × Int32 × Int32 × sG × sF) → Option (sG × sF)) (K71 : (Int32 × Int32 × Int32 × Int32 × Int32 × Int32 × Int32 × Int32 × sG × sF) → Option (sG × sF)) (x1 : Int32) (x2 : Int32) (x3 : Int32) (x4 : Int32) (x5 : Int32) (x6 : Int32) (x7 : Int32) (x8 : Int32) (x9 : Int32) (x10 : Int32) (g : sG) (f : sF) : Option (sG × sF) := p_M_findWays_J149 K50 K71 x1 x2 x3 x4 x5 x6 x7 x8 x9 x10 (1 : Int32) g f
set_option maxRecDepth 100000 in
set_option maxHeartbeats 4000000 in
theorem s_M_findWays_J144 {K50 : (Int32 × Int32 × Int32 × Int32 × sG × sF) → Option (sG × sF)} {K71 : (Int32 × Int32 × Int32 × Int32 × Int32 × Int32 × Int32 × Int32 × sG × sF) → Option (sG × sF)} {p : Program} {l : Launch} {e : Env} {s : State} {m : MethodId} {args : Array Value} {below : List Frame} {meth : Method} {c : Code} {Q : State → Prop} {D : va_G} {ad : Nat → Nat} {cy : Nat → ClassId} {A : Nat → Prop} {H0 : Heap} {u : sG × sF} (Fx : CallFix p m c cX10_findWays 12 s args (Cond.code yX10_findWays cX10_findWays 12 none :: wU) RX10) (hret : mRv p l e rm_M_findWays s m args below meth c Q D (mT cy) (mW ad cy) A H0 cX10_findWays u) (hK50 : ∀ (z : Int32 × Int32 × Int32 × Int32 × sG × sF), K50 z = some u → ∀ (ls : Array Slot) (H : Heap) (locs : List Loc), lv_has ls 12 [(0, .ref (ad 0)), (1, .int z.1), (2, .int z.2.1), (3, .int z.2.2.1), (4, .int z.2.2.2.1)] → wH D (mT cy) (mW ad cy) A H0 s z.2.2.2.2.1 z.2.2.2.2.2 H locs → W p l e rm_M_findWays s m args below meth c H locs 0 0 Q (F0 m 50 ls [])) (hK71 : ∀ (z : Int32 × Int32 × Int32 × Int32 × Int32 × Int32 × Int32 × Int32 × sG × sF), K71 z = some u → ∀ (ls : Array Slot) (H : Heap) (locs : List Loc), lv_has ls 12 [(0, .ref (ad 0)), (1, .int z.1), (2, .int z.2.1), (3, .int z.2.2.1), (4, .int z.2.2.2.1), (5, .int z.2.2.2.2.1), (6, .int z.2.2.2.2.2.1), (7, .int z.2.2.2.2.2.2.1), (8, .int z.2.2.2.2.2.2.2.1)] → wH D (mT cy) (mW ad cy) A H0 s z.2.2.2.2.2.2.2.2.1 z.2.2.2.2.2.2.2.2.2 H locs → W p l e rm_M_findWays s m args below meth c H locs 0 0 Q (F0 m 71 ls [])) (x1 : Int32) (x2 : Int32) (x3 : Int32) (x4 : Int32) (x5 : Int32) (x6 : Int32) (x7 : Int32) (x8 : Int32) (x9 : Int32) (x10 : Int32) (g : sG) (f : sF) (hf : p_M_findWays_J144 K50 K71 x1 x2 x3 x4 x5 x6 x7 x8 x9 x10 g f = some u) : ∀ (ls : Array Slot) (H : Heap) (locs : List Loc), lv_has ls 12 [(0, .ref (ad 0)), (1, .int x1), (2, .int x2), (3, .int x3), (4, .int x4), (5, .int x5), (6, .int x6), (7, .int x7), (8, .int x8), (9, .int x9), (10, .int x10)] → wH D (mT cy) (mW ad cy) A H0 s g f H locs → W p l e rm_M_findWays s m args below meth c H locs 0 0 Q (F0 m 144 ls []) := by
  intro ls H locs hl hC
  unfold p_M_findWays_J144 at hf
  refine lv_iconst (v := (1 : Int32)) Fx.1 Fx.2.1 dX10_findWays_144 (by decide) ?_
  refine lv_goto (tgt := 149) Fx.1 Fx.2.1 dX10_findWays_145 (by decide) ?_
  exact s_M_findWays_J149 Fx hret hK50 hK71 _ _ _ _ _ _ _ _ _ _ _ _ _  hf _ _ _ (lv_sub hl [0, 1, 2, 3, 4, 5, 6, 7, 8, 9, 10] rfl) hC
noncomputable def p_M_findWays_L71 (K50 : (Int32 × Int32 × Int32 × Int32 × sG × sF) → Option (sG × sF)) (K71 : (Int32 × Int32 × Int32 × Int32 × Int32 × Int32 × Int32 × Int32 × sG × sF) → Option (sG × sF)) (x1 : Int32) (x2 : Int32) (x3 : Int32) (x4 : Int32) (x5 : Int32) (x6 : Int32) (x7 : Int32) (x8 : Int32) (g : sG) (f : sF) : Option (sG × sF) := (if x8 < 0 then (if x7 = 0 then p_M_findWays_J251 K50 x1 x2 x3 x4 (0 : Int32) (g 7) g f else p_M_findWays_J251 K50 x1 x2 x3 x4 (1 : Int32) (g 7) g f) else (if g 0 = 0 then none else lt_ (x5 - x5 / (g 0) * (g 0)) (fun v1 => (if g 0 = 0 then none else lt_ (x5 / (g 0)) (fun v2 => (if (((4 : Int32) * x1) + x8) < 0 ∨ 160 ≤ (((4 : Int32) * x1) + x8).toNatClampNeg then none else Option.bind (p_M_fretOf v1 (f 3 (((4 : Int32) * x1) + x8).toNatClampNeg) g f) (fun u4 => (if (((4 : Int32) * x1) + x8) < 0 ∨ 160 ≤ (((4 : Int32) * x1) + x8).toNatClampNeg then none else (if (f 4 (((4 : Int32) * x1) + x8).toNatClampNeg) = (-1 : Int32) then p_M_findWays_J144 K50 K71 x1 x2 x3 x4 v2 x6 x7 x8 v1 u4 g f else (if (((4 : Int32) * x1) + x8) < 0 ∨ 160 ≤ (((4 : Int32) * x1) + x8).toNatClampNeg then none else (if (f 4 (((4 : Int32) * x1) + x8).toNatClampNeg) = v1 then p_M_findWays_J144 K50 K71 x1 x2 x3 x4 v2 x6 x7 x8 v1 u4 g f else p_M_findWays_J149 K50 K71 x1 x2 x3 x4 v2 x6 x7 x8 v1 u4 (0 : Int32) g f)))))))))))
set_option maxRecDepth 100000 in
set_option maxHeartbeats 4000000 in
theorem s_M_findWays_L71 {K50 : (Int32 × Int32 × Int32 × Int32 × sG × sF) → Option (sG × sF)} {K71 : (Int32 × Int32 × Int32 × Int32 × Int32 × Int32 × Int32 × Int32 × sG × sF) → Option (sG × sF)} {p : Program} {l : Launch} {e : Env} {s : State} {m : MethodId} {args : Array Value} {below : List Frame} {meth : Method} {c : Code} {Q : State → Prop} {D : va_G} {ad : Nat → Nat} {cy : Nat → ClassId} {A : Nat → Prop} {H0 : Heap} {u : sG × sF} (Fx : CallFix p m c cX10_findWays 12 s args (Cond.code yX10_findWays cX10_findWays 12 none :: wU) RX10) (hret : mRv p l e rm_M_findWays s m args below meth c Q D (mT cy) (mW ad cy) A H0 cX10_findWays u) (hK50 : ∀ (z : Int32 × Int32 × Int32 × Int32 × sG × sF), K50 z = some u → ∀ (ls : Array Slot) (H : Heap) (locs : List Loc), lv_has ls 12 [(0, .ref (ad 0)), (1, .int z.1), (2, .int z.2.1), (3, .int z.2.2.1), (4, .int z.2.2.2.1)] → wH D (mT cy) (mW ad cy) A H0 s z.2.2.2.2.1 z.2.2.2.2.2 H locs → W p l e rm_M_findWays s m args below meth c H locs 0 0 Q (F0 m 50 ls [])) (hK71 : ∀ (z : Int32 × Int32 × Int32 × Int32 × Int32 × Int32 × Int32 × Int32 × sG × sF), K71 z = some u → ∀ (ls : Array Slot) (H : Heap) (locs : List Loc), lv_has ls 12 [(0, .ref (ad 0)), (1, .int z.1), (2, .int z.2.1), (3, .int z.2.2.1), (4, .int z.2.2.2.1), (5, .int z.2.2.2.2.1), (6, .int z.2.2.2.2.2.1), (7, .int z.2.2.2.2.2.2.1), (8, .int z.2.2.2.2.2.2.2.1)] → wH D (mT cy) (mW ad cy) A H0 s z.2.2.2.2.2.2.2.2.1 z.2.2.2.2.2.2.2.2.2 H locs → W p l e rm_M_findWays s m args below meth c H locs 0 0 Q (F0 m 71 ls [])) (x1 : Int32) (x2 : Int32) (x3 : Int32) (x4 : Int32) (x5 : Int32) (x6 : Int32) (x7 : Int32) (x8 : Int32) (g : sG) (f : sF) (hf : p_M_findWays_L71 K50 K71 x1 x2 x3 x4 x5 x6 x7 x8 g f = some u) : ∀ (ls : Array Slot) (H : Heap) (locs : List Loc), lv_has ls 12 [(0, .ref (ad 0)), (1, .int x1), (2, .int x2), (3, .int x3), (4, .int x4), (5, .int x5), (6, .int x6), (7, .int x7), (8, .int x8)] → wH D (mT cy) (mW ad cy) A H0 s g f H locs → W p l e rm_M_findWays s m args below meth c H locs 0 0 Q (F0 m 71 ls []) := by
  intro ls H locs hl hC
  unfold p_M_findWays_L71 at hf
  refine lv_iload Fx.1 Fx.2.1 dX10_findWays_71 (lv_at hl 8 rfl) ?_
  refine lv_if_lt (tgt := 236) Fx.1 Fx.2.1 dX10_findWays_73 (by decide) (fun hc => ?_) (fun hc => ?_)
  · replace hf := ift hc hf
    refine lv_aload_n Fx.1 Fx.2.1 dX10_findWays_236 rfl (lv_at hl 0 rfl) ?_
    refine lv_dup Fx.1 Fx.2.1 dX10_findWays_237 rfl ?_
    refine gg_M_ways Fx hC wd_607 dX10_findWays_238 ?_
    refine lv_iload Fx.1 Fx.2.1 dX10_findWays_241 (lv_at hl 7 rfl) ?_
    refine lv_if_eq (tgt := 250) Fx.1 Fx.2.1 dX10_findWays_243 (by decide) (fun hc => ?_) (fun hc => ?_)
    · replace hf := ift hc hf
      refine lv_iconst (v := (0 : Int32)) Fx.1 Fx.2.1 dX10_findWays_250 (by decide) ?_
      exact s_M_findWays_J251 Fx hret hK50 _ _ _ _ _ _ _ _  hf _ _ _ (lv_sub hl [0, 1, 2, 3, 4] rfl) hC
    · replace hf := iff_ hc hf
      refine lv_iconst (v := (1 : Int32)) Fx.1 Fx.2.1 dX10_findWays_246 (by decide) ?_
      refine lv_goto (tgt := 251) Fx.1 Fx.2.1 dX10_findWays_247 (by decide) ?_
      exact s_M_findWays_J251 Fx hret hK50 _ _ _ _ _ _ _ _  hf _ _ _ (lv_sub hl [0, 1, 2, 3, 4] rfl) hC
  · replace hf := iff_ hc hf
    refine lv_iload Fx.1 Fx.2.1 dX10_findWays_76 (lv_at hl 5 rfl) ?_
    refine lv_aload_n Fx.1 Fx.2.1 dX10_findWays_78 rfl (lv_at hl 0 rfl) ?_
    refine gg_M_strings Fx hC wd_590 dX10_findWays_79 ?_
    obtain ⟨hz, hf⟩ := gd_e hf
    refine lv_irem Fx.1 Fx.2.1 dX10_findWays_82 hz ?_
    obtain ⟨v1, ev1, hf⟩ := lt_e hf
    refine tpi ev1 ?_
    refine lv_istore (lv' := [(9, .int v1), (0, .ref (ad 0)), (1, .int x1), (2, .int x2), (3, .int x3), (4, .int x4), (5, .int x5), (6, .int x6), (7, .int x7), (8, .int x8)]) Fx.1 Fx.2.1 dX10_findWays_83 hl (by decide) rfl (fun ls hl => ?_)
    refine lv_iload Fx.1 Fx.2.1 dX10_findWays_85 (lv_at hl 6 rfl) ?_
    refine lv_aload_n Fx.1 Fx.2.1 dX10_findWays_87 rfl (lv_at hl 1 rfl) ?_
    refine gg_M_strings Fx hC wd_590 dX10_findWays_88 ?_
    obtain ⟨hz, hf⟩ := gd_e hf
    refine lv_idiv Fx.1 Fx.2.1 dX10_findWays_91 hz ?_
    obtain ⟨v2, ev2, hf⟩ := lt_e hf
    refine tpi ev2 ?_
    refine lv_istore (lv' := [(5, .int v2), (9, .int v1), (0, .ref (ad 0)), (1, .int x1), (2, .int x2), (3, .int x3), (4, .int x4), (6, .int x6), (7, .int x7), (8, .int x8)]) Fx.1 Fx.2.1 dX10_findWays_92 hl (by decide) rfl (fun ls hl => ?_)
    refine lv_aload_n Fx.1 Fx.2.1 dX10_findWays_94 rfl (lv_at hl 2 rfl) ?_
    refine lv_iload Fx.1 Fx.2.1 dX10_findWays_95 (lv_at hl 1 rfl) ?_
    refine lv_aload_n Fx.1 Fx.2.1 dX10_findWays_97 rfl (lv_at hl 2 rfl) ?_
    refine gg_M_pitches Fx hC wd_597 dX10_findWays_98 ?_
    refine lv_iconst (v := (4 : Int32)) Fx.1 Fx.2.1 dX10_findWays_101 (by decide) ?_
    refine lv_iload_n Fx.1 Fx.2.1 dX10_findWays_102 rfl (lv_at hl 3 rfl) ?_
    refine lv_imul Fx.1 Fx.2.1 dX10_findWays_103 ?_
    refine lv_iload Fx.1 Fx.2.1 dX10_findWays_104 (lv_at hl 9 rfl) ?_
    refine lv_iadd Fx.1 Fx.2.1 dX10_findWays_106 ?_
    obtain ⟨hi3, hf⟩ := gd_e hf
    refine ld_M_pitches Fx hC hi3 dX10_findWays_107 ?_
    obtain ⟨u4, hu4, hf⟩ := bd_e hf
    refine ca_i (As := [.int v1, .int (f 3 (((4 : Int32) * x1) + x8).toNatClampNeg)]) (rest := []) Fx hC (k_M_fretOf hu4) (cVU 2 Fx.2.2.2.2 wd_721 wd_722 wd_885 wd_10 wd_723 rfl rfl hd_M_fretOf ⟨Nat.le_of_ble_eq_true rfl, Nat.le_of_ble_eq_true rfl⟩) 0 rfl rfl rfl hl.1 rfl (Nat.le_of_ble_eq_true rfl) dX10_findWays_108 (fun H locs hC => ?_)
    refine lv_istore (lv' := [(10, .int u4), (5, .int v2), (9, .int v1), (0, .ref (ad 0)), (1, .int x1), (2, .int x2), (3, .int x3), (4, .int x4), (6, .int x6), (7, .int x7), (8, .int x8)]) Fx.1 Fx.2.1 dX10_findWays_111 hl (by decide) rfl (fun ls hl => ?_)
    refine lv_aload_n Fx.1 Fx.2.1 dX10_findWays_113 rfl (lv_at hl 3 rfl) ?_
    refine gg_M_bounds Fx hC wd_598 dX10_findWays_114 ?_
    refine lv_iconst (v := (4 : Int32)) Fx.1 Fx.2.1 dX10_findWays_117 (by decide) ?_
    refine lv_iload_n Fx.1 Fx.2.1 dX10_findWays_118 rfl (lv_at hl 4 rfl) ?_
    refine lv_imul Fx.1 Fx.2.1 dX10_findWays_119 ?_
    refine lv_iload Fx.1 Fx.2.1 dX10_findWays_120 (lv_at hl 10 rfl) ?_
    refine lv_iadd Fx.1 Fx.2.1 dX10_findWays_122 ?_
    obtain ⟨hi5, hf⟩ := gd_e hf
    refine ld_M_bounds Fx hC hi5 dX10_findWays_123 ?_
    refine lv_iconst (v := (-1 : Int32)) Fx.1 Fx.2.1 dX10_findWays_124 (by decide) ?_
    refine lv_icmp_eq (tgt := 144) Fx.1 Fx.2.1 dX10_findWays_125 (by decide) (fun hc => ?_) (fun hc => ?_)
    · replace hf := ift hc hf
      exact s_M_findWays_J144 Fx hret hK50 hK71 _ _ _ _ _ _ _ _ _ _ _ _  hf _ _ _ (lv_sub hl [3, 4, 5, 6, 7, 1, 8, 9, 10, 2, 0] rfl) hC
    · replace hf := iff_ hc hf
      refine lv_aload_n Fx.1 Fx.2.1 dX10_findWays_128 rfl (lv_at hl 3 rfl) ?_
      refine gg_M_bounds Fx hC wd_598 dX10_findWays_129 ?_
      refine lv_iconst (v := (4 : Int32)) Fx.1 Fx.2.1 dX10_findWays_132 (by decide) ?_
      refine lv_iload_n Fx.1 Fx.2.1 dX10_findWays_133 rfl (lv_at hl 4 rfl) ?_
      refine lv_imul Fx.1 Fx.2.1 dX10_findWays_134 ?_
      refine lv_iload Fx.1 Fx.2.1 dX10_findWays_135 (lv_at hl 10 rfl) ?_
      refine lv_iadd Fx.1 Fx.2.1 dX10_findWays_137 ?_
      obtain ⟨hi6, hf⟩ := gd_e hf
      refine ld_M_bounds Fx hC hi6 dX10_findWays_138 ?_
      refine lv_iload Fx.1 Fx.2.1 dX10_findWays_139 (lv_at hl 2 rfl) ?_
      refine lv_icmp_ne (tgt := 148) Fx.1 Fx.2.1 dX10_findWays_141 (by decide) (fun hc => ?_) (fun hc => ?_)
      · replace hf := iff_ hc hf
        refine lv_iconst (v := (0 : Int32)) Fx.1 Fx.2.1 dX10_findWays_148 (by decide) ?_
        exact s_M_findWays_J149 Fx hret hK50 hK71 _ _ _ _ _ _ _ _ _ _ _ _ _  hf _ _ _ (lv_sub hl [3, 4, 5, 6, 7, 1, 8, 9, 10, 2, 0] rfl) hC
      · replace hf := ift hc hf
        exact s_M_findWays_J144 Fx hret hK50 hK71 _ _ _ _ _ _ _ _ _ _ _ _  hf _ _ _ (lv_sub hl [3, 4, 5, 6, 7, 1, 8, 9, 10, 2, 0] rfl) hC
set_option maxRecDepth 100000 in
set_option maxHeartbeats 4000000 in
theorem t_M_findWays_L71 {K50 : (Int32 × Int32 × Int32 × Int32 × sG × sF) → Option (sG × sF)} {p : Program} {l : Launch} {e : Env} {s : State} {m : MethodId} {args : Array Value} {below : List Frame} {meth : Method} {c : Code} {Q : State → Prop} {D : va_G} {ad : Nat → Nat} {cy : Nat → ClassId} {A : Nat → Prop} {H0 : Heap} {u : sG × sF} (Fx : CallFix p m c cX10_findWays 12 s args (Cond.code yX10_findWays cX10_findWays 12 none :: wU) RX10) (hret : mRv p l e rm_M_findWays s m args below meth c Q D (mT cy) (mW ad cy) A H0 cX10_findWays u) (hK50 : ∀ (z : Int32 × Int32 × Int32 × Int32 × sG × sF), K50 z = some u → ∀ (ls : Array Slot) (H : Heap) (locs : List Loc), lv_has ls 12 [(0, .ref (ad 0)), (1, .int z.1), (2, .int z.2.1), (3, .int z.2.2.1), (4, .int z.2.2.2.1)] → wH D (mT cy) (mW ad cy) A H0 s z.2.2.2.2.1 z.2.2.2.2.2 H locs → W p l e rm_M_findWays s m args below meth c H locs 0 0 Q (F0 m 50 ls [])) (n : Nat) (z : Int32 × Int32 × Int32 × Int32 × Int32 × Int32 × Int32 × Int32 × sG × sF) (hz : itr (fun K z => p_M_findWays_L71 K50 K z.1 z.2.1 z.2.2.1 z.2.2.2.1 z.2.2.2.2.1 z.2.2.2.2.2.1 z.2.2.2.2.2.2.1 z.2.2.2.2.2.2.2.1 z.2.2.2.2.2.2.2.2.1 z.2.2.2.2.2.2.2.2.2) n z = some u) : ∀ (ls : Array Slot) (H : Heap) (locs : List Loc), lv_has ls 12 [(0, .ref (ad 0)), (1, .int z.1), (2, .int z.2.1), (3, .int z.2.2.1), (4, .int z.2.2.2.1), (5, .int z.2.2.2.2.1), (6, .int z.2.2.2.2.2.1), (7, .int z.2.2.2.2.2.2.1), (8, .int z.2.2.2.2.2.2.2.1)] → wH D (mT cy) (mW ad cy) A H0 s z.2.2.2.2.2.2.2.2.1 z.2.2.2.2.2.2.2.2.2 H locs → W p l e rm_M_findWays s m args below meth c H locs 0 0 Q (F0 m 71 ls []) :=
  itr_all (B := fun K z => p_M_findWays_L71 K50 K z.1 z.2.1 z.2.2.1 z.2.2.2.1 z.2.2.2.2.1 z.2.2.2.2.2.1 z.2.2.2.2.2.2.1 z.2.2.2.2.2.2.2.1 z.2.2.2.2.2.2.2.2.1 z.2.2.2.2.2.2.2.2.2) (r := u) (fun z => ∀ (ls : Array Slot) (H : Heap) (locs : List Loc), lv_has ls 12 [(0, .ref (ad 0)), (1, .int z.1), (2, .int z.2.1), (3, .int z.2.2.1), (4, .int z.2.2.2.1), (5, .int z.2.2.2.2.1), (6, .int z.2.2.2.2.2.1), (7, .int z.2.2.2.2.2.2.1), (8, .int z.2.2.2.2.2.2.2.1)] → wH D (mT cy) (mW ad cy) A H0 s z.2.2.2.2.2.2.2.2.1 z.2.2.2.2.2.2.2.2.2 H locs → W p l e rm_M_findWays s m args below meth c H locs 0 0 Q (F0 m 71 ls [])) (fun K hK z h => s_M_findWays_L71 (K71 := K) Fx hret hK50 hK z.1 z.2.1 z.2.2.1 z.2.2.2.1 z.2.2.2.2.1 z.2.2.2.2.2.1 z.2.2.2.2.2.2.1 z.2.2.2.2.2.2.2.1 z.2.2.2.2.2.2.2.2.1 z.2.2.2.2.2.2.2.2.2 h) n z hz
noncomputable def p_M_findWays_L50 (K50 : (Int32 × Int32 × Int32 × Int32 × sG × sF) → Option (sG × sF)) (x1 : Int32) (x2 : Int32) (x3 : Int32) (x4 : Int32) (g : sG) (f : sF) : Option (sG × sF) := (if x3 ≤ x4 then some (g, f) else lt_ (x2 - (1 : Int32)) (fun v1 => itr (fun K z => p_M_findWays_L71 K50 K z.1 z.2.1 z.2.2.1 z.2.2.2.1 z.2.2.2.2.1 z.2.2.2.2.2.1 z.2.2.2.2.2.2.1 z.2.2.2.2.2.2.2.1 z.2.2.2.2.2.2.2.2.1 z.2.2.2.2.2.2.2.2.2) FUEL (x1, x2, x3, x4, x4, (0 : Int32), (1 : Int32), v1, g, f)))
set_option maxRecDepth 100000 in
set_option maxHeartbeats 4000000 in
theorem s_M_findWays_L50 {K50 : (Int32 × Int32 × Int32 × Int32 × sG × sF) → Option (sG × sF)} {p : Program} {l : Launch} {e : Env} {s : State} {m : MethodId} {args : Array Value} {below : List Frame} {meth : Method} {c : Code} {Q : State → Prop} {D : va_G} {ad : Nat → Nat} {cy : Nat → ClassId} {A : Nat → Prop} {H0 : Heap} {u : sG × sF} (Fx : CallFix p m c cX10_findWays 12 s args (Cond.code yX10_findWays cX10_findWays 12 none :: wU) RX10) (hret : mRv p l e rm_M_findWays s m args below meth c Q D (mT cy) (mW ad cy) A H0 cX10_findWays u) (hK50 : ∀ (z : Int32 × Int32 × Int32 × Int32 × sG × sF), K50 z = some u → ∀ (ls : Array Slot) (H : Heap) (locs : List Loc), lv_has ls 12 [(0, .ref (ad 0)), (1, .int z.1), (2, .int z.2.1), (3, .int z.2.2.1), (4, .int z.2.2.2.1)] → wH D (mT cy) (mW ad cy) A H0 s z.2.2.2.2.1 z.2.2.2.2.2 H locs → W p l e rm_M_findWays s m args below meth c H locs 0 0 Q (F0 m 50 ls [])) (x1 : Int32) (x2 : Int32) (x3 : Int32) (x4 : Int32) (g : sG) (f : sF) (hf : p_M_findWays_L50 K50 x1 x2 x3 x4 g f = some u) : ∀ (ls : Array Slot) (H : Heap) (locs : List Loc), lv_has ls 12 [(0, .ref (ad 0)), (1, .int x1), (2, .int x2), (3, .int x3), (4, .int x4)] → wH D (mT cy) (mW ad cy) A H0 s g f H locs → W p l e rm_M_findWays s m args below meth c H locs 0 0 Q (F0 m 50 ls []) := by
  intro ls H locs hl hC
  unfold p_M_findWays_L50 at hf
  refine lv_iload Fx.1 Fx.2.1 dX10_findWays_50 (lv_at hl 4 rfl) ?_
  refine lv_iload_n Fx.1 Fx.2.1 dX10_findWays_52 rfl (lv_at hl 3 rfl) ?_
  refine lv_icmp_ge (tgt := 261) Fx.1 Fx.2.1 dX10_findWays_53 (by decide) (fun hc => ?_) (fun hc => ?_)
  · replace hf := ift hc hf
    obtain rfl := Option.some.inj hf
    exact hret _ _ _ _ dX10_findWays_261 hC
  · replace hf := iff_ hc hf
    refine lv_iload Fx.1 Fx.2.1 dX10_findWays_56 (lv_at hl 4 rfl) ?_
    refine lv_istore (lv' := [(5, .int x4), (0, .ref (ad 0)), (1, .int x1), (2, .int x2), (3, .int x3), (4, .int x4)]) Fx.1 Fx.2.1 dX10_findWays_58 hl (by decide) rfl (fun ls hl => ?_)
    refine lv_iconst (v := (0 : Int32)) Fx.1 Fx.2.1 dX10_findWays_60 (by decide) ?_
    refine lv_istore (lv' := [(6, .int (0 : Int32)), (5, .int x4), (0, .ref (ad 0)), (1, .int x1), (2, .int x2), (3, .int x3), (4, .int x4)]) Fx.1 Fx.2.1 dX10_findWays_61 hl (by decide) rfl (fun ls hl => ?_)
    refine lv_iconst (v := (1 : Int32)) Fx.1 Fx.2.1 dX10_findWays_63 (by decide) ?_
    refine lv_istore (lv' := [(7, .int (1 : Int32)), (6, .int (0 : Int32)), (5, .int x4), (0, .ref (ad 0)), (1, .int x1), (2, .int x2), (3, .int x3), (4, .int x4)]) Fx.1 Fx.2.1 dX10_findWays_64 hl (by decide) rfl (fun ls hl => ?_)
    refine lv_iload_n Fx.1 Fx.2.1 dX10_findWays_66 rfl (lv_at hl 5 rfl) ?_
    refine lv_iconst (v := (1 : Int32)) Fx.1 Fx.2.1 dX10_findWays_67 (by decide) ?_
    refine lv_isub Fx.1 Fx.2.1 dX10_findWays_68 ?_
    obtain ⟨v1, ev1, hf⟩ := lt_e hf
    refine tpi ev1 ?_
    refine lv_istore (lv' := [(8, .int v1), (7, .int (1 : Int32)), (6, .int (0 : Int32)), (5, .int x4), (0, .ref (ad 0)), (1, .int x1), (2, .int x2), (3, .int x3), (4, .int x4)]) Fx.1 Fx.2.1 dX10_findWays_69 hl (by decide) rfl (fun ls hl => ?_)
    exact t_M_findWays_L71 Fx hret hK50 _ _ hf _ _ _ (lv_sub hl [4, 5, 6, 7, 8, 3, 2, 1, 0] rfl) hC
set_option maxRecDepth 100000 in
set_option maxHeartbeats 4000000 in
theorem t_M_findWays_L50 {p : Program} {l : Launch} {e : Env} {s : State} {m : MethodId} {args : Array Value} {below : List Frame} {meth : Method} {c : Code} {Q : State → Prop} {D : va_G} {ad : Nat → Nat} {cy : Nat → ClassId} {A : Nat → Prop} {H0 : Heap} {u : sG × sF} (Fx : CallFix p m c cX10_findWays 12 s args (Cond.code yX10_findWays cX10_findWays 12 none :: wU) RX10) (hret : mRv p l e rm_M_findWays s m args below meth c Q D (mT cy) (mW ad cy) A H0 cX10_findWays u)  (n : Nat) (z : Int32 × Int32 × Int32 × Int32 × sG × sF) (hz : itr (fun K z => p_M_findWays_L50 K z.1 z.2.1 z.2.2.1 z.2.2.2.1 z.2.2.2.2.1 z.2.2.2.2.2) n z = some u) : ∀ (ls : Array Slot) (H : Heap) (locs : List Loc), lv_has ls 12 [(0, .ref (ad 0)), (1, .int z.1), (2, .int z.2.1), (3, .int z.2.2.1), (4, .int z.2.2.2.1)] → wH D (mT cy) (mW ad cy) A H0 s z.2.2.2.2.1 z.2.2.2.2.2 H locs → W p l e rm_M_findWays s m args below meth c H locs 0 0 Q (F0 m 50 ls []) :=
  itr_all (B := fun K z => p_M_findWays_L50 K z.1 z.2.1 z.2.2.1 z.2.2.2.1 z.2.2.2.2.1 z.2.2.2.2.2) (r := u) (fun z => ∀ (ls : Array Slot) (H : Heap) (locs : List Loc), lv_has ls 12 [(0, .ref (ad 0)), (1, .int z.1), (2, .int z.2.1), (3, .int z.2.2.1), (4, .int z.2.2.2.1)] → wH D (mT cy) (mW ad cy) A H0 s z.2.2.2.2.1 z.2.2.2.2.2 H locs → W p l e rm_M_findWays s m args below meth c H locs 0 0 Q (F0 m 50 ls [])) (fun K hK z h => s_M_findWays_L50 (K50 := K) Fx hret hK z.1 z.2.1 z.2.2.1 z.2.2.2.1 z.2.2.2.2.1 z.2.2.2.2.2 h) n z hz
noncomputable def p_M_findWays_L23 (K23 : (Int32 × Int32 × Int32 × Int32 × sG × sF) → Option (sG × sF)) (x1 : Int32) (x2 : Int32) (x3 : Int32) (x4 : Int32) (g : sG) (f : sF) : Option (sG × sF) := (if x2 ≤ x4 then lt_ (upd g 7 (0 : Int32)) (fun g1 => itr (fun K z => p_M_findWays_L50 K z.1 z.2.1 z.2.2.1 z.2.2.2.1 z.2.2.2.2.1 z.2.2.2.2.2) FUEL (x1, x2, x3, (0 : Int32), g1, f)) else lt_ (x3 * (g 0)) (fun v2 => lt_ (x4 + (1 : Int32)) (fun v3 => K23 (x1, x2, v2, v3, g, f))))
set_option maxRecDepth 100000 in
set_option maxHeartbeats 4000000 in
theorem s_M_findWays_L23 {K23 : (Int32 × Int32 × Int32 × Int32 × sG × sF) → Option (sG × sF)} {p : Program} {l : Launch} {e : Env} {s : State} {m : MethodId} {args : Array Value} {below : List Frame} {meth : Method} {c : Code} {Q : State → Prop} {D : va_G} {ad : Nat → Nat} {cy : Nat → ClassId} {A : Nat → Prop} {H0 : Heap} {u : sG × sF} (Fx : CallFix p m c cX10_findWays 12 s args (Cond.code yX10_findWays cX10_findWays 12 none :: wU) RX10) (hret : mRv p l e rm_M_findWays s m args below meth c Q D (mT cy) (mW ad cy) A H0 cX10_findWays u) (hK23 : ∀ (z : Int32 × Int32 × Int32 × Int32 × sG × sF), K23 z = some u → ∀ (ls : Array Slot) (H : Heap) (locs : List Loc), lv_has ls 12 [(0, .ref (ad 0)), (1, .int z.1), (2, .int z.2.1), (3, .int z.2.2.1), (4, .int z.2.2.2.1)] → wH D (mT cy) (mW ad cy) A H0 s z.2.2.2.2.1 z.2.2.2.2.2 H locs → W p l e rm_M_findWays s m args below meth c H locs 0 0 Q (F0 m 23 ls [])) (x1 : Int32) (x2 : Int32) (x3 : Int32) (x4 : Int32) (g : sG) (f : sF) (hf : p_M_findWays_L23 K23 x1 x2 x3 x4 g f = some u) : ∀ (ls : Array Slot) (H : Heap) (locs : List Loc), lv_has ls 12 [(0, .ref (ad 0)), (1, .int x1), (2, .int x2), (3, .int x3), (4, .int x4)] → wH D (mT cy) (mW ad cy) A H0 s g f H locs → W p l e rm_M_findWays s m args below meth c H locs 0 0 Q (F0 m 23 ls []) := by
  intro ls H locs hl hC
  unfold p_M_findWays_L23 at hf
  refine lv_iload Fx.1 Fx.2.1 dX10_findWays_23 (lv_at hl 4 rfl) ?_
  refine lv_iload_n Fx.1 Fx.2.1 dX10_findWays_25 rfl (lv_at hl 2 rfl) ?_
  refine lv_icmp_ge (tgt := 42) Fx.1 Fx.2.1 dX10_findWays_26 (by decide) (fun hc => ?_) (fun hc => ?_)
  · replace hf := ift hc hf
    refine lv_aload_n Fx.1 Fx.2.1 dX10_findWays_42 rfl (lv_at hl 0 rfl) ?_
    refine lv_iconst (v := (0 : Int32)) Fx.1 Fx.2.1 dX10_findWays_43 (by decide) ?_
    obtain ⟨g1, eg1, hf⟩ := lt_e hf
    refine gp_M_ways Fx hC wd_607 eg1 dX10_findWays_44 (fun H locs hC => ?_)
    refine lv_iconst (v := (0 : Int32)) Fx.1 Fx.2.1 dX10_findWays_47 (by decide) ?_
    refine lv_istore (lv' := [(4, .int (0 : Int32)), (0, .ref (ad 0)), (1, .int x1), (2, .int x2), (3, .int x3)]) Fx.1 Fx.2.1 dX10_findWays_48 hl (by decide) rfl (fun ls hl => ?_)
    exact t_M_findWays_L50 Fx hret _ _ hf _ _ _ (lv_sub hl [1, 2, 3, 4, 0] rfl) hC
  · replace hf := iff_ hc hf
    refine lv_iload_n Fx.1 Fx.2.1 dX10_findWays_29 rfl (lv_at hl 3 rfl) ?_
    refine lv_aload_n Fx.1 Fx.2.1 dX10_findWays_30 rfl (lv_at hl 0 rfl) ?_
    refine gg_M_strings Fx hC wd_590 dX10_findWays_31 ?_
    refine lv_imul Fx.1 Fx.2.1 dX10_findWays_34 ?_
    obtain ⟨v2, ev2, hf⟩ := lt_e hf
    refine tpi ev2 ?_
    refine lv_istore_n (lv' := [(3, .int v2), (0, .ref (ad 0)), (1, .int x1), (2, .int x2), (4, .int x4)]) Fx.1 Fx.2.1 dX10_findWays_35 rfl hl (by decide) rfl (fun ls hl => ?_)
    obtain ⟨v3, ev3, hf⟩ := lt_e hf
    refine lv_iinc (v := v3) (lv' := [(4, .int v3), (3, .int v2), (0, .ref (ad 0)), (1, .int x1), (2, .int x2)]) Fx.1 Fx.2.1 dX10_findWays_36 hl (k := 4) rfl ev3.symm (by decide) rfl (fun ls hl => ?_)
    refine lv_goto (tgt := 23) Fx.1 Fx.2.1 dX10_findWays_39 (by decide) ?_
    exact hK23 _ hf _ _ _ (lv_sub hl [2, 3, 4, 1, 0] rfl) hC
set_option maxRecDepth 100000 in
set_option maxHeartbeats 4000000 in
theorem t_M_findWays_L23 {p : Program} {l : Launch} {e : Env} {s : State} {m : MethodId} {args : Array Value} {below : List Frame} {meth : Method} {c : Code} {Q : State → Prop} {D : va_G} {ad : Nat → Nat} {cy : Nat → ClassId} {A : Nat → Prop} {H0 : Heap} {u : sG × sF} (Fx : CallFix p m c cX10_findWays 12 s args (Cond.code yX10_findWays cX10_findWays 12 none :: wU) RX10) (hret : mRv p l e rm_M_findWays s m args below meth c Q D (mT cy) (mW ad cy) A H0 cX10_findWays u)  (n : Nat) (z : Int32 × Int32 × Int32 × Int32 × sG × sF) (hz : itr (fun K z => p_M_findWays_L23 K z.1 z.2.1 z.2.2.1 z.2.2.2.1 z.2.2.2.2.1 z.2.2.2.2.2) n z = some u) : ∀ (ls : Array Slot) (H : Heap) (locs : List Loc), lv_has ls 12 [(0, .ref (ad 0)), (1, .int z.1), (2, .int z.2.1), (3, .int z.2.2.1), (4, .int z.2.2.2.1)] → wH D (mT cy) (mW ad cy) A H0 s z.2.2.2.2.1 z.2.2.2.2.2 H locs → W p l e rm_M_findWays s m args below meth c H locs 0 0 Q (F0 m 23 ls []) :=
  itr_all (B := fun K z => p_M_findWays_L23 K z.1 z.2.1 z.2.2.1 z.2.2.2.1 z.2.2.2.2.1 z.2.2.2.2.2) (r := u) (fun z => ∀ (ls : Array Slot) (H : Heap) (locs : List Loc), lv_has ls 12 [(0, .ref (ad 0)), (1, .int z.1), (2, .int z.2.1), (3, .int z.2.2.1), (4, .int z.2.2.2.1)] → wH D (mT cy) (mW ad cy) A H0 s z.2.2.2.2.1 z.2.2.2.2.2 H locs → W p l e rm_M_findWays s m args below meth c H locs 0 0 Q (F0 m 23 ls [])) (fun K hK z h => s_M_findWays_L23 (K23 := K) Fx hret hK z.1 z.2.1 z.2.2.1 z.2.2.2.1 z.2.2.2.2.1 z.2.2.2.2.2 h) n z hz
noncomputable def p_M_findWays (a1 : Int32) (g : sG) (f : sF) : Option (sG × sF) := (if a1 < 0 ∨ 40 ≤ a1.toNatClampNeg then none else lt_ (f 2 a1.toNatClampNeg) (fun v2 => (if (g 0) = 0 then itr (fun K z => p_M_findWays_L23 K z.1 z.2.1 z.2.2.1 z.2.2.2.1 z.2.2.2.2.1 z.2.2.2.2.2) FUEL (a1, v2, (0 : Int32), (0 : Int32), g, f) else itr (fun K z => p_M_findWays_L23 K z.1 z.2.1 z.2.2.1 z.2.2.2.1 z.2.2.2.2.1 z.2.2.2.2.2) FUEL (a1, v2, (1 : Int32), (0 : Int32), g, f))))
set_option maxRecDepth 100000 in
set_option maxHeartbeats 4000000 in
theorem k_M_findWays {l : Launch} {D : va_G} {ad : Nat → Nat} {cy : Nat → ClassId} {a1 : Int32} {u : sG × sF} {g : sG} {f : sF} (hf : p_M_findWays a1 g f = some u) : mMv l yX10_findWays (Cond.code yX10_findWays cX10_findWays 12 none :: wU) rm_M_findWays D (mT cy) (mW ad cy) [.ref (ad 0), .int a1] g f u := by
  refine mk_v (by decide) rfl (Nat.le_of_ble_eq_true rfl) ?_
  intro p e s m below meth c Q A H0 Fx hret ls H locs hl hC
  replace hl : lv_has ls 12 [(0, .ref (ad 0)), (1, .int a1)] := hl
  unfold p_M_findWays at hf
  refine lv_aload_n Fx.1 Fx.2.1 dX10_findWays_0 rfl (lv_at hl 0 rfl) ?_
  refine gg_M_pitchMany Fx hC wd_596 dX10_findWays_1 ?_
  refine lv_iload_n Fx.1 Fx.2.1 dX10_findWays_4 rfl (lv_at hl 1 rfl) ?_
  obtain ⟨hi1, hf⟩ := gd_e hf
  refine ld_M_pitchMany Fx hC hi1 dX10_findWays_5 ?_
  obtain ⟨v2, ev2, hf⟩ := lt_e hf
  refine tpi ev2 ?_
  refine lv_istore_n (lv' := [(2, .int v2), (0, .ref (ad 0)), (1, .int a1)]) Fx.1 Fx.2.1 dX10_findWays_6 rfl hl (by decide) rfl (fun ls hl => ?_)
  refine lv_aload_n Fx.1 Fx.2.1 dX10_findWays_7 rfl (lv_at hl 1 rfl) ?_
  refine gg_M_strings Fx hC wd_590 dX10_findWays_8 ?_
  refine lv_if_ne (tgt := 18) Fx.1 Fx.2.1 dX10_findWays_11 (by decide) (fun hc => ?_) (fun hc => ?_)
  · replace hf := iff_ hc hf
    refine lv_iconst (v := (1 : Int32)) Fx.1 Fx.2.1 dX10_findWays_18 (by decide) ?_
    refine lv_istore_n (lv' := [(3, .int (1 : Int32)), (2, .int v2), (0, .ref (ad 0)), (1, .int a1)]) Fx.1 Fx.2.1 dX10_findWays_19 rfl hl (by decide) rfl (fun ls hl => ?_)
    refine lv_iconst (v := (0 : Int32)) Fx.1 Fx.2.1 dX10_findWays_20 (by decide) ?_
    refine lv_istore (lv' := [(4, .int (0 : Int32)), (3, .int (1 : Int32)), (2, .int v2), (0, .ref (ad 0)), (1, .int a1)]) Fx.1 Fx.2.1 dX10_findWays_21 hl (by decide) rfl (fun ls hl => ?_)
    exact t_M_findWays_L23 Fx hret _ _ hf _ _ _ (lv_sub hl [3, 4, 2, 1, 0] rfl) hC
  · replace hf := ift hc hf
    refine lv_iconst (v := (0 : Int32)) Fx.1 Fx.2.1 dX10_findWays_14 (by decide) ?_
    refine lv_goto (tgt := 19) Fx.1 Fx.2.1 dX10_findWays_15 (by decide) ?_
    refine lv_istore_n (lv' := [(3, .int (0 : Int32)), (2, .int v2), (0, .ref (ad 0)), (1, .int a1)]) Fx.1 Fx.2.1 dX10_findWays_19 rfl hl (by decide) rfl (fun ls hl => ?_)
    refine lv_iconst (v := (0 : Int32)) Fx.1 Fx.2.1 dX10_findWays_20 (by decide) ?_
    refine lv_istore (lv' := [(4, .int (0 : Int32)), (3, .int (0 : Int32)), (2, .int v2), (0, .ref (ad 0)), (1, .int a1)]) Fx.1 Fx.2.1 dX10_findWays_21 hl (by decide) rfl (fun ls hl => ?_)
    exact t_M_findWays_L23 Fx hret _ _ hf _ _ _ (lv_sub hl [3, 4, 2, 1, 0] rfl) hC
/-! FretHandsModel.isGrip(III)Z -/
abbrev rm_M_isGrip : Room := { frames := 1, cells := 0, slots := 0, locals := 22 }
theorem hd_M_isGrip : yX10_isGrip.cls = RX10 ∧ yX10_isGrip.cls ≠ "java/lang/invoke/MethodHandle" ∧ yX10_isGrip.cls ≠ "java/lang/invoke/VarHandle" ∧ (parseMethodDescriptor yX10_isGrip.desc).map (fun d => d.parameters.length) = some 3 := by decide +kernel
noncomputable def p_M_isGrip_L6 (K6 : (Int32 × Int32 × Int32 × Int32 × Int32) → Option (Int32)) (x1 : Int32) (x2 : Int32) (x3 : Int32) (x4 : Int32) (x5 : Int32) (g : sG) (f : sF) : Option (Int32) := (if x1 < 0 ∨ 40 ≤ x1.toNatClampNeg then none else (if (f 2 x1.toNatClampNeg) ≤ x5 then (if ¬ x4 = 0 ∧ ¬ x4 = 1 then none else some x4) else (if (((4 : Int32) * x2) + x5) < 0 ∨ 3364 ≤ (((4 : Int32) * x2) + x5).toNatClampNeg then none else lt_ (f 11 (((4 : Int32) * x2) + x5).toNatClampNeg) (fun v3 => (if x4 = 0 then lt_ (x5 + (1 : Int32)) (fun v4 => K6 (x1, x2, x3, (0 : Int32), v4)) else (if v3 = (g 2) then lt_ (x5 + (1 : Int32)) (fun v5 => K6 (x1, x2, x3, (1 : Int32), v5)) else Option.bind (p_M_within v3 x3 (x3 + (3 : Int32)) g f) (fun u6 => (if u6 = 0 then lt_ (x5 + (1 : Int32)) (fun v7 => K6 (x1, x2, x3, (0 : Int32), v7)) else lt_ (x5 + (1 : Int32)) (fun v8 => K6 (x1, x2, x3, (1 : Int32), v8))))))))))
set_option maxRecDepth 100000 in
set_option maxHeartbeats 4000000 in
theorem s_M_isGrip_L6 {K6 : (Int32 × Int32 × Int32 × Int32 × Int32) → Option (Int32)} {p : Program} {l : Launch} {e : Env} {s : State} {m : MethodId} {args : Array Value} {below : List Frame} {meth : Method} {c : Code} {Q : State → Prop} {D : va_G} {ad : Nat → Nat} {cy : Nat → ClassId} {A : Nat → Prop} {H0 : Heap} {r : Int32} {g : sG} {f : sF} (Fx : CallFix p m c cX10_isGrip 7 s args (Cond.code yX10_isGrip cX10_isGrip 7 (some .boolean) :: wU) RX10) (hret : mRz p l e rm_M_isGrip s m args below meth c Q D (mT cy) (mW ad cy) A H0 cX10_isGrip (r, g, f)) (hK6 : ∀ (z : Int32 × Int32 × Int32 × Int32 × Int32), K6 z = some r → ∀ (ls : Array Slot) (H : Heap) (locs : List Loc), lv_has ls 7 [(0, .ref (ad 0)), (1, .int z.1), (2, .int z.2.1), (3, .int z.2.2.1), (4, .int z.2.2.2.1), (5, .int z.2.2.2.2)] → wH D (mT cy) (mW ad cy) A H0 s g f H locs → W p l e rm_M_isGrip s m args below meth c H locs 0 0 Q (F0 m 6 ls [])) (x1 : Int32) (x2 : Int32) (x3 : Int32) (x4 : Int32) (x5 : Int32) (hf : p_M_isGrip_L6 K6 x1 x2 x3 x4 x5 g f = some r) : ∀ (ls : Array Slot) (H : Heap) (locs : List Loc), lv_has ls 7 [(0, .ref (ad 0)), (1, .int x1), (2, .int x2), (3, .int x3), (4, .int x4), (5, .int x5)] → wH D (mT cy) (mW ad cy) A H0 s g f H locs → W p l e rm_M_isGrip s m args below meth c H locs 0 0 Q (F0 m 6 ls []) := by
  intro ls H locs hl hC
  unfold p_M_isGrip_L6 at hf
  refine lv_iload Fx.1 Fx.2.1 dX10_isGrip_6 (lv_at hl 5 rfl) ?_
  refine lv_aload_n Fx.1 Fx.2.1 dX10_isGrip_8 rfl (lv_at hl 0 rfl) ?_
  refine gg_M_pitchMany Fx hC wd_596 dX10_isGrip_9 ?_
  refine lv_iload_n Fx.1 Fx.2.1 dX10_isGrip_12 rfl (lv_at hl 1 rfl) ?_
  obtain ⟨hi1, hf⟩ := gd_e hf
  refine ld_M_pitchMany Fx hC hi1 dX10_isGrip_13 ?_
  refine lv_icmp_ge (tgt := 69) Fx.1 Fx.2.1 dX10_isGrip_14 (by decide) (fun hc => ?_) (fun hc => ?_)
  · replace hf := ift hc hf
    refine lv_iload Fx.1 Fx.2.1 dX10_isGrip_69 (lv_at hl 4 rfl) ?_
    obtain ⟨hz, hf⟩ := gd_e hf
    obtain rfl := Option.some.inj hf
    exact hret _ _ _ _ dX10_isGrip_71 hz hC
  · replace hf := iff_ hc hf
    refine lv_aload_n Fx.1 Fx.2.1 dX10_isGrip_17 rfl (lv_at hl 0 rfl) ?_
    refine gg_M_wayFrets Fx hC wd_609 dX10_isGrip_18 ?_
    refine lv_iconst (v := (4 : Int32)) Fx.1 Fx.2.1 dX10_isGrip_21 (by decide) ?_
    refine lv_iload_n Fx.1 Fx.2.1 dX10_isGrip_22 rfl (lv_at hl 2 rfl) ?_
    refine lv_imul Fx.1 Fx.2.1 dX10_isGrip_23 ?_
    refine lv_iload Fx.1 Fx.2.1 dX10_isGrip_24 (lv_at hl 5 rfl) ?_
    refine lv_iadd Fx.1 Fx.2.1 dX10_isGrip_26 ?_
    obtain ⟨hi2, hf⟩ := gd_e hf
    refine ld_M_wayFrets Fx hC hi2 dX10_isGrip_27 ?_
    obtain ⟨v3, ev3, hf⟩ := lt_e hf
    refine tpi ev3 ?_
    refine lv_istore (lv' := [(6, .int v3), (0, .ref (ad 0)), (1, .int x1), (2, .int x2), (3, .int x3), (4, .int x4), (5, .int x5)]) Fx.1 Fx.2.1 dX10_isGrip_28 hl (by decide) rfl (fun ls hl => ?_)
    refine lv_iload Fx.1 Fx.2.1 dX10_isGrip_30 (lv_at hl 5 rfl) ?_
    refine lv_if_eq (tgt := 60) Fx.1 Fx.2.1 dX10_isGrip_32 (by decide) (fun hc => ?_) (fun hc => ?_)
    · replace hf := ift hc hf
      refine lv_iconst (v := (0 : Int32)) Fx.1 Fx.2.1 dX10_isGrip_60 (by decide) ?_
      refine lv_istore (lv' := [(4, .int (0 : Int32)), (6, .int v3), (0, .ref (ad 0)), (1, .int x1), (2, .int x2), (3, .int x3), (5, .int x5)]) Fx.1 Fx.2.1 dX10_isGrip_61 hl (by decide) rfl (fun ls hl => ?_)
      obtain ⟨v4, ev4, hf⟩ := lt_e hf
      refine lv_iinc (v := v4) (lv' := [(5, .int v4), (4, .int (0 : Int32)), (6, .int v3), (0, .ref (ad 0)), (1, .int x1), (2, .int x2), (3, .int x3)]) Fx.1 Fx.2.1 dX10_isGrip_63 hl (k := 6) rfl ev4.symm (by decide) rfl (fun ls hl => ?_)
      refine lv_goto (tgt := 6) Fx.1 Fx.2.1 dX10_isGrip_66 (by decide) ?_
      exact hK6 _ hf _ _ _ (lv_sub hl [3, 4, 5, 6, 1, 0] rfl) hC
    · replace hf := iff_ hc hf
      refine lv_iload Fx.1 Fx.2.1 dX10_isGrip_35 (lv_at hl 0 rfl) ?_
      refine lv_aload_n Fx.1 Fx.2.1 dX10_isGrip_37 rfl (lv_at hl 1 rfl) ?_
      refine gg_M_capo Fx hC wd_593 dX10_isGrip_38 ?_
      refine lv_icmp_eq (tgt := 56) Fx.1 Fx.2.1 dX10_isGrip_41 (by decide) (fun hc => ?_) (fun hc => ?_)
      · replace hf := ift hc hf
        refine lv_iconst (v := (1 : Int32)) Fx.1 Fx.2.1 dX10_isGrip_56 (by decide) ?_
        refine lv_goto (tgt := 61) Fx.1 Fx.2.1 dX10_isGrip_57 (by decide) ?_
        refine lv_istore (lv' := [(4, .int (1 : Int32)), (6, .int v3), (0, .ref (ad 0)), (1, .int x1), (2, .int x2), (3, .int x3), (5, .int x5)]) Fx.1 Fx.2.1 dX10_isGrip_61 hl (by decide) rfl (fun ls hl => ?_)
        obtain ⟨v5, ev5, hf⟩ := lt_e hf
        refine lv_iinc (v := v5) (lv' := [(5, .int v5), (4, .int (1 : Int32)), (6, .int v3), (0, .ref (ad 0)), (1, .int x1), (2, .int x2), (3, .int x3)]) Fx.1 Fx.2.1 dX10_isGrip_63 hl (k := 6) rfl ev5.symm (by decide) rfl (fun ls hl => ?_)
        refine lv_goto (tgt := 6) Fx.1 Fx.2.1 dX10_isGrip_66 (by decide) ?_
        exact hK6 _ hf _ _ _ (lv_sub hl [3, 4, 5, 6, 1, 0] rfl) hC
      · replace hf := iff_ hc hf
        refine lv_iload Fx.1 Fx.2.1 dX10_isGrip_44 (lv_at hl 0 rfl) ?_
        refine lv_iload_n Fx.1 Fx.2.1 dX10_isGrip_46 rfl (lv_at hl 4 rfl) ?_
        refine lv_iload_n Fx.1 Fx.2.1 dX10_isGrip_47 rfl (lv_at hl 4 rfl) ?_
        refine lv_iconst (v := (3 : Int32)) Fx.1 Fx.2.1 dX10_isGrip_48 (by decide) ?_
        refine lv_iadd Fx.1 Fx.2.1 dX10_isGrip_49 ?_
        obtain ⟨u6, hu6, hf⟩ := bd_e hf
        refine ca_s (As := [.int v3, .int x3, .int (x3 + (3 : Int32))]) (rest := []) Fx hC (k_M_within hu6) (cSU 3 Fx.2.2.2.2 wd_661 wd_662 wd_10 wd_663 rfl rfl hd_M_within ⟨Nat.le_of_ble_eq_true rfl, Nat.le_of_ble_eq_true rfl⟩) rfl hl.1 rfl (Nat.le_of_ble_eq_true rfl) dX10_isGrip_50 (fun H locs hC => ?_)
        refine lv_if_eq (tgt := 60) Fx.1 Fx.2.1 dX10_isGrip_53 (by decide) (fun hc => ?_) (fun hc => ?_)
        · replace hf := ift hc hf
          refine lv_iconst (v := (0 : Int32)) Fx.1 Fx.2.1 dX10_isGrip_60 (by decide) ?_
          refine lv_istore (lv' := [(4, .int (0 : Int32)), (6, .int v3), (0, .ref (ad 0)), (1, .int x1), (2, .int x2), (3, .int x3), (5, .int x5)]) Fx.1 Fx.2.1 dX10_isGrip_61 hl (by decide) rfl (fun ls hl => ?_)
          obtain ⟨v7, ev7, hf⟩ := lt_e hf
          refine lv_iinc (v := v7) (lv' := [(5, .int v7), (4, .int (0 : Int32)), (6, .int v3), (0, .ref (ad 0)), (1, .int x1), (2, .int x2), (3, .int x3)]) Fx.1 Fx.2.1 dX10_isGrip_63 hl (k := 6) rfl ev7.symm (by decide) rfl (fun ls hl => ?_)
          refine lv_goto (tgt := 6) Fx.1 Fx.2.1 dX10_isGrip_66 (by decide) ?_
          exact hK6 _ hf _ _ _ (lv_sub hl [3, 4, 5, 6, 1, 0] rfl) hC
        · replace hf := iff_ hc hf
          refine lv_iconst (v := (1 : Int32)) Fx.1 Fx.2.1 dX10_isGrip_56 (by decide) ?_
          refine lv_goto (tgt := 61) Fx.1 Fx.2.1 dX10_isGrip_57 (by decide) ?_
          refine lv_istore (lv' := [(4, .int (1 : Int32)), (6, .int v3), (0, .ref (ad 0)), (1, .int x1), (2, .int x2), (3, .int x3), (5, .int x5)]) Fx.1 Fx.2.1 dX10_isGrip_61 hl (by decide) rfl (fun ls hl => ?_)
          obtain ⟨v8, ev8, hf⟩ := lt_e hf
          refine lv_iinc (v := v8) (lv' := [(5, .int v8), (4, .int (1 : Int32)), (6, .int v3), (0, .ref (ad 0)), (1, .int x1), (2, .int x2), (3, .int x3)]) Fx.1 Fx.2.1 dX10_isGrip_63 hl (k := 6) rfl ev8.symm (by decide) rfl (fun ls hl => ?_)
          refine lv_goto (tgt := 6) Fx.1 Fx.2.1 dX10_isGrip_66 (by decide) ?_
          exact hK6 _ hf _ _ _ (lv_sub hl [3, 4, 5, 6, 1, 0] rfl) hC
set_option maxRecDepth 100000 in
set_option maxHeartbeats 4000000 in
theorem t_M_isGrip_L6 {p : Program} {l : Launch} {e : Env} {s : State} {m : MethodId} {args : Array Value} {below : List Frame} {meth : Method} {c : Code} {Q : State → Prop} {D : va_G} {ad : Nat → Nat} {cy : Nat → ClassId} {A : Nat → Prop} {H0 : Heap} {r : Int32} {g : sG} {f : sF} (Fx : CallFix p m c cX10_isGrip 7 s args (Cond.code yX10_isGrip cX10_isGrip 7 (some .boolean) :: wU) RX10) (hret : mRz p l e rm_M_isGrip s m args below meth c Q D (mT cy) (mW ad cy) A H0 cX10_isGrip (r, g, f))  (n : Nat) (z : Int32 × Int32 × Int32 × Int32 × Int32) (hz : itr (fun K z => p_M_isGrip_L6 K z.1 z.2.1 z.2.2.1 z.2.2.2.1 z.2.2.2.2 g f) n z = some r) : ∀ (ls : Array Slot) (H : Heap) (locs : List Loc), lv_has ls 7 [(0, .ref (ad 0)), (1, .int z.1), (2, .int z.2.1), (3, .int z.2.2.1), (4, .int z.2.2.2.1), (5, .int z.2.2.2.2)] → wH D (mT cy) (mW ad cy) A H0 s g f H locs → W p l e rm_M_isGrip s m args below meth c H locs 0 0 Q (F0 m 6 ls []) :=
  itr_all (B := fun K z => p_M_isGrip_L6 K z.1 z.2.1 z.2.2.1 z.2.2.2.1 z.2.2.2.2 g f) (r := r) (fun z => ∀ (ls : Array Slot) (H : Heap) (locs : List Loc), lv_has ls 7 [(0, .ref (ad 0)), (1, .int z.1), (2, .int z.2.1), (3, .int z.2.2.1), (4, .int z.2.2.2.1), (5, .int z.2.2.2.2)] → wH D (mT cy) (mW ad cy) A H0 s g f H locs → W p l e rm_M_isGrip s m args below meth c H locs 0 0 Q (F0 m 6 ls [])) (fun K hK z h => s_M_isGrip_L6 (K6 := K) Fx hret hK z.1 z.2.1 z.2.2.1 z.2.2.2.1 z.2.2.2.2 h) n z hz
noncomputable def p_M_isGrip (a1 : Int32) (a2 : Int32) (a3 : Int32) (g : sG) (f : sF) : Option (Int32) := itr (fun K z => p_M_isGrip_L6 K z.1 z.2.1 z.2.2.1 z.2.2.2.1 z.2.2.2.2 g f) FUEL (a1, a2, a3, (1 : Int32), (0 : Int32))
set_option maxRecDepth 100000 in
set_option maxHeartbeats 4000000 in
theorem k_M_isGrip {l : Launch} {D : va_G} {ad : Nat → Nat} {cy : Nat → ClassId} {a1 : Int32} {a2 : Int32} {a3 : Int32} {r : Int32} {g : sG} {f : sF} (hf : p_M_isGrip a1 a2 a3 g f = some r) : mMi l yX10_isGrip (Cond.code yX10_isGrip cX10_isGrip 7 (some .boolean) :: wU) rm_M_isGrip D (mT cy) (mW ad cy) [.ref (ad 0), .int a1, .int a2, .int a3] g f (r, g, f) := by
  refine mk_z (by decide) rfl (Nat.le_of_ble_eq_true rfl) ?_
  intro p e s m below meth c Q A H0 Fx hret ls H locs hl hC
  replace hl : lv_has ls 7 [(0, .ref (ad 0)), (1, .int a1), (2, .int a2), (3, .int a3)] := hl
  unfold p_M_isGrip at hf
  refine lv_iconst (v := (1 : Int32)) Fx.1 Fx.2.1 dX10_isGrip_0 (by decide) ?_
  refine lv_istore (lv' := [(4, .int (1 : Int32)), (0, .ref (ad 0)), (1, .int a1), (2, .int a2), (3, .int a3)]) Fx.1 Fx.2.1 dX10_isGrip_1 hl (by decide) rfl (fun ls hl => ?_)
  refine lv_iconst (v := (0 : Int32)) Fx.1 Fx.2.1 dX10_isGrip_3 (by decide) ?_
  refine lv_istore (lv' := [(5, .int (0 : Int32)), (4, .int (1 : Int32)), (0, .ref (ad 0)), (1, .int a1), (2, .int a2), (3, .int a3)]) Fx.1 Fx.2.1 dX10_isGrip_4 hl (by decide) rfl (fun ls hl => ?_)
  exact t_M_isGrip_L6 Fx hret _ _ hf _ _ _ (lv_sub hl [2, 3, 4, 5, 1, 0] rfl) hC
/-! FretHandsModel.costOf(III)I -/
abbrev rm_M_costOf : Room := { frames := 0, cells := 0, slots := 0, locals := 0 }
theorem hd_M_costOf : yX10_costOf.cls = RX10 ∧ yX10_costOf.cls ≠ "java/lang/invoke/MethodHandle" ∧ yX10_costOf.cls ≠ "java/lang/invoke/VarHandle" ∧ (parseMethodDescriptor yX10_costOf.desc).map (fun d => d.parameters.length) = some 3 := by decide +kernel
noncomputable def p_M_costOf_L6 (K6 : (Int32 × Int32 × Int32 × Int32 × Int32) → Option (Int32)) (x1 : Int32) (x2 : Int32) (x3 : Int32) (x4 : Int32) (x5 : Int32) (g : sG) (f : sF) : Option (Int32) := (if x1 < 0 ∨ 40 ≤ x1.toNatClampNeg then none else (if (f 2 x1.toNatClampNeg) ≤ x5 then some x4 else (if (((4 : Int32) * x2) + x5) < 0 ∨ 3364 ≤ (((4 : Int32) * x2) + x5).toNatClampNeg then none else lt_ (f 11 (((4 : Int32) * x2) + x5).toNatClampNeg) (fun v3 => (if v3 = (g 2) then lt_ (x4 + (f 1 (3 : Int32).toNatClampNeg)) (fun v8 => lt_ (x5 + (1 : Int32)) (fun v9 => K6 (x1, x2, x3, v8, v9))) else (if v3 = (x3 + (3 : Int32)) then lt_ (x4 + (((f 1 (1 : Int32).toNatClampNeg) * (v3 - (g 2))) + (f 1 (2 : Int32).toNatClampNeg))) (fun v6 => lt_ (x5 + (1 : Int32)) (fun v7 => K6 (x1, x2, x3, v6, v7))) else lt_ (x4 + (((f 1 (1 : Int32).toNatClampNeg) * (v3 - (g 2))) + (0 : Int32))) (fun v4 => lt_ (x5 + (1 : Int32)) (fun v5 => K6 (x1, x2, x3, v4, v5)))))))))
set_option maxRecDepth 100000 in
set_option maxHeartbeats 4000000 in
theorem s_M_costOf_L6 {K6 : (Int32 × Int32 × Int32 × Int32 × Int32) → Option (Int32)} {p : Program} {l : Launch} {e : Env} {s : State} {m : MethodId} {args : Array Value} {below : List Frame} {meth : Method} {c : Code} {Q : State → Prop} {D : va_G} {ad : Nat → Nat} {cy : Nat → ClassId} {A : Nat → Prop} {H0 : Heap} {r : Int32} {g : sG} {f : sF} (Fx : CallFix p m c cX10_costOf 7 s args (Cond.code yX10_costOf cX10_costOf 7 (some .int) :: wU) RX10) (hret : mRi p l e rm_M_costOf s m args below meth c Q D (mT cy) (mW ad cy) A H0 cX10_costOf (r, g, f)) (hK6 : ∀ (z : Int32 × Int32 × Int32 × Int32 × Int32), K6 z = some r → ∀ (ls : Array Slot) (H : Heap) (locs : List Loc), lv_has ls 7 [(0, .ref (ad 0)), (1, .int z.1), (2, .int z.2.1), (3, .int z.2.2.1), (4, .int z.2.2.2.1), (5, .int z.2.2.2.2)] → wH D (mT cy) (mW ad cy) A H0 s g f H locs → W p l e rm_M_costOf s m args below meth c H locs 0 0 Q (F0 m 6 ls [])) (x1 : Int32) (x2 : Int32) (x3 : Int32) (x4 : Int32) (x5 : Int32) (hf : p_M_costOf_L6 K6 x1 x2 x3 x4 x5 g f = some r) : ∀ (ls : Array Slot) (H : Heap) (locs : List Loc), lv_has ls 7 [(0, .ref (ad 0)), (1, .int x1), (2, .int x2), (3, .int x3), (4, .int x4), (5, .int x5)] → wH D (mT cy) (mW ad cy) A H0 s g f H locs → W p l e rm_M_costOf s m args below meth c H locs 0 0 Q (F0 m 6 ls []) := by
  intro ls H locs hl hC
  unfold p_M_costOf_L6 at hf
  refine lv_iload Fx.1 Fx.2.1 dX10_costOf_6 (lv_at hl 5 rfl) ?_
  refine lv_aload_n Fx.1 Fx.2.1 dX10_costOf_8 rfl (lv_at hl 0 rfl) ?_
  refine gg_M_pitchMany Fx hC wd_596 dX10_costOf_9 ?_
  refine lv_iload_n Fx.1 Fx.2.1 dX10_costOf_12 rfl (lv_at hl 1 rfl) ?_
  obtain ⟨hi1, hf⟩ := gd_e hf
  refine ld_M_pitchMany Fx hC hi1 dX10_costOf_13 ?_
  refine lv_icmp_ge (tgt := 92) Fx.1 Fx.2.1 dX10_costOf_14 (by decide) (fun hc => ?_) (fun hc => ?_)
  · replace hf := ift hc hf
    refine lv_iload Fx.1 Fx.2.1 dX10_costOf_92 (lv_at hl 4 rfl) ?_
    obtain rfl := Option.some.inj hf
    exact hret _ _ _ _ dX10_costOf_94 hC
  · replace hf := iff_ hc hf
    refine lv_aload_n Fx.1 Fx.2.1 dX10_costOf_17 rfl (lv_at hl 0 rfl) ?_
    refine gg_M_wayFrets Fx hC wd_609 dX10_costOf_18 ?_
    refine lv_iconst (v := (4 : Int32)) Fx.1 Fx.2.1 dX10_costOf_21 (by decide) ?_
    refine lv_iload_n Fx.1 Fx.2.1 dX10_costOf_22 rfl (lv_at hl 2 rfl) ?_
    refine lv_imul Fx.1 Fx.2.1 dX10_costOf_23 ?_
    refine lv_iload Fx.1 Fx.2.1 dX10_costOf_24 (lv_at hl 5 rfl) ?_
    refine lv_iadd Fx.1 Fx.2.1 dX10_costOf_26 ?_
    obtain ⟨hi2, hf⟩ := gd_e hf
    refine ld_M_wayFrets Fx hC hi2 dX10_costOf_27 ?_
    obtain ⟨v3, ev3, hf⟩ := lt_e hf
    refine tpi ev3 ?_
    refine lv_istore (lv' := [(6, .int v3), (0, .ref (ad 0)), (1, .int x1), (2, .int x2), (3, .int x3), (4, .int x4), (5, .int x5)]) Fx.1 Fx.2.1 dX10_costOf_28 hl (by decide) rfl (fun ls hl => ?_)
    refine lv_iload Fx.1 Fx.2.1 dX10_costOf_30 (lv_at hl 5 rfl) ?_
    refine lv_iload Fx.1 Fx.2.1 dX10_costOf_32 (lv_at hl 0 rfl) ?_
    refine lv_aload_n Fx.1 Fx.2.1 dX10_costOf_34 rfl (lv_at hl 1 rfl) ?_
    refine gg_M_capo Fx hC wd_593 dX10_costOf_35 ?_
    refine lv_icmp_ne (tgt := 50) Fx.1 Fx.2.1 dX10_costOf_38 (by decide) (fun hc => ?_) (fun hc => ?_)
    · replace hf := iff_ hc hf
      refine lv_aload_n Fx.1 Fx.2.1 dX10_costOf_50 rfl (lv_at hl 1 rfl) ?_
      refine gg_M_weights Fx hC wd_594 dX10_costOf_51 ?_
      refine lv_iconst (v := (1 : Int32)) Fx.1 Fx.2.1 dX10_costOf_54 (by decide) ?_
      refine ld_M_weights Fx hC (by decide) dX10_costOf_55 ?_
      refine lv_iload Fx.1 Fx.2.1 dX10_costOf_56 (lv_at hl 0 rfl) ?_
      refine lv_aload_n Fx.1 Fx.2.1 dX10_costOf_58 rfl (lv_at hl 1 rfl) ?_
      refine gg_M_capo Fx hC wd_593 dX10_costOf_59 ?_
      refine lv_isub Fx.1 Fx.2.1 dX10_costOf_62 ?_
      refine lv_imul Fx.1 Fx.2.1 dX10_costOf_63 ?_
      refine lv_iload Fx.1 Fx.2.1 dX10_costOf_64 (lv_at hl 0 rfl) ?_
      refine lv_iload_n Fx.1 Fx.2.1 dX10_costOf_66 rfl (lv_at hl 4 rfl) ?_
      refine lv_iconst (v := (3 : Int32)) Fx.1 Fx.2.1 dX10_costOf_67 (by decide) ?_
      refine lv_iadd Fx.1 Fx.2.1 dX10_costOf_68 ?_
      refine lv_icmp_ne (tgt := 81) Fx.1 Fx.2.1 dX10_costOf_69 (by decide) (fun hc => ?_) (fun hc => ?_)
      · replace hf := iff_ hc hf
        refine lv_iconst (v := (0 : Int32)) Fx.1 Fx.2.1 dX10_costOf_81 (by decide) ?_
        refine lv_iadd Fx.1 Fx.2.1 dX10_costOf_82 ?_
        refine lv_iadd Fx.1 Fx.2.1 dX10_costOf_83 ?_
        obtain ⟨v4, ev4, hf⟩ := lt_e hf
        refine tpi ev4 ?_
        refine lv_istore (lv' := [(4, .int v4), (6, .int v3), (0, .ref (ad 0)), (1, .int x1), (2, .int x2), (3, .int x3), (5, .int x5)]) Fx.1 Fx.2.1 dX10_costOf_84 hl (by decide) rfl (fun ls hl => ?_)
        obtain ⟨v5, ev5, hf⟩ := lt_e hf
        refine lv_iinc (v := v5) (lv' := [(5, .int v5), (4, .int v4), (6, .int v3), (0, .ref (ad 0)), (1, .int x1), (2, .int x2), (3, .int x3)]) Fx.1 Fx.2.1 dX10_costOf_86 hl (k := 6) rfl ev5.symm (by decide) rfl (fun ls hl => ?_)
        refine lv_goto (tgt := 6) Fx.1 Fx.2.1 dX10_costOf_89 (by decide) ?_
        exact hK6 _ hf _ _ _ (lv_sub hl [3, 4, 5, 6, 1, 0] rfl) hC
      · replace hf := ift hc hf
        refine lv_aload_n Fx.1 Fx.2.1 dX10_costOf_72 rfl (lv_at hl 1 rfl) ?_
        refine gg_M_weights Fx hC wd_594 dX10_costOf_73 ?_
        refine lv_iconst (v := (2 : Int32)) Fx.1 Fx.2.1 dX10_costOf_76 (by decide) ?_
        refine ld_M_weights Fx hC (by decide) dX10_costOf_77 ?_
        refine lv_goto (tgt := 82) Fx.1 Fx.2.1 dX10_costOf_78 (by decide) ?_
        refine lv_iadd Fx.1 Fx.2.1 dX10_costOf_82 ?_
        refine lv_iadd Fx.1 Fx.2.1 dX10_costOf_83 ?_
        obtain ⟨v6, ev6, hf⟩ := lt_e hf
        refine tpi ev6 ?_
        refine lv_istore (lv' := [(4, .int v6), (6, .int v3), (0, .ref (ad 0)), (1, .int x1), (2, .int x2), (3, .int x3), (5, .int x5)]) Fx.1 Fx.2.1 dX10_costOf_84 hl (by decide) rfl (fun ls hl => ?_)
        obtain ⟨v7, ev7, hf⟩ := lt_e hf
        refine lv_iinc (v := v7) (lv' := [(5, .int v7), (4, .int v6), (6, .int v3), (0, .ref (ad 0)), (1, .int x1), (2, .int x2), (3, .int x3)]) Fx.1 Fx.2.1 dX10_costOf_86 hl (k := 6) rfl ev7.symm (by decide) rfl (fun ls hl => ?_)
        refine lv_goto (tgt := 6) Fx.1 Fx.2.1 dX10_costOf_89 (by decide) ?_
        exact hK6 _ hf _ _ _ (lv_sub hl [3, 4, 5, 6, 1, 0] rfl) hC
    · replace hf := ift hc hf
      refine lv_aload_n Fx.1 Fx.2.1 dX10_costOf_41 rfl (lv_at hl 1 rfl) ?_
      refine gg_M_weights Fx hC wd_594 dX10_costOf_42 ?_
      refine lv_iconst (v := (3 : Int32)) Fx.1 Fx.2.1 dX10_costOf_45 (by decide) ?_
      refine ld_M_weights Fx hC (by decide) dX10_costOf_46 ?_
      refine lv_goto (tgt := 83) Fx.1 Fx.2.1 dX10_costOf_47 (by decide) ?_
      refine lv_iadd Fx.1 Fx.2.1 dX10_costOf_83 ?_
      obtain ⟨v8, ev8, hf⟩ := lt_e hf
      refine tpi ev8 ?_
      refine lv_istore (lv' := [(4, .int v8), (6, .int v3), (0, .ref (ad 0)), (1, .int x1), (2, .int x2), (3, .int x3), (5, .int x5)]) Fx.1 Fx.2.1 dX10_costOf_84 hl (by decide) rfl (fun ls hl => ?_)
      obtain ⟨v9, ev9, hf⟩ := lt_e hf
      refine lv_iinc (v := v9) (lv' := [(5, .int v9), (4, .int v8), (6, .int v3), (0, .ref (ad 0)), (1, .int x1), (2, .int x2), (3, .int x3)]) Fx.1 Fx.2.1 dX10_costOf_86 hl (k := 6) rfl ev9.symm (by decide) rfl (fun ls hl => ?_)
      refine lv_goto (tgt := 6) Fx.1 Fx.2.1 dX10_costOf_89 (by decide) ?_
      exact hK6 _ hf _ _ _ (lv_sub hl [3, 4, 5, 6, 1, 0] rfl) hC
set_option maxRecDepth 100000 in
set_option maxHeartbeats 4000000 in
theorem t_M_costOf_L6 {p : Program} {l : Launch} {e : Env} {s : State} {m : MethodId} {args : Array Value} {below : List Frame} {meth : Method} {c : Code} {Q : State → Prop} {D : va_G} {ad : Nat → Nat} {cy : Nat → ClassId} {A : Nat → Prop} {H0 : Heap} {r : Int32} {g : sG} {f : sF} (Fx : CallFix p m c cX10_costOf 7 s args (Cond.code yX10_costOf cX10_costOf 7 (some .int) :: wU) RX10) (hret : mRi p l e rm_M_costOf s m args below meth c Q D (mT cy) (mW ad cy) A H0 cX10_costOf (r, g, f))  (n : Nat) (z : Int32 × Int32 × Int32 × Int32 × Int32) (hz : itr (fun K z => p_M_costOf_L6 K z.1 z.2.1 z.2.2.1 z.2.2.2.1 z.2.2.2.2 g f) n z = some r) : ∀ (ls : Array Slot) (H : Heap) (locs : List Loc), lv_has ls 7 [(0, .ref (ad 0)), (1, .int z.1), (2, .int z.2.1), (3, .int z.2.2.1), (4, .int z.2.2.2.1), (5, .int z.2.2.2.2)] → wH D (mT cy) (mW ad cy) A H0 s g f H locs → W p l e rm_M_costOf s m args below meth c H locs 0 0 Q (F0 m 6 ls []) :=
  itr_all (B := fun K z => p_M_costOf_L6 K z.1 z.2.1 z.2.2.1 z.2.2.2.1 z.2.2.2.2 g f) (r := r) (fun z => ∀ (ls : Array Slot) (H : Heap) (locs : List Loc), lv_has ls 7 [(0, .ref (ad 0)), (1, .int z.1), (2, .int z.2.1), (3, .int z.2.2.1), (4, .int z.2.2.2.1), (5, .int z.2.2.2.2)] → wH D (mT cy) (mW ad cy) A H0 s g f H locs → W p l e rm_M_costOf s m args below meth c H locs 0 0 Q (F0 m 6 ls [])) (fun K hK z h => s_M_costOf_L6 (K6 := K) Fx hret hK z.1 z.2.1 z.2.2.1 z.2.2.2.1 z.2.2.2.2 h) n z hz
noncomputable def p_M_costOf (a1 : Int32) (a2 : Int32) (a3 : Int32) (g : sG) (f : sF) : Option (Int32) := itr (fun K z => p_M_costOf_L6 K z.1 z.2.1 z.2.2.1 z.2.2.2.1 z.2.2.2.2 g f) FUEL (a1, a2, a3, (0 : Int32), (0 : Int32))
set_option maxRecDepth 100000 in
set_option maxHeartbeats 4000000 in
theorem k_M_costOf {l : Launch} {D : va_G} {ad : Nat → Nat} {cy : Nat → ClassId} {a1 : Int32} {a2 : Int32} {a3 : Int32} {r : Int32} {g : sG} {f : sF} (hf : p_M_costOf a1 a2 a3 g f = some r) : mMi l yX10_costOf (Cond.code yX10_costOf cX10_costOf 7 (some .int) :: wU) rm_M_costOf D (mT cy) (mW ad cy) [.ref (ad 0), .int a1, .int a2, .int a3] g f (r, g, f) := by
  refine mk_i (by decide) rfl (Nat.le_of_ble_eq_true rfl) ?_
  intro p e s m below meth c Q A H0 Fx hret ls H locs hl hC
  replace hl : lv_has ls 7 [(0, .ref (ad 0)), (1, .int a1), (2, .int a2), (3, .int a3)] := hl
  unfold p_M_costOf at hf
  refine lv_iconst (v := (0 : Int32)) Fx.1 Fx.2.1 dX10_costOf_0 (by decide) ?_
  refine lv_istore (lv' := [(4, .int (0 : Int32)), (0, .ref (ad 0)), (1, .int a1), (2, .int a2), (3, .int a3)]) Fx.1 Fx.2.1 dX10_costOf_1 hl (by decide) rfl (fun ls hl => ?_)
  refine lv_iconst (v := (0 : Int32)) Fx.1 Fx.2.1 dX10_costOf_3 (by decide) ?_
  refine lv_istore (lv' := [(5, .int (0 : Int32)), (4, .int (0 : Int32)), (0, .ref (ad 0)), (1, .int a1), (2, .int a2), (3, .int a3)]) Fx.1 Fx.2.1 dX10_costOf_4 hl (by decide) rfl (fun ls hl => ?_)
  exact t_M_costOf_L6 Fx hret _ _ hf _ _ _ (lv_sub hl [2, 3, 4, 5, 1, 0] rfl) hC
/-! FretHandsModel.grips(I)I -/
abbrev rm_M_grips : Room := { frames := 2, cells := 0, slots := 0, locals := 55 }
theorem hd_M_grips : yX10_grips.cls = RX10 ∧ yX10_grips.cls ≠ "java/lang/invoke/MethodHandle" ∧ yX10_grips.cls ≠ "java/lang/invoke/VarHandle" ∧ (parseMethodDescriptor yX10_grips.desc).map (fun d => d.parameters.length) = some 1 := by decide +kernel
noncomputable def p_M_grips_L36 (K25 : (Int32 × Int32 × Int32 × sG × sF) → Option (Int32 × sG × sF)) (K36 : (Int32 × Int32 × Int32 × Int32 × sG × sF) → Option (Int32 × sG × sF)) (x1 : Int32) (x2 : Int32) (x3 : Int32) (x4 : Int32) (g : sG) (f : sF) : Option (Int32 × sG × sF) := (if (g 7) ≤ x4 then lt_ (x3 + (1 : Int32)) (fun v1 => K25 (x1, x2, v1, g, f)) else Option.bind (p_M_isGrip x1 x4 x3 g f) (fun u2 => (if u2 = 0 then lt_ (x2 + (0 : Int32)) (fun v3 => lt_ (x4 + (1 : Int32)) (fun v4 => K36 (x1, v3, x3, v4, g, f))) else lt_ (x2 + (1 : Int32)) (fun v5 => lt_ (x4 + (1 : Int32)) (fun v6 => K36 (x1, v5, x3, v6, g, f))))))
set_option maxRecDepth 100000 in
set_option maxHeartbeats 4000000 in
theorem s_M_grips_L36 {K25 : (Int32 × Int32 × Int32 × sG × sF) → Option (Int32 × sG × sF)} {K36 : (Int32 × Int32 × Int32 × Int32 × sG × sF) → Option (Int32 × sG × sF)} {p : Program} {l : Launch} {e : Env} {s : State} {m : MethodId} {args : Array Value} {below : List Frame} {meth : Method} {c : Code} {Q : State → Prop} {D : va_G} {ad : Nat → Nat} {cy : Nat → ClassId} {A : Nat → Prop} {H0 : Heap} {u : Int32 × sG × sF} (Fx : CallFix p m c cX10_grips 5 s args (Cond.code yX10_grips cX10_grips 5 (some .int) :: wU) RX10) (hret : mRi p l e rm_M_grips s m args below meth c Q D (mT cy) (mW ad cy) A H0 cX10_grips u) (hK25 : ∀ (z : Int32 × Int32 × Int32 × sG × sF), K25 z = some u → ∀ (ls : Array Slot) (H : Heap) (locs : List Loc), lv_has ls 5 [(0, .ref (ad 0)), (1, .int z.1), (2, .int z.2.1), (3, .int z.2.2.1)] → wH D (mT cy) (mW ad cy) A H0 s z.2.2.2.1 z.2.2.2.2 H locs → W p l e rm_M_grips s m args below meth c H locs 0 0 Q (F0 m 25 ls [])) (hK36 : ∀ (z : Int32 × Int32 × Int32 × Int32 × sG × sF), K36 z = some u → ∀ (ls : Array Slot) (H : Heap) (locs : List Loc), lv_has ls 5 [(0, .ref (ad 0)), (1, .int z.1), (2, .int z.2.1), (3, .int z.2.2.1), (4, .int z.2.2.2.1)] → wH D (mT cy) (mW ad cy) A H0 s z.2.2.2.2.1 z.2.2.2.2.2 H locs → W p l e rm_M_grips s m args below meth c H locs 0 0 Q (F0 m 36 ls [])) (x1 : Int32) (x2 : Int32) (x3 : Int32) (x4 : Int32) (g : sG) (f : sF) (hf : p_M_grips_L36 K25 K36 x1 x2 x3 x4 g f = some u) : ∀ (ls : Array Slot) (H : Heap) (locs : List Loc), lv_has ls 5 [(0, .ref (ad 0)), (1, .int x1), (2, .int x2), (3, .int x3), (4, .int x4)] → wH D (mT cy) (mW ad cy) A H0 s g f H locs → W p l e rm_M_grips s m args below meth c H locs 0 0 Q (F0 m 36 ls []) := by
  intro ls H locs hl hC
  unfold p_M_grips_L36 at hf
  refine lv_iload Fx.1 Fx.2.1 dX10_grips_36 (lv_at hl 4 rfl) ?_
  refine lv_aload_n Fx.1 Fx.2.1 dX10_grips_38 rfl (lv_at hl 0 rfl) ?_
  refine gg_M_ways Fx hC wd_607 dX10_grips_39 ?_
  refine lv_icmp_ge (tgt := 70) Fx.1 Fx.2.1 dX10_grips_42 (by decide) (fun hc => ?_) (fun hc => ?_)
  · replace hf := ift hc hf
    obtain ⟨v1, ev1, hf⟩ := lt_e hf
    refine lv_iinc (v := v1) (lv' := [(3, .int v1), (0, .ref (ad 0)), (1, .int x1), (2, .int x2), (4, .int x4)]) Fx.1 Fx.2.1 dX10_grips_70 hl (k := 3) rfl ev1.symm (by decide) rfl (fun ls hl => ?_)
    refine lv_goto (tgt := 25) Fx.1 Fx.2.1 dX10_grips_73 (by decide) ?_
    exact hK25 _ hf _ _ _ (lv_sub hl [1, 2, 3, 0] rfl) hC
  · replace hf := iff_ hc hf
    refine lv_iload_n Fx.1 Fx.2.1 dX10_grips_45 rfl (lv_at hl 2 rfl) ?_
    refine lv_aload_n Fx.1 Fx.2.1 dX10_grips_46 rfl (lv_at hl 0 rfl) ?_
    refine lv_iload_n Fx.1 Fx.2.1 dX10_grips_47 rfl (lv_at hl 1 rfl) ?_
    refine lv_iload Fx.1 Fx.2.1 dX10_grips_48 (lv_at hl 4 rfl) ?_
    refine lv_iload_n Fx.1 Fx.2.1 dX10_grips_50 rfl (lv_at hl 3 rfl) ?_
    obtain ⟨u2, hu2, hf⟩ := bd_e hf
    refine ca_i (As := [.int x1, .int x4, .int x3]) (rest := [.int x2]) Fx hC (k_M_isGrip hu2) (cVU 3 Fx.2.2.2.2 wd_731 wd_732 wd_887 wd_10 wd_733 rfl rfl hd_M_isGrip ⟨Nat.le_of_ble_eq_true rfl, Nat.le_of_ble_eq_true rfl⟩) 0 rfl rfl rfl hl.1 rfl (Nat.le_of_ble_eq_true rfl) dX10_grips_51 (fun H locs hC => ?_)
    refine lv_if_eq (tgt := 61) Fx.1 Fx.2.1 dX10_grips_54 (by decide) (fun hc => ?_) (fun hc => ?_)
    · replace hf := ift hc hf
      refine lv_iconst (v := (0 : Int32)) Fx.1 Fx.2.1 dX10_grips_61 (by decide) ?_
      refine lv_iadd Fx.1 Fx.2.1 dX10_grips_62 ?_
      obtain ⟨v3, ev3, hf⟩ := lt_e hf
      refine tpi ev3 ?_
      refine lv_istore_n (lv' := [(2, .int v3), (0, .ref (ad 0)), (1, .int x1), (3, .int x3), (4, .int x4)]) Fx.1 Fx.2.1 dX10_grips_63 rfl hl (by decide) rfl (fun ls hl => ?_)
      obtain ⟨v4, ev4, hf⟩ := lt_e hf
      refine lv_iinc (v := v4) (lv' := [(4, .int v4), (2, .int v3), (0, .ref (ad 0)), (1, .int x1), (3, .int x3)]) Fx.1 Fx.2.1 dX10_grips_64 hl (k := 4) rfl ev4.symm (by decide) rfl (fun ls hl => ?_)
      refine lv_goto (tgt := 36) Fx.1 Fx.2.1 dX10_grips_67 (by decide) ?_
      exact hK36 _ hf _ _ _ (lv_sub hl [2, 3, 1, 4, 0] rfl) hC
    · replace hf := iff_ hc hf
      refine lv_iconst (v := (1 : Int32)) Fx.1 Fx.2.1 dX10_grips_57 (by decide) ?_
      refine lv_goto (tgt := 62) Fx.1 Fx.2.1 dX10_grips_58 (by decide) ?_
      refine lv_iadd Fx.1 Fx.2.1 dX10_grips_62 ?_
      obtain ⟨v5, ev5, hf⟩ := lt_e hf
      refine tpi ev5 ?_
      refine lv_istore_n (lv' := [(2, .int v5), (0, .ref (ad 0)), (1, .int x1), (3, .int x3), (4, .int x4)]) Fx.1 Fx.2.1 dX10_grips_63 rfl hl (by decide) rfl (fun ls hl => ?_)
      obtain ⟨v6, ev6, hf⟩ := lt_e hf
      refine lv_iinc (v := v6) (lv' := [(4, .int v6), (2, .int v5), (0, .ref (ad 0)), (1, .int x1), (3, .int x3)]) Fx.1 Fx.2.1 dX10_grips_64 hl (k := 4) rfl ev6.symm (by decide) rfl (fun ls hl => ?_)
      refine lv_goto (tgt := 36) Fx.1 Fx.2.1 dX10_grips_67 (by decide) ?_
      exact hK36 _ hf _ _ _ (lv_sub hl [2, 3, 1, 4, 0] rfl) hC
set_option maxRecDepth 100000 in
set_option maxHeartbeats 4000000 in
theorem t_M_grips_L36 {K25 : (Int32 × Int32 × Int32 × sG × sF) → Option (Int32 × sG × sF)} {p : Program} {l : Launch} {e : Env} {s : State} {m : MethodId} {args : Array Value} {below : List Frame} {meth : Method} {c : Code} {Q : State → Prop} {D : va_G} {ad : Nat → Nat} {cy : Nat → ClassId} {A : Nat → Prop} {H0 : Heap} {u : Int32 × sG × sF} (Fx : CallFix p m c cX10_grips 5 s args (Cond.code yX10_grips cX10_grips 5 (some .int) :: wU) RX10) (hret : mRi p l e rm_M_grips s m args below meth c Q D (mT cy) (mW ad cy) A H0 cX10_grips u) (hK25 : ∀ (z : Int32 × Int32 × Int32 × sG × sF), K25 z = some u → ∀ (ls : Array Slot) (H : Heap) (locs : List Loc), lv_has ls 5 [(0, .ref (ad 0)), (1, .int z.1), (2, .int z.2.1), (3, .int z.2.2.1)] → wH D (mT cy) (mW ad cy) A H0 s z.2.2.2.1 z.2.2.2.2 H locs → W p l e rm_M_grips s m args below meth c H locs 0 0 Q (F0 m 25 ls [])) (n : Nat) (z : Int32 × Int32 × Int32 × Int32 × sG × sF) (hz : itr (fun K z => p_M_grips_L36 K25 K z.1 z.2.1 z.2.2.1 z.2.2.2.1 z.2.2.2.2.1 z.2.2.2.2.2) n z = some u) : ∀ (ls : Array Slot) (H : Heap) (locs : List Loc), lv_has ls 5 [(0, .ref (ad 0)), (1, .int z.1), (2, .int z.2.1), (3, .int z.2.2.1), (4, .int z.2.2.2.1)] → wH D (mT cy) (mW ad cy) A H0 s z.2.2.2.2.1 z.2.2.2.2.2 H locs → W p l e rm_M_grips s m args below meth c H locs 0 0 Q (F0 m 36 ls []) :=
  itr_all (B := fun K z => p_M_grips_L36 K25 K z.1 z.2.1 z.2.2.1 z.2.2.2.1 z.2.2.2.2.1 z.2.2.2.2.2) (r := u) (fun z => ∀ (ls : Array Slot) (H : Heap) (locs : List Loc), lv_has ls 5 [(0, .ref (ad 0)), (1, .int z.1), (2, .int z.2.1), (3, .int z.2.2.1), (4, .int z.2.2.2.1)] → wH D (mT cy) (mW ad cy) A H0 s z.2.2.2.2.1 z.2.2.2.2.2 H locs → W p l e rm_M_grips s m args below meth c H locs 0 0 Q (F0 m 36 ls [])) (fun K hK z h => s_M_grips_L36 (K36 := K) Fx hret hK25 hK z.1 z.2.1 z.2.2.1 z.2.2.2.1 z.2.2.2.2.1 z.2.2.2.2.2 h) n z hz
noncomputable def p_M_grips_L25 (K25 : (Int32 × Int32 × Int32 × sG × sF) → Option (Int32 × sG × sF)) (x1 : Int32) (x2 : Int32) (x3 : Int32) (g : sG) (f : sF) : Option (Int32 × sG × sF) := (if (g 1) < x3 then some (x2, g, f) else itr (fun K z => p_M_grips_L36 K25 K z.1 z.2.1 z.2.2.1 z.2.2.2.1 z.2.2.2.2.1 z.2.2.2.2.2) FUEL (x1, x2, x3, (0 : Int32), g, f))
set_option maxRecDepth 100000 in
set_option maxHeartbeats 4000000 in
theorem s_M_grips_L25 {K25 : (Int32 × Int32 × Int32 × sG × sF) → Option (Int32 × sG × sF)} {p : Program} {l : Launch} {e : Env} {s : State} {m : MethodId} {args : Array Value} {below : List Frame} {meth : Method} {c : Code} {Q : State → Prop} {D : va_G} {ad : Nat → Nat} {cy : Nat → ClassId} {A : Nat → Prop} {H0 : Heap} {u : Int32 × sG × sF} (Fx : CallFix p m c cX10_grips 5 s args (Cond.code yX10_grips cX10_grips 5 (some .int) :: wU) RX10) (hret : mRi p l e rm_M_grips s m args below meth c Q D (mT cy) (mW ad cy) A H0 cX10_grips u) (hK25 : ∀ (z : Int32 × Int32 × Int32 × sG × sF), K25 z = some u → ∀ (ls : Array Slot) (H : Heap) (locs : List Loc), lv_has ls 5 [(0, .ref (ad 0)), (1, .int z.1), (2, .int z.2.1), (3, .int z.2.2.1)] → wH D (mT cy) (mW ad cy) A H0 s z.2.2.2.1 z.2.2.2.2 H locs → W p l e rm_M_grips s m args below meth c H locs 0 0 Q (F0 m 25 ls [])) (x1 : Int32) (x2 : Int32) (x3 : Int32) (g : sG) (f : sF) (hf : p_M_grips_L25 K25 x1 x2 x3 g f = some u) : ∀ (ls : Array Slot) (H : Heap) (locs : List Loc), lv_has ls 5 [(0, .ref (ad 0)), (1, .int x1), (2, .int x2), (3, .int x3)] → wH D (mT cy) (mW ad cy) A H0 s g f H locs → W p l e rm_M_grips s m args below meth c H locs 0 0 Q (F0 m 25 ls []) := by
  intro ls H locs hl hC
  unfold p_M_grips_L25 at hf
  refine lv_iload_n Fx.1 Fx.2.1 dX10_grips_25 rfl (lv_at hl 3 rfl) ?_
  refine lv_aload_n Fx.1 Fx.2.1 dX10_grips_26 rfl (lv_at hl 0 rfl) ?_
  refine gg_M_neck Fx hC wd_592 dX10_grips_27 ?_
  refine lv_icmp_gt (tgt := 76) Fx.1 Fx.2.1 dX10_grips_30 (by decide) (fun hc => ?_) (fun hc => ?_)
  · replace hf := ift hc hf
    refine lv_iload_n Fx.1 Fx.2.1 dX10_grips_76 rfl (lv_at hl 2 rfl) ?_
    obtain rfl := Option.some.inj hf
    exact hret _ _ _ _ dX10_grips_77 hC
  · replace hf := iff_ hc hf
    refine lv_iconst (v := (0 : Int32)) Fx.1 Fx.2.1 dX10_grips_33 (by decide) ?_
    refine lv_istore (lv' := [(4, .int (0 : Int32)), (0, .ref (ad 0)), (1, .int x1), (2, .int x2), (3, .int x3)]) Fx.1 Fx.2.1 dX10_grips_34 hl (by decide) rfl (fun ls hl => ?_)
    exact t_M_grips_L36 Fx hret hK25 _ _ hf _ _ _ (lv_sub hl [1, 2, 3, 4, 0] rfl) hC
set_option maxRecDepth 100000 in
set_option maxHeartbeats 4000000 in
theorem t_M_grips_L25 {p : Program} {l : Launch} {e : Env} {s : State} {m : MethodId} {args : Array Value} {below : List Frame} {meth : Method} {c : Code} {Q : State → Prop} {D : va_G} {ad : Nat → Nat} {cy : Nat → ClassId} {A : Nat → Prop} {H0 : Heap} {u : Int32 × sG × sF} (Fx : CallFix p m c cX10_grips 5 s args (Cond.code yX10_grips cX10_grips 5 (some .int) :: wU) RX10) (hret : mRi p l e rm_M_grips s m args below meth c Q D (mT cy) (mW ad cy) A H0 cX10_grips u)  (n : Nat) (z : Int32 × Int32 × Int32 × sG × sF) (hz : itr (fun K z => p_M_grips_L25 K z.1 z.2.1 z.2.2.1 z.2.2.2.1 z.2.2.2.2) n z = some u) : ∀ (ls : Array Slot) (H : Heap) (locs : List Loc), lv_has ls 5 [(0, .ref (ad 0)), (1, .int z.1), (2, .int z.2.1), (3, .int z.2.2.1)] → wH D (mT cy) (mW ad cy) A H0 s z.2.2.2.1 z.2.2.2.2 H locs → W p l e rm_M_grips s m args below meth c H locs 0 0 Q (F0 m 25 ls []) :=
  itr_all (B := fun K z => p_M_grips_L25 K z.1 z.2.1 z.2.2.1 z.2.2.2.1 z.2.2.2.2) (r := u) (fun z => ∀ (ls : Array Slot) (H : Heap) (locs : List Loc), lv_has ls 5 [(0, .ref (ad 0)), (1, .int z.1), (2, .int z.2.1), (3, .int z.2.2.1)] → wH D (mT cy) (mW ad cy) A H0 s z.2.2.2.1 z.2.2.2.2 H locs → W p l e rm_M_grips s m args below meth c H locs 0 0 Q (F0 m 25 ls [])) (fun K hK z h => s_M_grips_L25 (K25 := K) Fx hret hK z.1 z.2.1 z.2.2.1 z.2.2.2.1 z.2.2.2.2 h) n z hz
noncomputable def p_M_grips (a1 : Int32) (g : sG) (f : sF) : Option (Int32 × sG × sF) := Option.bind (p_M_isEvent a1 g f) (fun u1 => (if u1 = 0 then some ((-3 : Int32), g, f) else Option.bind (p_M_findWays a1 g f) (fun u2 => lt_ ((u2.1 2) + (1 : Int32)) (fun v3 => itr (fun K z => p_M_grips_L25 K z.1 z.2.1 z.2.2.1 z.2.2.2.1 z.2.2.2.2) FUEL (a1, (0 : Int32), v3, u2.1, u2.2)))))
set_option maxRecDepth 100000 in
set_option maxHeartbeats 4000000 in
theorem k_M_grips {l : Launch} {D : va_G} {ad : Nat → Nat} {cy : Nat → ClassId} {a1 : Int32} {u : Int32 × sG × sF} {g : sG} {f : sF} (hf : p_M_grips a1 g f = some u) : mMi l yX10_grips (Cond.code yX10_grips cX10_grips 5 (some .int) :: wU) rm_M_grips D (mT cy) (mW ad cy) [.ref (ad 0), .int a1] g f u := by
  refine mk_i (by decide) rfl (Nat.le_of_ble_eq_true rfl) ?_
  intro p e s m below meth c Q A H0 Fx hret ls H locs hl hC
  replace hl : lv_has ls 5 [(0, .ref (ad 0)), (1, .int a1)] := hl
  unfold p_M_grips at hf
  refine lv_aload_n Fx.1 Fx.2.1 dX10_grips_0 rfl (lv_at hl 0 rfl) ?_
  refine lv_iload_n Fx.1 Fx.2.1 dX10_grips_1 rfl (lv_at hl 1 rfl) ?_
  obtain ⟨u1, hu1, hf⟩ := bd_e hf
  refine ca_i (As := [.int a1]) (rest := []) Fx hC (k_M_isEvent hu1) (cVU 1 Fx.2.2.2.2 wd_695 wd_696 wd_883 wd_10 wd_697 rfl rfl hd_M_isEvent ⟨Nat.le_of_ble_eq_true rfl, Nat.le_of_ble_eq_true rfl⟩) 0 rfl rfl rfl hl.1 rfl (Nat.le_of_ble_eq_true rfl) dX10_grips_2 (fun H locs hC => ?_)
  refine lv_if_ne (tgt := 11) Fx.1 Fx.2.1 dX10_grips_5 (by decide) (fun hc => ?_) (fun hc => ?_)
  · replace hf := iff_ hc hf
    refine lv_aload_n Fx.1 Fx.2.1 dX10_grips_11 rfl (lv_at hl 0 rfl) ?_
    refine lv_iload_n Fx.1 Fx.2.1 dX10_grips_12 rfl (lv_at hl 1 rfl) ?_
    obtain ⟨u2, hu2, hf⟩ := bd_e hf
    refine ca_v (As := [.int a1]) (rest := []) Fx hC (k_M_findWays hu2) (cVU 1 Fx.2.2.2.2 wd_728 wd_729 wd_886 wd_10 wd_730 rfl rfl hd_M_findWays ⟨Nat.le_of_ble_eq_true rfl, Nat.le_of_ble_eq_true rfl⟩) 0 rfl rfl rfl hl.1 rfl (Nat.le_of_ble_eq_true rfl) dX10_grips_13 (fun H locs hC => ?_)
    refine lv_iconst (v := (0 : Int32)) Fx.1 Fx.2.1 dX10_grips_16 (by decide) ?_
    refine lv_istore_n (lv' := [(2, .int (0 : Int32)), (0, .ref (ad 0)), (1, .int a1)]) Fx.1 Fx.2.1 dX10_grips_17 rfl hl (by decide) rfl (fun ls hl => ?_)
    refine lv_aload_n Fx.1 Fx.2.1 dX10_grips_18 rfl (lv_at hl 1 rfl) ?_
    refine gg_M_capo Fx hC wd_593 dX10_grips_19 ?_
    refine lv_iconst (v := (1 : Int32)) Fx.1 Fx.2.1 dX10_grips_22 (by decide) ?_
    refine lv_iadd Fx.1 Fx.2.1 dX10_grips_23 ?_
    obtain ⟨v3, ev3, hf⟩ := lt_e hf
    refine tpi ev3 ?_
    refine lv_istore_n (lv' := [(3, .int v3), (2, .int (0 : Int32)), (0, .ref (ad 0)), (1, .int a1)]) Fx.1 Fx.2.1 dX10_grips_24 rfl hl (by decide) rfl (fun ls hl => ?_)
    exact t_M_grips_L25 Fx hret _ _ hf _ _ _ (lv_sub hl [2, 3, 1, 0] rfl) hC
  · replace hf := ift hc hf
    refine lv_bipush (v := (-3 : Int32)) Fx.1 Fx.2.1 dX10_grips_8 (by decide) ?_
    obtain rfl := Option.some.inj hf
    exact hret _ _ _ _ dX10_grips_10 hC
/-! FretHandsModel.told(IIII)I -/
abbrev rm_M_told_ : Room := { frames := 1, cells := 0, slots := 0, locals := 26 }
theorem hd_M_told_ : yX10_told_.cls = RX10 ∧ yX10_told_.cls ≠ "java/lang/invoke/MethodHandle" ∧ yX10_told_.cls ≠ "java/lang/invoke/VarHandle" ∧ (parseMethodDescriptor yX10_told_.desc).map (fun d => d.parameters.length) = some 4 := by decide +kernel
noncomputable def p_M_told_ (a1 : Int32) (a2 : Int32) (a3 : Int32) (a4 : Int32) (g : sG) (f : sF) : Option (Int32) := (if a4 = 0 then some a3 else (if a4 = (5 : Int32) then Option.bind (p_M_costOf a1 a2 a3 g f) (fun u3 => some u3) else (if a1 < 0 ∨ 40 ≤ a1.toNatClampNeg then none else (if (f 2 a1.toNatClampNeg) < a4 then some (-1 : Int32) else (if ((((4 : Int32) * a2) + a4) - (1 : Int32)) < 0 ∨ 3364 ≤ ((((4 : Int32) * a2) + a4) - (1 : Int32)).toNatClampNeg then none else some (f 10 ((((4 : Int32) * a2) + a4) - (1 : Int32)).toNatClampNeg))))))
set_option maxRecDepth 100000 in
set_option maxHeartbeats 4000000 in
theorem k_M_told_ {l : Launch} {D : va_G} {ad : Nat → Nat} {cy : Nat → ClassId} {a1 : Int32} {a2 : Int32} {a3 : Int32} {a4 : Int32} {r : Int32} {g : sG} {f : sF} (hf : p_M_told_ a1 a2 a3 a4 g f = some r) : mMi l yX10_told_ (Cond.code yX10_told_ cX10_told_ 5 (some .int) :: wU) rm_M_told_ D (mT cy) (mW ad cy) [.ref (ad 0), .int a1, .int a2, .int a3, .int a4] g f (r, g, f) := by
  refine mk_i (by decide) rfl (Nat.le_of_ble_eq_true rfl) ?_
  intro p e s m below meth c Q A H0 Fx hret ls H locs hl hC
  replace hl : lv_has ls 5 [(0, .ref (ad 0)), (1, .int a1), (2, .int a2), (3, .int a3), (4, .int a4)] := hl
  unfold p_M_told_ at hf
  refine lv_iload Fx.1 Fx.2.1 dX10_told__0 (lv_at hl 4 rfl) ?_
  refine lv_if_ne (tgt := 7) Fx.1 Fx.2.1 dX10_told__2 (by decide) (fun hc => ?_) (fun hc => ?_)
  · replace hf := iff_ hc hf
    refine lv_iload Fx.1 Fx.2.1 dX10_told__7 (lv_at hl 4 rfl) ?_
    refine lv_iconst (v := (5 : Int32)) Fx.1 Fx.2.1 dX10_told__9 (by decide) ?_
    refine lv_icmp_ne (tgt := 21) Fx.1 Fx.2.1 dX10_told__10 (by decide) (fun hc => ?_) (fun hc => ?_)
    · replace hf := iff_ hc hf
      refine lv_iload Fx.1 Fx.2.1 dX10_told__21 (lv_at hl 4 rfl) ?_
      refine lv_aload_n Fx.1 Fx.2.1 dX10_told__23 rfl (lv_at hl 0 rfl) ?_
      refine gg_M_pitchMany Fx hC wd_596 dX10_told__24 ?_
      refine lv_iload_n Fx.1 Fx.2.1 dX10_told__27 rfl (lv_at hl 1 rfl) ?_
      obtain ⟨hi1, hf⟩ := gd_e hf
      refine ld_M_pitchMany Fx hC hi1 dX10_told__28 ?_
      refine lv_icmp_gt (tgt := 48) Fx.1 Fx.2.1 dX10_told__29 (by decide) (fun hc => ?_) (fun hc => ?_)
      · replace hf := ift hc hf
        refine lv_iconst (v := (-1 : Int32)) Fx.1 Fx.2.1 dX10_told__48 (by decide) ?_
        obtain rfl := Option.some.inj hf
        exact hret _ _ _ _ dX10_told__49 hC
      · replace hf := iff_ hc hf
        refine lv_aload_n Fx.1 Fx.2.1 dX10_told__32 rfl (lv_at hl 0 rfl) ?_
        refine gg_M_wayStrings Fx hC wd_608 dX10_told__33 ?_
        refine lv_iconst (v := (4 : Int32)) Fx.1 Fx.2.1 dX10_told__36 (by decide) ?_
        refine lv_iload_n Fx.1 Fx.2.1 dX10_told__37 rfl (lv_at hl 2 rfl) ?_
        refine lv_imul Fx.1 Fx.2.1 dX10_told__38 ?_
        refine lv_iload Fx.1 Fx.2.1 dX10_told__39 (lv_at hl 4 rfl) ?_
        refine lv_iadd Fx.1 Fx.2.1 dX10_told__41 ?_
        refine lv_iconst (v := (1 : Int32)) Fx.1 Fx.2.1 dX10_told__42 (by decide) ?_
        refine lv_isub Fx.1 Fx.2.1 dX10_told__43 ?_
        obtain ⟨hi2, hf⟩ := gd_e hf
        refine ld_M_wayStrings Fx hC hi2 dX10_told__44 ?_
        refine lv_goto (tgt := 49) Fx.1 Fx.2.1 dX10_told__45 (by decide) ?_
        obtain rfl := Option.some.inj hf
        exact hret _ _ _ _ dX10_told__49 hC
    · replace hf := ift hc hf
      refine lv_aload_n Fx.1 Fx.2.1 dX10_told__13 rfl (lv_at hl 0 rfl) ?_
      refine lv_iload_n Fx.1 Fx.2.1 dX10_told__14 rfl (lv_at hl 1 rfl) ?_
      refine lv_iload_n Fx.1 Fx.2.1 dX10_told__15 rfl (lv_at hl 2 rfl) ?_
      refine lv_iload_n Fx.1 Fx.2.1 dX10_told__16 rfl (lv_at hl 3 rfl) ?_
      obtain ⟨u3, hu3, hf⟩ := bd_e hf
      refine ca_i (As := [.int a1, .int a2, .int a3]) (rest := []) Fx hC (k_M_costOf hu3) (cVU 3 Fx.2.2.2.2 wd_741 wd_742 wd_889 wd_10 wd_743 rfl rfl hd_M_costOf ⟨Nat.le_of_ble_eq_true rfl, Nat.le_of_ble_eq_true rfl⟩) 0 rfl rfl rfl hl.1 rfl (Nat.le_of_ble_eq_true rfl) dX10_told__17 (fun H locs hC => ?_)
      obtain rfl := Option.some.inj hf
      exact hret _ _ _ _ dX10_told__20 hC
  · replace hf := ift hc hf
    refine lv_iload_n Fx.1 Fx.2.1 dX10_told__5 rfl (lv_at hl 3 rfl) ?_
    obtain rfl := Option.some.inj hf
    exact hret _ _ _ _ dX10_told__6 hC
/-! FretHandsModel.grip(III)I -/
abbrev rm_M_grip : Room := { frames := 2, cells := 0, slots := 0, locals := 55 }
theorem hd_M_grip : yX10_grip.cls = RX10 ∧ yX10_grip.cls ≠ "java/lang/invoke/MethodHandle" ∧ yX10_grip.cls ≠ "java/lang/invoke/VarHandle" ∧ (parseMethodDescriptor yX10_grip.desc).map (fun d => d.parameters.length) = some 3 := by decide +kernel
noncomputable def p_M_grip_L55 (K39 : (Int32 × Int32 × Int32 × Int32 × Int32 × sG × sF) → Option (Int32 × sG × sF)) (K55 : (Int32 × Int32 × Int32 × Int32 × Int32 × Int32 × sG × sF) → Option (Int32 × sG × sF)) (x1 : Int32) (x2 : Int32) (x3 : Int32) (x4 : Int32) (x5 : Int32) (x6 : Int32) (g : sG) (f : sF) : Option (Int32 × sG × sF) := (if (g 7) ≤ x6 then lt_ (x5 + (1 : Int32)) (fun v1 => K39 (x1, x2, x3, x4, v1, g, f)) else Option.bind (p_M_isGrip x1 x6 x5 g f) (fun u2 => (if u2 = 0 then lt_ (x6 + (1 : Int32)) (fun v3 => K55 (x1, x2, x3, x4, x5, v3, g, f)) else (if x4 = 0 then Option.bind (p_M_told_ x1 x6 x5 x3 g f) (fun u6 => some (u6, g, f)) else lt_ (x4 + (-1 : Int32)) (fun v4 => lt_ (x6 + (1 : Int32)) (fun v5 => K55 (x1, x2, x3, v4, x5, v5, g, f)))))))
set_option maxRecDepth 100000 in
set_option maxHeartbeats 4000000 in
theorem s_M_grip_L55 {K39 : (Int32 × Int32 × Int32 × Int32 × Int32 × sG × sF) → Option (Int32 × sG × sF)} {K55 : (Int32 × Int32 × Int32 × Int32 × Int32 × Int32 × sG × sF) → Option (Int32 × sG × sF)} {p : Program} {l : Launch} {e : Env} {s : State} {m : MethodId} {args : Array Value} {below : List Frame} {meth : Method} {c : Code} {Q : State → Prop} {D : va_G} {ad : Nat → Nat} {cy : Nat → ClassId} {A : Nat → Prop} {H0 : Heap} {u : Int32 × sG × sF} (Fx : CallFix p m c cX10_grip 7 s args (Cond.code yX10_grip cX10_grip 7 (some .int) :: wU) RX10) (hret : mRi p l e rm_M_grip s m args below meth c Q D (mT cy) (mW ad cy) A H0 cX10_grip u) (hK39 : ∀ (z : Int32 × Int32 × Int32 × Int32 × Int32 × sG × sF), K39 z = some u → ∀ (ls : Array Slot) (H : Heap) (locs : List Loc), lv_has ls 7 [(0, .ref (ad 0)), (1, .int z.1), (2, .int z.2.1), (3, .int z.2.2.1), (4, .int z.2.2.2.1), (5, .int z.2.2.2.2.1)] → wH D (mT cy) (mW ad cy) A H0 s z.2.2.2.2.2.1 z.2.2.2.2.2.2 H locs → W p l e rm_M_grip s m args below meth c H locs 0 0 Q (F0 m 39 ls [])) (hK55 : ∀ (z : Int32 × Int32 × Int32 × Int32 × Int32 × Int32 × sG × sF), K55 z = some u → ∀ (ls : Array Slot) (H : Heap) (locs : List Loc), lv_has ls 7 [(0, .ref (ad 0)), (1, .int z.1), (2, .int z.2.1), (3, .int z.2.2.1), (4, .int z.2.2.2.1), (5, .int z.2.2.2.2.1), (6, .int z.2.2.2.2.2.1)] → wH D (mT cy) (mW ad cy) A H0 s z.2.2.2.2.2.2.1 z.2.2.2.2.2.2.2 H locs → W p l e rm_M_grip s m args below meth c H locs 0 0 Q (F0 m 55 ls [])) (x1 : Int32) (x2 : Int32) (x3 : Int32) (x4 : Int32) (x5 : Int32) (x6 : Int32) (g : sG) (f : sF) (hf : p_M_grip_L55 K39 K55 x1 x2 x3 x4 x5 x6 g f = some u) : ∀ (ls : Array Slot) (H : Heap) (locs : List Loc), lv_has ls 7 [(0, .ref (ad 0)), (1, .int x1), (2, .int x2), (3, .int x3), (4, .int x4), (5, .int x5), (6, .int x6)] → wH D (mT cy) (mW ad cy) A H0 s g f H locs → W p l e rm_M_grip s m args below meth c H locs 0 0 Q (F0 m 55 ls []) := by
  intro ls H locs hl hC
  unfold p_M_grip_L55 at hf
  refine lv_iload Fx.1 Fx.2.1 dX10_grip_55 (lv_at hl 6 rfl) ?_
  refine lv_aload_n Fx.1 Fx.2.1 dX10_grip_57 rfl (lv_at hl 0 rfl) ?_
  refine gg_M_ways Fx hC wd_607 dX10_grip_58 ?_
  refine lv_icmp_ge (tgt := 101) Fx.1 Fx.2.1 dX10_grip_61 (by decide) (fun hc => ?_) (fun hc => ?_)
  · replace hf := ift hc hf
    obtain ⟨v1, ev1, hf⟩ := lt_e hf
    refine lv_iinc (v := v1) (lv' := [(5, .int v1), (0, .ref (ad 0)), (1, .int x1), (2, .int x2), (3, .int x3), (4, .int x4), (6, .int x6)]) Fx.1 Fx.2.1 dX10_grip_101 hl (k := 5) rfl ev1.symm (by decide) rfl (fun ls hl => ?_)
    refine lv_goto (tgt := 39) Fx.1 Fx.2.1 dX10_grip_104 (by decide) ?_
    exact hK39 _ hf _ _ _ (lv_sub hl [1, 2, 3, 4, 5, 0] rfl) hC
  · replace hf := iff_ hc hf
    refine lv_aload_n Fx.1 Fx.2.1 dX10_grip_64 rfl (lv_at hl 0 rfl) ?_
    refine lv_iload_n Fx.1 Fx.2.1 dX10_grip_65 rfl (lv_at hl 1 rfl) ?_
    refine lv_iload Fx.1 Fx.2.1 dX10_grip_66 (lv_at hl 6 rfl) ?_
    refine lv_iload Fx.1 Fx.2.1 dX10_grip_68 (lv_at hl 5 rfl) ?_
    obtain ⟨u2, hu2, hf⟩ := bd_e hf
    refine ca_i (As := [.int x1, .int x6, .int x5]) (rest := []) Fx hC (k_M_isGrip hu2) (cVU 3 Fx.2.2.2.2 wd_731 wd_732 wd_887 wd_10 wd_733 rfl rfl hd_M_isGrip ⟨Nat.le_of_ble_eq_true rfl, Nat.le_of_ble_eq_true rfl⟩) 0 rfl rfl rfl hl.1 rfl (Nat.le_of_ble_eq_true rfl) dX10_grip_70 (fun H locs hC => ?_)
    refine lv_if_eq (tgt := 95) Fx.1 Fx.2.1 dX10_grip_73 (by decide) (fun hc => ?_) (fun hc => ?_)
    · replace hf := ift hc hf
      obtain ⟨v3, ev3, hf⟩ := lt_e hf
      refine lv_iinc (v := v3) (lv' := [(6, .int v3), (0, .ref (ad 0)), (1, .int x1), (2, .int x2), (3, .int x3), (4, .int x4), (5, .int x5)]) Fx.1 Fx.2.1 dX10_grip_95 hl (k := 6) rfl ev3.symm (by decide) rfl (fun ls hl => ?_)
      refine lv_goto (tgt := 55) Fx.1 Fx.2.1 dX10_grip_98 (by decide) ?_
      exact hK55 _ hf _ _ _ (lv_sub hl [1, 2, 3, 4, 5, 6, 0] rfl) hC
    · replace hf := iff_ hc hf
      refine lv_iload Fx.1 Fx.2.1 dX10_grip_76 (lv_at hl 4 rfl) ?_
      refine lv_if_ne (tgt := 92) Fx.1 Fx.2.1 dX10_grip_78 (by decide) (fun hc => ?_) (fun hc => ?_)
      · replace hf := iff_ hc hf
        obtain ⟨v4, ev4, hf⟩ := lt_e hf
        refine lv_iinc (v := v4) (lv' := [(4, .int v4), (0, .ref (ad 0)), (1, .int x1), (2, .int x2), (3, .int x3), (5, .int x5), (6, .int x6)]) Fx.1 Fx.2.1 dX10_grip_92 hl (k := 4) rfl ev4.symm (by decide) rfl (fun ls hl => ?_)
        obtain ⟨v5, ev5, hf⟩ := lt_e hf
        refine lv_iinc (v := v5) (lv' := [(6, .int v5), (4, .int v4), (0, .ref (ad 0)), (1, .int x1), (2, .int x2), (3, .int x3), (5, .int x5)]) Fx.1 Fx.2.1 dX10_grip_95 hl (k := 6) rfl ev5.symm (by decide) rfl (fun ls hl => ?_)
        refine lv_goto (tgt := 55) Fx.1 Fx.2.1 dX10_grip_98 (by decide) ?_
        exact hK55 _ hf _ _ _ (lv_sub hl [2, 3, 4, 5, 1, 6, 0] rfl) hC
      · replace hf := ift hc hf
        refine lv_aload_n Fx.1 Fx.2.1 dX10_grip_81 rfl (lv_at hl 0 rfl) ?_
        refine lv_iload_n Fx.1 Fx.2.1 dX10_grip_82 rfl (lv_at hl 1 rfl) ?_
        refine lv_iload Fx.1 Fx.2.1 dX10_grip_83 (lv_at hl 6 rfl) ?_
        refine lv_iload Fx.1 Fx.2.1 dX10_grip_85 (lv_at hl 5 rfl) ?_
        refine lv_iload_n Fx.1 Fx.2.1 dX10_grip_87 rfl (lv_at hl 3 rfl) ?_
        obtain ⟨u6, hu6, hf⟩ := bd_e hf
        refine ca_i (As := [.int x1, .int x6, .int x5, .int x3]) (rest := []) Fx hC (k_M_told_ hu6) (cVU 4 Fx.2.2.2.2 wd_738 wd_739 wd_888 wd_10 wd_740 rfl rfl hd_M_told_ ⟨Nat.le_of_ble_eq_true rfl, Nat.le_of_ble_eq_true rfl⟩) 0 rfl rfl rfl hl.1 rfl (Nat.le_of_ble_eq_true rfl) dX10_grip_88 (fun H locs hC => ?_)
        obtain rfl := Option.some.inj hf
        exact hret _ _ _ _ dX10_grip_91 hC
set_option maxRecDepth 100000 in
set_option maxHeartbeats 4000000 in
theorem t_M_grip_L55 {K39 : (Int32 × Int32 × Int32 × Int32 × Int32 × sG × sF) → Option (Int32 × sG × sF)} {p : Program} {l : Launch} {e : Env} {s : State} {m : MethodId} {args : Array Value} {below : List Frame} {meth : Method} {c : Code} {Q : State → Prop} {D : va_G} {ad : Nat → Nat} {cy : Nat → ClassId} {A : Nat → Prop} {H0 : Heap} {u : Int32 × sG × sF} (Fx : CallFix p m c cX10_grip 7 s args (Cond.code yX10_grip cX10_grip 7 (some .int) :: wU) RX10) (hret : mRi p l e rm_M_grip s m args below meth c Q D (mT cy) (mW ad cy) A H0 cX10_grip u) (hK39 : ∀ (z : Int32 × Int32 × Int32 × Int32 × Int32 × sG × sF), K39 z = some u → ∀ (ls : Array Slot) (H : Heap) (locs : List Loc), lv_has ls 7 [(0, .ref (ad 0)), (1, .int z.1), (2, .int z.2.1), (3, .int z.2.2.1), (4, .int z.2.2.2.1), (5, .int z.2.2.2.2.1)] → wH D (mT cy) (mW ad cy) A H0 s z.2.2.2.2.2.1 z.2.2.2.2.2.2 H locs → W p l e rm_M_grip s m args below meth c H locs 0 0 Q (F0 m 39 ls [])) (n : Nat) (z : Int32 × Int32 × Int32 × Int32 × Int32 × Int32 × sG × sF) (hz : itr (fun K z => p_M_grip_L55 K39 K z.1 z.2.1 z.2.2.1 z.2.2.2.1 z.2.2.2.2.1 z.2.2.2.2.2.1 z.2.2.2.2.2.2.1 z.2.2.2.2.2.2.2) n z = some u) : ∀ (ls : Array Slot) (H : Heap) (locs : List Loc), lv_has ls 7 [(0, .ref (ad 0)), (1, .int z.1), (2, .int z.2.1), (3, .int z.2.2.1), (4, .int z.2.2.2.1), (5, .int z.2.2.2.2.1), (6, .int z.2.2.2.2.2.1)] → wH D (mT cy) (mW ad cy) A H0 s z.2.2.2.2.2.2.1 z.2.2.2.2.2.2.2 H locs → W p l e rm_M_grip s m args below meth c H locs 0 0 Q (F0 m 55 ls []) :=
  itr_all (B := fun K z => p_M_grip_L55 K39 K z.1 z.2.1 z.2.2.1 z.2.2.2.1 z.2.2.2.2.1 z.2.2.2.2.2.1 z.2.2.2.2.2.2.1 z.2.2.2.2.2.2.2) (r := u) (fun z => ∀ (ls : Array Slot) (H : Heap) (locs : List Loc), lv_has ls 7 [(0, .ref (ad 0)), (1, .int z.1), (2, .int z.2.1), (3, .int z.2.2.1), (4, .int z.2.2.2.1), (5, .int z.2.2.2.2.1), (6, .int z.2.2.2.2.2.1)] → wH D (mT cy) (mW ad cy) A H0 s z.2.2.2.2.2.2.1 z.2.2.2.2.2.2.2 H locs → W p l e rm_M_grip s m args below meth c H locs 0 0 Q (F0 m 55 ls [])) (fun K hK z h => s_M_grip_L55 (K55 := K) Fx hret hK39 hK z.1 z.2.1 z.2.2.1 z.2.2.2.1 z.2.2.2.2.1 z.2.2.2.2.2.1 z.2.2.2.2.2.2.1 z.2.2.2.2.2.2.2 h) n z hz
noncomputable def p_M_grip_L39 (K39 : (Int32 × Int32 × Int32 × Int32 × Int32 × sG × sF) → Option (Int32 × sG × sF)) (x1 : Int32) (x2 : Int32) (x3 : Int32) (x4 : Int32) (x5 : Int32) (g : sG) (f : sF) : Option (Int32 × sG × sF) := (if (g 1) < x5 then some ((-1 : Int32), g, f) else (if x2 < 0 then some ((-1 : Int32), g, f) else itr (fun K z => p_M_grip_L55 K39 K z.1 z.2.1 z.2.2.1 z.2.2.2.1 z.2.2.2.2.1 z.2.2.2.2.2.1 z.2.2.2.2.2.2.1 z.2.2.2.2.2.2.2) FUEL (x1, x2, x3, x4, x5, (0 : Int32), g, f)))
set_option maxRecDepth 100000 in
set_option maxHeartbeats 4000000 in
theorem s_M_grip_L39 {K39 : (Int32 × Int32 × Int32 × Int32 × Int32 × sG × sF) → Option (Int32 × sG × sF)} {p : Program} {l : Launch} {e : Env} {s : State} {m : MethodId} {args : Array Value} {below : List Frame} {meth : Method} {c : Code} {Q : State → Prop} {D : va_G} {ad : Nat → Nat} {cy : Nat → ClassId} {A : Nat → Prop} {H0 : Heap} {u : Int32 × sG × sF} (Fx : CallFix p m c cX10_grip 7 s args (Cond.code yX10_grip cX10_grip 7 (some .int) :: wU) RX10) (hret : mRi p l e rm_M_grip s m args below meth c Q D (mT cy) (mW ad cy) A H0 cX10_grip u) (hK39 : ∀ (z : Int32 × Int32 × Int32 × Int32 × Int32 × sG × sF), K39 z = some u → ∀ (ls : Array Slot) (H : Heap) (locs : List Loc), lv_has ls 7 [(0, .ref (ad 0)), (1, .int z.1), (2, .int z.2.1), (3, .int z.2.2.1), (4, .int z.2.2.2.1), (5, .int z.2.2.2.2.1)] → wH D (mT cy) (mW ad cy) A H0 s z.2.2.2.2.2.1 z.2.2.2.2.2.2 H locs → W p l e rm_M_grip s m args below meth c H locs 0 0 Q (F0 m 39 ls [])) (x1 : Int32) (x2 : Int32) (x3 : Int32) (x4 : Int32) (x5 : Int32) (g : sG) (f : sF) (hf : p_M_grip_L39 K39 x1 x2 x3 x4 x5 g f = some u) : ∀ (ls : Array Slot) (H : Heap) (locs : List Loc), lv_has ls 7 [(0, .ref (ad 0)), (1, .int x1), (2, .int x2), (3, .int x3), (4, .int x4), (5, .int x5)] → wH D (mT cy) (mW ad cy) A H0 s g f H locs → W p l e rm_M_grip s m args below meth c H locs 0 0 Q (F0 m 39 ls []) := by
  intro ls H locs hl hC
  unfold p_M_grip_L39 at hf
  refine lv_iload Fx.1 Fx.2.1 dX10_grip_39 (lv_at hl 5 rfl) ?_
  refine lv_aload_n Fx.1 Fx.2.1 dX10_grip_41 rfl (lv_at hl 0 rfl) ?_
  refine gg_M_neck Fx hC wd_592 dX10_grip_42 ?_
  refine lv_icmp_gt (tgt := 107) Fx.1 Fx.2.1 dX10_grip_45 (by decide) (fun hc => ?_) (fun hc => ?_)
  · replace hf := ift hc hf
    refine lv_iconst (v := (-1 : Int32)) Fx.1 Fx.2.1 dX10_grip_107 (by decide) ?_
    obtain rfl := Option.some.inj hf
    exact hret _ _ _ _ dX10_grip_108 hC
  · replace hf := iff_ hc hf
    refine lv_iload_n Fx.1 Fx.2.1 dX10_grip_48 rfl (lv_at hl 2 rfl) ?_
    refine lv_if_lt (tgt := 107) Fx.1 Fx.2.1 dX10_grip_49 (by decide) (fun hc => ?_) (fun hc => ?_)
    · replace hf := ift hc hf
      refine lv_iconst (v := (-1 : Int32)) Fx.1 Fx.2.1 dX10_grip_107 (by decide) ?_
      obtain rfl := Option.some.inj hf
      exact hret _ _ _ _ dX10_grip_108 hC
    · replace hf := iff_ hc hf
      refine lv_iconst (v := (0 : Int32)) Fx.1 Fx.2.1 dX10_grip_52 (by decide) ?_
      refine lv_istore (lv' := [(6, .int (0 : Int32)), (0, .ref (ad 0)), (1, .int x1), (2, .int x2), (3, .int x3), (4, .int x4), (5, .int x5)]) Fx.1 Fx.2.1 dX10_grip_53 hl (by decide) rfl (fun ls hl => ?_)
      exact t_M_grip_L55 Fx hret hK39 _ _ hf _ _ _ (lv_sub hl [1, 2, 3, 4, 5, 6, 0] rfl) hC
set_option maxRecDepth 100000 in
set_option maxHeartbeats 4000000 in
theorem t_M_grip_L39 {p : Program} {l : Launch} {e : Env} {s : State} {m : MethodId} {args : Array Value} {below : List Frame} {meth : Method} {c : Code} {Q : State → Prop} {D : va_G} {ad : Nat → Nat} {cy : Nat → ClassId} {A : Nat → Prop} {H0 : Heap} {u : Int32 × sG × sF} (Fx : CallFix p m c cX10_grip 7 s args (Cond.code yX10_grip cX10_grip 7 (some .int) :: wU) RX10) (hret : mRi p l e rm_M_grip s m args below meth c Q D (mT cy) (mW ad cy) A H0 cX10_grip u)  (n : Nat) (z : Int32 × Int32 × Int32 × Int32 × Int32 × sG × sF) (hz : itr (fun K z => p_M_grip_L39 K z.1 z.2.1 z.2.2.1 z.2.2.2.1 z.2.2.2.2.1 z.2.2.2.2.2.1 z.2.2.2.2.2.2) n z = some u) : ∀ (ls : Array Slot) (H : Heap) (locs : List Loc), lv_has ls 7 [(0, .ref (ad 0)), (1, .int z.1), (2, .int z.2.1), (3, .int z.2.2.1), (4, .int z.2.2.2.1), (5, .int z.2.2.2.2.1)] → wH D (mT cy) (mW ad cy) A H0 s z.2.2.2.2.2.1 z.2.2.2.2.2.2 H locs → W p l e rm_M_grip s m args below meth c H locs 0 0 Q (F0 m 39 ls []) :=
  itr_all (B := fun K z => p_M_grip_L39 K z.1 z.2.1 z.2.2.1 z.2.2.2.1 z.2.2.2.2.1 z.2.2.2.2.2.1 z.2.2.2.2.2.2) (r := u) (fun z => ∀ (ls : Array Slot) (H : Heap) (locs : List Loc), lv_has ls 7 [(0, .ref (ad 0)), (1, .int z.1), (2, .int z.2.1), (3, .int z.2.2.1), (4, .int z.2.2.2.1), (5, .int z.2.2.2.2.1)] → wH D (mT cy) (mW ad cy) A H0 s z.2.2.2.2.2.1 z.2.2.2.2.2.2 H locs → W p l e rm_M_grip s m args below meth c H locs 0 0 Q (F0 m 39 ls [])) (fun K hK z h => s_M_grip_L39 (K39 := K) Fx hret hK z.1 z.2.1 z.2.2.1 z.2.2.2.1 z.2.2.2.2.1 z.2.2.2.2.2.1 z.2.2.2.2.2.2 h) n z hz
noncomputable def p_M_grip (a1 : Int32) (a2 : Int32) (a3 : Int32) (g : sG) (f : sF) : Option (Int32 × sG × sF) := Option.bind (p_M_isEvent a1 g f) (fun u1 => (if u1 = 0 then some ((-3 : Int32), g, f) else Option.bind (p_M_within a3 (0 : Int32) (5 : Int32) g f) (fun u2 => (if u2 = 0 then some ((-2 : Int32), g, f) else Option.bind (p_M_findWays a1 g f) (fun u3 => lt_ ((u3.1 2) + (1 : Int32)) (fun v4 => itr (fun K z => p_M_grip_L39 K z.1 z.2.1 z.2.2.1 z.2.2.2.1 z.2.2.2.2.1 z.2.2.2.2.2.1 z.2.2.2.2.2.2) FUEL (a1, a2, a3, a2, v4, u3.1, u3.2)))))))
set_option maxRecDepth 100000 in
set_option maxHeartbeats 4000000 in
theorem k_M_grip {l : Launch} {D : va_G} {ad : Nat → Nat} {cy : Nat → ClassId} {a1 : Int32} {a2 : Int32} {a3 : Int32} {u : Int32 × sG × sF} {g : sG} {f : sF} (hf : p_M_grip a1 a2 a3 g f = some u) : mMi l yX10_grip (Cond.code yX10_grip cX10_grip 7 (some .int) :: wU) rm_M_grip D (mT cy) (mW ad cy) [.ref (ad 0), .int a1, .int a2, .int a3] g f u := by
  refine mk_i (by decide) rfl (Nat.le_of_ble_eq_true rfl) ?_
  intro p e s m below meth c Q A H0 Fx hret ls H locs hl hC
  replace hl : lv_has ls 7 [(0, .ref (ad 0)), (1, .int a1), (2, .int a2), (3, .int a3)] := hl
  unfold p_M_grip at hf
  refine lv_aload_n Fx.1 Fx.2.1 dX10_grip_0 rfl (lv_at hl 0 rfl) ?_
  refine lv_iload_n Fx.1 Fx.2.1 dX10_grip_1 rfl (lv_at hl 1 rfl) ?_
  obtain ⟨u1, hu1, hf⟩ := bd_e hf
  refine ca_i (As := [.int a1]) (rest := []) Fx hC (k_M_isEvent hu1) (cVU 1 Fx.2.2.2.2 wd_695 wd_696 wd_883 wd_10 wd_697 rfl rfl hd_M_isEvent ⟨Nat.le_of_ble_eq_true rfl, Nat.le_of_ble_eq_true rfl⟩) 0 rfl rfl rfl hl.1 rfl (Nat.le_of_ble_eq_true rfl) dX10_grip_2 (fun H locs hC => ?_)
  refine lv_if_ne (tgt := 11) Fx.1 Fx.2.1 dX10_grip_5 (by decide) (fun hc => ?_) (fun hc => ?_)
  · replace hf := iff_ hc hf
    refine lv_iload_n Fx.1 Fx.2.1 dX10_grip_11 rfl (lv_at hl 3 rfl) ?_
    refine lv_iconst (v := (0 : Int32)) Fx.1 Fx.2.1 dX10_grip_12 (by decide) ?_
    refine lv_iconst (v := (5 : Int32)) Fx.1 Fx.2.1 dX10_grip_13 (by decide) ?_
    obtain ⟨u2, hu2, hf⟩ := bd_e hf
    refine ca_s (As := [.int a3, .int (0 : Int32), .int (5 : Int32)]) (rest := []) Fx hC (k_M_within hu2) (cSU 3 Fx.2.2.2.2 wd_661 wd_662 wd_10 wd_663 rfl rfl hd_M_within ⟨Nat.le_of_ble_eq_true rfl, Nat.le_of_ble_eq_true rfl⟩) rfl hl.1 rfl (Nat.le_of_ble_eq_true rfl) dX10_grip_14 (fun H locs hC => ?_)
    refine lv_if_ne (tgt := 23) Fx.1 Fx.2.1 dX10_grip_17 (by decide) (fun hc => ?_) (fun hc => ?_)
    · replace hf := iff_ hc hf
      refine lv_aload_n Fx.1 Fx.2.1 dX10_grip_23 rfl (lv_at hl 0 rfl) ?_
      refine lv_iload_n Fx.1 Fx.2.1 dX10_grip_24 rfl (lv_at hl 1 rfl) ?_
      obtain ⟨u3, hu3, hf⟩ := bd_e hf
      refine ca_v (As := [.int a1]) (rest := []) Fx hC (k_M_findWays hu3) (cVU 1 Fx.2.2.2.2 wd_728 wd_729 wd_886 wd_10 wd_730 rfl rfl hd_M_findWays ⟨Nat.le_of_ble_eq_true rfl, Nat.le_of_ble_eq_true rfl⟩) 0 rfl rfl rfl hl.1 rfl (Nat.le_of_ble_eq_true rfl) dX10_grip_25 (fun H locs hC => ?_)
      refine lv_iload_n Fx.1 Fx.2.1 dX10_grip_28 rfl (lv_at hl 2 rfl) ?_
      refine lv_istore (lv' := [(4, .int a2), (0, .ref (ad 0)), (1, .int a1), (2, .int a2), (3, .int a3)]) Fx.1 Fx.2.1 dX10_grip_29 hl (by decide) rfl (fun ls hl => ?_)
      refine lv_aload_n Fx.1 Fx.2.1 dX10_grip_31 rfl (lv_at hl 1 rfl) ?_
      refine gg_M_capo Fx hC wd_593 dX10_grip_32 ?_
      refine lv_iconst (v := (1 : Int32)) Fx.1 Fx.2.1 dX10_grip_35 (by decide) ?_
      refine lv_iadd Fx.1 Fx.2.1 dX10_grip_36 ?_
      obtain ⟨v4, ev4, hf⟩ := lt_e hf
      refine tpi ev4 ?_
      refine lv_istore (lv' := [(5, .int v4), (4, .int a2), (0, .ref (ad 0)), (1, .int a1), (2, .int a2), (3, .int a3)]) Fx.1 Fx.2.1 dX10_grip_37 hl (by decide) rfl (fun ls hl => ?_)
      exact t_M_grip_L39 Fx hret _ _ hf _ _ _ (lv_sub hl [2, 3, 4, 5, 1, 0] rfl) hC
    · replace hf := ift hc hf
      refine lv_bipush (v := (-2 : Int32)) Fx.1 Fx.2.1 dX10_grip_20 (by decide) ?_
      obtain rfl := Option.some.inj hf
      exact hret _ _ _ _ dX10_grip_22 hC
  · replace hf := ift hc hf
    refine lv_bipush (v := (-3 : Int32)) Fx.1 Fx.2.1 dX10_grip_8 (by decide) ?_
    obtain rfl := Option.some.inj hf
    exact hret _ _ _ _ dX10_grip_10 hC
/-! FretHandsModel.at(I)I -/
abbrev rm_M_at_ : Room := { frames := 0, cells := 0, slots := 0, locals := 0 }
theorem hd_M_at_ : yX10_at_.cls ≠ "java/lang/invoke/MethodHandle" ∧ yX10_at_.cls ≠ "java/lang/invoke/VarHandle" ∧ (parseMethodDescriptor yX10_at_.desc).map (fun d => d.parameters.length) = some 1 := by decide +kernel
noncomputable def p_M_at_ (a1 : Int32) (g : sG) (f : sF) : Option (Int32) := some ((25 : Int32) * a1)
set_option maxRecDepth 100000 in
set_option maxHeartbeats 4000000 in
theorem k_M_at_ {l : Launch} {D : va_G} {ad : Nat → Nat} {cy : Nat → ClassId} {a1 : Int32} {r : Int32} {g : sG} {f : sF} (hf : p_M_at_ a1 g f = some r) : mMi l yX10_at_ (Cond.code yX10_at_ cX10_at_ 1 (some .int) :: wU) rm_M_at_ D (mT cy) (mW ad cy) [.int a1] g f (r, g, f) := by
  refine mk_i (by decide) rfl (Nat.le_of_ble_eq_true rfl) ?_
  intro p e s m below meth c Q A H0 Fx hret ls H locs hl hC
  replace hl : lv_has ls 1 [(0, .int a1)] := hl
  unfold p_M_at_ at hf
  refine lv_bipush (v := (25 : Int32)) Fx.1 Fx.2.1 dX10_at__0 (by decide) ?_
  refine lv_iload_n Fx.1 Fx.2.1 dX10_at__2 rfl (lv_at hl 0 rfl) ?_
  refine lv_imul Fx.1 Fx.2.1 dX10_at__3 ?_
  obtain rfl := Option.some.inj hf
  exact hret _ _ _ _ dX10_at__4 hC
/-! FretHandsModel.findCosts(I)V -/
abbrev rm_M_findCosts : Room := { frames := 2, cells := 0, slots := 0, locals := 55 }
theorem hd_M_findCosts : yX10_findCosts.cls = RX10 ∧ yX10_findCosts.cls ≠ "java/lang/invoke/MethodHandle" ∧ yX10_findCosts.cls ≠ "java/lang/invoke/VarHandle" ∧ (parseMethodDescriptor yX10_findCosts.desc).map (fun d => d.parameters.length) = some 1 := by decide +kernel
noncomputable def p_M_findCosts_J84 (K12 : (Int32 × Int32 × sG × sF) → Option (sG × sF)) (K29 : (Int32 × Int32 × Int32 × Int32 × Int32 × sG × sF) → Option (sG × sF)) (x1 : Int32) (x2 : Int32) (x3 : Int32) (x5 : Int32) (x6 : Int32) (y0 : Int32) (g : sG) (f : sF) : Option (sG × sF) := (if x3 ≤ x6 then lt_ (x5 + (1 : Int32)) (fun v1 => K29 (x1, x2, x3, y0, v1, g, f)) else lt_ (x5 + (1 : Int32)) (fun v2 => K29 (x1, x2, x6, y0, v2, g, f)))
set_option maxRecDepth 100000 in
set_option maxHeartbeats 4000000 in
theorem s_M_findCosts_J84 {K12 : (Int32 × Int32 × sG × sF) → Option (sG × sF)} {K29 : (Int32 × Int32 × Int32 × Int32 × Int32 × sG × sF) → Option (sG × sF)} {p : Program} {l : Launch} {e : Env} {s : State} {m : MethodId} {args : Array Value} {below : List Frame} {meth : Method} {c : Code} {Q : State → Prop} {D : va_G} {ad : Nat → Nat} {cy : Nat → ClassId} {A : Nat → Prop} {H0 : Heap} {u : sG × sF} (Fx : CallFix p m c cX10_findCosts 7 s args (Cond.code yX10_findCosts cX10_findCosts 7 none :: wU) RX10) (hret : mRv p l e rm_M_findCosts s m args below meth c Q D (mT cy) (mW ad cy) A H0 cX10_findCosts u) (hK12 : ∀ (z : Int32 × Int32 × sG × sF), K12 z = some u → ∀ (ls : Array Slot) (H : Heap) (locs : List Loc), lv_has ls 7 [(0, .ref (ad 0)), (1, .int z.1), (2, .int z.2.1)] → wH D (mT cy) (mW ad cy) A H0 s z.2.2.1 z.2.2.2 H locs → W p l e rm_M_findCosts s m args below meth c H locs 0 0 Q (F0 m 12 ls [])) (hK29 : ∀ (z : Int32 × Int32 × Int32 × Int32 × Int32 × sG × sF), K29 z = some u → ∀ (ls : Array Slot) (H : Heap) (locs : List Loc), lv_has ls 7 [(0, .ref (ad 0)), (1, .int z.1), (2, .int z.2.1), (3, .int z.2.2.1), (4, .int z.2.2.2.1), (5, .int z.2.2.2.2.1)] → wH D (mT cy) (mW ad cy) A H0 s z.2.2.2.2.2.1 z.2.2.2.2.2.2 H locs → W p l e rm_M_findCosts s m args below meth c H locs 0 0 Q (F0 m 29 ls [])) (x1 : Int32) (x2 : Int32) (x3 : Int32) (x5 : Int32) (x6 : Int32) (y0 : Int32) (g : sG) (f : sF) (hf : p_M_findCosts_J84 K12 K29 x1 x2 x3 x5 x6 y0 g f = some u) : ∀ (ls : Array Slot) (H : Heap) (locs : List Loc), lv_has ls 7 [(0, .ref (ad 0)), (1, .int x1), (2, .int x2), (3, .int x3), (5, .int x5), (6, .int x6)] → wH D (mT cy) (mW ad cy) A H0 s g f H locs → W p l e rm_M_findCosts s m args below meth c H locs 0 0 Q (F0 m 84 ls [.int y0]) := by
  intro ls H locs hl hC
  unfold p_M_findCosts_J84 at hf
  refine lv_istore (lv' := [(4, .int y0), (0, .ref (ad 0)), (1, .int x1), (2, .int x2), (3, .int x3), (5, .int x5), (6, .int x6)]) Fx.1 Fx.2.1 dX10_findCosts_84 hl (by decide) rfl (fun ls hl => ?_)
  refine lv_iload Fx.1 Fx.2.1 dX10_findCosts_86 (lv_at hl 6 rfl) ?_
  refine lv_iload_n Fx.1 Fx.2.1 dX10_findCosts_88 rfl (lv_at hl 4 rfl) ?_
  refine lv_icmp_ge (tgt := 97) Fx.1 Fx.2.1 dX10_findCosts_89 (by decide) (fun hc => ?_) (fun hc => ?_)
  · replace hf := ift hc hf
    refine lv_iload_n Fx.1 Fx.2.1 dX10_findCosts_97 rfl (lv_at hl 4 rfl) ?_
    refine lv_istore_n (lv' := [(3, .int x3), (4, .int y0), (0, .ref (ad 0)), (1, .int x1), (2, .int x2), (5, .int x5), (6, .int x6)]) Fx.1 Fx.2.1 dX10_findCosts_98 rfl hl (by decide) rfl (fun ls hl => ?_)
    obtain ⟨v1, ev1, hf⟩ := lt_e hf
    refine lv_iinc (v := v1) (lv' := [(5, .int v1), (3, .int x3), (4, .int y0), (0, .ref (ad 0)), (1, .int x1), (2, .int x2), (6, .int x6)]) Fx.1 Fx.2.1 dX10_findCosts_99 hl (k := 5) rfl ev1.symm (by decide) rfl (fun ls hl => ?_)
    refine lv_goto (tgt := 29) Fx.1 Fx.2.1 dX10_findCosts_102 (by decide) ?_
    exact hK29 _ hf _ _ _ (lv_sub hl [3, 4, 5, 1, 2, 0] rfl) hC
  · replace hf := iff_ hc hf
    refine lv_iload Fx.1 Fx.2.1 dX10_findCosts_92 (lv_at hl 6 rfl) ?_
    refine lv_goto (tgt := 98) Fx.1 Fx.2.1 dX10_findCosts_94 (by decide) ?_
    refine lv_istore_n (lv' := [(3, .int x6), (4, .int y0), (0, .ref (ad 0)), (1, .int x1), (2, .int x2), (5, .int x5), (6, .int x6)]) Fx.1 Fx.2.1 dX10_findCosts_98 rfl hl (by decide) rfl (fun ls hl => ?_)
    obtain ⟨v2, ev2, hf⟩ := lt_e hf
    refine lv_iinc (v := v2) (lv' := [(5, .int v2), (3, .int x6), (4, .int y0), (0, .ref (ad 0)), (1, .int x1), (2, .int x2), (6, .int x6)]) Fx.1 Fx.2.1 dX10_findCosts_99 hl (k := 5) rfl ev2.symm (by decide) rfl (fun ls hl => ?_)
    refine lv_goto (tgt := 29) Fx.1 Fx.2.1 dX10_findCosts_102 (by decide) ?_
    exact hK29 _ hf _ _ _ (lv_sub hl [3, 4, 5, 1, 2, 0] rfl) hC
noncomputable def p_M_findCosts_L29 (K12 : (Int32 × Int32 × sG × sF) → Option (sG × sF)) (K29 : (Int32 × Int32 × Int32 × Int32 × Int32 × sG × sF) → Option (sG × sF)) (x1 : Int32) (x2 : Int32) (x3 : Int32) (x4 : Int32) (x5 : Int32) (g : sG) (f : sF) : Option (sG × sF) := (if (g 7) ≤ x5 then Option.bind (p_M_at_ x1 g f) (fun u1 => (if (u1 + x2) < 0 ∨ 1000 ≤ (u1 + x2).toNatClampNeg then none else lt_ (up2 f 12 (u1 + x2).toNatClampNeg x3) (fun f3 => Option.bind (p_M_at_ x1 g f3) (fun u4 => (if (u4 + x2) < 0 ∨ 1000 ≤ (u4 + x2).toNatClampNeg then none else lt_ (up2 f3 13 (u4 + x2).toNatClampNeg x4) (fun f6 => lt_ (x2 + (1 : Int32)) (fun v7 => K12 (x1, v7, g, f6)))))))) else Option.bind (p_M_isGrip x1 x5 x2 g f) (fun u8 => (if u8 = 0 then lt_ (x5 + (1 : Int32)) (fun v9 => K29 (x1, x2, x3, x4, v9, g, f)) else Option.bind (p_M_costOf x1 x5 x2 g f) (fun u10 => (if x3 ≤ u10 then (if u10 = x3 then p_M_findCosts_J84 K12 K29 x1 x2 x3 x5 u10 (x4 + (1 : Int32)) g f else p_M_findCosts_J84 K12 K29 x1 x2 x3 x5 u10 x4 g f) else p_M_findCosts_J84 K12 K29 x1 x2 x3 x5 u10 (1 : Int32) g f)))))
set_option maxRecDepth 100000 in
set_option maxHeartbeats 4000000 in
theorem s_M_findCosts_L29 {K12 : (Int32 × Int32 × sG × sF) → Option (sG × sF)} {K29 : (Int32 × Int32 × Int32 × Int32 × Int32 × sG × sF) → Option (sG × sF)} {p : Program} {l : Launch} {e : Env} {s : State} {m : MethodId} {args : Array Value} {below : List Frame} {meth : Method} {c : Code} {Q : State → Prop} {D : va_G} {ad : Nat → Nat} {cy : Nat → ClassId} {A : Nat → Prop} {H0 : Heap} {u : sG × sF} (Fx : CallFix p m c cX10_findCosts 7 s args (Cond.code yX10_findCosts cX10_findCosts 7 none :: wU) RX10) (hret : mRv p l e rm_M_findCosts s m args below meth c Q D (mT cy) (mW ad cy) A H0 cX10_findCosts u) (hK12 : ∀ (z : Int32 × Int32 × sG × sF), K12 z = some u → ∀ (ls : Array Slot) (H : Heap) (locs : List Loc), lv_has ls 7 [(0, .ref (ad 0)), (1, .int z.1), (2, .int z.2.1)] → wH D (mT cy) (mW ad cy) A H0 s z.2.2.1 z.2.2.2 H locs → W p l e rm_M_findCosts s m args below meth c H locs 0 0 Q (F0 m 12 ls [])) (hK29 : ∀ (z : Int32 × Int32 × Int32 × Int32 × Int32 × sG × sF), K29 z = some u → ∀ (ls : Array Slot) (H : Heap) (locs : List Loc), lv_has ls 7 [(0, .ref (ad 0)), (1, .int z.1), (2, .int z.2.1), (3, .int z.2.2.1), (4, .int z.2.2.2.1), (5, .int z.2.2.2.2.1)] → wH D (mT cy) (mW ad cy) A H0 s z.2.2.2.2.2.1 z.2.2.2.2.2.2 H locs → W p l e rm_M_findCosts s m args below meth c H locs 0 0 Q (F0 m 29 ls [])) (x1 : Int32) (x2 : Int32) (x3 : Int32) (x4 : Int32) (x5 : Int32) (g : sG) (f : sF) (hf : p_M_findCosts_L29 K12 K29 x1 x2 x3 x4 x5 g f = some u) : ∀ (ls : Array Slot) (H : Heap) (locs : List Loc), lv_has ls 7 [(0, .ref (ad 0)), (1, .int x1), (2, .int x2), (3, .int x3), (4, .int x4), (5, .int x5)] → wH D (mT cy) (mW ad cy) A H0 s g f H locs → W p l e rm_M_findCosts s m args below meth c H locs 0 0 Q (F0 m 29 ls []) := by
  intro ls H locs hl hC
  unfold p_M_findCosts_L29 at hf
  refine lv_iload Fx.1 Fx.2.1 dX10_findCosts_29 (lv_at hl 5 rfl) ?_
  refine lv_aload_n Fx.1 Fx.2.1 dX10_findCosts_31 rfl (lv_at hl 0 rfl) ?_
  refine gg_M_ways Fx hC wd_607 dX10_findCosts_32 ?_
  refine lv_icmp_ge (tgt := 105) Fx.1 Fx.2.1 dX10_findCosts_35 (by decide) (fun hc => ?_) (fun hc => ?_)
  · replace hf := ift hc hf
    refine lv_aload_n Fx.1 Fx.2.1 dX10_findCosts_105 rfl (lv_at hl 0 rfl) ?_
    refine gg_M_least Fx hC wd_610 dX10_findCosts_106 ?_
    refine lv_iload_n Fx.1 Fx.2.1 dX10_findCosts_109 rfl (lv_at hl 1 rfl) ?_
    obtain ⟨u1, hu1, hf⟩ := bd_e hf
    refine ca_s (As := [.int x1]) (rest := [.ref (ad 13)]) Fx hC (k_M_at_ hu1) (cSU 1 Fx.2.2.2.2 wd_755 wd_756 wd_10 wd_757 rfl rfl hd_M_at_ ⟨Nat.le_of_ble_eq_true rfl, Nat.le_of_ble_eq_true rfl⟩) rfl hl.1 rfl (Nat.le_of_ble_eq_true rfl) dX10_findCosts_110 (fun H locs hC => ?_)
    refine lv_iload_n Fx.1 Fx.2.1 dX10_findCosts_113 rfl (lv_at hl 2 rfl) ?_
    refine lv_iadd Fx.1 Fx.2.1 dX10_findCosts_114 ?_
    refine lv_iload_n Fx.1 Fx.2.1 dX10_findCosts_115 rfl (lv_at hl 3 rfl) ?_
    obtain ⟨hi2, hf⟩ := gd_e hf
    obtain ⟨f3, ef3, hf⟩ := lt_e hf
    refine st_M_least Fx hC hi2 ef3 dX10_findCosts_116 (fun H locs hC => ?_)
    refine lv_aload_n Fx.1 Fx.2.1 dX10_findCosts_117 rfl (lv_at hl 0 rfl) ?_
    refine gg_M_manyLeast Fx hC wd_611 dX10_findCosts_118 ?_
    refine lv_iload_n Fx.1 Fx.2.1 dX10_findCosts_121 rfl (lv_at hl 1 rfl) ?_
    obtain ⟨u4, hu4, hf⟩ := bd_e hf
    refine ca_s (As := [.int x1]) (rest := [.ref (ad 14)]) Fx hC (k_M_at_ hu4) (cSU 1 Fx.2.2.2.2 wd_755 wd_756 wd_10 wd_757 rfl rfl hd_M_at_ ⟨Nat.le_of_ble_eq_true rfl, Nat.le_of_ble_eq_true rfl⟩) rfl hl.1 rfl (Nat.le_of_ble_eq_true rfl) dX10_findCosts_122 (fun H locs hC => ?_)
    refine lv_iload_n Fx.1 Fx.2.1 dX10_findCosts_125 rfl (lv_at hl 2 rfl) ?_
    refine lv_iadd Fx.1 Fx.2.1 dX10_findCosts_126 ?_
    refine lv_iload Fx.1 Fx.2.1 dX10_findCosts_127 (lv_at hl 4 rfl) ?_
    obtain ⟨hi5, hf⟩ := gd_e hf
    obtain ⟨f6, ef6, hf⟩ := lt_e hf
    refine st_M_manyLeast Fx hC hi5 ef6 dX10_findCosts_129 (fun H locs hC => ?_)
    obtain ⟨v7, ev7, hf⟩ := lt_e hf
    refine lv_iinc (v := v7) (lv' := [(2, .int v7), (0, .ref (ad 0)), (1, .int x1), (3, .int x3), (4, .int x4), (5, .int x5)]) Fx.1 Fx.2.1 dX10_findCosts_130 hl (k := 2) rfl ev7.symm (by decide) rfl (fun ls hl => ?_)
    refine lv_goto (tgt := 12) Fx.1 Fx.2.1 dX10_findCosts_133 (by decide) ?_
    exact hK12 _ hf _ _ _ (lv_sub hl [1, 2, 0] rfl) hC
  · replace hf := iff_ hc hf
    refine lv_aload_n Fx.1 Fx.2.1 dX10_findCosts_38 rfl (lv_at hl 0 rfl) ?_
    refine lv_iload_n Fx.1 Fx.2.1 dX10_findCosts_39 rfl (lv_at hl 1 rfl) ?_
    refine lv_iload Fx.1 Fx.2.1 dX10_findCosts_40 (lv_at hl 5 rfl) ?_
    refine lv_iload_n Fx.1 Fx.2.1 dX10_findCosts_42 rfl (lv_at hl 2 rfl) ?_
    obtain ⟨u8, hu8, hf⟩ := bd_e hf
    refine ca_i (As := [.int x1, .int x5, .int x2]) (rest := []) Fx hC (k_M_isGrip hu8) (cVU 3 Fx.2.2.2.2 wd_731 wd_732 wd_887 wd_10 wd_733 rfl rfl hd_M_isGrip ⟨Nat.le_of_ble_eq_true rfl, Nat.le_of_ble_eq_true rfl⟩) 0 rfl rfl rfl hl.1 rfl (Nat.le_of_ble_eq_true rfl) dX10_findCosts_43 (fun H locs hC => ?_)
    refine lv_if_eq (tgt := 99) Fx.1 Fx.2.1 dX10_findCosts_46 (by decide) (fun hc => ?_) (fun hc => ?_)
    · replace hf := ift hc hf
      obtain ⟨v9, ev9, hf⟩ := lt_e hf
      refine lv_iinc (v := v9) (lv' := [(5, .int v9), (0, .ref (ad 0)), (1, .int x1), (2, .int x2), (3, .int x3), (4, .int x4)]) Fx.1 Fx.2.1 dX10_findCosts_99 hl (k := 5) rfl ev9.symm (by decide) rfl (fun ls hl => ?_)
      refine lv_goto (tgt := 29) Fx.1 Fx.2.1 dX10_findCosts_102 (by decide) ?_
      exact hK29 _ hf _ _ _ (lv_sub hl [1, 2, 3, 4, 5, 0] rfl) hC
    · replace hf := iff_ hc hf
      refine lv_aload_n Fx.1 Fx.2.1 dX10_findCosts_49 rfl (lv_at hl 0 rfl) ?_
      refine lv_iload_n Fx.1 Fx.2.1 dX10_findCosts_50 rfl (lv_at hl 1 rfl) ?_
      refine lv_iload Fx.1 Fx.2.1 dX10_findCosts_51 (lv_at hl 5 rfl) ?_
      refine lv_iload_n Fx.1 Fx.2.1 dX10_findCosts_53 rfl (lv_at hl 2 rfl) ?_
      obtain ⟨u10, hu10, hf⟩ := bd_e hf
      refine ca_i (As := [.int x1, .int x5, .int x2]) (rest := []) Fx hC (k_M_costOf hu10) (cVU 3 Fx.2.2.2.2 wd_741 wd_742 wd_889 wd_10 wd_743 rfl rfl hd_M_costOf ⟨Nat.le_of_ble_eq_true rfl, Nat.le_of_ble_eq_true rfl⟩) 0 rfl rfl rfl hl.1 rfl (Nat.le_of_ble_eq_true rfl) dX10_findCosts_54 (fun H locs hC => ?_)
      refine lv_istore (lv' := [(6, .int u10), (0, .ref (ad 0)), (1, .int x1), (2, .int x2), (3, .int x3), (4, .int x4), (5, .int x5)]) Fx.1 Fx.2.1 dX10_findCosts_57 hl (by decide) rfl (fun ls hl => ?_)
      refine lv_iload Fx.1 Fx.2.1 dX10_findCosts_59 (lv_at hl 0 rfl) ?_
      refine lv_iload_n Fx.1 Fx.2.1 dX10_findCosts_61 rfl (lv_at hl 4 rfl) ?_
      refine lv_icmp_ge (tgt := 69) Fx.1 Fx.2.1 dX10_findCosts_62 (by decide) (fun hc => ?_) (fun hc => ?_)
      · replace hf := ift hc hf
        refine lv_iload Fx.1 Fx.2.1 dX10_findCosts_69 (lv_at hl 0 rfl) ?_
        refine lv_iload_n Fx.1 Fx.2.1 dX10_findCosts_71 rfl (lv_at hl 4 rfl) ?_
        refine lv_icmp_ne (tgt := 82) Fx.1 Fx.2.1 dX10_findCosts_72 (by decide) (fun hc => ?_) (fun hc => ?_)
        · replace hf := iff_ hc hf
          refine lv_iload Fx.1 Fx.2.1 dX10_findCosts_82 (lv_at hl 5 rfl) ?_
          exact s_M_findCosts_J84 Fx hret hK12 hK29 _ _ _ _ _ _ _ _  hf _ _ _ (lv_sub hl [1, 2, 3, 4, 6, 0] rfl) hC
        · replace hf := ift hc hf
          refine lv_iload Fx.1 Fx.2.1 dX10_findCosts_75 (lv_at hl 5 rfl) ?_
          refine lv_iconst (v := (1 : Int32)) Fx.1 Fx.2.1 dX10_findCosts_77 (by decide) ?_
          refine lv_iadd Fx.1 Fx.2.1 dX10_findCosts_78 ?_
          refine lv_goto (tgt := 84) Fx.1 Fx.2.1 dX10_findCosts_79 (by decide) ?_
          exact s_M_findCosts_J84 Fx hret hK12 hK29 _ _ _ _ _ _ _ _  hf _ _ _ (lv_sub hl [1, 2, 3, 4, 6, 0] rfl) hC
      · replace hf := iff_ hc hf
        refine lv_iconst (v := (1 : Int32)) Fx.1 Fx.2.1 dX10_findCosts_65 (by decide) ?_
        refine lv_goto (tgt := 84) Fx.1 Fx.2.1 dX10_findCosts_66 (by decide) ?_
        exact s_M_findCosts_J84 Fx hret hK12 hK29 _ _ _ _ _ _ _ _  hf _ _ _ (lv_sub hl [1, 2, 3, 4, 6, 0] rfl) hC
set_option maxRecDepth 100000 in
set_option maxHeartbeats 4000000 in
theorem t_M_findCosts_L29 {K12 : (Int32 × Int32 × sG × sF) → Option (sG × sF)} {p : Program} {l : Launch} {e : Env} {s : State} {m : MethodId} {args : Array Value} {below : List Frame} {meth : Method} {c : Code} {Q : State → Prop} {D : va_G} {ad : Nat → Nat} {cy : Nat → ClassId} {A : Nat → Prop} {H0 : Heap} {u : sG × sF} (Fx : CallFix p m c cX10_findCosts 7 s args (Cond.code yX10_findCosts cX10_findCosts 7 none :: wU) RX10) (hret : mRv p l e rm_M_findCosts s m args below meth c Q D (mT cy) (mW ad cy) A H0 cX10_findCosts u) (hK12 : ∀ (z : Int32 × Int32 × sG × sF), K12 z = some u → ∀ (ls : Array Slot) (H : Heap) (locs : List Loc), lv_has ls 7 [(0, .ref (ad 0)), (1, .int z.1), (2, .int z.2.1)] → wH D (mT cy) (mW ad cy) A H0 s z.2.2.1 z.2.2.2 H locs → W p l e rm_M_findCosts s m args below meth c H locs 0 0 Q (F0 m 12 ls [])) (n : Nat) (z : Int32 × Int32 × Int32 × Int32 × Int32 × sG × sF) (hz : itr (fun K z => p_M_findCosts_L29 K12 K z.1 z.2.1 z.2.2.1 z.2.2.2.1 z.2.2.2.2.1 z.2.2.2.2.2.1 z.2.2.2.2.2.2) n z = some u) : ∀ (ls : Array Slot) (H : Heap) (locs : List Loc), lv_has ls 7 [(0, .ref (ad 0)), (1, .int z.1), (2, .int z.2.1), (3, .int z.2.2.1), (4, .int z.2.2.2.1), (5, .int z.2.2.2.2.1)] → wH D (mT cy) (mW ad cy) A H0 s z.2.2.2.2.2.1 z.2.2.2.2.2.2 H locs → W p l e rm_M_findCosts s m args below meth c H locs 0 0 Q (F0 m 29 ls []) :=
  itr_all (B := fun K z => p_M_findCosts_L29 K12 K z.1 z.2.1 z.2.2.1 z.2.2.2.1 z.2.2.2.2.1 z.2.2.2.2.2.1 z.2.2.2.2.2.2) (r := u) (fun z => ∀ (ls : Array Slot) (H : Heap) (locs : List Loc), lv_has ls 7 [(0, .ref (ad 0)), (1, .int z.1), (2, .int z.2.1), (3, .int z.2.2.1), (4, .int z.2.2.2.1), (5, .int z.2.2.2.2.1)] → wH D (mT cy) (mW ad cy) A H0 s z.2.2.2.2.2.1 z.2.2.2.2.2.2 H locs → W p l e rm_M_findCosts s m args below meth c H locs 0 0 Q (F0 m 29 ls [])) (fun K hK z h => s_M_findCosts_L29 (K29 := K) Fx hret hK12 hK z.1 z.2.1 z.2.2.1 z.2.2.2.1 z.2.2.2.2.1 z.2.2.2.2.2.1 z.2.2.2.2.2.2 h) n z hz
noncomputable def p_M_findCosts_L12 (K12 : (Int32 × Int32 × sG × sF) → Option (sG × sF)) (x1 : Int32) (x2 : Int32) (g : sG) (f : sF) : Option (sG × sF) := (if (g 1) < x2 then some (g, f) else itr (fun K z => p_M_findCosts_L29 K12 K z.1 z.2.1 z.2.2.1 z.2.2.2.1 z.2.2.2.2.1 z.2.2.2.2.2.1 z.2.2.2.2.2.2) FUEL (x1, x2, (100000000 : Int32), (0 : Int32), (0 : Int32), g, f))
set_option maxRecDepth 100000 in
set_option maxHeartbeats 4000000 in
theorem s_M_findCosts_L12 {K12 : (Int32 × Int32 × sG × sF) → Option (sG × sF)} {p : Program} {l : Launch} {e : Env} {s : State} {m : MethodId} {args : Array Value} {below : List Frame} {meth : Method} {c : Code} {Q : State → Prop} {D : va_G} {ad : Nat → Nat} {cy : Nat → ClassId} {A : Nat → Prop} {H0 : Heap} {u : sG × sF} (Fx : CallFix p m c cX10_findCosts 7 s args (Cond.code yX10_findCosts cX10_findCosts 7 none :: wU) RX10) (hret : mRv p l e rm_M_findCosts s m args below meth c Q D (mT cy) (mW ad cy) A H0 cX10_findCosts u) (hK12 : ∀ (z : Int32 × Int32 × sG × sF), K12 z = some u → ∀ (ls : Array Slot) (H : Heap) (locs : List Loc), lv_has ls 7 [(0, .ref (ad 0)), (1, .int z.1), (2, .int z.2.1)] → wH D (mT cy) (mW ad cy) A H0 s z.2.2.1 z.2.2.2 H locs → W p l e rm_M_findCosts s m args below meth c H locs 0 0 Q (F0 m 12 ls [])) (x1 : Int32) (x2 : Int32) (g : sG) (f : sF) (hf : p_M_findCosts_L12 K12 x1 x2 g f = some u) : ∀ (ls : Array Slot) (H : Heap) (locs : List Loc), lv_has ls 7 [(0, .ref (ad 0)), (1, .int x1), (2, .int x2)] → wH D (mT cy) (mW ad cy) A H0 s g f H locs → W p l e rm_M_findCosts s m args below meth c H locs 0 0 Q (F0 m 12 ls []) := by
  intro ls H locs hl hC
  unfold p_M_findCosts_L12 at hf
  refine lv_iload_n Fx.1 Fx.2.1 dX10_findCosts_12 rfl (lv_at hl 2 rfl) ?_
  refine lv_aload_n Fx.1 Fx.2.1 dX10_findCosts_13 rfl (lv_at hl 0 rfl) ?_
  refine gg_M_neck Fx hC wd_592 dX10_findCosts_14 ?_
  refine lv_icmp_gt (tgt := 136) Fx.1 Fx.2.1 dX10_findCosts_17 (by decide) (fun hc => ?_) (fun hc => ?_)
  · replace hf := ift hc hf
    obtain rfl := Option.some.inj hf
    exact hret _ _ _ _ dX10_findCosts_136 hC
  · replace hf := iff_ hc hf
    refine lv_ldc (v := (100000000 : Int32)) Fx.1 Fx.2.1 Fx.2.2.2.1 (Fx.2.2.2.2 _ (List.mem_cons_of_mem _ wd_754)) dX10_findCosts_20 ?_
    refine lv_istore_n (lv' := [(3, .int (100000000 : Int32)), (0, .ref (ad 0)), (1, .int x1), (2, .int x2)]) Fx.1 Fx.2.1 dX10_findCosts_22 rfl hl (by decide) rfl (fun ls hl => ?_)
    refine lv_iconst (v := (0 : Int32)) Fx.1 Fx.2.1 dX10_findCosts_23 (by decide) ?_
    refine lv_istore (lv' := [(4, .int (0 : Int32)), (3, .int (100000000 : Int32)), (0, .ref (ad 0)), (1, .int x1), (2, .int x2)]) Fx.1 Fx.2.1 dX10_findCosts_24 hl (by decide) rfl (fun ls hl => ?_)
    refine lv_iconst (v := (0 : Int32)) Fx.1 Fx.2.1 dX10_findCosts_26 (by decide) ?_
    refine lv_istore (lv' := [(5, .int (0 : Int32)), (4, .int (0 : Int32)), (3, .int (100000000 : Int32)), (0, .ref (ad 0)), (1, .int x1), (2, .int x2)]) Fx.1 Fx.2.1 dX10_findCosts_27 hl (by decide) rfl (fun ls hl => ?_)
    exact t_M_findCosts_L29 Fx hret hK12 _ _ hf _ _ _ (lv_sub hl [3, 4, 5, 2, 1, 0] rfl) hC
set_option maxRecDepth 100000 in
set_option maxHeartbeats 4000000 in
theorem t_M_findCosts_L12 {p : Program} {l : Launch} {e : Env} {s : State} {m : MethodId} {args : Array Value} {below : List Frame} {meth : Method} {c : Code} {Q : State → Prop} {D : va_G} {ad : Nat → Nat} {cy : Nat → ClassId} {A : Nat → Prop} {H0 : Heap} {u : sG × sF} (Fx : CallFix p m c cX10_findCosts 7 s args (Cond.code yX10_findCosts cX10_findCosts 7 none :: wU) RX10) (hret : mRv p l e rm_M_findCosts s m args below meth c Q D (mT cy) (mW ad cy) A H0 cX10_findCosts u)  (n : Nat) (z : Int32 × Int32 × sG × sF) (hz : itr (fun K z => p_M_findCosts_L12 K z.1 z.2.1 z.2.2.1 z.2.2.2) n z = some u) : ∀ (ls : Array Slot) (H : Heap) (locs : List Loc), lv_has ls 7 [(0, .ref (ad 0)), (1, .int z.1), (2, .int z.2.1)] → wH D (mT cy) (mW ad cy) A H0 s z.2.2.1 z.2.2.2 H locs → W p l e rm_M_findCosts s m args below meth c H locs 0 0 Q (F0 m 12 ls []) :=
  itr_all (B := fun K z => p_M_findCosts_L12 K z.1 z.2.1 z.2.2.1 z.2.2.2) (r := u) (fun z => ∀ (ls : Array Slot) (H : Heap) (locs : List Loc), lv_has ls 7 [(0, .ref (ad 0)), (1, .int z.1), (2, .int z.2.1)] → wH D (mT cy) (mW ad cy) A H0 s z.2.2.1 z.2.2.2 H locs → W p l e rm_M_findCosts s m args below meth c H locs 0 0 Q (F0 m 12 ls [])) (fun K hK z h => s_M_findCosts_L12 (K12 := K) Fx hret hK z.1 z.2.1 z.2.2.1 z.2.2.2 h) n z hz
noncomputable def p_M_findCosts (a1 : Int32) (g : sG) (f : sF) : Option (sG × sF) := Option.bind (p_M_findWays a1 g f) (fun u1 => lt_ ((u1.1 2) + (1 : Int32)) (fun v2 => itr (fun K z => p_M_findCosts_L12 K z.1 z.2.1 z.2.2.1 z.2.2.2) FUEL (a1, v2, u1.1, u1.2)))
set_option maxRecDepth 100000 in
set_option maxHeartbeats 4000000 in
theorem k_M_findCosts {l : Launch} {D : va_G} {ad : Nat → Nat} {cy : Nat → ClassId} {a1 : Int32} {u : sG × sF} {g : sG} {f : sF} (hf : p_M_findCosts a1 g f = some u) : mMv l yX10_findCosts (Cond.code yX10_findCosts cX10_findCosts 7 none :: wU) rm_M_findCosts D (mT cy) (mW ad cy) [.ref (ad 0), .int a1] g f u := by
  refine mk_v (by decide) rfl (Nat.le_of_ble_eq_true rfl) ?_
  intro p e s m below meth c Q A H0 Fx hret ls H locs hl hC
  replace hl : lv_has ls 7 [(0, .ref (ad 0)), (1, .int a1)] := hl
  unfold p_M_findCosts at hf
  refine lv_aload_n Fx.1 Fx.2.1 dX10_findCosts_0 rfl (lv_at hl 0 rfl) ?_
  refine lv_iload_n Fx.1 Fx.2.1 dX10_findCosts_1 rfl (lv_at hl 1 rfl) ?_
  obtain ⟨u1, hu1, hf⟩ := bd_e hf
  refine ca_v (As := [.int a1]) (rest := []) Fx hC (k_M_findWays hu1) (cVU 1 Fx.2.2.2.2 wd_728 wd_729 wd_886 wd_10 wd_730 rfl rfl hd_M_findWays ⟨Nat.le_of_ble_eq_true rfl, Nat.le_of_ble_eq_true rfl⟩) 0 rfl rfl rfl hl.1 rfl (Nat.le_of_ble_eq_true rfl) dX10_findCosts_2 (fun H locs hC => ?_)
  refine lv_aload_n Fx.1 Fx.2.1 dX10_findCosts_5 rfl (lv_at hl 0 rfl) ?_
  refine gg_M_capo Fx hC wd_593 dX10_findCosts_6 ?_
  refine lv_iconst (v := (1 : Int32)) Fx.1 Fx.2.1 dX10_findCosts_9 (by decide) ?_
  refine lv_iadd Fx.1 Fx.2.1 dX10_findCosts_10 ?_
  obtain ⟨v2, ev2, hf⟩ := lt_e hf
  refine tpi ev2 ?_
  refine lv_istore_n (lv' := [(2, .int v2), (0, .ref (ad 0)), (1, .int a1)]) Fx.1 Fx.2.1 dX10_findCosts_11 rfl hl (by decide) rfl (fun ls hl => ?_)
  exact t_M_findCosts_L12 Fx hret _ _ hf _ _ _ (lv_sub hl [1, 2, 0] rfl) hC
