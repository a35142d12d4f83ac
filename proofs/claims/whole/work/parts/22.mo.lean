/-! FretHandsModel.move(II)I -/
abbrev rm_M_move : Room := { frames := 0, cells := 0, slots := 0, locals := 0 }
theorem hd_M_move : yX10_move.cls = RX10 ∧ yX10_move.cls ≠ "java/lang/invoke/MethodHandle" ∧ yX10_move.cls ≠ "java/lang/invoke/VarHandle" ∧ (parseMethodDescriptor yX10_move.desc).map (fun d => d.parameters.length) = some 2 := by decide +kernel
noncomputable def p_M_move (a1 : Int32) (a2 : Int32) (g : sG) (f : sF) : Option (Int32) := (if a1 ≤ a2 then some ((f 1 (0 : Int32).toNatClampNeg) * (a2 - a1)) else some ((f 1 (0 : Int32).toNatClampNeg) * (a1 - a2)))
set_option maxRecDepth 100000 in
set_option maxHeartbeats 4000000 in
theorem k_M_move {l : Launch} {D : va_G} {ad : Nat → Nat} {cy : Nat → ClassId} {a1 : Int32} {a2 : Int32} {r : Int32} {g : sG} {f : sF} (hf : p_M_move a1 a2 g f = some r) : mMi l yX10_move (Cond.code yX10_move cX10_move 3 (some .int) :: wU) rm_M_move D (mT cy) (mW ad cy) [.ref (ad 0), .int a1, .int a2] g f (r, g, f) := by
  refine mk_i (by decide) rfl (Nat.le_of_ble_eq_true rfl) ?_
  intro p e s m below meth c Q A H0 Fx hret ls H locs hl hC
  replace hl : lv_has ls 3 [(0, .ref (ad 0)), (1, .int a1), (2, .int a2)] := hl
  unfold p_M_move at hf
  refine lv_aload_n Fx.1 Fx.2.1 dX10_move_0 rfl (lv_at hl 0 rfl) ?_
  refine gg_M_weights Fx hC wd_594 dX10_move_1 ?_
  refine lv_iconst (v := (0 : Int32)) Fx.1 Fx.2.1 dX10_move_4 (by decide) ?_
  refine ld_M_weights Fx hC (by decide) dX10_move_5 ?_
  refine lv_iload_n Fx.1 Fx.2.1 dX10_move_6 rfl (lv_at hl 1 rfl) ?_
  refine lv_iload_n Fx.1 Fx.2.1 dX10_move_7 rfl (lv_at hl 2 rfl) ?_
  refine lv_icmp_le (tgt := 17) Fx.1 Fx.2.1 dX10_move_8 (by decide) (fun hc => ?_) (fun hc => ?_)
  · replace hf := ift hc hf
    refine lv_iload_n Fx.1 Fx.2.1 dX10_move_17 rfl (lv_at hl 2 rfl) ?_
    refine lv_iload_n Fx.1 Fx.2.1 dX10_move_18 rfl (lv_at hl 1 rfl) ?_
    refine lv_isub Fx.1 Fx.2.1 dX10_move_19 ?_
    refine lv_imul Fx.1 Fx.2.1 dX10_move_20 ?_
    obtain rfl := Option.some.inj hf
    exact hret _ _ _ _ dX10_move_21 hC
  · replace hf := iff_ hc hf
    refine lv_iload_n Fx.1 Fx.2.1 dX10_move_11 rfl (lv_at hl 1 rfl) ?_
    refine lv_iload_n Fx.1 Fx.2.1 dX10_move_12 rfl (lv_at hl 2 rfl) ?_
    refine lv_isub Fx.1 Fx.2.1 dX10_move_13 ?_
    refine lv_goto (tgt := 20) Fx.1 Fx.2.1 dX10_move_14 (by decide) ?_
    refine lv_imul Fx.1 Fx.2.1 dX10_move_20 ?_
    obtain rfl := Option.some.inj hf
    exact hret _ _ _ _ dX10_move_21 hC
/-! FretHandsModel.few(J)I -/
abbrev rm_M_few : Room := { frames := 0, cells := 0, slots := 0, locals := 0 }
theorem hd_M_few : yX10_few.cls ≠ "java/lang/invoke/MethodHandle" ∧ yX10_few.cls ≠ "java/lang/invoke/VarHandle" ∧ (parseMethodDescriptor yX10_few.desc).map (fun d => d.parameters.length) = some 1 := by decide +kernel
noncomputable def p_M_few (a1 : Int64) (g : sG) (f : sF) : Option (Int32) := (if (lg_cmp a1 (999999 : Int64)) ≤ 0 then some a1.toInt32 else some (999999 : Int32))
set_option maxRecDepth 100000 in
set_option maxHeartbeats 4000000 in
theorem k_M_few {l : Launch} {D : va_G} {ad : Nat → Nat} {cy : Nat → ClassId} {a1 : Int64} {r : Int32} {g : sG} {f : sF} (hf : p_M_few a1 g f = some r) : mMi l yX10_few (Cond.code yX10_few cX10_few 2 (some .int) :: wU) rm_M_few D (mT cy) (mW ad cy) [.long a1] g f (r, g, f) := by
  refine mk_i (by decide) rfl (Nat.le_of_ble_eq_true rfl) ?_
  intro p e s m below meth c Q A H0 Fx hret ls H locs hl hC
  replace hl : lv_has ls 2 [(0, .long a1)] := hl
  unfold p_M_few at hf
  refine lv_lload_n Fx.1 Fx.2.1 dX10_few_0 rfl (lv_at hl 0 rfl) ?_
  refine lv_ldc2 (v := (999999 : Int64)) Fx.1 Fx.2.1 Fx.2.2.2.1 (Fx.2.2.2.2 _ (List.mem_cons_of_mem _ wd_764)) dX10_few_1 ?_
  refine W.lcmp Fx.1 Fx.2.1 dX10_few_4 ?_
  refine lv_if_le (tgt := 13) Fx.1 Fx.2.1 dX10_few_5 (by decide) (fun hc => ?_) (fun hc => ?_)
  · replace hf := ift hc hf
    refine lv_lload_n Fx.1 Fx.2.1 dX10_few_13 rfl (lv_at hl 0 rfl) ?_
    refine lv_l2i (v := a1.toInt32) Fx.1 Fx.2.1 dX10_few_14 rfl ?_
    obtain rfl := Option.some.inj hf
    exact hret _ _ _ _ dX10_few_15 hC
  · replace hf := iff_ hc hf
    refine lv_ldc (v := (999999 : Int32)) Fx.1 Fx.2.1 Fx.2.2.2.1 (Fx.2.2.2.2 _ (List.mem_cons_of_mem _ wd_765)) dX10_few_8 ?_
    refine lv_goto (tgt := 15) Fx.1 Fx.2.1 dX10_few_10 (by decide) ?_
    obtain rfl := Option.some.inj hf
    exact hret _ _ _ _ dX10_few_15 hC
/-! FretHandsModel.findSums()I -/
abbrev rm_M_findSums : Room := { frames := 3, cells := 0, slots := 0, locals := 81 }
theorem hd_M_findSums : yX10_findSums.cls = RX10 ∧ yX10_findSums.cls ≠ "java/lang/invoke/MethodHandle" ∧ yX10_findSums.cls ≠ "java/lang/invoke/VarHandle" ∧ (parseMethodDescriptor yX10_findSums.desc).map (fun d => d.parameters.length) = some 0 := by decide +kernel
noncomputable def p_M_findSums_L298 (K298 : (Int32 × Int32 × sG × sF) → Option (Int32 × sG × sF)) (x1 : Int32) (x2 : Int32) (g : sG) (f : sF) : Option (Int32 × sG × sF) := (if (g 1) < x2 then some (x1, g, f) else Option.bind (p_M_at_ ((g 3) - (1 : Int32)) g f) (fun u1 => (if (u1 + x2) < 0 ∨ 1000 ≤ (u1 + x2).toNatClampNeg then none else (if x1 ≤ (f 14 (u1 + x2).toNatClampNeg) then lt_ (x2 + (1 : Int32)) (fun v3 => K298 (x1, v3, g, f)) else Option.bind (p_M_at_ ((g 3) - (1 : Int32)) g f) (fun u4 => (if (u4 + x2) < 0 ∨ 1000 ≤ (u4 + x2).toNatClampNeg then none else lt_ (f 14 (u4 + x2).toNatClampNeg) (fun v6 => lt_ (x2 + (1 : Int32)) (fun v7 => K298 (v6, v7, g, f)))))))))
set_option maxRecDepth 100000 in
set_option maxHeartbeats 4000000 in
theorem s_M_findSums_L298 {K298 : (Int32 × Int32 × sG × sF) → Option (Int32 × sG × sF)} {p : Program} {l : Launch} {e : Env} {s : State} {m : MethodId} {args : Array Value} {below : List Frame} {meth : Method} {c : Code} {Q : State → Prop} {D : va_G} {ad : Nat → Nat} {cy : Nat → ClassId} {A : Nat → Prop} {H0 : Heap} {u : Int32 × sG × sF} (Fx : CallFix p m c cX10_findSums 8 s args (Cond.code yX10_findSums cX10_findSums 8 (some .int) :: wU) RX10) (hret : mRi p l e rm_M_findSums s m args below meth c Q D (mT cy) (mW ad cy) A H0 cX10_findSums u) (hK298 : ∀ (z : Int32 × Int32 × sG × sF), K298 z = some u → ∀ (ls : Array Slot) (H : Heap) (locs : List Loc), lv_has ls 8 [(0, .ref (ad 0)), (1, .int z.1), (2, .int z.2.1)] → wH D (mT cy) (mW ad cy) A H0 s z.2.2.1 z.2.2.2 H locs → W p l e rm_M_findSums s m args below meth c H locs 0 0 Q (F0 m 298 ls [])) (x1 : Int32) (x2 : Int32) (g : sG) (f : sF) (hf : p_M_findSums_L298 K298 x1 x2 g f = some u) : ∀ (ls : Array Slot) (H : Heap) (locs : List Loc), lv_has ls 8 [(0, .ref (ad 0)), (1, .int x1), (2, .int x2)] → wH D (mT cy) (mW ad cy) A H0 s g f H locs → W p l e rm_M_findSums s m args below meth c H locs 0 0 Q (F0 m 298 ls []) := by
  intro ls H locs hl hC
  unfold p_M_findSums_L298 at hf
  refine lv_iload_n Fx.1 Fx.2.1 dX10_findSums_298 rfl (lv_at hl 2 rfl) ?_
  refine lv_aload_n Fx.1 Fx.2.1 dX10_findSums_299 rfl (lv_at hl 0 rfl) ?_
  refine gg_M_neck Fx hC wd_592 dX10_findSums_300 ?_
  refine lv_icmp_gt (tgt := 353) Fx.1 Fx.2.1 dX10_findSums_303 (by decide) (fun hc => ?_) (fun hc => ?_)
  · replace hf := ift hc hf
    refine lv_iload_n Fx.1 Fx.2.1 dX10_findSums_353 rfl (lv_at hl 1 rfl) ?_
    obtain rfl := Option.some.inj hf
    exact hret _ _ _ _ dX10_findSums_354 hC
  · replace hf := iff_ hc hf
    refine lv_aload_n Fx.1 Fx.2.1 dX10_findSums_306 rfl (lv_at hl 0 rfl) ?_
    refine gg_M_sums Fx hC wd_612 dX10_findSums_307 ?_
    refine lv_aload_n Fx.1 Fx.2.1 dX10_findSums_310 rfl (lv_at hl 0 rfl) ?_
    refine gg_M_events Fx hC wd_595 dX10_findSums_311 ?_
    refine lv_iconst (v := (1 : Int32)) Fx.1 Fx.2.1 dX10_findSums_314 (by decide) ?_
    refine lv_isub Fx.1 Fx.2.1 dX10_findSums_315 ?_
    obtain ⟨u1, hu1, hf⟩ := bd_e hf
    refine ca_s (As := [.int ((g 3) - (1 : Int32))]) (rest := [.ref (ad 15)]) Fx hC (k_M_at_ hu1) (cSU 1 Fx.2.2.2.2 wd_755 wd_756 wd_10 wd_757 rfl rfl hd_M_at_ ⟨Nat.le_of_ble_eq_true rfl, Nat.le_of_ble_eq_true rfl⟩) rfl hl.1 rfl (Nat.le_of_ble_eq_true rfl) dX10_findSums_316 (fun H locs hC => ?_)
    refine lv_iload_n Fx.1 Fx.2.1 dX10_findSums_319 rfl (lv_at hl 2 rfl) ?_
    refine lv_iadd Fx.1 Fx.2.1 dX10_findSums_320 ?_
    obtain ⟨hi2, hf⟩ := gd_e hf
    refine ld_M_sums Fx hC hi2 dX10_findSums_321 ?_
    refine lv_iload_n Fx.1 Fx.2.1 dX10_findSums_322 rfl (lv_at hl 1 rfl) ?_
    refine lv_icmp_ge (tgt := 345) Fx.1 Fx.2.1 dX10_findSums_323 (by decide) (fun hc => ?_) (fun hc => ?_)
    · replace hf := ift hc hf
      refine lv_iload_n Fx.1 Fx.2.1 dX10_findSums_345 rfl (lv_at hl 1 rfl) ?_
      refine lv_istore_n (lv' := [(1, .int x1), (0, .ref (ad 0)), (2, .int x2)]) Fx.1 Fx.2.1 dX10_findSums_346 rfl hl (by decide) rfl (fun ls hl => ?_)
      obtain ⟨v3, ev3, hf⟩ := lt_e hf
      refine lv_iinc (v := v3) (lv' := [(2, .int v3), (1, .int x1), (0, .ref (ad 0))]) Fx.1 Fx.2.1 dX10_findSums_347 hl (k := 2) rfl ev3.symm (by decide) rfl (fun ls hl => ?_)
      refine lv_goto (tgt := 298) Fx.1 Fx.2.1 dX10_findSums_350 (by decide) ?_
      exact hK298 _ hf _ _ _ (lv_sub hl [2, 1, 0] rfl) hC
    · replace hf := iff_ hc hf
      refine lv_aload_n Fx.1 Fx.2.1 dX10_findSums_326 rfl (lv_at hl 0 rfl) ?_
      refine gg_M_sums Fx hC wd_612 dX10_findSums_327 ?_
      refine lv_aload_n Fx.1 Fx.2.1 dX10_findSums_330 rfl (lv_at hl 0 rfl) ?_
      refine gg_M_events Fx hC wd_595 dX10_findSums_331 ?_
      refine lv_iconst (v := (1 : Int32)) Fx.1 Fx.2.1 dX10_findSums_334 (by decide) ?_
      refine lv_isub Fx.1 Fx.2.1 dX10_findSums_335 ?_
      obtain ⟨u4, hu4, hf⟩ := bd_e hf
      refine ca_s (As := [.int ((g 3) - (1 : Int32))]) (rest := [.ref (ad 15)]) Fx hC (k_M_at_ hu4) (cSU 1 Fx.2.2.2.2 wd_755 wd_756 wd_10 wd_757 rfl rfl hd_M_at_ ⟨Nat.le_of_ble_eq_true rfl, Nat.le_of_ble_eq_true rfl⟩) rfl hl.1 rfl (Nat.le_of_ble_eq_true rfl) dX10_findSums_336 (fun H locs hC => ?_)
      refine lv_iload_n Fx.1 Fx.2.1 dX10_findSums_339 rfl (lv_at hl 2 rfl) ?_
      refine lv_iadd Fx.1 Fx.2.1 dX10_findSums_340 ?_
      obtain ⟨hi5, hf⟩ := gd_e hf
      refine ld_M_sums Fx hC hi5 dX10_findSums_341 ?_
      refine lv_goto (tgt := 346) Fx.1 Fx.2.1 dX10_findSums_342 (by decide) ?_
      obtain ⟨v6, ev6, hf⟩ := lt_e hf
      refine tpi ev6 ?_
      refine lv_istore_n (lv' := [(1, .int v6), (0, .ref (ad 0)), (2, .int x2)]) Fx.1 Fx.2.1 dX10_findSums_346 rfl hl (by decide) rfl (fun ls hl => ?_)
      obtain ⟨v7, ev7, hf⟩ := lt_e hf
      refine lv_iinc (v := v7) (lv' := [(2, .int v7), (1, .int v6), (0, .ref (ad 0))]) Fx.1 Fx.2.1 dX10_findSums_347 hl (k := 2) rfl ev7.symm (by decide) rfl (fun ls hl => ?_)
      refine lv_goto (tgt := 298) Fx.1 Fx.2.1 dX10_findSums_350 (by decide) ?_
      exact hK298 _ hf _ _ _ (lv_sub hl [2, 1, 0] rfl) hC
set_option maxRecDepth 100000 in
set_option maxHeartbeats 4000000 in
theorem t_M_findSums_L298 {p : Program} {l : Launch} {e : Env} {s : State} {m : MethodId} {args : Array Value} {below : List Frame} {meth : Method} {c : Code} {Q : State → Prop} {D : va_G} {ad : Nat → Nat} {cy : Nat → ClassId} {A : Nat → Prop} {H0 : Heap} {u : Int32 × sG × sF} (Fx : CallFix p m c cX10_findSums 8 s args (Cond.code yX10_findSums cX10_findSums 8 (some .int) :: wU) RX10) (hret : mRi p l e rm_M_findSums s m args below meth c Q D (mT cy) (mW ad cy) A H0 cX10_findSums u)  (n : Nat) (z : Int32 × Int32 × sG × sF) (hz : itr (fun K z => p_M_findSums_L298 K z.1 z.2.1 z.2.2.1 z.2.2.2) n z = some u) : ∀ (ls : Array Slot) (H : Heap) (locs : List Loc), lv_has ls 8 [(0, .ref (ad 0)), (1, .int z.1), (2, .int z.2.1)] → wH D (mT cy) (mW ad cy) A H0 s z.2.2.1 z.2.2.2 H locs → W p l e rm_M_findSums s m args below meth c H locs 0 0 Q (F0 m 298 ls []) :=
  itr_all (B := fun K z => p_M_findSums_L298 K z.1 z.2.1 z.2.2.1 z.2.2.2) (r := u) (fun z => ∀ (ls : Array Slot) (H : Heap) (locs : List Loc), lv_has ls 8 [(0, .ref (ad 0)), (1, .int z.1), (2, .int z.2.1)] → wH D (mT cy) (mW ad cy) A H0 s z.2.2.1 z.2.2.2 H locs → W p l e rm_M_findSums s m args below meth c H locs 0 0 Q (F0 m 298 ls [])) (fun K hK z h => s_M_findSums_L298 (K298 := K) Fx hret hK z.1 z.2.1 z.2.2.1 z.2.2.2 h) n z hz
noncomputable def p_M_findSums_J275 (K2 : (Int32 × sG × sF) → Option (Int32 × sG × sF)) (K22 : (Int32 × Int32 × sG × sF) → Option (Int32 × sG × sF)) (x1 : Int32) (x2 : Int32) (y0 : Int32) (y1 : Int32) (g : sG) (f : sF) : Option (Int32 × sG × sF) := (if y1 < 0 ∨ 1000 ≤ y1.toNatClampNeg then none else lt_ (up2 f 15 y1.toNatClampNeg y0) (fun f2 => lt_ (x2 + (1 : Int32)) (fun v3 => K22 (x1, v3, g, f2))))
set_option maxRecDepth 100000 in
set_option maxHeartbeats 4000000 in
theorem s_M_findSums_J275 {K2 : (Int32 × sG × sF) → Option (Int32 × sG × sF)} {K22 : (Int32 × Int32 × sG × sF) → Option (Int32 × sG × sF)} {p : Program} {l : Launch} {e : Env} {s : State} {m : MethodId} {args : Array Value} {below : List Frame} {meth : Method} {c : Code} {Q : State → Prop} {D : va_G} {ad : Nat → Nat} {cy : Nat → ClassId} {A : Nat → Prop} {H0 : Heap} {u : Int32 × sG × sF} (Fx : CallFix p m c cX10_findSums 8 s args (Cond.code yX10_findSums cX10_findSums 8 (some .int) :: wU) RX10) (hret : mRi p l e rm_M_findSums s m args below meth c Q D (mT cy) (mW ad cy) A H0 cX10_findSums u) (hK2 : ∀ (z : Int32 × sG × sF), K2 z = some u → ∀ (ls : Array Slot) (H : Heap) (locs : List Loc), lv_has ls 8 [(0, .ref (ad 0)), (1, .int z.1)] → wH D (mT cy) (mW ad cy) A H0 s z.2.1 z.2.2 H locs → W p l e rm_M_findSums s m args below meth c H locs 0 0 Q (F0 m 2 ls [])) (hK22 : ∀ (z : Int32 × Int32 × sG × sF), K22 z = some u → ∀ (ls : Array Slot) (H : Heap) (locs : List Loc), lv_has ls 8 [(0, .ref (ad 0)), (1, .int z.1), (2, .int z.2.1)] → wH D (mT cy) (mW ad cy) A H0 s z.2.2.1 z.2.2.2 H locs → W p l e rm_M_findSums s m args below meth c H locs 0 0 Q (F0 m 22 ls [])) (x1 : Int32) (x2 : Int32) (y0 : Int32) (y1 : Int32) (g : sG) (f : sF) (hf : p_M_findSums_J275 K2 K22 x1 x2 y0 y1 g f = some u) : ∀ (ls : Array Slot) (H : Heap) (locs : List Loc), lv_has ls 8 [(0, .ref (ad 0)), (1, .int x1), (2, .int x2)] → wH D (mT cy) (mW ad cy) A H0 s g f H locs → W p l e rm_M_findSums s m args below meth c H locs 0 0 Q (F0 m 275 ls [.int y0, .int y1, .ref (ad 16)]) := by
  intro ls H locs hl hC
  unfold p_M_findSums_J275 at hf
  obtain ⟨hi1, hf⟩ := gd_e hf
  obtain ⟨f2, ef2, hf⟩ := lt_e hf
  refine st_M_rows Fx hC hi1 ef2 dX10_findSums_275 (fun H locs hC => ?_)
  obtain ⟨v3, ev3, hf⟩ := lt_e hf
  refine lv_iinc (v := v3) (lv' := [(2, .int v3), (0, .ref (ad 0)), (1, .int x1)]) Fx.1 Fx.2.1 dX10_findSums_276 hl (k := 2) rfl ev3.symm (by decide) rfl (fun ls hl => ?_)
  refine lv_goto (tgt := 22) Fx.1 Fx.2.1 dX10_findSums_279 (by decide) ?_
  exact hK22 _ hf _ _ _ (lv_sub hl [1, 2, 0] rfl) hC
noncomputable def p_M_findSums_J233 (K2 : (Int32 × sG × sF) → Option (Int32 × sG × sF)) (K22 : (Int32 × Int32 × sG × sF) → Option (Int32 × sG × sF)) (x1 : Int32) (x2 : Int32) (x4 : Int64) (x6 : Int32) (y0 : Int32) (y1 : Int32) (g : sG) (f : sF) : Option (Int32 × sG × sF) := (if y1 < 0 ∨ 1000 ≤ y1.toNatClampNeg then none else lt_ (up2 f 14 y1.toNatClampNeg y0) (fun f2 => Option.bind (p_M_at_ x1 g f2) (fun u3 => (if x6 = 0 then p_M_findSums_J275 K2 K22 x1 x2 (0 : Int32) (u3 + x2) g f2 else Option.bind (p_M_few x4 g f2) (fun u4 => Option.bind (p_M_at_ x1 g f2) (fun u5 => (if (u5 + x2) < 0 ∨ 1000 ≤ (u5 + x2).toNatClampNeg then none else Option.bind (p_M_few (u4.toInt64 * ((f2 13 (u5 + x2).toNatClampNeg).toInt64)) g f2) (fun u7 => p_M_findSums_J275 K2 K22 x1 x2 u7 (u3 + x2) g f2))))))))
set_option maxRecDepth 100000 in
set_option maxHeartbeats 4000000 in
theorem s_M_findSums_J233 {K2 : (Int32 × sG × sF) → Option (Int32 × sG × sF)} {K22 : (Int32 × Int32 × sG × sF) → Option (Int32 × sG × sF)} {p : Program} {l : Launch} {e : Env} {s : State} {m : MethodId} {args : Array Value} {below : List Frame} {meth : Method} {c : Code} {Q : State → Prop} {D : va_G} {ad : Nat → Nat} {cy : Nat → ClassId} {A : Nat → Prop} {H0 : Heap} {u : Int32 × sG × sF} (Fx : CallFix p m c cX10_findSums 8 s args (Cond.code yX10_findSums cX10_findSums 8 (some .int) :: wU) RX10) (hret : mRi p l e rm_M_findSums s m args below meth c Q D (mT cy) (mW ad cy) A H0 cX10_findSums u) (hK2 : ∀ (z : Int32 × sG × sF), K2 z = some u → ∀ (ls : Array Slot) (H : Heap) (locs : List Loc), lv_has ls 8 [(0, .ref (ad 0)), (1, .int z.1)] → wH D (mT cy) (mW ad cy) A H0 s z.2.1 z.2.2 H locs → W p l e rm_M_findSums s m args below meth c H locs 0 0 Q (F0 m 2 ls [])) (hK22 : ∀ (z : Int32 × Int32 × sG × sF), K22 z = some u → ∀ (ls : Array Slot) (H : Heap) (locs : List Loc), lv_has ls 8 [(0, .ref (ad 0)), (1, .int z.1), (2, .int z.2.1)] → wH D (mT cy) (mW ad cy) A H0 s z.2.2.1 z.2.2.2 H locs → W p l e rm_M_findSums s m args below meth c H locs 0 0 Q (F0 m 22 ls [])) (x1 : Int32) (x2 : Int32) (x4 : Int64) (x6 : Int32) (y0 : Int32) (y1 : Int32) (g : sG) (f : sF) (hf : p_M_findSums_J233 K2 K22 x1 x2 x4 x6 y0 y1 g f = some u) : ∀ (ls : Array Slot) (H : Heap) (locs : List Loc), lv_has ls 8 [(0, .ref (ad 0)), (1, .int x1), (2, .int x2), (4, .long x4), (6, .int x6)] → wH D (mT cy) (mW ad cy) A H0 s g f H locs → W p l e rm_M_findSums s m args below meth c H locs 0 0 Q (F0 m 233 ls [.int y0, .int y1, .ref (ad 15)]) := by
  intro ls H locs hl hC
  unfold p_M_findSums_J233 at hf
  obtain ⟨hi1, hf⟩ := gd_e hf
  obtain ⟨f2, ef2, hf⟩ := lt_e hf
  refine st_M_sums Fx hC hi1 ef2 dX10_findSums_233 (fun H locs hC => ?_)
  refine lv_aload_n Fx.1 Fx.2.1 dX10_findSums_234 rfl (lv_at hl 0 rfl) ?_
  refine gg_M_rows Fx hC wd_613 dX10_findSums_235 ?_
  refine lv_iload_n Fx.1 Fx.2.1 dX10_findSums_238 rfl (lv_at hl 1 rfl) ?_
  obtain ⟨u3, hu3, hf⟩ := bd_e hf
  refine ca_s (As := [.int x1]) (rest := [.ref (ad 16)]) Fx hC (k_M_at_ hu3) (cSU 1 Fx.2.2.2.2 wd_755 wd_756 wd_10 wd_757 rfl rfl hd_M_at_ ⟨Nat.le_of_ble_eq_true rfl, Nat.le_of_ble_eq_true rfl⟩) rfl hl.1 rfl (Nat.le_of_ble_eq_true rfl) dX10_findSums_239 (fun H locs hC => ?_)
  refine lv_iload_n Fx.1 Fx.2.1 dX10_findSums_242 rfl (lv_at hl 2 rfl) ?_
  refine lv_iadd Fx.1 Fx.2.1 dX10_findSums_243 ?_
  refine lv_iload Fx.1 Fx.2.1 dX10_findSums_244 (lv_at hl 4 rfl) ?_
  refine lv_if_eq (tgt := 274) Fx.1 Fx.2.1 dX10_findSums_246 (by decide) (fun hc => ?_) (fun hc => ?_)
  · replace hf := ift hc hf
    refine lv_iconst (v := (0 : Int32)) Fx.1 Fx.2.1 dX10_findSums_274 (by decide) ?_
    exact s_M_findSums_J275 Fx hret hK2 hK22 _ _ _ _ _ _  hf _ _ _ (lv_sub hl [0, 1, 2] rfl) hC
  · replace hf := iff_ hc hf
    refine lv_lload Fx.1 Fx.2.1 dX10_findSums_249 (lv_at hl 3 rfl) ?_
    obtain ⟨u4, hu4, hf⟩ := bd_e hf
    refine ca_s (As := [.long x4]) (rest := [.int (u3 + x2), .ref (ad 16)]) Fx hC (k_M_few hu4) (cSU 1 Fx.2.2.2.2 wd_761 wd_762 wd_10 wd_763 rfl rfl hd_M_few ⟨Nat.le_of_ble_eq_true rfl, Nat.le_of_ble_eq_true rfl⟩) rfl hl.1 rfl (Nat.le_of_ble_eq_true rfl) dX10_findSums_251 (fun H locs hC => ?_)
    refine lv_i2l (v := u4.toInt64) Fx.1 Fx.2.1 dX10_findSums_254 rfl ?_
    refine lv_aload_n Fx.1 Fx.2.1 dX10_findSums_255 rfl (lv_at hl 0 rfl) ?_
    refine gg_M_manyLeast Fx hC wd_611 dX10_findSums_256 ?_
    refine lv_iload_n Fx.1 Fx.2.1 dX10_findSums_259 rfl (lv_at hl 1 rfl) ?_
    obtain ⟨u5, hu5, hf⟩ := bd_e hf
    refine ca_s (As := [.int x1]) (rest := [.ref (ad 14), .long u4.toInt64, .int (u3 + x2), .ref (ad 16)]) Fx hC (k_M_at_ hu5) (cSU 1 Fx.2.2.2.2 wd_755 wd_756 wd_10 wd_757 rfl rfl hd_M_at_ ⟨Nat.le_of_ble_eq_true rfl, Nat.le_of_ble_eq_true rfl⟩) rfl hl.1 rfl (Nat.le_of_ble_eq_true rfl) dX10_findSums_260 (fun H locs hC => ?_)
    refine lv_iload_n Fx.1 Fx.2.1 dX10_findSums_263 rfl (lv_at hl 2 rfl) ?_
    refine lv_iadd Fx.1 Fx.2.1 dX10_findSums_264 ?_
    obtain ⟨hi6, hf⟩ := gd_e hf
    refine ld_M_manyLeast Fx hC hi6 dX10_findSums_265 ?_
    refine lv_i2l (v := (f2 13 (u5 + x2).toNatClampNeg).toInt64) Fx.1 Fx.2.1 dX10_findSums_266 rfl ?_
    refine lv_lmul Fx.1 Fx.2.1 dX10_findSums_267 ?_
    obtain ⟨u7, hu7, hf⟩ := bd_e hf
    refine ca_s (As := [.long (u4.toInt64 * ((f2 13 (u5 + x2).toNatClampNeg).toInt64))]) (rest := [.int (u3 + x2), .ref (ad 16)]) Fx hC (k_M_few hu7) (cSU 1 Fx.2.2.2.2 wd_761 wd_762 wd_10 wd_763 rfl rfl hd_M_few ⟨Nat.le_of_ble_eq_true rfl, Nat.le_of_ble_eq_true rfl⟩) rfl hl.1 rfl (Nat.le_of_ble_eq_true rfl) dX10_findSums_268 (fun H locs hC => ?_)
    refine lv_goto (tgt := 275) Fx.1 Fx.2.1 dX10_findSums_271 (by decide) ?_
    exact s_M_findSums_J275 Fx hret hK2 hK22 _ _ _ _ _ _  hf _ _ _ (lv_sub hl [0, 1, 2] rfl) hC
noncomputable def p_M_findSums_J198 (K2 : (Int32 × sG × sF) → Option (Int32 × sG × sF)) (K22 : (Int32 × Int32 × sG × sF) → Option (Int32 × sG × sF)) (x1 : Int32) (x2 : Int32) (x3 : Int32) (x4 : Int64) (y0 : Int32) (g : sG) (f : sF) : Option (Int32 × sG × sF) := Option.bind (p_M_at_ x1 g f) (fun u1 => (if y0 = 0 then p_M_findSums_J233 K2 K22 x1 x2 x4 y0 (100000000 : Int32) (u1 + x2) g f else Option.bind (p_M_at_ x1 g f) (fun u2 => (if (u2 + x2) < 0 ∨ 1000 ≤ (u2 + x2).toNatClampNeg then none else p_M_findSums_J233 K2 K22 x1 x2 x4 y0 (x3 + (f 12 (u2 + x2).toNatClampNeg)) (u1 + x2) g f))))
set_option maxRecDepth 100000 in
set_option maxHeartbeats 4000000 in
theorem s_M_findSums_J198 {K2 : (Int32 × sG × sF) → Option (Int32 × sG × sF)} {K22 : (Int32 × Int32 × sG × sF) → Option (Int32 × sG × sF)} {p : Program} {l : Launch} {e : Env} {s : State} {m : MethodId} {args : Array Value} {below : List Frame} {meth : Method} {c : Code} {Q : State → Prop} {D : va_G} {ad : Nat → Nat} {cy : Nat → ClassId} {A : Nat → Prop} {H0 : Heap} {u : Int32 × sG × sF} (Fx : CallFix p m c cX10_findSums 8 s args (Cond.code yX10_findSums cX10_findSums 8 (some .int) :: wU) RX10) (hret : mRi p l e rm_M_findSums s m args below meth c Q D (mT cy) (mW ad cy) A H0 cX10_findSums u) (hK2 : ∀ (z : Int32 × sG × sF), K2 z = some u → ∀ (ls : Array Slot) (H : Heap) (locs : List Loc), lv_has ls 8 [(0, .ref (ad 0)), (1, .int z.1)] → wH D (mT cy) (mW ad cy) A H0 s z.2.1 z.2.2 H locs → W p l e rm_M_findSums s m args below meth c H locs 0 0 Q (F0 m 2 ls [])) (hK22 : ∀ (z : Int32 × Int32 × sG × sF), K22 z = some u → ∀ (ls : Array Slot) (H : Heap) (locs : List Loc), lv_has ls 8 [(0, .ref (ad 0)), (1, .int z.1), (2, .int z.2.1)] → wH D (mT cy) (mW ad cy) A H0 s z.2.2.1 z.2.2.2 H locs → W p l e rm_M_findSums s m args below meth c H locs 0 0 Q (F0 m 22 ls [])) (x1 : Int32) (x2 : Int32) (x3 : Int32) (x4 : Int64) (y0 : Int32) (g : sG) (f : sF) (hf : p_M_findSums_J198 K2 K22 x1 x2 x3 x4 y0 g f = some u) : ∀ (ls : Array Slot) (H : Heap) (locs : List Loc), lv_has ls 8 [(0, .ref (ad 0)), (1, .int x1), (2, .int x2), (3, .int x3), (4, .long x4)] → wH D (mT cy) (mW ad cy) A H0 s g f H locs → W p l e rm_M_findSums s m args below meth c H locs 0 0 Q (F0 m 198 ls [.int y0]) := by
  intro ls H locs hl hC
  unfold p_M_findSums_J198 at hf
  refine lv_istore (lv' := [(6, .int y0), (0, .ref (ad 0)), (1, .int x1), (2, .int x2), (3, .int x3), (4, .long x4)]) Fx.1 Fx.2.1 dX10_findSums_198 hl (by decide) rfl (fun ls hl => ?_)
  refine lv_aload_n Fx.1 Fx.2.1 dX10_findSums_200 rfl (lv_at hl 1 rfl) ?_
  refine gg_M_sums Fx hC wd_612 dX10_findSums_201 ?_
  refine lv_iload_n Fx.1 Fx.2.1 dX10_findSums_204 rfl (lv_at hl 2 rfl) ?_
  obtain ⟨u1, hu1, hf⟩ := bd_e hf
  refine ca_s (As := [.int x1]) (rest := [.ref (ad 15)]) Fx hC (k_M_at_ hu1) (cSU 1 Fx.2.2.2.2 wd_755 wd_756 wd_10 wd_757 rfl rfl hd_M_at_ ⟨Nat.le_of_ble_eq_true rfl, Nat.le_of_ble_eq_true rfl⟩) rfl hl.1 rfl (Nat.le_of_ble_eq_true rfl) dX10_findSums_205 (fun H locs hC => ?_)
  refine lv_iload_n Fx.1 Fx.2.1 dX10_findSums_208 rfl (lv_at hl 3 rfl) ?_
  refine lv_iadd Fx.1 Fx.2.1 dX10_findSums_209 ?_
  refine lv_iload Fx.1 Fx.2.1 dX10_findSums_210 (lv_at hl 0 rfl) ?_
  refine lv_if_eq (tgt := 231) Fx.1 Fx.2.1 dX10_findSums_212 (by decide) (fun hc => ?_) (fun hc => ?_)
  · replace hf := ift hc hf
    refine lv_ldc (v := (100000000 : Int32)) Fx.1 Fx.2.1 Fx.2.2.2.1 (Fx.2.2.2.2 _ (List.mem_cons_of_mem _ wd_754)) dX10_findSums_231 ?_
    exact s_M_findSums_J233 Fx hret hK2 hK22 _ _ _ _ _ _ _ _  hf _ _ _ (lv_sub hl [1, 2, 3, 5, 0] rfl) hC
  · replace hf := iff_ hc hf
    refine lv_iload_n Fx.1 Fx.2.1 dX10_findSums_215 rfl (lv_at hl 4 rfl) ?_
    refine lv_aload_n Fx.1 Fx.2.1 dX10_findSums_216 rfl (lv_at hl 1 rfl) ?_
    refine gg_M_least Fx hC wd_610 dX10_findSums_217 ?_
    refine lv_iload_n Fx.1 Fx.2.1 dX10_findSums_220 rfl (lv_at hl 2 rfl) ?_
    obtain ⟨u2, hu2, hf⟩ := bd_e hf
    refine ca_s (As := [.int x1]) (rest := [.ref (ad 13), .int x3, .int (u1 + x2), .ref (ad 15)]) Fx hC (k_M_at_ hu2) (cSU 1 Fx.2.2.2.2 wd_755 wd_756 wd_10 wd_757 rfl rfl hd_M_at_ ⟨Nat.le_of_ble_eq_true rfl, Nat.le_of_ble_eq_true rfl⟩) rfl hl.1 rfl (Nat.le_of_ble_eq_true rfl) dX10_findSums_221 (fun H locs hC => ?_)
    refine lv_iload_n Fx.1 Fx.2.1 dX10_findSums_224 rfl (lv_at hl 3 rfl) ?_
    refine lv_iadd Fx.1 Fx.2.1 dX10_findSums_225 ?_
    obtain ⟨hi3, hf⟩ := gd_e hf
    refine ld_M_least Fx hC hi3 dX10_findSums_226 ?_
    refine lv_iadd Fx.1 Fx.2.1 dX10_findSums_227 ?_
    refine lv_goto (tgt := 233) Fx.1 Fx.2.1 dX10_findSums_228 (by decide) ?_
    exact s_M_findSums_J233 Fx hret hK2 hK22 _ _ _ _ _ _ _ _  hf _ _ _ (lv_sub hl [1, 2, 3, 5, 0] rfl) hC
noncomputable def p_M_findSums_J197 (K2 : (Int32 × sG × sF) → Option (Int32 × sG × sF)) (K22 : (Int32 × Int32 × sG × sF) → Option (Int32 × sG × sF)) (x1 : Int32) (x2 : Int32) (x3 : Int32) (x4 : Int64) (g : sG) (f : sF) : Option (Int32 × sG × sF) := p_M_findSums_J198 K2 K22 x1 x2 x3 x4 (0 : Int32) g f
set_option maxRecDepth 100000 in
set_option maxHeartbeats 4000000 in
theorem s_M_findSums_J197 {K2 : (Int32 × sG × sF) → Option (Int32 × sG × sF)} {K22 : (Int32 × Int32 × sG × sF) → Option (Int32 × sG × sF)} {p : Program} {l : Launch} {e : Env} {s : State} {m : MethodId} {args : Array Value} {below : List Frame} {meth : Method} {c : Code} {Q : State → Prop} {D : va_G} {ad : Nat → Nat} {cy : Nat → ClassId} {A : Nat → Prop} {H0 : Heap} {u : Int32 × sG × sF} (Fx : CallFix p m c cX10_findSums 8 s args (Cond.code yX10_findSums cX10_findSums 8 (some .int) :: wU) RX10) (hret : mRi p l e rm_M_findSums s m args below meth c Q D (mT cy) (mW ad cy) A H0 cX10_findSums u) (hK2 : ∀ (z : Int32 × sG × sF), K2 z = some u → ∀ (ls : Array Slot) (H : Heap) (locs : List Loc), lv_has ls 8 [(0, .ref (ad 0)), (1, .int z.1)] → wH D (mT cy) (mW ad cy) A H0 s z.2.1 z.2.2 H locs → W p l e rm_M_findSums s m args below meth c H locs 0 0 Q (F0 m 2 ls [])) (hK22 : ∀ (z : Int32 × Int32 × sG × sF), K22 z = some u → ∀ (ls : Array Slot) (H : Heap) (locs : List Loc), lv_has ls 8 [(0, .ref (ad 0)), (1, .int z.1), (2, .int z.2.1)] → wH D (mT cy) (mW ad cy) A H0 s z.2.2.1 z.2.2.2 H locs → W p l e rm_M_findSums s m args below meth c H locs 0 0 Q (F0 m 22 ls [])) (x1 : Int32) (x2 : Int32) (x3 : Int32) (x4 : Int64) (g : sG) (f : sF) (hf : p_M_findSums_J197 K2 K22 x1 x2 x3 x4 g f = some u) : ∀ (ls : Array Slot) (H : Heap) (locs : List Loc), lv_has ls 8 [(0, .ref (ad 0)), (1, .int x1), (2, .int x2), (3, .int x3), (4, .long x4)] → wH D (mT cy) (mW ad cy) A H0 s g f H locs → W p l e rm_M_findSums s m args below meth c H locs 0 0 Q (F0 m 197 ls []) := by
  intro ls H locs hl hC
  unfold p_M_findSums_J197 at hf
  refine lv_iconst (v := (0 : Int32)) Fx.1 Fx.2.1 dX10_findSums_197 (by decide) ?_
  exact s_M_findSums_J198 Fx hret hK2 hK22 _ _ _ _ _ _ _  hf _ _ _ (lv_sub hl [0, 1, 2, 3, 4] rfl) hC
noncomputable def p_M_findSums_J171 (K2 : (Int32 × sG × sF) → Option (Int32 × sG × sF)) (K22 : (Int32 × Int32 × sG × sF) → Option (Int32 × sG × sF)) (x1 : Int32) (x2 : Int32) (x3 : Int32) (x4 : Int64) (g : sG) (f : sF) : Option (Int32 × sG × sF) := Option.bind (p_M_at_ x1 g f) (fun u1 => (if (u1 + x2) < 0 ∨ 1000 ≤ (u1 + x2).toNatClampNeg then none else (if (100000000 : Int32) ≤ (f 12 (u1 + x2).toNatClampNeg) then p_M_findSums_J197 K2 K22 x1 x2 x3 x4 g f else (if (100000000 : Int32) ≤ x3 then p_M_findSums_J197 K2 K22 x1 x2 x3 x4 g f else p_M_findSums_J198 K2 K22 x1 x2 x3 x4 (1 : Int32) g f))))
set_option maxRecDepth 100000 in
set_option maxHeartbeats 4000000 in
theorem s_M_findSums_J171 {K2 : (Int32 × sG × sF) → Option (Int32 × sG × sF)} {K22 : (Int32 × Int32 × sG × sF) → Option (Int32 × sG × sF)} {p : Program} {l : Launch} {e : Env} {s : State} {m : MethodId} {args : Array Value} {below : List Frame} {meth : Method} {c : Code} {Q : State → Prop} {D : va_G} {ad : Nat → Nat} {cy : Nat → ClassId} {A : Nat → Prop} {H0 : Heap} {u : Int32 × sG × sF} (Fx : CallFix p m c cX10_findSums 8 s args (Cond.code yX10_findSums cX10_findSums 8 (some .int) :: wU) RX10) (hret : mRi p l e rm_M_findSums s m args below meth c Q D (mT cy) (mW ad cy) A H0 cX10_findSums u) (hK2 : ∀ (z : Int32 × sG × sF), K2 z = some u → ∀ (ls : Array Slot) (H : Heap) (locs : List Loc), lv_has ls 8 [(0, .ref (ad 0)), (1, .int z.1)] → wH D (mT cy) (mW ad cy) A H0 s z.2.1 z.2.2 H locs → W p l e rm_M_findSums s m args below meth c H locs 0 0 Q (F0 m 2 ls [])) (hK22 : ∀ (z : Int32 × Int32 × sG × sF), K22 z = some u → ∀ (ls : Array Slot) (H : Heap) (locs : List Loc), lv_has ls 8 [(0, .ref (ad 0)), (1, .int z.1), (2, .int z.2.1)] → wH D (mT cy) (mW ad cy) A H0 s z.2.2.1 z.2.2.2 H locs → W p l e rm_M_findSums s m args below meth c H locs 0 0 Q (F0 m 22 ls [])) (x1 : Int32) (x2 : Int32) (x3 : Int32) (x4 : Int64) (g : sG) (f : sF) (hf : p_M_findSums_J171 K2 K22 x1 x2 x3 x4 g f = some u) : ∀ (ls : Array Slot) (H : Heap) (locs : List Loc), lv_has ls 8 [(0, .ref (ad 0)), (1, .int x1), (2, .int x2), (3, .int x3), (4, .long x4)] → wH D (mT cy) (mW ad cy) A H0 s g f H locs → W p l e rm_M_findSums s m args below meth c H locs 0 0 Q (F0 m 171 ls []) := by
  intro ls H locs hl hC
  unfold p_M_findSums_J171 at hf
  refine lv_aload_n Fx.1 Fx.2.1 dX10_findSums_171 rfl (lv_at hl 0 rfl) ?_
  refine gg_M_least Fx hC wd_610 dX10_findSums_172 ?_
  refine lv_iload_n Fx.1 Fx.2.1 dX10_findSums_175 rfl (lv_at hl 1 rfl) ?_
  obtain ⟨u1, hu1, hf⟩ := bd_e hf
  refine ca_s (As := [.int x1]) (rest := [.ref (ad 13)]) Fx hC (k_M_at_ hu1) (cSU 1 Fx.2.2.2.2 wd_755 wd_756 wd_10 wd_757 rfl rfl hd_M_at_ ⟨Nat.le_of_ble_eq_true rfl, Nat.le_of_ble_eq_true rfl⟩) rfl hl.1 rfl (Nat.le_of_ble_eq_true rfl) dX10_findSums_176 (fun H locs hC => ?_)
  refine lv_iload_n Fx.1 Fx.2.1 dX10_findSums_179 rfl (lv_at hl 2 rfl) ?_
  refine lv_iadd Fx.1 Fx.2.1 dX10_findSums_180 ?_
  obtain ⟨hi2, hf⟩ := gd_e hf
  refine ld_M_least Fx hC hi2 dX10_findSums_181 ?_
  refine lv_ldc (v := (100000000 : Int32)) Fx.1 Fx.2.1 Fx.2.2.2.1 (Fx.2.2.2.2 _ (List.mem_cons_of_mem _ wd_754)) dX10_findSums_182 ?_
  refine lv_icmp_ge (tgt := 197) Fx.1 Fx.2.1 dX10_findSums_184 (by decide) (fun hc => ?_) (fun hc => ?_)
  · replace hf := ift hc hf
    exact s_M_findSums_J197 Fx hret hK2 hK22 _ _ _ _ _ _  hf _ _ _ (lv_sub hl [0, 1, 2, 3, 4] rfl) hC
  · replace hf := iff_ hc hf
    refine lv_iload_n Fx.1 Fx.2.1 dX10_findSums_187 rfl (lv_at hl 3 rfl) ?_
    refine lv_ldc (v := (100000000 : Int32)) Fx.1 Fx.2.1 Fx.2.2.2.1 (Fx.2.2.2.2 _ (List.mem_cons_of_mem _ wd_754)) dX10_findSums_188 ?_
    refine lv_icmp_ge (tgt := 197) Fx.1 Fx.2.1 dX10_findSums_190 (by decide) (fun hc => ?_) (fun hc => ?_)
    · replace hf := ift hc hf
      exact s_M_findSums_J197 Fx hret hK2 hK22 _ _ _ _ _ _  hf _ _ _ (lv_sub hl [0, 1, 2, 3, 4] rfl) hC
    · replace hf := iff_ hc hf
      refine lv_iconst (v := (1 : Int32)) Fx.1 Fx.2.1 dX10_findSums_193 (by decide) ?_
      refine lv_goto (tgt := 198) Fx.1 Fx.2.1 dX10_findSums_194 (by decide) ?_
      exact s_M_findSums_J198 Fx hret hK2 hK22 _ _ _ _ _ _ _  hf _ _ _ (lv_sub hl [0, 1, 2, 3, 4] rfl) hC
noncomputable def p_M_findSums_J150 (K2 : (Int32 × sG × sF) → Option (Int32 × sG × sF)) (K22 : (Int32 × Int32 × sG × sF) → Option (Int32 × sG × sF)) (K60 : (Int32 × Int32 × Int32 × Int64 × Int32 × sG × sF) → Option (Int32 × sG × sF)) (x1 : Int32) (x2 : Int32) (x3 : Int32) (x6 : Int32) (x7 : Int32) (y0 : Int64) (g : sG) (f : sF) : Option (Int32 × sG × sF) := (if x3 ≤ x7 then lt_ (x6 + (1 : Int32)) (fun v1 => K60 (x1, x2, x3, y0, v1, g, f)) else lt_ (x6 + (1 : Int32)) (fun v2 => K60 (x1, x2, x7, y0, v2, g, f)))
set_option maxRecDepth 100000 in
set_option maxHeartbeats 4000000 in
theorem s_M_findSums_J150 {K2 : (Int32 × sG × sF) → Option (Int32 × sG × sF)} {K22 : (Int32 × Int32 × sG × sF) → Option (Int32 × sG × sF)} {K60 : (Int32 × Int32 × Int32 × Int64 × Int32 × sG × sF) → Option (Int32 × sG × sF)} {p : Program} {l : Launch} {e : Env} {s : State} {m : MethodId} {args : Array Value} {below : List Frame} {meth : Method} {c : Code} {Q : State → Prop} {D : va_G} {ad : Nat → Nat} {cy : Nat → ClassId} {A : Nat → Prop} {H0 : Heap} {u : Int32 × sG × sF} (Fx : CallFix p m c cX10_findSums 8 s args (Cond.code yX10_findSums cX10_findSums 8 (some .int) :: wU) RX10) (hret : mRi p l e rm_M_findSums s m args below meth c Q D (mT cy) (mW ad cy) A H0 cX10_findSums u) (hK2 : ∀ (z : Int32 × sG × sF), K2 z = some u → ∀ (ls : Array Slot) (H : Heap) (locs : List Loc), lv_has ls 8 [(0, .ref (ad 0)), (1, .int z.1)] → wH D (mT cy) (mW ad cy) A H0 s z.2.1 z.2.2 H locs → W p l e rm_M_findSums s m args below meth c H locs 0 0 Q (F0 m 2 ls [])) (hK22 : ∀ (z : Int32 × Int32 × sG × sF), K22 z = some u → ∀ (ls : Array Slot) (H : Heap) (locs : List Loc), lv_has ls 8 [(0, .ref (ad 0)), (1, .int z.1), (2, .int z.2.1)] → wH D (mT cy) (mW ad cy) A H0 s z.2.2.1 z.2.2.2 H locs → W p l e rm_M_findSums s m args below meth c H locs 0 0 Q (F0 m 22 ls [])) (hK60 : ∀ (z : Int32 × Int32 × Int32 × Int64 × Int32 × sG × sF), K60 z = some u → ∀ (ls : Array Slot) (H : Heap) (locs : List Loc), lv_has ls 8 [(0, .ref (ad 0)), (1, .int z.1), (2, .int z.2.1), (3, .int z.2.2.1), (4, .long z.2.2.2.1), (6, .int z.2.2.2.2.1)] → wH D (mT cy) (mW ad cy) A H0 s z.2.2.2.2.2.1 z.2.2.2.2.2.2 H locs → W p l e rm_M_findSums s m args below meth c H locs 0 0 Q (F0 m 60 ls [])) (x1 : Int32) (x2 : Int32) (x3 : Int32) (x6 : Int32) (x7 : Int32) (y0 : Int64) (g : sG) (f : sF) (hf : p_M_findSums_J150 K2 K22 K60 x1 x2 x3 x6 x7 y0 g f = some u) : ∀ (ls : Array Slot) (H : Heap) (locs : List Loc), lv_has ls 8 [(0, .ref (ad 0)), (1, .int x1), (2, .int x2), (3, .int x3), (6, .int x6), (7, .int x7)] → wH D (mT cy) (mW ad cy) A H0 s g f H locs → W p l e rm_M_findSums s m args below meth c H locs 0 0 Q (F0 m 150 ls [.long y0]) := by
  intro ls H locs hl hC
  unfold p_M_findSums_J150 at hf
  refine lv_lstore (lv' := [(4, .long y0), (0, .ref (ad 0)), (1, .int x1), (2, .int x2), (3, .int x3), (6, .int x6), (7, .int x7)]) Fx.1 Fx.2.1 dX10_findSums_150 hl (by decide) rfl (fun ls hl => ?_)
  refine lv_iload Fx.1 Fx.2.1 dX10_findSums_152 (lv_at hl 6 rfl) ?_
  refine lv_iload_n Fx.1 Fx.2.1 dX10_findSums_154 rfl (lv_at hl 4 rfl) ?_
  refine lv_icmp_ge (tgt := 163) Fx.1 Fx.2.1 dX10_findSums_155 (by decide) (fun hc => ?_) (fun hc => ?_)
  · replace hf := ift hc hf
    refine lv_iload_n Fx.1 Fx.2.1 dX10_findSums_163 rfl (lv_at hl 4 rfl) ?_
    refine lv_istore_n (lv' := [(3, .int x3), (4, .long y0), (0, .ref (ad 0)), (1, .int x1), (2, .int x2), (6, .int x6), (7, .int x7)]) Fx.1 Fx.2.1 dX10_findSums_164 rfl hl (by decide) rfl (fun ls hl => ?_)
    obtain ⟨v1, ev1, hf⟩ := lt_e hf
    refine lv_iinc (v := v1) (lv' := [(6, .int v1), (3, .int x3), (4, .long y0), (0, .ref (ad 0)), (1, .int x1), (2, .int x2), (7, .int x7)]) Fx.1 Fx.2.1 dX10_findSums_165 hl (k := 5) rfl ev1.symm (by decide) rfl (fun ls hl => ?_)
    refine lv_goto (tgt := 60) Fx.1 Fx.2.1 dX10_findSums_168 (by decide) ?_
    exact hK60 _ hf _ _ _ (lv_sub hl [3, 4, 5, 1, 2, 0] rfl) hC
  · replace hf := iff_ hc hf
    refine lv_iload Fx.1 Fx.2.1 dX10_findSums_158 (lv_at hl 6 rfl) ?_
    refine lv_goto (tgt := 164) Fx.1 Fx.2.1 dX10_findSums_160 (by decide) ?_
    refine lv_istore_n (lv' := [(3, .int x7), (4, .long y0), (0, .ref (ad 0)), (1, .int x1), (2, .int x2), (6, .int x6), (7, .int x7)]) Fx.1 Fx.2.1 dX10_findSums_164 rfl hl (by decide) rfl (fun ls hl => ?_)
    obtain ⟨v2, ev2, hf⟩ := lt_e hf
    refine lv_iinc (v := v2) (lv' := [(6, .int v2), (3, .int x7), (4, .long y0), (0, .ref (ad 0)), (1, .int x1), (2, .int x2), (7, .int x7)]) Fx.1 Fx.2.1 dX10_findSums_165 hl (k := 5) rfl ev2.symm (by decide) rfl (fun ls hl => ?_)
    refine lv_goto (tgt := 60) Fx.1 Fx.2.1 dX10_findSums_168 (by decide) ?_
    exact hK60 _ hf _ _ _ (lv_sub hl [3, 4, 5, 1, 2, 0] rfl) hC
noncomputable def p_M_findSums_L60 (K2 : (Int32 × sG × sF) → Option (Int32 × sG × sF)) (K22 : (Int32 × Int32 × sG × sF) → Option (Int32 × sG × sF)) (K60 : (Int32 × Int32 × Int32 × Int64 × Int32 × sG × sF) → Option (Int32 × sG × sF)) (x1 : Int32) (x2 : Int32) (x3 : Int32) (x4 : Int64) (x6 : Int32) (g : sG) (f : sF) : Option (Int32 × sG × sF) := (if (g 1) < x6 then p_M_findSums_J171 K2 K22 x1 x2 x3 x4 g f else (if x1 ≤ 0 then p_M_findSums_J171 K2 K22 x1 x2 x3 x4 g f else Option.bind (p_M_at_ (x1 - (1 : Int32)) g f) (fun u1 => (if (u1 + x6) < 0 ∨ 1000 ≤ (u1 + x6).toNatClampNeg then none else Option.bind (p_M_move x6 x2 g f) (fun u3 => lt_ ((f 14 (u1 + x6).toNatClampNeg) + u3) (fun v4 => (if x3 ≤ v4 then (if v4 = x3 then Option.bind (p_M_at_ (x1 - (1 : Int32)) g f) (fun u5 => (if (u5 + x6) < 0 ∨ 1000 ≤ (u5 + x6).toNatClampNeg then none else p_M_findSums_J150 K2 K22 K60 x1 x2 x3 x6 v4 (x4 + ((f 15 (u5 + x6).toNatClampNeg).toInt64)) g f)) else p_M_findSums_J150 K2 K22 K60 x1 x2 x3 x6 v4 x4 g f) else Option.bind (p_M_at_ (x1 - (1 : Int32)) g f) (fun u7 => (if (u7 + x6) < 0 ∨ 1000 ≤ (u7 + x6).toNatClampNeg then none else p_M_findSums_J150 K2 K22 K60 x1 x2 x3 x6 v4 ((f 15 (u7 + x6).toNatClampNeg).toInt64) g f)))))))))
set_option maxRecDepth 100000 in
set_option maxHeartbeats 4000000 in
theorem s_M_findSums_L60 {K2 : (Int32 × sG × sF) → Option (Int32 × sG × sF)} {K22 : (Int32 × Int32 × sG × sF) → Option (Int32 × sG × sF)} {K60 : (Int32 × Int32 × Int32 × Int64 × Int32 × sG × sF) → Option (Int32 × sG × sF)} {p : Program} {l : Launch} {e : Env} {s : State} {m : MethodId} {args : Array Value} {below : List Frame} {meth : Method} {c : Code} {Q : State → Prop} {D : va_G} {ad : Nat → Nat} {cy : Nat → ClassId} {A : Nat → Prop} {H0 : Heap} {u : Int32 × sG × sF} (Fx : CallFix p m c cX10_findSums 8 s args (Cond.code yX10_findSums cX10_findSums 8 (some .int) :: wU) RX10) (hret : mRi p l e rm_M_findSums s m args below meth c Q D (mT cy) (mW ad cy) A H0 cX10_findSums u) (hK2 : ∀ (z : Int32 × sG × sF), K2 z = some u → ∀ (ls : Array Slot) (H : Heap) (locs : List Loc), lv_has ls 8 [(0, .ref (ad 0)), (1, .int z.1)] → wH D (mT cy) (mW ad cy) A H0 s z.2.1 z.2.2 H locs → W p l e rm_M_findSums s m args below meth c H locs 0 0 Q (F0 m 2 ls [])) (hK22 : ∀ (z : Int32 × Int32 × sG × sF), K22 z = some u → ∀ (ls : Array Slot) (H : Heap) (locs : List Loc), lv_has ls 8 [(0, .ref (ad 0)), (1, .int z.1), (2, .int z.2.1)] → wH D (mT cy) (mW ad cy) A H0 s z.2.2.1 z.2.2.2 H locs → W p l e rm_M_findSums s m args below meth c H locs 0 0 Q (F0 m 22 ls [])) (hK60 : ∀ (z : Int32 × Int32 × Int32 × Int64 × Int32 × sG × sF), K60 z = some u → ∀ (ls : Array Slot) (H : Heap) (locs : List Loc), lv_has ls 8 [(0, .ref (ad 0)), (1, .int z.1), (2, .int z.2.1), (3, .int z.2.2.1), (4, .long z.2.2.2.1), (6, .int z.2.2.2.2.1)] → wH D (mT cy) (mW ad cy) A H0 s z.2.2.2.2.2.1 z.2.2.2.2.2.2 H locs → W p l e rm_M_findSums s m args below meth c H locs 0 0 Q (F0 m 60 ls [])) (x1 : Int32) (x2 : Int32) (x3 : Int32) (x4 : Int64) (x6 : Int32) (g : sG) (f : sF) (hf : p_M_findSums_L60 K2 K22 K60 x1 x2 x3 x4 x6 g f = some u) : ∀ (ls : Array Slot) (H : Heap) (locs : List Loc), lv_has ls 8 [(0, .ref (ad 0)), (1, .int x1), (2, .int x2), (3, .int x3), (4, .long x4), (6, .int x6)] → wH D (mT cy) (mW ad cy) A H0 s g f H locs → W p l e rm_M_findSums s m args below meth c H locs 0 0 Q (F0 m 60 ls []) := by
  intro ls H locs hl hC
  unfold p_M_findSums_L60 at hf
  refine lv_iload Fx.1 Fx.2.1 dX10_findSums_60 (lv_at hl 5 rfl) ?_
  refine lv_aload_n Fx.1 Fx.2.1 dX10_findSums_62 rfl (lv_at hl 0 rfl) ?_
  refine gg_M_neck Fx hC wd_592 dX10_findSums_63 ?_
  refine lv_icmp_gt (tgt := 171) Fx.1 Fx.2.1 dX10_findSums_66 (by decide) (fun hc => ?_) (fun hc => ?_)
  · replace hf := ift hc hf
    exact s_M_findSums_J171 Fx hret hK2 hK22 _ _ _ _ _ _  hf _ _ _ (lv_sub hl [0, 1, 2, 3, 4] rfl) hC
  · replace hf := iff_ hc hf
    refine lv_iload_n Fx.1 Fx.2.1 dX10_findSums_69 rfl (lv_at hl 1 rfl) ?_
    refine lv_if_le (tgt := 171) Fx.1 Fx.2.1 dX10_findSums_70 (by decide) (fun hc => ?_) (fun hc => ?_)
    · replace hf := ift hc hf
      exact s_M_findSums_J171 Fx hret hK2 hK22 _ _ _ _ _ _  hf _ _ _ (lv_sub hl [0, 1, 2, 3, 4] rfl) hC
    · replace hf := iff_ hc hf
      refine lv_aload_n Fx.1 Fx.2.1 dX10_findSums_73 rfl (lv_at hl 0 rfl) ?_
      refine gg_M_sums Fx hC wd_612 dX10_findSums_74 ?_
      refine lv_iload_n Fx.1 Fx.2.1 dX10_findSums_77 rfl (lv_at hl 1 rfl) ?_
      refine lv_iconst (v := (1 : Int32)) Fx.1 Fx.2.1 dX10_findSums_78 (by decide) ?_
      refine lv_isub Fx.1 Fx.2.1 dX10_findSums_79 ?_
      obtain ⟨u1, hu1, hf⟩ := bd_e hf
      refine ca_s (As := [.int (x1 - (1 : Int32))]) (rest := [.ref (ad 15)]) Fx hC (k_M_at_ hu1) (cSU 1 Fx.2.2.2.2 wd_755 wd_756 wd_10 wd_757 rfl rfl hd_M_at_ ⟨Nat.le_of_ble_eq_true rfl, Nat.le_of_ble_eq_true rfl⟩) rfl hl.1 rfl (Nat.le_of_ble_eq_true rfl) dX10_findSums_80 (fun H locs hC => ?_)
      refine lv_iload Fx.1 Fx.2.1 dX10_findSums_83 (lv_at hl 5 rfl) ?_
      refine lv_iadd Fx.1 Fx.2.1 dX10_findSums_85 ?_
      obtain ⟨hi2, hf⟩ := gd_e hf
      refine ld_M_sums Fx hC hi2 dX10_findSums_86 ?_
      refine lv_aload_n Fx.1 Fx.2.1 dX10_findSums_87 rfl (lv_at hl 0 rfl) ?_
      refine lv_iload Fx.1 Fx.2.1 dX10_findSums_88 (lv_at hl 5 rfl) ?_
      refine lv_iload_n Fx.1 Fx.2.1 dX10_findSums_90 rfl (lv_at hl 2 rfl) ?_
      obtain ⟨u3, hu3, hf⟩ := bd_e hf
      refine ca_i (As := [.int x6, .int x2]) (rest := [.int (f 14 (u1 + x6).toNatClampNeg)]) Fx hC (k_M_move hu3) (cVU 2 Fx.2.2.2.2 wd_758 wd_759 wd_892 wd_10 wd_760 rfl rfl hd_M_move ⟨Nat.le_of_ble_eq_true rfl, Nat.le_of_ble_eq_true rfl⟩) 0 rfl rfl rfl hl.1 rfl (Nat.le_of_ble_eq_true rfl) dX10_findSums_91 (fun H locs hC => ?_)
      refine lv_iadd Fx.1 Fx.2.1 dX10_findSums_94 ?_
      obtain ⟨v4, ev4, hf⟩ := lt_e hf
      refine tpi ev4 ?_
      refine lv_istore (lv' := [(7, .int v4), (0, .ref (ad 0)), (1, .int x1), (2, .int x2), (3, .int x3), (4, .long x4), (6, .int x6)]) Fx.1 Fx.2.1 dX10_findSums_95 hl (by decide) rfl (fun ls hl => ?_)
      refine lv_iload Fx.1 Fx.2.1 dX10_findSums_97 (lv_at hl 0 rfl) ?_
      refine lv_iload_n Fx.1 Fx.2.1 dX10_findSums_99 rfl (lv_at hl 4 rfl) ?_
      refine lv_icmp_ge (tgt := 121) Fx.1 Fx.2.1 dX10_findSums_100 (by decide) (fun hc => ?_) (fun hc => ?_)
      · replace hf := ift hc hf
        refine lv_iload Fx.1 Fx.2.1 dX10_findSums_121 (lv_at hl 0 rfl) ?_
        refine lv_iload_n Fx.1 Fx.2.1 dX10_findSums_123 rfl (lv_at hl 4 rfl) ?_
        refine lv_icmp_ne (tgt := 148) Fx.1 Fx.2.1 dX10_findSums_124 (by decide) (fun hc => ?_) (fun hc => ?_)
        · replace hf := iff_ hc hf
          refine lv_lload Fx.1 Fx.2.1 dX10_findSums_148 (lv_at hl 5 rfl) ?_
          exact s_M_findSums_J150 Fx hret hK2 hK22 hK60 _ _ _ _ _ _ _ _  hf _ _ _ (lv_sub hl [1, 2, 3, 4, 6, 0] rfl) hC
        · replace hf := ift hc hf
          refine lv_lload Fx.1 Fx.2.1 dX10_findSums_127 (lv_at hl 5 rfl) ?_
          refine lv_aload_n Fx.1 Fx.2.1 dX10_findSums_129 rfl (lv_at hl 1 rfl) ?_
          refine gg_M_rows Fx hC wd_613 dX10_findSums_130 ?_
          refine lv_iload_n Fx.1 Fx.2.1 dX10_findSums_133 rfl (lv_at hl 2 rfl) ?_
          refine lv_iconst (v := (1 : Int32)) Fx.1 Fx.2.1 dX10_findSums_134 (by decide) ?_
          refine lv_isub Fx.1 Fx.2.1 dX10_findSums_135 ?_
          obtain ⟨u5, hu5, hf⟩ := bd_e hf
          refine ca_s (As := [.int (x1 - (1 : Int32))]) (rest := [.ref (ad 16), .long x4]) Fx hC (k_M_at_ hu5) (cSU 1 Fx.2.2.2.2 wd_755 wd_756 wd_10 wd_757 rfl rfl hd_M_at_ ⟨Nat.le_of_ble_eq_true rfl, Nat.le_of_ble_eq_true rfl⟩) rfl hl.1 rfl (Nat.le_of_ble_eq_true rfl) dX10_findSums_136 (fun H locs hC => ?_)
          refine lv_iload Fx.1 Fx.2.1 dX10_findSums_139 (lv_at hl 6 rfl) ?_
          refine lv_iadd Fx.1 Fx.2.1 dX10_findSums_141 ?_
          obtain ⟨hi6, hf⟩ := gd_e hf
          refine ld_M_rows Fx hC hi6 dX10_findSums_142 ?_
          refine lv_i2l (v := (f 15 (u5 + x6).toNatClampNeg).toInt64) Fx.1 Fx.2.1 dX10_findSums_143 rfl ?_
          refine lv_ladd Fx.1 Fx.2.1 dX10_findSums_144 ?_
          refine lv_goto (tgt := 150) Fx.1 Fx.2.1 dX10_findSums_145 (by decide) ?_
          exact s_M_findSums_J150 Fx hret hK2 hK22 hK60 _ _ _ _ _ _ _ _  hf _ _ _ (lv_sub hl [1, 2, 3, 4, 6, 0] rfl) hC
      · replace hf := iff_ hc hf
        refine lv_aload_n Fx.1 Fx.2.1 dX10_findSums_103 rfl (lv_at hl 1 rfl) ?_
        refine gg_M_rows Fx hC wd_613 dX10_findSums_104 ?_
        refine lv_iload_n Fx.1 Fx.2.1 dX10_findSums_107 rfl (lv_at hl 2 rfl) ?_
        refine lv_iconst (v := (1 : Int32)) Fx.1 Fx.2.1 dX10_findSums_108 (by decide) ?_
        refine lv_isub Fx.1 Fx.2.1 dX10_findSums_109 ?_
        obtain ⟨u7, hu7, hf⟩ := bd_e hf
        refine ca_s (As := [.int (x1 - (1 : Int32))]) (rest := [.ref (ad 16)]) Fx hC (k_M_at_ hu7) (cSU 1 Fx.2.2.2.2 wd_755 wd_756 wd_10 wd_757 rfl rfl hd_M_at_ ⟨Nat.le_of_ble_eq_true rfl, Nat.le_of_ble_eq_true rfl⟩) rfl hl.1 rfl (Nat.le_of_ble_eq_true rfl) dX10_findSums_110 (fun H locs hC => ?_)
        refine lv_iload Fx.1 Fx.2.1 dX10_findSums_113 (lv_at hl 6 rfl) ?_
        refine lv_iadd Fx.1 Fx.2.1 dX10_findSums_115 ?_
        obtain ⟨hi8, hf⟩ := gd_e hf
        refine ld_M_rows Fx hC hi8 dX10_findSums_116 ?_
        refine lv_i2l (v := (f 15 (u7 + x6).toNatClampNeg).toInt64) Fx.1 Fx.2.1 dX10_findSums_117 rfl ?_
        refine lv_goto (tgt := 150) Fx.1 Fx.2.1 dX10_findSums_118 (by decide) ?_
        exact s_M_findSums_J150 Fx hret hK2 hK22 hK60 _ _ _ _ _ _ _ _  hf _ _ _ (lv_sub hl [1, 2, 3, 4, 6, 0] rfl) hC
set_option maxRecDepth 100000 in
set_option maxHeartbeats 4000000 in
theorem t_M_findSums_L60 {K2 : (Int32 × sG × sF) → Option (Int32 × sG × sF)} {K22 : (Int32 × Int32 × sG × sF) → Option (Int32 × sG × sF)} {p : Program} {l : Launch} {e : Env} {s : State} {m : MethodId} {args : Array Value} {below : List Frame} {meth : Method} {c : Code} {Q : State → Prop} {D : va_G} {ad : Nat → Nat} {cy : Nat → ClassId} {A : Nat → Prop} {H0 : Heap} {u : Int32 × sG × sF} (Fx : CallFix p m c cX10_findSums 8 s args (Cond.code yX10_findSums cX10_findSums 8 (some .int) :: wU) RX10) (hret : mRi p l e rm_M_findSums s m args below meth c Q D (mT cy) (mW ad cy) A H0 cX10_findSums u) (hK2 : ∀ (z : Int32 × sG × sF), K2 z = some u → ∀ (ls : Array Slot) (H : Heap) (locs : List Loc), lv_has ls 8 [(0, .ref (ad 0)), (1, .int z.1)] → wH D (mT cy) (mW ad cy) A H0 s z.2.1 z.2.2 H locs → W p l e rm_M_findSums s m args below meth c H locs 0 0 Q (F0 m 2 ls [])) (hK22 : ∀ (z : Int32 × Int32 × sG × sF), K22 z = some u → ∀ (ls : Array Slot) (H : Heap) (locs : List Loc), lv_has ls 8 [(0, .ref (ad 0)), (1, .int z.1), (2, .int z.2.1)] → wH D (mT cy) (mW ad cy) A H0 s z.2.2.1 z.2.2.2 H locs → W p l e rm_M_findSums s m args below meth c H locs 0 0 Q (F0 m 22 ls [])) (n : Nat) (z : Int32 × Int32 × Int32 × Int64 × Int32 × sG × sF) (hz : itr (fun K z => p_M_findSums_L60 K2 K22 K z.1 z.2.1 z.2.2.1 z.2.2.2.1 z.2.2.2.2.1 z.2.2.2.2.2.1 z.2.2.2.2.2.2) n z = some u) : ∀ (ls : Array Slot) (H : Heap) (locs : List Loc), lv_has ls 8 [(0, .ref (ad 0)), (1, .int z.1), (2, .int z.2.1), (3, .int z.2.2.1), (4, .long z.2.2.2.1), (6, .int z.2.2.2.2.1)] → wH D (mT cy) (mW ad cy) A H0 s z.2.2.2.2.2.1 z.2.2.2.2.2.2 H locs → W p l e rm_M_findSums s m args below meth c H locs 0 0 Q (F0 m 60 ls []) :=
  itr_all (B := fun K z => p_M_findSums_L60 K2 K22 K z.1 z.2.1 z.2.2.1 z.2.2.2.1 z.2.2.2.2.1 z.2.2.2.2.2.1 z.2.2.2.2.2.2) (r := u) (fun z => ∀ (ls : Array Slot) (H : Heap) (locs : List Loc), lv_has ls 8 [(0, .ref (ad 0)), (1, .int z.1), (2, .int z.2.1), (3, .int z.2.2.1), (4, .long z.2.2.2.1), (6, .int z.2.2.2.2.1)] → wH D (mT cy) (mW ad cy) A H0 s z.2.2.2.2.2.1 z.2.2.2.2.2.2 H locs → W p l e rm_M_findSums s m args below meth c H locs 0 0 Q (F0 m 60 ls [])) (fun K hK z h => s_M_findSums_L60 (K60 := K) Fx hret hK2 hK22 hK z.1 z.2.1 z.2.2.1 z.2.2.2.1 z.2.2.2.2.1 z.2.2.2.2.2.1 z.2.2.2.2.2.2 h) n z hz
noncomputable def p_M_findSums_J50 (K2 : (Int32 × sG × sF) → Option (Int32 × sG × sF)) (K22 : (Int32 × Int32 × sG × sF) → Option (Int32 × sG × sF)) (x1 : Int32) (x2 : Int32) (x3 : Int32) (y0 : Int64) (g : sG) (f : sF) : Option (Int32 × sG × sF) := lt_ ((g 2) + (1 : Int32)) (fun v1 => itr (fun K z => p_M_findSums_L60 K2 K22 K z.1 z.2.1 z.2.2.1 z.2.2.2.1 z.2.2.2.2.1 z.2.2.2.2.2.1 z.2.2.2.2.2.2) FUEL (x1, x2, x3, y0, v1, g, f))
set_option maxRecDepth 100000 in
set_option maxHeartbeats 4000000 in
theorem s_M_findSums_J50 {K2 : (Int32 × sG × sF) → Option (Int32 × sG × sF)} {K22 : (Int32 × Int32 × sG × sF) → Option (Int32 × sG × sF)} {p : Program} {l : Launch} {e : Env} {s : State} {m : MethodId} {args : Array Value} {below : List Frame} {meth : Method} {c : Code} {Q : State → Prop} {D : va_G} {ad : Nat → Nat} {cy : Nat → ClassId} {A : Nat → Prop} {H0 : Heap} {u : Int32 × sG × sF} (Fx : CallFix p m c cX10_findSums 8 s args (Cond.code yX10_findSums cX10_findSums 8 (some .int) :: wU) RX10) (hret : mRi p l e rm_M_findSums s m args below meth c Q D (mT cy) (mW ad cy) A H0 cX10_findSums u) (hK2 : ∀ (z : Int32 × sG × sF), K2 z = some u → ∀ (ls : Array Slot) (H : Heap) (locs : List Loc), lv_has ls 8 [(0, .ref (ad 0)), (1, .int z.1)] → wH D (mT cy) (mW ad cy) A H0 s z.2.1 z.2.2 H locs → W p l e rm_M_findSums s m args below meth c H locs 0 0 Q (F0 m 2 ls [])) (hK22 : ∀ (z : Int32 × Int32 × sG × sF), K22 z = some u → ∀ (ls : Array Slot) (H : Heap) (locs : List Loc), lv_has ls 8 [(0, .ref (ad 0)), (1, .int z.1), (2, .int z.2.1)] → wH D (mT cy) (mW ad cy) A H0 s z.2.2.1 z.2.2.2 H locs → W p l e rm_M_findSums s m args below meth c H locs 0 0 Q (F0 m 22 ls [])) (x1 : Int32) (x2 : Int32) (x3 : Int32) (y0 : Int64) (g : sG) (f : sF) (hf : p_M_findSums_J50 K2 K22 x1 x2 x3 y0 g f = some u) : ∀ (ls : Array Slot) (H : Heap) (locs : List Loc), lv_has ls 8 [(0, .ref (ad 0)), (1, .int x1), (2, .int x2), (3, .int x3)] → wH D (mT cy) (mW ad cy) A H0 s g f H locs → W p l e rm_M_findSums s m args below meth c H locs 0 0 Q (F0 m 50 ls [.long y0]) := by
  intro ls H locs hl hC
  unfold p_M_findSums_J50 at hf
  refine lv_lstore (lv' := [(4, .long y0), (0, .ref (ad 0)), (1, .int x1), (2, .int x2), (3, .int x3)]) Fx.1 Fx.2.1 dX10_findSums_50 hl (by decide) rfl (fun ls hl => ?_)
  refine lv_aload_n Fx.1 Fx.2.1 dX10_findSums_52 rfl (lv_at hl 1 rfl) ?_
  refine gg_M_capo Fx hC wd_593 dX10_findSums_53 ?_
  refine lv_iconst (v := (1 : Int32)) Fx.1 Fx.2.1 dX10_findSums_56 (by decide) ?_
  refine lv_iadd Fx.1 Fx.2.1 dX10_findSums_57 ?_
  obtain ⟨v1, ev1, hf⟩ := lt_e hf
  refine tpi ev1 ?_
  refine lv_istore (lv' := [(6, .int v1), (4, .long y0), (0, .ref (ad 0)), (1, .int x1), (2, .int x2), (3, .int x3)]) Fx.1 Fx.2.1 dX10_findSums_58 hl (by decide) rfl (fun ls hl => ?_)
  exact t_M_findSums_L60 Fx hret hK2 hK22 _ _ hf _ _ _ (lv_sub hl [2, 3, 4, 5, 1, 0] rfl) hC
noncomputable def p_M_findSums_J40 (K2 : (Int32 × sG × sF) → Option (Int32 × sG × sF)) (K22 : (Int32 × Int32 × sG × sF) → Option (Int32 × sG × sF)) (x1 : Int32) (x2 : Int32) (y0 : Int32) (g : sG) (f : sF) : Option (Int32 × sG × sF) := (if x1 = 0 then p_M_findSums_J50 K2 K22 x1 x2 y0 (1 : Int64) g f else p_M_findSums_J50 K2 K22 x1 x2 y0 (0 : Int64) g f)
set_option maxRecDepth 100000 in
set_option maxHeartbeats 4000000 in
theorem s_M_findSums_J40 {K2 : (Int32 × sG × sF) → Option (Int32 × sG × sF)} {K22 : (Int32 × Int32 × sG × sF) → Option (Int32 × sG × sF)} {p : Program} {l : Launch} {e : Env} {s : State} {m : MethodId} {args : Array Value} {below : List Frame} {meth : Method} {c : Code} {Q : State → Prop} {D : va_G} {ad : Nat → Nat} {cy : Nat → ClassId} {A : Nat → Prop} {H0 : Heap} {u : Int32 × sG × sF} (Fx : CallFix p m c cX10_findSums 8 s args (Cond.code yX10_findSums cX10_findSums 8 (some .int) :: wU) RX10) (hret : mRi p l e rm_M_findSums s m args below meth c Q D (mT cy) (mW ad cy) A H0 cX10_findSums u) (hK2 : ∀ (z : Int32 × sG × sF), K2 z = some u → ∀ (ls : Array Slot) (H : Heap) (locs : List Loc), lv_has ls 8 [(0, .ref (ad 0)), (1, .int z.1)] → wH D (mT cy) (mW ad cy) A H0 s z.2.1 z.2.2 H locs → W p l e rm_M_findSums s m args below meth c H locs 0 0 Q (F0 m 2 ls [])) (hK22 : ∀ (z : Int32 × Int32 × sG × sF), K22 z = some u → ∀ (ls : Array Slot) (H : Heap) (locs : List Loc), lv_has ls 8 [(0, .ref (ad 0)), (1, .int z.1), (2, .int z.2.1)] → wH D (mT cy) (mW ad cy) A H0 s z.2.2.1 z.2.2.2 H locs → W p l e rm_M_findSums s m args below meth c H locs 0 0 Q (F0 m 22 ls [])) (x1 : Int32) (x2 : Int32) (y0 : Int32) (g : sG) (f : sF) (hf : p_M_findSums_J40 K2 K22 x1 x2 y0 g f = some u) : ∀ (ls : Array Slot) (H : Heap) (locs : List Loc), lv_has ls 8 [(0, .ref (ad 0)), (1, .int x1), (2, .int x2)] → wH D (mT cy) (mW ad cy) A H0 s g f H locs → W p l e rm_M_findSums s m args below meth c H locs 0 0 Q (F0 m 40 ls [.int y0]) := by
  intro ls H locs hl hC
  unfold p_M_findSums_J40 at hf
  refine lv_istore_n (lv' := [(3, .int y0), (0, .ref (ad 0)), (1, .int x1), (2, .int x2)]) Fx.1 Fx.2.1 dX10_findSums_40 rfl hl (by decide) rfl (fun ls hl => ?_)
  refine lv_iload_n Fx.1 Fx.2.1 dX10_findSums_41 rfl (lv_at hl 2 rfl) ?_
  refine lv_if_ne (tgt := 49) Fx.1 Fx.2.1 dX10_findSums_42 (by decide) (fun hc => ?_) (fun hc => ?_)
  · replace hf := iff_ hc hf
    refine lv_lconst (v := (0 : Int64)) Fx.1 Fx.2.1 dX10_findSums_49 (by decide) ?_
    exact s_M_findSums_J50 Fx hret hK2 hK22 _ _ _ _ _ _  hf _ _ _ (lv_sub hl [1, 2, 3, 0] rfl) hC
  · replace hf := ift hc hf
    refine lv_lconst (v := (1 : Int64)) Fx.1 Fx.2.1 dX10_findSums_45 (by decide) ?_
    refine lv_goto (tgt := 50) Fx.1 Fx.2.1 dX10_findSums_46 (by decide) ?_
    exact s_M_findSums_J50 Fx hret hK2 hK22 _ _ _ _ _ _  hf _ _ _ (lv_sub hl [1, 2, 3, 0] rfl) hC
noncomputable def p_M_findSums_L22 (K2 : (Int32 × sG × sF) → Option (Int32 × sG × sF)) (K22 : (Int32 × Int32 × sG × sF) → Option (Int32 × sG × sF)) (x1 : Int32) (x2 : Int32) (g : sG) (f : sF) : Option (Int32 × sG × sF) := (if (g 1) < x2 then lt_ (x1 + (1 : Int32)) (fun v1 => K2 (v1, g, f)) else (if x1 = 0 then p_M_findSums_J40 K2 K22 x1 x2 (0 : Int32) g f else p_M_findSums_J40 K2 K22 x1 x2 (100000000 : Int32) g f))
set_option maxRecDepth 100000 in
set_option maxHeartbeats 4000000 in
theorem s_M_findSums_L22 {K2 : (Int32 × sG × sF) → Option (Int32 × sG × sF)} {K22 : (Int32 × Int32 × sG × sF) → Option (Int32 × sG × sF)} {p : Program} {l : Launch} {e : Env} {s : State} {m : MethodId} {args : Array Value} {below : List Frame} {meth : Method} {c : Code} {Q : State → Prop} {D : va_G} {ad : Nat → Nat} {cy : Nat → ClassId} {A : Nat → Prop} {H0 : Heap} {u : Int32 × sG × sF} (Fx : CallFix p m c cX10_findSums 8 s args (Cond.code yX10_findSums cX10_findSums 8 (some .int) :: wU) RX10) (hret : mRi p l e rm_M_findSums s m args below meth c Q D (mT cy) (mW ad cy) A H0 cX10_findSums u) (hK2 : ∀ (z : Int32 × sG × sF), K2 z = some u → ∀ (ls : Array Slot) (H : Heap) (locs : List Loc), lv_has ls 8 [(0, .ref (ad 0)), (1, .int z.1)] → wH D (mT cy) (mW ad cy) A H0 s z.2.1 z.2.2 H locs → W p l e rm_M_findSums s m args below meth c H locs 0 0 Q (F0 m 2 ls [])) (hK22 : ∀ (z : Int32 × Int32 × sG × sF), K22 z = some u → ∀ (ls : Array Slot) (H : Heap) (locs : List Loc), lv_has ls 8 [(0, .ref (ad 0)), (1, .int z.1), (2, .int z.2.1)] → wH D (mT cy) (mW ad cy) A H0 s z.2.2.1 z.2.2.2 H locs → W p l e rm_M_findSums s m args below meth c H locs 0 0 Q (F0 m 22 ls [])) (x1 : Int32) (x2 : Int32) (g : sG) (f : sF) (hf : p_M_findSums_L22 K2 K22 x1 x2 g f = some u) : ∀ (ls : Array Slot) (H : Heap) (locs : List Loc), lv_has ls 8 [(0, .ref (ad 0)), (1, .int x1), (2, .int x2)] → wH D (mT cy) (mW ad cy) A H0 s g f H locs → W p l e rm_M_findSums s m args below meth c H locs 0 0 Q (F0 m 22 ls []) := by
  intro ls H locs hl hC
  unfold p_M_findSums_L22 at hf
  refine lv_iload_n Fx.1 Fx.2.1 dX10_findSums_22 rfl (lv_at hl 2 rfl) ?_
  refine lv_aload_n Fx.1 Fx.2.1 dX10_findSums_23 rfl (lv_at hl 0 rfl) ?_
  refine gg_M_neck Fx hC wd_592 dX10_findSums_24 ?_
  refine lv_icmp_gt (tgt := 282) Fx.1 Fx.2.1 dX10_findSums_27 (by decide) (fun hc => ?_) (fun hc => ?_)
  · replace hf := ift hc hf
    obtain ⟨v1, ev1, hf⟩ := lt_e hf
    refine lv_iinc (v := v1) (lv' := [(1, .int v1), (0, .ref (ad 0)), (2, .int x2)]) Fx.1 Fx.2.1 dX10_findSums_282 hl (k := 1) rfl ev1.symm (by decide) rfl (fun ls hl => ?_)
    refine lv_goto (tgt := 2) Fx.1 Fx.2.1 dX10_findSums_285 (by decide) ?_
    exact hK2 _ hf _ _ _ (lv_sub hl [1, 0] rfl) hC
  · replace hf := iff_ hc hf
    refine lv_iload_n Fx.1 Fx.2.1 dX10_findSums_30 rfl (lv_at hl 1 rfl) ?_
    refine lv_if_ne (tgt := 38) Fx.1 Fx.2.1 dX10_findSums_31 (by decide) (fun hc => ?_) (fun hc => ?_)
    · replace hf := iff_ hc hf
      refine lv_ldc (v := (100000000 : Int32)) Fx.1 Fx.2.1 Fx.2.2.2.1 (Fx.2.2.2.2 _ (List.mem_cons_of_mem _ wd_754)) dX10_findSums_38 ?_
      exact s_M_findSums_J40 Fx hret hK2 hK22 _ _ _ _ _  hf _ _ _ (lv_sub hl [0, 1, 2] rfl) hC
    · replace hf := ift hc hf
      refine lv_iconst (v := (0 : Int32)) Fx.1 Fx.2.1 dX10_findSums_34 (by decide) ?_
      refine lv_goto (tgt := 40) Fx.1 Fx.2.1 dX10_findSums_35 (by decide) ?_
      exact s_M_findSums_J40 Fx hret hK2 hK22 _ _ _ _ _  hf _ _ _ (lv_sub hl [0, 1, 2] rfl) hC
set_option maxRecDepth 100000 in
set_option maxHeartbeats 4000000 in
theorem t_M_findSums_L22 {K2 : (Int32 × sG × sF) → Option (Int32 × sG × sF)} {p : Program} {l : Launch} {e : Env} {s : State} {m : MethodId} {args : Array Value} {below : List Frame} {meth : Method} {c : Code} {Q : State → Prop} {D : va_G} {ad : Nat → Nat} {cy : Nat → ClassId} {A : Nat → Prop} {H0 : Heap} {u : Int32 × sG × sF} (Fx : CallFix p m c cX10_findSums 8 s args (Cond.code yX10_findSums cX10_findSums 8 (some .int) :: wU) RX10) (hret : mRi p l e rm_M_findSums s m args below meth c Q D (mT cy) (mW ad cy) A H0 cX10_findSums u) (hK2 : ∀ (z : Int32 × sG × sF), K2 z = some u → ∀ (ls : Array Slot) (H : Heap) (locs : List Loc), lv_has ls 8 [(0, .ref (ad 0)), (1, .int z.1)] → wH D (mT cy) (mW ad cy) A H0 s z.2.1 z.2.2 H locs → W p l e rm_M_findSums s m args below meth c H locs 0 0 Q (F0 m 2 ls [])) (n : Nat) (z : Int32 × Int32 × sG × sF) (hz : itr (fun K z => p_M_findSums_L22 K2 K z.1 z.2.1 z.2.2.1 z.2.2.2) n z = some u) : ∀ (ls : Array Slot) (H : Heap) (locs : List Loc), lv_has ls 8 [(0, .ref (ad 0)), (1, .int z.1), (2, .int z.2.1)] → wH D (mT cy) (mW ad cy) A H0 s z.2.2.1 z.2.2.2 H locs → W p l e rm_M_findSums s m args below meth c H locs 0 0 Q (F0 m 22 ls []) :=
  itr_all (B := fun K z => p_M_findSums_L22 K2 K z.1 z.2.1 z.2.2.1 z.2.2.2) (r := u) (fun z => ∀ (ls : Array Slot) (H : Heap) (locs : List Loc), lv_has ls 8 [(0, .ref (ad 0)), (1, .int z.1), (2, .int z.2.1)] → wH D (mT cy) (mW ad cy) A H0 s z.2.2.1 z.2.2.2 H locs → W p l e rm_M_findSums s m args below meth c H locs 0 0 Q (F0 m 22 ls [])) (fun K hK z h => s_M_findSums_L22 (K22 := K) Fx hret hK2 hK z.1 z.2.1 z.2.2.1 z.2.2.2 h) n z hz
noncomputable def p_M_findSums_L2 (K2 : (Int32 × sG × sF) → Option (Int32 × sG × sF)) (x1 : Int32) (g : sG) (f : sF) : Option (Int32 × sG × sF) := (if (g 3) ≤ x1 then lt_ ((g 2) + (1 : Int32)) (fun v1 => itr (fun K z => p_M_findSums_L298 K z.1 z.2.1 z.2.2.1 z.2.2.2) FUEL ((100000000 : Int32), v1, g, f)) else Option.bind (p_M_findCosts x1 g f) (fun u2 => lt_ ((u2.1 2) + (1 : Int32)) (fun v3 => itr (fun K z => p_M_findSums_L22 K2 K z.1 z.2.1 z.2.2.1 z.2.2.2) FUEL (x1, v3, u2.1, u2.2))))
set_option maxRecDepth 100000 in
set_option maxHeartbeats 4000000 in
theorem s_M_findSums_L2 {K2 : (Int32 × sG × sF) → Option (Int32 × sG × sF)} {p : Program} {l : Launch} {e : Env} {s : State} {m : MethodId} {args : Array Value} {below : List Frame} {meth : Method} {c : Code} {Q : State → Prop} {D : va_G} {ad : Nat → Nat} {cy : Nat → ClassId} {A : Nat → Prop} {H0 : Heap} {u : Int32 × sG × sF} (Fx : CallFix p m c cX10_findSums 8 s args (Cond.code yX10_findSums cX10_findSums 8 (some .int) :: wU) RX10) (hret : mRi p l e rm_M_findSums s m args below meth c Q D (mT cy) (mW ad cy) A H0 cX10_findSums u) (hK2 : ∀ (z : Int32 × sG × sF), K2 z = some u → ∀ (ls : Array Slot) (H : Heap) (locs : List Loc), lv_has ls 8 [(0, .ref (ad 0)), (1, .int z.1)] → wH D (mT cy) (mW ad cy) A H0 s z.2.1 z.2.2 H locs → W p l e rm_M_findSums s m args below meth c H locs 0 0 Q (F0 m 2 ls [])) (x1 : Int32) (g : sG) (f : sF) (hf : p_M_findSums_L2 K2 x1 g f = some u) : ∀ (ls : Array Slot) (H : Heap) (locs : List Loc), lv_has ls 8 [(0, .ref (ad 0)), (1, .int x1)] → wH D (mT cy) (mW ad cy) A H0 s g f H locs → W p l e rm_M_findSums s m args below meth c H locs 0 0 Q (F0 m 2 ls []) := by
  intro ls H locs hl hC
  unfold p_M_findSums_L2 at hf
  refine lv_iload_n Fx.1 Fx.2.1 dX10_findSums_2 rfl (lv_at hl 1 rfl) ?_
  refine lv_aload_n Fx.1 Fx.2.1 dX10_findSums_3 rfl (lv_at hl 0 rfl) ?_
  refine gg_M_events Fx hC wd_595 dX10_findSums_4 ?_
  refine lv_icmp_ge (tgt := 288) Fx.1 Fx.2.1 dX10_findSums_7 (by decide) (fun hc => ?_) (fun hc => ?_)
  · replace hf := ift hc hf
    refine lv_ldc (v := (100000000 : Int32)) Fx.1 Fx.2.1 Fx.2.2.2.1 (Fx.2.2.2.2 _ (List.mem_cons_of_mem _ wd_754)) dX10_findSums_288 ?_
    refine lv_istore_n (lv' := [(1, .int (100000000 : Int32)), (0, .ref (ad 0))]) Fx.1 Fx.2.1 dX10_findSums_290 rfl hl (by decide) rfl (fun ls hl => ?_)
    refine lv_aload_n Fx.1 Fx.2.1 dX10_findSums_291 rfl (lv_at hl 1 rfl) ?_
    refine gg_M_capo Fx hC wd_593 dX10_findSums_292 ?_
    refine lv_iconst (v := (1 : Int32)) Fx.1 Fx.2.1 dX10_findSums_295 (by decide) ?_
    refine lv_iadd Fx.1 Fx.2.1 dX10_findSums_296 ?_
    obtain ⟨v1, ev1, hf⟩ := lt_e hf
    refine tpi ev1 ?_
    refine lv_istore_n (lv' := [(2, .int v1), (1, .int (100000000 : Int32)), (0, .ref (ad 0))]) Fx.1 Fx.2.1 dX10_findSums_297 rfl hl (by decide) rfl (fun ls hl => ?_)
    exact t_M_findSums_L298 Fx hret _ _ hf _ _ _ (lv_sub hl [2, 1, 0] rfl) hC
  · replace hf := iff_ hc hf
    refine lv_aload_n Fx.1 Fx.2.1 dX10_findSums_10 rfl (lv_at hl 0 rfl) ?_
    refine lv_iload_n Fx.1 Fx.2.1 dX10_findSums_11 rfl (lv_at hl 1 rfl) ?_
    obtain ⟨u2, hu2, hf⟩ := bd_e hf
    refine ca_v (As := [.int x1]) (rest := []) Fx hC (k_M_findCosts hu2) (cVU 1 Fx.2.2.2.2 wd_751 wd_752 wd_891 wd_10 wd_753 rfl rfl hd_M_findCosts ⟨Nat.le_of_ble_eq_true rfl, Nat.le_of_ble_eq_true rfl⟩) 0 rfl rfl rfl hl.1 rfl (Nat.le_of_ble_eq_true rfl) dX10_findSums_12 (fun H locs hC => ?_)
    refine lv_aload_n Fx.1 Fx.2.1 dX10_findSums_15 rfl (lv_at hl 0 rfl) ?_
    refine gg_M_capo Fx hC wd_593 dX10_findSums_16 ?_
    refine lv_iconst (v := (1 : Int32)) Fx.1 Fx.2.1 dX10_findSums_19 (by decide) ?_
    refine lv_iadd Fx.1 Fx.2.1 dX10_findSums_20 ?_
    obtain ⟨v3, ev3, hf⟩ := lt_e hf
    refine tpi ev3 ?_
    refine lv_istore_n (lv' := [(2, .int v3), (0, .ref (ad 0)), (1, .int x1)]) Fx.1 Fx.2.1 dX10_findSums_21 rfl hl (by decide) rfl (fun ls hl => ?_)
    exact t_M_findSums_L22 Fx hret hK2 _ _ hf _ _ _ (lv_sub hl [1, 2, 0] rfl) hC
set_option maxRecDepth 100000 in
set_option maxHeartbeats 4000000 in
theorem t_M_findSums_L2 {p : Program} {l : Launch} {e : Env} {s : State} {m : MethodId} {args : Array Value} {below : List Frame} {meth : Method} {c : Code} {Q : State → Prop} {D : va_G} {ad : Nat → Nat} {cy : Nat → ClassId} {A : Nat → Prop} {H0 : Heap} {u : Int32 × sG × sF} (Fx : CallFix p m c cX10_findSums 8 s args (Cond.code yX10_findSums cX10_findSums 8 (some .int) :: wU) RX10) (hret : mRi p l e rm_M_findSums s m args below meth c Q D (mT cy) (mW ad cy) A H0 cX10_findSums u)  (n : Nat) (z : Int32 × sG × sF) (hz : itr (fun K z => p_M_findSums_L2 K z.1 z.2.1 z.2.2) n z = some u) : ∀ (ls : Array Slot) (H : Heap) (locs : List Loc), lv_has ls 8 [(0, .ref (ad 0)), (1, .int z.1)] → wH D (mT cy) (mW ad cy) A H0 s z.2.1 z.2.2 H locs → W p l e rm_M_findSums s m args below meth c H locs 0 0 Q (F0 m 2 ls []) :=
  itr_all (B := fun K z => p_M_findSums_L2 K z.1 z.2.1 z.2.2) (r := u) (fun z => ∀ (ls : Array Slot) (H : Heap) (locs : List Loc), lv_has ls 8 [(0, .ref (ad 0)), (1, .int z.1)] → wH D (mT cy) (mW ad cy) A H0 s z.2.1 z.2.2 H locs → W p l e rm_M_findSums s m args below meth c H locs 0 0 Q (F0 m 2 ls [])) (fun K hK z h => s_M_findSums_L2 (K2 := K) Fx hret hK z.1 z.2.1 z.2.2 h) n z hz
noncomputable def p_M_findSums  (g : sG) (f : sF) : Option (Int32 × sG × sF) := itr (fun K z => p_M_findSums_L2 K z.1 z.2.1 z.2.2) FUEL ((0 : Int32), g, f)
set_option maxRecDepth 100000 in
set_option maxHeartbeats 4000000 in
theorem k_M_findSums {l : Launch} {D : va_G} {ad : Nat → Nat} {cy : Nat → ClassId}  {u : Int32 × sG × sF} {g : sG} {f : sF} (hf : p_M_findSums  g f = some u) : mMi l yX10_findSums (Cond.code yX10_findSums cX10_findSums 8 (some .int) :: wU) rm_M_findSums D (mT cy) (mW ad cy) [.ref (ad 0)] g f u := by
  refine mk_i (by decide) rfl (Nat.le_of_ble_eq_true rfl) ?_
  intro p e s m below meth c Q A H0 Fx hret ls H locs hl hC
  replace hl : lv_has ls 8 [(0, .ref (ad 0))] := hl
  unfold p_M_findSums at hf
  refine lv_iconst (v := (0 : Int32)) Fx.1 Fx.2.1 dX10_findSums_0 (by decide) ?_
  refine lv_istore_n (lv' := [(1, .int (0 : Int32)), (0, .ref (ad 0))]) Fx.1 Fx.2.1 dX10_findSums_1 rfl hl (by decide) rfl (fun ls hl => ?_)
  exact t_M_findSums_L2 Fx hret _ _ hf _ _ _ (lv_sub hl [1, 0] rfl) hC
/-! FretHandsModel.goesOn(III)Z -/
abbrev rm_M_goesOn : Room := { frames := 1, cells := 0, slots := 0, locals := 22 }
theorem hd_M_goesOn : yX10_goesOn.cls = RX10 ∧ yX10_goesOn.cls ≠ "java/lang/invoke/MethodHandle" ∧ yX10_goesOn.cls ≠ "java/lang/invoke/VarHandle" ∧ (parseMethodDescriptor yX10_goesOn.desc).map (fun d => d.parameters.length) = some 3 := by decide +kernel
noncomputable def p_M_goesOn (a1 : Int32) (a2 : Int32) (a3 : Int32) (g : sG) (f : sF) : Option (Int32) := Option.bind (p_M_at_ a1 g f) (fun u1 => (if (u1 + a2) < 0 ∨ 1000 ≤ (u1 + a2).toNatClampNeg then none else (if (100000000 : Int32) ≤ (f 14 (u1 + a2).toNatClampNeg) then some (0 : Int32) else Option.bind (p_M_at_ (a1 + (1 : Int32)) g f) (fun u3 => (if (u3 + a3) < 0 ∨ 1000 ≤ (u3 + a3).toNatClampNeg then none else (if (100000000 : Int32) ≤ (f 14 (u3 + a3).toNatClampNeg) then some (0 : Int32) else Option.bind (p_M_at_ a1 g f) (fun u5 => (if (u5 + a2) < 0 ∨ 1000 ≤ (u5 + a2).toNatClampNeg then none else Option.bind (p_M_move a2 a3 g f) (fun u7 => Option.bind (p_M_at_ (a1 + (1 : Int32)) g f) (fun u8 => (if (u8 + a3) < 0 ∨ 1000 ≤ (u8 + a3).toNatClampNeg then none else Option.bind (p_M_at_ (a1 + (1 : Int32)) g f) (fun u10 => (if (u10 + a3) < 0 ∨ 1000 ≤ (u10 + a3).toNatClampNeg then none else (if (((f 14 (u5 + a2).toNatClampNeg) + u7) + (f 12 (u8 + a3).toNatClampNeg)) = (f 14 (u10 + a3).toNatClampNeg) then some (1 : Int32) else some (0 : Int32)))))))))))))))
set_option maxRecDepth 100000 in
set_option maxHeartbeats 4000000 in
theorem k_M_goesOn {l : Launch} {D : va_G} {ad : Nat → Nat} {cy : Nat → ClassId} {a1 : Int32} {a2 : Int32} {a3 : Int32} {r : Int32} {g : sG} {f : sF} (hf : p_M_goesOn a1 a2 a3 g f = some r) : mMi l yX10_goesOn (Cond.code yX10_goesOn cX10_goesOn 4 (some .boolean) :: wU) rm_M_goesOn D (mT cy) (mW ad cy) [.ref (ad 0), .int a1, .int a2, .int a3] g f (r, g, f) := by
  refine mk_z (by decide) rfl (Nat.le_of_ble_eq_true rfl) ?_
  intro p e s m below meth c Q A H0 Fx hret ls H locs hl hC
  replace hl : lv_has ls 4 [(0, .ref (ad 0)), (1, .int a1), (2, .int a2), (3, .int a3)] := hl
  unfold p_M_goesOn at hf
  refine lv_aload_n Fx.1 Fx.2.1 dX10_goesOn_0 rfl (lv_at hl 0 rfl) ?_
  refine gg_M_sums Fx hC wd_612 dX10_goesOn_1 ?_
  refine lv_iload_n Fx.1 Fx.2.1 dX10_goesOn_4 rfl (lv_at hl 1 rfl) ?_
  obtain ⟨u1, hu1, hf⟩ := bd_e hf
  refine ca_s (As := [.int a1]) (rest := [.ref (ad 15)]) Fx hC (k_M_at_ hu1) (cSU 1 Fx.2.2.2.2 wd_755 wd_756 wd_10 wd_757 rfl rfl hd_M_at_ ⟨Nat.le_of_ble_eq_true rfl, Nat.le_of_ble_eq_true rfl⟩) rfl hl.1 rfl (Nat.le_of_ble_eq_true rfl) dX10_goesOn_5 (fun H locs hC => ?_)
  refine lv_iload_n Fx.1 Fx.2.1 dX10_goesOn_8 rfl (lv_at hl 2 rfl) ?_
  refine lv_iadd Fx.1 Fx.2.1 dX10_goesOn_9 ?_
  obtain ⟨hi2, hf⟩ := gd_e hf
  refine ld_M_sums Fx hC hi2 dX10_goesOn_10 ?_
  refine lv_ldc (v := (100000000 : Int32)) Fx.1 Fx.2.1 Fx.2.2.2.1 (Fx.2.2.2.2 _ (List.mem_cons_of_mem _ wd_754)) dX10_goesOn_11 ?_
  refine lv_icmp_ge (tgt := 86) Fx.1 Fx.2.1 dX10_goesOn_13 (by decide) (fun hc => ?_) (fun hc => ?_)
  · replace hf := ift hc hf
    refine lv_iconst (v := (0 : Int32)) Fx.1 Fx.2.1 dX10_goesOn_86 (by decide) ?_
    obtain rfl := Option.some.inj hf
    exact hret _ _ _ _ dX10_goesOn_87 z01_0 hC
  · replace hf := iff_ hc hf
    refine lv_aload_n Fx.1 Fx.2.1 dX10_goesOn_16 rfl (lv_at hl 0 rfl) ?_
    refine gg_M_sums Fx hC wd_612 dX10_goesOn_17 ?_
    refine lv_iload_n Fx.1 Fx.2.1 dX10_goesOn_20 rfl (lv_at hl 1 rfl) ?_
    refine lv_iconst (v := (1 : Int32)) Fx.1 Fx.2.1 dX10_goesOn_21 (by decide) ?_
    refine lv_iadd Fx.1 Fx.2.1 dX10_goesOn_22 ?_
    obtain ⟨u3, hu3, hf⟩ := bd_e hf
    refine ca_s (As := [.int (a1 + (1 : Int32))]) (rest := [.ref (ad 15)]) Fx hC (k_M_at_ hu3) (cSU 1 Fx.2.2.2.2 wd_755 wd_756 wd_10 wd_757 rfl rfl hd_M_at_ ⟨Nat.le_of_ble_eq_true rfl, Nat.le_of_ble_eq_true rfl⟩) rfl hl.1 rfl (Nat.le_of_ble_eq_true rfl) dX10_goesOn_23 (fun H locs hC => ?_)
    refine lv_iload_n Fx.1 Fx.2.1 dX10_goesOn_26 rfl (lv_at hl 3 rfl) ?_
    refine lv_iadd Fx.1 Fx.2.1 dX10_goesOn_27 ?_
    obtain ⟨hi4, hf⟩ := gd_e hf
    refine ld_M_sums Fx hC hi4 dX10_goesOn_28 ?_
    refine lv_ldc (v := (100000000 : Int32)) Fx.1 Fx.2.1 Fx.2.2.2.1 (Fx.2.2.2.2 _ (List.mem_cons_of_mem _ wd_754)) dX10_goesOn_29 ?_
    refine lv_icmp_ge (tgt := 86) Fx.1 Fx.2.1 dX10_goesOn_31 (by decide) (fun hc => ?_) (fun hc => ?_)
    · replace hf := ift hc hf
      refine lv_iconst (v := (0 : Int32)) Fx.1 Fx.2.1 dX10_goesOn_86 (by decide) ?_
      obtain rfl := Option.some.inj hf
      exact hret _ _ _ _ dX10_goesOn_87 z01_0 hC
    · replace hf := iff_ hc hf
      refine lv_aload_n Fx.1 Fx.2.1 dX10_goesOn_34 rfl (lv_at hl 0 rfl) ?_
      refine gg_M_sums Fx hC wd_612 dX10_goesOn_35 ?_
      refine lv_iload_n Fx.1 Fx.2.1 dX10_goesOn_38 rfl (lv_at hl 1 rfl) ?_
      obtain ⟨u5, hu5, hf⟩ := bd_e hf
      refine ca_s (As := [.int a1]) (rest := [.ref (ad 15)]) Fx hC (k_M_at_ hu5) (cSU 1 Fx.2.2.2.2 wd_755 wd_756 wd_10 wd_757 rfl rfl hd_M_at_ ⟨Nat.le_of_ble_eq_true rfl, Nat.le_of_ble_eq_true rfl⟩) rfl hl.1 rfl (Nat.le_of_ble_eq_true rfl) dX10_goesOn_39 (fun H locs hC => ?_)
      refine lv_iload_n Fx.1 Fx.2.1 dX10_goesOn_42 rfl (lv_at hl 2 rfl) ?_
      refine lv_iadd Fx.1 Fx.2.1 dX10_goesOn_43 ?_
      obtain ⟨hi6, hf⟩ := gd_e hf
      refine ld_M_sums Fx hC hi6 dX10_goesOn_44 ?_
      refine lv_aload_n Fx.1 Fx.2.1 dX10_goesOn_45 rfl (lv_at hl 0 rfl) ?_
      refine lv_iload_n Fx.1 Fx.2.1 dX10_goesOn_46 rfl (lv_at hl 2 rfl) ?_
      refine lv_iload_n Fx.1 Fx.2.1 dX10_goesOn_47 rfl (lv_at hl 3 rfl) ?_
      obtain ⟨u7, hu7, hf⟩ := bd_e hf
      refine ca_i (As := [.int a2, .int a3]) (rest := [.int (f 14 (u5 + a2).toNatClampNeg)]) Fx hC (k_M_move hu7) (cVU 2 Fx.2.2.2.2 wd_758 wd_759 wd_892 wd_10 wd_760 rfl rfl hd_M_move ⟨Nat.le_of_ble_eq_true rfl, Nat.le_of_ble_eq_true rfl⟩) 0 rfl rfl rfl hl.1 rfl (Nat.le_of_ble_eq_true rfl) dX10_goesOn_48 (fun H locs hC => ?_)
      refine lv_iadd Fx.1 Fx.2.1 dX10_goesOn_51 ?_
      refine lv_aload_n Fx.1 Fx.2.1 dX10_goesOn_52 rfl (lv_at hl 0 rfl) ?_
      refine gg_M_least Fx hC wd_610 dX10_goesOn_53 ?_
      refine lv_iload_n Fx.1 Fx.2.1 dX10_goesOn_56 rfl (lv_at hl 1 rfl) ?_
      refine lv_iconst (v := (1 : Int32)) Fx.1 Fx.2.1 dX10_goesOn_57 (by decide) ?_
      refine lv_iadd Fx.1 Fx.2.1 dX10_goesOn_58 ?_
      obtain ⟨u8, hu8, hf⟩ := bd_e hf
      refine ca_s (As := [.int (a1 + (1 : Int32))]) (rest := [.ref (ad 13), .int ((f 14 (u5 + a2).toNatClampNeg) + u7)]) Fx hC (k_M_at_ hu8) (cSU 1 Fx.2.2.2.2 wd_755 wd_756 wd_10 wd_757 rfl rfl hd_M_at_ ⟨Nat.le_of_ble_eq_true rfl, Nat.le_of_ble_eq_true rfl⟩) rfl hl.1 rfl (Nat.le_of_ble_eq_true rfl) dX10_goesOn_59 (fun H locs hC => ?_)
      refine lv_iload_n Fx.1 Fx.2.1 dX10_goesOn_62 rfl (lv_at hl 3 rfl) ?_
      refine lv_iadd Fx.1 Fx.2.1 dX10_goesOn_63 ?_
      obtain ⟨hi9, hf⟩ := gd_e hf
      refine ld_M_least Fx hC hi9 dX10_goesOn_64 ?_
      refine lv_iadd Fx.1 Fx.2.1 dX10_goesOn_65 ?_
      refine lv_aload_n Fx.1 Fx.2.1 dX10_goesOn_66 rfl (lv_at hl 0 rfl) ?_
      refine gg_M_sums Fx hC wd_612 dX10_goesOn_67 ?_
      refine lv_iload_n Fx.1 Fx.2.1 dX10_goesOn_70 rfl (lv_at hl 1 rfl) ?_
      refine lv_iconst (v := (1 : Int32)) Fx.1 Fx.2.1 dX10_goesOn_71 (by decide) ?_
      refine lv_iadd Fx.1 Fx.2.1 dX10_goesOn_72 ?_
      obtain ⟨u10, hu10, hf⟩ := bd_e hf
      refine ca_s (As := [.int (a1 + (1 : Int32))]) (rest := [.ref (ad 15), .int (((f 14 (u5 + a2).toNatClampNeg) + u7) + (f 12 (u8 + a3).toNatClampNeg))]) Fx hC (k_M_at_ hu10) (cSU 1 Fx.2.2.2.2 wd_755 wd_756 wd_10 wd_757 rfl rfl hd_M_at_ ⟨Nat.le_of_ble_eq_true rfl, Nat.le_of_ble_eq_true rfl⟩) rfl hl.1 rfl (Nat.le_of_ble_eq_true rfl) dX10_goesOn_73 (fun H locs hC => ?_)
      refine lv_iload_n Fx.1 Fx.2.1 dX10_goesOn_76 rfl (lv_at hl 3 rfl) ?_
      refine lv_iadd Fx.1 Fx.2.1 dX10_goesOn_77 ?_
      obtain ⟨hi11, hf⟩ := gd_e hf
      refine ld_M_sums Fx hC hi11 dX10_goesOn_78 ?_
      refine lv_icmp_ne (tgt := 86) Fx.1 Fx.2.1 dX10_goesOn_79 (by decide) (fun hc => ?_) (fun hc => ?_)
      · replace hf := iff_ hc hf
        refine lv_iconst (v := (0 : Int32)) Fx.1 Fx.2.1 dX10_goesOn_86 (by decide) ?_
        obtain rfl := Option.some.inj hf
        exact hret _ _ _ _ dX10_goesOn_87 z01_0 hC
      · replace hf := ift hc hf
        refine lv_iconst (v := (1 : Int32)) Fx.1 Fx.2.1 dX10_goesOn_82 (by decide) ?_
        refine lv_goto (tgt := 87) Fx.1 Fx.2.1 dX10_goesOn_83 (by decide) ?_
        obtain rfl := Option.some.inj hf
        exact hret _ _ _ _ dX10_goesOn_87 z01_1 hC
/-! FretHandsModel.markBack(I)V -/
abbrev rm_M_markBack : Room := { frames := 2, cells := 0, slots := 0, locals := 45 }
theorem hd_M_markBack : yX10_markBack.cls = RX10 ∧ yX10_markBack.cls ≠ "java/lang/invoke/MethodHandle" ∧ yX10_markBack.cls ≠ "java/lang/invoke/VarHandle" ∧ (parseMethodDescriptor yX10_markBack.desc).map (fun d => d.parameters.length) = some 1 := by decide +kernel
noncomputable def p_M_markBack_J131 (K7 : (Int32 × Int32 × sG × sF) → Option (sG × sF)) (K18 : (Int32 × Int32 × Int32 × sG × sF) → Option (sG × sF)) (x1 : Int32) (x2 : Int32) (x3 : Int32) (x4 : Int32) (g : sG) (f : sF) : Option (sG × sF) := Option.bind (p_M_at_ x2 g f) (fun u1 => (if (u1 + x3) < 0 ∨ 1000 ≤ (u1 + x3).toNatClampNeg then none else (if ¬ x4 = 0 ∧ ¬ x4 = 1 then none else lt_ (up2 f 16 (u1 + x3).toNatClampNeg x4) (fun f4 => lt_ (x3 + (1 : Int32)) (fun v5 => K18 (x1, x2, v5, g, f4))))))
set_option maxRecDepth 100000 in
set_option maxHeartbeats 4000000 in
theorem s_M_markBack_J131 {K7 : (Int32 × Int32 × sG × sF) → Option (sG × sF)} {K18 : (Int32 × Int32 × Int32 × sG × sF) → Option (sG × sF)} {p : Program} {l : Launch} {e : Env} {s : State} {m : MethodId} {args : Array Value} {below : List Frame} {meth : Method} {c : Code} {Q : State → Prop} {D : va_G} {ad : Nat → Nat} {cy : Nat → ClassId} {A : Nat → Prop} {H0 : Heap} {u : sG × sF} (Fx : CallFix p m c cX10_markBack 6 s args (Cond.code yX10_markBack cX10_markBack 6 none :: wU) RX10) (hret : mRv p l e rm_M_markBack s m args below meth c Q D (mT cy) (mW ad cy) A H0 cX10_markBack u) (hK7 : ∀ (z : Int32 × Int32 × sG × sF), K7 z = some u → ∀ (ls : Array Slot) (H : Heap) (locs : List Loc), lv_has ls 6 [(0, .ref (ad 0)), (1, .int z.1), (2, .int z.2.1)] → wH D (mT cy) (mW ad cy) A H0 s z.2.2.1 z.2.2.2 H locs → W p l e rm_M_markBack s m args below meth c H locs 0 0 Q (F0 m 7 ls [])) (hK18 : ∀ (z : Int32 × Int32 × Int32 × sG × sF), K18 z = some u → ∀ (ls : Array Slot) (H : Heap) (locs : List Loc), lv_has ls 6 [(0, .ref (ad 0)), (1, .int z.1), (2, .int z.2.1), (3, .int z.2.2.1)] → wH D (mT cy) (mW ad cy) A H0 s z.2.2.2.1 z.2.2.2.2 H locs → W p l e rm_M_markBack s m args below meth c H locs 0 0 Q (F0 m 18 ls [])) (x1 : Int32) (x2 : Int32) (x3 : Int32) (x4 : Int32) (g : sG) (f : sF) (hf : p_M_markBack_J131 K7 K18 x1 x2 x3 x4 g f = some u) : ∀ (ls : Array Slot) (H : Heap) (locs : List Loc), lv_has ls 6 [(0, .ref (ad 0)), (1, .int x1), (2, .int x2), (3, .int x3), (4, .int x4)] → wH D (mT cy) (mW ad cy) A H0 s g f H locs → W p l e rm_M_markBack s m args below meth c H locs 0 0 Q (F0 m 131 ls []) := by
  intro ls H locs hl hC
  unfold p_M_markBack_J131 at hf
  refine lv_aload_n Fx.1 Fx.2.1 dX10_markBack_131 rfl (lv_at hl 0 rfl) ?_
  refine gg_M_isOn Fx hC wd_614 dX10_markBack_132 ?_
  refine lv_iload_n Fx.1 Fx.2.1 dX10_markBack_135 rfl (lv_at hl 2 rfl) ?_
  obtain ⟨u1, hu1, hf⟩ := bd_e hf
  refine ca_s (As := [.int x2]) (rest := [.ref (ad 17)]) Fx hC (k_M_at_ hu1) (cSU 1 Fx.2.2.2.2 wd_755 wd_756 wd_10 wd_757 rfl rfl hd_M_at_ ⟨Nat.le_of_ble_eq_true rfl, Nat.le_of_ble_eq_true rfl⟩) rfl hl.1 rfl (Nat.le_of_ble_eq_true rfl) dX10_markBack_136 (fun H locs hC => ?_)
  refine lv_iload_n Fx.1 Fx.2.1 dX10_markBack_139 rfl (lv_at hl 3 rfl) ?_
  refine lv_iadd Fx.1 Fx.2.1 dX10_markBack_140 ?_
  refine lv_iload Fx.1 Fx.2.1 dX10_markBack_141 (lv_at hl 4 rfl) ?_
  obtain ⟨hi2, hf⟩ := gd_e hf
  obtain ⟨hz3, hf⟩ := gd_e hf
  obtain ⟨f4, ef4, hf⟩ := lt_e hf
  refine st_M_isOn Fx hC hi2 hz3 ef4 dX10_markBack_143 (fun H locs hC => ?_)
  obtain ⟨v5, ev5, hf⟩ := lt_e hf
  refine lv_iinc (v := v5) (lv' := [(3, .int v5), (0, .ref (ad 0)), (1, .int x1), (2, .int x2), (4, .int x4)]) Fx.1 Fx.2.1 dX10_markBack_144 hl (k := 3) rfl ev5.symm (by decide) rfl (fun ls hl => ?_)
  refine lv_goto (tgt := 18) Fx.1 Fx.2.1 dX10_markBack_147 (by decide) ?_
  exact hK18 _ hf _ _ _ (lv_sub hl [1, 2, 3, 0] rfl) hC
noncomputable def p_M_markBack_L66 (K7 : (Int32 × Int32 × sG × sF) → Option (sG × sF)) (K18 : (Int32 × Int32 × Int32 × sG × sF) → Option (sG × sF)) (K66 : (Int32 × Int32 × Int32 × Int32 × Int32 × sG × sF) → Option (sG × sF)) (x1 : Int32) (x2 : Int32) (x3 : Int32) (x4 : Int32) (x5 : Int32) (g : sG) (f : sF) : Option (sG × sF) := (if (g 1) < x5 then p_M_markBack_J131 K7 K18 x1 x2 x3 x4 g f else (if ((g 3) - (1 : Int32)) ≤ x2 then p_M_markBack_J131 K7 K18 x1 x2 x3 x4 g f else (if x4 = 0 then Option.bind (p_M_at_ (x2 + (1 : Int32)) g f) (fun u2 => (if (u2 + x5) < 0 ∨ 1000 ≤ (u2 + x5).toNatClampNeg then none else (if (f 16 (u2 + x5).toNatClampNeg) = 0 then lt_ (x5 + (1 : Int32)) (fun v4 => K66 (x1, x2, x3, (0 : Int32), v4, g, f)) else Option.bind (p_M_goesOn x2 x3 x5 g f) (fun u5 => (if u5 = 0 then lt_ (x5 + (1 : Int32)) (fun v6 => K66 (x1, x2, x3, (0 : Int32), v6, g, f)) else lt_ (x5 + (1 : Int32)) (fun v7 => K66 (x1, x2, x3, (1 : Int32), v7, g, f))))))) else lt_ (x5 + (1 : Int32)) (fun v1 => K66 (x1, x2, x3, (1 : Int32), v1, g, f)))))
set_option maxRecDepth 100000 in
set_option maxHeartbeats 4000000 in
theorem s_M_markBack_L66 {K7 : (Int32 × Int32 × sG × sF) → Option (sG × sF)} {K18 : (Int32 × Int32 × Int32 × sG × sF) → Option (sG × sF)} {K66 : (Int32 × Int32 × Int32 × Int32 × Int32 × sG × sF) → Option (sG × sF)} {p : Program} {l : Launch} {e : Env} {s : State} {m : MethodId} {args : Array Value} {below : List Frame} {meth : Method} {c : Code} {Q : State → Prop} {D : va_G} {ad : Nat → Nat} {cy : Nat → ClassId} {A : Nat → Prop} {H0 : Heap} {u : sG × sF} (Fx : CallFix p m c cX10_markBack 6 s args (Cond.code yX10_markBack cX10_markBack 6 none :: wU) RX10) (hret : mRv p l e rm_M_markBack s m args below meth c Q D (mT cy) (mW ad cy) A H0 cX10_markBack u) (hK7 : ∀ (z : Int32 × Int32 × sG × sF), K7 z = some u → ∀ (ls : Array Slot) (H : Heap) (locs : List Loc), lv_has ls 6 [(0, .ref (ad 0)), (1, .int z.1), (2, .int z.2.1)] → wH D (mT cy) (mW ad cy) A H0 s z.2.2.1 z.2.2.2 H locs → W p l e rm_M_markBack s m args below meth c H locs 0 0 Q (F0 m 7 ls [])) (hK18 : ∀ (z : Int32 × Int32 × Int32 × sG × sF), K18 z = some u → ∀ (ls : Array Slot) (H : Heap) (locs : List Loc), lv_has ls 6 [(0, .ref (ad 0)), (1, .int z.1), (2, .int z.2.1), (3, .int z.2.2.1)] → wH D (mT cy) (mW ad cy) A H0 s z.2.2.2.1 z.2.2.2.2 H locs → W p l e rm_M_markBack s m args below meth c H locs 0 0 Q (F0 m 18 ls [])) (hK66 : ∀ (z : Int32 × Int32 × Int32 × Int32 × Int32 × sG × sF), K66 z = some u → ∀ (ls : Array Slot) (H : Heap) (locs : List Loc), lv_has ls 6 [(0, .ref (ad 0)), (1, .int z.1), (2, .int z.2.1), (3, .int z.2.2.1), (4, .int z.2.2.2.1), (5, .int z.2.2.2.2.1)] → wH D (mT cy) (mW ad cy) A H0 s z.2.2.2.2.2.1 z.2.2.2.2.2.2 H locs → W p l e rm_M_markBack s m args below meth c H locs 0 0 Q (F0 m 66 ls [])) (x1 : Int32) (x2 : Int32) (x3 : Int32) (x4 : Int32) (x5 : Int32) (g : sG) (f : sF) (hf : p_M_markBack_L66 K7 K18 K66 x1 x2 x3 x4 x5 g f = some u) : ∀ (ls : Array Slot) (H : Heap) (locs : List Loc), lv_has ls 6 [(0, .ref (ad 0)), (1, .int x1), (2, .int x2), (3, .int x3), (4, .int x4), (5, .int x5)] → wH D (mT cy) (mW ad cy) A H0 s g f H locs → W p l e rm_M_markBack s m args below meth c H locs 0 0 Q (F0 m 66 ls []) := by
  intro ls H locs hl hC
  unfold p_M_markBack_L66 at hf
  refine lv_iload Fx.1 Fx.2.1 dX10_markBack_66 (lv_at hl 5 rfl) ?_
  refine lv_aload_n Fx.1 Fx.2.1 dX10_markBack_68 rfl (lv_at hl 0 rfl) ?_
  refine gg_M_neck Fx hC wd_592 dX10_markBack_69 ?_
  refine lv_icmp_gt (tgt := 131) Fx.1 Fx.2.1 dX10_markBack_72 (by decide) (fun hc => ?_) (fun hc => ?_)
  · replace hf := ift hc hf
    exact s_M_markBack_J131 Fx hret hK7 hK18 _ _ _ _ _ _  hf _ _ _ (lv_sub hl [0, 1, 2, 3, 4] rfl) hC
  · replace hf := iff_ hc hf
    refine lv_iload_n Fx.1 Fx.2.1 dX10_markBack_75 rfl (lv_at hl 2 rfl) ?_
    refine lv_aload_n Fx.1 Fx.2.1 dX10_markBack_76 rfl (lv_at hl 0 rfl) ?_
    refine gg_M_events Fx hC wd_595 dX10_markBack_77 ?_
    refine lv_iconst (v := (1 : Int32)) Fx.1 Fx.2.1 dX10_markBack_80 (by decide) ?_
    refine lv_isub Fx.1 Fx.2.1 dX10_markBack_81 ?_
    refine lv_icmp_ge (tgt := 131) Fx.1 Fx.2.1 dX10_markBack_82 (by decide) (fun hc => ?_) (fun hc => ?_)
    · replace hf := ift hc hf
      exact s_M_markBack_J131 Fx hret hK7 hK18 _ _ _ _ _ _  hf _ _ _ (lv_sub hl [0, 1, 2, 3, 4] rfl) hC
    · replace hf := iff_ hc hf
      refine lv_iload Fx.1 Fx.2.1 dX10_markBack_85 (lv_at hl 4 rfl) ?_
      refine lv_if_ne (tgt := 118) Fx.1 Fx.2.1 dX10_markBack_87 (by decide) (fun hc => ?_) (fun hc => ?_)
      · replace hf := iff_ hc hf
        refine lv_iconst (v := (1 : Int32)) Fx.1 Fx.2.1 dX10_markBack_118 (by decide) ?_
        refine lv_goto (tgt := 123) Fx.1 Fx.2.1 dX10_markBack_119 (by decide) ?_
        refine lv_istore (lv' := [(4, .int (1 : Int32)), (0, .ref (ad 0)), (1, .int x1), (2, .int x2), (3, .int x3), (5, .int x5)]) Fx.1 Fx.2.1 dX10_markBack_123 hl (by decide) rfl (fun ls hl => ?_)
        obtain ⟨v1, ev1, hf⟩ := lt_e hf
        refine lv_iinc (v := v1) (lv' := [(5, .int v1), (4, .int (1 : Int32)), (0, .ref (ad 0)), (1, .int x1), (2, .int x2), (3, .int x3)]) Fx.1 Fx.2.1 dX10_markBack_125 hl (k := 5) rfl ev1.symm (by decide) rfl (fun ls hl => ?_)
        refine lv_goto (tgt := 66) Fx.1 Fx.2.1 dX10_markBack_128 (by decide) ?_
        exact hK66 _ hf _ _ _ (lv_sub hl [2, 3, 4, 5, 1, 0] rfl) hC
      · replace hf := ift hc hf
        refine lv_aload_n Fx.1 Fx.2.1 dX10_markBack_90 rfl (lv_at hl 0 rfl) ?_
        refine gg_M_isOn Fx hC wd_614 dX10_markBack_91 ?_
        refine lv_iload_n Fx.1 Fx.2.1 dX10_markBack_94 rfl (lv_at hl 2 rfl) ?_
        refine lv_iconst (v := (1 : Int32)) Fx.1 Fx.2.1 dX10_markBack_95 (by decide) ?_
        refine lv_iadd Fx.1 Fx.2.1 dX10_markBack_96 ?_
        obtain ⟨u2, hu2, hf⟩ := bd_e hf
        refine ca_s (As := [.int (x2 + (1 : Int32))]) (rest := [.ref (ad 17)]) Fx hC (k_M_at_ hu2) (cSU 1 Fx.2.2.2.2 wd_755 wd_756 wd_10 wd_757 rfl rfl hd_M_at_ ⟨Nat.le_of_ble_eq_true rfl, Nat.le_of_ble_eq_true rfl⟩) rfl hl.1 rfl (Nat.le_of_ble_eq_true rfl) dX10_markBack_97 (fun H locs hC => ?_)
        refine lv_iload Fx.1 Fx.2.1 dX10_markBack_100 (lv_at hl 5 rfl) ?_
        refine lv_iadd Fx.1 Fx.2.1 dX10_markBack_102 ?_
        obtain ⟨hi3, hf⟩ := gd_e hf
        refine ld_M_isOn Fx hC hi3 dX10_markBack_103 ?_
        refine lv_if_eq (tgt := 122) Fx.1 Fx.2.1 dX10_markBack_104 (by decide) (fun hc => ?_) (fun hc => ?_)
        · replace hf := ift hc hf
          refine lv_iconst (v := (0 : Int32)) Fx.1 Fx.2.1 dX10_markBack_122 (by decide) ?_
          refine lv_istore (lv' := [(4, .int (0 : Int32)), (0, .ref (ad 0)), (1, .int x1), (2, .int x2), (3, .int x3), (5, .int x5)]) Fx.1 Fx.2.1 dX10_markBack_123 hl (by decide) rfl (fun ls hl => ?_)
          obtain ⟨v4, ev4, hf⟩ := lt_e hf
          refine lv_iinc (v := v4) (lv' := [(5, .int v4), (4, .int (0 : Int32)), (0, .ref (ad 0)), (1, .int x1), (2, .int x2), (3, .int x3)]) Fx.1 Fx.2.1 dX10_markBack_125 hl (k := 5) rfl ev4.symm (by decide) rfl (fun ls hl => ?_)
          refine lv_goto (tgt := 66) Fx.1 Fx.2.1 dX10_markBack_128 (by decide) ?_
          exact hK66 _ hf _ _ _ (lv_sub hl [2, 3, 4, 5, 1, 0] rfl) hC
        · replace hf := iff_ hc hf
          refine lv_aload_n Fx.1 Fx.2.1 dX10_markBack_107 rfl (lv_at hl 0 rfl) ?_
          refine lv_iload_n Fx.1 Fx.2.1 dX10_markBack_108 rfl (lv_at hl 2 rfl) ?_
          refine lv_iload_n Fx.1 Fx.2.1 dX10_markBack_109 rfl (lv_at hl 3 rfl) ?_
          refine lv_iload Fx.1 Fx.2.1 dX10_markBack_110 (lv_at hl 5 rfl) ?_
          obtain ⟨u5, hu5, hf⟩ := bd_e hf
          refine ca_i (As := [.int x2, .int x3, .int x5]) (rest := []) Fx hC (k_M_goesOn hu5) (cVU 3 Fx.2.2.2.2 wd_769 wd_770 wd_894 wd_10 wd_771 rfl rfl hd_M_goesOn ⟨Nat.le_of_ble_eq_true rfl, Nat.le_of_ble_eq_true rfl⟩) 0 rfl rfl rfl hl.1 rfl (Nat.le_of_ble_eq_true rfl) dX10_markBack_112 (fun H locs hC => ?_)
          refine lv_if_eq (tgt := 122) Fx.1 Fx.2.1 dX10_markBack_115 (by decide) (fun hc => ?_) (fun hc => ?_)
          · replace hf := ift hc hf
            refine lv_iconst (v := (0 : Int32)) Fx.1 Fx.2.1 dX10_markBack_122 (by decide) ?_
            refine lv_istore (lv' := [(4, .int (0 : Int32)), (0, .ref (ad 0)), (1, .int x1), (2, .int x2), (3, .int x3), (5, .int x5)]) Fx.1 Fx.2.1 dX10_markBack_123 hl (by decide) rfl (fun ls hl => ?_)
            obtain ⟨v6, ev6, hf⟩ := lt_e hf
            refine lv_iinc (v := v6) (lv' := [(5, .int v6), (4, .int (0 : Int32)), (0, .ref (ad 0)), (1, .int x1), (2, .int x2), (3, .int x3)]) Fx.1 Fx.2.1 dX10_markBack_125 hl (k := 5) rfl ev6.symm (by decide) rfl (fun ls hl => ?_)
            refine lv_goto (tgt := 66) Fx.1 Fx.2.1 dX10_markBack_128 (by decide) ?_
            exact hK66 _ hf _ _ _ (lv_sub hl [2, 3, 4, 5, 1, 0] rfl) hC
          · replace hf := iff_ hc hf
            refine lv_iconst (v := (1 : Int32)) Fx.1 Fx.2.1 dX10_markBack_118 (by decide) ?_
            refine lv_goto (tgt := 123) Fx.1 Fx.2.1 dX10_markBack_119 (by decide) ?_
            refine lv_istore (lv' := [(4, .int (1 : Int32)), (0, .ref (ad 0)), (1, .int x1), (2, .int x2), (3, .int x3), (5, .int x5)]) Fx.1 Fx.2.1 dX10_markBack_123 hl (by decide) rfl (fun ls hl => ?_)
            obtain ⟨v7, ev7, hf⟩ := lt_e hf
            refine lv_iinc (v := v7) (lv' := [(5, .int v7), (4, .int (1 : Int32)), (0, .ref (ad 0)), (1, .int x1), (2, .int x2), (3, .int x3)]) Fx.1 Fx.2.1 dX10_markBack_125 hl (k := 5) rfl ev7.symm (by decide) rfl (fun ls hl => ?_)
            refine lv_goto (tgt := 66) Fx.1 Fx.2.1 dX10_markBack_128 (by decide) ?_
            exact hK66 _ hf _ _ _ (lv_sub hl [2, 3, 4, 5, 1, 0] rfl) hC
set_option maxRecDepth 100000 in
set_option maxHeartbeats 4000000 in
theorem t_M_markBack_L66 {K7 : (Int32 × Int32 × sG × sF) → Option (sG × sF)} {K18 : (Int32 × Int32 × Int32 × sG × sF) → Option (sG × sF)} {p : Program} {l : Launch} {e : Env} {s : State} {m : MethodId} {args : Array Value} {below : List Frame} {meth : Method} {c : Code} {Q : State → Prop} {D : va_G} {ad : Nat → Nat} {cy : Nat → ClassId} {A : Nat → Prop} {H0 : Heap} {u : sG × sF} (Fx : CallFix p m c cX10_markBack 6 s args (Cond.code yX10_markBack cX10_markBack 6 none :: wU) RX10) (hret : mRv p l e rm_M_markBack s m args below meth c Q D (mT cy) (mW ad cy) A H0 cX10_markBack u) (hK7 : ∀ (z : Int32 × Int32 × sG × sF), K7 z = some u → ∀ (ls : Array Slot) (H : Heap) (locs : List Loc), lv_has ls 6 [(0, .ref (ad 0)), (1, .int z.1), (2, .int z.2.1)] → wH D (mT cy) (mW ad cy) A H0 s z.2.2.1 z.2.2.2 H locs → W p l e rm_M_markBack s m args below meth c H locs 0 0 Q (F0 m 7 ls [])) (hK18 : ∀ (z : Int32 × Int32 × Int32 × sG × sF), K18 z = some u → ∀ (ls : Array Slot) (H : Heap) (locs : List Loc), lv_has ls 6 [(0, .ref (ad 0)), (1, .int z.1), (2, .int z.2.1), (3, .int z.2.2.1)] → wH D (mT cy) (mW ad cy) A H0 s z.2.2.2.1 z.2.2.2.2 H locs → W p l e rm_M_markBack s m args below meth c H locs 0 0 Q (F0 m 18 ls [])) (n : Nat) (z : Int32 × Int32 × Int32 × Int32 × Int32 × sG × sF) (hz : itr (fun K z => p_M_markBack_L66 K7 K18 K z.1 z.2.1 z.2.2.1 z.2.2.2.1 z.2.2.2.2.1 z.2.2.2.2.2.1 z.2.2.2.2.2.2) n z = some u) : ∀ (ls : Array Slot) (H : Heap) (locs : List Loc), lv_has ls 6 [(0, .ref (ad 0)), (1, .int z.1), (2, .int z.2.1), (3, .int z.2.2.1), (4, .int z.2.2.2.1), (5, .int z.2.2.2.2.1)] → wH D (mT cy) (mW ad cy) A H0 s z.2.2.2.2.2.1 z.2.2.2.2.2.2 H locs → W p l e rm_M_markBack s m args below meth c H locs 0 0 Q (F0 m 66 ls []) :=
  itr_all (B := fun K z => p_M_markBack_L66 K7 K18 K z.1 z.2.1 z.2.2.1 z.2.2.2.1 z.2.2.2.2.1 z.2.2.2.2.2.1 z.2.2.2.2.2.2) (r := u) (fun z => ∀ (ls : Array Slot) (H : Heap) (locs : List Loc), lv_has ls 6 [(0, .ref (ad 0)), (1, .int z.1), (2, .int z.2.1), (3, .int z.2.2.1), (4, .int z.2.2.2.1), (5, .int z.2.2.2.2.1)] → wH D (mT cy) (mW ad cy) A H0 s z.2.2.2.2.2.1 z.2.2.2.2.2.2 H locs → W p l e rm_M_markBack s m args below meth c H locs 0 0 Q (F0 m 66 ls [])) (fun K hK z h => s_M_markBack_L66 (K66 := K) Fx hret hK7 hK18 hK z.1 z.2.1 z.2.2.1 z.2.2.2.1 z.2.2.2.2.1 z.2.2.2.2.2.1 z.2.2.2.2.2.2 h) n z hz
noncomputable def p_M_markBack_L18 (K7 : (Int32 × Int32 × sG × sF) → Option (sG × sF)) (K18 : (Int32 × Int32 × Int32 × sG × sF) → Option (sG × sF)) (x1 : Int32) (x2 : Int32) (x3 : Int32) (g : sG) (f : sF) : Option (sG × sF) := (if (g 1) < x3 then lt_ (x2 + (-1 : Int32)) (fun v1 => K7 (x1, v1, g, f)) else (if x2 = ((g 3) - (1 : Int32)) then Option.bind (p_M_at_ x2 g f) (fun u3 => (if (u3 + x3) < 0 ∨ 1000 ≤ (u3 + x3).toNatClampNeg then none else (if (f 14 (u3 + x3).toNatClampNeg) = x1 then lt_ ((g 2) + (1 : Int32)) (fun v6 => itr (fun K z => p_M_markBack_L66 K7 K18 K z.1 z.2.1 z.2.2.1 z.2.2.2.1 z.2.2.2.2.1 z.2.2.2.2.2.1 z.2.2.2.2.2.2) FUEL (x1, x2, x3, (1 : Int32), v6, g, f)) else lt_ ((g 2) + (1 : Int32)) (fun v5 => itr (fun K z => p_M_markBack_L66 K7 K18 K z.1 z.2.1 z.2.2.1 z.2.2.2.1 z.2.2.2.2.1 z.2.2.2.2.2.1 z.2.2.2.2.2.2) FUEL (x1, x2, x3, (0 : Int32), v5, g, f))))) else lt_ ((g 2) + (1 : Int32)) (fun v2 => itr (fun K z => p_M_markBack_L66 K7 K18 K z.1 z.2.1 z.2.2.1 z.2.2.2.1 z.2.2.2.2.1 z.2.2.2.2.2.1 z.2.2.2.2.2.2) FUEL (x1, x2, x3, (0 : Int32), v2, g, f))))
set_option maxRecDepth 100000 in
set_option maxHeartbeats 4000000 in
theorem s_M_markBack_L18 {K7 : (Int32 × Int32 × sG × sF) → Option (sG × sF)} {K18 : (Int32 × Int32 × Int32 × sG × sF) → Option (sG × sF)} {p : Program} {l : Launch} {e : Env} {s : State} {m : MethodId} {args : Array Value} {below : List Frame} {meth : Method} {c : Code} {Q : State → Prop} {D : va_G} {ad : Nat → Nat} {cy : Nat → ClassId} {A : Nat → Prop} {H0 : Heap} {u : sG × sF} (Fx : CallFix p m c cX10_markBack 6 s args (Cond.code yX10_markBack cX10_markBack 6 none :: wU) RX10) (hret : mRv p l e rm_M_markBack s m args below meth c Q D (mT cy) (mW ad cy) A H0 cX10_markBack u) (hK7 : ∀ (z : Int32 × Int32 × sG × sF), K7 z = some u → ∀ (ls : Array Slot) (H : Heap) (locs : List Loc), lv_has ls 6 [(0, .ref (ad 0)), (1, .int z.1), (2, .int z.2.1)] → wH D (mT cy) (mW ad cy) A H0 s z.2.2.1 z.2.2.2 H locs → W p l e rm_M_markBack s m args below meth c H locs 0 0 Q (F0 m 7 ls [])) (hK18 : ∀ (z : Int32 × Int32 × Int32 × sG × sF), K18 z = some u → ∀ (ls : Array Slot) (H : Heap) (locs : List Loc), lv_has ls 6 [(0, .ref (ad 0)), (1, .int z.1), (2, .int z.2.1), (3, .int z.2.2.1)] → wH D (mT cy) (mW ad cy) A H0 s z.2.2.2.1 z.2.2.2.2 H locs → W p l e rm_M_markBack s m args below meth c H locs 0 0 Q (F0 m 18 ls [])) (x1 : Int32) (x2 : Int32) (x3 : Int32) (g : sG) (f : sF) (hf : p_M_markBack_L18 K7 K18 x1 x2 x3 g f = some u) : ∀ (ls : Array Slot) (H : Heap) (locs : List Loc), lv_has ls 6 [(0, .ref (ad 0)), (1, .int x1), (2, .int x2), (3, .int x3)] → wH D (mT cy) (mW ad cy) A H0 s g f H locs → W p l e rm_M_markBack s m args below meth c H locs 0 0 Q (F0 m 18 ls []) := by
  intro ls H locs hl hC
  unfold p_M_markBack_L18 at hf
  refine lv_iload_n Fx.1 Fx.2.1 dX10_markBack_18 rfl (lv_at hl 3 rfl) ?_
  refine lv_aload_n Fx.1 Fx.2.1 dX10_markBack_19 rfl (lv_at hl 0 rfl) ?_
  refine gg_M_neck Fx hC wd_592 dX10_markBack_20 ?_
  refine lv_icmp_gt (tgt := 150) Fx.1 Fx.2.1 dX10_markBack_23 (by decide) (fun hc => ?_) (fun hc => ?_)
  · replace hf := ift hc hf
    obtain ⟨v1, ev1, hf⟩ := lt_e hf
    refine lv_iinc (v := v1) (lv' := [(2, .int v1), (0, .ref (ad 0)), (1, .int x1), (3, .int x3)]) Fx.1 Fx.2.1 dX10_markBack_150 hl (k := 2) rfl ev1.symm (by decide) rfl (fun ls hl => ?_)
    refine lv_goto (tgt := 7) Fx.1 Fx.2.1 dX10_markBack_153 (by decide) ?_
    exact hK7 _ hf _ _ _ (lv_sub hl [1, 2, 0] rfl) hC
  · replace hf := iff_ hc hf
    refine lv_iload_n Fx.1 Fx.2.1 dX10_markBack_26 rfl (lv_at hl 2 rfl) ?_
    refine lv_aload_n Fx.1 Fx.2.1 dX10_markBack_27 rfl (lv_at hl 0 rfl) ?_
    refine gg_M_events Fx hC wd_595 dX10_markBack_28 ?_
    refine lv_iconst (v := (1 : Int32)) Fx.1 Fx.2.1 dX10_markBack_31 (by decide) ?_
    refine lv_isub Fx.1 Fx.2.1 dX10_markBack_32 ?_
    refine lv_icmp_ne (tgt := 55) Fx.1 Fx.2.1 dX10_markBack_33 (by decide) (fun hc => ?_) (fun hc => ?_)
    · replace hf := iff_ hc hf
      refine lv_iconst (v := (0 : Int32)) Fx.1 Fx.2.1 dX10_markBack_55 (by decide) ?_
      refine lv_istore (lv' := [(4, .int (0 : Int32)), (0, .ref (ad 0)), (1, .int x1), (2, .int x2), (3, .int x3)]) Fx.1 Fx.2.1 dX10_markBack_56 hl (by decide) rfl (fun ls hl => ?_)
      refine lv_aload_n Fx.1 Fx.2.1 dX10_markBack_58 rfl (lv_at hl 1 rfl) ?_
      refine gg_M_capo Fx hC wd_593 dX10_markBack_59 ?_
      refine lv_iconst (v := (1 : Int32)) Fx.1 Fx.2.1 dX10_markBack_62 (by decide) ?_
      refine lv_iadd Fx.1 Fx.2.1 dX10_markBack_63 ?_
      obtain ⟨v2, ev2, hf⟩ := lt_e hf
      refine tpi ev2 ?_
      refine lv_istore (lv' := [(5, .int v2), (4, .int (0 : Int32)), (0, .ref (ad 0)), (1, .int x1), (2, .int x2), (3, .int x3)]) Fx.1 Fx.2.1 dX10_markBack_64 hl (by decide) rfl (fun ls hl => ?_)
      exact t_M_markBack_L66 Fx hret hK7 hK18 _ _ hf _ _ _ (lv_sub hl [2, 3, 4, 5, 1, 0] rfl) hC
    · replace hf := ift hc hf
      refine lv_aload_n Fx.1 Fx.2.1 dX10_markBack_36 rfl (lv_at hl 0 rfl) ?_
      refine gg_M_sums Fx hC wd_612 dX10_markBack_37 ?_
      refine lv_iload_n Fx.1 Fx.2.1 dX10_markBack_40 rfl (lv_at hl 2 rfl) ?_
      obtain ⟨u3, hu3, hf⟩ := bd_e hf
      refine ca_s (As := [.int x2]) (rest := [.ref (ad 15)]) Fx hC (k_M_at_ hu3) (cSU 1 Fx.2.2.2.2 wd_755 wd_756 wd_10 wd_757 rfl rfl hd_M_at_ ⟨Nat.le_of_ble_eq_true rfl, Nat.le_of_ble_eq_true rfl⟩) rfl hl.1 rfl (Nat.le_of_ble_eq_true rfl) dX10_markBack_41 (fun H locs hC => ?_)
      refine lv_iload_n Fx.1 Fx.2.1 dX10_markBack_44 rfl (lv_at hl 3 rfl) ?_
      refine lv_iadd Fx.1 Fx.2.1 dX10_markBack_45 ?_
      obtain ⟨hi4, hf⟩ := gd_e hf
      refine ld_M_sums Fx hC hi4 dX10_markBack_46 ?_
      refine lv_iload_n Fx.1 Fx.2.1 dX10_markBack_47 rfl (lv_at hl 1 rfl) ?_
      refine lv_icmp_ne (tgt := 55) Fx.1 Fx.2.1 dX10_markBack_48 (by decide) (fun hc => ?_) (fun hc => ?_)
      · replace hf := iff_ hc hf
        refine lv_iconst (v := (0 : Int32)) Fx.1 Fx.2.1 dX10_markBack_55 (by decide) ?_
        refine lv_istore (lv' := [(4, .int (0 : Int32)), (0, .ref (ad 0)), (1, .int x1), (2, .int x2), (3, .int x3)]) Fx.1 Fx.2.1 dX10_markBack_56 hl (by decide) rfl (fun ls hl => ?_)
        refine lv_aload_n Fx.1 Fx.2.1 dX10_markBack_58 rfl (lv_at hl 1 rfl) ?_
        refine gg_M_capo Fx hC wd_593 dX10_markBack_59 ?_
        refine lv_iconst (v := (1 : Int32)) Fx.1 Fx.2.1 dX10_markBack_62 (by decide) ?_
        refine lv_iadd Fx.1 Fx.2.1 dX10_markBack_63 ?_
        obtain ⟨v5, ev5, hf⟩ := lt_e hf
        refine tpi ev5 ?_
        refine lv_istore (lv' := [(5, .int v5), (4, .int (0 : Int32)), (0, .ref (ad 0)), (1, .int x1), (2, .int x2), (3, .int x3)]) Fx.1 Fx.2.1 dX10_markBack_64 hl (by decide) rfl (fun ls hl => ?_)
        exact t_M_markBack_L66 Fx hret hK7 hK18 _ _ hf _ _ _ (lv_sub hl [2, 3, 4, 5, 1, 0] rfl) hC
      · replace hf := ift hc hf
        refine lv_iconst (v := (1 : Int32)) Fx.1 Fx.2.1 dX10_markBack_51 (by decide) ?_
        refine lv_goto (tgt := 56) Fx.1 Fx.2.1 dX10_markBack_52 (by decide) ?_
        refine lv_istore (lv' := [(4, .int (1 : Int32)), (0, .ref (ad 0)), (1, .int x1), (2, .int x2), (3, .int x3)]) Fx.1 Fx.2.1 dX10_markBack_56 hl (by decide) rfl (fun ls hl => ?_)
        refine lv_aload_n Fx.1 Fx.2.1 dX10_markBack_58 rfl (lv_at hl 1 rfl) ?_
        refine gg_M_capo Fx hC wd_593 dX10_markBack_59 ?_
        refine lv_iconst (v := (1 : Int32)) Fx.1 Fx.2.1 dX10_markBack_62 (by decide) ?_
        refine lv_iadd Fx.1 Fx.2.1 dX10_markBack_63 ?_
        obtain ⟨v6, ev6, hf⟩ := lt_e hf
        refine tpi ev6 ?_
        refine lv_istore (lv' := [(5, .int v6), (4, .int (1 : Int32)), (0, .ref (ad 0)), (1, .int x1), (2, .int x2), (3, .int x3)]) Fx.1 Fx.2.1 dX10_markBack_64 hl (by decide) rfl (fun ls hl => ?_)
        exact t_M_markBack_L66 Fx hret hK7 hK18 _ _ hf _ _ _ (lv_sub hl [2, 3, 4, 5, 1, 0] rfl) hC
set_option maxRecDepth 100000 in
set_option maxHeartbeats 4000000 in
theorem t_M_markBack_L18 {K7 : (Int32 × Int32 × sG × sF) → Option (sG × sF)} {p : Program} {l : Launch} {e : Env} {s : State} {m : MethodId} {args : Array Value} {below : List Frame} {meth : Method} {c : Code} {Q : State → Prop} {D : va_G} {ad : Nat → Nat} {cy : Nat → ClassId} {A : Nat → Prop} {H0 : Heap} {u : sG × sF} (Fx : CallFix p m c cX10_markBack 6 s args (Cond.code yX10_markBack cX10_markBack 6 none :: wU) RX10) (hret : mRv p l e rm_M_markBack s m args below meth c Q D (mT cy) (mW ad cy) A H0 cX10_markBack u) (hK7 : ∀ (z : Int32 × Int32 × sG × sF), K7 z = some u → ∀ (ls : Array Slot) (H : Heap) (locs : List Loc), lv_has ls 6 [(0, .ref (ad 0)), (1, .int z.1), (2, .int z.2.1)] → wH D (mT cy) (mW ad cy) A H0 s z.2.2.1 z.2.2.2 H locs → W p l e rm_M_markBack s m args below meth c H locs 0 0 Q (F0 m 7 ls [])) (n : Nat) (z : Int32 × Int32 × Int32 × sG × sF) (hz : itr (fun K z => p_M_markBack_L18 K7 K z.1 z.2.1 z.2.2.1 z.2.2.2.1 z.2.2.2.2) n z = some u) : ∀ (ls : Array Slot) (H : Heap) (locs : List Loc), lv_has ls 6 [(0, .ref (ad 0)), (1, .int z.1), (2, .int z.2.1), (3, .int z.2.2.1)] → wH D (mT cy) (mW ad cy) A H0 s z.2.2.2.1 z.2.2.2.2 H locs → W p l e rm_M_markBack s m args below meth c H locs 0 0 Q (F0 m 18 ls []) :=
  itr_all (B := fun K z => p_M_markBack_L18 K7 K z.1 z.2.1 z.2.2.1 z.2.2.2.1 z.2.2.2.2) (r := u) (fun z => ∀ (ls : Array Slot) (H : Heap) (locs : List Loc), lv_has ls 6 [(0, .ref (ad 0)), (1, .int z.1), (2, .int z.2.1), (3, .int z.2.2.1)] → wH D (mT cy) (mW ad cy) A H0 s z.2.2.2.1 z.2.2.2.2 H locs → W p l e rm_M_markBack s m args below meth c H locs 0 0 Q (F0 m 18 ls [])) (fun K hK z h => s_M_markBack_L18 (K18 := K) Fx hret hK7 hK z.1 z.2.1 z.2.2.1 z.2.2.2.1 z.2.2.2.2 h) n z hz
noncomputable def p_M_markBack_L7 (K7 : (Int32 × Int32 × sG × sF) → Option (sG × sF)) (x1 : Int32) (x2 : Int32) (g : sG) (f : sF) : Option (sG × sF) := (if x2 < 0 then some (g, f) else lt_ ((g 2) + (1 : Int32)) (fun v1 => itr (fun K z => p_M_markBack_L18 K7 K z.1 z.2.1 z.2.2.1 z.2.2.2.1 z.2.2.2.2) FUEL (x1, x2, v1, g, f)))
set_option maxRecDepth 100000 in
set_option maxHeartbeats 4000000 in
theorem s_M_markBack_L7 {K7 : (Int32 × Int32 × sG × sF) → Option (sG × sF)} {p : Program} {l : Launch} {e : Env} {s : State} {m : MethodId} {args : Array Value} {below : List Frame} {meth : Method} {c : Code} {Q : State → Prop} {D : va_G} {ad : Nat → Nat} {cy : Nat → ClassId} {A : Nat → Prop} {H0 : Heap} {u : sG × sF} (Fx : CallFix p m c cX10_markBack 6 s args (Cond.code yX10_markBack cX10_markBack 6 none :: wU) RX10) (hret : mRv p l e rm_M_markBack s m args below meth c Q D (mT cy) (mW ad cy) A H0 cX10_markBack u) (hK7 : ∀ (z : Int32 × Int32 × sG × sF), K7 z = some u → ∀ (ls : Array Slot) (H : Heap) (locs : List Loc), lv_has ls 6 [(0, .ref (ad 0)), (1, .int z.1), (2, .int z.2.1)] → wH D (mT cy) (mW ad cy) A H0 s z.2.2.1 z.2.2.2 H locs → W p l e rm_M_markBack s m args below meth c H locs 0 0 Q (F0 m 7 ls [])) (x1 : Int32) (x2 : Int32) (g : sG) (f : sF) (hf : p_M_markBack_L7 K7 x1 x2 g f = some u) : ∀ (ls : Array Slot) (H : Heap) (locs : List Loc), lv_has ls 6 [(0, .ref (ad 0)), (1, .int x1), (2, .int x2)] → wH D (mT cy) (mW ad cy) A H0 s g f H locs → W p l e rm_M_markBack s m args below meth c H locs 0 0 Q (F0 m 7 ls []) := by
  intro ls H locs hl hC
  unfold p_M_markBack_L7 at hf
  refine lv_iload_n Fx.1 Fx.2.1 dX10_markBack_7 rfl (lv_at hl 2 rfl) ?_
  refine lv_if_lt (tgt := 156) Fx.1 Fx.2.1 dX10_markBack_8 (by decide) (fun hc => ?_) (fun hc => ?_)
  · replace hf := ift hc hf
    obtain rfl := Option.some.inj hf
    exact hret _ _ _ _ dX10_markBack_156 hC
  · replace hf := iff_ hc hf
    refine lv_aload_n Fx.1 Fx.2.1 dX10_markBack_11 rfl (lv_at hl 0 rfl) ?_
    refine gg_M_capo Fx hC wd_593 dX10_markBack_12 ?_
    refine lv_iconst (v := (1 : Int32)) Fx.1 Fx.2.1 dX10_markBack_15 (by decide) ?_
    refine lv_iadd Fx.1 Fx.2.1 dX10_markBack_16 ?_
    obtain ⟨v1, ev1, hf⟩ := lt_e hf
    refine tpi ev1 ?_
    refine lv_istore_n (lv' := [(3, .int v1), (0, .ref (ad 0)), (1, .int x1), (2, .int x2)]) Fx.1 Fx.2.1 dX10_markBack_17 rfl hl (by decide) rfl (fun ls hl => ?_)
    exact t_M_markBack_L18 Fx hret hK7 _ _ hf _ _ _ (lv_sub hl [1, 2, 3, 0] rfl) hC
set_option maxRecDepth 100000 in
set_option maxHeartbeats 4000000 in
theorem t_M_markBack_L7 {p : Program} {l : Launch} {e : Env} {s : State} {m : MethodId} {args : Array Value} {below : List Frame} {meth : Method} {c : Code} {Q : State → Prop} {D : va_G} {ad : Nat → Nat} {cy : Nat → ClassId} {A : Nat → Prop} {H0 : Heap} {u : sG × sF} (Fx : CallFix p m c cX10_markBack 6 s args (Cond.code yX10_markBack cX10_markBack 6 none :: wU) RX10) (hret : mRv p l e rm_M_markBack s m args below meth c Q D (mT cy) (mW ad cy) A H0 cX10_markBack u)  (n : Nat) (z : Int32 × Int32 × sG × sF) (hz : itr (fun K z => p_M_markBack_L7 K z.1 z.2.1 z.2.2.1 z.2.2.2) n z = some u) : ∀ (ls : Array Slot) (H : Heap) (locs : List Loc), lv_has ls 6 [(0, .ref (ad 0)), (1, .int z.1), (2, .int z.2.1)] → wH D (mT cy) (mW ad cy) A H0 s z.2.2.1 z.2.2.2 H locs → W p l e rm_M_markBack s m args below meth c H locs 0 0 Q (F0 m 7 ls []) :=
  itr_all (B := fun K z => p_M_markBack_L7 K z.1 z.2.1 z.2.2.1 z.2.2.2) (r := u) (fun z => ∀ (ls : Array Slot) (H : Heap) (locs : List Loc), lv_has ls 6 [(0, .ref (ad 0)), (1, .int z.1), (2, .int z.2.1)] → wH D (mT cy) (mW ad cy) A H0 s z.2.2.1 z.2.2.2 H locs → W p l e rm_M_markBack s m args below meth c H locs 0 0 Q (F0 m 7 ls [])) (fun K hK z h => s_M_markBack_L7 (K7 := K) Fx hret hK z.1 z.2.1 z.2.2.1 z.2.2.2 h) n z hz
noncomputable def p_M_markBack (a1 : Int32) (g : sG) (f : sF) : Option (sG × sF) := lt_ ((g 3) - (1 : Int32)) (fun v1 => itr (fun K z => p_M_markBack_L7 K z.1 z.2.1 z.2.2.1 z.2.2.2) FUEL (a1, v1, g, f))
set_option maxRecDepth 100000 in
set_option maxHeartbeats 4000000 in
theorem k_M_markBack {l : Launch} {D : va_G} {ad : Nat → Nat} {cy : Nat → ClassId} {a1 : Int32} {u : sG × sF} {g : sG} {f : sF} (hf : p_M_markBack a1 g f = some u) : mMv l yX10_markBack (Cond.code yX10_markBack cX10_markBack 6 none :: wU) rm_M_markBack D (mT cy) (mW ad cy) [.ref (ad 0), .int a1] g f u := by
  refine mk_v (by decide) rfl (Nat.le_of_ble_eq_true rfl) ?_
  intro p e s m below meth c Q A H0 Fx hret ls H locs hl hC
  replace hl : lv_has ls 6 [(0, .ref (ad 0)), (1, .int a1)] := hl
  unfold p_M_markBack at hf
  refine lv_aload_n Fx.1 Fx.2.1 dX10_markBack_0 rfl (lv_at hl 0 rfl) ?_
  refine gg_M_events Fx hC wd_595 dX10_markBack_1 ?_
  refine lv_iconst (v := (1 : Int32)) Fx.1 Fx.2.1 dX10_markBack_4 (by decide) ?_
  refine lv_isub Fx.1 Fx.2.1 dX10_markBack_5 ?_
  obtain ⟨v1, ev1, hf⟩ := lt_e hf
  refine tpi ev1 ?_
  refine lv_istore_n (lv' := [(2, .int v1), (0, .ref (ad 0)), (1, .int a1)]) Fx.1 Fx.2.1 dX10_markBack_6 rfl hl (by decide) rfl (fun ls hl => ?_)
  exact t_M_markBack_L7 Fx hret _ _ hf _ _ _ (lv_sub hl [1, 2, 0] rfl) hC
/-! FretHandsModel.takes(II)V -/
abbrev rm_M_takes : Room := { frames := 2, cells := 0, slots := 0, locals := 55 }
theorem hd_M_takes : yX10_takes.cls = RX10 ∧ yX10_takes.cls ≠ "java/lang/invoke/MethodHandle" ∧ yX10_takes.cls ≠ "java/lang/invoke/VarHandle" ∧ (parseMethodDescriptor yX10_takes.desc).map (fun d => d.parameters.length) = some 2 := by decide +kernel
noncomputable def p_M_takes_J179 (K18 : (Int32 × Int32 × Int32 × Int32 × Int32 × sG × sF) → Option (sG × sF)) (K32 : (Int32 × Int32 × Int32 × Int32 × Int32 × Int32 × sG × sF) → Option (sG × sF)) (K136 : (Int32 × Int32 × Int32 × Int32 × Int32 × Int32 × Int32 × sG × sF) → Option (sG × sF)) (x1 : Int32) (x2 : Int32) (x3 : Int32) (x4 : Int32) (x5 : Int32) (x6 : Int32) (x7 : Int32) (y0 : Int32) (y1 : Int32) (g : sG) (f : sF) : Option (sG × sF) := (if y1 < 0 ∨ 160 ≤ y1.toNatClampNeg then none else lt_ (up2 f 6 y1.toNatClampNeg y0) (fun f2 => lt_ (x7 + (1 : Int32)) (fun v3 => K136 (x1, x2, x3, x4, x5, x6, v3, g, f2))))
set_option maxRecDepth 100000 in
set_option maxHeartbeats 4000000 in
theorem s_M_takes_J179 {K18 : (Int32 × Int32 × Int32 × Int32 × Int32 × sG × sF) → Option (sG × sF)} {K32 : (Int32 × Int32 × Int32 × Int32 × Int32 × Int32 × sG × sF) → Option (sG × sF)} {K136 : (Int32 × Int32 × Int32 × Int32 × Int32 × Int32 × Int32 × sG × sF) → Option (sG × sF)} {p : Program} {l : Launch} {e : Env} {s : State} {m : MethodId} {args : Array Value} {below : List Frame} {meth : Method} {c : Code} {Q : State → Prop} {D : va_G} {ad : Nat → Nat} {cy : Nat → ClassId} {A : Nat → Prop} {H0 : Heap} {u : sG × sF} (Fx : CallFix p m c cX10_takes 8 s args (Cond.code yX10_takes cX10_takes 8 none :: wU) RX10) (hret : mRv p l e rm_M_takes s m args below meth c Q D (mT cy) (mW ad cy) A H0 cX10_takes u) (hK18 : ∀ (z : Int32 × Int32 × Int32 × Int32 × Int32 × sG × sF), K18 z = some u → ∀ (ls : Array Slot) (H : Heap) (locs : List Loc), lv_has ls 8 [(0, .ref (ad 0)), (1, .int z.1), (2, .int z.2.1), (3, .int z.2.2.1), (4, .int z.2.2.2.1), (5, .int z.2.2.2.2.1)] → wH D (mT cy) (mW ad cy) A H0 s z.2.2.2.2.2.1 z.2.2.2.2.2.2 H locs → W p l e rm_M_takes s m args below meth c H locs 0 0 Q (F0 m 18 ls [])) (hK32 : ∀ (z : Int32 × Int32 × Int32 × Int32 × Int32 × Int32 × sG × sF), K32 z = some u → ∀ (ls : Array Slot) (H : Heap) (locs : List Loc), lv_has ls 8 [(0, .ref (ad 0)), (1, .int z.1), (2, .int z.2.1), (3, .int z.2.2.1), (4, .int z.2.2.2.1), (5, .int z.2.2.2.2.1), (6, .int z.2.2.2.2.2.1)] → wH D (mT cy) (mW ad cy) A H0 s z.2.2.2.2.2.2.1 z.2.2.2.2.2.2.2 H locs → W p l e rm_M_takes s m args below meth c H locs 0 0 Q (F0 m 32 ls [])) (hK136 : ∀ (z : Int32 × Int32 × Int32 × Int32 × Int32 × Int32 × Int32 × sG × sF), K136 z = some u → ∀ (ls : Array Slot) (H : Heap) (locs : List Loc), lv_has ls 8 [(0, .ref (ad 0)), (1, .int z.1), (2, .int z.2.1), (3, .int z.2.2.1), (4, .int z.2.2.2.1), (5, .int z.2.2.2.2.1), (6, .int z.2.2.2.2.2.1), (7, .int z.2.2.2.2.2.2.1)] → wH D (mT cy) (mW ad cy) A H0 s z.2.2.2.2.2.2.2.1 z.2.2.2.2.2.2.2.2 H locs → W p l e rm_M_takes s m args below meth c H locs 0 0 Q (F0 m 136 ls [])) (x1 : Int32) (x2 : Int32) (x3 : Int32) (x4 : Int32) (x5 : Int32) (x6 : Int32) (x7 : Int32) (y0 : Int32) (y1 : Int32) (g : sG) (f : sF) (hf : p_M_takes_J179 K18 K32 K136 x1 x2 x3 x4 x5 x6 x7 y0 y1 g f = some u) : ∀ (ls : Array Slot) (H : Heap) (locs : List Loc), lv_has ls 8 [(0, .ref (ad 0)), (1, .int x1), (2, .int x2), (3, .int x3), (4, .int x4), (5, .int x5), (6, .int x6), (7, .int x7)] → wH D (mT cy) (mW ad cy) A H0 s g f H locs → W p l e rm_M_takes s m args below meth c H locs 0 0 Q (F0 m 179 ls [.int y0, .int y1, .ref (ad 7)]) := by
  intro ls H locs hl hC
  unfold p_M_takes_J179 at hf
  obtain ⟨hi1, hf⟩ := gd_e hf
  obtain ⟨f2, ef2, hf⟩ := lt_e hf
  refine st_M_foundStrings Fx hC hi1 ef2 dX10_takes_179 (fun H locs hC => ?_)
  obtain ⟨v3, ev3, hf⟩ := lt_e hf
  refine lv_iinc (v := v3) (lv' := [(7, .int v3), (0, .ref (ad 0)), (1, .int x1), (2, .int x2), (3, .int x3), (4, .int x4), (5, .int x5), (6, .int x6)]) Fx.1 Fx.2.1 dX10_takes_180 hl (k := 7) rfl ev3.symm (by decide) rfl (fun ls hl => ?_)
  refine lv_goto (tgt := 136) Fx.1 Fx.2.1 dX10_takes_183 (by decide) ?_
  exact hK136 _ hf _ _ _ (lv_sub hl [1, 2, 3, 4, 5, 6, 7, 0] rfl) hC
noncomputable def p_M_takes_L136 (K18 : (Int32 × Int32 × Int32 × Int32 × Int32 × sG × sF) → Option (sG × sF)) (K32 : (Int32 × Int32 × Int32 × Int32 × Int32 × Int32 × sG × sF) → Option (sG × sF)) (K136 : (Int32 × Int32 × Int32 × Int32 × Int32 × Int32 × Int32 × sG × sF) → Option (sG × sF)) (x1 : Int32) (x2 : Int32) (x3 : Int32) (x4 : Int32) (x5 : Int32) (x6 : Int32) (x7 : Int32) (g : sG) (f : sF) : Option (sG × sF) := (if (4 : Int32) ≤ x7 then lt_ (x3 + (1 : Int32)) (fun v1 => lt_ (x6 + (1 : Int32)) (fun v2 => K32 (x1, x2, v1, x4, x5, v2, g, f))) else (if x1 < 0 ∨ 40 ≤ x1.toNatClampNeg then none else (if (f 2 x1.toNatClampNeg) ≤ x7 then p_M_takes_J179 K18 K32 K136 x1 x2 x3 x4 x5 x6 x7 (-1 : Int32) (((4 : Int32) * x1) + x7) g f else (if (((4 : Int32) * x6) + x7) < 0 ∨ 3364 ≤ (((4 : Int32) * x6) + x7).toNatClampNeg then none else p_M_takes_J179 K18 K32 K136 x1 x2 x3 x4 x5 x6 x7 (f 10 (((4 : Int32) * x6) + x7).toNatClampNeg) (((4 : Int32) * x1) + x7) g f))))
set_option maxRecDepth 100000 in
set_option maxHeartbeats 4000000 in
theorem s_M_takes_L136 {K18 : (Int32 × Int32 × Int32 × Int32 × Int32 × sG × sF) → Option (sG × sF)} {K32 : (Int32 × Int32 × Int32 × Int32 × Int32 × Int32 × sG × sF) → Option (sG × sF)} {K136 : (Int32 × Int32 × Int32 × Int32 × Int32 × Int32 × Int32 × sG × sF) → Option (sG × sF)} {p : Program} {l : Launch} {e : Env} {s : State} {m : MethodId} {args : Array Value} {below : List Frame} {meth : Method} {c : Code} {Q : State → Prop} {D : va_G} {ad : Nat → Nat} {cy : Nat → ClassId} {A : Nat → Prop} {H0 : Heap} {u : sG × sF} (Fx : CallFix p m c cX10_takes 8 s args (Cond.code yX10_takes cX10_takes 8 none :: wU) RX10) (hret : mRv p l e rm_M_takes s m args below meth c Q D (mT cy) (mW ad cy) A H0 cX10_takes u) (hK18 : ∀ (z : Int32 × Int32 × Int32 × Int32 × Int32 × sG × sF), K18 z = some u → ∀ (ls : Array Slot) (H : Heap) (locs : List Loc), lv_has ls 8 [(0, .ref (ad 0)), (1, .int z.1), (2, .int z.2.1), (3, .int z.2.2.1), (4, .int z.2.2.2.1), (5, .int z.2.2.2.2.1)] → wH D (mT cy) (mW ad cy) A H0 s z.2.2.2.2.2.1 z.2.2.2.2.2.2 H locs → W p l e rm_M_takes s m args below meth c H locs 0 0 Q (F0 m 18 ls [])) (hK32 : ∀ (z : Int32 × Int32 × Int32 × Int32 × Int32 × Int32 × sG × sF), K32 z = some u → ∀ (ls : Array Slot) (H : Heap) (locs : List Loc), lv_has ls 8 [(0, .ref (ad 0)), (1, .int z.1), (2, .int z.2.1), (3, .int z.2.2.1), (4, .int z.2.2.2.1), (5, .int z.2.2.2.2.1), (6, .int z.2.2.2.2.2.1)] → wH D (mT cy) (mW ad cy) A H0 s z.2.2.2.2.2.2.1 z.2.2.2.2.2.2.2 H locs → W p l e rm_M_takes s m args below meth c H locs 0 0 Q (F0 m 32 ls [])) (hK136 : ∀ (z : Int32 × Int32 × Int32 × Int32 × Int32 × Int32 × Int32 × sG × sF), K136 z = some u → ∀ (ls : Array Slot) (H : Heap) (locs : List Loc), lv_has ls 8 [(0, .ref (ad 0)), (1, .int z.1), (2, .int z.2.1), (3, .int z.2.2.1), (4, .int z.2.2.2.1), (5, .int z.2.2.2.2.1), (6, .int z.2.2.2.2.2.1), (7, .int z.2.2.2.2.2.2.1)] → wH D (mT cy) (mW ad cy) A H0 s z.2.2.2.2.2.2.2.1 z.2.2.2.2.2.2.2.2 H locs → W p l e rm_M_takes s m args below meth c H locs 0 0 Q (F0 m 136 ls [])) (x1 : Int32) (x2 : Int32) (x3 : Int32) (x4 : Int32) (x5 : Int32) (x6 : Int32) (x7 : Int32) (g : sG) (f : sF) (hf : p_M_takes_L136 K18 K32 K136 x1 x2 x3 x4 x5 x6 x7 g f = some u) : ∀ (ls : Array Slot) (H : Heap) (locs : List Loc), lv_has ls 8 [(0, .ref (ad 0)), (1, .int x1), (2, .int x2), (3, .int x3), (4, .int x4), (5, .int x5), (6, .int x6), (7, .int x7)] → wH D (mT cy) (mW ad cy) A H0 s g f H locs → W p l e rm_M_takes s m args below meth c H locs 0 0 Q (F0 m 136 ls []) := by
  intro ls H locs hl hC
  unfold p_M_takes_L136 at hf
  refine lv_iload Fx.1 Fx.2.1 dX10_takes_136 (lv_at hl 7 rfl) ?_
  refine lv_iconst (v := (4 : Int32)) Fx.1 Fx.2.1 dX10_takes_138 (by decide) ?_
  refine lv_icmp_ge (tgt := 186) Fx.1 Fx.2.1 dX10_takes_139 (by decide) (fun hc => ?_) (fun hc => ?_)
  · replace hf := ift hc hf
    obtain ⟨v1, ev1, hf⟩ := lt_e hf
    refine lv_iinc (v := v1) (lv' := [(3, .int v1), (0, .ref (ad 0)), (1, .int x1), (2, .int x2), (4, .int x4), (5, .int x5), (6, .int x6), (7, .int x7)]) Fx.1 Fx.2.1 dX10_takes_186 hl (k := 3) rfl ev1.symm (by decide) rfl (fun ls hl => ?_)
    obtain ⟨v2, ev2, hf⟩ := lt_e hf
    refine lv_iinc (v := v2) (lv' := [(6, .int v2), (3, .int v1), (0, .ref (ad 0)), (1, .int x1), (2, .int x2), (4, .int x4), (5, .int x5), (7, .int x7)]) Fx.1 Fx.2.1 dX10_takes_189 hl (k := 6) rfl ev2.symm (by decide) rfl (fun ls hl => ?_)
    refine lv_goto (tgt := 32) Fx.1 Fx.2.1 dX10_takes_192 (by decide) ?_
    exact hK32 _ hf _ _ _ (lv_sub hl [2, 3, 4, 1, 5, 6, 0] rfl) hC
  · replace hf := iff_ hc hf
    refine lv_aload_n Fx.1 Fx.2.1 dX10_takes_142 rfl (lv_at hl 0 rfl) ?_
    refine gg_M_foundStrings Fx hC wd_601 dX10_takes_143 ?_
    refine lv_iconst (v := (4 : Int32)) Fx.1 Fx.2.1 dX10_takes_146 (by decide) ?_
    refine lv_iload_n Fx.1 Fx.2.1 dX10_takes_147 rfl (lv_at hl 1 rfl) ?_
    refine lv_imul Fx.1 Fx.2.1 dX10_takes_148 ?_
    refine lv_iload Fx.1 Fx.2.1 dX10_takes_149 (lv_at hl 7 rfl) ?_
    refine lv_iadd Fx.1 Fx.2.1 dX10_takes_151 ?_
    refine lv_iload Fx.1 Fx.2.1 dX10_takes_152 (lv_at hl 7 rfl) ?_
    refine lv_aload_n Fx.1 Fx.2.1 dX10_takes_154 rfl (lv_at hl 0 rfl) ?_
    refine gg_M_pitchMany Fx hC wd_596 dX10_takes_155 ?_
    refine lv_iload_n Fx.1 Fx.2.1 dX10_takes_158 rfl (lv_at hl 1 rfl) ?_
    obtain ⟨hi3, hf⟩ := gd_e hf
    refine ld_M_pitchMany Fx hC hi3 dX10_takes_159 ?_
    refine lv_icmp_ge (tgt := 178) Fx.1 Fx.2.1 dX10_takes_160 (by decide) (fun hc => ?_) (fun hc => ?_)
    · replace hf := ift hc hf
      refine lv_iconst (v := (-1 : Int32)) Fx.1 Fx.2.1 dX10_takes_178 (by decide) ?_
      exact s_M_takes_J179 Fx hret hK18 hK32 hK136 _ _ _ _ _ _ _ _ _ _ _  hf _ _ _ (lv_sub hl [0, 1, 2, 3, 4, 5, 6, 7] rfl) hC
    · replace hf := iff_ hc hf
      refine lv_aload_n Fx.1 Fx.2.1 dX10_takes_163 rfl (lv_at hl 0 rfl) ?_
      refine gg_M_wayStrings Fx hC wd_608 dX10_takes_164 ?_
      refine lv_iconst (v := (4 : Int32)) Fx.1 Fx.2.1 dX10_takes_167 (by decide) ?_
      refine lv_iload Fx.1 Fx.2.1 dX10_takes_168 (lv_at hl 6 rfl) ?_
      refine lv_imul Fx.1 Fx.2.1 dX10_takes_170 ?_
      refine lv_iload Fx.1 Fx.2.1 dX10_takes_171 (lv_at hl 7 rfl) ?_
      refine lv_iadd Fx.1 Fx.2.1 dX10_takes_173 ?_
      obtain ⟨hi4, hf⟩ := gd_e hf
      refine ld_M_wayStrings Fx hC hi4 dX10_takes_174 ?_
      refine lv_goto (tgt := 179) Fx.1 Fx.2.1 dX10_takes_175 (by decide) ?_
      exact s_M_takes_J179 Fx hret hK18 hK32 hK136 _ _ _ _ _ _ _ _ _ _ _  hf _ _ _ (lv_sub hl [0, 1, 2, 3, 4, 5, 6, 7] rfl) hC
set_option maxRecDepth 100000 in
set_option maxHeartbeats 4000000 in
theorem t_M_takes_L136 {K18 : (Int32 × Int32 × Int32 × Int32 × Int32 × sG × sF) → Option (sG × sF)} {K32 : (Int32 × Int32 × Int32 × Int32 × Int32 × Int32 × sG × sF) → Option (sG × sF)} {p : Program} {l : Launch} {e : Env} {s : State} {m : MethodId} {args : Array Value} {below : List Frame} {meth : Method} {c : Code} {Q : State → Prop} {D : va_G} {ad : Nat → Nat} {cy : Nat → ClassId} {A : Nat → Prop} {H0 : Heap} {u : sG × sF} (Fx : CallFix p m c cX10_takes 8 s args (Cond.code yX10_takes cX10_takes 8 none :: wU) RX10) (hret : mRv p l e rm_M_takes s m args below meth c Q D (mT cy) (mW ad cy) A H0 cX10_takes u) (hK18 : ∀ (z : Int32 × Int32 × Int32 × Int32 × Int32 × sG × sF), K18 z = some u → ∀ (ls : Array Slot) (H : Heap) (locs : List Loc), lv_has ls 8 [(0, .ref (ad 0)), (1, .int z.1), (2, .int z.2.1), (3, .int z.2.2.1), (4, .int z.2.2.2.1), (5, .int z.2.2.2.2.1)] → wH D (mT cy) (mW ad cy) A H0 s z.2.2.2.2.2.1 z.2.2.2.2.2.2 H locs → W p l e rm_M_takes s m args below meth c H locs 0 0 Q (F0 m 18 ls [])) (hK32 : ∀ (z : Int32 × Int32 × Int32 × Int32 × Int32 × Int32 × sG × sF), K32 z = some u → ∀ (ls : Array Slot) (H : Heap) (locs : List Loc), lv_has ls 8 [(0, .ref (ad 0)), (1, .int z.1), (2, .int z.2.1), (3, .int z.2.2.1), (4, .int z.2.2.2.1), (5, .int z.2.2.2.2.1), (6, .int z.2.2.2.2.2.1)] → wH D (mT cy) (mW ad cy) A H0 s z.2.2.2.2.2.2.1 z.2.2.2.2.2.2.2 H locs → W p l e rm_M_takes s m args below meth c H locs 0 0 Q (F0 m 32 ls [])) (n : Nat) (z : Int32 × Int32 × Int32 × Int32 × Int32 × Int32 × Int32 × sG × sF) (hz : itr (fun K z => p_M_takes_L136 K18 K32 K z.1 z.2.1 z.2.2.1 z.2.2.2.1 z.2.2.2.2.1 z.2.2.2.2.2.1 z.2.2.2.2.2.2.1 z.2.2.2.2.2.2.2.1 z.2.2.2.2.2.2.2.2) n z = some u) : ∀ (ls : Array Slot) (H : Heap) (locs : List Loc), lv_has ls 8 [(0, .ref (ad 0)), (1, .int z.1), (2, .int z.2.1), (3, .int z.2.2.1), (4, .int z.2.2.2.1), (5, .int z.2.2.2.2.1), (6, .int z.2.2.2.2.2.1), (7, .int z.2.2.2.2.2.2.1)] → wH D (mT cy) (mW ad cy) A H0 s z.2.2.2.2.2.2.2.1 z.2.2.2.2.2.2.2.2 H locs → W p l e rm_M_takes s m args below meth c H locs 0 0 Q (F0 m 136 ls []) :=
  itr_all (B := fun K z => p_M_takes_L136 K18 K32 K z.1 z.2.1 z.2.2.1 z.2.2.2.1 z.2.2.2.2.1 z.2.2.2.2.2.1 z.2.2.2.2.2.2.1 z.2.2.2.2.2.2.2.1 z.2.2.2.2.2.2.2.2) (r := u) (fun z => ∀ (ls : Array Slot) (H : Heap) (locs : List Loc), lv_has ls 8 [(0, .ref (ad 0)), (1, .int z.1), (2, .int z.2.1), (3, .int z.2.2.1), (4, .int z.2.2.2.1), (5, .int z.2.2.2.2.1), (6, .int z.2.2.2.2.2.1), (7, .int z.2.2.2.2.2.2.1)] → wH D (mT cy) (mW ad cy) A H0 s z.2.2.2.2.2.2.2.1 z.2.2.2.2.2.2.2.2 H locs → W p l e rm_M_takes s m args below meth c H locs 0 0 Q (F0 m 136 ls [])) (fun K hK z h => s_M_takes_L136 (K136 := K) Fx hret hK18 hK32 hK z.1 z.2.1 z.2.2.1 z.2.2.2.1 z.2.2.2.2.1 z.2.2.2.2.2.1 z.2.2.2.2.2.2.1 z.2.2.2.2.2.2.2.1 z.2.2.2.2.2.2.2.2 h) n z hz
noncomputable def p_M_takes_J93 (K18 : (Int32 × Int32 × Int32 × Int32 × Int32 × sG × sF) → Option (sG × sF)) (K32 : (Int32 × Int32 × Int32 × Int32 × Int32 × Int32 × sG × sF) → Option (sG × sF)) (x1 : Int32) (x2 : Int32) (x3 : Int32) (x5 : Int32) (x6 : Int32) (y0 : Int32) (g : sG) (f : sF) : Option (sG × sF) := (if y0 = 0 then lt_ (x3 + (1 : Int32)) (fun v1 => lt_ (x6 + (1 : Int32)) (fun v2 => K32 (x1, x2, v1, y0, x5, v2, g, f))) else (if x1 < 0 ∨ 40 ≤ x1.toNatClampNeg then none else lt_ (up2 f 5 x1.toNatClampNeg x5) (fun f4 => Option.bind (p_M_at_ x1 g f4) (fun u5 => (if (u5 + x5) < 0 ∨ 1000 ≤ (u5 + x5).toNatClampNeg then none else (if x1 < 0 ∨ 40 ≤ x1.toNatClampNeg then none else lt_ (up2 f4 7 x1.toNatClampNeg (f4 12 (u5 + x5).toNatClampNeg)) (fun f8 => (if x1 < 0 ∨ 40 ≤ x1.toNatClampNeg then none else lt_ (up2 f8 8 x1.toNatClampNeg x3) (fun f10 => itr (fun K z => p_M_takes_L136 K18 K32 K z.1 z.2.1 z.2.2.1 z.2.2.2.1 z.2.2.2.2.1 z.2.2.2.2.2.1 z.2.2.2.2.2.2.1 z.2.2.2.2.2.2.2.1 z.2.2.2.2.2.2.2.2) FUEL (x1, x2, x3, y0, x5, x6, (0 : Int32), g, f10))))))))))
set_option maxRecDepth 100000 in
set_option maxHeartbeats 4000000 in
theorem s_M_takes_J93 {K18 : (Int32 × Int32 × Int32 × Int32 × Int32 × sG × sF) → Option (sG × sF)} {K32 : (Int32 × Int32 × Int32 × Int32 × Int32 × Int32 × sG × sF) → Option (sG × sF)} {p : Program} {l : Launch} {e : Env} {s : State} {m : MethodId} {args : Array Value} {below : List Frame} {meth : Method} {c : Code} {Q : State → Prop} {D : va_G} {ad : Nat → Nat} {cy : Nat → ClassId} {A : Nat → Prop} {H0 : Heap} {u : sG × sF} (Fx : CallFix p m c cX10_takes 8 s args (Cond.code yX10_takes cX10_takes 8 none :: wU) RX10) (hret : mRv p l e rm_M_takes s m args below meth c Q D (mT cy) (mW ad cy) A H0 cX10_takes u) (hK18 : ∀ (z : Int32 × Int32 × Int32 × Int32 × Int32 × sG × sF), K18 z = some u → ∀ (ls : Array Slot) (H : Heap) (locs : List Loc), lv_has ls 8 [(0, .ref (ad 0)), (1, .int z.1), (2, .int z.2.1), (3, .int z.2.2.1), (4, .int z.2.2.2.1), (5, .int z.2.2.2.2.1)] → wH D (mT cy) (mW ad cy) A H0 s z.2.2.2.2.2.1 z.2.2.2.2.2.2 H locs → W p l e rm_M_takes s m args below meth c H locs 0 0 Q (F0 m 18 ls [])) (hK32 : ∀ (z : Int32 × Int32 × Int32 × Int32 × Int32 × Int32 × sG × sF), K32 z = some u → ∀ (ls : Array Slot) (H : Heap) (locs : List Loc), lv_has ls 8 [(0, .ref (ad 0)), (1, .int z.1), (2, .int z.2.1), (3, .int z.2.2.1), (4, .int z.2.2.2.1), (5, .int z.2.2.2.2.1), (6, .int z.2.2.2.2.2.1)] → wH D (mT cy) (mW ad cy) A H0 s z.2.2.2.2.2.2.1 z.2.2.2.2.2.2.2 H locs → W p l e rm_M_takes s m args below meth c H locs 0 0 Q (F0 m 32 ls [])) (x1 : Int32) (x2 : Int32) (x3 : Int32) (x5 : Int32) (x6 : Int32) (y0 : Int32) (g : sG) (f : sF) (hf : p_M_takes_J93 K18 K32 x1 x2 x3 x5 x6 y0 g f = some u) : ∀ (ls : Array Slot) (H : Heap) (locs : List Loc), lv_has ls 8 [(0, .ref (ad 0)), (1, .int x1), (2, .int x2), (3, .int x3), (5, .int x5), (6, .int x6)] → wH D (mT cy) (mW ad cy) A H0 s g f H locs → W p l e rm_M_takes s m args below meth c H locs 0 0 Q (F0 m 93 ls [.int y0]) := by
  intro ls H locs hl hC
  unfold p_M_takes_J93 at hf
  refine lv_istore (lv' := [(4, .int y0), (0, .ref (ad 0)), (1, .int x1), (2, .int x2), (3, .int x3), (5, .int x5), (6, .int x6)]) Fx.1 Fx.2.1 dX10_takes_93 hl (by decide) rfl (fun ls hl => ?_)
  refine lv_iload Fx.1 Fx.2.1 dX10_takes_95 (lv_at hl 0 rfl) ?_
  refine lv_if_eq (tgt := 186) Fx.1 Fx.2.1 dX10_takes_97 (by decide) (fun hc => ?_) (fun hc => ?_)
  · replace hf := ift hc hf
    obtain ⟨v1, ev1, hf⟩ := lt_e hf
    refine lv_iinc (v := v1) (lv' := [(3, .int v1), (4, .int y0), (0, .ref (ad 0)), (1, .int x1), (2, .int x2), (5, .int x5), (6, .int x6)]) Fx.1 Fx.2.1 dX10_takes_186 hl (k := 4) rfl ev1.symm (by decide) rfl (fun ls hl => ?_)
    obtain ⟨v2, ev2, hf⟩ := lt_e hf
    refine lv_iinc (v := v2) (lv' := [(6, .int v2), (3, .int v1), (4, .int y0), (0, .ref (ad 0)), (1, .int x1), (2, .int x2), (5, .int x5)]) Fx.1 Fx.2.1 dX10_takes_189 hl (k := 6) rfl ev2.symm (by decide) rfl (fun ls hl => ?_)
    refine lv_goto (tgt := 32) Fx.1 Fx.2.1 dX10_takes_192 (by decide) ?_
    exact hK32 _ hf _ _ _ (lv_sub hl [3, 4, 5, 1, 2, 6, 0] rfl) hC
  · replace hf := iff_ hc hf
    refine lv_aload_n Fx.1 Fx.2.1 dX10_takes_100 rfl (lv_at hl 1 rfl) ?_
    refine gg_M_foundAt Fx hC wd_600 dX10_takes_101 ?_
    refine lv_iload_n Fx.1 Fx.2.1 dX10_takes_104 rfl (lv_at hl 2 rfl) ?_
    refine lv_iload Fx.1 Fx.2.1 dX10_takes_105 (lv_at hl 5 rfl) ?_
    obtain ⟨hi3, hf⟩ := gd_e hf
    obtain ⟨f4, ef4, hf⟩ := lt_e hf
    refine st_M_foundAt Fx hC hi3 ef4 dX10_takes_107 (fun H locs hC => ?_)
    refine lv_aload_n Fx.1 Fx.2.1 dX10_takes_108 rfl (lv_at hl 1 rfl) ?_
    refine gg_M_foundCost Fx hC wd_602 dX10_takes_109 ?_
    refine lv_iload_n Fx.1 Fx.2.1 dX10_takes_112 rfl (lv_at hl 2 rfl) ?_
    refine lv_aload_n Fx.1 Fx.2.1 dX10_takes_113 rfl (lv_at hl 1 rfl) ?_
    refine gg_M_least Fx hC wd_610 dX10_takes_114 ?_
    refine lv_iload_n Fx.1 Fx.2.1 dX10_takes_117 rfl (lv_at hl 2 rfl) ?_
    obtain ⟨u5, hu5, hf⟩ := bd_e hf
    refine ca_s (As := [.int x1]) (rest := [.ref (ad 13), .int x1, .ref (ad 8)]) Fx hC (k_M_at_ hu5) (cSU 1 Fx.2.2.2.2 wd_755 wd_756 wd_10 wd_757 rfl rfl hd_M_at_ ⟨Nat.le_of_ble_eq_true rfl, Nat.le_of_ble_eq_true rfl⟩) rfl hl.1 rfl (Nat.le_of_ble_eq_true rfl) dX10_takes_118 (fun H locs hC => ?_)
    refine lv_iload Fx.1 Fx.2.1 dX10_takes_121 (lv_at hl 5 rfl) ?_
    refine lv_iadd Fx.1 Fx.2.1 dX10_takes_123 ?_
    obtain ⟨hi6, hf⟩ := gd_e hf
    refine ld_M_least Fx hC hi6 dX10_takes_124 ?_
    obtain ⟨hi7, hf⟩ := gd_e hf
    obtain ⟨f8, ef8, hf⟩ := lt_e hf
    refine st_M_foundCost Fx hC hi7 ef8 dX10_takes_125 (fun H locs hC => ?_)
    refine lv_aload_n Fx.1 Fx.2.1 dX10_takes_126 rfl (lv_at hl 1 rfl) ?_
    refine gg_M_foundNumber Fx hC wd_603 dX10_takes_127 ?_
    refine lv_iload_n Fx.1 Fx.2.1 dX10_takes_130 rfl (lv_at hl 2 rfl) ?_
    refine lv_iload_n Fx.1 Fx.2.1 dX10_takes_131 rfl (lv_at hl 4 rfl) ?_
    obtain ⟨hi9, hf⟩ := gd_e hf
    obtain ⟨f10, ef10, hf⟩ := lt_e hf
    refine st_M_foundNumber Fx hC hi9 ef10 dX10_takes_132 (fun H locs hC => ?_)
    refine lv_iconst (v := (0 : Int32)) Fx.1 Fx.2.1 dX10_takes_133 (by decide) ?_
    refine lv_istore (lv' := [(7, .int (0 : Int32)), (4, .int y0), (0, .ref (ad 0)), (1, .int x1), (2, .int x2), (3, .int x3), (5, .int x5), (6, .int x6)]) Fx.1 Fx.2.1 dX10_takes_134 hl (by decide) rfl (fun ls hl => ?_)
    exact t_M_takes_L136 Fx hret hK18 hK32 _ _ hf _ _ _ (lv_sub hl [2, 3, 4, 5, 1, 6, 7, 0] rfl) hC
noncomputable def p_M_takes_J92 (K18 : (Int32 × Int32 × Int32 × Int32 × Int32 × sG × sF) → Option (sG × sF)) (K32 : (Int32 × Int32 × Int32 × Int32 × Int32 × Int32 × sG × sF) → Option (sG × sF)) (x1 : Int32) (x2 : Int32) (x3 : Int32) (x5 : Int32) (x6 : Int32) (g : sG) (f : sF) : Option (sG × sF) := p_M_takes_J93 K18 K32 x1 x2 x3 x5 x6 (0 : Int32) g f
set_option maxRecDepth 100000 in
set_option maxHeartbeats 4000000 in
theorem s_M_takes_J92 {K18 : (Int32 × Int32 × Int32 × Int32 × Int32 × sG × sF) → Option (sG × sF)} {K32 : (Int32 × Int32 × Int32 × Int32 × Int32 × Int32 × sG × sF) → Option (sG × sF)} {p : Program} {l : Launch} {e : Env} {s : State} {m : MethodId} {args : Array Value} {below : List Frame} {meth : Method} {c : Code} {Q : State → Prop} {D : va_G} {ad : Nat → Nat} {cy : Nat → ClassId} {A : Nat → Prop} {H0 : Heap} {u : sG × sF} (Fx : CallFix p m c cX10_takes 8 s args (Cond.code yX10_takes cX10_takes 8 none :: wU) RX10) (hret : mRv p l e rm_M_takes s m args below meth c Q D (mT cy) (mW ad cy) A H0 cX10_takes u) (hK18 : ∀ (z : Int32 × Int32 × Int32 × Int32 × Int32 × sG × sF), K18 z = some u → ∀ (ls : Array Slot) (H : Heap) (locs : List Loc), lv_has ls 8 [(0, .ref (ad 0)), (1, .int z.1), (2, .int z.2.1), (3, .int z.2.2.1), (4, .int z.2.2.2.1), (5, .int z.2.2.2.2.1)] → wH D (mT cy) (mW ad cy) A H0 s z.2.2.2.2.2.1 z.2.2.2.2.2.2 H locs → W p l e rm_M_takes s m args below meth c H locs 0 0 Q (F0 m 18 ls [])) (hK32 : ∀ (z : Int32 × Int32 × Int32 × Int32 × Int32 × Int32 × sG × sF), K32 z = some u → ∀ (ls : Array Slot) (H : Heap) (locs : List Loc), lv_has ls 8 [(0, .ref (ad 0)), (1, .int z.1), (2, .int z.2.1), (3, .int z.2.2.1), (4, .int z.2.2.2.1), (5, .int z.2.2.2.2.1), (6, .int z.2.2.2.2.2.1)] → wH D (mT cy) (mW ad cy) A H0 s z.2.2.2.2.2.2.1 z.2.2.2.2.2.2.2 H locs → W p l e rm_M_takes s m args below meth c H locs 0 0 Q (F0 m 32 ls [])) (x1 : Int32) (x2 : Int32) (x3 : Int32) (x5 : Int32) (x6 : Int32) (g : sG) (f : sF) (hf : p_M_takes_J92 K18 K32 x1 x2 x3 x5 x6 g f = some u) : ∀ (ls : Array Slot) (H : Heap) (locs : List Loc), lv_has ls 8 [(0, .ref (ad 0)), (1, .int x1), (2, .int x2), (3, .int x3), (5, .int x5), (6, .int x6)] → wH D (mT cy) (mW ad cy) A H0 s g f H locs → W p l e rm_M_takes s m args below meth c H locs 0 0 Q (F0 m 92 ls []) := by
  intro ls H locs hl hC
  unfold p_M_takes_J92 at hf
  refine lv_iconst (v := (0 : Int32)) Fx.1 Fx.2.1 dX10_takes_92 (by decide) ?_
  exact s_M_takes_J93 Fx hret hK18 hK32 _ _ _ _ _ _ _ _  hf _ _ _ (lv_sub hl [0, 1, 2, 3, 4, 5] rfl) hC
noncomputable def p_M_takes_L32 (K18 : (Int32 × Int32 × Int32 × Int32 × Int32 × sG × sF) → Option (sG × sF)) (K32 : (Int32 × Int32 × Int32 × Int32 × Int32 × Int32 × sG × sF) → Option (sG × sF)) (x1 : Int32) (x2 : Int32) (x3 : Int32) (x4 : Int32) (x5 : Int32) (x6 : Int32) (g : sG) (f : sF) : Option (sG × sF) := (if (g 7) ≤ x6 then lt_ (x5 + (1 : Int32)) (fun v1 => K18 (x1, x2, x3, x4, v1, g, f)) else (if x4 = 0 then Option.bind (p_M_isGrip x1 x6 x5 g f) (fun u3 => (if u3 = 0 then lt_ (x6 + (1 : Int32)) (fun v4 => K32 (x1, x2, x3, x4, x5, v4, g, f)) else (if x5 = x2 then Option.bind (p_M_costOf x1 x6 x5 g f) (fun u5 => Option.bind (p_M_at_ x1 g f) (fun u6 => (if (u6 + x5) < 0 ∨ 1000 ≤ (u6 + x5).toNatClampNeg then none else (if u5 = (f 12 (u6 + x5).toNatClampNeg) then p_M_takes_J93 K18 K32 x1 x2 x3 x5 x6 (1 : Int32) g f else p_M_takes_J92 K18 K32 x1 x2 x3 x5 x6 g f)))) else p_M_takes_J92 K18 K32 x1 x2 x3 x5 x6 g f))) else lt_ (x5 + (1 : Int32)) (fun v2 => K18 (x1, x2, x3, x4, v2, g, f))))
set_option maxRecDepth 100000 in
set_option maxHeartbeats 4000000 in
theorem s_M_takes_L32 {K18 : (Int32 × Int32 × Int32 × Int32 × Int32 × sG × sF) → Option (sG × sF)} {K32 : (Int32 × Int32 × Int32 × Int32 × Int32 × Int32 × sG × sF) → Option (sG × sF)} {p : Program} {l : Launch} {e : Env} {s : State} {m : MethodId} {args : Array Value} {below : List Frame} {meth : Method} {c : Code} {Q : State → Prop} {D : va_G} {ad : Nat → Nat} {cy : Nat → ClassId} {A : Nat → Prop} {H0 : Heap} {u : sG × sF} (Fx : CallFix p m c cX10_takes 8 s args (Cond.code yX10_takes cX10_takes 8 none :: wU) RX10) (hret : mRv p l e rm_M_takes s m args below meth c Q D (mT cy) (mW ad cy) A H0 cX10_takes u) (hK18 : ∀ (z : Int32 × Int32 × Int32 × Int32 × Int32 × sG × sF), K18 z = some u → ∀ (ls : Array Slot) (H : Heap) (locs : List Loc), lv_has ls 8 [(0, .ref (ad 0)), (1, .int z.1), (2, .int z.2.1), (3, .int z.2.2.1), (4, .int z.2.2.2.1), (5, .int z.2.2.2.2.1)] → wH D (mT cy) (mW ad cy) A H0 s z.2.2.2.2.2.1 z.2.2.2.2.2.2 H locs → W p l e rm_M_takes s m args below meth c H locs 0 0 Q (F0 m 18 ls [])) (hK32 : ∀ (z : Int32 × Int32 × Int32 × Int32 × Int32 × Int32 × sG × sF), K32 z = some u → ∀ (ls : Array Slot) (H : Heap) (locs : List Loc), lv_has ls 8 [(0, .ref (ad 0)), (1, .int z.1), (2, .int z.2.1), (3, .int z.2.2.1), (4, .int z.2.2.2.1), (5, .int z.2.2.2.2.1), (6, .int z.2.2.2.2.2.1)] → wH D (mT cy) (mW ad cy) A H0 s z.2.2.2.2.2.2.1 z.2.2.2.2.2.2.2 H locs → W p l e rm_M_takes s m args below meth c H locs 0 0 Q (F0 m 32 ls [])) (x1 : Int32) (x2 : Int32) (x3 : Int32) (x4 : Int32) (x5 : Int32) (x6 : Int32) (g : sG) (f : sF) (hf : p_M_takes_L32 K18 K32 x1 x2 x3 x4 x5 x6 g f = some u) : ∀ (ls : Array Slot) (H : Heap) (locs : List Loc), lv_has ls 8 [(0, .ref (ad 0)), (1, .int x1), (2, .int x2), (3, .int x3), (4, .int x4), (5, .int x5), (6, .int x6)] → wH D (mT cy) (mW ad cy) A H0 s g f H locs → W p l e rm_M_takes s m args below meth c H locs 0 0 Q (F0 m 32 ls []) := by
  intro ls H locs hl hC
  unfold p_M_takes_L32 at hf
  refine lv_iload Fx.1 Fx.2.1 dX10_takes_32 (lv_at hl 6 rfl) ?_
  refine lv_aload_n Fx.1 Fx.2.1 dX10_takes_34 rfl (lv_at hl 0 rfl) ?_
  refine gg_M_ways Fx hC wd_607 dX10_takes_35 ?_
  refine lv_icmp_ge (tgt := 195) Fx.1 Fx.2.1 dX10_takes_38 (by decide) (fun hc => ?_) (fun hc => ?_)
  · replace hf := ift hc hf
    obtain ⟨v1, ev1, hf⟩ := lt_e hf
    refine lv_iinc (v := v1) (lv' := [(5, .int v1), (0, .ref (ad 0)), (1, .int x1), (2, .int x2), (3, .int x3), (4, .int x4), (6, .int x6)]) Fx.1 Fx.2.1 dX10_takes_195 hl (k := 5) rfl ev1.symm (by decide) rfl (fun ls hl => ?_)
    refine lv_goto (tgt := 18) Fx.1 Fx.2.1 dX10_takes_198 (by decide) ?_
    exact hK18 _ hf _ _ _ (lv_sub hl [1, 2, 3, 4, 5, 0] rfl) hC
  · replace hf := iff_ hc hf
    refine lv_iload Fx.1 Fx.2.1 dX10_takes_41 (lv_at hl 4 rfl) ?_
    refine lv_if_ne (tgt := 195) Fx.1 Fx.2.1 dX10_takes_43 (by decide) (fun hc => ?_) (fun hc => ?_)
    · replace hf := iff_ hc hf
      obtain ⟨v2, ev2, hf⟩ := lt_e hf
      refine lv_iinc (v := v2) (lv' := [(5, .int v2), (0, .ref (ad 0)), (1, .int x1), (2, .int x2), (3, .int x3), (4, .int x4), (6, .int x6)]) Fx.1 Fx.2.1 dX10_takes_195 hl (k := 5) rfl ev2.symm (by decide) rfl (fun ls hl => ?_)
      refine lv_goto (tgt := 18) Fx.1 Fx.2.1 dX10_takes_198 (by decide) ?_
      exact hK18 _ hf _ _ _ (lv_sub hl [1, 2, 3, 4, 5, 0] rfl) hC
    · replace hf := ift hc hf
      refine lv_aload_n Fx.1 Fx.2.1 dX10_takes_46 rfl (lv_at hl 0 rfl) ?_
      refine lv_iload_n Fx.1 Fx.2.1 dX10_takes_47 rfl (lv_at hl 1 rfl) ?_
      refine lv_iload Fx.1 Fx.2.1 dX10_takes_48 (lv_at hl 6 rfl) ?_
      refine lv_iload Fx.1 Fx.2.1 dX10_takes_50 (lv_at hl 5 rfl) ?_
      obtain ⟨u3, hu3, hf⟩ := bd_e hf
      refine ca_i (As := [.int x1, .int x6, .int x5]) (rest := []) Fx hC (k_M_isGrip hu3) (cVU 3 Fx.2.2.2.2 wd_731 wd_732 wd_887 wd_10 wd_733 rfl rfl hd_M_isGrip ⟨Nat.le_of_ble_eq_true rfl, Nat.le_of_ble_eq_true rfl⟩) 0 rfl rfl rfl hl.1 rfl (Nat.le_of_ble_eq_true rfl) dX10_takes_52 (fun H locs hC => ?_)
      refine lv_if_eq (tgt := 189) Fx.1 Fx.2.1 dX10_takes_55 (by decide) (fun hc => ?_) (fun hc => ?_)
      · replace hf := ift hc hf
        obtain ⟨v4, ev4, hf⟩ := lt_e hf
        refine lv_iinc (v := v4) (lv' := [(6, .int v4), (0, .ref (ad 0)), (1, .int x1), (2, .int x2), (3, .int x3), (4, .int x4), (5, .int x5)]) Fx.1 Fx.2.1 dX10_takes_189 hl (k := 6) rfl ev4.symm (by decide) rfl (fun ls hl => ?_)
        refine lv_goto (tgt := 32) Fx.1 Fx.2.1 dX10_takes_192 (by decide) ?_
        exact hK32 _ hf _ _ _ (lv_sub hl [1, 2, 3, 4, 5, 6, 0] rfl) hC
      · replace hf := iff_ hc hf
        refine lv_iload Fx.1 Fx.2.1 dX10_takes_58 (lv_at hl 5 rfl) ?_
        refine lv_iload_n Fx.1 Fx.2.1 dX10_takes_60 rfl (lv_at hl 2 rfl) ?_
        refine lv_icmp_ne (tgt := 92) Fx.1 Fx.2.1 dX10_takes_61 (by decide) (fun hc => ?_) (fun hc => ?_)
        · replace hf := iff_ hc hf
          exact s_M_takes_J92 Fx hret hK18 hK32 _ _ _ _ _ _ _  hf _ _ _ (lv_sub hl [0, 1, 2, 3, 5, 6] rfl) hC
        · replace hf := ift hc hf
          refine lv_aload_n Fx.1 Fx.2.1 dX10_takes_64 rfl (lv_at hl 0 rfl) ?_
          refine lv_iload_n Fx.1 Fx.2.1 dX10_takes_65 rfl (lv_at hl 1 rfl) ?_
          refine lv_iload Fx.1 Fx.2.1 dX10_takes_66 (lv_at hl 6 rfl) ?_
          refine lv_iload Fx.1 Fx.2.1 dX10_takes_68 (lv_at hl 5 rfl) ?_
          obtain ⟨u5, hu5, hf⟩ := bd_e hf
          refine ca_i (As := [.int x1, .int x6, .int x5]) (rest := []) Fx hC (k_M_costOf hu5) (cVU 3 Fx.2.2.2.2 wd_741 wd_742 wd_889 wd_10 wd_743 rfl rfl hd_M_costOf ⟨Nat.le_of_ble_eq_true rfl, Nat.le_of_ble_eq_true rfl⟩) 0 rfl rfl rfl hl.1 rfl (Nat.le_of_ble_eq_true rfl) dX10_takes_70 (fun H locs hC => ?_)
          refine lv_aload_n Fx.1 Fx.2.1 dX10_takes_73 rfl (lv_at hl 0 rfl) ?_
          refine gg_M_least Fx hC wd_610 dX10_takes_74 ?_
          refine lv_iload_n Fx.1 Fx.2.1 dX10_takes_77 rfl (lv_at hl 1 rfl) ?_
          obtain ⟨u6, hu6, hf⟩ := bd_e hf
          refine ca_s (As := [.int x1]) (rest := [.ref (ad 13), .int u5]) Fx hC (k_M_at_ hu6) (cSU 1 Fx.2.2.2.2 wd_755 wd_756 wd_10 wd_757 rfl rfl hd_M_at_ ⟨Nat.le_of_ble_eq_true rfl, Nat.le_of_ble_eq_true rfl⟩) rfl hl.1 rfl (Nat.le_of_ble_eq_true rfl) dX10_takes_78 (fun H locs hC => ?_)
          refine lv_iload Fx.1 Fx.2.1 dX10_takes_81 (lv_at hl 5 rfl) ?_
          refine lv_iadd Fx.1 Fx.2.1 dX10_takes_83 ?_
          obtain ⟨hi7, hf⟩ := gd_e hf
          refine ld_M_least Fx hC hi7 dX10_takes_84 ?_
          refine lv_icmp_ne (tgt := 92) Fx.1 Fx.2.1 dX10_takes_85 (by decide) (fun hc => ?_) (fun hc => ?_)
          · replace hf := iff_ hc hf
            exact s_M_takes_J92 Fx hret hK18 hK32 _ _ _ _ _ _ _  hf _ _ _ (lv_sub hl [0, 1, 2, 3, 5, 6] rfl) hC
          · replace hf := ift hc hf
            refine lv_iconst (v := (1 : Int32)) Fx.1 Fx.2.1 dX10_takes_88 (by decide) ?_
            refine lv_goto (tgt := 93) Fx.1 Fx.2.1 dX10_takes_89 (by decide) ?_
            exact s_M_takes_J93 Fx hret hK18 hK32 _ _ _ _ _ _ _ _  hf _ _ _ (lv_sub hl [0, 1, 2, 3, 5, 6] rfl) hC
set_option maxRecDepth 100000 in
set_option maxHeartbeats 4000000 in
theorem t_M_takes_L32 {K18 : (Int32 × Int32 × Int32 × Int32 × Int32 × sG × sF) → Option (sG × sF)} {p : Program} {l : Launch} {e : Env} {s : State} {m : MethodId} {args : Array Value} {below : List Frame} {meth : Method} {c : Code} {Q : State → Prop} {D : va_G} {ad : Nat → Nat} {cy : Nat → ClassId} {A : Nat → Prop} {H0 : Heap} {u : sG × sF} (Fx : CallFix p m c cX10_takes 8 s args (Cond.code yX10_takes cX10_takes 8 none :: wU) RX10) (hret : mRv p l e rm_M_takes s m args below meth c Q D (mT cy) (mW ad cy) A H0 cX10_takes u) (hK18 : ∀ (z : Int32 × Int32 × Int32 × Int32 × Int32 × sG × sF), K18 z = some u → ∀ (ls : Array Slot) (H : Heap) (locs : List Loc), lv_has ls 8 [(0, .ref (ad 0)), (1, .int z.1), (2, .int z.2.1), (3, .int z.2.2.1), (4, .int z.2.2.2.1), (5, .int z.2.2.2.2.1)] → wH D (mT cy) (mW ad cy) A H0 s z.2.2.2.2.2.1 z.2.2.2.2.2.2 H locs → W p l e rm_M_takes s m args below meth c H locs 0 0 Q (F0 m 18 ls [])) (n : Nat) (z : Int32 × Int32 × Int32 × Int32 × Int32 × Int32 × sG × sF) (hz : itr (fun K z => p_M_takes_L32 K18 K z.1 z.2.1 z.2.2.1 z.2.2.2.1 z.2.2.2.2.1 z.2.2.2.2.2.1 z.2.2.2.2.2.2.1 z.2.2.2.2.2.2.2) n z = some u) : ∀ (ls : Array Slot) (H : Heap) (locs : List Loc), lv_has ls 8 [(0, .ref (ad 0)), (1, .int z.1), (2, .int z.2.1), (3, .int z.2.2.1), (4, .int z.2.2.2.1), (5, .int z.2.2.2.2.1), (6, .int z.2.2.2.2.2.1)] → wH D (mT cy) (mW ad cy) A H0 s z.2.2.2.2.2.2.1 z.2.2.2.2.2.2.2 H locs → W p l e rm_M_takes s m args below meth c H locs 0 0 Q (F0 m 32 ls []) :=
  itr_all (B := fun K z => p_M_takes_L32 K18 K z.1 z.2.1 z.2.2.1 z.2.2.2.1 z.2.2.2.2.1 z.2.2.2.2.2.1 z.2.2.2.2.2.2.1 z.2.2.2.2.2.2.2) (r := u) (fun z => ∀ (ls : Array Slot) (H : Heap) (locs : List Loc), lv_has ls 8 [(0, .ref (ad 0)), (1, .int z.1), (2, .int z.2.1), (3, .int z.2.2.1), (4, .int z.2.2.2.1), (5, .int z.2.2.2.2.1), (6, .int z.2.2.2.2.2.1)] → wH D (mT cy) (mW ad cy) A H0 s z.2.2.2.2.2.2.1 z.2.2.2.2.2.2.2 H locs → W p l e rm_M_takes s m args below meth c H locs 0 0 Q (F0 m 32 ls [])) (fun K hK z h => s_M_takes_L32 (K32 := K) Fx hret hK18 hK z.1 z.2.1 z.2.2.1 z.2.2.2.1 z.2.2.2.2.1 z.2.2.2.2.2.1 z.2.2.2.2.2.2.1 z.2.2.2.2.2.2.2 h) n z hz
noncomputable def p_M_takes_L18 (K18 : (Int32 × Int32 × Int32 × Int32 × Int32 × sG × sF) → Option (sG × sF)) (x1 : Int32) (x2 : Int32) (x3 : Int32) (x4 : Int32) (x5 : Int32) (g : sG) (f : sF) : Option (sG × sF) := (if x2 < x5 then some (g, f) else (if x4 = 0 then itr (fun K z => p_M_takes_L32 K18 K z.1 z.2.1 z.2.2.1 z.2.2.2.1 z.2.2.2.2.1 z.2.2.2.2.2.1 z.2.2.2.2.2.2.1 z.2.2.2.2.2.2.2) FUEL (x1, x2, x3, x4, x5, (0 : Int32), g, f) else some (g, f)))
set_option maxRecDepth 100000 in
set_option maxHeartbeats 4000000 in
theorem s_M_takes_L18 {K18 : (Int32 × Int32 × Int32 × Int32 × Int32 × sG × sF) → Option (sG × sF)} {p : Program} {l : Launch} {e : Env} {s : State} {m : MethodId} {args : Array Value} {below : List Frame} {meth : Method} {c : Code} {Q : State → Prop} {D : va_G} {ad : Nat → Nat} {cy : Nat → ClassId} {A : Nat → Prop} {H0 : Heap} {u : sG × sF} (Fx : CallFix p m c cX10_takes 8 s args (Cond.code yX10_takes cX10_takes 8 none :: wU) RX10) (hret : mRv p l e rm_M_takes s m args below meth c Q D (mT cy) (mW ad cy) A H0 cX10_takes u) (hK18 : ∀ (z : Int32 × Int32 × Int32 × Int32 × Int32 × sG × sF), K18 z = some u → ∀ (ls : Array Slot) (H : Heap) (locs : List Loc), lv_has ls 8 [(0, .ref (ad 0)), (1, .int z.1), (2, .int z.2.1), (3, .int z.2.2.1), (4, .int z.2.2.2.1), (5, .int z.2.2.2.2.1)] → wH D (mT cy) (mW ad cy) A H0 s z.2.2.2.2.2.1 z.2.2.2.2.2.2 H locs → W p l e rm_M_takes s m args below meth c H locs 0 0 Q (F0 m 18 ls [])) (x1 : Int32) (x2 : Int32) (x3 : Int32) (x4 : Int32) (x5 : Int32) (g : sG) (f : sF) (hf : p_M_takes_L18 K18 x1 x2 x3 x4 x5 g f = some u) : ∀ (ls : Array Slot) (H : Heap) (locs : List Loc), lv_has ls 8 [(0, .ref (ad 0)), (1, .int x1), (2, .int x2), (3, .int x3), (4, .int x4), (5, .int x5)] → wH D (mT cy) (mW ad cy) A H0 s g f H locs → W p l e rm_M_takes s m args below meth c H locs 0 0 Q (F0 m 18 ls []) := by
  intro ls H locs hl hC
  unfold p_M_takes_L18 at hf
  refine lv_iload Fx.1 Fx.2.1 dX10_takes_18 (lv_at hl 5 rfl) ?_
  refine lv_iload_n Fx.1 Fx.2.1 dX10_takes_20 rfl (lv_at hl 2 rfl) ?_
  refine lv_icmp_gt (tgt := 201) Fx.1 Fx.2.1 dX10_takes_21 (by decide) (fun hc => ?_) (fun hc => ?_)
  · replace hf := ift hc hf
    obtain rfl := Option.some.inj hf
    exact hret _ _ _ _ dX10_takes_201 hC
  · replace hf := iff_ hc hf
    refine lv_iload Fx.1 Fx.2.1 dX10_takes_24 (lv_at hl 4 rfl) ?_
    refine lv_if_ne (tgt := 201) Fx.1 Fx.2.1 dX10_takes_26 (by decide) (fun hc => ?_) (fun hc => ?_)
    · replace hf := iff_ hc hf
      obtain rfl := Option.some.inj hf
      exact hret _ _ _ _ dX10_takes_201 hC
    · replace hf := ift hc hf
      refine lv_iconst (v := (0 : Int32)) Fx.1 Fx.2.1 dX10_takes_29 (by decide) ?_
      refine lv_istore (lv' := [(6, .int (0 : Int32)), (0, .ref (ad 0)), (1, .int x1), (2, .int x2), (3, .int x3), (4, .int x4), (5, .int x5)]) Fx.1 Fx.2.1 dX10_takes_30 hl (by decide) rfl (fun ls hl => ?_)
      exact t_M_takes_L32 Fx hret hK18 _ _ hf _ _ _ (lv_sub hl [1, 2, 3, 4, 5, 6, 0] rfl) hC
set_option maxRecDepth 100000 in
set_option maxHeartbeats 4000000 in
theorem t_M_takes_L18 {p : Program} {l : Launch} {e : Env} {s : State} {m : MethodId} {args : Array Value} {below : List Frame} {meth : Method} {c : Code} {Q : State → Prop} {D : va_G} {ad : Nat → Nat} {cy : Nat → ClassId} {A : Nat → Prop} {H0 : Heap} {u : sG × sF} (Fx : CallFix p m c cX10_takes 8 s args (Cond.code yX10_takes cX10_takes 8 none :: wU) RX10) (hret : mRv p l e rm_M_takes s m args below meth c Q D (mT cy) (mW ad cy) A H0 cX10_takes u)  (n : Nat) (z : Int32 × Int32 × Int32 × Int32 × Int32 × sG × sF) (hz : itr (fun K z => p_M_takes_L18 K z.1 z.2.1 z.2.2.1 z.2.2.2.1 z.2.2.2.2.1 z.2.2.2.2.2.1 z.2.2.2.2.2.2) n z = some u) : ∀ (ls : Array Slot) (H : Heap) (locs : List Loc), lv_has ls 8 [(0, .ref (ad 0)), (1, .int z.1), (2, .int z.2.1), (3, .int z.2.2.1), (4, .int z.2.2.2.1), (5, .int z.2.2.2.2.1)] → wH D (mT cy) (mW ad cy) A H0 s z.2.2.2.2.2.1 z.2.2.2.2.2.2 H locs → W p l e rm_M_takes s m args below meth c H locs 0 0 Q (F0 m 18 ls []) :=
  itr_all (B := fun K z => p_M_takes_L18 K z.1 z.2.1 z.2.2.1 z.2.2.2.1 z.2.2.2.2.1 z.2.2.2.2.2.1 z.2.2.2.2.2.2) (r := u) (fun z => ∀ (ls : Array Slot) (H : Heap) (locs : List Loc), lv_has ls 8 [(0, .ref (ad 0)), (1, .int z.1), (2, .int z.2.1), (3, .int z.2.2.1), (4, .int z.2.2.2.1), (5, .int z.2.2.2.2.1)] → wH D (mT cy) (mW ad cy) A H0 s z.2.2.2.2.2.1 z.2.2.2.2.2.2 H locs → W p l e rm_M_takes s m args below meth c H locs 0 0 Q (F0 m 18 ls [])) (fun K hK z h => s_M_takes_L18 (K18 := K) Fx hret hK z.1 z.2.1 z.2.2.1 z.2.2.2.1 z.2.2.2.2.1 z.2.2.2.2.2.1 z.2.2.2.2.2.2 h) n z hz
noncomputable def p_M_takes (a1 : Int32) (a2 : Int32) (g : sG) (f : sF) : Option (sG × sF) := Option.bind (p_M_findWays a1 g f) (fun u1 => lt_ ((u1.1 2) + (1 : Int32)) (fun v2 => itr (fun K z => p_M_takes_L18 K z.1 z.2.1 z.2.2.1 z.2.2.2.1 z.2.2.2.2.1 z.2.2.2.2.2.1 z.2.2.2.2.2.2) FUEL (a1, a2, (0 : Int32), (0 : Int32), v2, u1.1, u1.2)))
set_option maxRecDepth 100000 in
set_option maxHeartbeats 4000000 in
theorem k_M_takes {l : Launch} {D : va_G} {ad : Nat → Nat} {cy : Nat → ClassId} {a1 : Int32} {a2 : Int32} {u : sG × sF} {g : sG} {f : sF} (hf : p_M_takes a1 a2 g f = some u) : mMv l yX10_takes (Cond.code yX10_takes cX10_takes 8 none :: wU) rm_M_takes D (mT cy) (mW ad cy) [.ref (ad 0), .int a1, .int a2] g f u := by
  refine mk_v (by decide) rfl (Nat.le_of_ble_eq_true rfl) ?_
  intro p e s m below meth c Q A H0 Fx hret ls H locs hl hC
  replace hl : lv_has ls 8 [(0, .ref (ad 0)), (1, .int a1), (2, .int a2)] := hl
  unfold p_M_takes at hf
  refine lv_aload_n Fx.1 Fx.2.1 dX10_takes_0 rfl (lv_at hl 0 rfl) ?_
  refine lv_iload_n Fx.1 Fx.2.1 dX10_takes_1 rfl (lv_at hl 1 rfl) ?_
  obtain ⟨u1, hu1, hf⟩ := bd_e hf
  refine ca_v (As := [.int a1]) (rest := []) Fx hC (k_M_findWays hu1) (cVU 1 Fx.2.2.2.2 wd_728 wd_729 wd_886 wd_10 wd_730 rfl rfl hd_M_findWays ⟨Nat.le_of_ble_eq_true rfl, Nat.le_of_ble_eq_true rfl⟩) 0 rfl rfl rfl hl.1 rfl (Nat.le_of_ble_eq_true rfl) dX10_takes_2 (fun H locs hC => ?_)
  refine lv_iconst (v := (0 : Int32)) Fx.1 Fx.2.1 dX10_takes_5 (by decide) ?_
  refine lv_istore_n (lv' := [(3, .int (0 : Int32)), (0, .ref (ad 0)), (1, .int a1), (2, .int a2)]) Fx.1 Fx.2.1 dX10_takes_6 rfl hl (by decide) rfl (fun ls hl => ?_)
  refine lv_iconst (v := (0 : Int32)) Fx.1 Fx.2.1 dX10_takes_7 (by decide) ?_
  refine lv_istore (lv' := [(4, .int (0 : Int32)), (3, .int (0 : Int32)), (0, .ref (ad 0)), (1, .int a1), (2, .int a2)]) Fx.1 Fx.2.1 dX10_takes_8 hl (by decide) rfl (fun ls hl => ?_)
  refine lv_aload_n Fx.1 Fx.2.1 dX10_takes_10 rfl (lv_at hl 2 rfl) ?_
  refine gg_M_capo Fx hC wd_593 dX10_takes_11 ?_
  refine lv_iconst (v := (1 : Int32)) Fx.1 Fx.2.1 dX10_takes_14 (by decide) ?_
  refine lv_iadd Fx.1 Fx.2.1 dX10_takes_15 ?_
  obtain ⟨v2, ev2, hf⟩ := lt_e hf
  refine tpi ev2 ?_
  refine lv_istore (lv' := [(5, .int v2), (4, .int (0 : Int32)), (3, .int (0 : Int32)), (0, .ref (ad 0)), (1, .int a1), (2, .int a2)]) Fx.1 Fx.2.1 dX10_takes_16 hl (by decide) rfl (fun ls hl => ?_)
  exact t_M_takes_L18 Fx hret _ _ hf _ _ _ (lv_sub hl [3, 4, 5, 2, 1, 0] rfl) hC
