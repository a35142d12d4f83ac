/-! FretHands$TabReader.loadColumn(I)V -/
abbrev rm_TR_loadColumn : Room := { frames := 3, cells := 0, slots := 0, locals := 68 }
theorem hd_TR_loadColumn : yX5_loadColumn.cls = RX5 ∧ yX5_loadColumn.cls ≠ "java/lang/invoke/MethodHandle" ∧ yX5_loadColumn.cls ≠ "java/lang/invoke/VarHandle" ∧ (parseMethodDescriptor yX5_loadColumn.desc).map (fun d => d.parameters.length) = some 1 := by decide +kernel
noncomputable def p_TR_loadColumn_L2 (K2 : (Int32 × Int32 × sG × sF) → Option (sG × sF)) (x1 : Int32) (x2 : Int32) (g : sG) (f : sF) : Option (sG × sF) := (if (g 0) ≤ x2 then some (g, f) else (if x2 < 0 ∨ 7 ≤ x2.toNatClampNeg then none else lt_ (up2 f 21 x2.toNatClampNeg (-1 : Int32)) (fun f2 => Option.bind (p_TR_beginsNumber x2 x1 g f2) (fun u3 => (if u3 = 0 then lt_ (x2 + (1 : Int32)) (fun v4 => K2 (x1, v4, g, f2)) else Option.bind (p_TR_numberIn x2 x1 g f2) (fun u5 => Option.bind (p_In_pitchBehindCapo x2 u5 g f2) (fun u6 => (if x2 < 0 ∨ 7 ≤ x2.toNatClampNeg then none else lt_ (up2 f2 21 x2.toNatClampNeg u6) (fun f8 => lt_ (x2 + (1 : Int32)) (fun v9 => K2 (x1, v9, g, f8)))))))))))
set_option maxRecDepth 100000 in
set_option maxHeartbeats 4000000 in
theorem s_TR_loadColumn_L2 {K2 : (Int32 × Int32 × sG × sF) → Option (sG × sF)} {p : Program} {l : Launch} {e : Env} {s : State} {m : MethodId} {args : Array Value} {below : List Frame} {meth : Method} {c : Code} {Q : State → Prop} {D : va_G} {ad : Nat → Nat} {cy : Nat → ClassId} {A : Nat → Prop} {H0 : Heap} {u : sG × sF} (Fx : CallFix p m c cX5_loadColumn 3 s args (Cond.code yX5_loadColumn cX5_loadColumn 3 none :: wU) RX5) (hret : mRv p l e rm_TR_loadColumn s m args below meth c Q D (cT cy) (cW ad cy) A H0 cX5_loadColumn u) (hK2 : ∀ (z : Int32 × Int32 × sG × sF), K2 z = some u → ∀ (ls : Array Slot) (H : Heap) (locs : List Loc), lv_has ls 3 [(0, .ref (ad 29)), (1, .int z.1), (2, .int z.2.1)] → wH D (cT cy) (cW ad cy) A H0 s z.2.2.1 z.2.2.2 H locs → W p l e rm_TR_loadColumn s m args below meth c H locs 0 0 Q (F0 m 2 ls [])) (x1 : Int32) (x2 : Int32) (g : sG) (f : sF) (hf : p_TR_loadColumn_L2 K2 x1 x2 g f = some u) : ∀ (ls : Array Slot) (H : Heap) (locs : List Loc), lv_has ls 3 [(0, .ref (ad 29)), (1, .int x1), (2, .int x2)] → wH D (cT cy) (cW ad cy) A H0 s g f H locs → W p l e rm_TR_loadColumn s m args below meth c H locs 0 0 Q (F0 m 2 ls []) := by
  intro ls H locs hl hC
  unfold p_TR_loadColumn_L2 at hf
  refine lv_iload_n Fx.1 Fx.2.1 dX5_loadColumn_2 rfl (lv_at hl 2 rfl) ?_
  refine lv_aload_n Fx.1 Fx.2.1 dX5_loadColumn_3 rfl (lv_at hl 0 rfl) ?_
  refine gg_TR_instrument Fx hC wd_189 dX5_loadColumn_4 ?_
  refine gg_In_strings Fx hC wd_30 dX5_loadColumn_7 ?_
  refine lv_icmp_ge (tgt := 55) Fx.1 Fx.2.1 dX5_loadColumn_10 (by decide) (fun hc => ?_) (fun hc => ?_)
  · replace hf := ift hc hf
    obtain rfl := Option.some.inj hf
    exact hret _ _ _ _ dX5_loadColumn_55 hC
  · replace hf := iff_ hc hf
    refine lv_aload_n Fx.1 Fx.2.1 dX5_loadColumn_13 rfl (lv_at hl 0 rfl) ?_
    refine gg_TR_columnPitches Fx hC wd_193 dX5_loadColumn_14 ?_
    refine lv_iload_n Fx.1 Fx.2.1 dX5_loadColumn_17 rfl (lv_at hl 2 rfl) ?_
    refine lv_iconst (v := (-1 : Int32)) Fx.1 Fx.2.1 dX5_loadColumn_18 (by decide) ?_
    obtain ⟨hi1, hf⟩ := gd_e hf
    obtain ⟨f2, ef2, hf⟩ := lt_e hf
    refine st_TR_columnPitches Fx hC hi1 ef2 dX5_loadColumn_19 (fun H locs hC => ?_)
    refine lv_aload_n Fx.1 Fx.2.1 dX5_loadColumn_20 rfl (lv_at hl 0 rfl) ?_
    refine lv_iload_n Fx.1 Fx.2.1 dX5_loadColumn_21 rfl (lv_at hl 2 rfl) ?_
    refine lv_iload_n Fx.1 Fx.2.1 dX5_loadColumn_22 rfl (lv_at hl 1 rfl) ?_
    obtain ⟨u3, hu3, hf⟩ := bd_e hf
    refine ca_i (As := [.int x2, .int x1]) (rest := []) Fx hC (k_TR_beginsNumber hu3) (cVU 2 Fx.2.2.2.2 wd_534 wd_535 wd_870 wd_9 wd_536 rfl rfl hd_TR_beginsNumber ⟨Nat.le_of_ble_eq_true rfl, Nat.le_of_ble_eq_true rfl⟩) 29 rfl rfl rfl hl.1 rfl (Nat.le_of_ble_eq_true rfl) dX5_loadColumn_23 (fun H locs hC => ?_)
    refine lv_if_eq (tgt := 49) Fx.1 Fx.2.1 dX5_loadColumn_26 (by decide) (fun hc => ?_) (fun hc => ?_)
    · replace hf := ift hc hf
      obtain ⟨v4, ev4, hf⟩ := lt_e hf
      refine lv_iinc (v := v4) (lv' := [(2, .int v4), (0, .ref (ad 29)), (1, .int x1)]) Fx.1 Fx.2.1 dX5_loadColumn_49 hl (k := 2) rfl ev4.symm (by decide) rfl (fun ls hl => ?_)
      refine lv_goto (tgt := 2) Fx.1 Fx.2.1 dX5_loadColumn_52 (by decide) ?_
      exact hK2 _ hf _ _ _ (lv_sub hl [1, 2, 0] rfl) hC
    · replace hf := iff_ hc hf
      refine lv_aload_n Fx.1 Fx.2.1 dX5_loadColumn_29 rfl (lv_at hl 0 rfl) ?_
      refine gg_TR_columnPitches Fx hC wd_193 dX5_loadColumn_30 ?_
      refine lv_iload_n Fx.1 Fx.2.1 dX5_loadColumn_33 rfl (lv_at hl 2 rfl) ?_
      refine lv_aload_n Fx.1 Fx.2.1 dX5_loadColumn_34 rfl (lv_at hl 0 rfl) ?_
      refine gg_TR_instrument Fx hC wd_189 dX5_loadColumn_35 ?_
      refine lv_iload_n Fx.1 Fx.2.1 dX5_loadColumn_38 rfl (lv_at hl 2 rfl) ?_
      refine lv_aload_n Fx.1 Fx.2.1 dX5_loadColumn_39 rfl (lv_at hl 0 rfl) ?_
      refine lv_iload_n Fx.1 Fx.2.1 dX5_loadColumn_40 rfl (lv_at hl 2 rfl) ?_
      refine lv_iload_n Fx.1 Fx.2.1 dX5_loadColumn_41 rfl (lv_at hl 1 rfl) ?_
      obtain ⟨u5, hu5, hf⟩ := bd_e hf
      refine ca_i (As := [.int x2, .int x1]) (rest := [.int x2, .ref (ad 2), .int x2, .ref (ad 30)]) Fx hC (k_TR_numberIn hu5) (cVU 2 Fx.2.2.2.2 wd_540 wd_541 wd_872 wd_9 wd_542 rfl rfl hd_TR_numberIn ⟨Nat.le_of_ble_eq_true rfl, Nat.le_of_ble_eq_true rfl⟩) 29 rfl rfl rfl hl.1 rfl (Nat.le_of_ble_eq_true rfl) dX5_loadColumn_42 (fun H locs hC => ?_)
      obtain ⟨u6, hu6, hf⟩ := bd_e hf
      refine ca_i (As := [.int x2, .int u5]) (rest := [.int x2, .ref (ad 30)]) Fx hC (k_In_pitchBehindCapo hu6) (cVU 2 Fx.2.2.2.2 wd_555 wd_556 wd_557 wd_2 wd_558 rfl rfl hd_In_pitchBehindCapo ⟨Nat.le_of_ble_eq_true rfl, Nat.le_of_ble_eq_true rfl⟩) 2 rfl rfl rfl hl.1 rfl (Nat.le_of_ble_eq_true rfl) dX5_loadColumn_45 (fun H locs hC => ?_)
      obtain ⟨hi7, hf⟩ := gd_e hf
      obtain ⟨f8, ef8, hf⟩ := lt_e hf
      refine st_TR_columnPitches Fx hC hi7 ef8 dX5_loadColumn_48 (fun H locs hC => ?_)
      obtain ⟨v9, ev9, hf⟩ := lt_e hf
      refine lv_iinc (v := v9) (lv' := [(2, .int v9), (0, .ref (ad 29)), (1, .int x1)]) Fx.1 Fx.2.1 dX5_loadColumn_49 hl (k := 2) rfl ev9.symm (by decide) rfl (fun ls hl => ?_)
      refine lv_goto (tgt := 2) Fx.1 Fx.2.1 dX5_loadColumn_52 (by decide) ?_
      exact hK2 _ hf _ _ _ (lv_sub hl [1, 2, 0] rfl) hC
set_option maxRecDepth 100000 in
set_option maxHeartbeats 4000000 in
theorem t_TR_loadColumn_L2 {p : Program} {l : Launch} {e : Env} {s : State} {m : MethodId} {args : Array Value} {below : List Frame} {meth : Method} {c : Code} {Q : State → Prop} {D : va_G} {ad : Nat → Nat} {cy : Nat → ClassId} {A : Nat → Prop} {H0 : Heap} {u : sG × sF} (Fx : CallFix p m c cX5_loadColumn 3 s args (Cond.code yX5_loadColumn cX5_loadColumn 3 none :: wU) RX5) (hret : mRv p l e rm_TR_loadColumn s m args below meth c Q D (cT cy) (cW ad cy) A H0 cX5_loadColumn u)  (n : Nat) (z : Int32 × Int32 × sG × sF) (hz : itr (fun K z => p_TR_loadColumn_L2 K z.1 z.2.1 z.2.2.1 z.2.2.2) n z = some u) : ∀ (ls : Array Slot) (H : Heap) (locs : List Loc), lv_has ls 3 [(0, .ref (ad 29)), (1, .int z.1), (2, .int z.2.1)] → wH D (cT cy) (cW ad cy) A H0 s z.2.2.1 z.2.2.2 H locs → W p l e rm_TR_loadColumn s m args below meth c H locs 0 0 Q (F0 m 2 ls []) :=
  itr_all (B := fun K z => p_TR_loadColumn_L2 K z.1 z.2.1 z.2.2.1 z.2.2.2) (r := u) (fun z => ∀ (ls : Array Slot) (H : Heap) (locs : List Loc), lv_has ls 3 [(0, .ref (ad 29)), (1, .int z.1), (2, .int z.2.1)] → wH D (cT cy) (cW ad cy) A H0 s z.2.2.1 z.2.2.2 H locs → W p l e rm_TR_loadColumn s m args below meth c H locs 0 0 Q (F0 m 2 ls [])) (fun K hK z h => s_TR_loadColumn_L2 (K2 := K) Fx hret hK z.1 z.2.1 z.2.2.1 z.2.2.2 h) n z hz
noncomputable def p_TR_loadColumn (a1 : Int32) (g : sG) (f : sF) : Option (sG × sF) := itr (fun K z => p_TR_loadColumn_L2 K z.1 z.2.1 z.2.2.1 z.2.2.2) FUEL (a1, (0 : Int32), g, f)
set_option maxRecDepth 100000 in
set_option maxHeartbeats 4000000 in
theorem k_TR_loadColumn {l : Launch} {D : va_G} {ad : Nat → Nat} {cy : Nat → ClassId} {a1 : Int32} {u : sG × sF} {g : sG} {f : sF} (hf : p_TR_loadColumn a1 g f = some u) : mMv l yX5_loadColumn (Cond.code yX5_loadColumn cX5_loadColumn 3 none :: wU) rm_TR_loadColumn D (cT cy) (cW ad cy) [.ref (ad 29), .int a1] g f u := by
  refine mk_v (by decide) rfl (Nat.le_of_ble_eq_true rfl) ?_
  intro p e s m below meth c Q A H0 Fx hret ls H locs hl hC
  replace hl : lv_has ls 3 [(0, .ref (ad 29)), (1, .int a1)] := hl
  unfold p_TR_loadColumn at hf
  refine lv_iconst (v := (0 : Int32)) Fx.1 Fx.2.1 dX5_loadColumn_0 (by decide) ?_
  refine lv_istore_n (lv' := [(2, .int (0 : Int32)), (0, .ref (ad 29)), (1, .int a1)]) Fx.1 Fx.2.1 dX5_loadColumn_1 rfl hl (by decide) rfl (fun ls hl => ?_)
  exact t_TR_loadColumn_L2 Fx hret _ _ hf _ _ _ (lv_sub hl [1, 2, 0] rfl) hC
/-! FretHands$TabReader.countPitches()I -/
abbrev rm_TR_countPitches : Room := { frames := 0, cells := 0, slots := 0, locals := 0 }
theorem hd_TR_countPitches : yX5_countPitches.cls = RX5 ∧ yX5_countPitches.cls ≠ "java/lang/invoke/MethodHandle" ∧ yX5_countPitches.cls ≠ "java/lang/invoke/VarHandle" ∧ (parseMethodDescriptor yX5_countPitches.desc).map (fun d => d.parameters.length) = some 0 := by decide +kernel
noncomputable def p_TR_countPitches_L4 (K4 : (Int32 × Int32) → Option (Int32)) (x1 : Int32) (x2 : Int32) (g : sG) (f : sF) : Option (Int32) := (if (g 0) ≤ x2 then some x1 else (if x2 < 0 ∨ 7 ≤ x2.toNatClampNeg then none else (if (f 21 x2.toNatClampNeg) = (-1 : Int32) then lt_ (x2 + (1 : Int32)) (fun v2 => K4 (x1, v2)) else lt_ (x1 + (1 : Int32)) (fun v3 => lt_ (x2 + (1 : Int32)) (fun v4 => K4 (v3, v4))))))
set_option maxRecDepth 100000 in
set_option maxHeartbeats 4000000 in
theorem s_TR_countPitches_L4 {K4 : (Int32 × Int32) → Option (Int32)} {p : Program} {l : Launch} {e : Env} {s : State} {m : MethodId} {args : Array Value} {below : List Frame} {meth : Method} {c : Code} {Q : State → Prop} {D : va_G} {ad : Nat → Nat} {cy : Nat → ClassId} {A : Nat → Prop} {H0 : Heap} {r : Int32} {g : sG} {f : sF} (Fx : CallFix p m c cX5_countPitches 3 s args (Cond.code yX5_countPitches cX5_countPitches 3 (some .int) :: wU) RX5) (hret : mRi p l e rm_TR_countPitches s m args below meth c Q D (cT cy) (cW ad cy) A H0 cX5_countPitches (r, g, f)) (hK4 : ∀ (z : Int32 × Int32), K4 z = some r → ∀ (ls : Array Slot) (H : Heap) (locs : List Loc), lv_has ls 3 [(0, .ref (ad 29)), (1, .int z.1), (2, .int z.2)] → wH D (cT cy) (cW ad cy) A H0 s g f H locs → W p l e rm_TR_countPitches s m args below meth c H locs 0 0 Q (F0 m 4 ls [])) (x1 : Int32) (x2 : Int32) (hf : p_TR_countPitches_L4 K4 x1 x2 g f = some r) : ∀ (ls : Array Slot) (H : Heap) (locs : List Loc), lv_has ls 3 [(0, .ref (ad 29)), (1, .int x1), (2, .int x2)] → wH D (cT cy) (cW ad cy) A H0 s g f H locs → W p l e rm_TR_countPitches s m args below meth c H locs 0 0 Q (F0 m 4 ls []) := by
  intro ls H locs hl hC
  unfold p_TR_countPitches_L4 at hf
  refine lv_iload_n Fx.1 Fx.2.1 dX5_countPitches_4 rfl (lv_at hl 2 rfl) ?_
  refine lv_aload_n Fx.1 Fx.2.1 dX5_countPitches_5 rfl (lv_at hl 0 rfl) ?_
  refine gg_TR_instrument Fx hC wd_189 dX5_countPitches_6 ?_
  refine gg_In_strings Fx hC wd_30 dX5_countPitches_9 ?_
  refine lv_icmp_ge (tgt := 34) Fx.1 Fx.2.1 dX5_countPitches_12 (by decide) (fun hc => ?_) (fun hc => ?_)
  · replace hf := ift hc hf
    refine lv_iload_n Fx.1 Fx.2.1 dX5_countPitches_34 rfl (lv_at hl 1 rfl) ?_
    obtain rfl := Option.some.inj hf
    exact hret _ _ _ _ dX5_countPitches_35 hC
  · replace hf := iff_ hc hf
    refine lv_aload_n Fx.1 Fx.2.1 dX5_countPitches_15 rfl (lv_at hl 0 rfl) ?_
    refine gg_TR_columnPitches Fx hC wd_193 dX5_countPitches_16 ?_
    refine lv_iload_n Fx.1 Fx.2.1 dX5_countPitches_19 rfl (lv_at hl 2 rfl) ?_
    obtain ⟨hi1, hf⟩ := gd_e hf
    refine ld_TR_columnPitches Fx hC hi1 dX5_countPitches_20 ?_
    refine lv_iconst (v := (-1 : Int32)) Fx.1 Fx.2.1 dX5_countPitches_21 (by decide) ?_
    refine lv_icmp_eq (tgt := 28) Fx.1 Fx.2.1 dX5_countPitches_22 (by decide) (fun hc => ?_) (fun hc => ?_)
    · replace hf := ift hc hf
      obtain ⟨v2, ev2, hf⟩ := lt_e hf
      refine lv_iinc (v := v2) (lv' := [(2, .int v2), (0, .ref (ad 29)), (1, .int x1)]) Fx.1 Fx.2.1 dX5_countPitches_28 hl (k := 2) rfl ev2.symm (by decide) rfl (fun ls hl => ?_)
      refine lv_goto (tgt := 4) Fx.1 Fx.2.1 dX5_countPitches_31 (by decide) ?_
      exact hK4 _ hf _ _ _ (lv_sub hl [1, 2, 0] rfl) hC
    · replace hf := iff_ hc hf
      obtain ⟨v3, ev3, hf⟩ := lt_e hf
      refine lv_iinc (v := v3) (lv' := [(1, .int v3), (0, .ref (ad 29)), (2, .int x2)]) Fx.1 Fx.2.1 dX5_countPitches_25 hl (k := 1) rfl ev3.symm (by decide) rfl (fun ls hl => ?_)
      obtain ⟨v4, ev4, hf⟩ := lt_e hf
      refine lv_iinc (v := v4) (lv' := [(2, .int v4), (1, .int v3), (0, .ref (ad 29))]) Fx.1 Fx.2.1 dX5_countPitches_28 hl (k := 2) rfl ev4.symm (by decide) rfl (fun ls hl => ?_)
      refine lv_goto (tgt := 4) Fx.1 Fx.2.1 dX5_countPitches_31 (by decide) ?_
      exact hK4 _ hf _ _ _ (lv_sub hl [2, 1, 0] rfl) hC
set_option maxRecDepth 100000 in
set_option maxHeartbeats 4000000 in
theorem t_TR_countPitches_L4 {p : Program} {l : Launch} {e : Env} {s : State} {m : MethodId} {args : Array Value} {below : List Frame} {meth : Method} {c : Code} {Q : State → Prop} {D : va_G} {ad : Nat → Nat} {cy : Nat → ClassId} {A : Nat → Prop} {H0 : Heap} {r : Int32} {g : sG} {f : sF} (Fx : CallFix p m c cX5_countPitches 3 s args (Cond.code yX5_countPitches cX5_countPitches 3 (some .int) :: wU) RX5) (hret : mRi p l e rm_TR_countPitches s m args below meth c Q D (cT cy) (cW ad cy) A H0 cX5_countPitches (r, g, f))  (n : Nat) (z : Int32 × Int32) (hz : itr (fun K z => p_TR_countPitches_L4 K z.1 z.2 g f) n z = some r) : ∀ (ls : Array Slot) (H : Heap) (locs : List Loc), lv_has ls 3 [(0, .ref (ad 29)), (1, .int z.1), (2, .int z.2)] → wH D (cT cy) (cW ad cy) A H0 s g f H locs → W p l e rm_TR_countPitches s m args below meth c H locs 0 0 Q (F0 m 4 ls []) :=
  itr_all (B := fun K z => p_TR_countPitches_L4 K z.1 z.2 g f) (r := r) (fun z => ∀ (ls : Array Slot) (H : Heap) (locs : List Loc), lv_has ls 3 [(0, .ref (ad 29)), (1, .int z.1), (2, .int z.2)] → wH D (cT cy) (cW ad cy) A H0 s g f H locs → W p l e rm_TR_countPitches s m args below meth c H locs 0 0 Q (F0 m 4 ls [])) (fun K hK z h => s_TR_countPitches_L4 (K4 := K) Fx hret hK z.1 z.2 h) n z hz
noncomputable def p_TR_countPitches  (g : sG) (f : sF) : Option (Int32) := itr (fun K z => p_TR_countPitches_L4 K z.1 z.2 g f) FUEL ((0 : Int32), (0 : Int32))
set_option maxRecDepth 100000 in
set_option maxHeartbeats 4000000 in
theorem k_TR_countPitches {l : Launch} {D : va_G} {ad : Nat → Nat} {cy : Nat → ClassId}  {r : Int32} {g : sG} {f : sF} (hf : p_TR_countPitches  g f = some r) : mMi l yX5_countPitches (Cond.code yX5_countPitches cX5_countPitches 3 (some .int) :: wU) rm_TR_countPitches D (cT cy) (cW ad cy) [.ref (ad 29)] g f (r, g, f) := by
  refine mk_i (by decide) rfl (Nat.le_of_ble_eq_true rfl) ?_
  intro p e s m below meth c Q A H0 Fx hret ls H locs hl hC
  replace hl : lv_has ls 3 [(0, .ref (ad 29))] := hl
  unfold p_TR_countPitches at hf
  refine lv_iconst (v := (0 : Int32)) Fx.1 Fx.2.1 dX5_countPitches_0 (by decide) ?_
  refine lv_istore_n (lv' := [(1, .int (0 : Int32)), (0, .ref (ad 29))]) Fx.1 Fx.2.1 dX5_countPitches_1 rfl hl (by decide) rfl (fun ls hl => ?_)
  refine lv_iconst (v := (0 : Int32)) Fx.1 Fx.2.1 dX5_countPitches_2 (by decide) ?_
  refine lv_istore_n (lv' := [(2, .int (0 : Int32)), (1, .int (0 : Int32)), (0, .ref (ad 29))]) Fx.1 Fx.2.1 dX5_countPitches_3 rfl hl (by decide) rfl (fun ls hl => ?_)
  exact t_TR_countPitches_L4 Fx hret _ _ hf _ _ _ (lv_sub hl [2, 1, 0] rfl) hC
/-! FretHands$TabReader.hasPitchTwice()Z -/
abbrev rm_TR_hasPitchTwice : Room := { frames := 0, cells := 0, slots := 0, locals := 0 }
theorem hd_TR_hasPitchTwice : yX5_hasPitchTwice.cls = RX5 ∧ yX5_hasPitchTwice.cls ≠ "java/lang/invoke/MethodHandle" ∧ yX5_hasPitchTwice.cls ≠ "java/lang/invoke/VarHandle" ∧ (parseMethodDescriptor yX5_hasPitchTwice.desc).map (fun d => d.parameters.length) = some 0 := by decide +kernel
noncomputable def p_TR_hasPitchTwice_L15 (K2 : (Int32) → Option (Int32)) (K15 : (Int32 × Int32) → Option (Int32)) (x1 : Int32) (x2 : Int32) (g : sG) (f : sF) : Option (Int32) := (if x1 ≤ x2 then lt_ (x1 + (1 : Int32)) (fun v1 => K2 v1) else (if x1 < 0 ∨ 7 ≤ x1.toNatClampNeg then none else (if (f 21 x1.toNatClampNeg) = (-1 : Int32) then lt_ (x2 + (1 : Int32)) (fun v3 => K15 (x1, v3)) else (if x1 < 0 ∨ 7 ≤ x1.toNatClampNeg then none else (if x2 < 0 ∨ 7 ≤ x2.toNatClampNeg then none else (if (f 21 x1.toNatClampNeg) = (f 21 x2.toNatClampNeg) then some (1 : Int32) else lt_ (x2 + (1 : Int32)) (fun v6 => K15 (x1, v6))))))))
set_option maxRecDepth 100000 in
set_option maxHeartbeats 4000000 in
theorem s_TR_hasPitchTwice_L15 {K2 : (Int32) → Option (Int32)} {K15 : (Int32 × Int32) → Option (Int32)} {p : Program} {l : Launch} {e : Env} {s : State} {m : MethodId} {args : Array Value} {below : List Frame} {meth : Method} {c : Code} {Q : State → Prop} {D : va_G} {ad : Nat → Nat} {cy : Nat → ClassId} {A : Nat → Prop} {H0 : Heap} {r : Int32} {g : sG} {f : sF} (Fx : CallFix p m c cX5_hasPitchTwice 3 s args (Cond.code yX5_hasPitchTwice cX5_hasPitchTwice 3 (some .boolean) :: wU) RX5) (hret : mRz p l e rm_TR_hasPitchTwice s m args below meth c Q D (cT cy) (cW ad cy) A H0 cX5_hasPitchTwice (r, g, f)) (hK2 : ∀ (z : Int32), K2 z = some r → ∀ (ls : Array Slot) (H : Heap) (locs : List Loc), lv_has ls 3 [(0, .ref (ad 29)), (1, .int z)] → wH D (cT cy) (cW ad cy) A H0 s g f H locs → W p l e rm_TR_hasPitchTwice s m args below meth c H locs 0 0 Q (F0 m 2 ls [])) (hK15 : ∀ (z : Int32 × Int32), K15 z = some r → ∀ (ls : Array Slot) (H : Heap) (locs : List Loc), lv_has ls 3 [(0, .ref (ad 29)), (1, .int z.1), (2, .int z.2)] → wH D (cT cy) (cW ad cy) A H0 s g f H locs → W p l e rm_TR_hasPitchTwice s m args below meth c H locs 0 0 Q (F0 m 15 ls [])) (x1 : Int32) (x2 : Int32) (hf : p_TR_hasPitchTwice_L15 K2 K15 x1 x2 g f = some r) : ∀ (ls : Array Slot) (H : Heap) (locs : List Loc), lv_has ls 3 [(0, .ref (ad 29)), (1, .int x1), (2, .int x2)] → wH D (cT cy) (cW ad cy) A H0 s g f H locs → W p l e rm_TR_hasPitchTwice s m args below meth c H locs 0 0 Q (F0 m 15 ls []) := by
  intro ls H locs hl hC
  unfold p_TR_hasPitchTwice_L15 at hf
  refine lv_iload_n Fx.1 Fx.2.1 dX5_hasPitchTwice_15 rfl (lv_at hl 2 rfl) ?_
  refine lv_iload_n Fx.1 Fx.2.1 dX5_hasPitchTwice_16 rfl (lv_at hl 1 rfl) ?_
  refine lv_icmp_ge (tgt := 53) Fx.1 Fx.2.1 dX5_hasPitchTwice_17 (by decide) (fun hc => ?_) (fun hc => ?_)
  · replace hf := ift hc hf
    obtain ⟨v1, ev1, hf⟩ := lt_e hf
    refine lv_iinc (v := v1) (lv' := [(1, .int v1), (0, .ref (ad 29)), (2, .int x2)]) Fx.1 Fx.2.1 dX5_hasPitchTwice_53 hl (k := 1) rfl ev1.symm (by decide) rfl (fun ls hl => ?_)
    refine lv_goto (tgt := 2) Fx.1 Fx.2.1 dX5_hasPitchTwice_56 (by decide) ?_
    exact hK2 _ hf _ _ _ (lv_sub hl [1, 0] rfl) hC
  · replace hf := iff_ hc hf
    refine lv_aload_n Fx.1 Fx.2.1 dX5_hasPitchTwice_20 rfl (lv_at hl 0 rfl) ?_
    refine gg_TR_columnPitches Fx hC wd_193 dX5_hasPitchTwice_21 ?_
    refine lv_iload_n Fx.1 Fx.2.1 dX5_hasPitchTwice_24 rfl (lv_at hl 1 rfl) ?_
    obtain ⟨hi2, hf⟩ := gd_e hf
    refine ld_TR_columnPitches Fx hC hi2 dX5_hasPitchTwice_25 ?_
    refine lv_iconst (v := (-1 : Int32)) Fx.1 Fx.2.1 dX5_hasPitchTwice_26 (by decide) ?_
    refine lv_icmp_eq (tgt := 47) Fx.1 Fx.2.1 dX5_hasPitchTwice_27 (by decide) (fun hc => ?_) (fun hc => ?_)
    · replace hf := ift hc hf
      obtain ⟨v3, ev3, hf⟩ := lt_e hf
      refine lv_iinc (v := v3) (lv' := [(2, .int v3), (0, .ref (ad 29)), (1, .int x1)]) Fx.1 Fx.2.1 dX5_hasPitchTwice_47 hl (k := 2) rfl ev3.symm (by decide) rfl (fun ls hl => ?_)
      refine lv_goto (tgt := 15) Fx.1 Fx.2.1 dX5_hasPitchTwice_50 (by decide) ?_
      exact hK15 _ hf _ _ _ (lv_sub hl [1, 2, 0] rfl) hC
    · replace hf := iff_ hc hf
      refine lv_aload_n Fx.1 Fx.2.1 dX5_hasPitchTwice_30 rfl (lv_at hl 0 rfl) ?_
      refine gg_TR_columnPitches Fx hC wd_193 dX5_hasPitchTwice_31 ?_
      refine lv_iload_n Fx.1 Fx.2.1 dX5_hasPitchTwice_34 rfl (lv_at hl 1 rfl) ?_
      obtain ⟨hi4, hf⟩ := gd_e hf
      refine ld_TR_columnPitches Fx hC hi4 dX5_hasPitchTwice_35 ?_
      refine lv_aload_n Fx.1 Fx.2.1 dX5_hasPitchTwice_36 rfl (lv_at hl 0 rfl) ?_
      refine gg_TR_columnPitches Fx hC wd_193 dX5_hasPitchTwice_37 ?_
      refine lv_iload_n Fx.1 Fx.2.1 dX5_hasPitchTwice_40 rfl (lv_at hl 2 rfl) ?_
      obtain ⟨hi5, hf⟩ := gd_e hf
      refine ld_TR_columnPitches Fx hC hi5 dX5_hasPitchTwice_41 ?_
      refine lv_icmp_ne (tgt := 47) Fx.1 Fx.2.1 dX5_hasPitchTwice_42 (by decide) (fun hc => ?_) (fun hc => ?_)
      · replace hf := iff_ hc hf
        obtain ⟨v6, ev6, hf⟩ := lt_e hf
        refine lv_iinc (v := v6) (lv' := [(2, .int v6), (0, .ref (ad 29)), (1, .int x1)]) Fx.1 Fx.2.1 dX5_hasPitchTwice_47 hl (k := 2) rfl ev6.symm (by decide) rfl (fun ls hl => ?_)
        refine lv_goto (tgt := 15) Fx.1 Fx.2.1 dX5_hasPitchTwice_50 (by decide) ?_
        exact hK15 _ hf _ _ _ (lv_sub hl [1, 2, 0] rfl) hC
      · replace hf := ift hc hf
        refine lv_iconst (v := (1 : Int32)) Fx.1 Fx.2.1 dX5_hasPitchTwice_45 (by decide) ?_
        obtain rfl := Option.some.inj hf
        exact hret _ _ _ _ dX5_hasPitchTwice_46 z01_1 hC
set_option maxRecDepth 100000 in
set_option maxHeartbeats 4000000 in
theorem t_TR_hasPitchTwice_L15 {K2 : (Int32) → Option (Int32)} {p : Program} {l : Launch} {e : Env} {s : State} {m : MethodId} {args : Array Value} {below : List Frame} {meth : Method} {c : Code} {Q : State → Prop} {D : va_G} {ad : Nat → Nat} {cy : Nat → ClassId} {A : Nat → Prop} {H0 : Heap} {r : Int32} {g : sG} {f : sF} (Fx : CallFix p m c cX5_hasPitchTwice 3 s args (Cond.code yX5_hasPitchTwice cX5_hasPitchTwice 3 (some .boolean) :: wU) RX5) (hret : mRz p l e rm_TR_hasPitchTwice s m args below meth c Q D (cT cy) (cW ad cy) A H0 cX5_hasPitchTwice (r, g, f)) (hK2 : ∀ (z : Int32), K2 z = some r → ∀ (ls : Array Slot) (H : Heap) (locs : List Loc), lv_has ls 3 [(0, .ref (ad 29)), (1, .int z)] → wH D (cT cy) (cW ad cy) A H0 s g f H locs → W p l e rm_TR_hasPitchTwice s m args below meth c H locs 0 0 Q (F0 m 2 ls [])) (n : Nat) (z : Int32 × Int32) (hz : itr (fun K z => p_TR_hasPitchTwice_L15 K2 K z.1 z.2 g f) n z = some r) : ∀ (ls : Array Slot) (H : Heap) (locs : List Loc), lv_has ls 3 [(0, .ref (ad 29)), (1, .int z.1), (2, .int z.2)] → wH D (cT cy) (cW ad cy) A H0 s g f H locs → W p l e rm_TR_hasPitchTwice s m args below meth c H locs 0 0 Q (F0 m 15 ls []) :=
  itr_all (B := fun K z => p_TR_hasPitchTwice_L15 K2 K z.1 z.2 g f) (r := r) (fun z => ∀ (ls : Array Slot) (H : Heap) (locs : List Loc), lv_has ls 3 [(0, .ref (ad 29)), (1, .int z.1), (2, .int z.2)] → wH D (cT cy) (cW ad cy) A H0 s g f H locs → W p l e rm_TR_hasPitchTwice s m args below meth c H locs 0 0 Q (F0 m 15 ls [])) (fun K hK z h => s_TR_hasPitchTwice_L15 (K15 := K) Fx hret hK2 hK z.1 z.2 h) n z hz
noncomputable def p_TR_hasPitchTwice_L2 (K2 : (Int32) → Option (Int32)) (x1 : Int32) (g : sG) (f : sF) : Option (Int32) := (if (g 0) ≤ x1 then some (0 : Int32) else itr (fun K z => p_TR_hasPitchTwice_L15 K2 K z.1 z.2 g f) FUEL (x1, (0 : Int32)))
set_option maxRecDepth 100000 in
set_option maxHeartbeats 4000000 in
theorem s_TR_hasPitchTwice_L2 {K2 : (Int32) → Option (Int32)} {p : Program} {l : Launch} {e : Env} {s : State} {m : MethodId} {args : Array Value} {below : List Frame} {meth : Method} {c : Code} {Q : State → Prop} {D : va_G} {ad : Nat → Nat} {cy : Nat → ClassId} {A : Nat → Prop} {H0 : Heap} {r : Int32} {g : sG} {f : sF} (Fx : CallFix p m c cX5_hasPitchTwice 3 s args (Cond.code yX5_hasPitchTwice cX5_hasPitchTwice 3 (some .boolean) :: wU) RX5) (hret : mRz p l e rm_TR_hasPitchTwice s m args below meth c Q D (cT cy) (cW ad cy) A H0 cX5_hasPitchTwice (r, g, f)) (hK2 : ∀ (z : Int32), K2 z = some r → ∀ (ls : Array Slot) (H : Heap) (locs : List Loc), lv_has ls 3 [(0, .ref (ad 29)), (1, .int z)] → wH D (cT cy) (cW ad cy) A H0 s g f H locs → W p l e rm_TR_hasPitchTwice s m args below meth c H locs 0 0 Q (F0 m 2 ls [])) (x1 : Int32) (hf : p_TR_hasPitchTwice_L2 K2 x1 g f = some r) : ∀ (ls : Array Slot) (H : Heap) (locs : List Loc), lv_has ls 3 [(0, .ref (ad 29)), (1, .int x1)] → wH D (cT cy) (cW ad cy) A H0 s g f H locs → W p l e rm_TR_hasPitchTwice s m args below meth c H locs 0 0 Q (F0 m 2 ls []) := by
  intro ls H locs hl hC
  unfold p_TR_hasPitchTwice_L2 at hf
  refine lv_iload_n Fx.1 Fx.2.1 dX5_hasPitchTwice_2 rfl (lv_at hl 1 rfl) ?_
  refine lv_aload_n Fx.1 Fx.2.1 dX5_hasPitchTwice_3 rfl (lv_at hl 0 rfl) ?_
  refine gg_TR_instrument Fx hC wd_189 dX5_hasPitchTwice_4 ?_
  refine gg_In_strings Fx hC wd_30 dX5_hasPitchTwice_7 ?_
  refine lv_icmp_ge (tgt := 59) Fx.1 Fx.2.1 dX5_hasPitchTwice_10 (by decide) (fun hc => ?_) (fun hc => ?_)
  · replace hf := ift hc hf
    refine lv_iconst (v := (0 : Int32)) Fx.1 Fx.2.1 dX5_hasPitchTwice_59 (by decide) ?_
    obtain rfl := Option.some.inj hf
    exact hret _ _ _ _ dX5_hasPitchTwice_60 z01_0 hC
  · replace hf := iff_ hc hf
    refine lv_iconst (v := (0 : Int32)) Fx.1 Fx.2.1 dX5_hasPitchTwice_13 (by decide) ?_
    refine lv_istore_n (lv' := [(2, .int (0 : Int32)), (0, .ref (ad 29)), (1, .int x1)]) Fx.1 Fx.2.1 dX5_hasPitchTwice_14 rfl hl (by decide) rfl (fun ls hl => ?_)
    exact t_TR_hasPitchTwice_L15 Fx hret hK2 _ _ hf _ _ _ (lv_sub hl [1, 2, 0] rfl) hC
set_option maxRecDepth 100000 in
set_option maxHeartbeats 4000000 in
theorem t_TR_hasPitchTwice_L2 {p : Program} {l : Launch} {e : Env} {s : State} {m : MethodId} {args : Array Value} {below : List Frame} {meth : Method} {c : Code} {Q : State → Prop} {D : va_G} {ad : Nat → Nat} {cy : Nat → ClassId} {A : Nat → Prop} {H0 : Heap} {r : Int32} {g : sG} {f : sF} (Fx : CallFix p m c cX5_hasPitchTwice 3 s args (Cond.code yX5_hasPitchTwice cX5_hasPitchTwice 3 (some .boolean) :: wU) RX5) (hret : mRz p l e rm_TR_hasPitchTwice s m args below meth c Q D (cT cy) (cW ad cy) A H0 cX5_hasPitchTwice (r, g, f))  (n : Nat) (z : Int32) (hz : itr (fun K z => p_TR_hasPitchTwice_L2 K z g f) n z = some r) : ∀ (ls : Array Slot) (H : Heap) (locs : List Loc), lv_has ls 3 [(0, .ref (ad 29)), (1, .int z)] → wH D (cT cy) (cW ad cy) A H0 s g f H locs → W p l e rm_TR_hasPitchTwice s m args below meth c H locs 0 0 Q (F0 m 2 ls []) :=
  itr_all (B := fun K z => p_TR_hasPitchTwice_L2 K z g f) (r := r) (fun z => ∀ (ls : Array Slot) (H : Heap) (locs : List Loc), lv_has ls 3 [(0, .ref (ad 29)), (1, .int z)] → wH D (cT cy) (cW ad cy) A H0 s g f H locs → W p l e rm_TR_hasPitchTwice s m args below meth c H locs 0 0 Q (F0 m 2 ls [])) (fun K hK z h => s_TR_hasPitchTwice_L2 (K2 := K) Fx hret hK z h) n z hz
noncomputable def p_TR_hasPitchTwice  (g : sG) (f : sF) : Option (Int32) := itr (fun K z => p_TR_hasPitchTwice_L2 K z g f) FUEL (1 : Int32)
set_option maxRecDepth 100000 in
set_option maxHeartbeats 4000000 in
theorem k_TR_hasPitchTwice {l : Launch} {D : va_G} {ad : Nat → Nat} {cy : Nat → ClassId}  {r : Int32} {g : sG} {f : sF} (hf : p_TR_hasPitchTwice  g f = some r) : mMi l yX5_hasPitchTwice (Cond.code yX5_hasPitchTwice cX5_hasPitchTwice 3 (some .boolean) :: wU) rm_TR_hasPitchTwice D (cT cy) (cW ad cy) [.ref (ad 29)] g f (r, g, f) := by
  refine mk_z (by decide) rfl (Nat.le_of_ble_eq_true rfl) ?_
  intro p e s m below meth c Q A H0 Fx hret ls H locs hl hC
  replace hl : lv_has ls 3 [(0, .ref (ad 29))] := hl
  unfold p_TR_hasPitchTwice at hf
  refine lv_iconst (v := (1 : Int32)) Fx.1 Fx.2.1 dX5_hasPitchTwice_0 (by decide) ?_
  refine lv_istore_n (lv' := [(1, .int (1 : Int32)), (0, .ref (ad 29))]) Fx.1 Fx.2.1 dX5_hasPitchTwice_1 rfl hl (by decide) rfl (fun ls hl => ?_)
  exact t_TR_hasPitchTwice_L2 Fx hret _ _ hf _ _ _ (lv_sub hl [1, 0] rfl) hC
/-! FretHands$TabReader.lowestString()I -/
abbrev rm_TR_lowestString : Room := { frames := 0, cells := 0, slots := 0, locals := 0 }
theorem hd_TR_lowestString : yX5_lowestString.cls = RX5 ∧ yX5_lowestString.cls ≠ "java/lang/invoke/MethodHandle" ∧ yX5_lowestString.cls ≠ "java/lang/invoke/VarHandle" ∧ (parseMethodDescriptor yX5_lowestString.desc).map (fun d => d.parameters.length) = some 0 := by decide +kernel
noncomputable def p_TR_lowestString_L2 (K2 : (Int32) → Option (Int32)) (x1 : Int32) (g : sG) (f : sF) : Option (Int32) := (if (g 0) ≤ x1 then some (-1 : Int32) else (if x1 < 0 ∨ 7 ≤ x1.toNatClampNeg then none else (if (f 21 x1.toNatClampNeg) = (-1 : Int32) then lt_ (x1 + (1 : Int32)) (fun v2 => K2 v2) else some x1)))
set_option maxRecDepth 100000 in
set_option maxHeartbeats 4000000 in
theorem s_TR_lowestString_L2 {K2 : (Int32) → Option (Int32)} {p : Program} {l : Launch} {e : Env} {s : State} {m : MethodId} {args : Array Value} {below : List Frame} {meth : Method} {c : Code} {Q : State → Prop} {D : va_G} {ad : Nat → Nat} {cy : Nat → ClassId} {A : Nat → Prop} {H0 : Heap} {r : Int32} {g : sG} {f : sF} (Fx : CallFix p m c cX5_lowestString 2 s args (Cond.code yX5_lowestString cX5_lowestString 2 (some .int) :: wU) RX5) (hret : mRi p l e rm_TR_lowestString s m args below meth c Q D (cT cy) (cW ad cy) A H0 cX5_lowestString (r, g, f)) (hK2 : ∀ (z : Int32), K2 z = some r → ∀ (ls : Array Slot) (H : Heap) (locs : List Loc), lv_has ls 2 [(0, .ref (ad 29)), (1, .int z)] → wH D (cT cy) (cW ad cy) A H0 s g f H locs → W p l e rm_TR_lowestString s m args below meth c H locs 0 0 Q (F0 m 2 ls [])) (x1 : Int32) (hf : p_TR_lowestString_L2 K2 x1 g f = some r) : ∀ (ls : Array Slot) (H : Heap) (locs : List Loc), lv_has ls 2 [(0, .ref (ad 29)), (1, .int x1)] → wH D (cT cy) (cW ad cy) A H0 s g f H locs → W p l e rm_TR_lowestString s m args below meth c H locs 0 0 Q (F0 m 2 ls []) := by
  intro ls H locs hl hC
  unfold p_TR_lowestString_L2 at hf
  refine lv_iload_n Fx.1 Fx.2.1 dX5_lowestString_2 rfl (lv_at hl 1 rfl) ?_
  refine lv_aload_n Fx.1 Fx.2.1 dX5_lowestString_3 rfl (lv_at hl 0 rfl) ?_
  refine gg_TR_instrument Fx hC wd_189 dX5_lowestString_4 ?_
  refine gg_In_strings Fx hC wd_30 dX5_lowestString_7 ?_
  refine lv_icmp_ge (tgt := 31) Fx.1 Fx.2.1 dX5_lowestString_10 (by decide) (fun hc => ?_) (fun hc => ?_)
  · replace hf := ift hc hf
    refine lv_iconst (v := (-1 : Int32)) Fx.1 Fx.2.1 dX5_lowestString_31 (by decide) ?_
    obtain rfl := Option.some.inj hf
    exact hret _ _ _ _ dX5_lowestString_32 hC
  · replace hf := iff_ hc hf
    refine lv_aload_n Fx.1 Fx.2.1 dX5_lowestString_13 rfl (lv_at hl 0 rfl) ?_
    refine gg_TR_columnPitches Fx hC wd_193 dX5_lowestString_14 ?_
    refine lv_iload_n Fx.1 Fx.2.1 dX5_lowestString_17 rfl (lv_at hl 1 rfl) ?_
    obtain ⟨hi1, hf⟩ := gd_e hf
    refine ld_TR_columnPitches Fx hC hi1 dX5_lowestString_18 ?_
    refine lv_iconst (v := (-1 : Int32)) Fx.1 Fx.2.1 dX5_lowestString_19 (by decide) ?_
    refine lv_icmp_eq (tgt := 25) Fx.1 Fx.2.1 dX5_lowestString_20 (by decide) (fun hc => ?_) (fun hc => ?_)
    · replace hf := ift hc hf
      obtain ⟨v2, ev2, hf⟩ := lt_e hf
      refine lv_iinc (v := v2) (lv' := [(1, .int v2), (0, .ref (ad 29))]) Fx.1 Fx.2.1 dX5_lowestString_25 hl (k := 1) rfl ev2.symm (by decide) rfl (fun ls hl => ?_)
      refine lv_goto (tgt := 2) Fx.1 Fx.2.1 dX5_lowestString_28 (by decide) ?_
      exact hK2 _ hf _ _ _ (lv_sub hl [1, 0] rfl) hC
    · replace hf := iff_ hc hf
      refine lv_iload_n Fx.1 Fx.2.1 dX5_lowestString_23 rfl (lv_at hl 1 rfl) ?_
      obtain rfl := Option.some.inj hf
      exact hret _ _ _ _ dX5_lowestString_24 hC
set_option maxRecDepth 100000 in
set_option maxHeartbeats 4000000 in
theorem t_TR_lowestString_L2 {p : Program} {l : Launch} {e : Env} {s : State} {m : MethodId} {args : Array Value} {below : List Frame} {meth : Method} {c : Code} {Q : State → Prop} {D : va_G} {ad : Nat → Nat} {cy : Nat → ClassId} {A : Nat → Prop} {H0 : Heap} {r : Int32} {g : sG} {f : sF} (Fx : CallFix p m c cX5_lowestString 2 s args (Cond.code yX5_lowestString cX5_lowestString 2 (some .int) :: wU) RX5) (hret : mRi p l e rm_TR_lowestString s m args below meth c Q D (cT cy) (cW ad cy) A H0 cX5_lowestString (r, g, f))  (n : Nat) (z : Int32) (hz : itr (fun K z => p_TR_lowestString_L2 K z g f) n z = some r) : ∀ (ls : Array Slot) (H : Heap) (locs : List Loc), lv_has ls 2 [(0, .ref (ad 29)), (1, .int z)] → wH D (cT cy) (cW ad cy) A H0 s g f H locs → W p l e rm_TR_lowestString s m args below meth c H locs 0 0 Q (F0 m 2 ls []) :=
  itr_all (B := fun K z => p_TR_lowestString_L2 K z g f) (r := r) (fun z => ∀ (ls : Array Slot) (H : Heap) (locs : List Loc), lv_has ls 2 [(0, .ref (ad 29)), (1, .int z)] → wH D (cT cy) (cW ad cy) A H0 s g f H locs → W p l e rm_TR_lowestString s m args below meth c H locs 0 0 Q (F0 m 2 ls [])) (fun K hK z h => s_TR_lowestString_L2 (K2 := K) Fx hret hK z h) n z hz
noncomputable def p_TR_lowestString  (g : sG) (f : sF) : Option (Int32) := itr (fun K z => p_TR_lowestString_L2 K z g f) FUEL (0 : Int32)
set_option maxRecDepth 100000 in
set_option maxHeartbeats 4000000 in
theorem k_TR_lowestString {l : Launch} {D : va_G} {ad : Nat → Nat} {cy : Nat → ClassId}  {r : Int32} {g : sG} {f : sF} (hf : p_TR_lowestString  g f = some r) : mMi l yX5_lowestString (Cond.code yX5_lowestString cX5_lowestString 2 (some .int) :: wU) rm_TR_lowestString D (cT cy) (cW ad cy) [.ref (ad 29)] g f (r, g, f) := by
  refine mk_i (by decide) rfl (Nat.le_of_ble_eq_true rfl) ?_
  intro p e s m below meth c Q A H0 Fx hret ls H locs hl hC
  replace hl : lv_has ls 2 [(0, .ref (ad 29))] := hl
  unfold p_TR_lowestString at hf
  refine lv_iconst (v := (0 : Int32)) Fx.1 Fx.2.1 dX5_lowestString_0 (by decide) ?_
  refine lv_istore_n (lv' := [(1, .int (0 : Int32)), (0, .ref (ad 29))]) Fx.1 Fx.2.1 dX5_lowestString_1 rfl hl (by decide) rfl (fun ls hl => ?_)
  exact t_TR_lowestString_L2 Fx hret _ _ hf _ _ _ (lv_sub hl [1, 0] rfl) hC
/-! FretHands$TabReader.wrongEvent()I -/
abbrev rm_TR_wrongEvent : Room := { frames := 4, cells := 0, slots := 0, locals := 90 }
theorem hd_TR_wrongEvent : yX5_wrongEvent.cls = RX5 ∧ yX5_wrongEvent.cls ≠ "java/lang/invoke/MethodHandle" ∧ yX5_wrongEvent.cls ≠ "java/lang/invoke/VarHandle" ∧ (parseMethodDescriptor yX5_wrongEvent.desc).map (fun d => d.parameters.length) = some 0 := by decide +kernel
noncomputable def p_TR_wrongEvent_J32 (K4 : (Int32 × Int32 × sG × sF) → Option (Int32 × sG × sF)) (x1 : Int32) (x2 : Int32) (g : sG) (f : sF) : Option (Int32 × sG × sF) := Option.bind (p_TR_lowestString  g f) (fun u1 => Option.bind (p_TR_placeOf u1 x2 g f) (fun u2 => (if x1 = (-1 : Int32) then lt_ (x2 + (1 : Int32)) (fun v3 => K4 (u2, v3, g, f)) else (if x1 ≤ u2 then lt_ (x2 + (1 : Int32)) (fun v4 => K4 (x1, v4, g, f)) else lt_ (x2 + (1 : Int32)) (fun v5 => K4 (u2, v5, g, f))))))
set_option maxRecDepth 100000 in
set_option maxHeartbeats 4000000 in
theorem s_TR_wrongEvent_J32 {K4 : (Int32 × Int32 × sG × sF) → Option (Int32 × sG × sF)} {p : Program} {l : Launch} {e : Env} {s : State} {m : MethodId} {args : Array Value} {below : List Frame} {meth : Method} {c : Code} {Q : State → Prop} {D : va_G} {ad : Nat → Nat} {cy : Nat → ClassId} {A : Nat → Prop} {H0 : Heap} {u : Int32 × sG × sF} (Fx : CallFix p m c cX5_wrongEvent 4 s args (Cond.code yX5_wrongEvent cX5_wrongEvent 4 (some .int) :: wU) RX5) (hret : mRi p l e rm_TR_wrongEvent s m args below meth c Q D (cT cy) (cW ad cy) A H0 cX5_wrongEvent u) (hK4 : ∀ (z : Int32 × Int32 × sG × sF), K4 z = some u → ∀ (ls : Array Slot) (H : Heap) (locs : List Loc), lv_has ls 4 [(0, .ref (ad 29)), (1, .int z.1), (2, .int z.2.1)] → wH D (cT cy) (cW ad cy) A H0 s z.2.2.1 z.2.2.2 H locs → W p l e rm_TR_wrongEvent s m args below meth c H locs 0 0 Q (F0 m 4 ls [])) (x1 : Int32) (x2 : Int32) (g : sG) (f : sF) (hf : p_TR_wrongEvent_J32 K4 x1 x2 g f = some u) : ∀ (ls : Array Slot) (H : Heap) (locs : List Loc), lv_has ls 4 [(0, .ref (ad 29)), (1, .int x1), (2, .int x2)] → wH D (cT cy) (cW ad cy) A H0 s g f H locs → W p l e rm_TR_wrongEvent s m args below meth c H locs 0 0 Q (F0 m 32 ls []) := by
  intro ls H locs hl hC
  unfold p_TR_wrongEvent_J32 at hf
  refine lv_aload_n Fx.1 Fx.2.1 dX5_wrongEvent_32 rfl (lv_at hl 0 rfl) ?_
  refine lv_aload_n Fx.1 Fx.2.1 dX5_wrongEvent_33 rfl (lv_at hl 0 rfl) ?_
  obtain ⟨u1, hu1, hf⟩ := bd_e hf
  refine ca_i (As := []) (rest := [.ref (ad 29)]) Fx hC (k_TR_lowestString hu1) (cVU 0 Fx.2.2.2.2 wd_565 wd_566 wd_879 wd_9 wd_567 rfl rfl hd_TR_lowestString ⟨Nat.le_of_ble_eq_true rfl, Nat.le_of_ble_eq_true rfl⟩) 29 rfl rfl rfl hl.1 rfl (Nat.le_of_ble_eq_true rfl) dX5_wrongEvent_34 (fun H locs hC => ?_)
  refine lv_iload_n Fx.1 Fx.2.1 dX5_wrongEvent_37 rfl (lv_at hl 2 rfl) ?_
  obtain ⟨u2, hu2, hf⟩ := bd_e hf
  refine ca_i (As := [.int u1, .int x2]) (rest := []) Fx hC (k_TR_placeOf hu2) (cVU 2 Fx.2.2.2.2 wd_525 wd_526 wd_867 wd_9 wd_527 rfl rfl hd_TR_placeOf ⟨Nat.le_of_ble_eq_true rfl, Nat.le_of_ble_eq_true rfl⟩) 29 rfl rfl rfl hl.1 rfl (Nat.le_of_ble_eq_true rfl) dX5_wrongEvent_38 (fun H locs hC => ?_)
  refine lv_istore_n (lv' := [(3, .int u2), (0, .ref (ad 29)), (1, .int x1), (2, .int x2)]) Fx.1 Fx.2.1 dX5_wrongEvent_41 rfl hl (by decide) rfl (fun ls hl => ?_)
  refine lv_iload_n Fx.1 Fx.2.1 dX5_wrongEvent_42 rfl (lv_at hl 2 rfl) ?_
  refine lv_iconst (v := (-1 : Int32)) Fx.1 Fx.2.1 dX5_wrongEvent_43 (by decide) ?_
  refine lv_icmp_eq (tgt := 52) Fx.1 Fx.2.1 dX5_wrongEvent_44 (by decide) (fun hc => ?_) (fun hc => ?_)
  · replace hf := ift hc hf
    refine lv_iload_n Fx.1 Fx.2.1 dX5_wrongEvent_52 rfl (lv_at hl 0 rfl) ?_
    refine lv_istore_n (lv' := [(1, .int u2), (3, .int u2), (0, .ref (ad 29)), (2, .int x2)]) Fx.1 Fx.2.1 dX5_wrongEvent_53 rfl hl (by decide) rfl (fun ls hl => ?_)
    obtain ⟨v3, ev3, hf⟩ := lt_e hf
    refine lv_iinc (v := v3) (lv' := [(2, .int v3), (1, .int u2), (3, .int u2), (0, .ref (ad 29))]) Fx.1 Fx.2.1 dX5_wrongEvent_54 hl (k := 3) rfl ev3.symm (by decide) rfl (fun ls hl => ?_)
    refine lv_goto (tgt := 4) Fx.1 Fx.2.1 dX5_wrongEvent_57 (by decide) ?_
    exact hK4 _ hf _ _ _ (lv_sub hl [3, 1, 0] rfl) hC
  · replace hf := iff_ hc hf
    refine lv_iload_n Fx.1 Fx.2.1 dX5_wrongEvent_47 rfl (lv_at hl 0 rfl) ?_
    refine lv_iload_n Fx.1 Fx.2.1 dX5_wrongEvent_48 rfl (lv_at hl 2 rfl) ?_
    refine lv_icmp_ge (tgt := 54) Fx.1 Fx.2.1 dX5_wrongEvent_49 (by decide) (fun hc => ?_) (fun hc => ?_)
    · replace hf := ift hc hf
      obtain ⟨v4, ev4, hf⟩ := lt_e hf
      refine lv_iinc (v := v4) (lv' := [(2, .int v4), (3, .int u2), (0, .ref (ad 29)), (1, .int x1)]) Fx.1 Fx.2.1 dX5_wrongEvent_54 hl (k := 3) rfl ev4.symm (by decide) rfl (fun ls hl => ?_)
      refine lv_goto (tgt := 4) Fx.1 Fx.2.1 dX5_wrongEvent_57 (by decide) ?_
      exact hK4 _ hf _ _ _ (lv_sub hl [2, 3, 0] rfl) hC
    · replace hf := iff_ hc hf
      refine lv_iload_n Fx.1 Fx.2.1 dX5_wrongEvent_52 rfl (lv_at hl 0 rfl) ?_
      refine lv_istore_n (lv' := [(1, .int u2), (3, .int u2), (0, .ref (ad 29)), (2, .int x2)]) Fx.1 Fx.2.1 dX5_wrongEvent_53 rfl hl (by decide) rfl (fun ls hl => ?_)
      obtain ⟨v5, ev5, hf⟩ := lt_e hf
      refine lv_iinc (v := v5) (lv' := [(2, .int v5), (1, .int u2), (3, .int u2), (0, .ref (ad 29))]) Fx.1 Fx.2.1 dX5_wrongEvent_54 hl (k := 3) rfl ev5.symm (by decide) rfl (fun ls hl => ?_)
      refine lv_goto (tgt := 4) Fx.1 Fx.2.1 dX5_wrongEvent_57 (by decide) ?_
      exact hK4 _ hf _ _ _ (lv_sub hl [3, 1, 0] rfl) hC
noncomputable def p_TR_wrongEvent_L4 (K4 : (Int32 × Int32 × sG × sF) → Option (Int32 × sG × sF)) (x1 : Int32) (x2 : Int32) (g : sG) (f : sF) : Option (Int32 × sG × sF) := (if (g 13) ≤ x2 then some (x1, g, f) else Option.bind (p_TR_loadColumn x2 g f) (fun u1 => Option.bind (p_TR_countPitches  u1.1 u1.2) (fun u2 => (if (4 : Int32) < u2 then p_TR_wrongEvent_J32 K4 x1 x2 u1.1 u1.2 else Option.bind (p_TR_hasPitchTwice  u1.1 u1.2) (fun u3 => (if u3 = 0 then lt_ (x2 + (1 : Int32)) (fun v4 => K4 (x1, v4, u1.1, u1.2)) else p_TR_wrongEvent_J32 K4 x1 x2 u1.1 u1.2))))))
set_option maxRecDepth 100000 in
set_option maxHeartbeats 4000000 in
theorem s_TR_wrongEvent_L4 {K4 : (Int32 × Int32 × sG × sF) → Option (Int32 × sG × sF)} {p : Program} {l : Launch} {e : Env} {s : State} {m : MethodId} {args : Array Value} {below : List Frame} {meth : Method} {c : Code} {Q : State → Prop} {D : va_G} {ad : Nat → Nat} {cy : Nat → ClassId} {A : Nat → Prop} {H0 : Heap} {u : Int32 × sG × sF} (Fx : CallFix p m c cX5_wrongEvent 4 s args (Cond.code yX5_wrongEvent cX5_wrongEvent 4 (some .int) :: wU) RX5) (hret : mRi p l e rm_TR_wrongEvent s m args below meth c Q D (cT cy) (cW ad cy) A H0 cX5_wrongEvent u) (hK4 : ∀ (z : Int32 × Int32 × sG × sF), K4 z = some u → ∀ (ls : Array Slot) (H : Heap) (locs : List Loc), lv_has ls 4 [(0, .ref (ad 29)), (1, .int z.1), (2, .int z.2.1)] → wH D (cT cy) (cW ad cy) A H0 s z.2.2.1 z.2.2.2 H locs → W p l e rm_TR_wrongEvent s m args below meth c H locs 0 0 Q (F0 m 4 ls [])) (x1 : Int32) (x2 : Int32) (g : sG) (f : sF) (hf : p_TR_wrongEvent_L4 K4 x1 x2 g f = some u) : ∀ (ls : Array Slot) (H : Heap) (locs : List Loc), lv_has ls 4 [(0, .ref (ad 29)), (1, .int x1), (2, .int x2)] → wH D (cT cy) (cW ad cy) A H0 s g f H locs → W p l e rm_TR_wrongEvent s m args below meth c H locs 0 0 Q (F0 m 4 ls []) := by
  intro ls H locs hl hC
  unfold p_TR_wrongEvent_L4 at hf
  refine lv_iload_n Fx.1 Fx.2.1 dX5_wrongEvent_4 rfl (lv_at hl 2 rfl) ?_
  refine lv_aload_n Fx.1 Fx.2.1 dX5_wrongEvent_5 rfl (lv_at hl 0 rfl) ?_
  refine gg_TR_lineLength Fx hC wd_192 dX5_wrongEvent_6 ?_
  refine lv_icmp_ge (tgt := 60) Fx.1 Fx.2.1 dX5_wrongEvent_9 (by decide) (fun hc => ?_) (fun hc => ?_)
  · replace hf := ift hc hf
    refine lv_iload_n Fx.1 Fx.2.1 dX5_wrongEvent_60 rfl (lv_at hl 1 rfl) ?_
    obtain rfl := Option.some.inj hf
    exact hret _ _ _ _ dX5_wrongEvent_61 hC
  · replace hf := iff_ hc hf
    refine lv_aload_n Fx.1 Fx.2.1 dX5_wrongEvent_12 rfl (lv_at hl 0 rfl) ?_
    refine lv_iload_n Fx.1 Fx.2.1 dX5_wrongEvent_13 rfl (lv_at hl 2 rfl) ?_
    obtain ⟨u1, hu1, hf⟩ := bd_e hf
    refine ca_v (As := [.int x2]) (rest := []) Fx hC (k_TR_loadColumn hu1) (cVU 1 Fx.2.2.2.2 wd_552 wd_553 wd_876 wd_9 wd_554 rfl rfl hd_TR_loadColumn ⟨Nat.le_of_ble_eq_true rfl, Nat.le_of_ble_eq_true rfl⟩) 29 rfl rfl rfl hl.1 rfl (Nat.le_of_ble_eq_true rfl) dX5_wrongEvent_14 (fun H locs hC => ?_)
    refine lv_aload_n Fx.1 Fx.2.1 dX5_wrongEvent_17 rfl (lv_at hl 0 rfl) ?_
    obtain ⟨u2, hu2, hf⟩ := bd_e hf
    refine ca_i (As := []) (rest := []) Fx hC (k_TR_countPitches hu2) (cVU 0 Fx.2.2.2.2 wd_559 wd_560 wd_877 wd_9 wd_561 rfl rfl hd_TR_countPitches ⟨Nat.le_of_ble_eq_true rfl, Nat.le_of_ble_eq_true rfl⟩) 29 rfl rfl rfl hl.1 rfl (Nat.le_of_ble_eq_true rfl) dX5_wrongEvent_18 (fun H locs hC => ?_)
    refine lv_iconst (v := (4 : Int32)) Fx.1 Fx.2.1 dX5_wrongEvent_21 (by decide) ?_
    refine lv_icmp_gt (tgt := 32) Fx.1 Fx.2.1 dX5_wrongEvent_22 (by decide) (fun hc => ?_) (fun hc => ?_)
    · replace hf := ift hc hf
      exact s_TR_wrongEvent_J32 Fx hret hK4 _ _ _ _  hf _ _ _ (lv_sub hl [0, 1, 2] rfl) hC
    · replace hf := iff_ hc hf
      refine lv_aload_n Fx.1 Fx.2.1 dX5_wrongEvent_25 rfl (lv_at hl 0 rfl) ?_
      obtain ⟨u3, hu3, hf⟩ := bd_e hf
      refine ca_i (As := []) (rest := []) Fx hC (k_TR_hasPitchTwice hu3) (cVU 0 Fx.2.2.2.2 wd_562 wd_563 wd_878 wd_9 wd_564 rfl rfl hd_TR_hasPitchTwice ⟨Nat.le_of_ble_eq_true rfl, Nat.le_of_ble_eq_true rfl⟩) 29 rfl rfl rfl hl.1 rfl (Nat.le_of_ble_eq_true rfl) dX5_wrongEvent_26 (fun H locs hC => ?_)
      refine lv_if_eq (tgt := 54) Fx.1 Fx.2.1 dX5_wrongEvent_29 (by decide) (fun hc => ?_) (fun hc => ?_)
      · replace hf := ift hc hf
        obtain ⟨v4, ev4, hf⟩ := lt_e hf
        refine lv_iinc (v := v4) (lv' := [(2, .int v4), (0, .ref (ad 29)), (1, .int x1)]) Fx.1 Fx.2.1 dX5_wrongEvent_54 hl (k := 2) rfl ev4.symm (by decide) rfl (fun ls hl => ?_)
        refine lv_goto (tgt := 4) Fx.1 Fx.2.1 dX5_wrongEvent_57 (by decide) ?_
        exact hK4 _ hf _ _ _ (lv_sub hl [1, 2, 0] rfl) hC
      · replace hf := iff_ hc hf
        exact s_TR_wrongEvent_J32 Fx hret hK4 _ _ _ _  hf _ _ _ (lv_sub hl [0, 1, 2] rfl) hC
set_option maxRecDepth 100000 in
set_option maxHeartbeats 4000000 in
theorem t_TR_wrongEvent_L4 {p : Program} {l : Launch} {e : Env} {s : State} {m : MethodId} {args : Array Value} {below : List Frame} {meth : Method} {c : Code} {Q : State → Prop} {D : va_G} {ad : Nat → Nat} {cy : Nat → ClassId} {A : Nat → Prop} {H0 : Heap} {u : Int32 × sG × sF} (Fx : CallFix p m c cX5_wrongEvent 4 s args (Cond.code yX5_wrongEvent cX5_wrongEvent 4 (some .int) :: wU) RX5) (hret : mRi p l e rm_TR_wrongEvent s m args below meth c Q D (cT cy) (cW ad cy) A H0 cX5_wrongEvent u)  (n : Nat) (z : Int32 × Int32 × sG × sF) (hz : itr (fun K z => p_TR_wrongEvent_L4 K z.1 z.2.1 z.2.2.1 z.2.2.2) n z = some u) : ∀ (ls : Array Slot) (H : Heap) (locs : List Loc), lv_has ls 4 [(0, .ref (ad 29)), (1, .int z.1), (2, .int z.2.1)] → wH D (cT cy) (cW ad cy) A H0 s z.2.2.1 z.2.2.2 H locs → W p l e rm_TR_wrongEvent s m args below meth c H locs 0 0 Q (F0 m 4 ls []) :=
  itr_all (B := fun K z => p_TR_wrongEvent_L4 K z.1 z.2.1 z.2.2.1 z.2.2.2) (r := u) (fun z => ∀ (ls : Array Slot) (H : Heap) (locs : List Loc), lv_has ls 4 [(0, .ref (ad 29)), (1, .int z.1), (2, .int z.2.1)] → wH D (cT cy) (cW ad cy) A H0 s z.2.2.1 z.2.2.2 H locs → W p l e rm_TR_wrongEvent s m args below meth c H locs 0 0 Q (F0 m 4 ls [])) (fun K hK z h => s_TR_wrongEvent_L4 (K4 := K) Fx hret hK z.1 z.2.1 z.2.2.1 z.2.2.2 h) n z hz
noncomputable def p_TR_wrongEvent  (g : sG) (f : sF) : Option (Int32 × sG × sF) := itr (fun K z => p_TR_wrongEvent_L4 K z.1 z.2.1 z.2.2.1 z.2.2.2) FUEL ((-1 : Int32), (1 : Int32), g, f)
set_option maxRecDepth 100000 in
set_option maxHeartbeats 4000000 in
theorem k_TR_wrongEvent {l : Launch} {D : va_G} {ad : Nat → Nat} {cy : Nat → ClassId}  {u : Int32 × sG × sF} {g : sG} {f : sF} (hf : p_TR_wrongEvent  g f = some u) : mMi l yX5_wrongEvent (Cond.code yX5_wrongEvent cX5_wrongEvent 4 (some .int) :: wU) rm_TR_wrongEvent D (cT cy) (cW ad cy) [.ref (ad 29)] g f u := by
  refine mk_i (by decide) rfl (Nat.le_of_ble_eq_true rfl) ?_
  intro p e s m below meth c Q A H0 Fx hret ls H locs hl hC
  replace hl : lv_has ls 4 [(0, .ref (ad 29))] := hl
  unfold p_TR_wrongEvent at hf
  refine lv_iconst (v := (-1 : Int32)) Fx.1 Fx.2.1 dX5_wrongEvent_0 (by decide) ?_
  refine lv_istore_n (lv' := [(1, .int (-1 : Int32)), (0, .ref (ad 29))]) Fx.1 Fx.2.1 dX5_wrongEvent_1 rfl hl (by decide) rfl (fun ls hl => ?_)
  refine lv_iconst (v := (1 : Int32)) Fx.1 Fx.2.1 dX5_wrongEvent_2 (by decide) ?_
  refine lv_istore_n (lv' := [(2, .int (1 : Int32)), (1, .int (-1 : Int32)), (0, .ref (ad 29))]) Fx.1 Fx.2.1 dX5_wrongEvent_3 rfl hl (by decide) rfl (fun ls hl => ?_)
  exact t_TR_wrongEvent_L4 Fx hret _ _ hf _ _ _ (lv_sub hl [2, 1, 0] rfl) hC
/-! FretHands$TabReader.surplusEvent()I -/
abbrev rm_TR_surplusEvent : Room := { frames := 4, cells := 0, slots := 0, locals := 90 }
theorem hd_TR_surplusEvent : yX5_surplusEvent.cls = RX5 ∧ yX5_surplusEvent.cls ≠ "java/lang/invoke/MethodHandle" ∧ yX5_surplusEvent.cls ≠ "java/lang/invoke/VarHandle" ∧ (parseMethodDescriptor yX5_surplusEvent.desc).map (fun d => d.parameters.length) = some 0 := by decide +kernel
noncomputable def p_TR_surplusEvent_J28 (K4 : (Int32 × Int32 × sG × sF) → Option (Int32 × sG × sF)) (x1 : Int32) (x2 : Int32) (g : sG) (f : sF) : Option (Int32 × sG × sF) := (if x1 ≤ (40 : Int32) then lt_ (x2 + (1 : Int32)) (fun v1 => K4 (x1, v1, g, f)) else Option.bind (p_TR_lowestString  g f) (fun u2 => Option.bind (p_TR_placeOf u2 x2 g f) (fun u3 => some (u3, g, f))))
set_option maxRecDepth 100000 in
set_option maxHeartbeats 4000000 in
theorem s_TR_surplusEvent_J28 {K4 : (Int32 × Int32 × sG × sF) → Option (Int32 × sG × sF)} {p : Program} {l : Launch} {e : Env} {s : State} {m : MethodId} {args : Array Value} {below : List Frame} {meth : Method} {c : Code} {Q : State → Prop} {D : va_G} {ad : Nat → Nat} {cy : Nat → ClassId} {A : Nat → Prop} {H0 : Heap} {u : Int32 × sG × sF} (Fx : CallFix p m c cX5_surplusEvent 3 s args (Cond.code yX5_surplusEvent cX5_surplusEvent 3 (some .int) :: wU) RX5) (hret : mRi p l e rm_TR_surplusEvent s m args below meth c Q D (cT cy) (cW ad cy) A H0 cX5_surplusEvent u) (hK4 : ∀ (z : Int32 × Int32 × sG × sF), K4 z = some u → ∀ (ls : Array Slot) (H : Heap) (locs : List Loc), lv_has ls 3 [(0, .ref (ad 29)), (1, .int z.1), (2, .int z.2.1)] → wH D (cT cy) (cW ad cy) A H0 s z.2.2.1 z.2.2.2 H locs → W p l e rm_TR_surplusEvent s m args below meth c H locs 0 0 Q (F0 m 4 ls [])) (x1 : Int32) (x2 : Int32) (g : sG) (f : sF) (hf : p_TR_surplusEvent_J28 K4 x1 x2 g f = some u) : ∀ (ls : Array Slot) (H : Heap) (locs : List Loc), lv_has ls 3 [(0, .ref (ad 29)), (1, .int x1), (2, .int x2)] → wH D (cT cy) (cW ad cy) A H0 s g f H locs → W p l e rm_TR_surplusEvent s m args below meth c H locs 0 0 Q (F0 m 28 ls []) := by
  intro ls H locs hl hC
  unfold p_TR_surplusEvent_J28 at hf
  refine lv_iload_n Fx.1 Fx.2.1 dX5_surplusEvent_28 rfl (lv_at hl 1 rfl) ?_
  refine lv_bipush (v := (40 : Int32)) Fx.1 Fx.2.1 dX5_surplusEvent_29 (by decide) ?_
  refine lv_icmp_le (tgt := 44) Fx.1 Fx.2.1 dX5_surplusEvent_31 (by decide) (fun hc => ?_) (fun hc => ?_)
  · replace hf := ift hc hf
    obtain ⟨v1, ev1, hf⟩ := lt_e hf
    refine lv_iinc (v := v1) (lv' := [(2, .int v1), (0, .ref (ad 29)), (1, .int x1)]) Fx.1 Fx.2.1 dX5_surplusEvent_44 hl (k := 2) rfl ev1.symm (by decide) rfl (fun ls hl => ?_)
    refine lv_goto (tgt := 4) Fx.1 Fx.2.1 dX5_surplusEvent_47 (by decide) ?_
    exact hK4 _ hf _ _ _ (lv_sub hl [1, 2, 0] rfl) hC
  · replace hf := iff_ hc hf
    refine lv_aload_n Fx.1 Fx.2.1 dX5_surplusEvent_34 rfl (lv_at hl 0 rfl) ?_
    refine lv_aload_n Fx.1 Fx.2.1 dX5_surplusEvent_35 rfl (lv_at hl 0 rfl) ?_
    obtain ⟨u2, hu2, hf⟩ := bd_e hf
    refine ca_i (As := []) (rest := [.ref (ad 29)]) Fx hC (k_TR_lowestString hu2) (cVU 0 Fx.2.2.2.2 wd_565 wd_566 wd_879 wd_9 wd_567 rfl rfl hd_TR_lowestString ⟨Nat.le_of_ble_eq_true rfl, Nat.le_of_ble_eq_true rfl⟩) 29 rfl rfl rfl hl.1 rfl (Nat.le_of_ble_eq_true rfl) dX5_surplusEvent_36 (fun H locs hC => ?_)
    refine lv_iload_n Fx.1 Fx.2.1 dX5_surplusEvent_39 rfl (lv_at hl 2 rfl) ?_
    obtain ⟨u3, hu3, hf⟩ := bd_e hf
    refine ca_i (As := [.int u2, .int x2]) (rest := []) Fx hC (k_TR_placeOf hu3) (cVU 2 Fx.2.2.2.2 wd_525 wd_526 wd_867 wd_9 wd_527 rfl rfl hd_TR_placeOf ⟨Nat.le_of_ble_eq_true rfl, Nat.le_of_ble_eq_true rfl⟩) 29 rfl rfl rfl hl.1 rfl (Nat.le_of_ble_eq_true rfl) dX5_surplusEvent_40 (fun H locs hC => ?_)
    obtain rfl := Option.some.inj hf
    exact hret _ _ _ _ dX5_surplusEvent_43 hC
noncomputable def p_TR_surplusEvent_L4 (K4 : (Int32 × Int32 × sG × sF) → Option (Int32 × sG × sF)) (x1 : Int32) (x2 : Int32) (g : sG) (f : sF) : Option (Int32 × sG × sF) := (if (g 13) ≤ x2 then some ((-1 : Int32), g, f) else Option.bind (p_TR_loadColumn x2 g f) (fun u1 => Option.bind (p_TR_lowestString  u1.1 u1.2) (fun u2 => (if u2 = (-1 : Int32) then p_TR_surplusEvent_J28 K4 x1 x2 u1.1 u1.2 else lt_ (x1 + (1 : Int32)) (fun v3 => p_TR_surplusEvent_J28 K4 v3 x2 u1.1 u1.2)))))
set_option maxRecDepth 100000 in
set_option maxHeartbeats 4000000 in
theorem s_TR_surplusEvent_L4 {K4 : (Int32 × Int32 × sG × sF) → Option (Int32 × sG × sF)} {p : Program} {l : Launch} {e : Env} {s : State} {m : MethodId} {args : Array Value} {below : List Frame} {meth : Method} {c : Code} {Q : State → Prop} {D : va_G} {ad : Nat → Nat} {cy : Nat → ClassId} {A : Nat → Prop} {H0 : Heap} {u : Int32 × sG × sF} (Fx : CallFix p m c cX5_surplusEvent 3 s args (Cond.code yX5_surplusEvent cX5_surplusEvent 3 (some .int) :: wU) RX5) (hret : mRi p l e rm_TR_surplusEvent s m args below meth c Q D (cT cy) (cW ad cy) A H0 cX5_surplusEvent u) (hK4 : ∀ (z : Int32 × Int32 × sG × sF), K4 z = some u → ∀ (ls : Array Slot) (H : Heap) (locs : List Loc), lv_has ls 3 [(0, .ref (ad 29)), (1, .int z.1), (2, .int z.2.1)] → wH D (cT cy) (cW ad cy) A H0 s z.2.2.1 z.2.2.2 H locs → W p l e rm_TR_surplusEvent s m args below meth c H locs 0 0 Q (F0 m 4 ls [])) (x1 : Int32) (x2 : Int32) (g : sG) (f : sF) (hf : p_TR_surplusEvent_L4 K4 x1 x2 g f = some u) : ∀ (ls : Array Slot) (H : Heap) (locs : List Loc), lv_has ls 3 [(0, .ref (ad 29)), (1, .int x1), (2, .int x2)] → wH D (cT cy) (cW ad cy) A H0 s g f H locs → W p l e rm_TR_surplusEvent s m args below meth c H locs 0 0 Q (F0 m 4 ls []) := by
  intro ls H locs hl hC
  unfold p_TR_surplusEvent_L4 at hf
  refine lv_iload_n Fx.1 Fx.2.1 dX5_surplusEvent_4 rfl (lv_at hl 2 rfl) ?_
  refine lv_aload_n Fx.1 Fx.2.1 dX5_surplusEvent_5 rfl (lv_at hl 0 rfl) ?_
  refine gg_TR_lineLength Fx hC wd_192 dX5_surplusEvent_6 ?_
  refine lv_icmp_ge (tgt := 50) Fx.1 Fx.2.1 dX5_surplusEvent_9 (by decide) (fun hc => ?_) (fun hc => ?_)
  · replace hf := ift hc hf
    refine lv_iconst (v := (-1 : Int32)) Fx.1 Fx.2.1 dX5_surplusEvent_50 (by decide) ?_
    obtain rfl := Option.some.inj hf
    exact hret _ _ _ _ dX5_surplusEvent_51 hC
  · replace hf := iff_ hc hf
    refine lv_aload_n Fx.1 Fx.2.1 dX5_surplusEvent_12 rfl (lv_at hl 0 rfl) ?_
    refine lv_iload_n Fx.1 Fx.2.1 dX5_surplusEvent_13 rfl (lv_at hl 2 rfl) ?_
    obtain ⟨u1, hu1, hf⟩ := bd_e hf
    refine ca_v (As := [.int x2]) (rest := []) Fx hC (k_TR_loadColumn hu1) (cVU 1 Fx.2.2.2.2 wd_552 wd_553 wd_876 wd_9 wd_554 rfl rfl hd_TR_loadColumn ⟨Nat.le_of_ble_eq_true rfl, Nat.le_of_ble_eq_true rfl⟩) 29 rfl rfl rfl hl.1 rfl (Nat.le_of_ble_eq_true rfl) dX5_surplusEvent_14 (fun H locs hC => ?_)
    refine lv_aload_n Fx.1 Fx.2.1 dX5_surplusEvent_17 rfl (lv_at hl 0 rfl) ?_
    obtain ⟨u2, hu2, hf⟩ := bd_e hf
    refine ca_i (As := []) (rest := []) Fx hC (k_TR_lowestString hu2) (cVU 0 Fx.2.2.2.2 wd_565 wd_566 wd_879 wd_9 wd_567 rfl rfl hd_TR_lowestString ⟨Nat.le_of_ble_eq_true rfl, Nat.le_of_ble_eq_true rfl⟩) 29 rfl rfl rfl hl.1 rfl (Nat.le_of_ble_eq_true rfl) dX5_surplusEvent_18 (fun H locs hC => ?_)
    refine lv_iconst (v := (-1 : Int32)) Fx.1 Fx.2.1 dX5_surplusEvent_21 (by decide) ?_
    refine lv_icmp_eq (tgt := 28) Fx.1 Fx.2.1 dX5_surplusEvent_22 (by decide) (fun hc => ?_) (fun hc => ?_)
    · replace hf := ift hc hf
      exact s_TR_surplusEvent_J28 Fx hret hK4 _ _ _ _  hf _ _ _ (lv_sub hl [0, 1, 2] rfl) hC
    · replace hf := iff_ hc hf
      obtain ⟨v3, ev3, hf⟩ := lt_e hf
      refine lv_iinc (v := v3) (lv' := [(1, .int v3), (0, .ref (ad 29)), (2, .int x2)]) Fx.1 Fx.2.1 dX5_surplusEvent_25 hl (k := 1) rfl ev3.symm (by decide) rfl (fun ls hl => ?_)
      exact s_TR_surplusEvent_J28 Fx hret hK4 _ _ _ _  hf _ _ _ (lv_sub hl [1, 0, 2] rfl) hC
set_option maxRecDepth 100000 in
set_option maxHeartbeats 4000000 in
theorem t_TR_surplusEvent_L4 {p : Program} {l : Launch} {e : Env} {s : State} {m : MethodId} {args : Array Value} {below : List Frame} {meth : Method} {c : Code} {Q : State → Prop} {D : va_G} {ad : Nat → Nat} {cy : Nat → ClassId} {A : Nat → Prop} {H0 : Heap} {u : Int32 × sG × sF} (Fx : CallFix p m c cX5_surplusEvent 3 s args (Cond.code yX5_surplusEvent cX5_surplusEvent 3 (some .int) :: wU) RX5) (hret : mRi p l e rm_TR_surplusEvent s m args below meth c Q D (cT cy) (cW ad cy) A H0 cX5_surplusEvent u)  (n : Nat) (z : Int32 × Int32 × sG × sF) (hz : itr (fun K z => p_TR_surplusEvent_L4 K z.1 z.2.1 z.2.2.1 z.2.2.2) n z = some u) : ∀ (ls : Array Slot) (H : Heap) (locs : List Loc), lv_has ls 3 [(0, .ref (ad 29)), (1, .int z.1), (2, .int z.2.1)] → wH D (cT cy) (cW ad cy) A H0 s z.2.2.1 z.2.2.2 H locs → W p l e rm_TR_surplusEvent s m args below meth c H locs 0 0 Q (F0 m 4 ls []) :=
  itr_all (B := fun K z => p_TR_surplusEvent_L4 K z.1 z.2.1 z.2.2.1 z.2.2.2) (r := u) (fun z => ∀ (ls : Array Slot) (H : Heap) (locs : List Loc), lv_has ls 3 [(0, .ref (ad 29)), (1, .int z.1), (2, .int z.2.1)] → wH D (cT cy) (cW ad cy) A H0 s z.2.2.1 z.2.2.2 H locs → W p l e rm_TR_surplusEvent s m args below meth c H locs 0 0 Q (F0 m 4 ls [])) (fun K hK z h => s_TR_surplusEvent_L4 (K4 := K) Fx hret hK z.1 z.2.1 z.2.2.1 z.2.2.2 h) n z hz
noncomputable def p_TR_surplusEvent  (g : sG) (f : sF) : Option (Int32 × sG × sF) := itr (fun K z => p_TR_surplusEvent_L4 K z.1 z.2.1 z.2.2.1 z.2.2.2) FUEL ((0 : Int32), (1 : Int32), g, f)
set_option maxRecDepth 100000 in
set_option maxHeartbeats 4000000 in
theorem k_TR_surplusEvent {l : Launch} {D : va_G} {ad : Nat → Nat} {cy : Nat → ClassId}  {u : Int32 × sG × sF} {g : sG} {f : sF} (hf : p_TR_surplusEvent  g f = some u) : mMi l yX5_surplusEvent (Cond.code yX5_surplusEvent cX5_surplusEvent 3 (some .int) :: wU) rm_TR_surplusEvent D (cT cy) (cW ad cy) [.ref (ad 29)] g f u := by
  refine mk_i (by decide) rfl (Nat.le_of_ble_eq_true rfl) ?_
  intro p e s m below meth c Q A H0 Fx hret ls H locs hl hC
  replace hl : lv_has ls 3 [(0, .ref (ad 29))] := hl
  unfold p_TR_surplusEvent at hf
  refine lv_iconst (v := (0 : Int32)) Fx.1 Fx.2.1 dX5_surplusEvent_0 (by decide) ?_
  refine lv_istore_n (lv' := [(1, .int (0 : Int32)), (0, .ref (ad 29))]) Fx.1 Fx.2.1 dX5_surplusEvent_1 rfl hl (by decide) rfl (fun ls hl => ?_)
  refine lv_iconst (v := (1 : Int32)) Fx.1 Fx.2.1 dX5_surplusEvent_2 (by decide) ?_
  refine lv_istore_n (lv' := [(2, .int (1 : Int32)), (1, .int (0 : Int32)), (0, .ref (ad 29))]) Fx.1 Fx.2.1 dX5_surplusEvent_3 rfl hl (by decide) rfl (fun ls hl => ?_)
  exact t_TR_surplusEvent_L4 Fx hret _ _ hf _ _ _ (lv_sub hl [2, 1, 0] rfl) hC
/-! FretHands$TabReader.findFault()I -/
abbrev rm_TR_findFault : Room := { frames := 5, cells := 0, slots := 0, locals := 113 }
theorem hd_TR_findFault : yX5_findFault.cls = RX5 ∧ yX5_findFault.cls ≠ "java/lang/invoke/MethodHandle" ∧ yX5_findFault.cls ≠ "java/lang/invoke/VarHandle" ∧ (parseMethodDescriptor yX5_findFault.desc).map (fun d => d.parameters.length) = some 0 := by decide +kernel
noncomputable def p_TR_findFault  (g : sG) (f : sF) : Option (Int32 × sG × sF) := Option.bind (p_TR_wrongSign  g f) (fun u1 => lt_ (upd u1.2.1 14 u1.1) (fun g2 => (if (g2 14) = (-1 : Int32) then Option.bind (p_TR_wrongNumber  g2 u1.2.2) (fun u3 => lt_ (upd g2 14 u3) (fun g4 => (if (g4 14) = (-1 : Int32) then Option.bind (p_TR_shiftedNumber  g4 u1.2.2) (fun u5 => lt_ (upd g4 14 u5) (fun g6 => (if (g6 14) = (-1 : Int32) then Option.bind (p_TR_wrongEvent  g6 u1.2.2) (fun u7 => lt_ (upd u7.2.1 14 u7.1) (fun g8 => (if (g8 14) = (-1 : Int32) then Option.bind (p_TR_surplusEvent  g8 u7.2.2) (fun u9 => lt_ (upd u9.2.1 14 u9.1) (fun g10 => (if (g10 14) = (-1 : Int32) then some ((0 : Int32), g10, u9.2.2) else some ((5 : Int32), g10, u9.2.2)))) else some ((4 : Int32), g8, u7.2.2)))) else some ((3 : Int32), g6, u1.2.2)))) else some ((2 : Int32), g4, u1.2.2)))) else some ((1 : Int32), g2, u1.2.2))))
set_option maxRecDepth 100000 in
set_option maxHeartbeats 4000000 in
theorem k_TR_findFault {l : Launch} {D : va_G} {ad : Nat → Nat} {cy : Nat → ClassId}  {u : Int32 × sG × sF} {g : sG} {f : sF} (hf : p_TR_findFault  g f = some u) : mMi l yX5_findFault (Cond.code yX5_findFault cX5_findFault 1 (some .int) :: wU) rm_TR_findFault D (cT cy) (cW ad cy) [.ref (ad 29)] g f u := by
  refine mk_i (by decide) rfl (Nat.le_of_ble_eq_true rfl) ?_
  intro p e s m below meth c Q A H0 Fx hret ls H locs hl hC
  replace hl : lv_has ls 1 [(0, .ref (ad 29))] := hl
  unfold p_TR_findFault at hf
  refine lv_aload_n Fx.1 Fx.2.1 dX5_findFault_0 rfl (lv_at hl 0 rfl) ?_
  refine lv_aload_n Fx.1 Fx.2.1 dX5_findFault_1 rfl (lv_at hl 0 rfl) ?_
  obtain ⟨u1, hu1, hf⟩ := bd_e hf
  refine ca_i (As := []) (rest := [.ref (ad 29)]) Fx hC (k_TR_wrongSign hu1) (cVU 0 Fx.2.2.2.2 wd_509 wd_510 wd_864 wd_9 wd_511 rfl rfl hd_TR_wrongSign ⟨Nat.le_of_ble_eq_true rfl, Nat.le_of_ble_eq_true rfl⟩) 29 rfl rfl rfl hl.1 rfl (Nat.le_of_ble_eq_true rfl) dX5_findFault_2 (fun H locs hC => ?_)
  obtain ⟨g2, eg2, hf⟩ := lt_e hf
  refine gp_TR_faultPlace Fx hC wd_194 eg2 dX5_findFault_5 (fun H locs hC => ?_)
  refine lv_aload_n Fx.1 Fx.2.1 dX5_findFault_8 rfl (lv_at hl 0 rfl) ?_
  refine gg_TR_faultPlace Fx hC wd_194 dX5_findFault_9 ?_
  refine lv_iconst (v := (-1 : Int32)) Fx.1 Fx.2.1 dX5_findFault_12 (by decide) ?_
  refine lv_icmp_eq (tgt := 18) Fx.1 Fx.2.1 dX5_findFault_13 (by decide) (fun hc => ?_) (fun hc => ?_)
  · replace hf := ift hc hf
    refine lv_aload_n Fx.1 Fx.2.1 dX5_findFault_18 rfl (lv_at hl 0 rfl) ?_
    refine lv_aload_n Fx.1 Fx.2.1 dX5_findFault_19 rfl (lv_at hl 0 rfl) ?_
    obtain ⟨u3, hu3, hf⟩ := bd_e hf
    refine ca_i (As := []) (rest := [.ref (ad 29)]) Fx hC (k_TR_wrongNumber hu3) (cVU 0 Fx.2.2.2.2 wd_531 wd_532 wd_869 wd_9 wd_533 rfl rfl hd_TR_wrongNumber ⟨Nat.le_of_ble_eq_true rfl, Nat.le_of_ble_eq_true rfl⟩) 29 rfl rfl rfl hl.1 rfl (Nat.le_of_ble_eq_true rfl) dX5_findFault_20 (fun H locs hC => ?_)
    obtain ⟨g4, eg4, hf⟩ := lt_e hf
    refine gp_TR_faultPlace Fx hC wd_194 eg4 dX5_findFault_23 (fun H locs hC => ?_)
    refine lv_aload_n Fx.1 Fx.2.1 dX5_findFault_26 rfl (lv_at hl 0 rfl) ?_
    refine gg_TR_faultPlace Fx hC wd_194 dX5_findFault_27 ?_
    refine lv_iconst (v := (-1 : Int32)) Fx.1 Fx.2.1 dX5_findFault_30 (by decide) ?_
    refine lv_icmp_eq (tgt := 36) Fx.1 Fx.2.1 dX5_findFault_31 (by decide) (fun hc => ?_) (fun hc => ?_)
    · replace hf := ift hc hf
      refine lv_aload_n Fx.1 Fx.2.1 dX5_findFault_36 rfl (lv_at hl 0 rfl) ?_
      refine lv_aload_n Fx.1 Fx.2.1 dX5_findFault_37 rfl (lv_at hl 0 rfl) ?_
      obtain ⟨u5, hu5, hf⟩ := bd_e hf
      refine ca_i (As := []) (rest := [.ref (ad 29)]) Fx hC (k_TR_shiftedNumber hu5) (cVU 0 Fx.2.2.2.2 wd_543 wd_544 wd_873 wd_9 wd_545 rfl rfl hd_TR_shiftedNumber ⟨Nat.le_of_ble_eq_true rfl, Nat.le_of_ble_eq_true rfl⟩) 29 rfl rfl rfl hl.1 rfl (Nat.le_of_ble_eq_true rfl) dX5_findFault_38 (fun H locs hC => ?_)
      obtain ⟨g6, eg6, hf⟩ := lt_e hf
      refine gp_TR_faultPlace Fx hC wd_194 eg6 dX5_findFault_41 (fun H locs hC => ?_)
      refine lv_aload_n Fx.1 Fx.2.1 dX5_findFault_44 rfl (lv_at hl 0 rfl) ?_
      refine gg_TR_faultPlace Fx hC wd_194 dX5_findFault_45 ?_
      refine lv_iconst (v := (-1 : Int32)) Fx.1 Fx.2.1 dX5_findFault_48 (by decide) ?_
      refine lv_icmp_eq (tgt := 54) Fx.1 Fx.2.1 dX5_findFault_49 (by decide) (fun hc => ?_) (fun hc => ?_)
      · replace hf := ift hc hf
        refine lv_aload_n Fx.1 Fx.2.1 dX5_findFault_54 rfl (lv_at hl 0 rfl) ?_
        refine lv_aload_n Fx.1 Fx.2.1 dX5_findFault_55 rfl (lv_at hl 0 rfl) ?_
        obtain ⟨u7, hu7, hf⟩ := bd_e hf
        refine ca_i (As := []) (rest := [.ref (ad 29)]) Fx hC (k_TR_wrongEvent hu7) (cVU 0 Fx.2.2.2.2 wd_549 wd_550 wd_875 wd_9 wd_551 rfl rfl hd_TR_wrongEvent ⟨Nat.le_of_ble_eq_true rfl, Nat.le_of_ble_eq_true rfl⟩) 29 rfl rfl rfl hl.1 rfl (Nat.le_of_ble_eq_true rfl) dX5_findFault_56 (fun H locs hC => ?_)
        obtain ⟨g8, eg8, hf⟩ := lt_e hf
        refine gp_TR_faultPlace Fx hC wd_194 eg8 dX5_findFault_59 (fun H locs hC => ?_)
        refine lv_aload_n Fx.1 Fx.2.1 dX5_findFault_62 rfl (lv_at hl 0 rfl) ?_
        refine gg_TR_faultPlace Fx hC wd_194 dX5_findFault_63 ?_
        refine lv_iconst (v := (-1 : Int32)) Fx.1 Fx.2.1 dX5_findFault_66 (by decide) ?_
        refine lv_icmp_eq (tgt := 72) Fx.1 Fx.2.1 dX5_findFault_67 (by decide) (fun hc => ?_) (fun hc => ?_)
        · replace hf := ift hc hf
          refine lv_aload_n Fx.1 Fx.2.1 dX5_findFault_72 rfl (lv_at hl 0 rfl) ?_
          refine lv_aload_n Fx.1 Fx.2.1 dX5_findFault_73 rfl (lv_at hl 0 rfl) ?_
          obtain ⟨u9, hu9, hf⟩ := bd_e hf
          refine ca_i (As := []) (rest := [.ref (ad 29)]) Fx hC (k_TR_surplusEvent hu9) (cVU 0 Fx.2.2.2.2 wd_568 wd_569 wd_880 wd_9 wd_570 rfl rfl hd_TR_surplusEvent ⟨Nat.le_of_ble_eq_true rfl, Nat.le_of_ble_eq_true rfl⟩) 29 rfl rfl rfl hl.1 rfl (Nat.le_of_ble_eq_true rfl) dX5_findFault_74 (fun H locs hC => ?_)
          obtain ⟨g10, eg10, hf⟩ := lt_e hf
          refine gp_TR_faultPlace Fx hC wd_194 eg10 dX5_findFault_77 (fun H locs hC => ?_)
          refine lv_aload_n Fx.1 Fx.2.1 dX5_findFault_80 rfl (lv_at hl 0 rfl) ?_
          refine gg_TR_faultPlace Fx hC wd_194 dX5_findFault_81 ?_
          refine lv_iconst (v := (-1 : Int32)) Fx.1 Fx.2.1 dX5_findFault_84 (by decide) ?_
          refine lv_icmp_eq (tgt := 92) Fx.1 Fx.2.1 dX5_findFault_85 (by decide) (fun hc => ?_) (fun hc => ?_)
          · replace hf := ift hc hf
            refine lv_iconst (v := (0 : Int32)) Fx.1 Fx.2.1 dX5_findFault_92 (by decide) ?_
            obtain rfl := Option.some.inj hf
            exact hret _ _ _ _ dX5_findFault_93 hC
          · replace hf := iff_ hc hf
            refine lv_iconst (v := (5 : Int32)) Fx.1 Fx.2.1 dX5_findFault_88 (by decide) ?_
            refine lv_goto (tgt := 93) Fx.1 Fx.2.1 dX5_findFault_89 (by decide) ?_
            obtain rfl := Option.some.inj hf
            exact hret _ _ _ _ dX5_findFault_93 hC
        · replace hf := iff_ hc hf
          refine lv_iconst (v := (4 : Int32)) Fx.1 Fx.2.1 dX5_findFault_70 (by decide) ?_
          obtain rfl := Option.some.inj hf
          exact hret _ _ _ _ dX5_findFault_71 hC
      · replace hf := iff_ hc hf
        refine lv_iconst (v := (3 : Int32)) Fx.1 Fx.2.1 dX5_findFault_52 (by decide) ?_
        obtain rfl := Option.some.inj hf
        exact hret _ _ _ _ dX5_findFault_53 hC
    · replace hf := iff_ hc hf
      refine lv_iconst (v := (2 : Int32)) Fx.1 Fx.2.1 dX5_findFault_34 (by decide) ?_
      obtain rfl := Option.some.inj hf
      exact hret _ _ _ _ dX5_findFault_35 hC
  · replace hf := iff_ hc hf
    refine lv_iconst (v := (1 : Int32)) Fx.1 Fx.2.1 dX5_findFault_16 (by decide) ?_
    obtain rfl := Option.some.inj hf
    exact hret _ _ _ _ dX5_findFault_17 hC
/-! FretHands$TabReader.takePitches()V -/
abbrev rm_TR_takePitches : Room := { frames := 1, cells := 0, slots := 0, locals := 24 }
theorem hd_TR_takePitches : yX5_takePitches.cls = RX5 ∧ yX5_takePitches.cls ≠ "java/lang/invoke/MethodHandle" ∧ yX5_takePitches.cls ≠ "java/lang/invoke/VarHandle" ∧ (parseMethodDescriptor yX5_takePitches.desc).map (fun d => d.parameters.length) = some 0 := by decide +kernel
noncomputable def p_TR_takePitches_L2 (K2 : (Int32 × sG × sF) → Option (sG × sF)) (x1 : Int32) (g : sG) (f : sF) : Option (sG × sF) := (if (g 0) ≤ x1 then some (g, f) else (if x1 < 0 ∨ 7 ≤ x1.toNatClampNeg then none else (if (f 21 x1.toNatClampNeg) = (-1 : Int32) then lt_ (x1 + (1 : Int32)) (fun v2 => K2 (v2, g, f)) else (if x1 < 0 ∨ 7 ≤ x1.toNatClampNeg then none else Option.bind (p_Tu_addPitch (f 21 x1.toNatClampNeg) x1 g f) (fun u4 => lt_ (x1 + (1 : Int32)) (fun v5 => K2 (v5, u4.2.1, u4.2.2)))))))
set_option maxRecDepth 100000 in
set_option maxHeartbeats 4000000 in
theorem s_TR_takePitches_L2 {K2 : (Int32 × sG × sF) → Option (sG × sF)} {p : Program} {l : Launch} {e : Env} {s : State} {m : MethodId} {args : Array Value} {below : List Frame} {meth : Method} {c : Code} {Q : State → Prop} {D : va_G} {ad : Nat → Nat} {cy : Nat → ClassId} {A : Nat → Prop} {H0 : Heap} {u : sG × sF} (Fx : CallFix p m c cX5_takePitches 2 s args (Cond.code yX5_takePitches cX5_takePitches 2 none :: wU) RX5) (hret : mRv p l e rm_TR_takePitches s m args below meth c Q D (cT cy) (cW ad cy) A H0 cX5_takePitches u) (hK2 : ∀ (z : Int32 × sG × sF), K2 z = some u → ∀ (ls : Array Slot) (H : Heap) (locs : List Loc), lv_has ls 2 [(0, .ref (ad 29)), (1, .int z.1)] → wH D (cT cy) (cW ad cy) A H0 s z.2.1 z.2.2 H locs → W p l e rm_TR_takePitches s m args below meth c H locs 0 0 Q (F0 m 2 ls [])) (x1 : Int32) (g : sG) (f : sF) (hf : p_TR_takePitches_L2 K2 x1 g f = some u) : ∀ (ls : Array Slot) (H : Heap) (locs : List Loc), lv_has ls 2 [(0, .ref (ad 29)), (1, .int x1)] → wH D (cT cy) (cW ad cy) A H0 s g f H locs → W p l e rm_TR_takePitches s m args below meth c H locs 0 0 Q (F0 m 2 ls []) := by
  intro ls H locs hl hC
  unfold p_TR_takePitches_L2 at hf
  refine lv_iload_n Fx.1 Fx.2.1 dX5_takePitches_2 rfl (lv_at hl 1 rfl) ?_
  refine lv_aload_n Fx.1 Fx.2.1 dX5_takePitches_3 rfl (lv_at hl 0 rfl) ?_
  refine gg_TR_instrument Fx hC wd_189 dX5_takePitches_4 ?_
  refine gg_In_strings Fx hC wd_30 dX5_takePitches_7 ?_
  refine lv_icmp_ge (tgt := 44) Fx.1 Fx.2.1 dX5_takePitches_10 (by decide) (fun hc => ?_) (fun hc => ?_)
  · replace hf := ift hc hf
    obtain rfl := Option.some.inj hf
    exact hret _ _ _ _ dX5_takePitches_44 hC
  · replace hf := iff_ hc hf
    refine lv_aload_n Fx.1 Fx.2.1 dX5_takePitches_13 rfl (lv_at hl 0 rfl) ?_
    refine gg_TR_columnPitches Fx hC wd_193 dX5_takePitches_14 ?_
    refine lv_iload_n Fx.1 Fx.2.1 dX5_takePitches_17 rfl (lv_at hl 1 rfl) ?_
    obtain ⟨hi1, hf⟩ := gd_e hf
    refine ld_TR_columnPitches Fx hC hi1 dX5_takePitches_18 ?_
    refine lv_iconst (v := (-1 : Int32)) Fx.1 Fx.2.1 dX5_takePitches_19 (by decide) ?_
    refine lv_icmp_eq (tgt := 38) Fx.1 Fx.2.1 dX5_takePitches_20 (by decide) (fun hc => ?_) (fun hc => ?_)
    · replace hf := ift hc hf
      obtain ⟨v2, ev2, hf⟩ := lt_e hf
      refine lv_iinc (v := v2) (lv' := [(1, .int v2), (0, .ref (ad 29))]) Fx.1 Fx.2.1 dX5_takePitches_38 hl (k := 1) rfl ev2.symm (by decide) rfl (fun ls hl => ?_)
      refine lv_goto (tgt := 2) Fx.1 Fx.2.1 dX5_takePitches_41 (by decide) ?_
      exact hK2 _ hf _ _ _ (lv_sub hl [1, 0] rfl) hC
    · replace hf := iff_ hc hf
      refine lv_aload_n Fx.1 Fx.2.1 dX5_takePitches_23 rfl (lv_at hl 0 rfl) ?_
      refine gg_TR_tune Fx hC wd_190 dX5_takePitches_24 ?_
      refine lv_aload_n Fx.1 Fx.2.1 dX5_takePitches_27 rfl (lv_at hl 0 rfl) ?_
      refine gg_TR_columnPitches Fx hC wd_193 dX5_takePitches_28 ?_
      refine lv_iload_n Fx.1 Fx.2.1 dX5_takePitches_31 rfl (lv_at hl 1 rfl) ?_
      obtain ⟨hi3, hf⟩ := gd_e hf
      refine ld_TR_columnPitches Fx hC hi3 dX5_takePitches_32 ?_
      refine lv_iload_n Fx.1 Fx.2.1 dX5_takePitches_33 rfl (lv_at hl 1 rfl) ?_
      obtain ⟨u4, hu4, hf⟩ := bd_e hf
      refine ca_i (As := [.int (f 21 x1.toNatClampNeg), .int x1]) (rest := []) Fx hC (k_Tu_addPitch hu4) (cVU 2 Fx.2.2.2.2 wd_579 wd_260 wd_261 wd_3 wd_262 rfl rfl hd_Tu_addPitch ⟨Nat.le_of_ble_eq_true rfl, Nat.le_of_ble_eq_true rfl⟩) 4 rfl rfl rfl hl.1 rfl (Nat.le_of_ble_eq_true rfl) dX5_takePitches_34 (fun H locs hC => ?_)
      refine lv_pop Fx.1 Fx.2.1 dX5_takePitches_37 rfl ?_
      obtain ⟨v5, ev5, hf⟩ := lt_e hf
      refine lv_iinc (v := v5) (lv' := [(1, .int v5), (0, .ref (ad 29))]) Fx.1 Fx.2.1 dX5_takePitches_38 hl (k := 1) rfl ev5.symm (by decide) rfl (fun ls hl => ?_)
      refine lv_goto (tgt := 2) Fx.1 Fx.2.1 dX5_takePitches_41 (by decide) ?_
      exact hK2 _ hf _ _ _ (lv_sub hl [1, 0] rfl) hC
set_option maxRecDepth 100000 in
set_option maxHeartbeats 4000000 in
theorem t_TR_takePitches_L2 {p : Program} {l : Launch} {e : Env} {s : State} {m : MethodId} {args : Array Value} {below : List Frame} {meth : Method} {c : Code} {Q : State → Prop} {D : va_G} {ad : Nat → Nat} {cy : Nat → ClassId} {A : Nat → Prop} {H0 : Heap} {u : sG × sF} (Fx : CallFix p m c cX5_takePitches 2 s args (Cond.code yX5_takePitches cX5_takePitches 2 none :: wU) RX5) (hret : mRv p l e rm_TR_takePitches s m args below meth c Q D (cT cy) (cW ad cy) A H0 cX5_takePitches u)  (n : Nat) (z : Int32 × sG × sF) (hz : itr (fun K z => p_TR_takePitches_L2 K z.1 z.2.1 z.2.2) n z = some u) : ∀ (ls : Array Slot) (H : Heap) (locs : List Loc), lv_has ls 2 [(0, .ref (ad 29)), (1, .int z.1)] → wH D (cT cy) (cW ad cy) A H0 s z.2.1 z.2.2 H locs → W p l e rm_TR_takePitches s m args below meth c H locs 0 0 Q (F0 m 2 ls []) :=
  itr_all (B := fun K z => p_TR_takePitches_L2 K z.1 z.2.1 z.2.2) (r := u) (fun z => ∀ (ls : Array Slot) (H : Heap) (locs : List Loc), lv_has ls 2 [(0, .ref (ad 29)), (1, .int z.1)] → wH D (cT cy) (cW ad cy) A H0 s z.2.1 z.2.2 H locs → W p l e rm_TR_takePitches s m args below meth c H locs 0 0 Q (F0 m 2 ls [])) (fun K hK z h => s_TR_takePitches_L2 (K2 := K) Fx hret hK z.1 z.2.1 z.2.2 h) n z hz
noncomputable def p_TR_takePitches  (g : sG) (f : sF) : Option (sG × sF) := itr (fun K z => p_TR_takePitches_L2 K z.1 z.2.1 z.2.2) FUEL ((0 : Int32), g, f)
set_option maxRecDepth 100000 in
set_option maxHeartbeats 4000000 in
theorem k_TR_takePitches {l : Launch} {D : va_G} {ad : Nat → Nat} {cy : Nat → ClassId}  {u : sG × sF} {g : sG} {f : sF} (hf : p_TR_takePitches  g f = some u) : mMv l yX5_takePitches (Cond.code yX5_takePitches cX5_takePitches 2 none :: wU) rm_TR_takePitches D (cT cy) (cW ad cy) [.ref (ad 29)] g f u := by
  refine mk_v (by decide) rfl (Nat.le_of_ble_eq_true rfl) ?_
  intro p e s m below meth c Q A H0 Fx hret ls H locs hl hC
  replace hl : lv_has ls 2 [(0, .ref (ad 29))] := hl
  unfold p_TR_takePitches at hf
  refine lv_iconst (v := (0 : Int32)) Fx.1 Fx.2.1 dX5_takePitches_0 (by decide) ?_
  refine lv_istore_n (lv' := [(1, .int (0 : Int32)), (0, .ref (ad 29))]) Fx.1 Fx.2.1 dX5_takePitches_1 rfl hl (by decide) rfl (fun ls hl => ?_)
  exact t_TR_takePitches_L2 Fx hret _ _ hf _ _ _ (lv_sub hl [1, 0] rfl) hC
/-! FretHands$TabReader.takeEvents()V -/
abbrev rm_TR_takeEvents : Room := { frames := 4, cells := 0, slots := 0, locals := 90 }
theorem hd_TR_takeEvents : yX5_takeEvents.cls = RX5 ∧ yX5_takeEvents.cls ≠ "java/lang/invoke/MethodHandle" ∧ yX5_takeEvents.cls ≠ "java/lang/invoke/VarHandle" ∧ (parseMethodDescriptor yX5_takeEvents.desc).map (fun d => d.parameters.length) = some 0 := by decide +kernel
noncomputable def p_TR_takeEvents_L10 (K10 : (Int32 × sG × sF) → Option (sG × sF)) (x1 : Int32) (g : sG) (f : sF) : Option (sG × sF) := (if (g 13) ≤ x1 then some (g, f) else Option.bind (p_TR_loadColumn x1 g f) (fun u1 => Option.bind (p_TR_lowestString  u1.1 u1.2) (fun u2 => (if u2 = (-1 : Int32) then lt_ (x1 + (1 : Int32)) (fun v3 => K10 (v3, u1.1, u1.2)) else Option.bind (p_Tu_addEvent  u1.1 u1.2) (fun u4 => (if u4.1 = 0 then lt_ (x1 + (1 : Int32)) (fun v5 => K10 (v5, u4.2.1, u4.2.2)) else Option.bind (p_TR_takePitches  u4.2.1 u4.2.2) (fun u6 => lt_ (x1 + (1 : Int32)) (fun v7 => K10 (v7, u6.1, u6.2)))))))))
set_option maxRecDepth 100000 in
set_option maxHeartbeats 4000000 in
theorem s_TR_takeEvents_L10 {K10 : (Int32 × sG × sF) → Option (sG × sF)} {p : Program} {l : Launch} {e : Env} {s : State} {m : MethodId} {args : Array Value} {below : List Frame} {meth : Method} {c : Code} {Q : State → Prop} {D : va_G} {ad : Nat → Nat} {cy : Nat → ClassId} {A : Nat → Prop} {H0 : Heap} {u : sG × sF} (Fx : CallFix p m c cX5_takeEvents 2 s args (Cond.code yX5_takeEvents cX5_takeEvents 2 none :: wU) RX5) (hret : mRv p l e rm_TR_takeEvents s m args below meth c Q D (cT cy) (cW ad cy) A H0 cX5_takeEvents u) (hK10 : ∀ (z : Int32 × sG × sF), K10 z = some u → ∀ (ls : Array Slot) (H : Heap) (locs : List Loc), lv_has ls 2 [(0, .ref (ad 29)), (1, .int z.1)] → wH D (cT cy) (cW ad cy) A H0 s z.2.1 z.2.2 H locs → W p l e rm_TR_takeEvents s m args below meth c H locs 0 0 Q (F0 m 10 ls [])) (x1 : Int32) (g : sG) (f : sF) (hf : p_TR_takeEvents_L10 K10 x1 g f = some u) : ∀ (ls : Array Slot) (H : Heap) (locs : List Loc), lv_has ls 2 [(0, .ref (ad 29)), (1, .int x1)] → wH D (cT cy) (cW ad cy) A H0 s g f H locs → W p l e rm_TR_takeEvents s m args below meth c H locs 0 0 Q (F0 m 10 ls []) := by
  intro ls H locs hl hC
  unfold p_TR_takeEvents_L10 at hf
  refine lv_iload_n Fx.1 Fx.2.1 dX5_takeEvents_10 rfl (lv_at hl 1 rfl) ?_
  refine lv_aload_n Fx.1 Fx.2.1 dX5_takeEvents_11 rfl (lv_at hl 0 rfl) ?_
  refine gg_TR_lineLength Fx hC wd_192 dX5_takeEvents_12 ?_
  refine lv_icmp_ge (tgt := 51) Fx.1 Fx.2.1 dX5_takeEvents_15 (by decide) (fun hc => ?_) (fun hc => ?_)
  · replace hf := ift hc hf
    obtain rfl := Option.some.inj hf
    exact hret _ _ _ _ dX5_takeEvents_51 hC
  · replace hf := iff_ hc hf
    refine lv_aload_n Fx.1 Fx.2.1 dX5_takeEvents_18 rfl (lv_at hl 0 rfl) ?_
    refine lv_iload_n Fx.1 Fx.2.1 dX5_takeEvents_19 rfl (lv_at hl 1 rfl) ?_
    obtain ⟨u1, hu1, hf⟩ := bd_e hf
    refine ca_v (As := [.int x1]) (rest := []) Fx hC (k_TR_loadColumn hu1) (cVU 1 Fx.2.2.2.2 wd_552 wd_553 wd_876 wd_9 wd_554 rfl rfl hd_TR_loadColumn ⟨Nat.le_of_ble_eq_true rfl, Nat.le_of_ble_eq_true rfl⟩) 29 rfl rfl rfl hl.1 rfl (Nat.le_of_ble_eq_true rfl) dX5_takeEvents_20 (fun H locs hC => ?_)
    refine lv_aload_n Fx.1 Fx.2.1 dX5_takeEvents_23 rfl (lv_at hl 0 rfl) ?_
    obtain ⟨u2, hu2, hf⟩ := bd_e hf
    refine ca_i (As := []) (rest := []) Fx hC (k_TR_lowestString hu2) (cVU 0 Fx.2.2.2.2 wd_565 wd_566 wd_879 wd_9 wd_567 rfl rfl hd_TR_lowestString ⟨Nat.le_of_ble_eq_true rfl, Nat.le_of_ble_eq_true rfl⟩) 29 rfl rfl rfl hl.1 rfl (Nat.le_of_ble_eq_true rfl) dX5_takeEvents_24 (fun H locs hC => ?_)
    refine lv_iconst (v := (-1 : Int32)) Fx.1 Fx.2.1 dX5_takeEvents_27 (by decide) ?_
    refine lv_icmp_eq (tgt := 45) Fx.1 Fx.2.1 dX5_takeEvents_28 (by decide) (fun hc => ?_) (fun hc => ?_)
    · replace hf := ift hc hf
      obtain ⟨v3, ev3, hf⟩ := lt_e hf
      refine lv_iinc (v := v3) (lv' := [(1, .int v3), (0, .ref (ad 29))]) Fx.1 Fx.2.1 dX5_takeEvents_45 hl (k := 1) rfl ev3.symm (by decide) rfl (fun ls hl => ?_)
      refine lv_goto (tgt := 10) Fx.1 Fx.2.1 dX5_takeEvents_48 (by decide) ?_
      exact hK10 _ hf _ _ _ (lv_sub hl [1, 0] rfl) hC
    · replace hf := iff_ hc hf
      refine lv_aload_n Fx.1 Fx.2.1 dX5_takeEvents_31 rfl (lv_at hl 0 rfl) ?_
      refine gg_TR_tune Fx hC wd_190 dX5_takeEvents_32 ?_
      obtain ⟨u4, hu4, hf⟩ := bd_e hf
      refine ca_i (As := []) (rest := []) Fx hC (k_Tu_addEvent hu4) (cVU 0 Fx.2.2.2.2 wd_575 wd_256 wd_257 wd_3 wd_258 rfl rfl hd_Tu_addEvent ⟨Nat.le_of_ble_eq_true rfl, Nat.le_of_ble_eq_true rfl⟩) 4 rfl rfl rfl hl.1 rfl (Nat.le_of_ble_eq_true rfl) dX5_takeEvents_35 (fun H locs hC => ?_)
      refine lv_if_eq (tgt := 45) Fx.1 Fx.2.1 dX5_takeEvents_38 (by decide) (fun hc => ?_) (fun hc => ?_)
      · replace hf := ift hc hf
        obtain ⟨v5, ev5, hf⟩ := lt_e hf
        refine lv_iinc (v := v5) (lv' := [(1, .int v5), (0, .ref (ad 29))]) Fx.1 Fx.2.1 dX5_takeEvents_45 hl (k := 1) rfl ev5.symm (by decide) rfl (fun ls hl => ?_)
        refine lv_goto (tgt := 10) Fx.1 Fx.2.1 dX5_takeEvents_48 (by decide) ?_
        exact hK10 _ hf _ _ _ (lv_sub hl [1, 0] rfl) hC
      · replace hf := iff_ hc hf
        refine lv_aload_n Fx.1 Fx.2.1 dX5_takeEvents_41 rfl (lv_at hl 0 rfl) ?_
        obtain ⟨u6, hu6, hf⟩ := bd_e hf
        refine ca_v (As := []) (rest := []) Fx hC (k_TR_takePitches hu6) (cVU 0 Fx.2.2.2.2 wd_576 wd_577 wd_881 wd_9 wd_578 rfl rfl hd_TR_takePitches ⟨Nat.le_of_ble_eq_true rfl, Nat.le_of_ble_eq_true rfl⟩) 29 rfl rfl rfl hl.1 rfl (Nat.le_of_ble_eq_true rfl) dX5_takeEvents_42 (fun H locs hC => ?_)
        obtain ⟨v7, ev7, hf⟩ := lt_e hf
        refine lv_iinc (v := v7) (lv' := [(1, .int v7), (0, .ref (ad 29))]) Fx.1 Fx.2.1 dX5_takeEvents_45 hl (k := 1) rfl ev7.symm (by decide) rfl (fun ls hl => ?_)
        refine lv_goto (tgt := 10) Fx.1 Fx.2.1 dX5_takeEvents_48 (by decide) ?_
        exact hK10 _ hf _ _ _ (lv_sub hl [1, 0] rfl) hC
set_option maxRecDepth 100000 in
set_option maxHeartbeats 4000000 in
theorem t_TR_takeEvents_L10 {p : Program} {l : Launch} {e : Env} {s : State} {m : MethodId} {args : Array Value} {below : List Frame} {meth : Method} {c : Code} {Q : State → Prop} {D : va_G} {ad : Nat → Nat} {cy : Nat → ClassId} {A : Nat → Prop} {H0 : Heap} {u : sG × sF} (Fx : CallFix p m c cX5_takeEvents 2 s args (Cond.code yX5_takeEvents cX5_takeEvents 2 none :: wU) RX5) (hret : mRv p l e rm_TR_takeEvents s m args below meth c Q D (cT cy) (cW ad cy) A H0 cX5_takeEvents u)  (n : Nat) (z : Int32 × sG × sF) (hz : itr (fun K z => p_TR_takeEvents_L10 K z.1 z.2.1 z.2.2) n z = some u) : ∀ (ls : Array Slot) (H : Heap) (locs : List Loc), lv_has ls 2 [(0, .ref (ad 29)), (1, .int z.1)] → wH D (cT cy) (cW ad cy) A H0 s z.2.1 z.2.2 H locs → W p l e rm_TR_takeEvents s m args below meth c H locs 0 0 Q (F0 m 10 ls []) :=
  itr_all (B := fun K z => p_TR_takeEvents_L10 K z.1 z.2.1 z.2.2) (r := u) (fun z => ∀ (ls : Array Slot) (H : Heap) (locs : List Loc), lv_has ls 2 [(0, .ref (ad 29)), (1, .int z.1)] → wH D (cT cy) (cW ad cy) A H0 s z.2.1 z.2.2 H locs → W p l e rm_TR_takeEvents s m args below meth c H locs 0 0 Q (F0 m 10 ls [])) (fun K hK z h => s_TR_takeEvents_L10 (K10 := K) Fx hret hK z.1 z.2.1 z.2.2 h) n z hz
noncomputable def p_TR_takeEvents  (g : sG) (f : sF) : Option (sG × sF) := lt_ (upd g 3 (0 : Int32)) (fun g1 => itr (fun K z => p_TR_takeEvents_L10 K z.1 z.2.1 z.2.2) FUEL ((1 : Int32), g1, f))
set_option maxRecDepth 100000 in
set_option maxHeartbeats 4000000 in
theorem k_TR_takeEvents {l : Launch} {D : va_G} {ad : Nat → Nat} {cy : Nat → ClassId}  {u : sG × sF} {g : sG} {f : sF} (hf : p_TR_takeEvents  g f = some u) : mMv l yX5_takeEvents (Cond.code yX5_takeEvents cX5_takeEvents 2 none :: wU) rm_TR_takeEvents D (cT cy) (cW ad cy) [.ref (ad 29)] g f u := by
  refine mk_v (by decide) rfl (Nat.le_of_ble_eq_true rfl) ?_
  intro p e s m below meth c Q A H0 Fx hret ls H locs hl hC
  replace hl : lv_has ls 2 [(0, .ref (ad 29))] := hl
  unfold p_TR_takeEvents at hf
  refine lv_aload_n Fx.1 Fx.2.1 dX5_takeEvents_0 rfl (lv_at hl 0 rfl) ?_
  refine gg_TR_tune Fx hC wd_190 dX5_takeEvents_1 ?_
  refine lv_iconst (v := (0 : Int32)) Fx.1 Fx.2.1 dX5_takeEvents_4 (by decide) ?_
  obtain ⟨g1, eg1, hf⟩ := lt_e hf
  refine gp_Tu_events Fx hC wd_60 eg1 dX5_takeEvents_5 (fun H locs hC => ?_)
  refine lv_iconst (v := (1 : Int32)) Fx.1 Fx.2.1 dX5_takeEvents_8 (by decide) ?_
  refine lv_istore_n (lv' := [(1, .int (1 : Int32)), (0, .ref (ad 29))]) Fx.1 Fx.2.1 dX5_takeEvents_9 rfl hl (by decide) rfl (fun ls hl => ?_)
  exact t_TR_takeEvents_L10 Fx hret _ _ hf _ _ _ (lv_sub hl [1, 0] rfl) hC
/-! FretHands.read()I -/
abbrev rm_FH_read : Room := { frames := 6, cells := 0, slots := 0, locals := 133 }
theorem hd_FH_read : yX9_read.cls = RX9 ∧ yX9_read.cls ≠ "java/lang/invoke/MethodHandle" ∧ yX9_read.cls ≠ "java/lang/invoke/VarHandle" ∧ (parseMethodDescriptor yX9_read.desc).map (fun d => d.parameters.length) = some 0 := by decide +kernel
noncomputable def p_FH_read_J39 (x1 : Int32) (g : sG) (f : sF) : Option (Int32 × sG × sF) := lt_ (upd g 12 (0 : Int32)) (fun g1 => (if x1 = 0 then some (g1 3, g1, f) else some ((-10 : Int32) - x1, g1, f)))
set_option maxRecDepth 100000 in
set_option maxHeartbeats 4000000 in
theorem s_FH_read_J39 {p : Program} {l : Launch} {e : Env} {s : State} {m : MethodId} {args : Array Value} {below : List Frame} {meth : Method} {c : Code} {Q : State → Prop} {D : va_G} {ad : Nat → Nat} {cy : Nat → ClassId} {A : Nat → Prop} {H0 : Heap} {u : Int32 × sG × sF} (Fx : CallFix p m c cX9_read 2 s args (Cond.code yX9_read cX9_read 2 (some .int) :: wU) RX9) (hret : mRi p l e rm_FH_read s m args below meth c Q D (cT cy) (cW ad cy) A H0 cX9_read u)  (x1 : Int32) (g : sG) (f : sF) (hf : p_FH_read_J39 x1 g f = some u) : ∀ (ls : Array Slot) (H : Heap) (locs : List Loc), lv_has ls 2 [(0, .ref (ad 0)), (1, .int x1)] → wH D (cT cy) (cW ad cy) A H0 s g f H locs → W p l e rm_FH_read s m args below meth c H locs 0 0 Q (F0 m 39 ls []) := by
  intro ls H locs hl hC
  unfold p_FH_read_J39 at hf
  refine lv_aload_n Fx.1 Fx.2.1 dX9_read_39 rfl (lv_at hl 0 rfl) ?_
  refine gg_FH_signs Fx hC wd_208 dX9_read_40 ?_
  refine lv_iconst (v := (0 : Int32)) Fx.1 Fx.2.1 dX9_read_43 (by decide) ?_
  obtain ⟨g1, eg1, hf⟩ := lt_e hf
  refine gp_Ta_size Fx hC wd_164 eg1 dX9_read_44 (fun H locs hC => ?_)
  refine lv_iload_n Fx.1 Fx.2.1 dX9_read_47 rfl (lv_at hl 1 rfl) ?_
  refine lv_if_ne (tgt := 61) Fx.1 Fx.2.1 dX9_read_48 (by decide) (fun hc => ?_) (fun hc => ?_)
  · replace hf := iff_ hc hf
    refine lv_bipush (v := (-10 : Int32)) Fx.1 Fx.2.1 dX9_read_61 (by decide) ?_
    refine lv_iload_n Fx.1 Fx.2.1 dX9_read_63 rfl (lv_at hl 1 rfl) ?_
    refine lv_isub Fx.1 Fx.2.1 dX9_read_64 ?_
    obtain rfl := Option.some.inj hf
    exact hret _ _ _ _ dX9_read_65 hC
  · replace hf := ift hc hf
    refine lv_aload_n Fx.1 Fx.2.1 dX9_read_51 rfl (lv_at hl 0 rfl) ?_
    refine gg_FH_tune Fx hC wd_204 dX9_read_52 ?_
    refine gg_Tu_events Fx hC wd_59 dX9_read_55 ?_
    refine lv_goto (tgt := 65) Fx.1 Fx.2.1 dX9_read_58 (by decide) ?_
    obtain rfl := Option.some.inj hf
    exact hret _ _ _ _ dX9_read_65 hC
noncomputable def p_FH_read  (g : sG) (f : sF) : Option (Int32 × sG × sF) := (if (g 0) = 0 then some ((-4 : Int32), g, f) else Option.bind (p_TR_findFault  g f) (fun u1 => (if u1.1 = 0 then Option.bind (p_TR_takeEvents  u1.2.1 u1.2.2) (fun u2 => Option.bind (p_Pl_forget  u2.1 u2.2) (fun u3 => p_FH_read_J39 u1.1 u3.1 u3.2)) else p_FH_read_J39 u1.1 u1.2.1 u1.2.2)))
set_option maxRecDepth 100000 in
set_option maxHeartbeats 4000000 in
theorem k_FH_read {l : Launch} {D : va_G} {ad : Nat → Nat} {cy : Nat → ClassId}  {u : Int32 × sG × sF} {g : sG} {f : sF} (hf : p_FH_read  g f = some u) : mMi l yX9_read (Cond.code yX9_read cX9_read 2 (some .int) :: wU) rm_FH_read D (cT cy) (cW ad cy) [.ref (ad 0)] g f u := by
  refine mk_i (by decide) rfl (Nat.le_of_ble_eq_true rfl) ?_
  intro p e s m below meth c Q A H0 Fx hret ls H locs hl hC
  replace hl : lv_has ls 2 [(0, .ref (ad 0))] := hl
  unfold p_FH_read at hf
  refine lv_aload_n Fx.1 Fx.2.1 dX9_read_0 rfl (lv_at hl 0 rfl) ?_
  refine gg_FH_instrument Fx hC wd_202 dX9_read_1 ?_
  refine gg_In_strings Fx hC wd_29 dX9_read_4 ?_
  refine lv_if_ne (tgt := 13) Fx.1 Fx.2.1 dX9_read_7 (by decide) (fun hc => ?_) (fun hc => ?_)
  · replace hf := iff_ hc hf
    refine lv_aload_n Fx.1 Fx.2.1 dX9_read_13 rfl (lv_at hl 0 rfl) ?_
    refine gg_FH_reader Fx hC wd_210 dX9_read_14 ?_
    obtain ⟨u1, hu1, hf⟩ := bd_e hf
    refine ca_i (As := []) (rest := []) Fx hC (k_TR_findFault hu1) (cVU 0 Fx.2.2.2.2 wd_505 wd_506 wd_507 wd_9 wd_508 rfl rfl hd_TR_findFault ⟨Nat.le_of_ble_eq_true rfl, Nat.le_of_ble_eq_true rfl⟩) 29 rfl rfl rfl hl.1 rfl (Nat.le_of_ble_eq_true rfl) dX9_read_17 (fun H locs hC => ?_)
    refine lv_istore_n (lv' := [(1, .int u1.1), (0, .ref (ad 0))]) Fx.1 Fx.2.1 dX9_read_20 rfl hl (by decide) rfl (fun ls hl => ?_)
    refine lv_iload_n Fx.1 Fx.2.1 dX9_read_21 rfl (lv_at hl 0 rfl) ?_
    refine lv_if_ne (tgt := 39) Fx.1 Fx.2.1 dX9_read_22 (by decide) (fun hc => ?_) (fun hc => ?_)
    · replace hf := iff_ hc hf
      exact s_FH_read_J39 Fx hret _ _ _  hf _ _ _ (lv_sub hl [1, 0] rfl) hC
    · replace hf := ift hc hf
      refine lv_aload_n Fx.1 Fx.2.1 dX9_read_25 rfl (lv_at hl 1 rfl) ?_
      refine gg_FH_reader Fx hC wd_210 dX9_read_26 ?_
      obtain ⟨u2, hu2, hf⟩ := bd_e hf
      refine ca_v (As := []) (rest := []) Fx hC (k_TR_takeEvents hu2) (cVU 0 Fx.2.2.2.2 wd_571 wd_572 wd_573 wd_9 wd_574 rfl rfl hd_TR_takeEvents ⟨Nat.le_of_ble_eq_true rfl, Nat.le_of_ble_eq_true rfl⟩) 29 rfl rfl rfl hl.1 rfl (Nat.le_of_ble_eq_true rfl) dX9_read_29 (fun H locs hC => ?_)
      refine lv_aload_n Fx.1 Fx.2.1 dX9_read_32 rfl (lv_at hl 1 rfl) ?_
      refine gg_FH_latest Fx hC wd_205 dX9_read_33 ?_
      obtain ⟨u3, hu3, hf⟩ := bd_e hf
      refine ca_v (As := []) (rest := []) Fx hC (k_Pl_forget hu3) (cVU 0 Fx.2.2.2.2 wd_228 wd_229 wd_230 wd_4 wd_231 rfl rfl hd_Pl_forget ⟨Nat.le_of_ble_eq_true rfl, Nat.le_of_ble_eq_true rfl⟩) 8 rfl rfl rfl hl.1 rfl (Nat.le_of_ble_eq_true rfl) dX9_read_36 (fun H locs hC => ?_)
      exact s_FH_read_J39 Fx hret _ _ _  hf _ _ _ (lv_sub hl [1, 0] rfl) hC
  · replace hf := ift hc hf
    refine lv_bipush (v := (-4 : Int32)) Fx.1 Fx.2.1 dX9_read_10 (by decide) ?_
    obtain rfl := Option.some.inj hf
    exact hret _ _ _ _ dX9_read_12 hC
/-! FretHands.place()I -/
abbrev rm_FH_place : Room := { frames := 0, cells := 0, slots := 0, locals := 0 }
theorem hd_FH_place : yX9_place.cls = RX9 ∧ yX9_place.cls ≠ "java/lang/invoke/MethodHandle" ∧ yX9_place.cls ≠ "java/lang/invoke/VarHandle" ∧ (parseMethodDescriptor yX9_place.desc).map (fun d => d.parameters.length) = some 0 := by decide +kernel
noncomputable def p_FH_place  (g : sG) (f : sF) : Option (Int32) := some (g 14)
set_option maxRecDepth 100000 in
set_option maxHeartbeats 4000000 in
theorem k_FH_place {l : Launch} {D : va_G} {ad : Nat → Nat} {cy : Nat → ClassId}  {r : Int32} {g : sG} {f : sF} (hf : p_FH_place  g f = some r) : mMi l yX9_place (Cond.code yX9_place cX9_place 1 (some .int) :: wU) rm_FH_place D (cT cy) (cW ad cy) [.ref (ad 0)] g f (r, g, f) := by
  refine mk_i (by decide) rfl (Nat.le_of_ble_eq_true rfl) ?_
  intro p e s m below meth c Q A H0 Fx hret ls H locs hl hC
  replace hl : lv_has ls 1 [(0, .ref (ad 0))] := hl
  unfold p_FH_place at hf
  refine lv_aload_n Fx.1 Fx.2.1 dX9_place_0 rfl (lv_at hl 0 rfl) ?_
  refine gg_FH_reader Fx hC wd_210 dX9_place_1 ?_
  refine gg_TR_faultPlace Fx hC wd_195 dX9_place_4 ?_
  obtain rfl := Option.some.inj hf
  exact hret _ _ _ _ dX9_place_7 hC
