/-! FretHands$TabWriter.writeTab()V -/
abbrev rm_TW_writeTab : Room := { frames := 5, cells := 0, slots := 0, locals := 113 }
theorem hd_TW_writeTab : yX6_writeTab.cls = RX6 ∧ yX6_writeTab.cls ≠ "java/lang/invoke/MethodHandle" ∧ yX6_writeTab.cls ≠ "java/lang/invoke/VarHandle" ∧ (parseMethodDescriptor yX6_writeTab.desc).map (fun d => d.parameters.length) = some 0 := by decide +kernel
noncomputable def p_TW_writeTab_L48 (K48 : (Int32 × sG × sF) → Option (sG × sF)) (x1 : Int32) (g : sG) (f : sF) : Option (sG × sF) := (if x1 < 0 then some (g, f) else Option.bind (p_TW_writeLine x1 g f) (fun u1 => lt_ (x1 + (-1 : Int32)) (fun v2 => K48 (v2, u1.1, u1.2))))
set_option maxRecDepth 100000 in
set_option maxHeartbeats 4000000 in
theorem s_TW_writeTab_L48 {K48 : (Int32 × sG × sF) → Option (sG × sF)} {p : Program} {l : Launch} {e : Env} {s : State} {m : MethodId} {args : Array Value} {below : List Frame} {meth : Method} {c : Code} {Q : State → Prop} {D : va_G} {ad : Nat → Nat} {cy : Nat → ClassId} {A : Nat → Prop} {H0 : Heap} {u : sG × sF} (Fx : CallFix p m c cX6_writeTab 2 s args (Cond.code yX6_writeTab cX6_writeTab 2 none :: wU) RX6) (hret : mRv p l e rm_TW_writeTab s m args below meth c Q D (cT cy) (cW ad cy) A H0 cX6_writeTab u) (hK48 : ∀ (z : Int32 × sG × sF), K48 z = some u → ∀ (ls : Array Slot) (H : Heap) (locs : List Loc), lv_has ls 2 [(0, .ref (ad 27)), (1, .int z.1)] → wH D (cT cy) (cW ad cy) A H0 s z.2.1 z.2.2 H locs → W p l e rm_TW_writeTab s m args below meth c H locs 0 0 Q (F0 m 48 ls [])) (x1 : Int32) (g : sG) (f : sF) (hf : p_TW_writeTab_L48 K48 x1 g f = some u) : ∀ (ls : Array Slot) (H : Heap) (locs : List Loc), lv_has ls 2 [(0, .ref (ad 27)), (1, .int x1)] → wH D (cT cy) (cW ad cy) A H0 s g f H locs → W p l e rm_TW_writeTab s m args below meth c H locs 0 0 Q (F0 m 48 ls []) := by
  intro ls H locs hl hC
  unfold p_TW_writeTab_L48 at hf
  refine lv_iload_n Fx.1 Fx.2.1 dX6_writeTab_48 rfl (lv_at hl 1 rfl) ?_
  refine lv_if_lt (tgt := 63) Fx.1 Fx.2.1 dX6_writeTab_49 (by decide) (fun hc => ?_) (fun hc => ?_)
  · replace hf := ift hc hf
    obtain rfl := Option.some.inj hf
    exact hret _ _ _ _ dX6_writeTab_63 hC
  · replace hf := iff_ hc hf
    refine lv_aload_n Fx.1 Fx.2.1 dX6_writeTab_52 rfl (lv_at hl 0 rfl) ?_
    refine lv_iload_n Fx.1 Fx.2.1 dX6_writeTab_53 rfl (lv_at hl 1 rfl) ?_
    obtain ⟨u1, hu1, hf⟩ := bd_e hf
    refine ca_v (As := [.int x1]) (rest := []) Fx hC (k_TW_writeLine hu1) (cVU 1 Fx.2.2.2.2 wd_494 wd_495 wd_862 wd_8 wd_496 rfl rfl hd_TW_writeLine ⟨Nat.le_of_ble_eq_true rfl, Nat.le_of_ble_eq_true rfl⟩) 27 rfl rfl rfl hl.1 rfl (Nat.le_of_ble_eq_true rfl) dX6_writeTab_54 (fun H locs hC => ?_)
    obtain ⟨v2, ev2, hf⟩ := lt_e hf
    refine lv_iinc (v := v2) (lv' := [(1, .int v2), (0, .ref (ad 27))]) Fx.1 Fx.2.1 dX6_writeTab_57 hl (k := 1) rfl ev2.symm (by decide) rfl (fun ls hl => ?_)
    refine lv_goto (tgt := 48) Fx.1 Fx.2.1 dX6_writeTab_60 (by decide) ?_
    exact hK48 _ hf _ _ _ (lv_sub hl [1, 0] rfl) hC
set_option maxRecDepth 100000 in
set_option maxHeartbeats 4000000 in
theorem t_TW_writeTab_L48 {p : Program} {l : Launch} {e : Env} {s : State} {m : MethodId} {args : Array Value} {below : List Frame} {meth : Method} {c : Code} {Q : State → Prop} {D : va_G} {ad : Nat → Nat} {cy : Nat → ClassId} {A : Nat → Prop} {H0 : Heap} {u : sG × sF} (Fx : CallFix p m c cX6_writeTab 2 s args (Cond.code yX6_writeTab cX6_writeTab 2 none :: wU) RX6) (hret : mRv p l e rm_TW_writeTab s m args below meth c Q D (cT cy) (cW ad cy) A H0 cX6_writeTab u)  (n : Nat) (z : Int32 × sG × sF) (hz : itr (fun K z => p_TW_writeTab_L48 K z.1 z.2.1 z.2.2) n z = some u) : ∀ (ls : Array Slot) (H : Heap) (locs : List Loc), lv_has ls 2 [(0, .ref (ad 27)), (1, .int z.1)] → wH D (cT cy) (cW ad cy) A H0 s z.2.1 z.2.2 H locs → W p l e rm_TW_writeTab s m args below meth c H locs 0 0 Q (F0 m 48 ls []) :=
  itr_all (B := fun K z => p_TW_writeTab_L48 K z.1 z.2.1 z.2.2) (r := u) (fun z => ∀ (ls : Array Slot) (H : Heap) (locs : List Loc), lv_has ls 2 [(0, .ref (ad 27)), (1, .int z.1)] → wH D (cT cy) (cW ad cy) A H0 s z.2.1 z.2.2 H locs → W p l e rm_TW_writeTab s m args below meth c H locs 0 0 Q (F0 m 48 ls [])) (fun K hK z h => s_TW_writeTab_L48 (K48 := K) Fx hret hK z.1 z.2.1 z.2.2 h) n z hz
noncomputable def p_TW_writeTab_L10 (K10 : (Int32 × sG × sF) → Option (sG × sF)) (x1 : Int32) (g : sG) (f : sF) : Option (sG × sF) := (if (g 3) ≤ x1 then lt_ ((g 0) - (1 : Int32)) (fun v1 => itr (fun K z => p_TW_writeTab_L48 K z.1 z.2.1 z.2.2) FUEL (v1, g, f)) else Option.bind (p_TW_longestNumber x1 g f) (fun u2 => (if x1 < 0 ∨ 40 ≤ x1.toNatClampNeg then none else lt_ (up2 f 20 x1.toNatClampNeg u2) (fun f4 => lt_ (x1 + (1 : Int32)) (fun v5 => K10 (v5, g, f4))))))
set_option maxRecDepth 100000 in
set_option maxHeartbeats 4000000 in
theorem s_TW_writeTab_L10 {K10 : (Int32 × sG × sF) → Option (sG × sF)} {p : Program} {l : Launch} {e : Env} {s : State} {m : MethodId} {args : Array Value} {below : List Frame} {meth : Method} {c : Code} {Q : State → Prop} {D : va_G} {ad : Nat → Nat} {cy : Nat → ClassId} {A : Nat → Prop} {H0 : Heap} {u : sG × sF} (Fx : CallFix p m c cX6_writeTab 2 s args (Cond.code yX6_writeTab cX6_writeTab 2 none :: wU) RX6) (hret : mRv p l e rm_TW_writeTab s m args below meth c Q D (cT cy) (cW ad cy) A H0 cX6_writeTab u) (hK10 : ∀ (z : Int32 × sG × sF), K10 z = some u → ∀ (ls : Array Slot) (H : Heap) (locs : List Loc), lv_has ls 2 [(0, .ref (ad 27)), (1, .int z.1)] → wH D (cT cy) (cW ad cy) A H0 s z.2.1 z.2.2 H locs → W p l e rm_TW_writeTab s m args below meth c H locs 0 0 Q (F0 m 10 ls [])) (x1 : Int32) (g : sG) (f : sF) (hf : p_TW_writeTab_L10 K10 x1 g f = some u) : ∀ (ls : Array Slot) (H : Heap) (locs : List Loc), lv_has ls 2 [(0, .ref (ad 27)), (1, .int x1)] → wH D (cT cy) (cW ad cy) A H0 s g f H locs → W p l e rm_TW_writeTab s m args below meth c H locs 0 0 Q (F0 m 10 ls []) := by
  intro ls H locs hl hC
  unfold p_TW_writeTab_L10 at hf
  refine lv_iload_n Fx.1 Fx.2.1 dX6_writeTab_10 rfl (lv_at hl 1 rfl) ?_
  refine lv_aload_n Fx.1 Fx.2.1 dX6_writeTab_11 rfl (lv_at hl 0 rfl) ?_
  refine gg_TW_tune Fx hC wd_174 dX6_writeTab_12 ?_
  refine gg_Tu_events Fx hC wd_58 dX6_writeTab_15 ?_
  refine lv_icmp_ge (tgt := 38) Fx.1 Fx.2.1 dX6_writeTab_18 (by decide) (fun hc => ?_) (fun hc => ?_)
  · replace hf := ift hc hf
    refine lv_aload_n Fx.1 Fx.2.1 dX6_writeTab_38 rfl (lv_at hl 0 rfl) ?_
    refine gg_TW_instrument Fx hC wd_173 dX6_writeTab_39 ?_
    refine gg_In_strings Fx hC wd_28 dX6_writeTab_42 ?_
    refine lv_iconst (v := (1 : Int32)) Fx.1 Fx.2.1 dX6_writeTab_45 (by decide) ?_
    refine lv_isub Fx.1 Fx.2.1 dX6_writeTab_46 ?_
    obtain ⟨v1, ev1, hf⟩ := lt_e hf
    refine tpi ev1 ?_
    refine lv_istore_n (lv' := [(1, .int v1), (0, .ref (ad 27))]) Fx.1 Fx.2.1 dX6_writeTab_47 rfl hl (by decide) rfl (fun ls hl => ?_)
    exact t_TW_writeTab_L48 Fx hret _ _ hf _ _ _ (lv_sub hl [1, 0] rfl) hC
  · replace hf := iff_ hc hf
    refine lv_aload_n Fx.1 Fx.2.1 dX6_writeTab_21 rfl (lv_at hl 0 rfl) ?_
    refine gg_TW_widths Fx hC wd_177 dX6_writeTab_22 ?_
    refine lv_iload_n Fx.1 Fx.2.1 dX6_writeTab_25 rfl (lv_at hl 1 rfl) ?_
    refine lv_aload_n Fx.1 Fx.2.1 dX6_writeTab_26 rfl (lv_at hl 0 rfl) ?_
    refine lv_iload_n Fx.1 Fx.2.1 dX6_writeTab_27 rfl (lv_at hl 1 rfl) ?_
    obtain ⟨u2, hu2, hf⟩ := bd_e hf
    refine ca_i (As := [.int x1]) (rest := [.int x1, .ref (ad 28)]) Fx hC (k_TW_longestNumber hu2) (cVU 1 Fx.2.2.2.2 wd_479 wd_480 wd_860 wd_8 wd_481 rfl rfl hd_TW_longestNumber ⟨Nat.le_of_ble_eq_true rfl, Nat.le_of_ble_eq_true rfl⟩) 27 rfl rfl rfl hl.1 rfl (Nat.le_of_ble_eq_true rfl) dX6_writeTab_28 (fun H locs hC => ?_)
    obtain ⟨hi3, hf⟩ := gd_e hf
    obtain ⟨f4, ef4, hf⟩ := lt_e hf
    refine st_TW_widths Fx hC hi3 ef4 dX6_writeTab_31 (fun H locs hC => ?_)
    obtain ⟨v5, ev5, hf⟩ := lt_e hf
    refine lv_iinc (v := v5) (lv' := [(1, .int v5), (0, .ref (ad 27))]) Fx.1 Fx.2.1 dX6_writeTab_32 hl (k := 1) rfl ev5.symm (by decide) rfl (fun ls hl => ?_)
    refine lv_goto (tgt := 10) Fx.1 Fx.2.1 dX6_writeTab_35 (by decide) ?_
    exact hK10 _ hf _ _ _ (lv_sub hl [1, 0] rfl) hC
set_option maxRecDepth 100000 in
set_option maxHeartbeats 4000000 in
theorem t_TW_writeTab_L10 {p : Program} {l : Launch} {e : Env} {s : State} {m : MethodId} {args : Array Value} {below : List Frame} {meth : Method} {c : Code} {Q : State → Prop} {D : va_G} {ad : Nat → Nat} {cy : Nat → ClassId} {A : Nat → Prop} {H0 : Heap} {u : sG × sF} (Fx : CallFix p m c cX6_writeTab 2 s args (Cond.code yX6_writeTab cX6_writeTab 2 none :: wU) RX6) (hret : mRv p l e rm_TW_writeTab s m args below meth c Q D (cT cy) (cW ad cy) A H0 cX6_writeTab u)  (n : Nat) (z : Int32 × sG × sF) (hz : itr (fun K z => p_TW_writeTab_L10 K z.1 z.2.1 z.2.2) n z = some u) : ∀ (ls : Array Slot) (H : Heap) (locs : List Loc), lv_has ls 2 [(0, .ref (ad 27)), (1, .int z.1)] → wH D (cT cy) (cW ad cy) A H0 s z.2.1 z.2.2 H locs → W p l e rm_TW_writeTab s m args below meth c H locs 0 0 Q (F0 m 10 ls []) :=
  itr_all (B := fun K z => p_TW_writeTab_L10 K z.1 z.2.1 z.2.2) (r := u) (fun z => ∀ (ls : Array Slot) (H : Heap) (locs : List Loc), lv_has ls 2 [(0, .ref (ad 27)), (1, .int z.1)] → wH D (cT cy) (cW ad cy) A H0 s z.2.1 z.2.2 H locs → W p l e rm_TW_writeTab s m args below meth c H locs 0 0 Q (F0 m 10 ls [])) (fun K hK z h => s_TW_writeTab_L10 (K10 := K) Fx hret hK z.1 z.2.1 z.2.2 h) n z hz
noncomputable def p_TW_writeTab  (g : sG) (f : sF) : Option (sG × sF) := lt_ (upd g 12 (0 : Int32)) (fun g1 => itr (fun K z => p_TW_writeTab_L10 K z.1 z.2.1 z.2.2) FUEL ((0 : Int32), g1, f))
set_option maxRecDepth 100000 in
set_option maxHeartbeats 4000000 in
theorem k_TW_writeTab {l : Launch} {D : va_G} {ad : Nat → Nat} {cy : Nat → ClassId}  {u : sG × sF} {g : sG} {f : sF} (hf : p_TW_writeTab  g f = some u) : mMv l yX6_writeTab (Cond.code yX6_writeTab cX6_writeTab 2 none :: wU) rm_TW_writeTab D (cT cy) (cW ad cy) [.ref (ad 27)] g f u := by
  refine mk_v (by decide) rfl (Nat.le_of_ble_eq_true rfl) ?_
  intro p e s m below meth c Q A H0 Fx hret ls H locs hl hC
  replace hl : lv_has ls 2 [(0, .ref (ad 27))] := hl
  unfold p_TW_writeTab at hf
  refine lv_aload_n Fx.1 Fx.2.1 dX6_writeTab_0 rfl (lv_at hl 0 rfl) ?_
  refine gg_TW_tape Fx hC wd_176 dX6_writeTab_1 ?_
  refine lv_iconst (v := (0 : Int32)) Fx.1 Fx.2.1 dX6_writeTab_4 (by decide) ?_
  obtain ⟨g1, eg1, hf⟩ := lt_e hf
  refine gp_Ta_size Fx hC wd_162 eg1 dX6_writeTab_5 (fun H locs hC => ?_)
  refine lv_iconst (v := (0 : Int32)) Fx.1 Fx.2.1 dX6_writeTab_8 (by decide) ?_
  refine lv_istore_n (lv' := [(1, .int (0 : Int32)), (0, .ref (ad 27))]) Fx.1 Fx.2.1 dX6_writeTab_9 rfl hl (by decide) rfl (fun ls hl => ?_)
  exact t_TW_writeTab_L10 Fx hret _ _ hf _ _ _ (lv_sub hl [1, 0] rfl) hC
/-! FretHands.write()I -/
abbrev rm_FH_write : Room := { frames := 6, cells := 0, slots := 0, locals := 134 }
theorem hd_FH_write : yX9_write.cls = RX9 ∧ yX9_write.cls ≠ "java/lang/invoke/MethodHandle" ∧ yX9_write.cls ≠ "java/lang/invoke/VarHandle" ∧ (parseMethodDescriptor yX9_write.desc).map (fun d => d.parameters.length) = some 0 := by decide +kernel
noncomputable def p_FH_write  (g : sG) (f : sF) : Option (Int32 × sG × sF) := Option.bind (p_Pl_isFound  g f) (fun u1 => (if u1 = 0 then some ((-4 : Int32), g, f) else Option.bind (p_TW_writeTab  g f) (fun u2 => some (u2.1 12, u2.1, u2.2))))
set_option maxRecDepth 100000 in
set_option maxHeartbeats 4000000 in
theorem k_FH_write {l : Launch} {D : va_G} {ad : Nat → Nat} {cy : Nat → ClassId}  {u : Int32 × sG × sF} {g : sG} {f : sF} (hf : p_FH_write  g f = some u) : mMi l yX9_write (Cond.code yX9_write cX9_write 1 (some .int) :: wU) rm_FH_write D (cT cy) (cW ad cy) [.ref (ad 0)] g f u := by
  refine mk_i (by decide) rfl (Nat.le_of_ble_eq_true rfl) ?_
  intro p e s m below meth c Q A H0 Fx hret ls H locs hl hC
  replace hl : lv_has ls 1 [(0, .ref (ad 0))] := hl
  unfold p_FH_write at hf
  refine lv_aload_n Fx.1 Fx.2.1 dX9_write_0 rfl (lv_at hl 0 rfl) ?_
  refine gg_FH_latest Fx hC wd_205 dX9_write_1 ?_
  obtain ⟨u1, hu1, hf⟩ := bd_e hf
  refine ca_i (As := []) (rest := []) Fx hC (k_Pl_isFound hu1) (cVU 0 Fx.2.2.2.2 wd_471 wd_472 wd_473 wd_4 wd_474 rfl rfl hd_Pl_isFound ⟨Nat.le_of_ble_eq_true rfl, Nat.le_of_ble_eq_true rfl⟩) 8 rfl rfl rfl hl.1 rfl (Nat.le_of_ble_eq_true rfl) dX9_write_4 (fun H locs hC => ?_)
  refine lv_if_ne (tgt := 13) Fx.1 Fx.2.1 dX9_write_7 (by decide) (fun hc => ?_) (fun hc => ?_)
  · replace hf := iff_ hc hf
    refine lv_aload_n Fx.1 Fx.2.1 dX9_write_13 rfl (lv_at hl 0 rfl) ?_
    refine gg_FH_writer Fx hC wd_209 dX9_write_14 ?_
    obtain ⟨u2, hu2, hf⟩ := bd_e hf
    refine ca_v (As := []) (rest := []) Fx hC (k_TW_writeTab hu2) (cVU 0 Fx.2.2.2.2 wd_475 wd_476 wd_477 wd_8 wd_478 rfl rfl hd_TW_writeTab ⟨Nat.le_of_ble_eq_true rfl, Nat.le_of_ble_eq_true rfl⟩) 27 rfl rfl rfl hl.1 rfl (Nat.le_of_ble_eq_true rfl) dX9_write_17 (fun H locs hC => ?_)
    refine lv_aload_n Fx.1 Fx.2.1 dX9_write_20 rfl (lv_at hl 0 rfl) ?_
    refine gg_FH_signs Fx hC wd_208 dX9_write_21 ?_
    refine gg_Ta_size Fx hC wd_164 dX9_write_24 ?_
    obtain rfl := Option.some.inj hf
    exact hret _ _ _ _ dX9_write_27 hC
  · replace hf := ift hc hf
    refine lv_bipush (v := (-4 : Int32)) Fx.1 Fx.2.1 dX9_write_10 (by decide) ?_
    obtain rfl := Option.some.inj hf
    exact hret _ _ _ _ dX9_write_12 hC
/-! FretHands$TabReader.isDigit(I)Z -/
abbrev rm_TR_isDigit : Room := { frames := 0, cells := 0, slots := 0, locals := 0 }
theorem hd_TR_isDigit : yX5_isDigit.cls ≠ "java/lang/invoke/MethodHandle" ∧ yX5_isDigit.cls ≠ "java/lang/invoke/VarHandle" ∧ (parseMethodDescriptor yX5_isDigit.desc).map (fun d => d.parameters.length) = some 1 := by decide +kernel
noncomputable def p_TR_isDigit (a1 : Int32) (g : sG) (f : sF) : Option (Int32) := (if a1 < (48 : Int32) then some (0 : Int32) else (if (57 : Int32) < a1 then some (0 : Int32) else some (1 : Int32)))
set_option maxRecDepth 100000 in
set_option maxHeartbeats 4000000 in
theorem k_TR_isDigit {l : Launch} {D : va_G} {ad : Nat → Nat} {cy : Nat → ClassId} {a1 : Int32} {r : Int32} {g : sG} {f : sF} (hf : p_TR_isDigit a1 g f = some r) : mMi l yX5_isDigit (Cond.code yX5_isDigit cX5_isDigit 1 (some .boolean) :: wU) rm_TR_isDigit D (cT cy) (cW ad cy) [.int a1] g f (r, g, f) := by
  refine mk_z (by decide) rfl (Nat.le_of_ble_eq_true rfl) ?_
  intro p e s m below meth c Q A H0 Fx hret ls H locs hl hC
  replace hl : lv_has ls 1 [(0, .int a1)] := hl
  unfold p_TR_isDigit at hf
  refine lv_iload_n Fx.1 Fx.2.1 dX5_isDigit_0 rfl (lv_at hl 0 rfl) ?_
  refine lv_bipush (v := (48 : Int32)) Fx.1 Fx.2.1 dX5_isDigit_1 (by decide) ?_
  refine lv_icmp_lt (tgt := 16) Fx.1 Fx.2.1 dX5_isDigit_3 (by decide) (fun hc => ?_) (fun hc => ?_)
  · replace hf := ift hc hf
    refine lv_iconst (v := (0 : Int32)) Fx.1 Fx.2.1 dX5_isDigit_16 (by decide) ?_
    obtain rfl := Option.some.inj hf
    exact hret _ _ _ _ dX5_isDigit_17 z01_0 hC
  · replace hf := iff_ hc hf
    refine lv_iload_n Fx.1 Fx.2.1 dX5_isDigit_6 rfl (lv_at hl 0 rfl) ?_
    refine lv_bipush (v := (57 : Int32)) Fx.1 Fx.2.1 dX5_isDigit_7 (by decide) ?_
    refine lv_icmp_gt (tgt := 16) Fx.1 Fx.2.1 dX5_isDigit_9 (by decide) (fun hc => ?_) (fun hc => ?_)
    · replace hf := ift hc hf
      refine lv_iconst (v := (0 : Int32)) Fx.1 Fx.2.1 dX5_isDigit_16 (by decide) ?_
      obtain rfl := Option.some.inj hf
      exact hret _ _ _ _ dX5_isDigit_17 z01_0 hC
    · replace hf := iff_ hc hf
      refine lv_iconst (v := (1 : Int32)) Fx.1 Fx.2.1 dX5_isDigit_12 (by decide) ?_
      refine lv_goto (tgt := 17) Fx.1 Fx.2.1 dX5_isDigit_13 (by decide) ?_
      obtain rfl := Option.some.inj hf
      exact hret _ _ _ _ dX5_isDigit_17 z01_1 hC
/-! FretHands$TabReader.isInner(I)Z -/
abbrev rm_TR_isInner : Room := { frames := 1, cells := 0, slots := 0, locals := 20 }
theorem hd_TR_isInner : yX5_isInner.cls ≠ "java/lang/invoke/MethodHandle" ∧ yX5_isInner.cls ≠ "java/lang/invoke/VarHandle" ∧ (parseMethodDescriptor yX5_isInner.desc).map (fun d => d.parameters.length) = some 1 := by decide +kernel
noncomputable def p_TR_isInner (a1 : Int32) (g : sG) (f : sF) : Option (Int32) := (if a1 = (45 : Int32) then some (1 : Int32) else Option.bind (p_TR_isDigit a1 g f) (fun u1 => (if u1 = 0 then some (0 : Int32) else some (1 : Int32))))
set_option maxRecDepth 100000 in
set_option maxHeartbeats 4000000 in
theorem k_TR_isInner {l : Launch} {D : va_G} {ad : Nat → Nat} {cy : Nat → ClassId} {a1 : Int32} {r : Int32} {g : sG} {f : sF} (hf : p_TR_isInner a1 g f = some r) : mMi l yX5_isInner (Cond.code yX5_isInner cX5_isInner 1 (some .boolean) :: wU) rm_TR_isInner D (cT cy) (cW ad cy) [.int a1] g f (r, g, f) := by
  refine mk_z (by decide) rfl (Nat.le_of_ble_eq_true rfl) ?_
  intro p e s m below meth c Q A H0 Fx hret ls H locs hl hC
  replace hl : lv_has ls 1 [(0, .int a1)] := hl
  unfold p_TR_isInner at hf
  refine lv_iload_n Fx.1 Fx.2.1 dX5_isInner_0 rfl (lv_at hl 0 rfl) ?_
  refine lv_bipush (v := (45 : Int32)) Fx.1 Fx.2.1 dX5_isInner_1 (by decide) ?_
  refine lv_icmp_eq (tgt := 13) Fx.1 Fx.2.1 dX5_isInner_3 (by decide) (fun hc => ?_) (fun hc => ?_)
  · replace hf := ift hc hf
    refine lv_iconst (v := (1 : Int32)) Fx.1 Fx.2.1 dX5_isInner_13 (by decide) ?_
    refine lv_goto (tgt := 18) Fx.1 Fx.2.1 dX5_isInner_14 (by decide) ?_
    obtain rfl := Option.some.inj hf
    exact hret _ _ _ _ dX5_isInner_18 z01_1 hC
  · replace hf := iff_ hc hf
    refine lv_iload_n Fx.1 Fx.2.1 dX5_isInner_6 rfl (lv_at hl 0 rfl) ?_
    obtain ⟨u1, hu1, hf⟩ := bd_e hf
    refine ca_s (As := [.int a1]) (rest := []) Fx hC (k_TR_isDigit hu1) (cSU 1 Fx.2.2.2.2 wd_519 wd_520 wd_9 wd_521 rfl rfl hd_TR_isDigit ⟨Nat.le_of_ble_eq_true rfl, Nat.le_of_ble_eq_true rfl⟩) rfl hl.1 rfl (Nat.le_of_ble_eq_true rfl) dX5_isInner_7 (fun H locs hC => ?_)
    refine lv_if_eq (tgt := 17) Fx.1 Fx.2.1 dX5_isInner_10 (by decide) (fun hc => ?_) (fun hc => ?_)
    · replace hf := ift hc hf
      refine lv_iconst (v := (0 : Int32)) Fx.1 Fx.2.1 dX5_isInner_17 (by decide) ?_
      obtain rfl := Option.some.inj hf
      exact hret _ _ _ _ dX5_isInner_18 z01_0 hC
    · replace hf := iff_ hc hf
      refine lv_iconst (v := (1 : Int32)) Fx.1 Fx.2.1 dX5_isInner_13 (by decide) ?_
      refine lv_goto (tgt := 18) Fx.1 Fx.2.1 dX5_isInner_14 (by decide) ?_
      obtain rfl := Option.some.inj hf
      exact hret _ _ _ _ dX5_isInner_18 z01_1 hC
/-! FretHands$TabReader.measureFirstLine()I -/
abbrev rm_TR_measureFirstLine : Room := { frames := 2, cells := 0, slots := 0, locals := 40 }
theorem hd_TR_measureFirstLine : yX5_measureFirstLine.cls = RX5 ∧ yX5_measureFirstLine.cls ≠ "java/lang/invoke/MethodHandle" ∧ yX5_measureFirstLine.cls ≠ "java/lang/invoke/VarHandle" ∧ (parseMethodDescriptor yX5_measureFirstLine.desc).map (fun d => d.parameters.length) = some 0 := by decide +kernel
noncomputable def p_TR_measureFirstLine_J48 (x1 : Int32) (g : sG) (f : sF) : Option (Int32 × sG × sF) := Option.bind (p_Ta_signAt x1 g f) (fun u1 => (if u1 = (124 : Int32) then Option.bind (p_Ta_signAt (x1 + (1 : Int32)) g f) (fun u2 => (if u2 = (10 : Int32) then lt_ (upd g 13 (x1 + (2 : Int32))) (fun g3 => some ((-1 : Int32), g3, f)) else some (x1 + (1 : Int32), g, f))) else some (x1, g, f)))
set_option maxRecDepth 100000 in
set_option maxHeartbeats 4000000 in
theorem s_TR_measureFirstLine_J48 {p : Program} {l : Launch} {e : Env} {s : State} {m : MethodId} {args : Array Value} {below : List Frame} {meth : Method} {c : Code} {Q : State → Prop} {D : va_G} {ad : Nat → Nat} {cy : Nat → ClassId} {A : Nat → Prop} {H0 : Heap} {u : Int32 × sG × sF} (Fx : CallFix p m c cX5_measureFirstLine 2 s args (Cond.code yX5_measureFirstLine cX5_measureFirstLine 2 (some .int) :: wU) RX5) (hret : mRi p l e rm_TR_measureFirstLine s m args below meth c Q D (cT cy) (cW ad cy) A H0 cX5_measureFirstLine u)  (x1 : Int32) (g : sG) (f : sF) (hf : p_TR_measureFirstLine_J48 x1 g f = some u) : ∀ (ls : Array Slot) (H : Heap) (locs : List Loc), lv_has ls 2 [(0, .ref (ad 29)), (1, .int x1)] → wH D (cT cy) (cW ad cy) A H0 s g f H locs → W p l e rm_TR_measureFirstLine s m args below meth c H locs 0 0 Q (F0 m 48 ls []) := by
  intro ls H locs hl hC
  unfold p_TR_measureFirstLine_J48 at hf
  refine lv_aload_n Fx.1 Fx.2.1 dX5_measureFirstLine_48 rfl (lv_at hl 0 rfl) ?_
  refine gg_TR_tape Fx hC wd_191 dX5_measureFirstLine_49 ?_
  refine lv_iload_n Fx.1 Fx.2.1 dX5_measureFirstLine_52 rfl (lv_at hl 1 rfl) ?_
  obtain ⟨u1, hu1, hf⟩ := bd_e hf
  refine ca_i (As := [.int x1]) (rest := []) Fx hC (k_Ta_signAt hu1) (cVU 1 Fx.2.2.2.2 wd_515 wd_460 wd_461 wd_7 wd_462 rfl rfl hd_Ta_signAt ⟨Nat.le_of_ble_eq_true rfl, Nat.le_of_ble_eq_true rfl⟩) 25 rfl rfl rfl hl.1 rfl (Nat.le_of_ble_eq_true rfl) dX5_measureFirstLine_53 (fun H locs hC => ?_)
  refine lv_bipush (v := (124 : Int32)) Fx.1 Fx.2.1 dX5_measureFirstLine_56 (by decide) ?_
  refine lv_icmp_eq (tgt := 63) Fx.1 Fx.2.1 dX5_measureFirstLine_58 (by decide) (fun hc => ?_) (fun hc => ?_)
  · replace hf := ift hc hf
    refine lv_aload_n Fx.1 Fx.2.1 dX5_measureFirstLine_63 rfl (lv_at hl 0 rfl) ?_
    refine gg_TR_tape Fx hC wd_191 dX5_measureFirstLine_64 ?_
    refine lv_iload_n Fx.1 Fx.2.1 dX5_measureFirstLine_67 rfl (lv_at hl 1 rfl) ?_
    refine lv_iconst (v := (1 : Int32)) Fx.1 Fx.2.1 dX5_measureFirstLine_68 (by decide) ?_
    refine lv_iadd Fx.1 Fx.2.1 dX5_measureFirstLine_69 ?_
    obtain ⟨u2, hu2, hf⟩ := bd_e hf
    refine ca_i (As := [.int (x1 + (1 : Int32))]) (rest := []) Fx hC (k_Ta_signAt hu2) (cVU 1 Fx.2.2.2.2 wd_515 wd_460 wd_461 wd_7 wd_462 rfl rfl hd_Ta_signAt ⟨Nat.le_of_ble_eq_true rfl, Nat.le_of_ble_eq_true rfl⟩) 25 rfl rfl rfl hl.1 rfl (Nat.le_of_ble_eq_true rfl) dX5_measureFirstLine_70 (fun H locs hC => ?_)
    refine lv_bipush (v := (10 : Int32)) Fx.1 Fx.2.1 dX5_measureFirstLine_73 (by decide) ?_
    refine lv_icmp_eq (tgt := 82) Fx.1 Fx.2.1 dX5_measureFirstLine_75 (by decide) (fun hc => ?_) (fun hc => ?_)
    · replace hf := ift hc hf
      refine lv_aload_n Fx.1 Fx.2.1 dX5_measureFirstLine_82 rfl (lv_at hl 0 rfl) ?_
      refine lv_iload_n Fx.1 Fx.2.1 dX5_measureFirstLine_83 rfl (lv_at hl 1 rfl) ?_
      refine lv_iconst (v := (2 : Int32)) Fx.1 Fx.2.1 dX5_measureFirstLine_84 (by decide) ?_
      refine lv_iadd Fx.1 Fx.2.1 dX5_measureFirstLine_85 ?_
      obtain ⟨g3, eg3, hf⟩ := lt_e hf
      refine gp_TR_lineLength Fx hC wd_192 eg3 dX5_measureFirstLine_86 (fun H locs hC => ?_)
      refine lv_iconst (v := (-1 : Int32)) Fx.1 Fx.2.1 dX5_measureFirstLine_89 (by decide) ?_
      obtain rfl := Option.some.inj hf
      exact hret _ _ _ _ dX5_measureFirstLine_90 hC
    · replace hf := iff_ hc hf
      refine lv_iload_n Fx.1 Fx.2.1 dX5_measureFirstLine_78 rfl (lv_at hl 1 rfl) ?_
      refine lv_iconst (v := (1 : Int32)) Fx.1 Fx.2.1 dX5_measureFirstLine_79 (by decide) ?_
      refine lv_iadd Fx.1 Fx.2.1 dX5_measureFirstLine_80 ?_
      obtain rfl := Option.some.inj hf
      exact hret _ _ _ _ dX5_measureFirstLine_81 hC
  · replace hf := iff_ hc hf
    refine lv_iload_n Fx.1 Fx.2.1 dX5_measureFirstLine_61 rfl (lv_at hl 1 rfl) ?_
    obtain rfl := Option.some.inj hf
    exact hret _ _ _ _ dX5_measureFirstLine_62 hC
noncomputable def p_TR_measureFirstLine_L17 (K17 : (Int32 × sG × sF) → Option (Int32 × sG × sF)) (x1 : Int32) (g : sG) (f : sF) : Option (Int32 × sG × sF) := (if (g 12) ≤ x1 then p_TR_measureFirstLine_J48 x1 g f else Option.bind (p_Ta_signAt x1 g f) (fun u1 => Option.bind (p_TR_isInner u1 g f) (fun u2 => (if u2 = 0 then p_TR_measureFirstLine_J48 x1 g f else lt_ (x1 + (1 : Int32)) (fun v3 => K17 (v3, g, f))))))
set_option maxRecDepth 100000 in
set_option maxHeartbeats 4000000 in
theorem s_TR_measureFirstLine_L17 {K17 : (Int32 × sG × sF) → Option (Int32 × sG × sF)} {p : Program} {l : Launch} {e : Env} {s : State} {m : MethodId} {args : Array Value} {below : List Frame} {meth : Method} {c : Code} {Q : State → Prop} {D : va_G} {ad : Nat → Nat} {cy : Nat → ClassId} {A : Nat → Prop} {H0 : Heap} {u : Int32 × sG × sF} (Fx : CallFix p m c cX5_measureFirstLine 2 s args (Cond.code yX5_measureFirstLine cX5_measureFirstLine 2 (some .int) :: wU) RX5) (hret : mRi p l e rm_TR_measureFirstLine s m args below meth c Q D (cT cy) (cW ad cy) A H0 cX5_measureFirstLine u) (hK17 : ∀ (z : Int32 × sG × sF), K17 z = some u → ∀ (ls : Array Slot) (H : Heap) (locs : List Loc), lv_has ls 2 [(0, .ref (ad 29)), (1, .int z.1)] → wH D (cT cy) (cW ad cy) A H0 s z.2.1 z.2.2 H locs → W p l e rm_TR_measureFirstLine s m args below meth c H locs 0 0 Q (F0 m 17 ls [])) (x1 : Int32) (g : sG) (f : sF) (hf : p_TR_measureFirstLine_L17 K17 x1 g f = some u) : ∀ (ls : Array Slot) (H : Heap) (locs : List Loc), lv_has ls 2 [(0, .ref (ad 29)), (1, .int x1)] → wH D (cT cy) (cW ad cy) A H0 s g f H locs → W p l e rm_TR_measureFirstLine s m args below meth c H locs 0 0 Q (F0 m 17 ls []) := by
  intro ls H locs hl hC
  unfold p_TR_measureFirstLine_L17 at hf
  refine lv_iload_n Fx.1 Fx.2.1 dX5_measureFirstLine_17 rfl (lv_at hl 1 rfl) ?_
  refine lv_aload_n Fx.1 Fx.2.1 dX5_measureFirstLine_18 rfl (lv_at hl 0 rfl) ?_
  refine gg_TR_tape Fx hC wd_191 dX5_measureFirstLine_19 ?_
  refine gg_Ta_size Fx hC wd_163 dX5_measureFirstLine_22 ?_
  refine lv_icmp_ge (tgt := 48) Fx.1 Fx.2.1 dX5_measureFirstLine_25 (by decide) (fun hc => ?_) (fun hc => ?_)
  · replace hf := ift hc hf
    exact s_TR_measureFirstLine_J48 Fx hret _ _ _  hf _ _ _ (lv_sub hl [0, 1] rfl) hC
  · replace hf := iff_ hc hf
    refine lv_aload_n Fx.1 Fx.2.1 dX5_measureFirstLine_28 rfl (lv_at hl 0 rfl) ?_
    refine gg_TR_tape Fx hC wd_191 dX5_measureFirstLine_29 ?_
    refine lv_iload_n Fx.1 Fx.2.1 dX5_measureFirstLine_32 rfl (lv_at hl 1 rfl) ?_
    obtain ⟨u1, hu1, hf⟩ := bd_e hf
    refine ca_i (As := [.int x1]) (rest := []) Fx hC (k_Ta_signAt hu1) (cVU 1 Fx.2.2.2.2 wd_515 wd_460 wd_461 wd_7 wd_462 rfl rfl hd_Ta_signAt ⟨Nat.le_of_ble_eq_true rfl, Nat.le_of_ble_eq_true rfl⟩) 25 rfl rfl rfl hl.1 rfl (Nat.le_of_ble_eq_true rfl) dX5_measureFirstLine_33 (fun H locs hC => ?_)
    obtain ⟨u2, hu2, hf⟩ := bd_e hf
    refine ca_s (As := [.int u1]) (rest := []) Fx hC (k_TR_isInner hu2) (cSU 1 Fx.2.2.2.2 wd_516 wd_517 wd_9 wd_518 rfl rfl hd_TR_isInner ⟨Nat.le_of_ble_eq_true rfl, Nat.le_of_ble_eq_true rfl⟩) rfl hl.1 rfl (Nat.le_of_ble_eq_true rfl) dX5_measureFirstLine_36 (fun H locs hC => ?_)
    refine lv_if_eq (tgt := 48) Fx.1 Fx.2.1 dX5_measureFirstLine_39 (by decide) (fun hc => ?_) (fun hc => ?_)
    · replace hf := ift hc hf
      exact s_TR_measureFirstLine_J48 Fx hret _ _ _  hf _ _ _ (lv_sub hl [0, 1] rfl) hC
    · replace hf := iff_ hc hf
      obtain ⟨v3, ev3, hf⟩ := lt_e hf
      refine lv_iinc (v := v3) (lv' := [(1, .int v3), (0, .ref (ad 29))]) Fx.1 Fx.2.1 dX5_measureFirstLine_42 hl (k := 1) rfl ev3.symm (by decide) rfl (fun ls hl => ?_)
      refine lv_goto (tgt := 17) Fx.1 Fx.2.1 dX5_measureFirstLine_45 (by decide) ?_
      exact hK17 _ hf _ _ _ (lv_sub hl [1, 0] rfl) hC
set_option maxRecDepth 100000 in
set_option maxHeartbeats 4000000 in
theorem t_TR_measureFirstLine_L17 {p : Program} {l : Launch} {e : Env} {s : State} {m : MethodId} {args : Array Value} {below : List Frame} {meth : Method} {c : Code} {Q : State → Prop} {D : va_G} {ad : Nat → Nat} {cy : Nat → ClassId} {A : Nat → Prop} {H0 : Heap} {u : Int32 × sG × sF} (Fx : CallFix p m c cX5_measureFirstLine 2 s args (Cond.code yX5_measureFirstLine cX5_measureFirstLine 2 (some .int) :: wU) RX5) (hret : mRi p l e rm_TR_measureFirstLine s m args below meth c Q D (cT cy) (cW ad cy) A H0 cX5_measureFirstLine u)  (n : Nat) (z : Int32 × sG × sF) (hz : itr (fun K z => p_TR_measureFirstLine_L17 K z.1 z.2.1 z.2.2) n z = some u) : ∀ (ls : Array Slot) (H : Heap) (locs : List Loc), lv_has ls 2 [(0, .ref (ad 29)), (1, .int z.1)] → wH D (cT cy) (cW ad cy) A H0 s z.2.1 z.2.2 H locs → W p l e rm_TR_measureFirstLine s m args below meth c H locs 0 0 Q (F0 m 17 ls []) :=
  itr_all (B := fun K z => p_TR_measureFirstLine_L17 K z.1 z.2.1 z.2.2) (r := u) (fun z => ∀ (ls : Array Slot) (H : Heap) (locs : List Loc), lv_has ls 2 [(0, .ref (ad 29)), (1, .int z.1)] → wH D (cT cy) (cW ad cy) A H0 s z.2.1 z.2.2 H locs → W p l e rm_TR_measureFirstLine s m args below meth c H locs 0 0 Q (F0 m 17 ls [])) (fun K hK z h => s_TR_measureFirstLine_L17 (K17 := K) Fx hret hK z.1 z.2.1 z.2.2 h) n z hz
noncomputable def p_TR_measureFirstLine  (g : sG) (f : sF) : Option (Int32 × sG × sF) := Option.bind (p_Ta_signAt (0 : Int32) g f) (fun u1 => (if u1 = (124 : Int32) then itr (fun K z => p_TR_measureFirstLine_L17 K z.1 z.2.1 z.2.2) FUEL ((1 : Int32), g, f) else some ((0 : Int32), g, f)))
set_option maxRecDepth 100000 in
set_option maxHeartbeats 4000000 in
theorem k_TR_measureFirstLine {l : Launch} {D : va_G} {ad : Nat → Nat} {cy : Nat → ClassId}  {u : Int32 × sG × sF} {g : sG} {f : sF} (hf : p_TR_measureFirstLine  g f = some u) : mMi l yX5_measureFirstLine (Cond.code yX5_measureFirstLine cX5_measureFirstLine 2 (some .int) :: wU) rm_TR_measureFirstLine D (cT cy) (cW ad cy) [.ref (ad 29)] g f u := by
  refine mk_i (by decide) rfl (Nat.le_of_ble_eq_true rfl) ?_
  intro p e s m below meth c Q A H0 Fx hret ls H locs hl hC
  replace hl : lv_has ls 2 [(0, .ref (ad 29))] := hl
  unfold p_TR_measureFirstLine at hf
  refine lv_aload_n Fx.1 Fx.2.1 dX5_measureFirstLine_0 rfl (lv_at hl 0 rfl) ?_
  refine gg_TR_tape Fx hC wd_191 dX5_measureFirstLine_1 ?_
  refine lv_iconst (v := (0 : Int32)) Fx.1 Fx.2.1 dX5_measureFirstLine_4 (by decide) ?_
  obtain ⟨u1, hu1, hf⟩ := bd_e hf
  refine ca_i (As := [.int (0 : Int32)]) (rest := []) Fx hC (k_Ta_signAt hu1) (cVU 1 Fx.2.2.2.2 wd_515 wd_460 wd_461 wd_7 wd_462 rfl rfl hd_Ta_signAt ⟨Nat.le_of_ble_eq_true rfl, Nat.le_of_ble_eq_true rfl⟩) 25 rfl rfl rfl hl.1 rfl (Nat.le_of_ble_eq_true rfl) dX5_measureFirstLine_5 (fun H locs hC => ?_)
  refine lv_bipush (v := (124 : Int32)) Fx.1 Fx.2.1 dX5_measureFirstLine_8 (by decide) ?_
  refine lv_icmp_eq (tgt := 15) Fx.1 Fx.2.1 dX5_measureFirstLine_10 (by decide) (fun hc => ?_) (fun hc => ?_)
  · replace hf := ift hc hf
    refine lv_iconst (v := (1 : Int32)) Fx.1 Fx.2.1 dX5_measureFirstLine_15 (by decide) ?_
    refine lv_istore_n (lv' := [(1, .int (1 : Int32)), (0, .ref (ad 29))]) Fx.1 Fx.2.1 dX5_measureFirstLine_16 rfl hl (by decide) rfl (fun ls hl => ?_)
    exact t_TR_measureFirstLine_L17 Fx hret _ _ hf _ _ _ (lv_sub hl [1, 0] rfl) hC
  · replace hf := iff_ hc hf
    refine lv_iconst (v := (0 : Int32)) Fx.1 Fx.2.1 dX5_measureFirstLine_13 (by decide) ?_
    obtain rfl := Option.some.inj hf
    exact hret _ _ _ _ dX5_measureFirstLine_14 hC
/-! FretHands$TabReader.placeOf(II)I -/
abbrev rm_TR_placeOf : Room := { frames := 0, cells := 0, slots := 0, locals := 0 }
theorem hd_TR_placeOf : yX5_placeOf.cls = RX5 ∧ yX5_placeOf.cls ≠ "java/lang/invoke/MethodHandle" ∧ yX5_placeOf.cls ≠ "java/lang/invoke/VarHandle" ∧ (parseMethodDescriptor yX5_placeOf.desc).map (fun d => d.parameters.length) = some 2 := by decide +kernel
noncomputable def p_TR_placeOf (a1 : Int32) (a2 : Int32) (g : sG) (f : sF) : Option (Int32) := some (((((g 0) - (1 : Int32)) - a1) * (g 13)) + a2)
set_option maxRecDepth 100000 in
set_option maxHeartbeats 4000000 in
theorem k_TR_placeOf {l : Launch} {D : va_G} {ad : Nat → Nat} {cy : Nat → ClassId} {a1 : Int32} {a2 : Int32} {r : Int32} {g : sG} {f : sF} (hf : p_TR_placeOf a1 a2 g f = some r) : mMi l yX5_placeOf (Cond.code yX5_placeOf cX5_placeOf 3 (some .int) :: wU) rm_TR_placeOf D (cT cy) (cW ad cy) [.ref (ad 29), .int a1, .int a2] g f (r, g, f) := by
  refine mk_i (by decide) rfl (Nat.le_of_ble_eq_true rfl) ?_
  intro p e s m below meth c Q A H0 Fx hret ls H locs hl hC
  replace hl : lv_has ls 3 [(0, .ref (ad 29)), (1, .int a1), (2, .int a2)] := hl
  unfold p_TR_placeOf at hf
  refine lv_aload_n Fx.1 Fx.2.1 dX5_placeOf_0 rfl (lv_at hl 0 rfl) ?_
  refine gg_TR_instrument Fx hC wd_189 dX5_placeOf_1 ?_
  refine gg_In_strings Fx hC wd_30 dX5_placeOf_4 ?_
  refine lv_iconst (v := (1 : Int32)) Fx.1 Fx.2.1 dX5_placeOf_7 (by decide) ?_
  refine lv_isub Fx.1 Fx.2.1 dX5_placeOf_8 ?_
  refine lv_iload_n Fx.1 Fx.2.1 dX5_placeOf_9 rfl (lv_at hl 1 rfl) ?_
  refine lv_isub Fx.1 Fx.2.1 dX5_placeOf_10 ?_
  refine lv_aload_n Fx.1 Fx.2.1 dX5_placeOf_11 rfl (lv_at hl 0 rfl) ?_
  refine gg_TR_lineLength Fx hC wd_192 dX5_placeOf_12 ?_
  refine lv_imul Fx.1 Fx.2.1 dX5_placeOf_15 ?_
  refine lv_iload_n Fx.1 Fx.2.1 dX5_placeOf_16 rfl (lv_at hl 2 rfl) ?_
  refine lv_iadd Fx.1 Fx.2.1 dX5_placeOf_17 ?_
  obtain rfl := Option.some.inj hf
  exact hret _ _ _ _ dX5_placeOf_18 hC
/-! FretHands$TabReader.signIn(II)I -/
abbrev rm_TR_signIn : Room := { frames := 1, cells := 0, slots := 0, locals := 22 }
theorem hd_TR_signIn : yX5_signIn.cls = RX5 ∧ yX5_signIn.cls ≠ "java/lang/invoke/MethodHandle" ∧ yX5_signIn.cls ≠ "java/lang/invoke/VarHandle" ∧ (parseMethodDescriptor yX5_signIn.desc).map (fun d => d.parameters.length) = some 2 := by decide +kernel
noncomputable def p_TR_signIn (a1 : Int32) (a2 : Int32) (g : sG) (f : sF) : Option (Int32) := Option.bind (p_TR_placeOf a1 a2 g f) (fun u1 => Option.bind (p_Ta_signAt u1 g f) (fun u2 => some u2))
set_option maxRecDepth 100000 in
set_option maxHeartbeats 4000000 in
theorem k_TR_signIn {l : Launch} {D : va_G} {ad : Nat → Nat} {cy : Nat → ClassId} {a1 : Int32} {a2 : Int32} {r : Int32} {g : sG} {f : sF} (hf : p_TR_signIn a1 a2 g f = some r) : mMi l yX5_signIn (Cond.code yX5_signIn cX5_signIn 3 (some .int) :: wU) rm_TR_signIn D (cT cy) (cW ad cy) [.ref (ad 29), .int a1, .int a2] g f (r, g, f) := by
  refine mk_i (by decide) rfl (Nat.le_of_ble_eq_true rfl) ?_
  intro p e s m below meth c Q A H0 Fx hret ls H locs hl hC
  replace hl : lv_has ls 3 [(0, .ref (ad 29)), (1, .int a1), (2, .int a2)] := hl
  unfold p_TR_signIn at hf
  refine lv_aload_n Fx.1 Fx.2.1 dX5_signIn_0 rfl (lv_at hl 0 rfl) ?_
  refine gg_TR_tape Fx hC wd_191 dX5_signIn_1 ?_
  refine lv_aload_n Fx.1 Fx.2.1 dX5_signIn_4 rfl (lv_at hl 0 rfl) ?_
  refine lv_iload_n Fx.1 Fx.2.1 dX5_signIn_5 rfl (lv_at hl 1 rfl) ?_
  refine lv_iload_n Fx.1 Fx.2.1 dX5_signIn_6 rfl (lv_at hl 2 rfl) ?_
  obtain ⟨u1, hu1, hf⟩ := bd_e hf
  refine ca_i (As := [.int a1, .int a2]) (rest := [.ref (ad 25)]) Fx hC (k_TR_placeOf hu1) (cVU 2 Fx.2.2.2.2 wd_525 wd_526 wd_867 wd_9 wd_527 rfl rfl hd_TR_placeOf ⟨Nat.le_of_ble_eq_true rfl, Nat.le_of_ble_eq_true rfl⟩) 29 rfl rfl rfl hl.1 rfl (Nat.le_of_ble_eq_true rfl) dX5_signIn_7 (fun H locs hC => ?_)
  obtain ⟨u2, hu2, hf⟩ := bd_e hf
  refine ca_i (As := [.int u1]) (rest := []) Fx hC (k_Ta_signAt hu2) (cVU 1 Fx.2.2.2.2 wd_515 wd_460 wd_461 wd_7 wd_462 rfl rfl hd_Ta_signAt ⟨Nat.le_of_ble_eq_true rfl, Nat.le_of_ble_eq_true rfl⟩) 25 rfl rfl rfl hl.1 rfl (Nat.le_of_ble_eq_true rfl) dX5_signIn_10 (fun H locs hC => ?_)
  obtain rfl := Option.some.inj hf
  exact hret _ _ _ _ dX5_signIn_13 hC
/-! FretHands$TabReader.fitsColumn(II)Z -/
abbrev rm_TR_fitsColumn : Room := { frames := 2, cells := 0, slots := 0, locals := 40 }
theorem hd_TR_fitsColumn : yX5_fitsColumn.cls = RX5 ∧ yX5_fitsColumn.cls ≠ "java/lang/invoke/MethodHandle" ∧ yX5_fitsColumn.cls ≠ "java/lang/invoke/VarHandle" ∧ (parseMethodDescriptor yX5_fitsColumn.desc).map (fun d => d.parameters.length) = some 2 := by decide +kernel
noncomputable def p_TR_fitsColumn_J36 (x1 : Int32) (g : sG) (f : sF) : Option (Int32) := (if x1 = (124 : Int32) then some (1 : Int32) else some (0 : Int32))
set_option maxRecDepth 100000 in
set_option maxHeartbeats 4000000 in
theorem s_TR_fitsColumn_J36 {p : Program} {l : Launch} {e : Env} {s : State} {m : MethodId} {args : Array Value} {below : List Frame} {meth : Method} {c : Code} {Q : State → Prop} {D : va_G} {ad : Nat → Nat} {cy : Nat → ClassId} {A : Nat → Prop} {H0 : Heap} {r : Int32} {g : sG} {f : sF} (Fx : CallFix p m c cX5_fitsColumn 3 s args (Cond.code yX5_fitsColumn cX5_fitsColumn 3 (some .boolean) :: wU) RX5) (hret : mRz p l e rm_TR_fitsColumn s m args below meth c Q D (cT cy) (cW ad cy) A H0 cX5_fitsColumn (r, g, f))  (x1 : Int32) (hf : p_TR_fitsColumn_J36 x1 g f = some r) : ∀ (ls : Array Slot) (H : Heap) (locs : List Loc), lv_has ls 3 [(1, .int x1)] → wH D (cT cy) (cW ad cy) A H0 s g f H locs → W p l e rm_TR_fitsColumn s m args below meth c H locs 0 0 Q (F0 m 36 ls []) := by
  intro ls H locs hl hC
  unfold p_TR_fitsColumn_J36 at hf
  refine lv_iload_n Fx.1 Fx.2.1 dX5_fitsColumn_36 rfl (lv_at hl 0 rfl) ?_
  refine lv_bipush (v := (124 : Int32)) Fx.1 Fx.2.1 dX5_fitsColumn_37 (by decide) ?_
  refine lv_icmp_ne (tgt := 46) Fx.1 Fx.2.1 dX5_fitsColumn_39 (by decide) (fun hc => ?_) (fun hc => ?_)
  · replace hf := iff_ hc hf
    refine lv_iconst (v := (0 : Int32)) Fx.1 Fx.2.1 dX5_fitsColumn_46 (by decide) ?_
    obtain rfl := Option.some.inj hf
    exact hret _ _ _ _ dX5_fitsColumn_47 z01_0 hC
  · replace hf := ift hc hf
    refine lv_iconst (v := (1 : Int32)) Fx.1 Fx.2.1 dX5_fitsColumn_42 (by decide) ?_
    refine lv_goto (tgt := 47) Fx.1 Fx.2.1 dX5_fitsColumn_43 (by decide) ?_
    obtain rfl := Option.some.inj hf
    exact hret _ _ _ _ dX5_fitsColumn_47 z01_1 hC
noncomputable def p_TR_fitsColumn (a1 : Int32) (a2 : Int32) (g : sG) (f : sF) : Option (Int32) := (if a2 = ((g 13) - (1 : Int32)) then (if a1 = (10 : Int32) then some (1 : Int32) else some (0 : Int32)) else (if a2 = 0 then p_TR_fitsColumn_J36 a1 g f else (if a2 = ((g 13) - (2 : Int32)) then p_TR_fitsColumn_J36 a1 g f else Option.bind (p_TR_isInner a1 g f) (fun u1 => (if ¬ u1 = 0 ∧ ¬ u1 = 1 then none else some u1)))))
set_option maxRecDepth 100000 in
set_option maxHeartbeats 4000000 in
theorem k_TR_fitsColumn {l : Launch} {D : va_G} {ad : Nat → Nat} {cy : Nat → ClassId} {a1 : Int32} {a2 : Int32} {r : Int32} {g : sG} {f : sF} (hf : p_TR_fitsColumn a1 a2 g f = some r) : mMi l yX5_fitsColumn (Cond.code yX5_fitsColumn cX5_fitsColumn 3 (some .boolean) :: wU) rm_TR_fitsColumn D (cT cy) (cW ad cy) [.ref (ad 29), .int a1, .int a2] g f (r, g, f) := by
  refine mk_z (by decide) rfl (Nat.le_of_ble_eq_true rfl) ?_
  intro p e s m below meth c Q A H0 Fx hret ls H locs hl hC
  replace hl : lv_has ls 3 [(0, .ref (ad 29)), (1, .int a1), (2, .int a2)] := hl
  unfold p_TR_fitsColumn at hf
  refine lv_iload_n Fx.1 Fx.2.1 dX5_fitsColumn_0 rfl (lv_at hl 2 rfl) ?_
  refine lv_aload_n Fx.1 Fx.2.1 dX5_fitsColumn_1 rfl (lv_at hl 0 rfl) ?_
  refine gg_TR_lineLength Fx hC wd_192 dX5_fitsColumn_2 ?_
  refine lv_iconst (v := (1 : Int32)) Fx.1 Fx.2.1 dX5_fitsColumn_5 (by decide) ?_
  refine lv_isub Fx.1 Fx.2.1 dX5_fitsColumn_6 ?_
  refine lv_icmp_ne (tgt := 22) Fx.1 Fx.2.1 dX5_fitsColumn_7 (by decide) (fun hc => ?_) (fun hc => ?_)
  · replace hf := iff_ hc hf
    refine lv_iload_n Fx.1 Fx.2.1 dX5_fitsColumn_22 rfl (lv_at hl 2 rfl) ?_
    refine lv_if_eq (tgt := 36) Fx.1 Fx.2.1 dX5_fitsColumn_23 (by decide) (fun hc => ?_) (fun hc => ?_)
    · replace hf := ift hc hf
      exact s_TR_fitsColumn_J36 Fx hret _  hf _ _ _ (lv_sub hl [1] rfl) hC
    · replace hf := iff_ hc hf
      refine lv_iload_n Fx.1 Fx.2.1 dX5_fitsColumn_26 rfl (lv_at hl 2 rfl) ?_
      refine lv_aload_n Fx.1 Fx.2.1 dX5_fitsColumn_27 rfl (lv_at hl 0 rfl) ?_
      refine gg_TR_lineLength Fx hC wd_192 dX5_fitsColumn_28 ?_
      refine lv_iconst (v := (2 : Int32)) Fx.1 Fx.2.1 dX5_fitsColumn_31 (by decide) ?_
      refine lv_isub Fx.1 Fx.2.1 dX5_fitsColumn_32 ?_
      refine lv_icmp_ne (tgt := 48) Fx.1 Fx.2.1 dX5_fitsColumn_33 (by decide) (fun hc => ?_) (fun hc => ?_)
      · replace hf := iff_ hc hf
        refine lv_iload_n Fx.1 Fx.2.1 dX5_fitsColumn_48 rfl (lv_at hl 1 rfl) ?_
        obtain ⟨u1, hu1, hf⟩ := bd_e hf
        refine ca_s (As := [.int a1]) (rest := []) Fx hC (k_TR_isInner hu1) (cSU 1 Fx.2.2.2.2 wd_516 wd_517 wd_9 wd_518 rfl rfl hd_TR_isInner ⟨Nat.le_of_ble_eq_true rfl, Nat.le_of_ble_eq_true rfl⟩) rfl hl.1 rfl (Nat.le_of_ble_eq_true rfl) dX5_fitsColumn_49 (fun H locs hC => ?_)
        obtain ⟨hz, hf⟩ := gd_e hf
        obtain rfl := Option.some.inj hf
        exact hret _ _ _ _ dX5_fitsColumn_52 hz hC
      · replace hf := ift hc hf
        exact s_TR_fitsColumn_J36 Fx hret _  hf _ _ _ (lv_sub hl [1] rfl) hC
  · replace hf := ift hc hf
    refine lv_iload_n Fx.1 Fx.2.1 dX5_fitsColumn_10 rfl (lv_at hl 1 rfl) ?_
    refine lv_bipush (v := (10 : Int32)) Fx.1 Fx.2.1 dX5_fitsColumn_11 (by decide) ?_
    refine lv_icmp_ne (tgt := 20) Fx.1 Fx.2.1 dX5_fitsColumn_13 (by decide) (fun hc => ?_) (fun hc => ?_)
    · replace hf := iff_ hc hf
      refine lv_iconst (v := (0 : Int32)) Fx.1 Fx.2.1 dX5_fitsColumn_20 (by decide) ?_
      obtain rfl := Option.some.inj hf
      exact hret _ _ _ _ dX5_fitsColumn_21 z01_0 hC
    · replace hf := ift hc hf
      refine lv_iconst (v := (1 : Int32)) Fx.1 Fx.2.1 dX5_fitsColumn_16 (by decide) ?_
      refine lv_goto (tgt := 21) Fx.1 Fx.2.1 dX5_fitsColumn_17 (by decide) ?_
      obtain rfl := Option.some.inj hf
      exact hret _ _ _ _ dX5_fitsColumn_21 z01_1 hC
/-! FretHands$TabReader.wrongSign()I -/
abbrev rm_TR_wrongSign : Room := { frames := 3, cells := 0, slots := 0, locals := 62 }
theorem hd_TR_wrongSign : yX5_wrongSign.cls = RX5 ∧ yX5_wrongSign.cls ≠ "java/lang/invoke/MethodHandle" ∧ yX5_wrongSign.cls ≠ "java/lang/invoke/VarHandle" ∧ (parseMethodDescriptor yX5_wrongSign.desc).map (fun d => d.parameters.length) = some 0 := by decide +kernel
noncomputable def p_TR_wrongSign_L28 (K22 : (Int32 × sG × sF) → Option (Int32 × sG × sF)) (K28 : (Int32 × Int32 × sG × sF) → Option (Int32 × sG × sF)) (x2 : Int32) (x3 : Int32) (g : sG) (f : sF) : Option (Int32 × sG × sF) := (if (g 13) ≤ x3 then lt_ (x2 + (-1 : Int32)) (fun v1 => K22 (v1, g, f)) else Option.bind (p_TR_signIn x2 x3 g f) (fun u2 => Option.bind (p_TR_fitsColumn u2 x3 g f) (fun u3 => (if u3 = 0 then Option.bind (p_TR_placeOf x2 x3 g f) (fun u5 => some (u5, g, f)) else lt_ (x3 + (1 : Int32)) (fun v4 => K28 (x2, v4, g, f))))))
set_option maxRecDepth 100000 in
set_option maxHeartbeats 4000000 in
theorem s_TR_wrongSign_L28 {K22 : (Int32 × sG × sF) → Option (Int32 × sG × sF)} {K28 : (Int32 × Int32 × sG × sF) → Option (Int32 × sG × sF)} {p : Program} {l : Launch} {e : Env} {s : State} {m : MethodId} {args : Array Value} {below : List Frame} {meth : Method} {c : Code} {Q : State → Prop} {D : va_G} {ad : Nat → Nat} {cy : Nat → ClassId} {A : Nat → Prop} {H0 : Heap} {u : Int32 × sG × sF} (Fx : CallFix p m c cX5_wrongSign 4 s args (Cond.code yX5_wrongSign cX5_wrongSign 4 (some .int) :: wU) RX5) (hret : mRi p l e rm_TR_wrongSign s m args below meth c Q D (cT cy) (cW ad cy) A H0 cX5_wrongSign u) (hK22 : ∀ (z : Int32 × sG × sF), K22 z = some u → ∀ (ls : Array Slot) (H : Heap) (locs : List Loc), lv_has ls 4 [(0, .ref (ad 29)), (2, .int z.1)] → wH D (cT cy) (cW ad cy) A H0 s z.2.1 z.2.2 H locs → W p l e rm_TR_wrongSign s m args below meth c H locs 0 0 Q (F0 m 22 ls [])) (hK28 : ∀ (z : Int32 × Int32 × sG × sF), K28 z = some u → ∀ (ls : Array Slot) (H : Heap) (locs : List Loc), lv_has ls 4 [(0, .ref (ad 29)), (2, .int z.1), (3, .int z.2.1)] → wH D (cT cy) (cW ad cy) A H0 s z.2.2.1 z.2.2.2 H locs → W p l e rm_TR_wrongSign s m args below meth c H locs 0 0 Q (F0 m 28 ls [])) (x2 : Int32) (x3 : Int32) (g : sG) (f : sF) (hf : p_TR_wrongSign_L28 K22 K28 x2 x3 g f = some u) : ∀ (ls : Array Slot) (H : Heap) (locs : List Loc), lv_has ls 4 [(0, .ref (ad 29)), (2, .int x2), (3, .int x3)] → wH D (cT cy) (cW ad cy) A H0 s g f H locs → W p l e rm_TR_wrongSign s m args below meth c H locs 0 0 Q (F0 m 28 ls []) := by
  intro ls H locs hl hC
  unfold p_TR_wrongSign_L28 at hf
  refine lv_iload_n Fx.1 Fx.2.1 dX5_wrongSign_28 rfl (lv_at hl 2 rfl) ?_
  refine lv_aload_n Fx.1 Fx.2.1 dX5_wrongSign_29 rfl (lv_at hl 0 rfl) ?_
  refine gg_TR_lineLength Fx hC wd_192 dX5_wrongSign_30 ?_
  refine lv_icmp_ge (tgt := 63) Fx.1 Fx.2.1 dX5_wrongSign_33 (by decide) (fun hc => ?_) (fun hc => ?_)
  · replace hf := ift hc hf
    obtain ⟨v1, ev1, hf⟩ := lt_e hf
    refine lv_iinc (v := v1) (lv' := [(2, .int v1), (0, .ref (ad 29)), (3, .int x3)]) Fx.1 Fx.2.1 dX5_wrongSign_63 hl (k := 1) rfl ev1.symm (by decide) rfl (fun ls hl => ?_)
    refine lv_goto (tgt := 22) Fx.1 Fx.2.1 dX5_wrongSign_66 (by decide) ?_
    exact hK22 _ hf _ _ _ (lv_sub hl [1, 0] rfl) hC
  · replace hf := iff_ hc hf
    refine lv_aload_n Fx.1 Fx.2.1 dX5_wrongSign_36 rfl (lv_at hl 0 rfl) ?_
    refine lv_aload_n Fx.1 Fx.2.1 dX5_wrongSign_37 rfl (lv_at hl 0 rfl) ?_
    refine lv_iload_n Fx.1 Fx.2.1 dX5_wrongSign_38 rfl (lv_at hl 1 rfl) ?_
    refine lv_iload_n Fx.1 Fx.2.1 dX5_wrongSign_39 rfl (lv_at hl 2 rfl) ?_
    obtain ⟨u2, hu2, hf⟩ := bd_e hf
    refine ca_i (As := [.int x2, .int x3]) (rest := [.ref (ad 29)]) Fx hC (k_TR_signIn hu2) (cVU 2 Fx.2.2.2.2 wd_522 wd_523 wd_866 wd_9 wd_524 rfl rfl hd_TR_signIn ⟨Nat.le_of_ble_eq_true rfl, Nat.le_of_ble_eq_true rfl⟩) 29 rfl rfl rfl hl.1 rfl (Nat.le_of_ble_eq_true rfl) dX5_wrongSign_40 (fun H locs hC => ?_)
    refine lv_iload_n Fx.1 Fx.2.1 dX5_wrongSign_43 rfl (lv_at hl 2 rfl) ?_
    obtain ⟨u3, hu3, hf⟩ := bd_e hf
    refine ca_i (As := [.int u2, .int x3]) (rest := []) Fx hC (k_TR_fitsColumn hu3) (cVU 2 Fx.2.2.2.2 wd_528 wd_529 wd_868 wd_9 wd_530 rfl rfl hd_TR_fitsColumn ⟨Nat.le_of_ble_eq_true rfl, Nat.le_of_ble_eq_true rfl⟩) 29 rfl rfl rfl hl.1 rfl (Nat.le_of_ble_eq_true rfl) dX5_wrongSign_44 (fun H locs hC => ?_)
    refine lv_if_ne (tgt := 57) Fx.1 Fx.2.1 dX5_wrongSign_47 (by decide) (fun hc => ?_) (fun hc => ?_)
    · replace hf := iff_ hc hf
      obtain ⟨v4, ev4, hf⟩ := lt_e hf
      refine lv_iinc (v := v4) (lv' := [(3, .int v4), (0, .ref (ad 29)), (2, .int x2)]) Fx.1 Fx.2.1 dX5_wrongSign_57 hl (k := 2) rfl ev4.symm (by decide) rfl (fun ls hl => ?_)
      refine lv_goto (tgt := 28) Fx.1 Fx.2.1 dX5_wrongSign_60 (by decide) ?_
      exact hK28 _ hf _ _ _ (lv_sub hl [1, 2, 0] rfl) hC
    · replace hf := ift hc hf
      refine lv_aload_n Fx.1 Fx.2.1 dX5_wrongSign_50 rfl (lv_at hl 0 rfl) ?_
      refine lv_iload_n Fx.1 Fx.2.1 dX5_wrongSign_51 rfl (lv_at hl 1 rfl) ?_
      refine lv_iload_n Fx.1 Fx.2.1 dX5_wrongSign_52 rfl (lv_at hl 2 rfl) ?_
      obtain ⟨u5, hu5, hf⟩ := bd_e hf
      refine ca_i (As := [.int x2, .int x3]) (rest := []) Fx hC (k_TR_placeOf hu5) (cVU 2 Fx.2.2.2.2 wd_525 wd_526 wd_867 wd_9 wd_527 rfl rfl hd_TR_placeOf ⟨Nat.le_of_ble_eq_true rfl, Nat.le_of_ble_eq_true rfl⟩) 29 rfl rfl rfl hl.1 rfl (Nat.le_of_ble_eq_true rfl) dX5_wrongSign_53 (fun H locs hC => ?_)
      obtain rfl := Option.some.inj hf
      exact hret _ _ _ _ dX5_wrongSign_56 hC
set_option maxRecDepth 100000 in
set_option maxHeartbeats 4000000 in
theorem t_TR_wrongSign_L28 {K22 : (Int32 × sG × sF) → Option (Int32 × sG × sF)} {p : Program} {l : Launch} {e : Env} {s : State} {m : MethodId} {args : Array Value} {below : List Frame} {meth : Method} {c : Code} {Q : State → Prop} {D : va_G} {ad : Nat → Nat} {cy : Nat → ClassId} {A : Nat → Prop} {H0 : Heap} {u : Int32 × sG × sF} (Fx : CallFix p m c cX5_wrongSign 4 s args (Cond.code yX5_wrongSign cX5_wrongSign 4 (some .int) :: wU) RX5) (hret : mRi p l e rm_TR_wrongSign s m args below meth c Q D (cT cy) (cW ad cy) A H0 cX5_wrongSign u) (hK22 : ∀ (z : Int32 × sG × sF), K22 z = some u → ∀ (ls : Array Slot) (H : Heap) (locs : List Loc), lv_has ls 4 [(0, .ref (ad 29)), (2, .int z.1)] → wH D (cT cy) (cW ad cy) A H0 s z.2.1 z.2.2 H locs → W p l e rm_TR_wrongSign s m args below meth c H locs 0 0 Q (F0 m 22 ls [])) (n : Nat) (z : Int32 × Int32 × sG × sF) (hz : itr (fun K z => p_TR_wrongSign_L28 K22 K z.1 z.2.1 z.2.2.1 z.2.2.2) n z = some u) : ∀ (ls : Array Slot) (H : Heap) (locs : List Loc), lv_has ls 4 [(0, .ref (ad 29)), (2, .int z.1), (3, .int z.2.1)] → wH D (cT cy) (cW ad cy) A H0 s z.2.2.1 z.2.2.2 H locs → W p l e rm_TR_wrongSign s m args below meth c H locs 0 0 Q (F0 m 28 ls []) :=
  itr_all (B := fun K z => p_TR_wrongSign_L28 K22 K z.1 z.2.1 z.2.2.1 z.2.2.2) (r := u) (fun z => ∀ (ls : Array Slot) (H : Heap) (locs : List Loc), lv_has ls 4 [(0, .ref (ad 29)), (2, .int z.1), (3, .int z.2.1)] → wH D (cT cy) (cW ad cy) A H0 s z.2.2.1 z.2.2.2 H locs → W p l e rm_TR_wrongSign s m args below meth c H locs 0 0 Q (F0 m 28 ls [])) (fun K hK z h => s_TR_wrongSign_L28 (K28 := K) Fx hret hK22 hK z.1 z.2.1 z.2.2.1 z.2.2.2 h) n z hz
noncomputable def p_TR_wrongSign_L22 (K22 : (Int32 × sG × sF) → Option (Int32 × sG × sF)) (x2 : Int32) (g : sG) (f : sF) : Option (Int32 × sG × sF) := (if x2 < 0 then lt_ ((g 0) * (g 13)) (fun v1 => (if (g 12) ≤ v1 then some ((-1 : Int32), g, f) else some (v1, g, f))) else itr (fun K z => p_TR_wrongSign_L28 K22 K z.1 z.2.1 z.2.2.1 z.2.2.2) FUEL (x2, (0 : Int32), g, f))
set_option maxRecDepth 100000 in
set_option maxHeartbeats 4000000 in
theorem s_TR_wrongSign_L22 {K22 : (Int32 × sG × sF) → Option (Int32 × sG × sF)} {p : Program} {l : Launch} {e : Env} {s : State} {m : MethodId} {args : Array Value} {below : List Frame} {meth : Method} {c : Code} {Q : State → Prop} {D : va_G} {ad : Nat → Nat} {cy : Nat → ClassId} {A : Nat → Prop} {H0 : Heap} {u : Int32 × sG × sF} (Fx : CallFix p m c cX5_wrongSign 4 s args (Cond.code yX5_wrongSign cX5_wrongSign 4 (some .int) :: wU) RX5) (hret : mRi p l e rm_TR_wrongSign s m args below meth c Q D (cT cy) (cW ad cy) A H0 cX5_wrongSign u) (hK22 : ∀ (z : Int32 × sG × sF), K22 z = some u → ∀ (ls : Array Slot) (H : Heap) (locs : List Loc), lv_has ls 4 [(0, .ref (ad 29)), (2, .int z.1)] → wH D (cT cy) (cW ad cy) A H0 s z.2.1 z.2.2 H locs → W p l e rm_TR_wrongSign s m args below meth c H locs 0 0 Q (F0 m 22 ls [])) (x2 : Int32) (g : sG) (f : sF) (hf : p_TR_wrongSign_L22 K22 x2 g f = some u) : ∀ (ls : Array Slot) (H : Heap) (locs : List Loc), lv_has ls 4 [(0, .ref (ad 29)), (2, .int x2)] → wH D (cT cy) (cW ad cy) A H0 s g f H locs → W p l e rm_TR_wrongSign s m args below meth c H locs 0 0 Q (F0 m 22 ls []) := by
  intro ls H locs hl hC
  unfold p_TR_wrongSign_L22 at hf
  refine lv_iload_n Fx.1 Fx.2.1 dX5_wrongSign_22 rfl (lv_at hl 1 rfl) ?_
  refine lv_if_lt (tgt := 69) Fx.1 Fx.2.1 dX5_wrongSign_23 (by decide) (fun hc => ?_) (fun hc => ?_)
  · replace hf := ift hc hf
    refine lv_aload_n Fx.1 Fx.2.1 dX5_wrongSign_69 rfl (lv_at hl 0 rfl) ?_
    refine gg_TR_instrument Fx hC wd_189 dX5_wrongSign_70 ?_
    refine gg_In_strings Fx hC wd_30 dX5_wrongSign_73 ?_
    refine lv_aload_n Fx.1 Fx.2.1 dX5_wrongSign_76 rfl (lv_at hl 0 rfl) ?_
    refine gg_TR_lineLength Fx hC wd_192 dX5_wrongSign_77 ?_
    refine lv_imul Fx.1 Fx.2.1 dX5_wrongSign_80 ?_
    obtain ⟨v1, ev1, hf⟩ := lt_e hf
    refine tpi ev1 ?_
    refine lv_istore_n (lv' := [(2, .int v1), (0, .ref (ad 29))]) Fx.1 Fx.2.1 dX5_wrongSign_81 rfl hl (by decide) rfl (fun ls hl => ?_)
    refine lv_aload_n Fx.1 Fx.2.1 dX5_wrongSign_82 rfl (lv_at hl 1 rfl) ?_
    refine gg_TR_tape Fx hC wd_191 dX5_wrongSign_83 ?_
    refine gg_Ta_size Fx hC wd_163 dX5_wrongSign_86 ?_
    refine lv_iload_n Fx.1 Fx.2.1 dX5_wrongSign_89 rfl (lv_at hl 0 rfl) ?_
    refine lv_icmp_le (tgt := 97) Fx.1 Fx.2.1 dX5_wrongSign_90 (by decide) (fun hc => ?_) (fun hc => ?_)
    · replace hf := ift hc hf
      refine lv_iconst (v := (-1 : Int32)) Fx.1 Fx.2.1 dX5_wrongSign_97 (by decide) ?_
      obtain rfl := Option.some.inj hf
      exact hret _ _ _ _ dX5_wrongSign_98 hC
    · replace hf := iff_ hc hf
      refine lv_iload_n Fx.1 Fx.2.1 dX5_wrongSign_93 rfl (lv_at hl 0 rfl) ?_
      refine lv_goto (tgt := 98) Fx.1 Fx.2.1 dX5_wrongSign_94 (by decide) ?_
      obtain rfl := Option.some.inj hf
      exact hret _ _ _ _ dX5_wrongSign_98 hC
  · replace hf := iff_ hc hf
    refine lv_iconst (v := (0 : Int32)) Fx.1 Fx.2.1 dX5_wrongSign_26 (by decide) ?_
    refine lv_istore_n (lv' := [(3, .int (0 : Int32)), (0, .ref (ad 29)), (2, .int x2)]) Fx.1 Fx.2.1 dX5_wrongSign_27 rfl hl (by decide) rfl (fun ls hl => ?_)
    exact t_TR_wrongSign_L28 Fx hret hK22 _ _ hf _ _ _ (lv_sub hl [1, 2, 0] rfl) hC
set_option maxRecDepth 100000 in
set_option maxHeartbeats 4000000 in
theorem t_TR_wrongSign_L22 {p : Program} {l : Launch} {e : Env} {s : State} {m : MethodId} {args : Array Value} {below : List Frame} {meth : Method} {c : Code} {Q : State → Prop} {D : va_G} {ad : Nat → Nat} {cy : Nat → ClassId} {A : Nat → Prop} {H0 : Heap} {u : Int32 × sG × sF} (Fx : CallFix p m c cX5_wrongSign 4 s args (Cond.code yX5_wrongSign cX5_wrongSign 4 (some .int) :: wU) RX5) (hret : mRi p l e rm_TR_wrongSign s m args below meth c Q D (cT cy) (cW ad cy) A H0 cX5_wrongSign u)  (n : Nat) (z : Int32 × sG × sF) (hz : itr (fun K z => p_TR_wrongSign_L22 K z.1 z.2.1 z.2.2) n z = some u) : ∀ (ls : Array Slot) (H : Heap) (locs : List Loc), lv_has ls 4 [(0, .ref (ad 29)), (2, .int z.1)] → wH D (cT cy) (cW ad cy) A H0 s z.2.1 z.2.2 H locs → W p l e rm_TR_wrongSign s m args below meth c H locs 0 0 Q (F0 m 22 ls []) :=
  itr_all (B := fun K z => p_TR_wrongSign_L22 K z.1 z.2.1 z.2.2) (r := u) (fun z => ∀ (ls : Array Slot) (H : Heap) (locs : List Loc), lv_has ls 4 [(0, .ref (ad 29)), (2, .int z.1)] → wH D (cT cy) (cW ad cy) A H0 s z.2.1 z.2.2 H locs → W p l e rm_TR_wrongSign s m args below meth c H locs 0 0 Q (F0 m 22 ls [])) (fun K hK z h => s_TR_wrongSign_L22 (K22 := K) Fx hret hK z.1 z.2.1 z.2.2 h) n z hz
noncomputable def p_TR_wrongSign  (g : sG) (f : sF) : Option (Int32 × sG × sF) := Option.bind (p_TR_measureFirstLine  g f) (fun u1 => (if u1.1 = (-1 : Int32) then lt_ ((u1.2.1 0) - (2 : Int32)) (fun v2 => itr (fun K z => p_TR_wrongSign_L22 K z.1 z.2.1 z.2.2) FUEL (v2, u1.2.1, u1.2.2)) else some (u1.1, u1.2.1, u1.2.2)))
set_option maxRecDepth 100000 in
set_option maxHeartbeats 4000000 in
theorem k_TR_wrongSign {l : Launch} {D : va_G} {ad : Nat → Nat} {cy : Nat → ClassId}  {u : Int32 × sG × sF} {g : sG} {f : sF} (hf : p_TR_wrongSign  g f = some u) : mMi l yX5_wrongSign (Cond.code yX5_wrongSign cX5_wrongSign 4 (some .int) :: wU) rm_TR_wrongSign D (cT cy) (cW ad cy) [.ref (ad 29)] g f u := by
  refine mk_i (by decide) rfl (Nat.le_of_ble_eq_true rfl) ?_
  intro p e s m below meth c Q A H0 Fx hret ls H locs hl hC
  replace hl : lv_has ls 4 [(0, .ref (ad 29))] := hl
  unfold p_TR_wrongSign at hf
  refine lv_aload_n Fx.1 Fx.2.1 dX5_wrongSign_0 rfl (lv_at hl 0 rfl) ?_
  obtain ⟨u1, hu1, hf⟩ := bd_e hf
  refine ca_i (As := []) (rest := []) Fx hC (k_TR_measureFirstLine hu1) (cVU 0 Fx.2.2.2.2 wd_512 wd_513 wd_865 wd_9 wd_514 rfl rfl hd_TR_measureFirstLine ⟨Nat.le_of_ble_eq_true rfl, Nat.le_of_ble_eq_true rfl⟩) 29 rfl rfl rfl hl.1 rfl (Nat.le_of_ble_eq_true rfl) dX5_wrongSign_1 (fun H locs hC => ?_)
  refine lv_istore_n (lv' := [(1, .int u1.1), (0, .ref (ad 29))]) Fx.1 Fx.2.1 dX5_wrongSign_4 rfl hl (by decide) rfl (fun ls hl => ?_)
  refine lv_iload_n Fx.1 Fx.2.1 dX5_wrongSign_5 rfl (lv_at hl 0 rfl) ?_
  refine lv_iconst (v := (-1 : Int32)) Fx.1 Fx.2.1 dX5_wrongSign_6 (by decide) ?_
  refine lv_icmp_eq (tgt := 12) Fx.1 Fx.2.1 dX5_wrongSign_7 (by decide) (fun hc => ?_) (fun hc => ?_)
  · replace hf := ift hc hf
    refine lv_aload_n Fx.1 Fx.2.1 dX5_wrongSign_12 rfl (lv_at hl 1 rfl) ?_
    refine gg_TR_instrument Fx hC wd_189 dX5_wrongSign_13 ?_
    refine gg_In_strings Fx hC wd_30 dX5_wrongSign_16 ?_
    refine lv_iconst (v := (2 : Int32)) Fx.1 Fx.2.1 dX5_wrongSign_19 (by decide) ?_
    refine lv_isub Fx.1 Fx.2.1 dX5_wrongSign_20 ?_
    obtain ⟨v2, ev2, hf⟩ := lt_e hf
    refine tpi ev2 ?_
    refine lv_istore_n (lv' := [(2, .int v2), (1, .int u1.1), (0, .ref (ad 29))]) Fx.1 Fx.2.1 dX5_wrongSign_21 rfl hl (by decide) rfl (fun ls hl => ?_)
    exact t_TR_wrongSign_L22 Fx hret _ _ hf _ _ _ (lv_sub hl [2, 0] rfl) hC
  · replace hf := iff_ hc hf
    refine lv_iload_n Fx.1 Fx.2.1 dX5_wrongSign_10 rfl (lv_at hl 0 rfl) ?_
    obtain rfl := Option.some.inj hf
    exact hret _ _ _ _ dX5_wrongSign_11 hC
/-! FretHands$TabReader.beginsNumber(II)Z -/
abbrev rm_TR_beginsNumber : Room := { frames := 2, cells := 0, slots := 0, locals := 44 }
theorem hd_TR_beginsNumber : yX5_beginsNumber.cls = RX5 ∧ yX5_beginsNumber.cls ≠ "java/lang/invoke/MethodHandle" ∧ yX5_beginsNumber.cls ≠ "java/lang/invoke/VarHandle" ∧ (parseMethodDescriptor yX5_beginsNumber.desc).map (fun d => d.parameters.length) = some 2 := by decide +kernel
noncomputable def p_TR_beginsNumber (a1 : Int32) (a2 : Int32) (g : sG) (f : sF) : Option (Int32) := Option.bind (p_TR_signIn a1 a2 g f) (fun u1 => Option.bind (p_TR_isDigit u1 g f) (fun u2 => (if u2 = 0 then some (0 : Int32) else Option.bind (p_TR_signIn a1 (a2 - (1 : Int32)) g f) (fun u3 => Option.bind (p_TR_isDigit u3 g f) (fun u4 => (if u4 = 0 then some (1 : Int32) else some (0 : Int32)))))))
set_option maxRecDepth 100000 in
set_option maxHeartbeats 4000000 in
theorem k_TR_beginsNumber {l : Launch} {D : va_G} {ad : Nat → Nat} {cy : Nat → ClassId} {a1 : Int32} {a2 : Int32} {r : Int32} {g : sG} {f : sF} (hf : p_TR_beginsNumber a1 a2 g f = some r) : mMi l yX5_beginsNumber (Cond.code yX5_beginsNumber cX5_beginsNumber 3 (some .boolean) :: wU) rm_TR_beginsNumber D (cT cy) (cW ad cy) [.ref (ad 29), .int a1, .int a2] g f (r, g, f) := by
  refine mk_z (by decide) rfl (Nat.le_of_ble_eq_true rfl) ?_
  intro p e s m below meth c Q A H0 Fx hret ls H locs hl hC
  replace hl : lv_has ls 3 [(0, .ref (ad 29)), (1, .int a1), (2, .int a2)] := hl
  unfold p_TR_beginsNumber at hf
  refine lv_aload_n Fx.1 Fx.2.1 dX5_beginsNumber_0 rfl (lv_at hl 0 rfl) ?_
  refine lv_iload_n Fx.1 Fx.2.1 dX5_beginsNumber_1 rfl (lv_at hl 1 rfl) ?_
  refine lv_iload_n Fx.1 Fx.2.1 dX5_beginsNumber_2 rfl (lv_at hl 2 rfl) ?_
  obtain ⟨u1, hu1, hf⟩ := bd_e hf
  refine ca_i (As := [.int a1, .int a2]) (rest := []) Fx hC (k_TR_signIn hu1) (cVU 2 Fx.2.2.2.2 wd_522 wd_523 wd_866 wd_9 wd_524 rfl rfl hd_TR_signIn ⟨Nat.le_of_ble_eq_true rfl, Nat.le_of_ble_eq_true rfl⟩) 29 rfl rfl rfl hl.1 rfl (Nat.le_of_ble_eq_true rfl) dX5_beginsNumber_3 (fun H locs hC => ?_)
  obtain ⟨u2, hu2, hf⟩ := bd_e hf
  refine ca_s (As := [.int u1]) (rest := []) Fx hC (k_TR_isDigit hu2) (cSU 1 Fx.2.2.2.2 wd_519 wd_520 wd_9 wd_521 rfl rfl hd_TR_isDigit ⟨Nat.le_of_ble_eq_true rfl, Nat.le_of_ble_eq_true rfl⟩) rfl hl.1 rfl (Nat.le_of_ble_eq_true rfl) dX5_beginsNumber_6 (fun H locs hC => ?_)
  refine lv_if_eq (tgt := 30) Fx.1 Fx.2.1 dX5_beginsNumber_9 (by decide) (fun hc => ?_) (fun hc => ?_)
  · replace hf := ift hc hf
    refine lv_iconst (v := (0 : Int32)) Fx.1 Fx.2.1 dX5_beginsNumber_30 (by decide) ?_
    obtain rfl := Option.some.inj hf
    exact hret _ _ _ _ dX5_beginsNumber_31 z01_0 hC
  · replace hf := iff_ hc hf
    refine lv_aload_n Fx.1 Fx.2.1 dX5_beginsNumber_12 rfl (lv_at hl 0 rfl) ?_
    refine lv_iload_n Fx.1 Fx.2.1 dX5_beginsNumber_13 rfl (lv_at hl 1 rfl) ?_
    refine lv_iload_n Fx.1 Fx.2.1 dX5_beginsNumber_14 rfl (lv_at hl 2 rfl) ?_
    refine lv_iconst (v := (1 : Int32)) Fx.1 Fx.2.1 dX5_beginsNumber_15 (by decide) ?_
    refine lv_isub Fx.1 Fx.2.1 dX5_beginsNumber_16 ?_
    obtain ⟨u3, hu3, hf⟩ := bd_e hf
    refine ca_i (As := [.int a1, .int (a2 - (1 : Int32))]) (rest := []) Fx hC (k_TR_signIn hu3) (cVU 2 Fx.2.2.2.2 wd_522 wd_523 wd_866 wd_9 wd_524 rfl rfl hd_TR_signIn ⟨Nat.le_of_ble_eq_true rfl, Nat.le_of_ble_eq_true rfl⟩) 29 rfl rfl rfl hl.1 rfl (Nat.le_of_ble_eq_true rfl) dX5_beginsNumber_17 (fun H locs hC => ?_)
    obtain ⟨u4, hu4, hf⟩ := bd_e hf
    refine ca_s (As := [.int u3]) (rest := []) Fx hC (k_TR_isDigit hu4) (cSU 1 Fx.2.2.2.2 wd_519 wd_520 wd_9 wd_521 rfl rfl hd_TR_isDigit ⟨Nat.le_of_ble_eq_true rfl, Nat.le_of_ble_eq_true rfl⟩) rfl hl.1 rfl (Nat.le_of_ble_eq_true rfl) dX5_beginsNumber_20 (fun H locs hC => ?_)
    refine lv_if_ne (tgt := 30) Fx.1 Fx.2.1 dX5_beginsNumber_23 (by decide) (fun hc => ?_) (fun hc => ?_)
    · replace hf := iff_ hc hf
      refine lv_iconst (v := (0 : Int32)) Fx.1 Fx.2.1 dX5_beginsNumber_30 (by decide) ?_
      obtain rfl := Option.some.inj hf
      exact hret _ _ _ _ dX5_beginsNumber_31 z01_0 hC
    · replace hf := ift hc hf
      refine lv_iconst (v := (1 : Int32)) Fx.1 Fx.2.1 dX5_beginsNumber_26 (by decide) ?_
      refine lv_goto (tgt := 31) Fx.1 Fx.2.1 dX5_beginsNumber_27 (by decide) ?_
      obtain rfl := Option.some.inj hf
      exact hret _ _ _ _ dX5_beginsNumber_31 z01_1 hC
/-! FretHands$TabReader.numberIn(II)I -/
abbrev rm_TR_numberIn : Room := { frames := 2, cells := 0, slots := 0, locals := 44 }
theorem hd_TR_numberIn : yX5_numberIn.cls = RX5 ∧ yX5_numberIn.cls ≠ "java/lang/invoke/MethodHandle" ∧ yX5_numberIn.cls ≠ "java/lang/invoke/VarHandle" ∧ (parseMethodDescriptor yX5_numberIn.desc).map (fun d => d.parameters.length) = some 2 := by decide +kernel
noncomputable def p_TR_numberIn (a1 : Int32) (a2 : Int32) (g : sG) (f : sF) : Option (Int32) := Option.bind (p_TR_signIn a1 a2 g f) (fun u1 => lt_ (u1 - (48 : Int32)) (fun v2 => Option.bind (p_TR_signIn a1 (a2 + (1 : Int32)) g f) (fun u3 => Option.bind (p_TR_isDigit u3 g f) (fun u4 => (if u4 = 0 then some v2 else some (((v2 * (10 : Int32)) + u3) - (48 : Int32)))))))
set_option maxRecDepth 100000 in
set_option maxHeartbeats 4000000 in
theorem k_TR_numberIn {l : Launch} {D : va_G} {ad : Nat → Nat} {cy : Nat → ClassId} {a1 : Int32} {a2 : Int32} {r : Int32} {g : sG} {f : sF} (hf : p_TR_numberIn a1 a2 g f = some r) : mMi l yX5_numberIn (Cond.code yX5_numberIn cX5_numberIn 5 (some .int) :: wU) rm_TR_numberIn D (cT cy) (cW ad cy) [.ref (ad 29), .int a1, .int a2] g f (r, g, f) := by
  refine mk_i (by decide) rfl (Nat.le_of_ble_eq_true rfl) ?_
  intro p e s m below meth c Q A H0 Fx hret ls H locs hl hC
  replace hl : lv_has ls 5 [(0, .ref (ad 29)), (1, .int a1), (2, .int a2)] := hl
  unfold p_TR_numberIn at hf
  refine lv_aload_n Fx.1 Fx.2.1 dX5_numberIn_0 rfl (lv_at hl 0 rfl) ?_
  refine lv_iload_n Fx.1 Fx.2.1 dX5_numberIn_1 rfl (lv_at hl 1 rfl) ?_
  refine lv_iload_n Fx.1 Fx.2.1 dX5_numberIn_2 rfl (lv_at hl 2 rfl) ?_
  obtain ⟨u1, hu1, hf⟩ := bd_e hf
  refine ca_i (As := [.int a1, .int a2]) (rest := []) Fx hC (k_TR_signIn hu1) (cVU 2 Fx.2.2.2.2 wd_522 wd_523 wd_866 wd_9 wd_524 rfl rfl hd_TR_signIn ⟨Nat.le_of_ble_eq_true rfl, Nat.le_of_ble_eq_true rfl⟩) 29 rfl rfl rfl hl.1 rfl (Nat.le_of_ble_eq_true rfl) dX5_numberIn_3 (fun H locs hC => ?_)
  refine lv_bipush (v := (48 : Int32)) Fx.1 Fx.2.1 dX5_numberIn_6 (by decide) ?_
  refine lv_isub Fx.1 Fx.2.1 dX5_numberIn_8 ?_
  obtain ⟨v2, ev2, hf⟩ := lt_e hf
  refine tpi ev2 ?_
  refine lv_istore_n (lv' := [(3, .int v2), (0, .ref (ad 29)), (1, .int a1), (2, .int a2)]) Fx.1 Fx.2.1 dX5_numberIn_9 rfl hl (by decide) rfl (fun ls hl => ?_)
  refine lv_aload_n Fx.1 Fx.2.1 dX5_numberIn_10 rfl (lv_at hl 1 rfl) ?_
  refine lv_iload_n Fx.1 Fx.2.1 dX5_numberIn_11 rfl (lv_at hl 2 rfl) ?_
  refine lv_iload_n Fx.1 Fx.2.1 dX5_numberIn_12 rfl (lv_at hl 3 rfl) ?_
  refine lv_iconst (v := (1 : Int32)) Fx.1 Fx.2.1 dX5_numberIn_13 (by decide) ?_
  refine lv_iadd Fx.1 Fx.2.1 dX5_numberIn_14 ?_
  obtain ⟨u3, hu3, hf⟩ := bd_e hf
  refine ca_i (As := [.int a1, .int (a2 + (1 : Int32))]) (rest := []) Fx hC (k_TR_signIn hu3) (cVU 2 Fx.2.2.2.2 wd_522 wd_523 wd_866 wd_9 wd_524 rfl rfl hd_TR_signIn ⟨Nat.le_of_ble_eq_true rfl, Nat.le_of_ble_eq_true rfl⟩) 29 rfl rfl rfl hl.1 rfl (Nat.le_of_ble_eq_true rfl) dX5_numberIn_15 (fun H locs hC => ?_)
  refine lv_istore (lv' := [(4, .int u3), (3, .int v2), (0, .ref (ad 29)), (1, .int a1), (2, .int a2)]) Fx.1 Fx.2.1 dX5_numberIn_18 hl (by decide) rfl (fun ls hl => ?_)
  refine lv_iload Fx.1 Fx.2.1 dX5_numberIn_20 (lv_at hl 0 rfl) ?_
  obtain ⟨u4, hu4, hf⟩ := bd_e hf
  refine ca_s (As := [.int u3]) (rest := []) Fx hC (k_TR_isDigit hu4) (cSU 1 Fx.2.2.2.2 wd_519 wd_520 wd_9 wd_521 rfl rfl hd_TR_isDigit ⟨Nat.le_of_ble_eq_true rfl, Nat.le_of_ble_eq_true rfl⟩) rfl hl.1 rfl (Nat.le_of_ble_eq_true rfl) dX5_numberIn_22 (fun H locs hC => ?_)
  refine lv_if_eq (tgt := 41) Fx.1 Fx.2.1 dX5_numberIn_25 (by decide) (fun hc => ?_) (fun hc => ?_)
  · replace hf := ift hc hf
    refine lv_iload_n Fx.1 Fx.2.1 dX5_numberIn_41 rfl (lv_at hl 1 rfl) ?_
    obtain rfl := Option.some.inj hf
    exact hret _ _ _ _ dX5_numberIn_42 hC
  · replace hf := iff_ hc hf
    refine lv_iload_n Fx.1 Fx.2.1 dX5_numberIn_28 rfl (lv_at hl 1 rfl) ?_
    refine lv_bipush (v := (10 : Int32)) Fx.1 Fx.2.1 dX5_numberIn_29 (by decide) ?_
    refine lv_imul Fx.1 Fx.2.1 dX5_numberIn_31 ?_
    refine lv_iload Fx.1 Fx.2.1 dX5_numberIn_32 (lv_at hl 0 rfl) ?_
    refine lv_iadd Fx.1 Fx.2.1 dX5_numberIn_34 ?_
    refine lv_bipush (v := (48 : Int32)) Fx.1 Fx.2.1 dX5_numberIn_35 (by decide) ?_
    refine lv_isub Fx.1 Fx.2.1 dX5_numberIn_37 ?_
    refine lv_goto (tgt := 42) Fx.1 Fx.2.1 dX5_numberIn_38 (by decide) ?_
    obtain rfl := Option.some.inj hf
    exact hret _ _ _ _ dX5_numberIn_42 hC
/-! FretHands$TabReader.isFretNumber(II)Z -/
abbrev rm_TR_isFretNumber : Room := { frames := 3, cells := 0, slots := 0, locals := 68 }
theorem hd_TR_isFretNumber : yX5_isFretNumber.cls = RX5 ∧ yX5_isFretNumber.cls ≠ "java/lang/invoke/MethodHandle" ∧ yX5_isFretNumber.cls ≠ "java/lang/invoke/VarHandle" ∧ (parseMethodDescriptor yX5_isFretNumber.desc).map (fun d => d.parameters.length) = some 2 := by decide +kernel
noncomputable def p_TR_isFretNumber (a1 : Int32) (a2 : Int32) (g : sG) (f : sF) : Option (Int32) := Option.bind (p_TR_signIn a1 (a2 + (1 : Int32)) g f) (fun u1 => Option.bind (p_TR_isDigit u1 g f) (fun u2 => (if u2 = 0 then Option.bind (p_TR_numberIn a1 a2 g f) (fun u7 => (if (g 1) < ((g 2) + u7) then some (0 : Int32) else some (1 : Int32))) else Option.bind (p_TR_signIn a1 a2 g f) (fun u3 => (if u3 = (48 : Int32) then some (0 : Int32) else Option.bind (p_TR_signIn a1 (a2 + (2 : Int32)) g f) (fun u4 => Option.bind (p_TR_isDigit u4 g f) (fun u5 => (if u5 = 0 then Option.bind (p_TR_numberIn a1 a2 g f) (fun u6 => (if (g 1) < ((g 2) + u6) then some (0 : Int32) else some (1 : Int32))) else some (0 : Int32)))))))))
set_option maxRecDepth 100000 in
set_option maxHeartbeats 4000000 in
theorem k_TR_isFretNumber {l : Launch} {D : va_G} {ad : Nat → Nat} {cy : Nat → ClassId} {a1 : Int32} {a2 : Int32} {r : Int32} {g : sG} {f : sF} (hf : p_TR_isFretNumber a1 a2 g f = some r) : mMi l yX5_isFretNumber (Cond.code yX5_isFretNumber cX5_isFretNumber 3 (some .boolean) :: wU) rm_TR_isFretNumber D (cT cy) (cW ad cy) [.ref (ad 29), .int a1, .int a2] g f (r, g, f) := by
  refine mk_z (by decide) rfl (Nat.le_of_ble_eq_true rfl) ?_
  intro p e s m below meth c Q A H0 Fx hret ls H locs hl hC
  replace hl : lv_has ls 3 [(0, .ref (ad 29)), (1, .int a1), (2, .int a2)] := hl
  unfold p_TR_isFretNumber at hf
  refine lv_aload_n Fx.1 Fx.2.1 dX5_isFretNumber_0 rfl (lv_at hl 0 rfl) ?_
  refine lv_iload_n Fx.1 Fx.2.1 dX5_isFretNumber_1 rfl (lv_at hl 1 rfl) ?_
  refine lv_iload_n Fx.1 Fx.2.1 dX5_isFretNumber_2 rfl (lv_at hl 2 rfl) ?_
  refine lv_iconst (v := (1 : Int32)) Fx.1 Fx.2.1 dX5_isFretNumber_3 (by decide) ?_
  refine lv_iadd Fx.1 Fx.2.1 dX5_isFretNumber_4 ?_
  obtain ⟨u1, hu1, hf⟩ := bd_e hf
  refine ca_i (As := [.int a1, .int (a2 + (1 : Int32))]) (rest := []) Fx hC (k_TR_signIn hu1) (cVU 2 Fx.2.2.2.2 wd_522 wd_523 wd_866 wd_9 wd_524 rfl rfl hd_TR_signIn ⟨Nat.le_of_ble_eq_true rfl, Nat.le_of_ble_eq_true rfl⟩) 29 rfl rfl rfl hl.1 rfl (Nat.le_of_ble_eq_true rfl) dX5_isFretNumber_5 (fun H locs hC => ?_)
  obtain ⟨u2, hu2, hf⟩ := bd_e hf
  refine ca_s (As := [.int u1]) (rest := []) Fx hC (k_TR_isDigit hu2) (cSU 1 Fx.2.2.2.2 wd_519 wd_520 wd_9 wd_521 rfl rfl hd_TR_isDigit ⟨Nat.le_of_ble_eq_true rfl, Nat.le_of_ble_eq_true rfl⟩) rfl hl.1 rfl (Nat.le_of_ble_eq_true rfl) dX5_isFretNumber_8 (fun H locs hC => ?_)
  refine lv_if_ne (tgt := 44) Fx.1 Fx.2.1 dX5_isFretNumber_11 (by decide) (fun hc => ?_) (fun hc => ?_)
  · replace hf := iff_ hc hf
    refine lv_aload_n Fx.1 Fx.2.1 dX5_isFretNumber_44 rfl (lv_at hl 0 rfl) ?_
    refine lv_iload_n Fx.1 Fx.2.1 dX5_isFretNumber_45 rfl (lv_at hl 1 rfl) ?_
    refine lv_iload_n Fx.1 Fx.2.1 dX5_isFretNumber_46 rfl (lv_at hl 2 rfl) ?_
    obtain ⟨u3, hu3, hf⟩ := bd_e hf
    refine ca_i (As := [.int a1, .int a2]) (rest := []) Fx hC (k_TR_signIn hu3) (cVU 2 Fx.2.2.2.2 wd_522 wd_523 wd_866 wd_9 wd_524 rfl rfl hd_TR_signIn ⟨Nat.le_of_ble_eq_true rfl, Nat.le_of_ble_eq_true rfl⟩) 29 rfl rfl rfl hl.1 rfl (Nat.le_of_ble_eq_true rfl) dX5_isFretNumber_47 (fun H locs hC => ?_)
    refine lv_bipush (v := (48 : Int32)) Fx.1 Fx.2.1 dX5_isFretNumber_50 (by decide) ?_
    refine lv_icmp_eq (tgt := 97) Fx.1 Fx.2.1 dX5_isFretNumber_52 (by decide) (fun hc => ?_) (fun hc => ?_)
    · replace hf := ift hc hf
      refine lv_iconst (v := (0 : Int32)) Fx.1 Fx.2.1 dX5_isFretNumber_97 (by decide) ?_
      obtain rfl := Option.some.inj hf
      exact hret _ _ _ _ dX5_isFretNumber_98 z01_0 hC
    · replace hf := iff_ hc hf
      refine lv_aload_n Fx.1 Fx.2.1 dX5_isFretNumber_55 rfl (lv_at hl 0 rfl) ?_
      refine lv_iload_n Fx.1 Fx.2.1 dX5_isFretNumber_56 rfl (lv_at hl 1 rfl) ?_
      refine lv_iload_n Fx.1 Fx.2.1 dX5_isFretNumber_57 rfl (lv_at hl 2 rfl) ?_
      refine lv_iconst (v := (2 : Int32)) Fx.1 Fx.2.1 dX5_isFretNumber_58 (by decide) ?_
      refine lv_iadd Fx.1 Fx.2.1 dX5_isFretNumber_59 ?_
      obtain ⟨u4, hu4, hf⟩ := bd_e hf
      refine ca_i (As := [.int a1, .int (a2 + (2 : Int32))]) (rest := []) Fx hC (k_TR_signIn hu4) (cVU 2 Fx.2.2.2.2 wd_522 wd_523 wd_866 wd_9 wd_524 rfl rfl hd_TR_signIn ⟨Nat.le_of_ble_eq_true rfl, Nat.le_of_ble_eq_true rfl⟩) 29 rfl rfl rfl hl.1 rfl (Nat.le_of_ble_eq_true rfl) dX5_isFretNumber_60 (fun H locs hC => ?_)
      obtain ⟨u5, hu5, hf⟩ := bd_e hf
      refine ca_s (As := [.int u4]) (rest := []) Fx hC (k_TR_isDigit hu5) (cSU 1 Fx.2.2.2.2 wd_519 wd_520 wd_9 wd_521 rfl rfl hd_TR_isDigit ⟨Nat.le_of_ble_eq_true rfl, Nat.le_of_ble_eq_true rfl⟩) rfl hl.1 rfl (Nat.le_of_ble_eq_true rfl) dX5_isFretNumber_63 (fun H locs hC => ?_)
      refine lv_if_ne (tgt := 97) Fx.1 Fx.2.1 dX5_isFretNumber_66 (by decide) (fun hc => ?_) (fun hc => ?_)
      · replace hf := iff_ hc hf
        refine lv_iconst (v := (0 : Int32)) Fx.1 Fx.2.1 dX5_isFretNumber_97 (by decide) ?_
        obtain rfl := Option.some.inj hf
        exact hret _ _ _ _ dX5_isFretNumber_98 z01_0 hC
      · replace hf := ift hc hf
        refine lv_aload_n Fx.1 Fx.2.1 dX5_isFretNumber_69 rfl (lv_at hl 0 rfl) ?_
        refine gg_TR_instrument Fx hC wd_189 dX5_isFretNumber_70 ?_
        refine gg_In_capoFret Fx hC wd_42 dX5_isFretNumber_73 ?_
        refine lv_aload_n Fx.1 Fx.2.1 dX5_isFretNumber_76 rfl (lv_at hl 0 rfl) ?_
        refine lv_iload_n Fx.1 Fx.2.1 dX5_isFretNumber_77 rfl (lv_at hl 1 rfl) ?_
        refine lv_iload_n Fx.1 Fx.2.1 dX5_isFretNumber_78 rfl (lv_at hl 2 rfl) ?_
        obtain ⟨u6, hu6, hf⟩ := bd_e hf
        refine ca_i (As := [.int a1, .int a2]) (rest := [.int (g 2)]) Fx hC (k_TR_numberIn hu6) (cVU 2 Fx.2.2.2.2 wd_540 wd_541 wd_872 wd_9 wd_542 rfl rfl hd_TR_numberIn ⟨Nat.le_of_ble_eq_true rfl, Nat.le_of_ble_eq_true rfl⟩) 29 rfl rfl rfl hl.1 rfl (Nat.le_of_ble_eq_true rfl) dX5_isFretNumber_79 (fun H locs hC => ?_)
        refine lv_iadd Fx.1 Fx.2.1 dX5_isFretNumber_82 ?_
        refine lv_aload_n Fx.1 Fx.2.1 dX5_isFretNumber_83 rfl (lv_at hl 0 rfl) ?_
        refine gg_TR_instrument Fx hC wd_189 dX5_isFretNumber_84 ?_
        refine gg_In_lastFret Fx hC wd_36 dX5_isFretNumber_87 ?_
        refine lv_icmp_gt (tgt := 97) Fx.1 Fx.2.1 dX5_isFretNumber_90 (by decide) (fun hc => ?_) (fun hc => ?_)
        · replace hf := ift hc hf
          refine lv_iconst (v := (0 : Int32)) Fx.1 Fx.2.1 dX5_isFretNumber_97 (by decide) ?_
          obtain rfl := Option.some.inj hf
          exact hret _ _ _ _ dX5_isFretNumber_98 z01_0 hC
        · replace hf := iff_ hc hf
          refine lv_iconst (v := (1 : Int32)) Fx.1 Fx.2.1 dX5_isFretNumber_93 (by decide) ?_
          refine lv_goto (tgt := 98) Fx.1 Fx.2.1 dX5_isFretNumber_94 (by decide) ?_
          obtain rfl := Option.some.inj hf
          exact hret _ _ _ _ dX5_isFretNumber_98 z01_1 hC
  · replace hf := ift hc hf
    refine lv_aload_n Fx.1 Fx.2.1 dX5_isFretNumber_14 rfl (lv_at hl 0 rfl) ?_
    refine gg_TR_instrument Fx hC wd_189 dX5_isFretNumber_15 ?_
    refine gg_In_capoFret Fx hC wd_42 dX5_isFretNumber_18 ?_
    refine lv_aload_n Fx.1 Fx.2.1 dX5_isFretNumber_21 rfl (lv_at hl 0 rfl) ?_
    refine lv_iload_n Fx.1 Fx.2.1 dX5_isFretNumber_22 rfl (lv_at hl 1 rfl) ?_
    refine lv_iload_n Fx.1 Fx.2.1 dX5_isFretNumber_23 rfl (lv_at hl 2 rfl) ?_
    obtain ⟨u7, hu7, hf⟩ := bd_e hf
    refine ca_i (As := [.int a1, .int a2]) (rest := [.int (g 2)]) Fx hC (k_TR_numberIn hu7) (cVU 2 Fx.2.2.2.2 wd_540 wd_541 wd_872 wd_9 wd_542 rfl rfl hd_TR_numberIn ⟨Nat.le_of_ble_eq_true rfl, Nat.le_of_ble_eq_true rfl⟩) 29 rfl rfl rfl hl.1 rfl (Nat.le_of_ble_eq_true rfl) dX5_isFretNumber_24 (fun H locs hC => ?_)
    refine lv_iadd Fx.1 Fx.2.1 dX5_isFretNumber_27 ?_
    refine lv_aload_n Fx.1 Fx.2.1 dX5_isFretNumber_28 rfl (lv_at hl 0 rfl) ?_
    refine gg_TR_instrument Fx hC wd_189 dX5_isFretNumber_29 ?_
    refine gg_In_lastFret Fx hC wd_36 dX5_isFretNumber_32 ?_
    refine lv_icmp_gt (tgt := 42) Fx.1 Fx.2.1 dX5_isFretNumber_35 (by decide) (fun hc => ?_) (fun hc => ?_)
    · replace hf := ift hc hf
      refine lv_iconst (v := (0 : Int32)) Fx.1 Fx.2.1 dX5_isFretNumber_42 (by decide) ?_
      obtain rfl := Option.some.inj hf
      exact hret _ _ _ _ dX5_isFretNumber_43 z01_0 hC
    · replace hf := iff_ hc hf
      refine lv_iconst (v := (1 : Int32)) Fx.1 Fx.2.1 dX5_isFretNumber_38 (by decide) ?_
      refine lv_goto (tgt := 43) Fx.1 Fx.2.1 dX5_isFretNumber_39 (by decide) ?_
      obtain rfl := Option.some.inj hf
      exact hret _ _ _ _ dX5_isFretNumber_43 z01_1 hC
/-! FretHands$TabReader.wrongNumber()I -/
abbrev rm_TR_wrongNumber : Room := { frames := 4, cells := 0, slots := 0, locals := 90 }
theorem hd_TR_wrongNumber : yX5_wrongNumber.cls = RX5 ∧ yX5_wrongNumber.cls ≠ "java/lang/invoke/MethodHandle" ∧ yX5_wrongNumber.cls ≠ "java/lang/invoke/VarHandle" ∧ (parseMethodDescriptor yX5_wrongNumber.desc).map (fun d => d.parameters.length) = some 0 := by decide +kernel
noncomputable def p_TR_wrongNumber_L16 (K10 : (Int32) → Option (Int32)) (K16 : (Int32 × Int32) → Option (Int32)) (x1 : Int32) (x2 : Int32) (g : sG) (f : sF) : Option (Int32) := (if (g 13) ≤ x2 then lt_ (x1 + (-1 : Int32)) (fun v1 => K10 v1) else Option.bind (p_TR_beginsNumber x1 x2 g f) (fun u2 => (if u2 = 0 then lt_ (x2 + (1 : Int32)) (fun v3 => K16 (x1, v3)) else Option.bind (p_TR_isFretNumber x1 x2 g f) (fun u4 => (if u4 = 0 then Option.bind (p_TR_placeOf x1 x2 g f) (fun u6 => some u6) else lt_ (x2 + (1 : Int32)) (fun v5 => K16 (x1, v5)))))))
set_option maxRecDepth 100000 in
set_option maxHeartbeats 4000000 in
theorem s_TR_wrongNumber_L16 {K10 : (Int32) → Option (Int32)} {K16 : (Int32 × Int32) → Option (Int32)} {p : Program} {l : Launch} {e : Env} {s : State} {m : MethodId} {args : Array Value} {below : List Frame} {meth : Method} {c : Code} {Q : State → Prop} {D : va_G} {ad : Nat → Nat} {cy : Nat → ClassId} {A : Nat → Prop} {H0 : Heap} {r : Int32} {g : sG} {f : sF} (Fx : CallFix p m c cX5_wrongNumber 3 s args (Cond.code yX5_wrongNumber cX5_wrongNumber 3 (some .int) :: wU) RX5) (hret : mRi p l e rm_TR_wrongNumber s m args below meth c Q D (cT cy) (cW ad cy) A H0 cX5_wrongNumber (r, g, f)) (hK10 : ∀ (z : Int32), K10 z = some r → ∀ (ls : Array Slot) (H : Heap) (locs : List Loc), lv_has ls 3 [(0, .ref (ad 29)), (1, .int z)] → wH D (cT cy) (cW ad cy) A H0 s g f H locs → W p l e rm_TR_wrongNumber s m args below meth c H locs 0 0 Q (F0 m 10 ls [])) (hK16 : ∀ (z : Int32 × Int32), K16 z = some r → ∀ (ls : Array Slot) (H : Heap) (locs : List Loc), lv_has ls 3 [(0, .ref (ad 29)), (1, .int z.1), (2, .int z.2)] → wH D (cT cy) (cW ad cy) A H0 s g f H locs → W p l e rm_TR_wrongNumber s m args below meth c H locs 0 0 Q (F0 m 16 ls [])) (x1 : Int32) (x2 : Int32) (hf : p_TR_wrongNumber_L16 K10 K16 x1 x2 g f = some r) : ∀ (ls : Array Slot) (H : Heap) (locs : List Loc), lv_has ls 3 [(0, .ref (ad 29)), (1, .int x1), (2, .int x2)] → wH D (cT cy) (cW ad cy) A H0 s g f H locs → W p l e rm_TR_wrongNumber s m args below meth c H locs 0 0 Q (F0 m 16 ls []) := by
  intro ls H locs hl hC
  unfold p_TR_wrongNumber_L16 at hf
  refine lv_iload_n Fx.1 Fx.2.1 dX5_wrongNumber_16 rfl (lv_at hl 2 rfl) ?_
  refine lv_aload_n Fx.1 Fx.2.1 dX5_wrongNumber_17 rfl (lv_at hl 0 rfl) ?_
  refine gg_TR_lineLength Fx hC wd_192 dX5_wrongNumber_18 ?_
  refine lv_icmp_ge (tgt := 55) Fx.1 Fx.2.1 dX5_wrongNumber_21 (by decide) (fun hc => ?_) (fun hc => ?_)
  · replace hf := ift hc hf
    obtain ⟨v1, ev1, hf⟩ := lt_e hf
    refine lv_iinc (v := v1) (lv' := [(1, .int v1), (0, .ref (ad 29)), (2, .int x2)]) Fx.1 Fx.2.1 dX5_wrongNumber_55 hl (k := 1) rfl ev1.symm (by decide) rfl (fun ls hl => ?_)
    refine lv_goto (tgt := 10) Fx.1 Fx.2.1 dX5_wrongNumber_58 (by decide) ?_
    exact hK10 _ hf _ _ _ (lv_sub hl [1, 0] rfl) hC
  · replace hf := iff_ hc hf
    refine lv_aload_n Fx.1 Fx.2.1 dX5_wrongNumber_24 rfl (lv_at hl 0 rfl) ?_
    refine lv_iload_n Fx.1 Fx.2.1 dX5_wrongNumber_25 rfl (lv_at hl 1 rfl) ?_
    refine lv_iload_n Fx.1 Fx.2.1 dX5_wrongNumber_26 rfl (lv_at hl 2 rfl) ?_
    obtain ⟨u2, hu2, hf⟩ := bd_e hf
    refine ca_i (As := [.int x1, .int x2]) (rest := []) Fx hC (k_TR_beginsNumber hu2) (cVU 2 Fx.2.2.2.2 wd_534 wd_535 wd_870 wd_9 wd_536 rfl rfl hd_TR_beginsNumber ⟨Nat.le_of_ble_eq_true rfl, Nat.le_of_ble_eq_true rfl⟩) 29 rfl rfl rfl hl.1 rfl (Nat.le_of_ble_eq_true rfl) dX5_wrongNumber_27 (fun H locs hC => ?_)
    refine lv_if_eq (tgt := 49) Fx.1 Fx.2.1 dX5_wrongNumber_30 (by decide) (fun hc => ?_) (fun hc => ?_)
    · replace hf := ift hc hf
      obtain ⟨v3, ev3, hf⟩ := lt_e hf
      refine lv_iinc (v := v3) (lv' := [(2, .int v3), (0, .ref (ad 29)), (1, .int x1)]) Fx.1 Fx.2.1 dX5_wrongNumber_49 hl (k := 2) rfl ev3.symm (by decide) rfl (fun ls hl => ?_)
      refine lv_goto (tgt := 16) Fx.1 Fx.2.1 dX5_wrongNumber_52 (by decide) ?_
      exact hK16 _ hf _ _ _ (lv_sub hl [1, 2, 0] rfl) hC
    · replace hf := iff_ hc hf
      refine lv_aload_n Fx.1 Fx.2.1 dX5_wrongNumber_33 rfl (lv_at hl 0 rfl) ?_
      refine lv_iload_n Fx.1 Fx.2.1 dX5_wrongNumber_34 rfl (lv_at hl 1 rfl) ?_
      refine lv_iload_n Fx.1 Fx.2.1 dX5_wrongNumber_35 rfl (lv_at hl 2 rfl) ?_
      obtain ⟨u4, hu4, hf⟩ := bd_e hf
      refine ca_i (As := [.int x1, .int x2]) (rest := []) Fx hC (k_TR_isFretNumber hu4) (cVU 2 Fx.2.2.2.2 wd_537 wd_538 wd_871 wd_9 wd_539 rfl rfl hd_TR_isFretNumber ⟨Nat.le_of_ble_eq_true rfl, Nat.le_of_ble_eq_true rfl⟩) 29 rfl rfl rfl hl.1 rfl (Nat.le_of_ble_eq_true rfl) dX5_wrongNumber_36 (fun H locs hC => ?_)
      refine lv_if_ne (tgt := 49) Fx.1 Fx.2.1 dX5_wrongNumber_39 (by decide) (fun hc => ?_) (fun hc => ?_)
      · replace hf := iff_ hc hf
        obtain ⟨v5, ev5, hf⟩ := lt_e hf
        refine lv_iinc (v := v5) (lv' := [(2, .int v5), (0, .ref (ad 29)), (1, .int x1)]) Fx.1 Fx.2.1 dX5_wrongNumber_49 hl (k := 2) rfl ev5.symm (by decide) rfl (fun ls hl => ?_)
        refine lv_goto (tgt := 16) Fx.1 Fx.2.1 dX5_wrongNumber_52 (by decide) ?_
        exact hK16 _ hf _ _ _ (lv_sub hl [1, 2, 0] rfl) hC
      · replace hf := ift hc hf
        refine lv_aload_n Fx.1 Fx.2.1 dX5_wrongNumber_42 rfl (lv_at hl 0 rfl) ?_
        refine lv_iload_n Fx.1 Fx.2.1 dX5_wrongNumber_43 rfl (lv_at hl 1 rfl) ?_
        refine lv_iload_n Fx.1 Fx.2.1 dX5_wrongNumber_44 rfl (lv_at hl 2 rfl) ?_
        obtain ⟨u6, hu6, hf⟩ := bd_e hf
        refine ca_i (As := [.int x1, .int x2]) (rest := []) Fx hC (k_TR_placeOf hu6) (cVU 2 Fx.2.2.2.2 wd_525 wd_526 wd_867 wd_9 wd_527 rfl rfl hd_TR_placeOf ⟨Nat.le_of_ble_eq_true rfl, Nat.le_of_ble_eq_true rfl⟩) 29 rfl rfl rfl hl.1 rfl (Nat.le_of_ble_eq_true rfl) dX5_wrongNumber_45 (fun H locs hC => ?_)
        obtain rfl := Option.some.inj hf
        exact hret _ _ _ _ dX5_wrongNumber_48 hC
set_option maxRecDepth 100000 in
set_option maxHeartbeats 4000000 in
theorem t_TR_wrongNumber_L16 {K10 : (Int32) → Option (Int32)} {p : Program} {l : Launch} {e : Env} {s : State} {m : MethodId} {args : Array Value} {below : List Frame} {meth : Method} {c : Code} {Q : State → Prop} {D : va_G} {ad : Nat → Nat} {cy : Nat → ClassId} {A : Nat → Prop} {H0 : Heap} {r : Int32} {g : sG} {f : sF} (Fx : CallFix p m c cX5_wrongNumber 3 s args (Cond.code yX5_wrongNumber cX5_wrongNumber 3 (some .int) :: wU) RX5) (hret : mRi p l e rm_TR_wrongNumber s m args below meth c Q D (cT cy) (cW ad cy) A H0 cX5_wrongNumber (r, g, f)) (hK10 : ∀ (z : Int32), K10 z = some r → ∀ (ls : Array Slot) (H : Heap) (locs : List Loc), lv_has ls 3 [(0, .ref (ad 29)), (1, .int z)] → wH D (cT cy) (cW ad cy) A H0 s g f H locs → W p l e rm_TR_wrongNumber s m args below meth c H locs 0 0 Q (F0 m 10 ls [])) (n : Nat) (z : Int32 × Int32) (hz : itr (fun K z => p_TR_wrongNumber_L16 K10 K z.1 z.2 g f) n z = some r) : ∀ (ls : Array Slot) (H : Heap) (locs : List Loc), lv_has ls 3 [(0, .ref (ad 29)), (1, .int z.1), (2, .int z.2)] → wH D (cT cy) (cW ad cy) A H0 s g f H locs → W p l e rm_TR_wrongNumber s m args below meth c H locs 0 0 Q (F0 m 16 ls []) :=
  itr_all (B := fun K z => p_TR_wrongNumber_L16 K10 K z.1 z.2 g f) (r := r) (fun z => ∀ (ls : Array Slot) (H : Heap) (locs : List Loc), lv_has ls 3 [(0, .ref (ad 29)), (1, .int z.1), (2, .int z.2)] → wH D (cT cy) (cW ad cy) A H0 s g f H locs → W p l e rm_TR_wrongNumber s m args below meth c H locs 0 0 Q (F0 m 16 ls [])) (fun K hK z h => s_TR_wrongNumber_L16 (K16 := K) Fx hret hK10 hK z.1 z.2 h) n z hz
noncomputable def p_TR_wrongNumber_L10 (K10 : (Int32) → Option (Int32)) (x1 : Int32) (g : sG) (f : sF) : Option (Int32) := (if x1 < 0 then some (-1 : Int32) else itr (fun K z => p_TR_wrongNumber_L16 K10 K z.1 z.2 g f) FUEL (x1, (1 : Int32)))
set_option maxRecDepth 100000 in
set_option maxHeartbeats 4000000 in
theorem s_TR_wrongNumber_L10 {K10 : (Int32) → Option (Int32)} {p : Program} {l : Launch} {e : Env} {s : State} {m : MethodId} {args : Array Value} {below : List Frame} {meth : Method} {c : Code} {Q : State → Prop} {D : va_G} {ad : Nat → Nat} {cy : Nat → ClassId} {A : Nat → Prop} {H0 : Heap} {r : Int32} {g : sG} {f : sF} (Fx : CallFix p m c cX5_wrongNumber 3 s args (Cond.code yX5_wrongNumber cX5_wrongNumber 3 (some .int) :: wU) RX5) (hret : mRi p l e rm_TR_wrongNumber s m args below meth c Q D (cT cy) (cW ad cy) A H0 cX5_wrongNumber (r, g, f)) (hK10 : ∀ (z : Int32), K10 z = some r → ∀ (ls : Array Slot) (H : Heap) (locs : List Loc), lv_has ls 3 [(0, .ref (ad 29)), (1, .int z)] → wH D (cT cy) (cW ad cy) A H0 s g f H locs → W p l e rm_TR_wrongNumber s m args below meth c H locs 0 0 Q (F0 m 10 ls [])) (x1 : Int32) (hf : p_TR_wrongNumber_L10 K10 x1 g f = some r) : ∀ (ls : Array Slot) (H : Heap) (locs : List Loc), lv_has ls 3 [(0, .ref (ad 29)), (1, .int x1)] → wH D (cT cy) (cW ad cy) A H0 s g f H locs → W p l e rm_TR_wrongNumber s m args below meth c H locs 0 0 Q (F0 m 10 ls []) := by
  intro ls H locs hl hC
  unfold p_TR_wrongNumber_L10 at hf
  refine lv_iload_n Fx.1 Fx.2.1 dX5_wrongNumber_10 rfl (lv_at hl 1 rfl) ?_
  refine lv_if_lt (tgt := 61) Fx.1 Fx.2.1 dX5_wrongNumber_11 (by decide) (fun hc => ?_) (fun hc => ?_)
  · replace hf := ift hc hf
    refine lv_iconst (v := (-1 : Int32)) Fx.1 Fx.2.1 dX5_wrongNumber_61 (by decide) ?_
    obtain rfl := Option.some.inj hf
    exact hret _ _ _ _ dX5_wrongNumber_62 hC
  · replace hf := iff_ hc hf
    refine lv_iconst (v := (1 : Int32)) Fx.1 Fx.2.1 dX5_wrongNumber_14 (by decide) ?_
    refine lv_istore_n (lv' := [(2, .int (1 : Int32)), (0, .ref (ad 29)), (1, .int x1)]) Fx.1 Fx.2.1 dX5_wrongNumber_15 rfl hl (by decide) rfl (fun ls hl => ?_)
    exact t_TR_wrongNumber_L16 Fx hret hK10 _ _ hf _ _ _ (lv_sub hl [1, 2, 0] rfl) hC
set_option maxRecDepth 100000 in
set_option maxHeartbeats 4000000 in
theorem t_TR_wrongNumber_L10 {p : Program} {l : Launch} {e : Env} {s : State} {m : MethodId} {args : Array Value} {below : List Frame} {meth : Method} {c : Code} {Q : State → Prop} {D : va_G} {ad : Nat → Nat} {cy : Nat → ClassId} {A : Nat → Prop} {H0 : Heap} {r : Int32} {g : sG} {f : sF} (Fx : CallFix p m c cX5_wrongNumber 3 s args (Cond.code yX5_wrongNumber cX5_wrongNumber 3 (some .int) :: wU) RX5) (hret : mRi p l e rm_TR_wrongNumber s m args below meth c Q D (cT cy) (cW ad cy) A H0 cX5_wrongNumber (r, g, f))  (n : Nat) (z : Int32) (hz : itr (fun K z => p_TR_wrongNumber_L10 K z g f) n z = some r) : ∀ (ls : Array Slot) (H : Heap) (locs : List Loc), lv_has ls 3 [(0, .ref (ad 29)), (1, .int z)] → wH D (cT cy) (cW ad cy) A H0 s g f H locs → W p l e rm_TR_wrongNumber s m args below meth c H locs 0 0 Q (F0 m 10 ls []) :=
  itr_all (B := fun K z => p_TR_wrongNumber_L10 K z g f) (r := r) (fun z => ∀ (ls : Array Slot) (H : Heap) (locs : List Loc), lv_has ls 3 [(0, .ref (ad 29)), (1, .int z)] → wH D (cT cy) (cW ad cy) A H0 s g f H locs → W p l e rm_TR_wrongNumber s m args below meth c H locs 0 0 Q (F0 m 10 ls [])) (fun K hK z h => s_TR_wrongNumber_L10 (K10 := K) Fx hret hK z h) n z hz
noncomputable def p_TR_wrongNumber  (g : sG) (f : sF) : Option (Int32) := lt_ ((g 0) - (1 : Int32)) (fun v1 => itr (fun K z => p_TR_wrongNumber_L10 K z g f) FUEL v1)
set_option maxRecDepth 100000 in
set_option maxHeartbeats 4000000 in
theorem k_TR_wrongNumber {l : Launch} {D : va_G} {ad : Nat → Nat} {cy : Nat → ClassId}  {r : Int32} {g : sG} {f : sF} (hf : p_TR_wrongNumber  g f = some r) : mMi l yX5_wrongNumber (Cond.code yX5_wrongNumber cX5_wrongNumber 3 (some .int) :: wU) rm_TR_wrongNumber D (cT cy) (cW ad cy) [.ref (ad 29)] g f (r, g, f) := by
  refine mk_i (by decide) rfl (Nat.le_of_ble_eq_true rfl) ?_
  intro p e s m below meth c Q A H0 Fx hret ls H locs hl hC
  replace hl : lv_has ls 3 [(0, .ref (ad 29))] := hl
  unfold p_TR_wrongNumber at hf
  refine lv_aload_n Fx.1 Fx.2.1 dX5_wrongNumber_0 rfl (lv_at hl 0 rfl) ?_
  refine gg_TR_instrument Fx hC wd_189 dX5_wrongNumber_1 ?_
  refine gg_In_strings Fx hC wd_30 dX5_wrongNumber_4 ?_
  refine lv_iconst (v := (1 : Int32)) Fx.1 Fx.2.1 dX5_wrongNumber_7 (by decide) ?_
  refine lv_isub Fx.1 Fx.2.1 dX5_wrongNumber_8 ?_
  obtain ⟨v1, ev1, hf⟩ := lt_e hf
  refine tpi ev1 ?_
  refine lv_istore_n (lv' := [(1, .int v1), (0, .ref (ad 29))]) Fx.1 Fx.2.1 dX5_wrongNumber_9 rfl hl (by decide) rfl (fun ls hl => ?_)
  exact t_TR_wrongNumber_L10 Fx hret _ _ hf _ _ _ (lv_sub hl [1, 0] rfl) hC
/-! FretHands$TabReader.hasSecondDigit(I)Z -/
abbrev rm_TR_hasSecondDigit : Room := { frames := 3, cells := 0, slots := 0, locals := 66 }
theorem hd_TR_hasSecondDigit : yX5_hasSecondDigit.cls = RX5 ∧ yX5_hasSecondDigit.cls ≠ "java/lang/invoke/MethodHandle" ∧ yX5_hasSecondDigit.cls ≠ "java/lang/invoke/VarHandle" ∧ (parseMethodDescriptor yX5_hasSecondDigit.desc).map (fun d => d.parameters.length) = some 1 := by decide +kernel
noncomputable def p_TR_hasSecondDigit_L2 (K2 : (Int32 × Int32) → Option (Int32)) (x1 : Int32) (x2 : Int32) (g : sG) (f : sF) : Option (Int32) := (if (g 0) ≤ x2 then some (0 : Int32) else Option.bind (p_TR_signIn x2 x1 g f) (fun u1 => Option.bind (p_TR_isDigit u1 g f) (fun u2 => (if u2 = 0 then lt_ (x2 + (1 : Int32)) (fun v3 => K2 (x1, v3)) else Option.bind (p_TR_beginsNumber x2 x1 g f) (fun u4 => (if u4 = 0 then some (1 : Int32) else lt_ (x2 + (1 : Int32)) (fun v5 => K2 (x1, v5))))))))
set_option maxRecDepth 100000 in
set_option maxHeartbeats 4000000 in
theorem s_TR_hasSecondDigit_L2 {K2 : (Int32 × Int32) → Option (Int32)} {p : Program} {l : Launch} {e : Env} {s : State} {m : MethodId} {args : Array Value} {below : List Frame} {meth : Method} {c : Code} {Q : State → Prop} {D : va_G} {ad : Nat → Nat} {cy : Nat → ClassId} {A : Nat → Prop} {H0 : Heap} {r : Int32} {g : sG} {f : sF} (Fx : CallFix p m c cX5_hasSecondDigit 3 s args (Cond.code yX5_hasSecondDigit cX5_hasSecondDigit 3 (some .boolean) :: wU) RX5) (hret : mRz p l e rm_TR_hasSecondDigit s m args below meth c Q D (cT cy) (cW ad cy) A H0 cX5_hasSecondDigit (r, g, f)) (hK2 : ∀ (z : Int32 × Int32), K2 z = some r → ∀ (ls : Array Slot) (H : Heap) (locs : List Loc), lv_has ls 3 [(0, .ref (ad 29)), (1, .int z.1), (2, .int z.2)] → wH D (cT cy) (cW ad cy) A H0 s g f H locs → W p l e rm_TR_hasSecondDigit s m args below meth c H locs 0 0 Q (F0 m 2 ls [])) (x1 : Int32) (x2 : Int32) (hf : p_TR_hasSecondDigit_L2 K2 x1 x2 g f = some r) : ∀ (ls : Array Slot) (H : Heap) (locs : List Loc), lv_has ls 3 [(0, .ref (ad 29)), (1, .int x1), (2, .int x2)] → wH D (cT cy) (cW ad cy) A H0 s g f H locs → W p l e rm_TR_hasSecondDigit s m args below meth c H locs 0 0 Q (F0 m 2 ls []) := by
  intro ls H locs hl hC
  unfold p_TR_hasSecondDigit_L2 at hf
  refine lv_iload_n Fx.1 Fx.2.1 dX5_hasSecondDigit_2 rfl (lv_at hl 2 rfl) ?_
  refine lv_aload_n Fx.1 Fx.2.1 dX5_hasSecondDigit_3 rfl (lv_at hl 0 rfl) ?_
  refine gg_TR_instrument Fx hC wd_189 dX5_hasSecondDigit_4 ?_
  refine gg_In_strings Fx hC wd_30 dX5_hasSecondDigit_7 ?_
  refine lv_icmp_ge (tgt := 42) Fx.1 Fx.2.1 dX5_hasSecondDigit_10 (by decide) (fun hc => ?_) (fun hc => ?_)
  · replace hf := ift hc hf
    refine lv_iconst (v := (0 : Int32)) Fx.1 Fx.2.1 dX5_hasSecondDigit_42 (by decide) ?_
    obtain rfl := Option.some.inj hf
    exact hret _ _ _ _ dX5_hasSecondDigit_43 z01_0 hC
  · replace hf := iff_ hc hf
    refine lv_aload_n Fx.1 Fx.2.1 dX5_hasSecondDigit_13 rfl (lv_at hl 0 rfl) ?_
    refine lv_iload_n Fx.1 Fx.2.1 dX5_hasSecondDigit_14 rfl (lv_at hl 2 rfl) ?_
    refine lv_iload_n Fx.1 Fx.2.1 dX5_hasSecondDigit_15 rfl (lv_at hl 1 rfl) ?_
    obtain ⟨u1, hu1, hf⟩ := bd_e hf
    refine ca_i (As := [.int x2, .int x1]) (rest := []) Fx hC (k_TR_signIn hu1) (cVU 2 Fx.2.2.2.2 wd_522 wd_523 wd_866 wd_9 wd_524 rfl rfl hd_TR_signIn ⟨Nat.le_of_ble_eq_true rfl, Nat.le_of_ble_eq_true rfl⟩) 29 rfl rfl rfl hl.1 rfl (Nat.le_of_ble_eq_true rfl) dX5_hasSecondDigit_16 (fun H locs hC => ?_)
    obtain ⟨u2, hu2, hf⟩ := bd_e hf
    refine ca_s (As := [.int u1]) (rest := []) Fx hC (k_TR_isDigit hu2) (cSU 1 Fx.2.2.2.2 wd_519 wd_520 wd_9 wd_521 rfl rfl hd_TR_isDigit ⟨Nat.le_of_ble_eq_true rfl, Nat.le_of_ble_eq_true rfl⟩) rfl hl.1 rfl (Nat.le_of_ble_eq_true rfl) dX5_hasSecondDigit_19 (fun H locs hC => ?_)
    refine lv_if_eq (tgt := 36) Fx.1 Fx.2.1 dX5_hasSecondDigit_22 (by decide) (fun hc => ?_) (fun hc => ?_)
    · replace hf := ift hc hf
      obtain ⟨v3, ev3, hf⟩ := lt_e hf
      refine lv_iinc (v := v3) (lv' := [(2, .int v3), (0, .ref (ad 29)), (1, .int x1)]) Fx.1 Fx.2.1 dX5_hasSecondDigit_36 hl (k := 2) rfl ev3.symm (by decide) rfl (fun ls hl => ?_)
      refine lv_goto (tgt := 2) Fx.1 Fx.2.1 dX5_hasSecondDigit_39 (by decide) ?_
      exact hK2 _ hf _ _ _ (lv_sub hl [1, 2, 0] rfl) hC
    · replace hf := iff_ hc hf
      refine lv_aload_n Fx.1 Fx.2.1 dX5_hasSecondDigit_25 rfl (lv_at hl 0 rfl) ?_
      refine lv_iload_n Fx.1 Fx.2.1 dX5_hasSecondDigit_26 rfl (lv_at hl 2 rfl) ?_
      refine lv_iload_n Fx.1 Fx.2.1 dX5_hasSecondDigit_27 rfl (lv_at hl 1 rfl) ?_
      obtain ⟨u4, hu4, hf⟩ := bd_e hf
      refine ca_i (As := [.int x2, .int x1]) (rest := []) Fx hC (k_TR_beginsNumber hu4) (cVU 2 Fx.2.2.2.2 wd_534 wd_535 wd_870 wd_9 wd_536 rfl rfl hd_TR_beginsNumber ⟨Nat.le_of_ble_eq_true rfl, Nat.le_of_ble_eq_true rfl⟩) 29 rfl rfl rfl hl.1 rfl (Nat.le_of_ble_eq_true rfl) dX5_hasSecondDigit_28 (fun H locs hC => ?_)
      refine lv_if_ne (tgt := 36) Fx.1 Fx.2.1 dX5_hasSecondDigit_31 (by decide) (fun hc => ?_) (fun hc => ?_)
      · replace hf := iff_ hc hf
        obtain ⟨v5, ev5, hf⟩ := lt_e hf
        refine lv_iinc (v := v5) (lv' := [(2, .int v5), (0, .ref (ad 29)), (1, .int x1)]) Fx.1 Fx.2.1 dX5_hasSecondDigit_36 hl (k := 2) rfl ev5.symm (by decide) rfl (fun ls hl => ?_)
        refine lv_goto (tgt := 2) Fx.1 Fx.2.1 dX5_hasSecondDigit_39 (by decide) ?_
        exact hK2 _ hf _ _ _ (lv_sub hl [1, 2, 0] rfl) hC
      · replace hf := ift hc hf
        refine lv_iconst (v := (1 : Int32)) Fx.1 Fx.2.1 dX5_hasSecondDigit_34 (by decide) ?_
        obtain rfl := Option.some.inj hf
        exact hret _ _ _ _ dX5_hasSecondDigit_35 z01_1 hC
set_option maxRecDepth 100000 in
set_option maxHeartbeats 4000000 in
theorem t_TR_hasSecondDigit_L2 {p : Program} {l : Launch} {e : Env} {s : State} {m : MethodId} {args : Array Value} {below : List Frame} {meth : Method} {c : Code} {Q : State → Prop} {D : va_G} {ad : Nat → Nat} {cy : Nat → ClassId} {A : Nat → Prop} {H0 : Heap} {r : Int32} {g : sG} {f : sF} (Fx : CallFix p m c cX5_hasSecondDigit 3 s args (Cond.code yX5_hasSecondDigit cX5_hasSecondDigit 3 (some .boolean) :: wU) RX5) (hret : mRz p l e rm_TR_hasSecondDigit s m args below meth c Q D (cT cy) (cW ad cy) A H0 cX5_hasSecondDigit (r, g, f))  (n : Nat) (z : Int32 × Int32) (hz : itr (fun K z => p_TR_hasSecondDigit_L2 K z.1 z.2 g f) n z = some r) : ∀ (ls : Array Slot) (H : Heap) (locs : List Loc), lv_has ls 3 [(0, .ref (ad 29)), (1, .int z.1), (2, .int z.2)] → wH D (cT cy) (cW ad cy) A H0 s g f H locs → W p l e rm_TR_hasSecondDigit s m args below meth c H locs 0 0 Q (F0 m 2 ls []) :=
  itr_all (B := fun K z => p_TR_hasSecondDigit_L2 K z.1 z.2 g f) (r := r) (fun z => ∀ (ls : Array Slot) (H : Heap) (locs : List Loc), lv_has ls 3 [(0, .ref (ad 29)), (1, .int z.1), (2, .int z.2)] → wH D (cT cy) (cW ad cy) A H0 s g f H locs → W p l e rm_TR_hasSecondDigit s m args below meth c H locs 0 0 Q (F0 m 2 ls [])) (fun K hK z h => s_TR_hasSecondDigit_L2 (K2 := K) Fx hret hK z.1 z.2 h) n z hz
noncomputable def p_TR_hasSecondDigit (a1 : Int32) (g : sG) (f : sF) : Option (Int32) := itr (fun K z => p_TR_hasSecondDigit_L2 K z.1 z.2 g f) FUEL (a1, (0 : Int32))
set_option maxRecDepth 100000 in
set_option maxHeartbeats 4000000 in
theorem k_TR_hasSecondDigit {l : Launch} {D : va_G} {ad : Nat → Nat} {cy : Nat → ClassId} {a1 : Int32} {r : Int32} {g : sG} {f : sF} (hf : p_TR_hasSecondDigit a1 g f = some r) : mMi l yX5_hasSecondDigit (Cond.code yX5_hasSecondDigit cX5_hasSecondDigit 3 (some .boolean) :: wU) rm_TR_hasSecondDigit D (cT cy) (cW ad cy) [.ref (ad 29), .int a1] g f (r, g, f) := by
  refine mk_z (by decide) rfl (Nat.le_of_ble_eq_true rfl) ?_
  intro p e s m below meth c Q A H0 Fx hret ls H locs hl hC
  replace hl : lv_has ls 3 [(0, .ref (ad 29)), (1, .int a1)] := hl
  unfold p_TR_hasSecondDigit at hf
  refine lv_iconst (v := (0 : Int32)) Fx.1 Fx.2.1 dX5_hasSecondDigit_0 (by decide) ?_
  refine lv_istore_n (lv' := [(2, .int (0 : Int32)), (0, .ref (ad 29)), (1, .int a1)]) Fx.1 Fx.2.1 dX5_hasSecondDigit_1 rfl hl (by decide) rfl (fun ls hl => ?_)
  exact t_TR_hasSecondDigit_L2 Fx hret _ _ hf _ _ _ (lv_sub hl [1, 2, 0] rfl) hC
/-! FretHands$TabReader.shiftedNumber()I -/
abbrev rm_TR_shiftedNumber : Room := { frames := 4, cells := 0, slots := 0, locals := 88 }
theorem hd_TR_shiftedNumber : yX5_shiftedNumber.cls = RX5 ∧ yX5_shiftedNumber.cls ≠ "java/lang/invoke/MethodHandle" ∧ yX5_shiftedNumber.cls ≠ "java/lang/invoke/VarHandle" ∧ (parseMethodDescriptor yX5_shiftedNumber.desc).map (fun d => d.parameters.length) = some 0 := by decide +kernel
noncomputable def p_TR_shiftedNumber_L16 (K10 : (Int32) → Option (Int32)) (K16 : (Int32 × Int32) → Option (Int32)) (x1 : Int32) (x2 : Int32) (g : sG) (f : sF) : Option (Int32) := (if (g 13) ≤ x2 then lt_ (x1 + (-1 : Int32)) (fun v1 => K10 v1) else Option.bind (p_TR_beginsNumber x1 x2 g f) (fun u2 => (if u2 = 0 then lt_ (x2 + (1 : Int32)) (fun v3 => K16 (x1, v3)) else Option.bind (p_TR_hasSecondDigit x2 g f) (fun u4 => (if u4 = 0 then lt_ (x2 + (1 : Int32)) (fun v5 => K16 (x1, v5)) else Option.bind (p_TR_placeOf x1 x2 g f) (fun u6 => some u6))))))
set_option maxRecDepth 100000 in
set_option maxHeartbeats 4000000 in
theorem s_TR_shiftedNumber_L16 {K10 : (Int32) → Option (Int32)} {K16 : (Int32 × Int32) → Option (Int32)} {p : Program} {l : Launch} {e : Env} {s : State} {m : MethodId} {args : Array Value} {below : List Frame} {meth : Method} {c : Code} {Q : State → Prop} {D : va_G} {ad : Nat → Nat} {cy : Nat → ClassId} {A : Nat → Prop} {H0 : Heap} {r : Int32} {g : sG} {f : sF} (Fx : CallFix p m c cX5_shiftedNumber 3 s args (Cond.code yX5_shiftedNumber cX5_shiftedNumber 3 (some .int) :: wU) RX5) (hret : mRi p l e rm_TR_shiftedNumber s m args below meth c Q D (cT cy) (cW ad cy) A H0 cX5_shiftedNumber (r, g, f)) (hK10 : ∀ (z : Int32), K10 z = some r → ∀ (ls : Array Slot) (H : Heap) (locs : List Loc), lv_has ls 3 [(0, .ref (ad 29)), (1, .int z)] → wH D (cT cy) (cW ad cy) A H0 s g f H locs → W p l e rm_TR_shiftedNumber s m args below meth c H locs 0 0 Q (F0 m 10 ls [])) (hK16 : ∀ (z : Int32 × Int32), K16 z = some r → ∀ (ls : Array Slot) (H : Heap) (locs : List Loc), lv_has ls 3 [(0, .ref (ad 29)), (1, .int z.1), (2, .int z.2)] → wH D (cT cy) (cW ad cy) A H0 s g f H locs → W p l e rm_TR_shiftedNumber s m args below meth c H locs 0 0 Q (F0 m 16 ls [])) (x1 : Int32) (x2 : Int32) (hf : p_TR_shiftedNumber_L16 K10 K16 x1 x2 g f = some r) : ∀ (ls : Array Slot) (H : Heap) (locs : List Loc), lv_has ls 3 [(0, .ref (ad 29)), (1, .int x1), (2, .int x2)] → wH D (cT cy) (cW ad cy) A H0 s g f H locs → W p l e rm_TR_shiftedNumber s m args below meth c H locs 0 0 Q (F0 m 16 ls []) := by
  intro ls H locs hl hC
  unfold p_TR_shiftedNumber_L16 at hf
  refine lv_iload_n Fx.1 Fx.2.1 dX5_shiftedNumber_16 rfl (lv_at hl 2 rfl) ?_
  refine lv_aload_n Fx.1 Fx.2.1 dX5_shiftedNumber_17 rfl (lv_at hl 0 rfl) ?_
  refine gg_TR_lineLength Fx hC wd_192 dX5_shiftedNumber_18 ?_
  refine lv_icmp_ge (tgt := 54) Fx.1 Fx.2.1 dX5_shiftedNumber_21 (by decide) (fun hc => ?_) (fun hc => ?_)
  · replace hf := ift hc hf
    obtain ⟨v1, ev1, hf⟩ := lt_e hf
    refine lv_iinc (v := v1) (lv' := [(1, .int v1), (0, .ref (ad 29)), (2, .int x2)]) Fx.1 Fx.2.1 dX5_shiftedNumber_54 hl (k := 1) rfl ev1.symm (by decide) rfl (fun ls hl => ?_)
    refine lv_goto (tgt := 10) Fx.1 Fx.2.1 dX5_shiftedNumber_57 (by decide) ?_
    exact hK10 _ hf _ _ _ (lv_sub hl [1, 0] rfl) hC
  · replace hf := iff_ hc hf
    refine lv_aload_n Fx.1 Fx.2.1 dX5_shiftedNumber_24 rfl (lv_at hl 0 rfl) ?_
    refine lv_iload_n Fx.1 Fx.2.1 dX5_shiftedNumber_25 rfl (lv_at hl 1 rfl) ?_
    refine lv_iload_n Fx.1 Fx.2.1 dX5_shiftedNumber_26 rfl (lv_at hl 2 rfl) ?_
    obtain ⟨u2, hu2, hf⟩ := bd_e hf
    refine ca_i (As := [.int x1, .int x2]) (rest := []) Fx hC (k_TR_beginsNumber hu2) (cVU 2 Fx.2.2.2.2 wd_534 wd_535 wd_870 wd_9 wd_536 rfl rfl hd_TR_beginsNumber ⟨Nat.le_of_ble_eq_true rfl, Nat.le_of_ble_eq_true rfl⟩) 29 rfl rfl rfl hl.1 rfl (Nat.le_of_ble_eq_true rfl) dX5_shiftedNumber_27 (fun H locs hC => ?_)
    refine lv_if_eq (tgt := 48) Fx.1 Fx.2.1 dX5_shiftedNumber_30 (by decide) (fun hc => ?_) (fun hc => ?_)
    · replace hf := ift hc hf
      obtain ⟨v3, ev3, hf⟩ := lt_e hf
      refine lv_iinc (v := v3) (lv' := [(2, .int v3), (0, .ref (ad 29)), (1, .int x1)]) Fx.1 Fx.2.1 dX5_shiftedNumber_48 hl (k := 2) rfl ev3.symm (by decide) rfl (fun ls hl => ?_)
      refine lv_goto (tgt := 16) Fx.1 Fx.2.1 dX5_shiftedNumber_51 (by decide) ?_
      exact hK16 _ hf _ _ _ (lv_sub hl [1, 2, 0] rfl) hC
    · replace hf := iff_ hc hf
      refine lv_aload_n Fx.1 Fx.2.1 dX5_shiftedNumber_33 rfl (lv_at hl 0 rfl) ?_
      refine lv_iload_n Fx.1 Fx.2.1 dX5_shiftedNumber_34 rfl (lv_at hl 2 rfl) ?_
      obtain ⟨u4, hu4, hf⟩ := bd_e hf
      refine ca_i (As := [.int x2]) (rest := []) Fx hC (k_TR_hasSecondDigit hu4) (cVU 1 Fx.2.2.2.2 wd_546 wd_547 wd_874 wd_9 wd_548 rfl rfl hd_TR_hasSecondDigit ⟨Nat.le_of_ble_eq_true rfl, Nat.le_of_ble_eq_true rfl⟩) 29 rfl rfl rfl hl.1 rfl (Nat.le_of_ble_eq_true rfl) dX5_shiftedNumber_35 (fun H locs hC => ?_)
      refine lv_if_eq (tgt := 48) Fx.1 Fx.2.1 dX5_shiftedNumber_38 (by decide) (fun hc => ?_) (fun hc => ?_)
      · replace hf := ift hc hf
        obtain ⟨v5, ev5, hf⟩ := lt_e hf
        refine lv_iinc (v := v5) (lv' := [(2, .int v5), (0, .ref (ad 29)), (1, .int x1)]) Fx.1 Fx.2.1 dX5_shiftedNumber_48 hl (k := 2) rfl ev5.symm (by decide) rfl (fun ls hl => ?_)
        refine lv_goto (tgt := 16) Fx.1 Fx.2.1 dX5_shiftedNumber_51 (by decide) ?_
        exact hK16 _ hf _ _ _ (lv_sub hl [1, 2, 0] rfl) hC
      · replace hf := iff_ hc hf
        refine lv_aload_n Fx.1 Fx.2.1 dX5_shiftedNumber_41 rfl (lv_at hl 0 rfl) ?_
        refine lv_iload_n Fx.1 Fx.2.1 dX5_shiftedNumber_42 rfl (lv_at hl 1 rfl) ?_
        refine lv_iload_n Fx.1 Fx.2.1 dX5_shiftedNumber_43 rfl (lv_at hl 2 rfl) ?_
        obtain ⟨u6, hu6, hf⟩ := bd_e hf
        refine ca_i (As := [.int x1, .int x2]) (rest := []) Fx hC (k_TR_placeOf hu6) (cVU 2 Fx.2.2.2.2 wd_525 wd_526 wd_867 wd_9 wd_527 rfl rfl hd_TR_placeOf ⟨Nat.le_of_ble_eq_true rfl, Nat.le_of_ble_eq_true rfl⟩) 29 rfl rfl rfl hl.1 rfl (Nat.le_of_ble_eq_true rfl) dX5_shiftedNumber_44 (fun H locs hC => ?_)
        obtain rfl := Option.some.inj hf
        exact hret _ _ _ _ dX5_shiftedNumber_47 hC
set_option maxRecDepth 100000 in
set_option maxHeartbeats 4000000 in
theorem t_TR_shiftedNumber_L16 {K10 : (Int32) → Option (Int32)} {p : Program} {l : Launch} {e : Env} {s : State} {m : MethodId} {args : Array Value} {below : List Frame} {meth : Method} {c : Code} {Q : State → Prop} {D : va_G} {ad : Nat → Nat} {cy : Nat → ClassId} {A : Nat → Prop} {H0 : Heap} {r : Int32} {g : sG} {f : sF} (Fx : CallFix p m c cX5_shiftedNumber 3 s args (Cond.code yX5_shiftedNumber cX5_shiftedNumber 3 (some .int) :: wU) RX5) (hret : mRi p l e rm_TR_shiftedNumber s m args below meth c Q D (cT cy) (cW ad cy) A H0 cX5_shiftedNumber (r, g, f)) (hK10 : ∀ (z : Int32), K10 z = some r → ∀ (ls : Array Slot) (H : Heap) (locs : List Loc), lv_has ls 3 [(0, .ref (ad 29)), (1, .int z)] → wH D (cT cy) (cW ad cy) A H0 s g f H locs → W p l e rm_TR_shiftedNumber s m args below meth c H locs 0 0 Q (F0 m 10 ls [])) (n : Nat) (z : Int32 × Int32) (hz : itr (fun K z => p_TR_shiftedNumber_L16 K10 K z.1 z.2 g f) n z = some r) : ∀ (ls : Array Slot) (H : Heap) (locs : List Loc), lv_has ls 3 [(0, .ref (ad 29)), (1, .int z.1), (2, .int z.2)] → wH D (cT cy) (cW ad cy) A H0 s g f H locs → W p l e rm_TR_shiftedNumber s m args below meth c H locs 0 0 Q (F0 m 16 ls []) :=
  itr_all (B := fun K z => p_TR_shiftedNumber_L16 K10 K z.1 z.2 g f) (r := r) (fun z => ∀ (ls : Array Slot) (H : Heap) (locs : List Loc), lv_has ls 3 [(0, .ref (ad 29)), (1, .int z.1), (2, .int z.2)] → wH D (cT cy) (cW ad cy) A H0 s g f H locs → W p l e rm_TR_shiftedNumber s m args below meth c H locs 0 0 Q (F0 m 16 ls [])) (fun K hK z h => s_TR_shiftedNumber_L16 (K16 := K) Fx hret hK10 hK z.1 z.2 h) n z hz
noncomputable def p_TR_shiftedNumber_L10 (K10 : (Int32) → Option (Int32)) (x1 : Int32) (g : sG) (f : sF) : Option (Int32) := (if x1 < 0 then some (-1 : Int32) else itr (fun K z => p_TR_shiftedNumber_L16 K10 K z.1 z.2 g f) FUEL (x1, (1 : Int32)))
set_option maxRecDepth 100000 in
set_option maxHeartbeats 4000000 in
theorem s_TR_shiftedNumber_L10 {K10 : (Int32) → Option (Int32)} {p : Program} {l : Launch} {e : Env} {s : State} {m : MethodId} {args : Array Value} {below : List Frame} {meth : Method} {c : Code} {Q : State → Prop} {D : va_G} {ad : Nat → Nat} {cy : Nat → ClassId} {A : Nat → Prop} {H0 : Heap} {r : Int32} {g : sG} {f : sF} (Fx : CallFix p m c cX5_shiftedNumber 3 s args (Cond.code yX5_shiftedNumber cX5_shiftedNumber 3 (some .int) :: wU) RX5) (hret : mRi p l e rm_TR_shiftedNumber s m args below meth c Q D (cT cy) (cW ad cy) A H0 cX5_shiftedNumber (r, g, f)) (hK10 : ∀ (z : Int32), K10 z = some r → ∀ (ls : Array Slot) (H : Heap) (locs : List Loc), lv_has ls 3 [(0, .ref (ad 29)), (1, .int z)] → wH D (cT cy) (cW ad cy) A H0 s g f H locs → W p l e rm_TR_shiftedNumber s m args below meth c H locs 0 0 Q (F0 m 10 ls [])) (x1 : Int32) (hf : p_TR_shiftedNumber_L10 K10 x1 g f = some r) : ∀ (ls : Array Slot) (H : Heap) (locs : List Loc), lv_has ls 3 [(0, .ref (ad 29)), (1, .int x1)] → wH D (cT cy) (cW ad cy) A H0 s g f H locs → W p l e rm_TR_shiftedNumber s m args below meth c H locs 0 0 Q (F0 m 10 ls []) := by
  intro ls H locs hl hC
  unfold p_TR_shiftedNumber_L10 at hf
  refine lv_iload_n Fx.1 Fx.2.1 dX5_shiftedNumber_10 rfl (lv_at hl 1 rfl) ?_
  refine lv_if_lt (tgt := 60) Fx.1 Fx.2.1 dX5_shiftedNumber_11 (by decide) (fun hc => ?_) (fun hc => ?_)
  · replace hf := ift hc hf
    refine lv_iconst (v := (-1 : Int32)) Fx.1 Fx.2.1 dX5_shiftedNumber_60 (by decide) ?_
    obtain rfl := Option.some.inj hf
    exact hret _ _ _ _ dX5_shiftedNumber_61 hC
  · replace hf := iff_ hc hf
    refine lv_iconst (v := (1 : Int32)) Fx.1 Fx.2.1 dX5_shiftedNumber_14 (by decide) ?_
    refine lv_istore_n (lv' := [(2, .int (1 : Int32)), (0, .ref (ad 29)), (1, .int x1)]) Fx.1 Fx.2.1 dX5_shiftedNumber_15 rfl hl (by decide) rfl (fun ls hl => ?_)
    exact t_TR_shiftedNumber_L16 Fx hret hK10 _ _ hf _ _ _ (lv_sub hl [1, 2, 0] rfl) hC
set_option maxRecDepth 100000 in
set_option maxHeartbeats 4000000 in
theorem t_TR_shiftedNumber_L10 {p : Program} {l : Launch} {e : Env} {s : State} {m : MethodId} {args : Array Value} {below : List Frame} {meth : Method} {c : Code} {Q : State → Prop} {D : va_G} {ad : Nat → Nat} {cy : Nat → ClassId} {A : Nat → Prop} {H0 : Heap} {r : Int32} {g : sG} {f : sF} (Fx : CallFix p m c cX5_shiftedNumber 3 s args (Cond.code yX5_shiftedNumber cX5_shiftedNumber 3 (some .int) :: wU) RX5) (hret : mRi p l e rm_TR_shiftedNumber s m args below meth c Q D (cT cy) (cW ad cy) A H0 cX5_shiftedNumber (r, g, f))  (n : Nat) (z : Int32) (hz : itr (fun K z => p_TR_shiftedNumber_L10 K z g f) n z = some r) : ∀ (ls : Array Slot) (H : Heap) (locs : List Loc), lv_has ls 3 [(0, .ref (ad 29)), (1, .int z)] → wH D (cT cy) (cW ad cy) A H0 s g f H locs → W p l e rm_TR_shiftedNumber s m args below meth c H locs 0 0 Q (F0 m 10 ls []) :=
  itr_all (B := fun K z => p_TR_shiftedNumber_L10 K z g f) (r := r) (fun z => ∀ (ls : Array Slot) (H : Heap) (locs : List Loc), lv_has ls 3 [(0, .ref (ad 29)), (1, .int z)] → wH D (cT cy) (cW ad cy) A H0 s g f H locs → W p l e rm_TR_shiftedNumber s m args below meth c H locs 0 0 Q (F0 m 10 ls [])) (fun K hK z h => s_TR_shiftedNumber_L10 (K10 := K) Fx hret hK z h) n z hz
noncomputable def p_TR_shiftedNumber  (g : sG) (f : sF) : Option (Int32) := lt_ ((g 0) - (1 : Int32)) (fun v1 => itr (fun K z => p_TR_shiftedNumber_L10 K z g f) FUEL v1)
set_option maxRecDepth 100000 in
set_option maxHeartbeats 4000000 in
theorem k_TR_shiftedNumber {l : Launch} {D : va_G} {ad : Nat → Nat} {cy : Nat → ClassId}  {r : Int32} {g : sG} {f : sF} (hf : p_TR_shiftedNumber  g f = some r) : mMi l yX5_shiftedNumber (Cond.code yX5_shiftedNumber cX5_shiftedNumber 3 (some .int) :: wU) rm_TR_shiftedNumber D (cT cy) (cW ad cy) [.ref (ad 29)] g f (r, g, f) := by
  refine mk_i (by decide) rfl (Nat.le_of_ble_eq_true rfl) ?_
  intro p e s m below meth c Q A H0 Fx hret ls H locs hl hC
  replace hl : lv_has ls 3 [(0, .ref (ad 29))] := hl
  unfold p_TR_shiftedNumber at hf
  refine lv_aload_n Fx.1 Fx.2.1 dX5_shiftedNumber_0 rfl (lv_at hl 0 rfl) ?_
  refine gg_TR_instrument Fx hC wd_189 dX5_shiftedNumber_1 ?_
  refine gg_In_strings Fx hC wd_30 dX5_shiftedNumber_4 ?_
  refine lv_iconst (v := (1 : Int32)) Fx.1 Fx.2.1 dX5_shiftedNumber_7 (by decide) ?_
  refine lv_isub Fx.1 Fx.2.1 dX5_shiftedNumber_8 ?_
  obtain ⟨v1, ev1, hf⟩ := lt_e hf
  refine tpi ev1 ?_
  refine lv_istore_n (lv' := [(1, .int v1), (0, .ref (ad 29))]) Fx.1 Fx.2.1 dX5_shiftedNumber_9 rfl hl (by decide) rfl (fun ls hl => ?_)
  exact t_TR_shiftedNumber_L10 Fx hret _ _ hf _ _ _ (lv_sub hl [1, 0] rfl) hC
/-! FretHands$Instrument.pitchBehindCapo(II)I -/
abbrev rm_In_pitchBehindCapo : Room := { frames := 1, cells := 0, slots := 0, locals := 21 }
theorem hd_In_pitchBehindCapo : yX1_pitchBehindCapo.cls = RX1 ∧ yX1_pitchBehindCapo.cls ≠ "java/lang/invoke/MethodHandle" ∧ yX1_pitchBehindCapo.cls ≠ "java/lang/invoke/VarHandle" ∧ (parseMethodDescriptor yX1_pitchBehindCapo.desc).map (fun d => d.parameters.length) = some 2 := by decide +kernel
noncomputable def p_In_pitchBehindCapo (a1 : Int32) (a2 : Int32) (g : sG) (f : sF) : Option (Int32) := Option.bind (p_In_hasString a1 g f) (fun u1 => (if u1 = 0 then some (-1 : Int32) else (if a1 < 0 ∨ 7 ≤ a1.toNatClampNeg then none else some (((f 1 a1.toNatClampNeg) + (g 2)) + a2))))
set_option maxRecDepth 100000 in
set_option maxHeartbeats 4000000 in
theorem k_In_pitchBehindCapo {l : Launch} {D : va_G} {ad : Nat → Nat} {cy : Nat → ClassId} {a1 : Int32} {a2 : Int32} {r : Int32} {g : sG} {f : sF} (hf : p_In_pitchBehindCapo a1 a2 g f = some r) : mMi l yX1_pitchBehindCapo (Cond.code yX1_pitchBehindCapo cX1_pitchBehindCapo 3 (some .int) :: wU) rm_In_pitchBehindCapo D (cT cy) (cW ad cy) [.ref (ad 2), .int a1, .int a2] g f (r, g, f) := by
  refine mk_i (by decide) rfl (Nat.le_of_ble_eq_true rfl) ?_
  intro p e s m below meth c Q A H0 Fx hret ls H locs hl hC
  replace hl : lv_has ls 3 [(0, .ref (ad 2)), (1, .int a1), (2, .int a2)] := hl
  unfold p_In_pitchBehindCapo at hf
  refine lv_aload_n Fx.1 Fx.2.1 dX1_pitchBehindCapo_0 rfl (lv_at hl 0 rfl) ?_
  refine lv_iload_n Fx.1 Fx.2.1 dX1_pitchBehindCapo_1 rfl (lv_at hl 1 rfl) ?_
  obtain ⟨u1, hu1, hf⟩ := bd_e hf
  refine ca_i (As := [.int a1]) (rest := []) Fx hC (k_In_hasString hu1) (cVU 1 Fx.2.2.2.2 wd_331 wd_295 wd_296 wd_2 wd_297 rfl rfl hd_In_hasString ⟨Nat.le_of_ble_eq_true rfl, Nat.le_of_ble_eq_true rfl⟩) 2 rfl rfl rfl hl.1 rfl (Nat.le_of_ble_eq_true rfl) dX1_pitchBehindCapo_2 (fun H locs hC => ?_)
  refine lv_if_eq (tgt := 24) Fx.1 Fx.2.1 dX1_pitchBehindCapo_5 (by decide) (fun hc => ?_) (fun hc => ?_)
  · replace hf := ift hc hf
    refine lv_iconst (v := (-1 : Int32)) Fx.1 Fx.2.1 dX1_pitchBehindCapo_24 (by decide) ?_
    obtain rfl := Option.some.inj hf
    exact hret _ _ _ _ dX1_pitchBehindCapo_25 hC
  · replace hf := iff_ hc hf
    refine lv_aload_n Fx.1 Fx.2.1 dX1_pitchBehindCapo_8 rfl (lv_at hl 0 rfl) ?_
    refine gg_In_openPitches Fx hC wd_26 dX1_pitchBehindCapo_9 ?_
    refine lv_iload_n Fx.1 Fx.2.1 dX1_pitchBehindCapo_12 rfl (lv_at hl 1 rfl) ?_
    obtain ⟨hi2, hf⟩ := gd_e hf
    refine ld_In_openPitches Fx hC hi2 dX1_pitchBehindCapo_13 ?_
    refine lv_aload_n Fx.1 Fx.2.1 dX1_pitchBehindCapo_14 rfl (lv_at hl 0 rfl) ?_
    refine gg_In_capoFret Fx hC wd_37 dX1_pitchBehindCapo_15 ?_
    refine lv_iadd Fx.1 Fx.2.1 dX1_pitchBehindCapo_18 ?_
    refine lv_iload_n Fx.1 Fx.2.1 dX1_pitchBehindCapo_19 rfl (lv_at hl 2 rfl) ?_
    refine lv_iadd Fx.1 Fx.2.1 dX1_pitchBehindCapo_20 ?_
    refine lv_goto (tgt := 25) Fx.1 Fx.2.1 dX1_pitchBehindCapo_21 (by decide) ?_
    obtain rfl := Option.some.inj hf
    exact hret _ _ _ _ dX1_pitchBehindCapo_25 hC
