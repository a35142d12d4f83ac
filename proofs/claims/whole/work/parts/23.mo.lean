/-! FretHandsModel.plan()I -/
abbrev rm_M_plan : Room := { frames := 4, cells := 0, slots := 0, locals := 108 }
theorem hd_M_plan : yX10_plan.cls = RX10 ∧ yX10_plan.cls ≠ "java/lang/invoke/MethodHandle" ∧ yX10_plan.cls ≠ "java/lang/invoke/VarHandle" ∧ (parseMethodDescriptor yX10_plan.desc).map (fun d => d.parameters.length) = some 0 := by decide +kernel
noncomputable def p_M_plan_J97 (K42 : (Int32 × Int32 × Int32 × sG × sF) → Option (Int32 × sG × sF)) (x1 : Int32) (x3 : Int32) (x4 : Int32) (g : sG) (f : sF) : Option (Int32 × sG × sF) := Option.bind (p_M_takes x3 x4 g f) (fun u1 => lt_ (x3 + (1 : Int32)) (fun v2 => K42 (x1, x4, v2, u1.1, u1.2)))
set_option maxRecDepth 100000 in
set_option maxHeartbeats 4000000 in
theorem s_M_plan_J97 {K42 : (Int32 × Int32 × Int32 × sG × sF) → Option (Int32 × sG × sF)} {p : Program} {l : Launch} {e : Env} {s : State} {m : MethodId} {args : Array Value} {below : List Frame} {meth : Method} {c : Code} {Q : State → Prop} {D : va_G} {ad : Nat → Nat} {cy : Nat → ClassId} {A : Nat → Prop} {H0 : Heap} {u : Int32 × sG × sF} (Fx : CallFix p m c cX10_plan 5 s args (Cond.code yX10_plan cX10_plan 5 (some .int) :: wU) RX10) (hret : mRi p l e rm_M_plan s m args below meth c Q D (mT cy) (mW ad cy) A H0 cX10_plan u) (hK42 : ∀ (z : Int32 × Int32 × Int32 × sG × sF), K42 z = some u → ∀ (ls : Array Slot) (H : Heap) (locs : List Loc), lv_has ls 5 [(0, .ref (ad 0)), (1, .int z.1), (2, .int z.2.1), (3, .int z.2.2.1)] → wH D (mT cy) (mW ad cy) A H0 s z.2.2.2.1 z.2.2.2.2 H locs → W p l e rm_M_plan s m args below meth c H locs 0 0 Q (F0 m 42 ls [])) (x1 : Int32) (x3 : Int32) (x4 : Int32) (g : sG) (f : sF) (hf : p_M_plan_J97 K42 x1 x3 x4 g f = some u) : ∀ (ls : Array Slot) (H : Heap) (locs : List Loc), lv_has ls 5 [(0, .ref (ad 0)), (1, .int x1), (3, .int x3), (4, .int x4)] → wH D (mT cy) (mW ad cy) A H0 s g f H locs → W p l e rm_M_plan s m args below meth c H locs 0 0 Q (F0 m 97 ls []) := by
  intro ls H locs hl hC
  unfold p_M_plan_J97 at hf
  refine lv_aload_n Fx.1 Fx.2.1 dX10_plan_97 rfl (lv_at hl 0 rfl) ?_
  refine lv_iload_n Fx.1 Fx.2.1 dX10_plan_98 rfl (lv_at hl 2 rfl) ?_
  refine lv_iload Fx.1 Fx.2.1 dX10_plan_99 (lv_at hl 3 rfl) ?_
  obtain ⟨u1, hu1, hf⟩ := bd_e hf
  refine ca_v (As := [.int x3, .int x4]) (rest := []) Fx hC (k_M_takes hu1) (cVU 2 Fx.2.2.2.2 wd_772 wd_773 wd_895 wd_10 wd_774 rfl rfl hd_M_takes ⟨Nat.le_of_ble_eq_true rfl, Nat.le_of_ble_eq_true rfl⟩) 0 rfl rfl rfl hl.1 rfl (Nat.le_of_ble_eq_true rfl) dX10_plan_101 (fun H locs hC => ?_)
  refine lv_iload Fx.1 Fx.2.1 dX10_plan_104 (lv_at hl 3 rfl) ?_
  refine lv_istore_n (lv' := [(2, .int x4), (0, .ref (ad 0)), (1, .int x1), (3, .int x3), (4, .int x4)]) Fx.1 Fx.2.1 dX10_plan_106 rfl hl (by decide) rfl (fun ls hl => ?_)
  obtain ⟨v2, ev2, hf⟩ := lt_e hf
  refine lv_iinc (v := v2) (lv' := [(3, .int v2), (2, .int x4), (0, .ref (ad 0)), (1, .int x1), (4, .int x4)]) Fx.1 Fx.2.1 dX10_plan_107 hl (k := 3) rfl ev2.symm (by decide) rfl (fun ls hl => ?_)
  refine lv_goto (tgt := 42) Fx.1 Fx.2.1 dX10_plan_110 (by decide) ?_
  exact hK42 _ hf _ _ _ (lv_sub hl [2, 3, 1, 0] rfl) hC
noncomputable def p_M_plan_L58 (K42 : (Int32 × Int32 × Int32 × sG × sF) → Option (Int32 × sG × sF)) (K58 : (Int32 × Int32 × Int32 × Int32 × sG × sF) → Option (Int32 × sG × sF)) (x1 : Int32) (x2 : Int32) (x3 : Int32) (x4 : Int32) (g : sG) (f : sF) : Option (Int32 × sG × sF) := Option.bind (p_M_at_ x3 g f) (fun u1 => (if (u1 + x4) < 0 ∨ 1000 ≤ (u1 + x4).toNatClampNeg then none else (if (f 16 (u1 + x4).toNatClampNeg) = 0 then lt_ (x4 + (1 : Int32)) (fun v3 => K58 (x1, x2, x3, v3, g, f)) else (if x2 = (-1 : Int32) then p_M_plan_J97 K42 x1 x3 x4 g f else Option.bind (p_M_goesOn (x3 - (1 : Int32)) x2 x4 g f) (fun u4 => (if u4 = 0 then lt_ (x4 + (1 : Int32)) (fun v5 => K58 (x1, x2, x3, v5, g, f)) else p_M_plan_J97 K42 x1 x3 x4 g f))))))
set_option maxRecDepth 100000 in
set_option maxHeartbeats 4000000 in
theorem s_M_plan_L58 {K42 : (Int32 × Int32 × Int32 × sG × sF) → Option (Int32 × sG × sF)} {K58 : (Int32 × Int32 × Int32 × Int32 × sG × sF) → Option (Int32 × sG × sF)} {p : Program} {l : Launch} {e : Env} {s : State} {m : MethodId} {args : Array Value} {below : List Frame} {meth : Method} {c : Code} {Q : State → Prop} {D : va_G} {ad : Nat → Nat} {cy : Nat → ClassId} {A : Nat → Prop} {H0 : Heap} {u : Int32 × sG × sF} (Fx : CallFix p m c cX10_plan 5 s args (Cond.code yX10_plan cX10_plan 5 (some .int) :: wU) RX10) (hret : mRi p l e rm_M_plan s m args below meth c Q D (mT cy) (mW ad cy) A H0 cX10_plan u) (hK42 : ∀ (z : Int32 × Int32 × Int32 × sG × sF), K42 z = some u → ∀ (ls : Array Slot) (H : Heap) (locs : List Loc), lv_has ls 5 [(0, .ref (ad 0)), (1, .int z.1), (2, .int z.2.1), (3, .int z.2.2.1)] → wH D (mT cy) (mW ad cy) A H0 s z.2.2.2.1 z.2.2.2.2 H locs → W p l e rm_M_plan s m args below meth c H locs 0 0 Q (F0 m 42 ls [])) (hK58 : ∀ (z : Int32 × Int32 × Int32 × Int32 × sG × sF), K58 z = some u → ∀ (ls : Array Slot) (H : Heap) (locs : List Loc), lv_has ls 5 [(0, .ref (ad 0)), (1, .int z.1), (2, .int z.2.1), (3, .int z.2.2.1), (4, .int z.2.2.2.1)] → wH D (mT cy) (mW ad cy) A H0 s z.2.2.2.2.1 z.2.2.2.2.2 H locs → W p l e rm_M_plan s m args below meth c H locs 0 0 Q (F0 m 58 ls [])) (x1 : Int32) (x2 : Int32) (x3 : Int32) (x4 : Int32) (g : sG) (f : sF) (hf : p_M_plan_L58 K42 K58 x1 x2 x3 x4 g f = some u) : ∀ (ls : Array Slot) (H : Heap) (locs : List Loc), lv_has ls 5 [(0, .ref (ad 0)), (1, .int x1), (2, .int x2), (3, .int x3), (4, .int x4)] → wH D (mT cy) (mW ad cy) A H0 s g f H locs → W p l e rm_M_plan s m args below meth c H locs 0 0 Q (F0 m 58 ls []) := by
  intro ls H locs hl hC
  unfold p_M_plan_L58 at hf
  refine lv_aload_n Fx.1 Fx.2.1 dX10_plan_58 rfl (lv_at hl 0 rfl) ?_
  refine gg_M_isOn Fx hC wd_614 dX10_plan_59 ?_
  refine lv_iload_n Fx.1 Fx.2.1 dX10_plan_62 rfl (lv_at hl 3 rfl) ?_
  obtain ⟨u1, hu1, hf⟩ := bd_e hf
  refine ca_s (As := [.int x3]) (rest := [.ref (ad 17)]) Fx hC (k_M_at_ hu1) (cSU 1 Fx.2.2.2.2 wd_755 wd_756 wd_10 wd_757 rfl rfl hd_M_at_ ⟨Nat.le_of_ble_eq_true rfl, Nat.le_of_ble_eq_true rfl⟩) rfl hl.1 rfl (Nat.le_of_ble_eq_true rfl) dX10_plan_63 (fun H locs hC => ?_)
  refine lv_iload Fx.1 Fx.2.1 dX10_plan_66 (lv_at hl 4 rfl) ?_
  refine lv_iadd Fx.1 Fx.2.1 dX10_plan_68 ?_
  obtain ⟨hi2, hf⟩ := gd_e hf
  refine ld_M_isOn Fx hC hi2 dX10_plan_69 ?_
  refine lv_if_eq (tgt := 91) Fx.1 Fx.2.1 dX10_plan_70 (by decide) (fun hc => ?_) (fun hc => ?_)
  · replace hf := ift hc hf
    obtain ⟨v3, ev3, hf⟩ := lt_e hf
    refine lv_iinc (v := v3) (lv' := [(4, .int v3), (0, .ref (ad 0)), (1, .int x1), (2, .int x2), (3, .int x3)]) Fx.1 Fx.2.1 dX10_plan_91 hl (k := 4) rfl ev3.symm (by decide) rfl (fun ls hl => ?_)
    refine lv_goto (tgt := 58) Fx.1 Fx.2.1 dX10_plan_94 (by decide) ?_
    exact hK58 _ hf _ _ _ (lv_sub hl [1, 2, 3, 4, 0] rfl) hC
  · replace hf := iff_ hc hf
    refine lv_iload_n Fx.1 Fx.2.1 dX10_plan_73 rfl (lv_at hl 2 rfl) ?_
    refine lv_iconst (v := (-1 : Int32)) Fx.1 Fx.2.1 dX10_plan_74 (by decide) ?_
    refine lv_icmp_eq (tgt := 97) Fx.1 Fx.2.1 dX10_plan_75 (by decide) (fun hc => ?_) (fun hc => ?_)
    · replace hf := ift hc hf
      exact s_M_plan_J97 Fx hret hK42 _ _ _ _ _  hf _ _ _ (lv_sub hl [0, 1, 3, 4] rfl) hC
    · replace hf := iff_ hc hf
      refine lv_aload_n Fx.1 Fx.2.1 dX10_plan_78 rfl (lv_at hl 0 rfl) ?_
      refine lv_iload_n Fx.1 Fx.2.1 dX10_plan_79 rfl (lv_at hl 3 rfl) ?_
      refine lv_iconst (v := (1 : Int32)) Fx.1 Fx.2.1 dX10_plan_80 (by decide) ?_
      refine lv_isub Fx.1 Fx.2.1 dX10_plan_81 ?_
      refine lv_iload_n Fx.1 Fx.2.1 dX10_plan_82 rfl (lv_at hl 2 rfl) ?_
      refine lv_iload Fx.1 Fx.2.1 dX10_plan_83 (lv_at hl 4 rfl) ?_
      obtain ⟨u4, hu4, hf⟩ := bd_e hf
      refine ca_i (As := [.int (x3 - (1 : Int32)), .int x2, .int x4]) (rest := []) Fx hC (k_M_goesOn hu4) (cVU 3 Fx.2.2.2.2 wd_769 wd_770 wd_894 wd_10 wd_771 rfl rfl hd_M_goesOn ⟨Nat.le_of_ble_eq_true rfl, Nat.le_of_ble_eq_true rfl⟩) 0 rfl rfl rfl hl.1 rfl (Nat.le_of_ble_eq_true rfl) dX10_plan_85 (fun H locs hC => ?_)
      refine lv_if_ne (tgt := 97) Fx.1 Fx.2.1 dX10_plan_88 (by decide) (fun hc => ?_) (fun hc => ?_)
      · replace hf := iff_ hc hf
        exact s_M_plan_J97 Fx hret hK42 _ _ _ _ _  hf _ _ _ (lv_sub hl [0, 1, 3, 4] rfl) hC
      · replace hf := ift hc hf
        obtain ⟨v5, ev5, hf⟩ := lt_e hf
        refine lv_iinc (v := v5) (lv' := [(4, .int v5), (0, .ref (ad 0)), (1, .int x1), (2, .int x2), (3, .int x3)]) Fx.1 Fx.2.1 dX10_plan_91 hl (k := 4) rfl ev5.symm (by decide) rfl (fun ls hl => ?_)
        refine lv_goto (tgt := 58) Fx.1 Fx.2.1 dX10_plan_94 (by decide) ?_
        exact hK58 _ hf _ _ _ (lv_sub hl [1, 2, 3, 4, 0] rfl) hC
set_option maxRecDepth 100000 in
set_option maxHeartbeats 4000000 in
theorem t_M_plan_L58 {K42 : (Int32 × Int32 × Int32 × sG × sF) → Option (Int32 × sG × sF)} {p : Program} {l : Launch} {e : Env} {s : State} {m : MethodId} {args : Array Value} {below : List Frame} {meth : Method} {c : Code} {Q : State → Prop} {D : va_G} {ad : Nat → Nat} {cy : Nat → ClassId} {A : Nat → Prop} {H0 : Heap} {u : Int32 × sG × sF} (Fx : CallFix p m c cX10_plan 5 s args (Cond.code yX10_plan cX10_plan 5 (some .int) :: wU) RX10) (hret : mRi p l e rm_M_plan s m args below meth c Q D (mT cy) (mW ad cy) A H0 cX10_plan u) (hK42 : ∀ (z : Int32 × Int32 × Int32 × sG × sF), K42 z = some u → ∀ (ls : Array Slot) (H : Heap) (locs : List Loc), lv_has ls 5 [(0, .ref (ad 0)), (1, .int z.1), (2, .int z.2.1), (3, .int z.2.2.1)] → wH D (mT cy) (mW ad cy) A H0 s z.2.2.2.1 z.2.2.2.2 H locs → W p l e rm_M_plan s m args below meth c H locs 0 0 Q (F0 m 42 ls [])) (n : Nat) (z : Int32 × Int32 × Int32 × Int32 × sG × sF) (hz : itr (fun K z => p_M_plan_L58 K42 K z.1 z.2.1 z.2.2.1 z.2.2.2.1 z.2.2.2.2.1 z.2.2.2.2.2) n z = some u) : ∀ (ls : Array Slot) (H : Heap) (locs : List Loc), lv_has ls 5 [(0, .ref (ad 0)), (1, .int z.1), (2, .int z.2.1), (3, .int z.2.2.1), (4, .int z.2.2.2.1)] → wH D (mT cy) (mW ad cy) A H0 s z.2.2.2.2.1 z.2.2.2.2.2 H locs → W p l e rm_M_plan s m args below meth c H locs 0 0 Q (F0 m 58 ls []) :=
  itr_all (B := fun K z => p_M_plan_L58 K42 K z.1 z.2.1 z.2.2.1 z.2.2.2.1 z.2.2.2.2.1 z.2.2.2.2.2) (r := u) (fun z => ∀ (ls : Array Slot) (H : Heap) (locs : List Loc), lv_has ls 5 [(0, .ref (ad 0)), (1, .int z.1), (2, .int z.2.1), (3, .int z.2.2.1), (4, .int z.2.2.2.1)] → wH D (mT cy) (mW ad cy) A H0 s z.2.2.2.2.1 z.2.2.2.2.2 H locs → W p l e rm_M_plan s m args below meth c H locs 0 0 Q (F0 m 58 ls [])) (fun K hK z h => s_M_plan_L58 (K58 := K) Fx hret hK42 hK z.1 z.2.1 z.2.2.1 z.2.2.2.1 z.2.2.2.2.1 z.2.2.2.2.2 h) n z hz
noncomputable def p_M_plan_L42 (K42 : (Int32 × Int32 × Int32 × sG × sF) → Option (Int32 × sG × sF)) (x1 : Int32) (x2 : Int32) (x3 : Int32) (g : sG) (f : sF) : Option (Int32 × sG × sF) := (if (g 3) ≤ x3 then some (x1, g, f) else lt_ ((g 2) + (1 : Int32)) (fun v1 => itr (fun K z => p_M_plan_L58 K42 K z.1 z.2.1 z.2.2.1 z.2.2.2.1 z.2.2.2.2.1 z.2.2.2.2.2) FUEL (x1, x2, x3, v1, g, f)))
set_option maxRecDepth 100000 in
set_option maxHeartbeats 4000000 in
theorem s_M_plan_L42 {K42 : (Int32 × Int32 × Int32 × sG × sF) → Option (Int32 × sG × sF)} {p : Program} {l : Launch} {e : Env} {s : State} {m : MethodId} {args : Array Value} {below : List Frame} {meth : Method} {c : Code} {Q : State → Prop} {D : va_G} {ad : Nat → Nat} {cy : Nat → ClassId} {A : Nat → Prop} {H0 : Heap} {u : Int32 × sG × sF} (Fx : CallFix p m c cX10_plan 5 s args (Cond.code yX10_plan cX10_plan 5 (some .int) :: wU) RX10) (hret : mRi p l e rm_M_plan s m args below meth c Q D (mT cy) (mW ad cy) A H0 cX10_plan u) (hK42 : ∀ (z : Int32 × Int32 × Int32 × sG × sF), K42 z = some u → ∀ (ls : Array Slot) (H : Heap) (locs : List Loc), lv_has ls 5 [(0, .ref (ad 0)), (1, .int z.1), (2, .int z.2.1), (3, .int z.2.2.1)] → wH D (mT cy) (mW ad cy) A H0 s z.2.2.2.1 z.2.2.2.2 H locs → W p l e rm_M_plan s m args below meth c H locs 0 0 Q (F0 m 42 ls [])) (x1 : Int32) (x2 : Int32) (x3 : Int32) (g : sG) (f : sF) (hf : p_M_plan_L42 K42 x1 x2 x3 g f = some u) : ∀ (ls : Array Slot) (H : Heap) (locs : List Loc), lv_has ls 5 [(0, .ref (ad 0)), (1, .int x1), (2, .int x2), (3, .int x3)] → wH D (mT cy) (mW ad cy) A H0 s g f H locs → W p l e rm_M_plan s m args below meth c H locs 0 0 Q (F0 m 42 ls []) := by
  intro ls H locs hl hC
  unfold p_M_plan_L42 at hf
  refine lv_iload_n Fx.1 Fx.2.1 dX10_plan_42 rfl (lv_at hl 3 rfl) ?_
  refine lv_aload_n Fx.1 Fx.2.1 dX10_plan_43 rfl (lv_at hl 0 rfl) ?_
  refine gg_M_events Fx hC wd_595 dX10_plan_44 ?_
  refine lv_icmp_ge (tgt := 113) Fx.1 Fx.2.1 dX10_plan_47 (by decide) (fun hc => ?_) (fun hc => ?_)
  · replace hf := ift hc hf
    refine lv_iload_n Fx.1 Fx.2.1 dX10_plan_113 rfl (lv_at hl 1 rfl) ?_
    obtain rfl := Option.some.inj hf
    exact hret _ _ _ _ dX10_plan_114 hC
  · replace hf := iff_ hc hf
    refine lv_aload_n Fx.1 Fx.2.1 dX10_plan_50 rfl (lv_at hl 0 rfl) ?_
    refine gg_M_capo Fx hC wd_593 dX10_plan_51 ?_
    refine lv_iconst (v := (1 : Int32)) Fx.1 Fx.2.1 dX10_plan_54 (by decide) ?_
    refine lv_iadd Fx.1 Fx.2.1 dX10_plan_55 ?_
    obtain ⟨v1, ev1, hf⟩ := lt_e hf
    refine tpi ev1 ?_
    refine lv_istore (lv' := [(4, .int v1), (0, .ref (ad 0)), (1, .int x1), (2, .int x2), (3, .int x3)]) Fx.1 Fx.2.1 dX10_plan_56 hl (by decide) rfl (fun ls hl => ?_)
    exact t_M_plan_L58 Fx hret hK42 _ _ hf _ _ _ (lv_sub hl [1, 2, 3, 4, 0] rfl) hC
set_option maxRecDepth 100000 in
set_option maxHeartbeats 4000000 in
theorem t_M_plan_L42 {p : Program} {l : Launch} {e : Env} {s : State} {m : MethodId} {args : Array Value} {below : List Frame} {meth : Method} {c : Code} {Q : State → Prop} {D : va_G} {ad : Nat → Nat} {cy : Nat → ClassId} {A : Nat → Prop} {H0 : Heap} {u : Int32 × sG × sF} (Fx : CallFix p m c cX10_plan 5 s args (Cond.code yX10_plan cX10_plan 5 (some .int) :: wU) RX10) (hret : mRi p l e rm_M_plan s m args below meth c Q D (mT cy) (mW ad cy) A H0 cX10_plan u)  (n : Nat) (z : Int32 × Int32 × Int32 × sG × sF) (hz : itr (fun K z => p_M_plan_L42 K z.1 z.2.1 z.2.2.1 z.2.2.2.1 z.2.2.2.2) n z = some u) : ∀ (ls : Array Slot) (H : Heap) (locs : List Loc), lv_has ls 5 [(0, .ref (ad 0)), (1, .int z.1), (2, .int z.2.1), (3, .int z.2.2.1)] → wH D (mT cy) (mW ad cy) A H0 s z.2.2.2.1 z.2.2.2.2 H locs → W p l e rm_M_plan s m args below meth c H locs 0 0 Q (F0 m 42 ls []) :=
  itr_all (B := fun K z => p_M_plan_L42 K z.1 z.2.1 z.2.2.1 z.2.2.2.1 z.2.2.2.2) (r := u) (fun z => ∀ (ls : Array Slot) (H : Heap) (locs : List Loc), lv_has ls 5 [(0, .ref (ad 0)), (1, .int z.1), (2, .int z.2.1), (3, .int z.2.2.1)] → wH D (mT cy) (mW ad cy) A H0 s z.2.2.2.1 z.2.2.2.2 H locs → W p l e rm_M_plan s m args below meth c H locs 0 0 Q (F0 m 42 ls [])) (fun K hK z h => s_M_plan_L42 (K42 := K) Fx hret hK z.1 z.2.1 z.2.2.1 z.2.2.2.1 z.2.2.2.2 h) n z hz
noncomputable def p_M_plan  (g : sG) (f : sF) : Option (Int32 × sG × sF) := (if (g 3) = 0 then some ((-4 : Int32), g, f) else lt_ (upd g 4 (0 : Int32)) (fun g1 => Option.bind (p_M_findSums  g1 f) (fun u2 => (if u2.1 = (100000000 : Int32) then some ((-1 : Int32), u2.2.1, u2.2.2) else lt_ (upd u2.2.1 4 (1 : Int32)) (fun g3 => Option.bind (p_M_markBack u2.1 g3 u2.2.2) (fun u4 => itr (fun K z => p_M_plan_L42 K z.1 z.2.1 z.2.2.1 z.2.2.2.1 z.2.2.2.2) FUEL (u2.1, (-1 : Int32), (0 : Int32), u4.1, u4.2)))))))
set_option maxRecDepth 100000 in
set_option maxHeartbeats 4000000 in
theorem k_M_plan {l : Launch} {D : va_G} {ad : Nat → Nat} {cy : Nat → ClassId}  {u : Int32 × sG × sF} {g : sG} {f : sF} (hf : p_M_plan  g f = some u) : mMi l yX10_plan (Cond.code yX10_plan cX10_plan 5 (some .int) :: wU) rm_M_plan D (mT cy) (mW ad cy) [.ref (ad 0)] g f u := by
  refine mk_i (by decide) rfl (Nat.le_of_ble_eq_true rfl) ?_
  intro p e s m below meth c Q A H0 Fx hret ls H locs hl hC
  replace hl : lv_has ls 5 [(0, .ref (ad 0))] := hl
  unfold p_M_plan at hf
  refine lv_aload_n Fx.1 Fx.2.1 dX10_plan_0 rfl (lv_at hl 0 rfl) ?_
  refine gg_M_events Fx hC wd_595 dX10_plan_1 ?_
  refine lv_if_ne (tgt := 10) Fx.1 Fx.2.1 dX10_plan_4 (by decide) (fun hc => ?_) (fun hc => ?_)
  · replace hf := iff_ hc hf
    refine lv_aload_n Fx.1 Fx.2.1 dX10_plan_10 rfl (lv_at hl 0 rfl) ?_
    refine lv_iconst (v := (0 : Int32)) Fx.1 Fx.2.1 dX10_plan_11 (by decide) ?_
    obtain ⟨g1, eg1, hf⟩ := lt_e hf
    refine gp_M_isFound Fx hC wd_599 z01_0 eg1 dX10_plan_12 (fun H locs hC => ?_)
    refine lv_aload_n Fx.1 Fx.2.1 dX10_plan_15 rfl (lv_at hl 0 rfl) ?_
    obtain ⟨u2, hu2, hf⟩ := bd_e hf
    refine ca_i (As := []) (rest := []) Fx hC (k_M_findSums hu2) (cVU 0 Fx.2.2.2.2 wd_748 wd_749 wd_890 wd_10 wd_750 rfl rfl hd_M_findSums ⟨Nat.le_of_ble_eq_true rfl, Nat.le_of_ble_eq_true rfl⟩) 0 rfl rfl rfl hl.1 rfl (Nat.le_of_ble_eq_true rfl) dX10_plan_16 (fun H locs hC => ?_)
    refine lv_istore_n (lv' := [(1, .int u2.1), (0, .ref (ad 0))]) Fx.1 Fx.2.1 dX10_plan_19 rfl hl (by decide) rfl (fun ls hl => ?_)
    refine lv_iload_n Fx.1 Fx.2.1 dX10_plan_20 rfl (lv_at hl 0 rfl) ?_
    refine lv_ldc (v := (100000000 : Int32)) Fx.1 Fx.2.1 Fx.2.2.2.1 (Fx.2.2.2.2 _ (List.mem_cons_of_mem _ wd_754)) dX10_plan_21 ?_
    refine lv_icmp_ne (tgt := 28) Fx.1 Fx.2.1 dX10_plan_23 (by decide) (fun hc => ?_) (fun hc => ?_)
    · replace hf := iff_ hc hf
      refine lv_aload_n Fx.1 Fx.2.1 dX10_plan_28 rfl (lv_at hl 1 rfl) ?_
      refine lv_iconst (v := (1 : Int32)) Fx.1 Fx.2.1 dX10_plan_29 (by decide) ?_
      obtain ⟨g3, eg3, hf⟩ := lt_e hf
      refine gp_M_isFound Fx hC wd_599 z01_1 eg3 dX10_plan_30 (fun H locs hC => ?_)
      refine lv_aload_n Fx.1 Fx.2.1 dX10_plan_33 rfl (lv_at hl 1 rfl) ?_
      refine lv_iload_n Fx.1 Fx.2.1 dX10_plan_34 rfl (lv_at hl 0 rfl) ?_
      obtain ⟨u4, hu4, hf⟩ := bd_e hf
      refine ca_v (As := [.int u2.1]) (rest := []) Fx hC (k_M_markBack hu4) (cVU 1 Fx.2.2.2.2 wd_766 wd_767 wd_893 wd_10 wd_768 rfl rfl hd_M_markBack ⟨Nat.le_of_ble_eq_true rfl, Nat.le_of_ble_eq_true rfl⟩) 0 rfl rfl rfl hl.1 rfl (Nat.le_of_ble_eq_true rfl) dX10_plan_35 (fun H locs hC => ?_)
      refine lv_iconst (v := (-1 : Int32)) Fx.1 Fx.2.1 dX10_plan_38 (by decide) ?_
      refine lv_istore_n (lv' := [(2, .int (-1 : Int32)), (1, .int u2.1), (0, .ref (ad 0))]) Fx.1 Fx.2.1 dX10_plan_39 rfl hl (by decide) rfl (fun ls hl => ?_)
      refine lv_iconst (v := (0 : Int32)) Fx.1 Fx.2.1 dX10_plan_40 (by decide) ?_
      refine lv_istore_n (lv' := [(3, .int (0 : Int32)), (2, .int (-1 : Int32)), (1, .int u2.1), (0, .ref (ad 0))]) Fx.1 Fx.2.1 dX10_plan_41 rfl hl (by decide) rfl (fun ls hl => ?_)
      exact t_M_plan_L42 Fx hret _ _ hf _ _ _ (lv_sub hl [3, 2, 1, 0] rfl) hC
    · replace hf := ift hc hf
      refine lv_iconst (v := (-1 : Int32)) Fx.1 Fx.2.1 dX10_plan_26 (by decide) ?_
      obtain rfl := Option.some.inj hf
      exact hret _ _ _ _ dX10_plan_27 hC
  · replace hf := ift hc hf
    refine lv_bipush (v := (-4 : Int32)) Fx.1 Fx.2.1 dX10_plan_7 (by decide) ?_
    obtain rfl := Option.some.inj hf
    exact hret _ _ _ _ dX10_plan_9 hC
/-! FretHandsModel.planned(II)I -/
abbrev rm_M_planned : Room := { frames := 2, cells := 0, slots := 0, locals := 43 }
theorem hd_M_planned : yX10_planned.cls = RX10 ∧ yX10_planned.cls ≠ "java/lang/invoke/MethodHandle" ∧ yX10_planned.cls ≠ "java/lang/invoke/VarHandle" ∧ (parseMethodDescriptor yX10_planned.desc).map (fun d => d.parameters.length) = some 2 := by decide +kernel
noncomputable def p_M_planned (a1 : Int32) (a2 : Int32) (g : sG) (f : sF) : Option (Int32) := Option.bind (p_M_within a2 (0 : Int32) (6 : Int32) g f) (fun u1 => (if u1 = 0 then some (-2 : Int32) else (if (g 4) = 0 then some (-1 : Int32) else Option.bind (p_M_isEvent a1 g f) (fun u2 => (if u2 = 0 then some (-1 : Int32) else (if a2 = 0 then (if a1 < 0 ∨ 40 ≤ a1.toNatClampNeg then none else some (f 5 a1.toNatClampNeg)) else (if a2 = (5 : Int32) then (if a1 < 0 ∨ 40 ≤ a1.toNatClampNeg then none else some (f 7 a1.toNatClampNeg)) else (if a2 = (6 : Int32) then (if a1 < 0 ∨ 40 ≤ a1.toNatClampNeg then none else some (f 8 a1.toNatClampNeg)) else (if ((((4 : Int32) * a1) + a2) - (1 : Int32)) < 0 ∨ 160 ≤ ((((4 : Int32) * a1) + a2) - (1 : Int32)).toNatClampNeg then none else some (f 6 ((((4 : Int32) * a1) + a2) - (1 : Int32)).toNatClampNeg))))))))))
set_option maxRecDepth 100000 in
set_option maxHeartbeats 4000000 in
theorem k_M_planned {l : Launch} {D : va_G} {ad : Nat → Nat} {cy : Nat → ClassId} {a1 : Int32} {a2 : Int32} {r : Int32} {g : sG} {f : sF} (hf : p_M_planned a1 a2 g f = some r) : mMi l yX10_planned (Cond.code yX10_planned cX10_planned 3 (some .int) :: wU) rm_M_planned D (mT cy) (mW ad cy) [.ref (ad 0), .int a1, .int a2] g f (r, g, f) := by
  refine mk_i (by decide) rfl (Nat.le_of_ble_eq_true rfl) ?_
  intro p e s m below meth c Q A H0 Fx hret ls H locs hl hC
  replace hl : lv_has ls 3 [(0, .ref (ad 0)), (1, .int a1), (2, .int a2)] := hl
  unfold p_M_planned at hf
  refine lv_iload_n Fx.1 Fx.2.1 dX10_planned_0 rfl (lv_at hl 2 rfl) ?_
  refine lv_iconst (v := (0 : Int32)) Fx.1 Fx.2.1 dX10_planned_1 (by decide) ?_
  refine lv_bipush (v := (6 : Int32)) Fx.1 Fx.2.1 dX10_planned_2 (by decide) ?_
  obtain ⟨u1, hu1, hf⟩ := bd_e hf
  refine ca_s (As := [.int a2, .int (0 : Int32), .int (6 : Int32)]) (rest := []) Fx hC (k_M_within hu1) (cSU 3 Fx.2.2.2.2 wd_661 wd_662 wd_10 wd_663 rfl rfl hd_M_within ⟨Nat.le_of_ble_eq_true rfl, Nat.le_of_ble_eq_true rfl⟩) rfl hl.1 rfl (Nat.le_of_ble_eq_true rfl) dX10_planned_4 (fun H locs hC => ?_)
  refine lv_if_ne (tgt := 13) Fx.1 Fx.2.1 dX10_planned_7 (by decide) (fun hc => ?_) (fun hc => ?_)
  · replace hf := iff_ hc hf
    refine lv_aload_n Fx.1 Fx.2.1 dX10_planned_13 rfl (lv_at hl 0 rfl) ?_
    refine gg_M_isFound Fx hC wd_599 dX10_planned_14 ?_
    refine lv_if_eq (tgt := 28) Fx.1 Fx.2.1 dX10_planned_17 (by decide) (fun hc => ?_) (fun hc => ?_)
    · replace hf := ift hc hf
      refine lv_iconst (v := (-1 : Int32)) Fx.1 Fx.2.1 dX10_planned_28 (by decide) ?_
      obtain rfl := Option.some.inj hf
      exact hret _ _ _ _ dX10_planned_29 hC
    · replace hf := iff_ hc hf
      refine lv_aload_n Fx.1 Fx.2.1 dX10_planned_20 rfl (lv_at hl 0 rfl) ?_
      refine lv_iload_n Fx.1 Fx.2.1 dX10_planned_21 rfl (lv_at hl 1 rfl) ?_
      obtain ⟨u2, hu2, hf⟩ := bd_e hf
      refine ca_i (As := [.int a1]) (rest := []) Fx hC (k_M_isEvent hu2) (cVU 1 Fx.2.2.2.2 wd_695 wd_696 wd_883 wd_10 wd_697 rfl rfl hd_M_isEvent ⟨Nat.le_of_ble_eq_true rfl, Nat.le_of_ble_eq_true rfl⟩) 0 rfl rfl rfl hl.1 rfl (Nat.le_of_ble_eq_true rfl) dX10_planned_22 (fun H locs hC => ?_)
      refine lv_if_ne (tgt := 30) Fx.1 Fx.2.1 dX10_planned_25 (by decide) (fun hc => ?_) (fun hc => ?_)
      · replace hf := iff_ hc hf
        refine lv_iload_n Fx.1 Fx.2.1 dX10_planned_30 rfl (lv_at hl 2 rfl) ?_
        refine lv_if_ne (tgt := 43) Fx.1 Fx.2.1 dX10_planned_31 (by decide) (fun hc => ?_) (fun hc => ?_)
        · replace hf := iff_ hc hf
          refine lv_iload_n Fx.1 Fx.2.1 dX10_planned_43 rfl (lv_at hl 2 rfl) ?_
          refine lv_iconst (v := (5 : Int32)) Fx.1 Fx.2.1 dX10_planned_44 (by decide) ?_
          refine lv_icmp_ne (tgt := 57) Fx.1 Fx.2.1 dX10_planned_45 (by decide) (fun hc => ?_) (fun hc => ?_)
          · replace hf := iff_ hc hf
            refine lv_iload_n Fx.1 Fx.2.1 dX10_planned_57 rfl (lv_at hl 2 rfl) ?_
            refine lv_bipush (v := (6 : Int32)) Fx.1 Fx.2.1 dX10_planned_58 (by decide) ?_
            refine lv_icmp_ne (tgt := 72) Fx.1 Fx.2.1 dX10_planned_60 (by decide) (fun hc => ?_) (fun hc => ?_)
            · replace hf := iff_ hc hf
              refine lv_aload_n Fx.1 Fx.2.1 dX10_planned_72 rfl (lv_at hl 0 rfl) ?_
              refine gg_M_foundStrings Fx hC wd_601 dX10_planned_73 ?_
              refine lv_iconst (v := (4 : Int32)) Fx.1 Fx.2.1 dX10_planned_76 (by decide) ?_
              refine lv_iload_n Fx.1 Fx.2.1 dX10_planned_77 rfl (lv_at hl 1 rfl) ?_
              refine lv_imul Fx.1 Fx.2.1 dX10_planned_78 ?_
              refine lv_iload_n Fx.1 Fx.2.1 dX10_planned_79 rfl (lv_at hl 2 rfl) ?_
              refine lv_iadd Fx.1 Fx.2.1 dX10_planned_80 ?_
              refine lv_iconst (v := (1 : Int32)) Fx.1 Fx.2.1 dX10_planned_81 (by decide) ?_
              refine lv_isub Fx.1 Fx.2.1 dX10_planned_82 ?_
              obtain ⟨hi3, hf⟩ := gd_e hf
              refine ld_M_foundStrings Fx hC hi3 dX10_planned_83 ?_
              obtain rfl := Option.some.inj hf
              exact hret _ _ _ _ dX10_planned_84 hC
            · replace hf := ift hc hf
              refine lv_aload_n Fx.1 Fx.2.1 dX10_planned_63 rfl (lv_at hl 0 rfl) ?_
              refine gg_M_foundNumber Fx hC wd_603 dX10_planned_64 ?_
              refine lv_iload_n Fx.1 Fx.2.1 dX10_planned_67 rfl (lv_at hl 1 rfl) ?_
              obtain ⟨hi4, hf⟩ := gd_e hf
              refine ld_M_foundNumber Fx hC hi4 dX10_planned_68 ?_
              refine lv_goto (tgt := 84) Fx.1 Fx.2.1 dX10_planned_69 (by decide) ?_
              obtain rfl := Option.some.inj hf
              exact hret _ _ _ _ dX10_planned_84 hC
          · replace hf := ift hc hf
            refine lv_aload_n Fx.1 Fx.2.1 dX10_planned_48 rfl (lv_at hl 0 rfl) ?_
            refine gg_M_foundCost Fx hC wd_602 dX10_planned_49 ?_
            refine lv_iload_n Fx.1 Fx.2.1 dX10_planned_52 rfl (lv_at hl 1 rfl) ?_
            obtain ⟨hi5, hf⟩ := gd_e hf
            refine ld_M_foundCost Fx hC hi5 dX10_planned_53 ?_
            refine lv_goto (tgt := 84) Fx.1 Fx.2.1 dX10_planned_54 (by decide) ?_
            obtain rfl := Option.some.inj hf
            exact hret _ _ _ _ dX10_planned_84 hC
        · replace hf := ift hc hf
          refine lv_aload_n Fx.1 Fx.2.1 dX10_planned_34 rfl (lv_at hl 0 rfl) ?_
          refine gg_M_foundAt Fx hC wd_600 dX10_planned_35 ?_
          refine lv_iload_n Fx.1 Fx.2.1 dX10_planned_38 rfl (lv_at hl 1 rfl) ?_
          obtain ⟨hi6, hf⟩ := gd_e hf
          refine ld_M_foundAt Fx hC hi6 dX10_planned_39 ?_
          refine lv_goto (tgt := 84) Fx.1 Fx.2.1 dX10_planned_40 (by decide) ?_
          obtain rfl := Option.some.inj hf
          exact hret _ _ _ _ dX10_planned_84 hC
      · replace hf := ift hc hf
        refine lv_iconst (v := (-1 : Int32)) Fx.1 Fx.2.1 dX10_planned_28 (by decide) ?_
        obtain rfl := Option.some.inj hf
        exact hret _ _ _ _ dX10_planned_29 hC
  · replace hf := ift hc hf
    refine lv_bipush (v := (-2 : Int32)) Fx.1 Fx.2.1 dX10_planned_10 (by decide) ?_
    obtain rfl := Option.some.inj hf
    exact hret _ _ _ _ dX10_planned_12 hC
/-! FretHandsModel.ties()I -/
abbrev rm_M_ties : Room := { frames := 4, cells := 0, slots := 0, locals := 108 }
theorem hd_M_ties : yX10_ties.cls = RX10 ∧ yX10_ties.cls ≠ "java/lang/invoke/MethodHandle" ∧ yX10_ties.cls ≠ "java/lang/invoke/VarHandle" ∧ (parseMethodDescriptor yX10_ties.desc).map (fun d => d.parameters.length) = some 0 := by decide +kernel
noncomputable def p_M_ties_J86 (K33 : (Int32 × Int64 × Int32 × sG × sF) → Option (Int32 × sG × sF)) (x1 : Int32) (x4 : Int32) (y0 : Int64) (y1 : Int64) (g : sG) (f : sF) : Option (Int32 × sG × sF) := lt_ (y1 + y0) (fun v1 => lt_ (x4 + (1 : Int32)) (fun v2 => K33 (x1, v1, v2, g, f)))
set_option maxRecDepth 100000 in
set_option maxHeartbeats 4000000 in
theorem s_M_ties_J86 {K33 : (Int32 × Int64 × Int32 × sG × sF) → Option (Int32 × sG × sF)} {p : Program} {l : Launch} {e : Env} {s : State} {m : MethodId} {args : Array Value} {below : List Frame} {meth : Method} {c : Code} {Q : State → Prop} {D : va_G} {ad : Nat → Nat} {cy : Nat → ClassId} {A : Nat → Prop} {H0 : Heap} {u : Int32 × sG × sF} (Fx : CallFix p m c cX10_ties 5 s args (Cond.code yX10_ties cX10_ties 5 (some .int) :: wU) RX10) (hret : mRi p l e rm_M_ties s m args below meth c Q D (mT cy) (mW ad cy) A H0 cX10_ties u) (hK33 : ∀ (z : Int32 × Int64 × Int32 × sG × sF), K33 z = some u → ∀ (ls : Array Slot) (H : Heap) (locs : List Loc), lv_has ls 5 [(0, .ref (ad 0)), (1, .int z.1), (2, .long z.2.1), (4, .int z.2.2.1)] → wH D (mT cy) (mW ad cy) A H0 s z.2.2.2.1 z.2.2.2.2 H locs → W p l e rm_M_ties s m args below meth c H locs 0 0 Q (F0 m 33 ls [])) (x1 : Int32) (x4 : Int32) (y0 : Int64) (y1 : Int64) (g : sG) (f : sF) (hf : p_M_ties_J86 K33 x1 x4 y0 y1 g f = some u) : ∀ (ls : Array Slot) (H : Heap) (locs : List Loc), lv_has ls 5 [(0, .ref (ad 0)), (1, .int x1), (4, .int x4)] → wH D (mT cy) (mW ad cy) A H0 s g f H locs → W p l e rm_M_ties s m args below meth c H locs 0 0 Q (F0 m 86 ls [.long y0, .long y1]) := by
  intro ls H locs hl hC
  unfold p_M_ties_J86 at hf
  refine lv_ladd Fx.1 Fx.2.1 dX10_ties_86 ?_
  obtain ⟨v1, ev1, hf⟩ := lt_e hf
  refine tpl ev1 ?_
  refine lv_lstore_n (lv' := [(2, .long v1), (0, .ref (ad 0)), (1, .int x1), (4, .int x4)]) Fx.1 Fx.2.1 dX10_ties_87 rfl hl (by decide) rfl (fun ls hl => ?_)
  obtain ⟨v2, ev2, hf⟩ := lt_e hf
  refine lv_iinc (v := v2) (lv' := [(4, .int v2), (2, .long v1), (0, .ref (ad 0)), (1, .int x1)]) Fx.1 Fx.2.1 dX10_ties_88 hl (k := 3) rfl ev2.symm (by decide) rfl (fun ls hl => ?_)
  refine lv_goto (tgt := 33) Fx.1 Fx.2.1 dX10_ties_91 (by decide) ?_
  exact hK33 _ hf _ _ _ (lv_sub hl [2, 3, 1, 0] rfl) hC
noncomputable def p_M_ties_L33 (K33 : (Int32 × Int64 × Int32 × sG × sF) → Option (Int32 × sG × sF)) (x1 : Int32) (x2 : Int64) (x4 : Int32) (g : sG) (f : sF) : Option (Int32 × sG × sF) := (if (g 1) < x4 then Option.bind (p_M_few x2 g f) (fun u1 => some (u1, g, f)) else Option.bind (p_M_at_ ((g 3) - (1 : Int32)) g f) (fun u2 => (if (u2 + x4) < 0 ∨ 1000 ≤ (u2 + x4).toNatClampNeg then none else (if (f 14 (u2 + x4).toNatClampNeg) = x1 then Option.bind (p_M_at_ ((g 3) - (1 : Int32)) g f) (fun u4 => (if (u4 + x4) < 0 ∨ 1000 ≤ (u4 + x4).toNatClampNeg then none else p_M_ties_J86 K33 x1 x4 ((f 15 (u4 + x4).toNatClampNeg).toInt64) x2 g f)) else p_M_ties_J86 K33 x1 x4 (0 : Int64) x2 g f))))
set_option maxRecDepth 100000 in
set_option maxHeartbeats 4000000 in
theorem s_M_ties_L33 {K33 : (Int32 × Int64 × Int32 × sG × sF) → Option (Int32 × sG × sF)} {p : Program} {l : Launch} {e : Env} {s : State} {m : MethodId} {args : Array Value} {below : List Frame} {meth : Method} {c : Code} {Q : State → Prop} {D : va_G} {ad : Nat → Nat} {cy : Nat → ClassId} {A : Nat → Prop} {H0 : Heap} {u : Int32 × sG × sF} (Fx : CallFix p m c cX10_ties 5 s args (Cond.code yX10_ties cX10_ties 5 (some .int) :: wU) RX10) (hret : mRi p l e rm_M_ties s m args below meth c Q D (mT cy) (mW ad cy) A H0 cX10_ties u) (hK33 : ∀ (z : Int32 × Int64 × Int32 × sG × sF), K33 z = some u → ∀ (ls : Array Slot) (H : Heap) (locs : List Loc), lv_has ls 5 [(0, .ref (ad 0)), (1, .int z.1), (2, .long z.2.1), (4, .int z.2.2.1)] → wH D (mT cy) (mW ad cy) A H0 s z.2.2.2.1 z.2.2.2.2 H locs → W p l e rm_M_ties s m args below meth c H locs 0 0 Q (F0 m 33 ls [])) (x1 : Int32) (x2 : Int64) (x4 : Int32) (g : sG) (f : sF) (hf : p_M_ties_L33 K33 x1 x2 x4 g f = some u) : ∀ (ls : Array Slot) (H : Heap) (locs : List Loc), lv_has ls 5 [(0, .ref (ad 0)), (1, .int x1), (2, .long x2), (4, .int x4)] → wH D (mT cy) (mW ad cy) A H0 s g f H locs → W p l e rm_M_ties s m args below meth c H locs 0 0 Q (F0 m 33 ls []) := by
  intro ls H locs hl hC
  unfold p_M_ties_L33 at hf
  refine lv_iload Fx.1 Fx.2.1 dX10_ties_33 (lv_at hl 3 rfl) ?_
  refine lv_aload_n Fx.1 Fx.2.1 dX10_ties_35 rfl (lv_at hl 0 rfl) ?_
  refine gg_M_neck Fx hC wd_592 dX10_ties_36 ?_
  refine lv_icmp_gt (tgt := 94) Fx.1 Fx.2.1 dX10_ties_39 (by decide) (fun hc => ?_) (fun hc => ?_)
  · replace hf := ift hc hf
    refine lv_lload_n Fx.1 Fx.2.1 dX10_ties_94 rfl (lv_at hl 2 rfl) ?_
    obtain ⟨u1, hu1, hf⟩ := bd_e hf
    refine ca_s (As := [.long x2]) (rest := []) Fx hC (k_M_few hu1) (cSU 1 Fx.2.2.2.2 wd_761 wd_762 wd_10 wd_763 rfl rfl hd_M_few ⟨Nat.le_of_ble_eq_true rfl, Nat.le_of_ble_eq_true rfl⟩) rfl hl.1 rfl (Nat.le_of_ble_eq_true rfl) dX10_ties_95 (fun H locs hC => ?_)
    obtain rfl := Option.some.inj hf
    exact hret _ _ _ _ dX10_ties_98 hC
  · replace hf := iff_ hc hf
    refine lv_lload_n Fx.1 Fx.2.1 dX10_ties_42 rfl (lv_at hl 2 rfl) ?_
    refine lv_aload_n Fx.1 Fx.2.1 dX10_ties_43 rfl (lv_at hl 0 rfl) ?_
    refine gg_M_sums Fx hC wd_612 dX10_ties_44 ?_
    refine lv_aload_n Fx.1 Fx.2.1 dX10_ties_47 rfl (lv_at hl 0 rfl) ?_
    refine gg_M_events Fx hC wd_595 dX10_ties_48 ?_
    refine lv_iconst (v := (1 : Int32)) Fx.1 Fx.2.1 dX10_ties_51 (by decide) ?_
    refine lv_isub Fx.1 Fx.2.1 dX10_ties_52 ?_
    obtain ⟨u2, hu2, hf⟩ := bd_e hf
    refine ca_s (As := [.int ((g 3) - (1 : Int32))]) (rest := [.ref (ad 15), .long x2]) Fx hC (k_M_at_ hu2) (cSU 1 Fx.2.2.2.2 wd_755 wd_756 wd_10 wd_757 rfl rfl hd_M_at_ ⟨Nat.le_of_ble_eq_true rfl, Nat.le_of_ble_eq_true rfl⟩) rfl hl.1 rfl (Nat.le_of_ble_eq_true rfl) dX10_ties_53 (fun H locs hC => ?_)
    refine lv_iload Fx.1 Fx.2.1 dX10_ties_56 (lv_at hl 3 rfl) ?_
    refine lv_iadd Fx.1 Fx.2.1 dX10_ties_58 ?_
    obtain ⟨hi3, hf⟩ := gd_e hf
    refine ld_M_sums Fx hC hi3 dX10_ties_59 ?_
    refine lv_iload_n Fx.1 Fx.2.1 dX10_ties_60 rfl (lv_at hl 1 rfl) ?_
    refine lv_icmp_ne (tgt := 85) Fx.1 Fx.2.1 dX10_ties_61 (by decide) (fun hc => ?_) (fun hc => ?_)
    · replace hf := iff_ hc hf
      refine lv_lconst (v := (0 : Int64)) Fx.1 Fx.2.1 dX10_ties_85 (by decide) ?_
      exact s_M_ties_J86 Fx hret hK33 _ _ _ _ _ _  hf _ _ _ (lv_sub hl [0, 1, 3] rfl) hC
    · replace hf := ift hc hf
      refine lv_aload_n Fx.1 Fx.2.1 dX10_ties_64 rfl (lv_at hl 0 rfl) ?_
      refine gg_M_rows Fx hC wd_613 dX10_ties_65 ?_
      refine lv_aload_n Fx.1 Fx.2.1 dX10_ties_68 rfl (lv_at hl 0 rfl) ?_
      refine gg_M_events Fx hC wd_595 dX10_ties_69 ?_
      refine lv_iconst (v := (1 : Int32)) Fx.1 Fx.2.1 dX10_ties_72 (by decide) ?_
      refine lv_isub Fx.1 Fx.2.1 dX10_ties_73 ?_
      obtain ⟨u4, hu4, hf⟩ := bd_e hf
      refine ca_s (As := [.int ((g 3) - (1 : Int32))]) (rest := [.ref (ad 16), .long x2]) Fx hC (k_M_at_ hu4) (cSU 1 Fx.2.2.2.2 wd_755 wd_756 wd_10 wd_757 rfl rfl hd_M_at_ ⟨Nat.le_of_ble_eq_true rfl, Nat.le_of_ble_eq_true rfl⟩) rfl hl.1 rfl (Nat.le_of_ble_eq_true rfl) dX10_ties_74 (fun H locs hC => ?_)
      refine lv_iload Fx.1 Fx.2.1 dX10_ties_77 (lv_at hl 3 rfl) ?_
      refine lv_iadd Fx.1 Fx.2.1 dX10_ties_79 ?_
      obtain ⟨hi5, hf⟩ := gd_e hf
      refine ld_M_rows Fx hC hi5 dX10_ties_80 ?_
      refine lv_i2l (v := (f 15 (u4 + x4).toNatClampNeg).toInt64) Fx.1 Fx.2.1 dX10_ties_81 rfl ?_
      refine lv_goto (tgt := 86) Fx.1 Fx.2.1 dX10_ties_82 (by decide) ?_
      exact s_M_ties_J86 Fx hret hK33 _ _ _ _ _ _  hf _ _ _ (lv_sub hl [0, 1, 3] rfl) hC
set_option maxRecDepth 100000 in
set_option maxHeartbeats 4000000 in
theorem t_M_ties_L33 {p : Program} {l : Launch} {e : Env} {s : State} {m : MethodId} {args : Array Value} {below : List Frame} {meth : Method} {c : Code} {Q : State → Prop} {D : va_G} {ad : Nat → Nat} {cy : Nat → ClassId} {A : Nat → Prop} {H0 : Heap} {u : Int32 × sG × sF} (Fx : CallFix p m c cX10_ties 5 s args (Cond.code yX10_ties cX10_ties 5 (some .int) :: wU) RX10) (hret : mRi p l e rm_M_ties s m args below meth c Q D (mT cy) (mW ad cy) A H0 cX10_ties u)  (n : Nat) (z : Int32 × Int64 × Int32 × sG × sF) (hz : itr (fun K z => p_M_ties_L33 K z.1 z.2.1 z.2.2.1 z.2.2.2.1 z.2.2.2.2) n z = some u) : ∀ (ls : Array Slot) (H : Heap) (locs : List Loc), lv_has ls 5 [(0, .ref (ad 0)), (1, .int z.1), (2, .long z.2.1), (4, .int z.2.2.1)] → wH D (mT cy) (mW ad cy) A H0 s z.2.2.2.1 z.2.2.2.2 H locs → W p l e rm_M_ties s m args below meth c H locs 0 0 Q (F0 m 33 ls []) :=
  itr_all (B := fun K z => p_M_ties_L33 K z.1 z.2.1 z.2.2.1 z.2.2.2.1 z.2.2.2.2) (r := u) (fun z => ∀ (ls : Array Slot) (H : Heap) (locs : List Loc), lv_has ls 5 [(0, .ref (ad 0)), (1, .int z.1), (2, .long z.2.1), (4, .int z.2.2.1)] → wH D (mT cy) (mW ad cy) A H0 s z.2.2.2.1 z.2.2.2.2 H locs → W p l e rm_M_ties s m args below meth c H locs 0 0 Q (F0 m 33 ls [])) (fun K hK z h => s_M_ties_L33 (K33 := K) Fx hret hK z.1 z.2.1 z.2.2.1 z.2.2.2.1 z.2.2.2.2 h) n z hz
noncomputable def p_M_ties  (g : sG) (f : sF) : Option (Int32 × sG × sF) := (if (g 3) = 0 then some ((-4 : Int32), g, f) else Option.bind (p_M_findSums  g f) (fun u1 => (if u1.1 = (100000000 : Int32) then some ((0 : Int32), u1.2.1, u1.2.2) else lt_ ((u1.2.1 2) + (1 : Int32)) (fun v2 => itr (fun K z => p_M_ties_L33 K z.1 z.2.1 z.2.2.1 z.2.2.2.1 z.2.2.2.2) FUEL (u1.1, (0 : Int64), v2, u1.2.1, u1.2.2)))))
set_option maxRecDepth 100000 in
set_option maxHeartbeats 4000000 in
theorem k_M_ties {l : Launch} {D : va_G} {ad : Nat → Nat} {cy : Nat → ClassId}  {u : Int32 × sG × sF} {g : sG} {f : sF} (hf : p_M_ties  g f = some u) : mMi l yX10_ties (Cond.code yX10_ties cX10_ties 5 (some .int) :: wU) rm_M_ties D (mT cy) (mW ad cy) [.ref (ad 0)] g f u := by
  refine mk_i (by decide) rfl (Nat.le_of_ble_eq_true rfl) ?_
  intro p e s m below meth c Q A H0 Fx hret ls H locs hl hC
  replace hl : lv_has ls 5 [(0, .ref (ad 0))] := hl
  unfold p_M_ties at hf
  refine lv_aload_n Fx.1 Fx.2.1 dX10_ties_0 rfl (lv_at hl 0 rfl) ?_
  refine gg_M_events Fx hC wd_595 dX10_ties_1 ?_
  refine lv_if_ne (tgt := 10) Fx.1 Fx.2.1 dX10_ties_4 (by decide) (fun hc => ?_) (fun hc => ?_)
  · replace hf := iff_ hc hf
    refine lv_aload_n Fx.1 Fx.2.1 dX10_ties_10 rfl (lv_at hl 0 rfl) ?_
    obtain ⟨u1, hu1, hf⟩ := bd_e hf
    refine ca_i (As := []) (rest := []) Fx hC (k_M_findSums hu1) (cVU 0 Fx.2.2.2.2 wd_748 wd_749 wd_890 wd_10 wd_750 rfl rfl hd_M_findSums ⟨Nat.le_of_ble_eq_true rfl, Nat.le_of_ble_eq_true rfl⟩) 0 rfl rfl rfl hl.1 rfl (Nat.le_of_ble_eq_true rfl) dX10_ties_11 (fun H locs hC => ?_)
    refine lv_istore_n (lv' := [(1, .int u1.1), (0, .ref (ad 0))]) Fx.1 Fx.2.1 dX10_ties_14 rfl hl (by decide) rfl (fun ls hl => ?_)
    refine lv_iload_n Fx.1 Fx.2.1 dX10_ties_15 rfl (lv_at hl 0 rfl) ?_
    refine lv_ldc (v := (100000000 : Int32)) Fx.1 Fx.2.1 Fx.2.2.2.1 (Fx.2.2.2.2 _ (List.mem_cons_of_mem _ wd_754)) dX10_ties_16 ?_
    refine lv_icmp_ne (tgt := 23) Fx.1 Fx.2.1 dX10_ties_18 (by decide) (fun hc => ?_) (fun hc => ?_)
    · replace hf := iff_ hc hf
      refine lv_lconst (v := (0 : Int64)) Fx.1 Fx.2.1 dX10_ties_23 (by decide) ?_
      refine lv_lstore_n (lv' := [(2, .long (0 : Int64)), (1, .int u1.1), (0, .ref (ad 0))]) Fx.1 Fx.2.1 dX10_ties_24 rfl hl (by decide) rfl (fun ls hl => ?_)
      refine lv_aload_n Fx.1 Fx.2.1 dX10_ties_25 rfl (lv_at hl 2 rfl) ?_
      refine gg_M_capo Fx hC wd_593 dX10_ties_26 ?_
      refine lv_iconst (v := (1 : Int32)) Fx.1 Fx.2.1 dX10_ties_29 (by decide) ?_
      refine lv_iadd Fx.1 Fx.2.1 dX10_ties_30 ?_
      obtain ⟨v2, ev2, hf⟩ := lt_e hf
      refine tpi ev2 ?_
      refine lv_istore (lv' := [(4, .int v2), (2, .long (0 : Int64)), (1, .int u1.1), (0, .ref (ad 0))]) Fx.1 Fx.2.1 dX10_ties_31 hl (by decide) rfl (fun ls hl => ?_)
      exact t_M_ties_L33 Fx hret _ _ hf _ _ _ (lv_sub hl [3, 2, 1, 0] rfl) hC
    · replace hf := ift hc hf
      refine lv_iconst (v := (0 : Int32)) Fx.1 Fx.2.1 dX10_ties_21 (by decide) ?_
      obtain rfl := Option.some.inj hf
      exact hret _ _ _ _ dX10_ties_22 hC
  · replace hf := ift hc hf
    refine lv_bipush (v := (-4 : Int32)) Fx.1 Fx.2.1 dX10_ties_7 (by decide) ?_
    obtain rfl := Option.some.inj hf
    exact hret _ _ _ _ dX10_ties_9 hC
/-! FretHandsModel.put(I)V -/
abbrev rm_M_put : Room := { frames := 0, cells := 0, slots := 0, locals := 0 }
theorem hd_M_put : yX10_put.cls = RX10 ∧ yX10_put.cls ≠ "java/lang/invoke/MethodHandle" ∧ yX10_put.cls ≠ "java/lang/invoke/VarHandle" ∧ (parseMethodDescriptor yX10_put.desc).map (fun d => d.parameters.length) = some 1 := by decide +kernel
noncomputable def p_M_put (a1 : Int32) (g : sG) (f : sF) : Option (sG × sF) := (if (g 5) < 0 ∨ 2000 ≤ (g 5).toNatClampNeg then none else lt_ (up2 f 9 (g 5).toNatClampNeg a1) (fun f2 => lt_ (upd g 5 ((g 5) + (1 : Int32))) (fun g3 => some (g3, f2))))
set_option maxRecDepth 100000 in
set_option maxHeartbeats 4000000 in
theorem k_M_put {l : Launch} {D : va_G} {ad : Nat → Nat} {cy : Nat → ClassId} {a1 : Int32} {u : sG × sF} {g : sG} {f : sF} (hf : p_M_put a1 g f = some u) : mMv l yX10_put (Cond.code yX10_put cX10_put 2 none :: wU) rm_M_put D (mT cy) (mW ad cy) [.ref (ad 0), .int a1] g f u := by
  refine mk_v (by decide) rfl (Nat.le_of_ble_eq_true rfl) ?_
  intro p e s m below meth c Q A H0 Fx hret ls H locs hl hC
  replace hl : lv_has ls 2 [(0, .ref (ad 0)), (1, .int a1)] := hl
  unfold p_M_put at hf
  refine lv_aload_n Fx.1 Fx.2.1 dX10_put_0 rfl (lv_at hl 0 rfl) ?_
  refine gg_M_tape Fx hC wd_605 dX10_put_1 ?_
  refine lv_aload_n Fx.1 Fx.2.1 dX10_put_4 rfl (lv_at hl 0 rfl) ?_
  refine gg_M_signs Fx hC wd_604 dX10_put_5 ?_
  refine lv_iload_n Fx.1 Fx.2.1 dX10_put_8 rfl (lv_at hl 1 rfl) ?_
  obtain ⟨hi1, hf⟩ := gd_e hf
  obtain ⟨f2, ef2, hf⟩ := lt_e hf
  refine st_M_tape Fx hC hi1 ef2 dX10_put_9 (fun H locs hC => ?_)
  refine lv_aload_n Fx.1 Fx.2.1 dX10_put_10 rfl (lv_at hl 0 rfl) ?_
  refine lv_dup Fx.1 Fx.2.1 dX10_put_11 rfl ?_
  refine gg_M_signs Fx hC wd_604 dX10_put_12 ?_
  refine lv_iconst (v := (1 : Int32)) Fx.1 Fx.2.1 dX10_put_15 (by decide) ?_
  refine lv_iadd Fx.1 Fx.2.1 dX10_put_16 ?_
  obtain ⟨g3, eg3, hf⟩ := lt_e hf
  refine gp_M_signs Fx hC wd_604 eg3 dX10_put_17 (fun H locs hC => ?_)
  obtain rfl := Option.some.inj hf
  exact hret _ _ _ _ dX10_put_20 hC
/-! FretHandsModel.sign(I)I -/
abbrev rm_M_sign : Room := { frames := 1, cells := 0, slots := 0, locals := 22 }
theorem hd_M_sign : yX10_sign.cls = RX10 ∧ yX10_sign.cls ≠ "java/lang/invoke/MethodHandle" ∧ yX10_sign.cls ≠ "java/lang/invoke/VarHandle" ∧ (parseMethodDescriptor yX10_sign.desc).map (fun d => d.parameters.length) = some 1 := by decide +kernel
noncomputable def p_M_sign (a1 : Int32) (g : sG) (f : sF) : Option (Int32 × sG × sF) := Option.bind (p_M_within a1 (1 : Int32) (127 : Int32) g f) (fun u1 => (if u1 = 0 then some ((-2 : Int32), g, f) else (if (g 5) = (2000 : Int32) then some ((-5 : Int32), g, f) else Option.bind (p_M_put a1 g f) (fun u2 => some (u2.1 5, u2.1, u2.2)))))
set_option maxRecDepth 100000 in
set_option maxHeartbeats 4000000 in
theorem k_M_sign {l : Launch} {D : va_G} {ad : Nat → Nat} {cy : Nat → ClassId} {a1 : Int32} {u : Int32 × sG × sF} {g : sG} {f : sF} (hf : p_M_sign a1 g f = some u) : mMi l yX10_sign (Cond.code yX10_sign cX10_sign 2 (some .int) :: wU) rm_M_sign D (mT cy) (mW ad cy) [.ref (ad 0), .int a1] g f u := by
  refine mk_i (by decide) rfl (Nat.le_of_ble_eq_true rfl) ?_
  intro p e s m below meth c Q A H0 Fx hret ls H locs hl hC
  replace hl : lv_has ls 2 [(0, .ref (ad 0)), (1, .int a1)] := hl
  unfold p_M_sign at hf
  refine lv_iload_n Fx.1 Fx.2.1 dX10_sign_0 rfl (lv_at hl 1 rfl) ?_
  refine lv_iconst (v := (1 : Int32)) Fx.1 Fx.2.1 dX10_sign_1 (by decide) ?_
  refine lv_bipush (v := (127 : Int32)) Fx.1 Fx.2.1 dX10_sign_2 (by decide) ?_
  obtain ⟨u1, hu1, hf⟩ := bd_e hf
  refine ca_s (As := [.int a1, .int (1 : Int32), .int (127 : Int32)]) (rest := []) Fx hC (k_M_within hu1) (cSU 3 Fx.2.2.2.2 wd_661 wd_662 wd_10 wd_663 rfl rfl hd_M_within ⟨Nat.le_of_ble_eq_true rfl, Nat.le_of_ble_eq_true rfl⟩) rfl hl.1 rfl (Nat.le_of_ble_eq_true rfl) dX10_sign_4 (fun H locs hC => ?_)
  refine lv_if_ne (tgt := 13) Fx.1 Fx.2.1 dX10_sign_7 (by decide) (fun hc => ?_) (fun hc => ?_)
  · replace hf := iff_ hc hf
    refine lv_aload_n Fx.1 Fx.2.1 dX10_sign_13 rfl (lv_at hl 0 rfl) ?_
    refine gg_M_signs Fx hC wd_604 dX10_sign_14 ?_
    refine lv_sipush (v := (2000 : Int32)) Fx.1 Fx.2.1 dX10_sign_17 (by decide) ?_
    refine lv_icmp_ne (tgt := 26) Fx.1 Fx.2.1 dX10_sign_20 (by decide) (fun hc => ?_) (fun hc => ?_)
    · replace hf := iff_ hc hf
      refine lv_aload_n Fx.1 Fx.2.1 dX10_sign_26 rfl (lv_at hl 0 rfl) ?_
      refine lv_iload_n Fx.1 Fx.2.1 dX10_sign_27 rfl (lv_at hl 1 rfl) ?_
      obtain ⟨u2, hu2, hf⟩ := bd_e hf
      refine ca_v (As := [.int a1]) (rest := []) Fx hC (k_M_put hu2) (cVU 1 Fx.2.2.2.2 wd_787 wd_788 wd_896 wd_10 wd_789 rfl rfl hd_M_put ⟨Nat.le_of_ble_eq_true rfl, Nat.le_of_ble_eq_true rfl⟩) 0 rfl rfl rfl hl.1 rfl (Nat.le_of_ble_eq_true rfl) dX10_sign_28 (fun H locs hC => ?_)
      refine lv_aload_n Fx.1 Fx.2.1 dX10_sign_31 rfl (lv_at hl 0 rfl) ?_
      refine gg_M_signs Fx hC wd_604 dX10_sign_32 ?_
      obtain rfl := Option.some.inj hf
      exact hret _ _ _ _ dX10_sign_35 hC
    · replace hf := ift hc hf
      refine lv_bipush (v := (-5 : Int32)) Fx.1 Fx.2.1 dX10_sign_23 (by decide) ?_
      obtain rfl := Option.some.inj hf
      exact hret _ _ _ _ dX10_sign_25 hC
  · replace hf := ift hc hf
    refine lv_bipush (v := (-2 : Int32)) Fx.1 Fx.2.1 dX10_sign_10 (by decide) ?_
    obtain rfl := Option.some.inj hf
    exact hret _ _ _ _ dX10_sign_12 hC
/-! FretHandsModel.tape(I)I -/
abbrev rm_M_tape : Room := { frames := 1, cells := 0, slots := 0, locals := 22 }
theorem hd_M_tape : yX10_tape.cls = RX10 ∧ yX10_tape.cls ≠ "java/lang/invoke/MethodHandle" ∧ yX10_tape.cls ≠ "java/lang/invoke/VarHandle" ∧ (parseMethodDescriptor yX10_tape.desc).map (fun d => d.parameters.length) = some 1 := by decide +kernel
noncomputable def p_M_tape (a1 : Int32) (g : sG) (f : sF) : Option (Int32) := Option.bind (p_M_within a1 (0 : Int32) ((g 5) - (1 : Int32)) g f) (fun u1 => (if u1 = 0 then some (-1 : Int32) else (if a1 < 0 ∨ 2000 ≤ a1.toNatClampNeg then none else some (f 9 a1.toNatClampNeg))))
set_option maxRecDepth 100000 in
set_option maxHeartbeats 4000000 in
theorem k_M_tape {l : Launch} {D : va_G} {ad : Nat → Nat} {cy : Nat → ClassId} {a1 : Int32} {r : Int32} {g : sG} {f : sF} (hf : p_M_tape a1 g f = some r) : mMi l yX10_tape (Cond.code yX10_tape cX10_tape 2 (some .int) :: wU) rm_M_tape D (mT cy) (mW ad cy) [.ref (ad 0), .int a1] g f (r, g, f) := by
  refine mk_i (by decide) rfl (Nat.le_of_ble_eq_true rfl) ?_
  intro p e s m below meth c Q A H0 Fx hret ls H locs hl hC
  replace hl : lv_has ls 2 [(0, .ref (ad 0)), (1, .int a1)] := hl
  unfold p_M_tape at hf
  refine lv_iload_n Fx.1 Fx.2.1 dX10_tape_0 rfl (lv_at hl 1 rfl) ?_
  refine lv_iconst (v := (0 : Int32)) Fx.1 Fx.2.1 dX10_tape_1 (by decide) ?_
  refine lv_aload_n Fx.1 Fx.2.1 dX10_tape_2 rfl (lv_at hl 0 rfl) ?_
  refine gg_M_signs Fx hC wd_604 dX10_tape_3 ?_
  refine lv_iconst (v := (1 : Int32)) Fx.1 Fx.2.1 dX10_tape_6 (by decide) ?_
  refine lv_isub Fx.1 Fx.2.1 dX10_tape_7 ?_
  obtain ⟨u1, hu1, hf⟩ := bd_e hf
  refine ca_s (As := [.int a1, .int (0 : Int32), .int ((g 5) - (1 : Int32))]) (rest := []) Fx hC (k_M_within hu1) (cSU 3 Fx.2.2.2.2 wd_661 wd_662 wd_10 wd_663 rfl rfl hd_M_within ⟨Nat.le_of_ble_eq_true rfl, Nat.le_of_ble_eq_true rfl⟩) rfl hl.1 rfl (Nat.le_of_ble_eq_true rfl) dX10_tape_8 (fun H locs hC => ?_)
  refine lv_if_eq (tgt := 23) Fx.1 Fx.2.1 dX10_tape_11 (by decide) (fun hc => ?_) (fun hc => ?_)
  · replace hf := ift hc hf
    refine lv_iconst (v := (-1 : Int32)) Fx.1 Fx.2.1 dX10_tape_23 (by decide) ?_
    obtain rfl := Option.some.inj hf
    exact hret _ _ _ _ dX10_tape_24 hC
  · replace hf := iff_ hc hf
    refine lv_aload_n Fx.1 Fx.2.1 dX10_tape_14 rfl (lv_at hl 0 rfl) ?_
    refine gg_M_tape Fx hC wd_605 dX10_tape_15 ?_
    refine lv_iload_n Fx.1 Fx.2.1 dX10_tape_18 rfl (lv_at hl 1 rfl) ?_
    obtain ⟨hi2, hf⟩ := gd_e hf
    refine ld_M_tape Fx hC hi2 dX10_tape_19 ?_
    refine lv_goto (tgt := 24) Fx.1 Fx.2.1 dX10_tape_20 (by decide) ?_
    obtain rfl := Option.some.inj hf
    exact hret _ _ _ _ dX10_tape_24 hC
/-! FretHandsModel.empty()I -/
abbrev rm_M_empty : Room := { frames := 0, cells := 0, slots := 0, locals := 0 }
theorem hd_M_empty : yX10_empty.cls = RX10 ∧ yX10_empty.cls ≠ "java/lang/invoke/MethodHandle" ∧ yX10_empty.cls ≠ "java/lang/invoke/VarHandle" ∧ (parseMethodDescriptor yX10_empty.desc).map (fun d => d.parameters.length) = some 0 := by decide +kernel
noncomputable def p_M_empty  (g : sG) (f : sF) : Option (Int32 × sG × sF) := lt_ (g 5) (fun v1 => lt_ (upd g 5 (0 : Int32)) (fun g2 => some (v1, g2, f)))
set_option maxRecDepth 100000 in
set_option maxHeartbeats 4000000 in
theorem k_M_empty {l : Launch} {D : va_G} {ad : Nat → Nat} {cy : Nat → ClassId}  {u : Int32 × sG × sF} {g : sG} {f : sF} (hf : p_M_empty  g f = some u) : mMi l yX10_empty (Cond.code yX10_empty cX10_empty 2 (some .int) :: wU) rm_M_empty D (mT cy) (mW ad cy) [.ref (ad 0)] g f u := by
  refine mk_i (by decide) rfl (Nat.le_of_ble_eq_true rfl) ?_
  intro p e s m below meth c Q A H0 Fx hret ls H locs hl hC
  replace hl : lv_has ls 2 [(0, .ref (ad 0))] := hl
  unfold p_M_empty at hf
  refine lv_aload_n Fx.1 Fx.2.1 dX10_empty_0 rfl (lv_at hl 0 rfl) ?_
  refine gg_M_signs Fx hC wd_604 dX10_empty_1 ?_
  obtain ⟨v1, ev1, hf⟩ := lt_e hf
  refine tpi ev1 ?_
  refine lv_istore_n (lv' := [(1, .int v1), (0, .ref (ad 0))]) Fx.1 Fx.2.1 dX10_empty_4 rfl hl (by decide) rfl (fun ls hl => ?_)
  refine lv_aload_n Fx.1 Fx.2.1 dX10_empty_5 rfl (lv_at hl 1 rfl) ?_
  refine lv_iconst (v := (0 : Int32)) Fx.1 Fx.2.1 dX10_empty_6 (by decide) ?_
  obtain ⟨g2, eg2, hf⟩ := lt_e hf
  refine gp_M_signs Fx hC wd_604 eg2 dX10_empty_7 (fun H locs hC => ?_)
  refine lv_iload_n Fx.1 Fx.2.1 dX10_empty_10 rfl (lv_at hl 0 rfl) ?_
  obtain rfl := Option.some.inj hf
  exact hret _ _ _ _ dX10_empty_11 hC
/-! FretHandsModel.numberOn(II)I -/
abbrev rm_M_numberOn : Room := { frames := 1, cells := 0, slots := 0, locals := 24 }
theorem hd_M_numberOn : yX10_numberOn.cls = RX10 ∧ yX10_numberOn.cls ≠ "java/lang/invoke/MethodHandle" ∧ yX10_numberOn.cls ≠ "java/lang/invoke/VarHandle" ∧ (parseMethodDescriptor yX10_numberOn.desc).map (fun d => d.parameters.length) = some 2 := by decide +kernel
noncomputable def p_M_numberOn_L2 (K2 : (Int32 × Int32 × Int32) → Option (Int32)) (x1 : Int32) (x2 : Int32) (x3 : Int32) (g : sG) (f : sF) : Option (Int32) := (if x1 < 0 ∨ 40 ≤ x1.toNatClampNeg then none else (if (f 2 x1.toNatClampNeg) ≤ x3 then some (-1 : Int32) else (if (((4 : Int32) * x1) + x3) < 0 ∨ 160 ≤ (((4 : Int32) * x1) + x3).toNatClampNeg then none else (if (f 6 (((4 : Int32) * x1) + x3).toNatClampNeg) = x2 then (if (((4 : Int32) * x1) + x3) < 0 ∨ 160 ≤ (((4 : Int32) * x1) + x3).toNatClampNeg then none else Option.bind (p_M_fretOf x2 (f 3 (((4 : Int32) * x1) + x3).toNatClampNeg) g f) (fun u5 => some (u5 - (g 2)))) else lt_ (x3 + (1 : Int32)) (fun v3 => K2 (x1, x2, v3))))))
set_option maxRecDepth 100000 in
set_option maxHeartbeats 4000000 in
theorem s_M_numberOn_L2 {K2 : (Int32 × Int32 × Int32) → Option (Int32)} {p : Program} {l : Launch} {e : Env} {s : State} {m : MethodId} {args : Array Value} {below : List Frame} {meth : Method} {c : Code} {Q : State → Prop} {D : va_G} {ad : Nat → Nat} {cy : Nat → ClassId} {A : Nat → Prop} {H0 : Heap} {r : Int32} {g : sG} {f : sF} (Fx : CallFix p m c cX10_numberOn 4 s args (Cond.code yX10_numberOn cX10_numberOn 4 (some .int) :: wU) RX10) (hret : mRi p l e rm_M_numberOn s m args below meth c Q D (mT cy) (mW ad cy) A H0 cX10_numberOn (r, g, f)) (hK2 : ∀ (z : Int32 × Int32 × Int32), K2 z = some r → ∀ (ls : Array Slot) (H : Heap) (locs : List Loc), lv_has ls 4 [(0, .ref (ad 0)), (1, .int z.1), (2, .int z.2.1), (3, .int z.2.2)] → wH D (mT cy) (mW ad cy) A H0 s g f H locs → W p l e rm_M_numberOn s m args below meth c H locs 0 0 Q (F0 m 2 ls [])) (x1 : Int32) (x2 : Int32) (x3 : Int32) (hf : p_M_numberOn_L2 K2 x1 x2 x3 g f = some r) : ∀ (ls : Array Slot) (H : Heap) (locs : List Loc), lv_has ls 4 [(0, .ref (ad 0)), (1, .int x1), (2, .int x2), (3, .int x3)] → wH D (mT cy) (mW ad cy) A H0 s g f H locs → W p l e rm_M_numberOn s m args below meth c H locs 0 0 Q (F0 m 2 ls []) := by
  intro ls H locs hl hC
  unfold p_M_numberOn_L2 at hf
  refine lv_iload_n Fx.1 Fx.2.1 dX10_numberOn_2 rfl (lv_at hl 3 rfl) ?_
  refine lv_aload_n Fx.1 Fx.2.1 dX10_numberOn_3 rfl (lv_at hl 0 rfl) ?_
  refine gg_M_pitchMany Fx hC wd_596 dX10_numberOn_4 ?_
  refine lv_iload_n Fx.1 Fx.2.1 dX10_numberOn_7 rfl (lv_at hl 1 rfl) ?_
  obtain ⟨hi1, hf⟩ := gd_e hf
  refine ld_M_pitchMany Fx hC hi1 dX10_numberOn_8 ?_
  refine lv_icmp_ge (tgt := 53) Fx.1 Fx.2.1 dX10_numberOn_9 (by decide) (fun hc => ?_) (fun hc => ?_)
  · replace hf := ift hc hf
    refine lv_iconst (v := (-1 : Int32)) Fx.1 Fx.2.1 dX10_numberOn_53 (by decide) ?_
    obtain rfl := Option.some.inj hf
    exact hret _ _ _ _ dX10_numberOn_54 hC
  · replace hf := iff_ hc hf
    refine lv_aload_n Fx.1 Fx.2.1 dX10_numberOn_12 rfl (lv_at hl 0 rfl) ?_
    refine gg_M_foundStrings Fx hC wd_601 dX10_numberOn_13 ?_
    refine lv_iconst (v := (4 : Int32)) Fx.1 Fx.2.1 dX10_numberOn_16 (by decide) ?_
    refine lv_iload_n Fx.1 Fx.2.1 dX10_numberOn_17 rfl (lv_at hl 1 rfl) ?_
    refine lv_imul Fx.1 Fx.2.1 dX10_numberOn_18 ?_
    refine lv_iload_n Fx.1 Fx.2.1 dX10_numberOn_19 rfl (lv_at hl 3 rfl) ?_
    refine lv_iadd Fx.1 Fx.2.1 dX10_numberOn_20 ?_
    obtain ⟨hi2, hf⟩ := gd_e hf
    refine ld_M_foundStrings Fx hC hi2 dX10_numberOn_21 ?_
    refine lv_iload_n Fx.1 Fx.2.1 dX10_numberOn_22 rfl (lv_at hl 2 rfl) ?_
    refine lv_icmp_ne (tgt := 47) Fx.1 Fx.2.1 dX10_numberOn_23 (by decide) (fun hc => ?_) (fun hc => ?_)
    · replace hf := iff_ hc hf
      obtain ⟨v3, ev3, hf⟩ := lt_e hf
      refine lv_iinc (v := v3) (lv' := [(3, .int v3), (0, .ref (ad 0)), (1, .int x1), (2, .int x2)]) Fx.1 Fx.2.1 dX10_numberOn_47 hl (k := 3) rfl ev3.symm (by decide) rfl (fun ls hl => ?_)
      refine lv_goto (tgt := 2) Fx.1 Fx.2.1 dX10_numberOn_50 (by decide) ?_
      exact hK2 _ hf _ _ _ (lv_sub hl [1, 2, 3, 0] rfl) hC
    · replace hf := ift hc hf
      refine lv_aload_n Fx.1 Fx.2.1 dX10_numberOn_26 rfl (lv_at hl 0 rfl) ?_
      refine lv_iload_n Fx.1 Fx.2.1 dX10_numberOn_27 rfl (lv_at hl 2 rfl) ?_
      refine lv_aload_n Fx.1 Fx.2.1 dX10_numberOn_28 rfl (lv_at hl 0 rfl) ?_
      refine gg_M_pitches Fx hC wd_597 dX10_numberOn_29 ?_
      refine lv_iconst (v := (4 : Int32)) Fx.1 Fx.2.1 dX10_numberOn_32 (by decide) ?_
      refine lv_iload_n Fx.1 Fx.2.1 dX10_numberOn_33 rfl (lv_at hl 1 rfl) ?_
      refine lv_imul Fx.1 Fx.2.1 dX10_numberOn_34 ?_
      refine lv_iload_n Fx.1 Fx.2.1 dX10_numberOn_35 rfl (lv_at hl 3 rfl) ?_
      refine lv_iadd Fx.1 Fx.2.1 dX10_numberOn_36 ?_
      obtain ⟨hi4, hf⟩ := gd_e hf
      refine ld_M_pitches Fx hC hi4 dX10_numberOn_37 ?_
      obtain ⟨u5, hu5, hf⟩ := bd_e hf
      refine ca_i (As := [.int x2, .int (f 3 (((4 : Int32) * x1) + x3).toNatClampNeg)]) (rest := []) Fx hC (k_M_fretOf hu5) (cVU 2 Fx.2.2.2.2 wd_721 wd_722 wd_885 wd_10 wd_723 rfl rfl hd_M_fretOf ⟨Nat.le_of_ble_eq_true rfl, Nat.le_of_ble_eq_true rfl⟩) 0 rfl rfl rfl hl.1 rfl (Nat.le_of_ble_eq_true rfl) dX10_numberOn_38 (fun H locs hC => ?_)
      refine lv_aload_n Fx.1 Fx.2.1 dX10_numberOn_41 rfl (lv_at hl 0 rfl) ?_
      refine gg_M_capo Fx hC wd_593 dX10_numberOn_42 ?_
      refine lv_isub Fx.1 Fx.2.1 dX10_numberOn_45 ?_
      obtain rfl := Option.some.inj hf
      exact hret _ _ _ _ dX10_numberOn_46 hC
set_option maxRecDepth 100000 in
set_option maxHeartbeats 4000000 in
theorem t_M_numberOn_L2 {p : Program} {l : Launch} {e : Env} {s : State} {m : MethodId} {args : Array Value} {below : List Frame} {meth : Method} {c : Code} {Q : State → Prop} {D : va_G} {ad : Nat → Nat} {cy : Nat → ClassId} {A : Nat → Prop} {H0 : Heap} {r : Int32} {g : sG} {f : sF} (Fx : CallFix p m c cX10_numberOn 4 s args (Cond.code yX10_numberOn cX10_numberOn 4 (some .int) :: wU) RX10) (hret : mRi p l e rm_M_numberOn s m args below meth c Q D (mT cy) (mW ad cy) A H0 cX10_numberOn (r, g, f))  (n : Nat) (z : Int32 × Int32 × Int32) (hz : itr (fun K z => p_M_numberOn_L2 K z.1 z.2.1 z.2.2 g f) n z = some r) : ∀ (ls : Array Slot) (H : Heap) (locs : List Loc), lv_has ls 4 [(0, .ref (ad 0)), (1, .int z.1), (2, .int z.2.1), (3, .int z.2.2)] → wH D (mT cy) (mW ad cy) A H0 s g f H locs → W p l e rm_M_numberOn s m args below meth c H locs 0 0 Q (F0 m 2 ls []) :=
  itr_all (B := fun K z => p_M_numberOn_L2 K z.1 z.2.1 z.2.2 g f) (r := r) (fun z => ∀ (ls : Array Slot) (H : Heap) (locs : List Loc), lv_has ls 4 [(0, .ref (ad 0)), (1, .int z.1), (2, .int z.2.1), (3, .int z.2.2)] → wH D (mT cy) (mW ad cy) A H0 s g f H locs → W p l e rm_M_numberOn s m args below meth c H locs 0 0 Q (F0 m 2 ls [])) (fun K hK z h => s_M_numberOn_L2 (K2 := K) Fx hret hK z.1 z.2.1 z.2.2 h) n z hz
noncomputable def p_M_numberOn (a1 : Int32) (a2 : Int32) (g : sG) (f : sF) : Option (Int32) := itr (fun K z => p_M_numberOn_L2 K z.1 z.2.1 z.2.2 g f) FUEL (a1, a2, (0 : Int32))
set_option maxRecDepth 100000 in
set_option maxHeartbeats 4000000 in
theorem k_M_numberOn {l : Launch} {D : va_G} {ad : Nat → Nat} {cy : Nat → ClassId} {a1 : Int32} {a2 : Int32} {r : Int32} {g : sG} {f : sF} (hf : p_M_numberOn a1 a2 g f = some r) : mMi l yX10_numberOn (Cond.code yX10_numberOn cX10_numberOn 4 (some .int) :: wU) rm_M_numberOn D (mT cy) (mW ad cy) [.ref (ad 0), .int a1, .int a2] g f (r, g, f) := by
  refine mk_i (by decide) rfl (Nat.le_of_ble_eq_true rfl) ?_
  intro p e s m below meth c Q A H0 Fx hret ls H locs hl hC
  replace hl : lv_has ls 4 [(0, .ref (ad 0)), (1, .int a1), (2, .int a2)] := hl
  unfold p_M_numberOn at hf
  refine lv_iconst (v := (0 : Int32)) Fx.1 Fx.2.1 dX10_numberOn_0 (by decide) ?_
  refine lv_istore_n (lv' := [(3, .int (0 : Int32)), (0, .ref (ad 0)), (1, .int a1), (2, .int a2)]) Fx.1 Fx.2.1 dX10_numberOn_1 rfl hl (by decide) rfl (fun ls hl => ?_)
  exact t_M_numberOn_L2 Fx hret _ _ hf _ _ _ (lv_sub hl [1, 2, 3, 0] rfl) hC
/-! FretHandsModel.write()I -/
abbrev rm_M_write : Room := { frames := 2, cells := 0, slots := 0, locals := 47 }
theorem hd_M_write : yX10_write.cls = RX10 ∧ yX10_write.cls ≠ "java/lang/invoke/MethodHandle" ∧ yX10_write.cls ≠ "java/lang/invoke/VarHandle" ∧ (parseMethodDescriptor yX10_write.desc).map (fun d => d.parameters.length) = some 0 := by decide +kernel
noncomputable def p_M_write_L140 (K22 : (Int32 × sG × sF) → Option (Int32 × sG × sF)) (K34 : (Int32 × Int32 × sG × sF) → Option (Int32 × sG × sF)) (K140 : (Int32 × Int32 × Int32 × Int32 × sG × sF) → Option (Int32 × sG × sF)) (x1 : Int32) (x2 : Int32) (x3 : Int32) (x5 : Int32) (g : sG) (f : sF) : Option (Int32 × sG × sF) := (if x3 ≤ x5 then lt_ (x2 + (1 : Int32)) (fun v1 => K34 (x1, v1, g, f)) else Option.bind (p_M_put (45 : Int32) g f) (fun u2 => lt_ (x5 + (1 : Int32)) (fun v3 => K140 (x1, x2, x3, v3, u2.1, u2.2))))
set_option maxRecDepth 100000 in
set_option maxHeartbeats 4000000 in
theorem s_M_write_L140 {K22 : (Int32 × sG × sF) → Option (Int32 × sG × sF)} {K34 : (Int32 × Int32 × sG × sF) → Option (Int32 × sG × sF)} {K140 : (Int32 × Int32 × Int32 × Int32 × sG × sF) → Option (Int32 × sG × sF)} {p : Program} {l : Launch} {e : Env} {s : State} {m : MethodId} {args : Array Value} {below : List Frame} {meth : Method} {c : Code} {Q : State → Prop} {D : va_G} {ad : Nat → Nat} {cy : Nat → ClassId} {A : Nat → Prop} {H0 : Heap} {u : Int32 × sG × sF} (Fx : CallFix p m c cX10_write 6 s args (Cond.code yX10_write cX10_write 6 (some .int) :: wU) RX10) (hret : mRi p l e rm_M_write s m args below meth c Q D (mT cy) (mW ad cy) A H0 cX10_write u) (hK22 : ∀ (z : Int32 × sG × sF), K22 z = some u → ∀ (ls : Array Slot) (H : Heap) (locs : List Loc), lv_has ls 6 [(0, .ref (ad 0)), (1, .int z.1)] → wH D (mT cy) (mW ad cy) A H0 s z.2.1 z.2.2 H locs → W p l e rm_M_write s m args below meth c H locs 0 0 Q (F0 m 22 ls [])) (hK34 : ∀ (z : Int32 × Int32 × sG × sF), K34 z = some u → ∀ (ls : Array Slot) (H : Heap) (locs : List Loc), lv_has ls 6 [(0, .ref (ad 0)), (1, .int z.1), (2, .int z.2.1)] → wH D (mT cy) (mW ad cy) A H0 s z.2.2.1 z.2.2.2 H locs → W p l e rm_M_write s m args below meth c H locs 0 0 Q (F0 m 34 ls [])) (hK140 : ∀ (z : Int32 × Int32 × Int32 × Int32 × sG × sF), K140 z = some u → ∀ (ls : Array Slot) (H : Heap) (locs : List Loc), lv_has ls 6 [(0, .ref (ad 0)), (1, .int z.1), (2, .int z.2.1), (3, .int z.2.2.1), (5, .int z.2.2.2.1)] → wH D (mT cy) (mW ad cy) A H0 s z.2.2.2.2.1 z.2.2.2.2.2 H locs → W p l e rm_M_write s m args below meth c H locs 0 0 Q (F0 m 140 ls [])) (x1 : Int32) (x2 : Int32) (x3 : Int32) (x5 : Int32) (g : sG) (f : sF) (hf : p_M_write_L140 K22 K34 K140 x1 x2 x3 x5 g f = some u) : ∀ (ls : Array Slot) (H : Heap) (locs : List Loc), lv_has ls 6 [(0, .ref (ad 0)), (1, .int x1), (2, .int x2), (3, .int x3), (5, .int x5)] → wH D (mT cy) (mW ad cy) A H0 s g f H locs → W p l e rm_M_write s m args below meth c H locs 0 0 Q (F0 m 140 ls []) := by
  intro ls H locs hl hC
  unfold p_M_write_L140 at hf
  refine lv_iload Fx.1 Fx.2.1 dX10_write_140 (lv_at hl 4 rfl) ?_
  refine lv_iload_n Fx.1 Fx.2.1 dX10_write_142 rfl (lv_at hl 3 rfl) ?_
  refine lv_icmp_ge (tgt := 158) Fx.1 Fx.2.1 dX10_write_143 (by decide) (fun hc => ?_) (fun hc => ?_)
  · replace hf := ift hc hf
    obtain ⟨v1, ev1, hf⟩ := lt_e hf
    refine lv_iinc (v := v1) (lv' := [(2, .int v1), (0, .ref (ad 0)), (1, .int x1), (3, .int x3), (5, .int x5)]) Fx.1 Fx.2.1 dX10_write_158 hl (k := 2) rfl ev1.symm (by decide) rfl (fun ls hl => ?_)
    refine lv_goto (tgt := 34) Fx.1 Fx.2.1 dX10_write_161 (by decide) ?_
    exact hK34 _ hf _ _ _ (lv_sub hl [1, 2, 0] rfl) hC
  · replace hf := iff_ hc hf
    refine lv_aload_n Fx.1 Fx.2.1 dX10_write_146 rfl (lv_at hl 0 rfl) ?_
    refine lv_bipush (v := (45 : Int32)) Fx.1 Fx.2.1 dX10_write_147 (by decide) ?_
    obtain ⟨u2, hu2, hf⟩ := bd_e hf
    refine ca_v (As := [.int (45 : Int32)]) (rest := []) Fx hC (k_M_put hu2) (cVU 1 Fx.2.2.2.2 wd_787 wd_788 wd_896 wd_10 wd_789 rfl rfl hd_M_put ⟨Nat.le_of_ble_eq_true rfl, Nat.le_of_ble_eq_true rfl⟩) 0 rfl rfl rfl hl.1 rfl (Nat.le_of_ble_eq_true rfl) dX10_write_149 (fun H locs hC => ?_)
    obtain ⟨v3, ev3, hf⟩ := lt_e hf
    refine lv_iinc (v := v3) (lv' := [(5, .int v3), (0, .ref (ad 0)), (1, .int x1), (2, .int x2), (3, .int x3)]) Fx.1 Fx.2.1 dX10_write_152 hl (k := 4) rfl ev3.symm (by decide) rfl (fun ls hl => ?_)
    refine lv_goto (tgt := 140) Fx.1 Fx.2.1 dX10_write_155 (by decide) ?_
    exact hK140 _ hf _ _ _ (lv_sub hl [1, 2, 3, 4, 0] rfl) hC
set_option maxRecDepth 100000 in
set_option maxHeartbeats 4000000 in
theorem t_M_write_L140 {K22 : (Int32 × sG × sF) → Option (Int32 × sG × sF)} {K34 : (Int32 × Int32 × sG × sF) → Option (Int32 × sG × sF)} {p : Program} {l : Launch} {e : Env} {s : State} {m : MethodId} {args : Array Value} {below : List Frame} {meth : Method} {c : Code} {Q : State → Prop} {D : va_G} {ad : Nat → Nat} {cy : Nat → ClassId} {A : Nat → Prop} {H0 : Heap} {u : Int32 × sG × sF} (Fx : CallFix p m c cX10_write 6 s args (Cond.code yX10_write cX10_write 6 (some .int) :: wU) RX10) (hret : mRi p l e rm_M_write s m args below meth c Q D (mT cy) (mW ad cy) A H0 cX10_write u) (hK22 : ∀ (z : Int32 × sG × sF), K22 z = some u → ∀ (ls : Array Slot) (H : Heap) (locs : List Loc), lv_has ls 6 [(0, .ref (ad 0)), (1, .int z.1)] → wH D (mT cy) (mW ad cy) A H0 s z.2.1 z.2.2 H locs → W p l e rm_M_write s m args below meth c H locs 0 0 Q (F0 m 22 ls [])) (hK34 : ∀ (z : Int32 × Int32 × sG × sF), K34 z = some u → ∀ (ls : Array Slot) (H : Heap) (locs : List Loc), lv_has ls 6 [(0, .ref (ad 0)), (1, .int z.1), (2, .int z.2.1)] → wH D (mT cy) (mW ad cy) A H0 s z.2.2.1 z.2.2.2 H locs → W p l e rm_M_write s m args below meth c H locs 0 0 Q (F0 m 34 ls [])) (n : Nat) (z : Int32 × Int32 × Int32 × Int32 × sG × sF) (hz : itr (fun K z => p_M_write_L140 K22 K34 K z.1 z.2.1 z.2.2.1 z.2.2.2.1 z.2.2.2.2.1 z.2.2.2.2.2) n z = some u) : ∀ (ls : Array Slot) (H : Heap) (locs : List Loc), lv_has ls 6 [(0, .ref (ad 0)), (1, .int z.1), (2, .int z.2.1), (3, .int z.2.2.1), (5, .int z.2.2.2.1)] → wH D (mT cy) (mW ad cy) A H0 s z.2.2.2.2.1 z.2.2.2.2.2 H locs → W p l e rm_M_write s m args below meth c H locs 0 0 Q (F0 m 140 ls []) :=
  itr_all (B := fun K z => p_M_write_L140 K22 K34 K z.1 z.2.1 z.2.2.1 z.2.2.2.1 z.2.2.2.2.1 z.2.2.2.2.2) (r := u) (fun z => ∀ (ls : Array Slot) (H : Heap) (locs : List Loc), lv_has ls 6 [(0, .ref (ad 0)), (1, .int z.1), (2, .int z.2.1), (3, .int z.2.2.1), (5, .int z.2.2.2.1)] → wH D (mT cy) (mW ad cy) A H0 s z.2.2.2.2.1 z.2.2.2.2.2 H locs → W p l e rm_M_write s m args below meth c H locs 0 0 Q (F0 m 140 ls [])) (fun K hK z h => s_M_write_L140 (K140 := K) Fx hret hK22 hK34 hK z.1 z.2.1 z.2.2.1 z.2.2.2.1 z.2.2.2.2.1 z.2.2.2.2.2 h) n z hz
noncomputable def p_M_write_J119 (K22 : (Int32 × sG × sF) → Option (Int32 × sG × sF)) (K34 : (Int32 × Int32 × sG × sF) → Option (Int32 × sG × sF)) (x1 : Int32) (x2 : Int32) (x3 : Int32) (x4 : Int32) (x5 : Int32) (g : sG) (f : sF) : Option (Int32 × sG × sF) := (if x4 = (-1 : Int32) then itr (fun K z => p_M_write_L140 K22 K34 K z.1 z.2.1 z.2.2.1 z.2.2.2.1 z.2.2.2.2.1 z.2.2.2.2.2) FUEL (x1, x2, x3, x5, g, f) else Option.bind (p_M_put ((48 : Int32) + (x4 - x4 / (10 : Int32) * (10 : Int32))) g f) (fun u1 => lt_ (x5 + (1 : Int32)) (fun v2 => itr (fun K z => p_M_write_L140 K22 K34 K z.1 z.2.1 z.2.2.1 z.2.2.2.1 z.2.2.2.2.1 z.2.2.2.2.2) FUEL (x1, x2, x3, v2, u1.1, u1.2))))
set_option maxRecDepth 100000 in
set_option maxHeartbeats 4000000 in
theorem s_M_write_J119 {K22 : (Int32 × sG × sF) → Option (Int32 × sG × sF)} {K34 : (Int32 × Int32 × sG × sF) → Option (Int32 × sG × sF)} {p : Program} {l : Launch} {e : Env} {s : State} {m : MethodId} {args : Array Value} {below : List Frame} {meth : Method} {c : Code} {Q : State → Prop} {D : va_G} {ad : Nat → Nat} {cy : Nat → ClassId} {A : Nat → Prop} {H0 : Heap} {u : Int32 × sG × sF} (Fx : CallFix p m c cX10_write 6 s args (Cond.code yX10_write cX10_write 6 (some .int) :: wU) RX10) (hret : mRi p l e rm_M_write s m args below meth c Q D (mT cy) (mW ad cy) A H0 cX10_write u) (hK22 : ∀ (z : Int32 × sG × sF), K22 z = some u → ∀ (ls : Array Slot) (H : Heap) (locs : List Loc), lv_has ls 6 [(0, .ref (ad 0)), (1, .int z.1)] → wH D (mT cy) (mW ad cy) A H0 s z.2.1 z.2.2 H locs → W p l e rm_M_write s m args below meth c H locs 0 0 Q (F0 m 22 ls [])) (hK34 : ∀ (z : Int32 × Int32 × sG × sF), K34 z = some u → ∀ (ls : Array Slot) (H : Heap) (locs : List Loc), lv_has ls 6 [(0, .ref (ad 0)), (1, .int z.1), (2, .int z.2.1)] → wH D (mT cy) (mW ad cy) A H0 s z.2.2.1 z.2.2.2 H locs → W p l e rm_M_write s m args below meth c H locs 0 0 Q (F0 m 34 ls [])) (x1 : Int32) (x2 : Int32) (x3 : Int32) (x4 : Int32) (x5 : Int32) (g : sG) (f : sF) (hf : p_M_write_J119 K22 K34 x1 x2 x3 x4 x5 g f = some u) : ∀ (ls : Array Slot) (H : Heap) (locs : List Loc), lv_has ls 6 [(0, .ref (ad 0)), (1, .int x1), (2, .int x2), (3, .int x3), (4, .int x4), (5, .int x5)] → wH D (mT cy) (mW ad cy) A H0 s g f H locs → W p l e rm_M_write s m args below meth c H locs 0 0 Q (F0 m 119 ls []) := by
  intro ls H locs hl hC
  unfold p_M_write_J119 at hf
  refine lv_iload Fx.1 Fx.2.1 dX10_write_119 (lv_at hl 4 rfl) ?_
  refine lv_iconst (v := (-1 : Int32)) Fx.1 Fx.2.1 dX10_write_121 (by decide) ?_
  refine lv_icmp_eq (tgt := 140) Fx.1 Fx.2.1 dX10_write_122 (by decide) (fun hc => ?_) (fun hc => ?_)
  · replace hf := ift hc hf
    exact t_M_write_L140 Fx hret hK22 hK34 _ _ hf _ _ _ (lv_sub hl [0, 1, 2, 3, 5] rfl) hC
  · replace hf := iff_ hc hf
    refine lv_aload_n Fx.1 Fx.2.1 dX10_write_125 rfl (lv_at hl 0 rfl) ?_
    refine lv_bipush (v := (48 : Int32)) Fx.1 Fx.2.1 dX10_write_126 (by decide) ?_
    refine lv_iload Fx.1 Fx.2.1 dX10_write_128 (lv_at hl 4 rfl) ?_
    refine lv_bipush (v := (10 : Int32)) Fx.1 Fx.2.1 dX10_write_130 (by decide) ?_
    refine lv_irem Fx.1 Fx.2.1 dX10_write_132 (by decide) ?_
    refine lv_iadd Fx.1 Fx.2.1 dX10_write_133 ?_
    obtain ⟨u1, hu1, hf⟩ := bd_e hf
    refine ca_v (As := [.int ((48 : Int32) + (x4 - x4 / (10 : Int32) * (10 : Int32)))]) (rest := []) Fx hC (k_M_put hu1) (cVU 1 Fx.2.2.2.2 wd_787 wd_788 wd_896 wd_10 wd_789 rfl rfl hd_M_put ⟨Nat.le_of_ble_eq_true rfl, Nat.le_of_ble_eq_true rfl⟩) 0 rfl rfl rfl hl.1 rfl (Nat.le_of_ble_eq_true rfl) dX10_write_134 (fun H locs hC => ?_)
    obtain ⟨v2, ev2, hf⟩ := lt_e hf
    refine lv_iinc (v := v2) (lv' := [(5, .int v2), (0, .ref (ad 0)), (1, .int x1), (2, .int x2), (3, .int x3), (4, .int x4)]) Fx.1 Fx.2.1 dX10_write_137 hl (k := 5) rfl ev2.symm (by decide) rfl (fun ls hl => ?_)
    exact t_M_write_L140 Fx hret hK22 hK34 _ _ hf _ _ _ (lv_sub hl [1, 2, 3, 4, 0] rfl) hC
noncomputable def p_M_write_L47 (K22 : (Int32 × sG × sF) → Option (Int32 × sG × sF)) (K34 : (Int32 × Int32 × sG × sF) → Option (Int32 × sG × sF)) (K47 : (Int32 × Int32 × Int32 × Int32 × sG × sF) → Option (Int32 × sG × sF)) (x1 : Int32) (x2 : Int32) (x3 : Int32) (x4 : Int32) (g : sG) (f : sF) : Option (Int32 × sG × sF) := (if (g 0) ≤ x4 then Option.bind (p_M_put (45 : Int32) g f) (fun u1 => Option.bind (p_M_numberOn x2 x1 u1.1 u1.2) (fun u2 => (if u2 ≤ (9 : Int32) then p_M_write_J119 K22 K34 x1 x2 x3 u2 (0 : Int32) u1.1 u1.2 else Option.bind (p_M_put ((48 : Int32) + (u2 / (10 : Int32))) u1.1 u1.2) (fun u3 => lt_ ((0 : Int32) + (1 : Int32)) (fun v4 => p_M_write_J119 K22 K34 x1 x2 x3 u2 v4 u3.1 u3.2))))) else Option.bind (p_M_numberOn x2 x4 g f) (fun u5 => (if u5 ≤ (9 : Int32) then lt_ (x4 + (1 : Int32)) (fun v6 => K47 (x1, x2, x3, v6, g, f)) else lt_ (x4 + (1 : Int32)) (fun v7 => K47 (x1, x2, (2 : Int32), v7, g, f)))))
set_option maxRecDepth 100000 in
set_option maxHeartbeats 4000000 in
theorem s_M_write_L47 {K22 : (Int32 × sG × sF) → Option (Int32 × sG × sF)} {K34 : (Int32 × Int32 × sG × sF) → Option (Int32 × sG × sF)} {K47 : (Int32 × Int32 × Int32 × Int32 × sG × sF) → Option (Int32 × sG × sF)} {p : Program} {l : Launch} {e : Env} {s : State} {m : MethodId} {args : Array Value} {below : List Frame} {meth : Method} {c : Code} {Q : State → Prop} {D : va_G} {ad : Nat → Nat} {cy : Nat → ClassId} {A : Nat → Prop} {H0 : Heap} {u : Int32 × sG × sF} (Fx : CallFix p m c cX10_write 6 s args (Cond.code yX10_write cX10_write 6 (some .int) :: wU) RX10) (hret : mRi p l e rm_M_write s m args below meth c Q D (mT cy) (mW ad cy) A H0 cX10_write u) (hK22 : ∀ (z : Int32 × sG × sF), K22 z = some u → ∀ (ls : Array Slot) (H : Heap) (locs : List Loc), lv_has ls 6 [(0, .ref (ad 0)), (1, .int z.1)] → wH D (mT cy) (mW ad cy) A H0 s z.2.1 z.2.2 H locs → W p l e rm_M_write s m args below meth c H locs 0 0 Q (F0 m 22 ls [])) (hK34 : ∀ (z : Int32 × Int32 × sG × sF), K34 z = some u → ∀ (ls : Array Slot) (H : Heap) (locs : List Loc), lv_has ls 6 [(0, .ref (ad 0)), (1, .int z.1), (2, .int z.2.1)] → wH D (mT cy) (mW ad cy) A H0 s z.2.2.1 z.2.2.2 H locs → W p l e rm_M_write s m args below meth c H locs 0 0 Q (F0 m 34 ls [])) (hK47 : ∀ (z : Int32 × Int32 × Int32 × Int32 × sG × sF), K47 z = some u → ∀ (ls : Array Slot) (H : Heap) (locs : List Loc), lv_has ls 6 [(0, .ref (ad 0)), (1, .int z.1), (2, .int z.2.1), (3, .int z.2.2.1), (4, .int z.2.2.2.1)] → wH D (mT cy) (mW ad cy) A H0 s z.2.2.2.2.1 z.2.2.2.2.2 H locs → W p l e rm_M_write s m args below meth c H locs 0 0 Q (F0 m 47 ls [])) (x1 : Int32) (x2 : Int32) (x3 : Int32) (x4 : Int32) (g : sG) (f : sF) (hf : p_M_write_L47 K22 K34 K47 x1 x2 x3 x4 g f = some u) : ∀ (ls : Array Slot) (H : Heap) (locs : List Loc), lv_has ls 6 [(0, .ref (ad 0)), (1, .int x1), (2, .int x2), (3, .int x3), (4, .int x4)] → wH D (mT cy) (mW ad cy) A H0 s g f H locs → W p l e rm_M_write s m args below meth c H locs 0 0 Q (F0 m 47 ls []) := by
  intro ls H locs hl hC
  unfold p_M_write_L47 at hf
  refine lv_iload Fx.1 Fx.2.1 dX10_write_47 (lv_at hl 4 rfl) ?_
  refine lv_aload_n Fx.1 Fx.2.1 dX10_write_49 rfl (lv_at hl 0 rfl) ?_
  refine gg_M_strings Fx hC wd_590 dX10_write_50 ?_
  refine lv_icmp_ge (tgt := 80) Fx.1 Fx.2.1 dX10_write_53 (by decide) (fun hc => ?_) (fun hc => ?_)
  · replace hf := ift hc hf
    refine lv_aload_n Fx.1 Fx.2.1 dX10_write_80 rfl (lv_at hl 0 rfl) ?_
    refine lv_bipush (v := (45 : Int32)) Fx.1 Fx.2.1 dX10_write_81 (by decide) ?_
    obtain ⟨u1, hu1, hf⟩ := bd_e hf
    refine ca_v (As := [.int (45 : Int32)]) (rest := []) Fx hC (k_M_put hu1) (cVU 1 Fx.2.2.2.2 wd_787 wd_788 wd_896 wd_10 wd_789 rfl rfl hd_M_put ⟨Nat.le_of_ble_eq_true rfl, Nat.le_of_ble_eq_true rfl⟩) 0 rfl rfl rfl hl.1 rfl (Nat.le_of_ble_eq_true rfl) dX10_write_83 (fun H locs hC => ?_)
    refine lv_aload_n Fx.1 Fx.2.1 dX10_write_86 rfl (lv_at hl 0 rfl) ?_
    refine lv_iload_n Fx.1 Fx.2.1 dX10_write_87 rfl (lv_at hl 2 rfl) ?_
    refine lv_iload_n Fx.1 Fx.2.1 dX10_write_88 rfl (lv_at hl 1 rfl) ?_
    obtain ⟨u2, hu2, hf⟩ := bd_e hf
    refine ca_i (As := [.int x2, .int x1]) (rest := []) Fx hC (k_M_numberOn hu2) (cVU 2 Fx.2.2.2.2 wd_802 wd_803 wd_897 wd_10 wd_804 rfl rfl hd_M_numberOn ⟨Nat.le_of_ble_eq_true rfl, Nat.le_of_ble_eq_true rfl⟩) 0 rfl rfl rfl hl.1 rfl (Nat.le_of_ble_eq_true rfl) dX10_write_89 (fun H locs hC => ?_)
    refine lv_istore (lv' := [(4, .int u2), (0, .ref (ad 0)), (1, .int x1), (2, .int x2), (3, .int x3)]) Fx.1 Fx.2.1 dX10_write_92 hl (by decide) rfl (fun ls hl => ?_)
    refine lv_iconst (v := (0 : Int32)) Fx.1 Fx.2.1 dX10_write_94 (by decide) ?_
    refine lv_istore (lv' := [(5, .int (0 : Int32)), (4, .int u2), (0, .ref (ad 0)), (1, .int x1), (2, .int x2), (3, .int x3)]) Fx.1 Fx.2.1 dX10_write_95 hl (by decide) rfl (fun ls hl => ?_)
    refine lv_iload Fx.1 Fx.2.1 dX10_write_97 (lv_at hl 1 rfl) ?_
    refine lv_bipush (v := (9 : Int32)) Fx.1 Fx.2.1 dX10_write_99 (by decide) ?_
    refine lv_icmp_le (tgt := 119) Fx.1 Fx.2.1 dX10_write_101 (by decide) (fun hc => ?_) (fun hc => ?_)
    · replace hf := ift hc hf
      exact s_M_write_J119 Fx hret hK22 hK34 _ _ _ _ _ _ _  hf _ _ _ (lv_sub hl [2, 3, 4, 5, 1, 0] rfl) hC
    · replace hf := iff_ hc hf
      refine lv_aload_n Fx.1 Fx.2.1 dX10_write_104 rfl (lv_at hl 2 rfl) ?_
      refine lv_bipush (v := (48 : Int32)) Fx.1 Fx.2.1 dX10_write_105 (by decide) ?_
      refine lv_iload Fx.1 Fx.2.1 dX10_write_107 (lv_at hl 1 rfl) ?_
      refine lv_bipush (v := (10 : Int32)) Fx.1 Fx.2.1 dX10_write_109 (by decide) ?_
      refine lv_idiv Fx.1 Fx.2.1 dX10_write_111 (by decide) ?_
      refine lv_iadd Fx.1 Fx.2.1 dX10_write_112 ?_
      obtain ⟨u3, hu3, hf⟩ := bd_e hf
      refine ca_v (As := [.int ((48 : Int32) + (u2 / (10 : Int32)))]) (rest := []) Fx hC (k_M_put hu3) (cVU 1 Fx.2.2.2.2 wd_787 wd_788 wd_896 wd_10 wd_789 rfl rfl hd_M_put ⟨Nat.le_of_ble_eq_true rfl, Nat.le_of_ble_eq_true rfl⟩) 0 rfl rfl rfl hl.1 rfl (Nat.le_of_ble_eq_true rfl) dX10_write_113 (fun H locs hC => ?_)
      obtain ⟨v4, ev4, hf⟩ := lt_e hf
      refine lv_iinc (v := v4) (lv' := [(5, .int v4), (4, .int u2), (0, .ref (ad 0)), (1, .int x1), (2, .int x2), (3, .int x3)]) Fx.1 Fx.2.1 dX10_write_116 hl (k := 0) rfl ev4.symm (by decide) rfl (fun ls hl => ?_)
      exact s_M_write_J119 Fx hret hK22 hK34 _ _ _ _ _ _ _  hf _ _ _ (lv_sub hl [2, 3, 4, 5, 1, 0] rfl) hC
  · replace hf := iff_ hc hf
    refine lv_aload_n Fx.1 Fx.2.1 dX10_write_56 rfl (lv_at hl 0 rfl) ?_
    refine lv_iload_n Fx.1 Fx.2.1 dX10_write_57 rfl (lv_at hl 2 rfl) ?_
    refine lv_iload Fx.1 Fx.2.1 dX10_write_58 (lv_at hl 4 rfl) ?_
    obtain ⟨u5, hu5, hf⟩ := bd_e hf
    refine ca_i (As := [.int x2, .int x4]) (rest := []) Fx hC (k_M_numberOn hu5) (cVU 2 Fx.2.2.2.2 wd_802 wd_803 wd_897 wd_10 wd_804 rfl rfl hd_M_numberOn ⟨Nat.le_of_ble_eq_true rfl, Nat.le_of_ble_eq_true rfl⟩) 0 rfl rfl rfl hl.1 rfl (Nat.le_of_ble_eq_true rfl) dX10_write_60 (fun H locs hC => ?_)
    refine lv_bipush (v := (9 : Int32)) Fx.1 Fx.2.1 dX10_write_63 (by decide) ?_
    refine lv_icmp_le (tgt := 72) Fx.1 Fx.2.1 dX10_write_65 (by decide) (fun hc => ?_) (fun hc => ?_)
    · replace hf := ift hc hf
      refine lv_iload_n Fx.1 Fx.2.1 dX10_write_72 rfl (lv_at hl 3 rfl) ?_
      refine lv_istore_n (lv' := [(3, .int x3), (0, .ref (ad 0)), (1, .int x1), (2, .int x2), (4, .int x4)]) Fx.1 Fx.2.1 dX10_write_73 rfl hl (by decide) rfl (fun ls hl => ?_)
      obtain ⟨v6, ev6, hf⟩ := lt_e hf
      refine lv_iinc (v := v6) (lv' := [(4, .int v6), (3, .int x3), (0, .ref (ad 0)), (1, .int x1), (2, .int x2)]) Fx.1 Fx.2.1 dX10_write_74 hl (k := 4) rfl ev6.symm (by decide) rfl (fun ls hl => ?_)
      refine lv_goto (tgt := 47) Fx.1 Fx.2.1 dX10_write_77 (by decide) ?_
      exact hK47 _ hf _ _ _ (lv_sub hl [2, 3, 4, 1, 0] rfl) hC
    · replace hf := iff_ hc hf
      refine lv_iconst (v := (2 : Int32)) Fx.1 Fx.2.1 dX10_write_68 (by decide) ?_
      refine lv_goto (tgt := 73) Fx.1 Fx.2.1 dX10_write_69 (by decide) ?_
      refine lv_istore_n (lv' := [(3, .int (2 : Int32)), (0, .ref (ad 0)), (1, .int x1), (2, .int x2), (4, .int x4)]) Fx.1 Fx.2.1 dX10_write_73 rfl hl (by decide) rfl (fun ls hl => ?_)
      obtain ⟨v7, ev7, hf⟩ := lt_e hf
      refine lv_iinc (v := v7) (lv' := [(4, .int v7), (3, .int (2 : Int32)), (0, .ref (ad 0)), (1, .int x1), (2, .int x2)]) Fx.1 Fx.2.1 dX10_write_74 hl (k := 4) rfl ev7.symm (by decide) rfl (fun ls hl => ?_)
      refine lv_goto (tgt := 47) Fx.1 Fx.2.1 dX10_write_77 (by decide) ?_
      exact hK47 _ hf _ _ _ (lv_sub hl [2, 3, 4, 1, 0] rfl) hC
set_option maxRecDepth 100000 in
set_option maxHeartbeats 4000000 in
theorem t_M_write_L47 {K22 : (Int32 × sG × sF) → Option (Int32 × sG × sF)} {K34 : (Int32 × Int32 × sG × sF) → Option (Int32 × sG × sF)} {p : Program} {l : Launch} {e : Env} {s : State} {m : MethodId} {args : Array Value} {below : List Frame} {meth : Method} {c : Code} {Q : State → Prop} {D : va_G} {ad : Nat → Nat} {cy : Nat → ClassId} {A : Nat → Prop} {H0 : Heap} {u : Int32 × sG × sF} (Fx : CallFix p m c cX10_write 6 s args (Cond.code yX10_write cX10_write 6 (some .int) :: wU) RX10) (hret : mRi p l e rm_M_write s m args below meth c Q D (mT cy) (mW ad cy) A H0 cX10_write u) (hK22 : ∀ (z : Int32 × sG × sF), K22 z = some u → ∀ (ls : Array Slot) (H : Heap) (locs : List Loc), lv_has ls 6 [(0, .ref (ad 0)), (1, .int z.1)] → wH D (mT cy) (mW ad cy) A H0 s z.2.1 z.2.2 H locs → W p l e rm_M_write s m args below meth c H locs 0 0 Q (F0 m 22 ls [])) (hK34 : ∀ (z : Int32 × Int32 × sG × sF), K34 z = some u → ∀ (ls : Array Slot) (H : Heap) (locs : List Loc), lv_has ls 6 [(0, .ref (ad 0)), (1, .int z.1), (2, .int z.2.1)] → wH D (mT cy) (mW ad cy) A H0 s z.2.2.1 z.2.2.2 H locs → W p l e rm_M_write s m args below meth c H locs 0 0 Q (F0 m 34 ls [])) (n : Nat) (z : Int32 × Int32 × Int32 × Int32 × sG × sF) (hz : itr (fun K z => p_M_write_L47 K22 K34 K z.1 z.2.1 z.2.2.1 z.2.2.2.1 z.2.2.2.2.1 z.2.2.2.2.2) n z = some u) : ∀ (ls : Array Slot) (H : Heap) (locs : List Loc), lv_has ls 6 [(0, .ref (ad 0)), (1, .int z.1), (2, .int z.2.1), (3, .int z.2.2.1), (4, .int z.2.2.2.1)] → wH D (mT cy) (mW ad cy) A H0 s z.2.2.2.2.1 z.2.2.2.2.2 H locs → W p l e rm_M_write s m args below meth c H locs 0 0 Q (F0 m 47 ls []) :=
  itr_all (B := fun K z => p_M_write_L47 K22 K34 K z.1 z.2.1 z.2.2.1 z.2.2.2.1 z.2.2.2.2.1 z.2.2.2.2.2) (r := u) (fun z => ∀ (ls : Array Slot) (H : Heap) (locs : List Loc), lv_has ls 6 [(0, .ref (ad 0)), (1, .int z.1), (2, .int z.2.1), (3, .int z.2.2.1), (4, .int z.2.2.2.1)] → wH D (mT cy) (mW ad cy) A H0 s z.2.2.2.2.1 z.2.2.2.2.2 H locs → W p l e rm_M_write s m args below meth c H locs 0 0 Q (F0 m 47 ls [])) (fun K hK z h => s_M_write_L47 (K47 := K) Fx hret hK22 hK34 hK z.1 z.2.1 z.2.2.1 z.2.2.2.1 z.2.2.2.2.1 z.2.2.2.2.2 h) n z hz
noncomputable def p_M_write_L34 (K22 : (Int32 × sG × sF) → Option (Int32 × sG × sF)) (K34 : (Int32 × Int32 × sG × sF) → Option (Int32 × sG × sF)) (x1 : Int32) (x2 : Int32) (g : sG) (f : sF) : Option (Int32 × sG × sF) := (if (g 3) ≤ x2 then Option.bind (p_M_put (45 : Int32) g f) (fun u1 => Option.bind (p_M_put (124 : Int32) u1.1 u1.2) (fun u2 => Option.bind (p_M_put (10 : Int32) u2.1 u2.2) (fun u3 => lt_ (x1 + (-1 : Int32)) (fun v4 => K22 (v4, u3.1, u3.2))))) else itr (fun K z => p_M_write_L47 K22 K34 K z.1 z.2.1 z.2.2.1 z.2.2.2.1 z.2.2.2.2.1 z.2.2.2.2.2) FUEL (x1, x2, (1 : Int32), (0 : Int32), g, f))
set_option maxRecDepth 100000 in
set_option maxHeartbeats 4000000 in
theorem s_M_write_L34 {K22 : (Int32 × sG × sF) → Option (Int32 × sG × sF)} {K34 : (Int32 × Int32 × sG × sF) → Option (Int32 × sG × sF)} {p : Program} {l : Launch} {e : Env} {s : State} {m : MethodId} {args : Array Value} {below : List Frame} {meth : Method} {c : Code} {Q : State → Prop} {D : va_G} {ad : Nat → Nat} {cy : Nat → ClassId} {A : Nat → Prop} {H0 : Heap} {u : Int32 × sG × sF} (Fx : CallFix p m c cX10_write 6 s args (Cond.code yX10_write cX10_write 6 (some .int) :: wU) RX10) (hret : mRi p l e rm_M_write s m args below meth c Q D (mT cy) (mW ad cy) A H0 cX10_write u) (hK22 : ∀ (z : Int32 × sG × sF), K22 z = some u → ∀ (ls : Array Slot) (H : Heap) (locs : List Loc), lv_has ls 6 [(0, .ref (ad 0)), (1, .int z.1)] → wH D (mT cy) (mW ad cy) A H0 s z.2.1 z.2.2 H locs → W p l e rm_M_write s m args below meth c H locs 0 0 Q (F0 m 22 ls [])) (hK34 : ∀ (z : Int32 × Int32 × sG × sF), K34 z = some u → ∀ (ls : Array Slot) (H : Heap) (locs : List Loc), lv_has ls 6 [(0, .ref (ad 0)), (1, .int z.1), (2, .int z.2.1)] → wH D (mT cy) (mW ad cy) A H0 s z.2.2.1 z.2.2.2 H locs → W p l e rm_M_write s m args below meth c H locs 0 0 Q (F0 m 34 ls [])) (x1 : Int32) (x2 : Int32) (g : sG) (f : sF) (hf : p_M_write_L34 K22 K34 x1 x2 g f = some u) : ∀ (ls : Array Slot) (H : Heap) (locs : List Loc), lv_has ls 6 [(0, .ref (ad 0)), (1, .int x1), (2, .int x2)] → wH D (mT cy) (mW ad cy) A H0 s g f H locs → W p l e rm_M_write s m args below meth c H locs 0 0 Q (F0 m 34 ls []) := by
  intro ls H locs hl hC
  unfold p_M_write_L34 at hf
  refine lv_iload_n Fx.1 Fx.2.1 dX10_write_34 rfl (lv_at hl 2 rfl) ?_
  refine lv_aload_n Fx.1 Fx.2.1 dX10_write_35 rfl (lv_at hl 0 rfl) ?_
  refine gg_M_events Fx hC wd_595 dX10_write_36 ?_
  refine lv_icmp_ge (tgt := 164) Fx.1 Fx.2.1 dX10_write_39 (by decide) (fun hc => ?_) (fun hc => ?_)
  · replace hf := ift hc hf
    refine lv_aload_n Fx.1 Fx.2.1 dX10_write_164 rfl (lv_at hl 0 rfl) ?_
    refine lv_bipush (v := (45 : Int32)) Fx.1 Fx.2.1 dX10_write_165 (by decide) ?_
    obtain ⟨u1, hu1, hf⟩ := bd_e hf
    refine ca_v (As := [.int (45 : Int32)]) (rest := []) Fx hC (k_M_put hu1) (cVU 1 Fx.2.2.2.2 wd_787 wd_788 wd_896 wd_10 wd_789 rfl rfl hd_M_put ⟨Nat.le_of_ble_eq_true rfl, Nat.le_of_ble_eq_true rfl⟩) 0 rfl rfl rfl hl.1 rfl (Nat.le_of_ble_eq_true rfl) dX10_write_167 (fun H locs hC => ?_)
    refine lv_aload_n Fx.1 Fx.2.1 dX10_write_170 rfl (lv_at hl 0 rfl) ?_
    refine lv_bipush (v := (124 : Int32)) Fx.1 Fx.2.1 dX10_write_171 (by decide) ?_
    obtain ⟨u2, hu2, hf⟩ := bd_e hf
    refine ca_v (As := [.int (124 : Int32)]) (rest := []) Fx hC (k_M_put hu2) (cVU 1 Fx.2.2.2.2 wd_787 wd_788 wd_896 wd_10 wd_789 rfl rfl hd_M_put ⟨Nat.le_of_ble_eq_true rfl, Nat.le_of_ble_eq_true rfl⟩) 0 rfl rfl rfl hl.1 rfl (Nat.le_of_ble_eq_true rfl) dX10_write_173 (fun H locs hC => ?_)
    refine lv_aload_n Fx.1 Fx.2.1 dX10_write_176 rfl (lv_at hl 0 rfl) ?_
    refine lv_bipush (v := (10 : Int32)) Fx.1 Fx.2.1 dX10_write_177 (by decide) ?_
    obtain ⟨u3, hu3, hf⟩ := bd_e hf
    refine ca_v (As := [.int (10 : Int32)]) (rest := []) Fx hC (k_M_put hu3) (cVU 1 Fx.2.2.2.2 wd_787 wd_788 wd_896 wd_10 wd_789 rfl rfl hd_M_put ⟨Nat.le_of_ble_eq_true rfl, Nat.le_of_ble_eq_true rfl⟩) 0 rfl rfl rfl hl.1 rfl (Nat.le_of_ble_eq_true rfl) dX10_write_179 (fun H locs hC => ?_)
    obtain ⟨v4, ev4, hf⟩ := lt_e hf
    refine lv_iinc (v := v4) (lv' := [(1, .int v4), (0, .ref (ad 0)), (2, .int x2)]) Fx.1 Fx.2.1 dX10_write_182 hl (k := 1) rfl ev4.symm (by decide) rfl (fun ls hl => ?_)
    refine lv_goto (tgt := 22) Fx.1 Fx.2.1 dX10_write_185 (by decide) ?_
    exact hK22 _ hf _ _ _ (lv_sub hl [1, 0] rfl) hC
  · replace hf := iff_ hc hf
    refine lv_iconst (v := (1 : Int32)) Fx.1 Fx.2.1 dX10_write_42 (by decide) ?_
    refine lv_istore_n (lv' := [(3, .int (1 : Int32)), (0, .ref (ad 0)), (1, .int x1), (2, .int x2)]) Fx.1 Fx.2.1 dX10_write_43 rfl hl (by decide) rfl (fun ls hl => ?_)
    refine lv_iconst (v := (0 : Int32)) Fx.1 Fx.2.1 dX10_write_44 (by decide) ?_
    refine lv_istore (lv' := [(4, .int (0 : Int32)), (3, .int (1 : Int32)), (0, .ref (ad 0)), (1, .int x1), (2, .int x2)]) Fx.1 Fx.2.1 dX10_write_45 hl (by decide) rfl (fun ls hl => ?_)
    exact t_M_write_L47 Fx hret hK22 hK34 _ _ hf _ _ _ (lv_sub hl [2, 3, 4, 1, 0] rfl) hC
set_option maxRecDepth 100000 in
set_option maxHeartbeats 4000000 in
theorem t_M_write_L34 {K22 : (Int32 × sG × sF) → Option (Int32 × sG × sF)} {p : Program} {l : Launch} {e : Env} {s : State} {m : MethodId} {args : Array Value} {below : List Frame} {meth : Method} {c : Code} {Q : State → Prop} {D : va_G} {ad : Nat → Nat} {cy : Nat → ClassId} {A : Nat → Prop} {H0 : Heap} {u : Int32 × sG × sF} (Fx : CallFix p m c cX10_write 6 s args (Cond.code yX10_write cX10_write 6 (some .int) :: wU) RX10) (hret : mRi p l e rm_M_write s m args below meth c Q D (mT cy) (mW ad cy) A H0 cX10_write u) (hK22 : ∀ (z : Int32 × sG × sF), K22 z = some u → ∀ (ls : Array Slot) (H : Heap) (locs : List Loc), lv_has ls 6 [(0, .ref (ad 0)), (1, .int z.1)] → wH D (mT cy) (mW ad cy) A H0 s z.2.1 z.2.2 H locs → W p l e rm_M_write s m args below meth c H locs 0 0 Q (F0 m 22 ls [])) (n : Nat) (z : Int32 × Int32 × sG × sF) (hz : itr (fun K z => p_M_write_L34 K22 K z.1 z.2.1 z.2.2.1 z.2.2.2) n z = some u) : ∀ (ls : Array Slot) (H : Heap) (locs : List Loc), lv_has ls 6 [(0, .ref (ad 0)), (1, .int z.1), (2, .int z.2.1)] → wH D (mT cy) (mW ad cy) A H0 s z.2.2.1 z.2.2.2 H locs → W p l e rm_M_write s m args below meth c H locs 0 0 Q (F0 m 34 ls []) :=
  itr_all (B := fun K z => p_M_write_L34 K22 K z.1 z.2.1 z.2.2.1 z.2.2.2) (r := u) (fun z => ∀ (ls : Array Slot) (H : Heap) (locs : List Loc), lv_has ls 6 [(0, .ref (ad 0)), (1, .int z.1), (2, .int z.2.1)] → wH D (mT cy) (mW ad cy) A H0 s z.2.2.1 z.2.2.2 H locs → W p l e rm_M_write s m args below meth c H locs 0 0 Q (F0 m 34 ls [])) (fun K hK z h => s_M_write_L34 (K34 := K) Fx hret hK22 hK z.1 z.2.1 z.2.2.1 z.2.2.2 h) n z hz
noncomputable def p_M_write_L22 (K22 : (Int32 × sG × sF) → Option (Int32 × sG × sF)) (x1 : Int32) (g : sG) (f : sF) : Option (Int32 × sG × sF) := (if x1 < 0 then some (g 5, g, f) else Option.bind (p_M_put (124 : Int32) g f) (fun u1 => itr (fun K z => p_M_write_L34 K22 K z.1 z.2.1 z.2.2.1 z.2.2.2) FUEL (x1, (0 : Int32), u1.1, u1.2)))
set_option maxRecDepth 100000 in
set_option maxHeartbeats 4000000 in
theorem s_M_write_L22 {K22 : (Int32 × sG × sF) → Option (Int32 × sG × sF)} {p : Program} {l : Launch} {e : Env} {s : State} {m : MethodId} {args : Array Value} {below : List Frame} {meth : Method} {c : Code} {Q : State → Prop} {D : va_G} {ad : Nat → Nat} {cy : Nat → ClassId} {A : Nat → Prop} {H0 : Heap} {u : Int32 × sG × sF} (Fx : CallFix p m c cX10_write 6 s args (Cond.code yX10_write cX10_write 6 (some .int) :: wU) RX10) (hret : mRi p l e rm_M_write s m args below meth c Q D (mT cy) (mW ad cy) A H0 cX10_write u) (hK22 : ∀ (z : Int32 × sG × sF), K22 z = some u → ∀ (ls : Array Slot) (H : Heap) (locs : List Loc), lv_has ls 6 [(0, .ref (ad 0)), (1, .int z.1)] → wH D (mT cy) (mW ad cy) A H0 s z.2.1 z.2.2 H locs → W p l e rm_M_write s m args below meth c H locs 0 0 Q (F0 m 22 ls [])) (x1 : Int32) (g : sG) (f : sF) (hf : p_M_write_L22 K22 x1 g f = some u) : ∀ (ls : Array Slot) (H : Heap) (locs : List Loc), lv_has ls 6 [(0, .ref (ad 0)), (1, .int x1)] → wH D (mT cy) (mW ad cy) A H0 s g f H locs → W p l e rm_M_write s m args below meth c H locs 0 0 Q (F0 m 22 ls []) := by
  intro ls H locs hl hC
  unfold p_M_write_L22 at hf
  refine lv_iload_n Fx.1 Fx.2.1 dX10_write_22 rfl (lv_at hl 1 rfl) ?_
  refine lv_if_lt (tgt := 188) Fx.1 Fx.2.1 dX10_write_23 (by decide) (fun hc => ?_) (fun hc => ?_)
  · replace hf := ift hc hf
    refine lv_aload_n Fx.1 Fx.2.1 dX10_write_188 rfl (lv_at hl 0 rfl) ?_
    refine gg_M_signs Fx hC wd_604 dX10_write_189 ?_
    obtain rfl := Option.some.inj hf
    exact hret _ _ _ _ dX10_write_192 hC
  · replace hf := iff_ hc hf
    refine lv_aload_n Fx.1 Fx.2.1 dX10_write_26 rfl (lv_at hl 0 rfl) ?_
    refine lv_bipush (v := (124 : Int32)) Fx.1 Fx.2.1 dX10_write_27 (by decide) ?_
    obtain ⟨u1, hu1, hf⟩ := bd_e hf
    refine ca_v (As := [.int (124 : Int32)]) (rest := []) Fx hC (k_M_put hu1) (cVU 1 Fx.2.2.2.2 wd_787 wd_788 wd_896 wd_10 wd_789 rfl rfl hd_M_put ⟨Nat.le_of_ble_eq_true rfl, Nat.le_of_ble_eq_true rfl⟩) 0 rfl rfl rfl hl.1 rfl (Nat.le_of_ble_eq_true rfl) dX10_write_29 (fun H locs hC => ?_)
    refine lv_iconst (v := (0 : Int32)) Fx.1 Fx.2.1 dX10_write_32 (by decide) ?_
    refine lv_istore_n (lv' := [(2, .int (0 : Int32)), (0, .ref (ad 0)), (1, .int x1)]) Fx.1 Fx.2.1 dX10_write_33 rfl hl (by decide) rfl (fun ls hl => ?_)
    exact t_M_write_L34 Fx hret hK22 _ _ hf _ _ _ (lv_sub hl [1, 2, 0] rfl) hC
set_option maxRecDepth 100000 in
set_option maxHeartbeats 4000000 in
theorem t_M_write_L22 {p : Program} {l : Launch} {e : Env} {s : State} {m : MethodId} {args : Array Value} {below : List Frame} {meth : Method} {c : Code} {Q : State → Prop} {D : va_G} {ad : Nat → Nat} {cy : Nat → ClassId} {A : Nat → Prop} {H0 : Heap} {u : Int32 × sG × sF} (Fx : CallFix p m c cX10_write 6 s args (Cond.code yX10_write cX10_write 6 (some .int) :: wU) RX10) (hret : mRi p l e rm_M_write s m args below meth c Q D (mT cy) (mW ad cy) A H0 cX10_write u)  (n : Nat) (z : Int32 × sG × sF) (hz : itr (fun K z => p_M_write_L22 K z.1 z.2.1 z.2.2) n z = some u) : ∀ (ls : Array Slot) (H : Heap) (locs : List Loc), lv_has ls 6 [(0, .ref (ad 0)), (1, .int z.1)] → wH D (mT cy) (mW ad cy) A H0 s z.2.1 z.2.2 H locs → W p l e rm_M_write s m args below meth c H locs 0 0 Q (F0 m 22 ls []) :=
  itr_all (B := fun K z => p_M_write_L22 K z.1 z.2.1 z.2.2) (r := u) (fun z => ∀ (ls : Array Slot) (H : Heap) (locs : List Loc), lv_has ls 6 [(0, .ref (ad 0)), (1, .int z.1)] → wH D (mT cy) (mW ad cy) A H0 s z.2.1 z.2.2 H locs → W p l e rm_M_write s m args below meth c H locs 0 0 Q (F0 m 22 ls [])) (fun K hK z h => s_M_write_L22 (K22 := K) Fx hret hK z.1 z.2.1 z.2.2 h) n z hz
noncomputable def p_M_write  (g : sG) (f : sF) : Option (Int32 × sG × sF) := (if (g 4) = 0 then some ((-4 : Int32), g, f) else lt_ (upd g 5 (0 : Int32)) (fun g1 => lt_ ((g1 0) - (1 : Int32)) (fun v2 => itr (fun K z => p_M_write_L22 K z.1 z.2.1 z.2.2) FUEL (v2, g1, f))))
set_option maxRecDepth 100000 in
set_option maxHeartbeats 4000000 in
theorem k_M_write {l : Launch} {D : va_G} {ad : Nat → Nat} {cy : Nat → ClassId}  {u : Int32 × sG × sF} {g : sG} {f : sF} (hf : p_M_write  g f = some u) : mMi l yX10_write (Cond.code yX10_write cX10_write 6 (some .int) :: wU) rm_M_write D (mT cy) (mW ad cy) [.ref (ad 0)] g f u := by
  refine mk_i (by decide) rfl (Nat.le_of_ble_eq_true rfl) ?_
  intro p e s m below meth c Q A H0 Fx hret ls H locs hl hC
  replace hl : lv_has ls 6 [(0, .ref (ad 0))] := hl
  unfold p_M_write at hf
  refine lv_aload_n Fx.1 Fx.2.1 dX10_write_0 rfl (lv_at hl 0 rfl) ?_
  refine gg_M_isFound Fx hC wd_599 dX10_write_1 ?_
  refine lv_if_ne (tgt := 10) Fx.1 Fx.2.1 dX10_write_4 (by decide) (fun hc => ?_) (fun hc => ?_)
  · replace hf := iff_ hc hf
    refine lv_aload_n Fx.1 Fx.2.1 dX10_write_10 rfl (lv_at hl 0 rfl) ?_
    refine lv_iconst (v := (0 : Int32)) Fx.1 Fx.2.1 dX10_write_11 (by decide) ?_
    obtain ⟨g1, eg1, hf⟩ := lt_e hf
    refine gp_M_signs Fx hC wd_604 eg1 dX10_write_12 (fun H locs hC => ?_)
    refine lv_aload_n Fx.1 Fx.2.1 dX10_write_15 rfl (lv_at hl 0 rfl) ?_
    refine gg_M_strings Fx hC wd_590 dX10_write_16 ?_
    refine lv_iconst (v := (1 : Int32)) Fx.1 Fx.2.1 dX10_write_19 (by decide) ?_
    refine lv_isub Fx.1 Fx.2.1 dX10_write_20 ?_
    obtain ⟨v2, ev2, hf⟩ := lt_e hf
    refine tpi ev2 ?_
    refine lv_istore_n (lv' := [(1, .int v2), (0, .ref (ad 0))]) Fx.1 Fx.2.1 dX10_write_21 rfl hl (by decide) rfl (fun ls hl => ?_)
    exact t_M_write_L22 Fx hret _ _ hf _ _ _ (lv_sub hl [1, 0] rfl) hC
  · replace hf := ift hc hf
    refine lv_bipush (v := (-4 : Int32)) Fx.1 Fx.2.1 dX10_write_7 (by decide) ?_
    obtain rfl := Option.some.inj hf
    exact hret _ _ _ _ dX10_write_9 hC
/-! FretHandsModel.look()I -/
abbrev rm_M_look : Room := { frames := 0, cells := 0, slots := 0, locals := 0 }
theorem hd_M_look : yX10_look.cls = RX10 ∧ yX10_look.cls ≠ "java/lang/invoke/MethodHandle" ∧ yX10_look.cls ≠ "java/lang/invoke/VarHandle" ∧ (parseMethodDescriptor yX10_look.desc).map (fun d => d.parameters.length) = some 0 := by decide +kernel
noncomputable def p_M_look  (g : sG) (f : sF) : Option (Int32) := (if (g 5) ≤ (g 8) then some (-1 : Int32) else (if (g 8) < 0 ∨ 2000 ≤ (g 8).toNatClampNeg then none else some (f 9 (g 8).toNatClampNeg)))
set_option maxRecDepth 100000 in
set_option maxHeartbeats 4000000 in
theorem k_M_look {l : Launch} {D : va_G} {ad : Nat → Nat} {cy : Nat → ClassId}  {r : Int32} {g : sG} {f : sF} (hf : p_M_look  g f = some r) : mMi l yX10_look (Cond.code yX10_look cX10_look 1 (some .int) :: wU) rm_M_look D (mT cy) (mW ad cy) [.ref (ad 0)] g f (r, g, f) := by
  refine mk_i (by decide) rfl (Nat.le_of_ble_eq_true rfl) ?_
  intro p e s m below meth c Q A H0 Fx hret ls H locs hl hC
  replace hl : lv_has ls 1 [(0, .ref (ad 0))] := hl
  unfold p_M_look at hf
  refine lv_aload_n Fx.1 Fx.2.1 dX10_look_0 rfl (lv_at hl 0 rfl) ?_
  refine gg_M_at Fx hC wd_615 dX10_look_1 ?_
  refine lv_aload_n Fx.1 Fx.2.1 dX10_look_4 rfl (lv_at hl 0 rfl) ?_
  refine gg_M_signs Fx hC wd_604 dX10_look_5 ?_
  refine lv_icmp_ge (tgt := 23) Fx.1 Fx.2.1 dX10_look_8 (by decide) (fun hc => ?_) (fun hc => ?_)
  · replace hf := ift hc hf
    refine lv_iconst (v := (-1 : Int32)) Fx.1 Fx.2.1 dX10_look_23 (by decide) ?_
    obtain rfl := Option.some.inj hf
    exact hret _ _ _ _ dX10_look_24 hC
  · replace hf := iff_ hc hf
    refine lv_aload_n Fx.1 Fx.2.1 dX10_look_11 rfl (lv_at hl 0 rfl) ?_
    refine gg_M_tape Fx hC wd_605 dX10_look_12 ?_
    refine lv_aload_n Fx.1 Fx.2.1 dX10_look_15 rfl (lv_at hl 0 rfl) ?_
    refine gg_M_at Fx hC wd_615 dX10_look_16 ?_
    obtain ⟨hi1, hf⟩ := gd_e hf
    refine ld_M_tape Fx hC hi1 dX10_look_19 ?_
    refine lv_goto (tgt := 24) Fx.1 Fx.2.1 dX10_look_20 (by decide) ?_
    obtain rfl := Option.some.inj hf
    exact hret _ _ _ _ dX10_look_24 hC
/-! FretHandsModel.isFigure(I)Z -/
abbrev rm_M_isFigure : Room := { frames := 1, cells := 0, slots := 0, locals := 22 }
theorem hd_M_isFigure : yX10_isFigure.cls ≠ "java/lang/invoke/MethodHandle" ∧ yX10_isFigure.cls ≠ "java/lang/invoke/VarHandle" ∧ (parseMethodDescriptor yX10_isFigure.desc).map (fun d => d.parameters.length) = some 1 := by decide +kernel
noncomputable def p_M_isFigure (a1 : Int32) (g : sG) (f : sF) : Option (Int32) := Option.bind (p_M_within a1 (48 : Int32) (57 : Int32) g f) (fun u1 => (if ¬ u1 = 0 ∧ ¬ u1 = 1 then none else some u1))
set_option maxRecDepth 100000 in
set_option maxHeartbeats 4000000 in
theorem k_M_isFigure {l : Launch} {D : va_G} {ad : Nat → Nat} {cy : Nat → ClassId} {a1 : Int32} {r : Int32} {g : sG} {f : sF} (hf : p_M_isFigure a1 g f = some r) : mMi l yX10_isFigure (Cond.code yX10_isFigure cX10_isFigure 1 (some .boolean) :: wU) rm_M_isFigure D (mT cy) (mW ad cy) [.int a1] g f (r, g, f) := by
  refine mk_z (by decide) rfl (Nat.le_of_ble_eq_true rfl) ?_
  intro p e s m below meth c Q A H0 Fx hret ls H locs hl hC
  replace hl : lv_has ls 1 [(0, .int a1)] := hl
  unfold p_M_isFigure at hf
  refine lv_iload_n Fx.1 Fx.2.1 dX10_isFigure_0 rfl (lv_at hl 0 rfl) ?_
  refine lv_bipush (v := (48 : Int32)) Fx.1 Fx.2.1 dX10_isFigure_1 (by decide) ?_
  refine lv_bipush (v := (57 : Int32)) Fx.1 Fx.2.1 dX10_isFigure_3 (by decide) ?_
  obtain ⟨u1, hu1, hf⟩ := bd_e hf
  refine ca_s (As := [.int a1, .int (48 : Int32), .int (57 : Int32)]) (rest := []) Fx hC (k_M_within hu1) (cSU 3 Fx.2.2.2.2 wd_661 wd_662 wd_10 wd_663 rfl rfl hd_M_within ⟨Nat.le_of_ble_eq_true rfl, Nat.le_of_ble_eq_true rfl⟩) rfl hl.1 rfl (Nat.le_of_ble_eq_true rfl) dX10_isFigure_5 (fun H locs hC => ?_)
  obtain ⟨hz, hf⟩ := gd_e hf
  obtain rfl := Option.some.inj hf
  exact hret _ _ _ _ dX10_isFigure_8 hz hC
/-! FretHandsModel.faults(II)V -/
abbrev rm_M_faults : Room := { frames := 0, cells := 0, slots := 0, locals := 0 }
theorem hd_M_faults : yX10_faults.cls = RX10 ∧ yX10_faults.cls ≠ "java/lang/invoke/MethodHandle" ∧ yX10_faults.cls ≠ "java/lang/invoke/VarHandle" ∧ (parseMethodDescriptor yX10_faults.desc).map (fun d => d.parameters.length) = some 2 := by decide +kernel
noncomputable def p_M_faults_J31 (x1 : Int32) (x2 : Int32) (g : sG) (f : sF) : Option (sG × sF) := lt_ (upd g 10 x1) (fun g1 => lt_ (upd g1 11 x2) (fun g2 => some (g2, f)))
set_option maxRecDepth 100000 in
set_option maxHeartbeats 4000000 in
theorem s_M_faults_J31 {p : Program} {l : Launch} {e : Env} {s : State} {m : MethodId} {args : Array Value} {below : List Frame} {meth : Method} {c : Code} {Q : State → Prop} {D : va_G} {ad : Nat → Nat} {cy : Nat → ClassId} {A : Nat → Prop} {H0 : Heap} {u : sG × sF} (Fx : CallFix p m c cX10_faults 3 s args (Cond.code yX10_faults cX10_faults 3 none :: wU) RX10) (hret : mRv p l e rm_M_faults s m args below meth c Q D (mT cy) (mW ad cy) A H0 cX10_faults u)  (x1 : Int32) (x2 : Int32) (g : sG) (f : sF) (hf : p_M_faults_J31 x1 x2 g f = some u) : ∀ (ls : Array Slot) (H : Heap) (locs : List Loc), lv_has ls 3 [(0, .ref (ad 0)), (1, .int x1), (2, .int x2)] → wH D (mT cy) (mW ad cy) A H0 s g f H locs → W p l e rm_M_faults s m args below meth c H locs 0 0 Q (F0 m 31 ls []) := by
  intro ls H locs hl hC
  unfold p_M_faults_J31 at hf
  refine lv_aload_n Fx.1 Fx.2.1 dX10_faults_31 rfl (lv_at hl 0 rfl) ?_
  refine lv_iload_n Fx.1 Fx.2.1 dX10_faults_32 rfl (lv_at hl 1 rfl) ?_
  obtain ⟨g1, eg1, hf⟩ := lt_e hf
  refine gp_M_fault Fx hC wd_617 eg1 dX10_faults_33 (fun H locs hC => ?_)
  refine lv_aload_n Fx.1 Fx.2.1 dX10_faults_36 rfl (lv_at hl 0 rfl) ?_
  refine lv_iload_n Fx.1 Fx.2.1 dX10_faults_37 rfl (lv_at hl 2 rfl) ?_
  obtain ⟨g2, eg2, hf⟩ := lt_e hf
  refine gp_M_faultAt Fx hC wd_618 eg2 dX10_faults_38 (fun H locs hC => ?_)
  obtain rfl := Option.some.inj hf
  exact hret _ _ _ _ dX10_faults_41 hC
noncomputable def p_M_faults (a1 : Int32) (a2 : Int32) (g : sG) (f : sF) : Option (sG × sF) := (if (g 10) = 0 then p_M_faults_J31 a1 a2 g f else (if a1 < (g 10) then p_M_faults_J31 a1 a2 g f else (if a1 = (g 10) then (if (g 11) ≤ a2 then some (g, f) else p_M_faults_J31 a1 a2 g f) else some (g, f))))
set_option maxRecDepth 100000 in
set_option maxHeartbeats 4000000 in
theorem k_M_faults {l : Launch} {D : va_G} {ad : Nat → Nat} {cy : Nat → ClassId} {a1 : Int32} {a2 : Int32} {u : sG × sF} {g : sG} {f : sF} (hf : p_M_faults a1 a2 g f = some u) : mMv l yX10_faults (Cond.code yX10_faults cX10_faults 3 none :: wU) rm_M_faults D (mT cy) (mW ad cy) [.ref (ad 0), .int a1, .int a2] g f u := by
  refine mk_v (by decide) rfl (Nat.le_of_ble_eq_true rfl) ?_
  intro p e s m below meth c Q A H0 Fx hret ls H locs hl hC
  replace hl : lv_has ls 3 [(0, .ref (ad 0)), (1, .int a1), (2, .int a2)] := hl
  unfold p_M_faults at hf
  refine lv_aload_n Fx.1 Fx.2.1 dX10_faults_0 rfl (lv_at hl 0 rfl) ?_
  refine gg_M_fault Fx hC wd_617 dX10_faults_1 ?_
  refine lv_if_eq (tgt := 31) Fx.1 Fx.2.1 dX10_faults_4 (by decide) (fun hc => ?_) (fun hc => ?_)
  · replace hf := ift hc hf
    exact s_M_faults_J31 Fx hret _ _ _ _  hf _ _ _ (lv_sub hl [0, 1, 2] rfl) hC
  · replace hf := iff_ hc hf
    refine lv_iload_n Fx.1 Fx.2.1 dX10_faults_7 rfl (lv_at hl 1 rfl) ?_
    refine lv_aload_n Fx.1 Fx.2.1 dX10_faults_8 rfl (lv_at hl 0 rfl) ?_
    refine gg_M_fault Fx hC wd_617 dX10_faults_9 ?_
    refine lv_icmp_lt (tgt := 31) Fx.1 Fx.2.1 dX10_faults_12 (by decide) (fun hc => ?_) (fun hc => ?_)
    · replace hf := ift hc hf
      exact s_M_faults_J31 Fx hret _ _ _ _  hf _ _ _ (lv_sub hl [0, 1, 2] rfl) hC
    · replace hf := iff_ hc hf
      refine lv_iload_n Fx.1 Fx.2.1 dX10_faults_15 rfl (lv_at hl 1 rfl) ?_
      refine lv_aload_n Fx.1 Fx.2.1 dX10_faults_16 rfl (lv_at hl 0 rfl) ?_
      refine gg_M_fault Fx hC wd_617 dX10_faults_17 ?_
      refine lv_icmp_ne (tgt := 41) Fx.1 Fx.2.1 dX10_faults_20 (by decide) (fun hc => ?_) (fun hc => ?_)
      · replace hf := iff_ hc hf
        obtain rfl := Option.some.inj hf
        exact hret _ _ _ _ dX10_faults_41 hC
      · replace hf := ift hc hf
        refine lv_iload_n Fx.1 Fx.2.1 dX10_faults_23 rfl (lv_at hl 2 rfl) ?_
        refine lv_aload_n Fx.1 Fx.2.1 dX10_faults_24 rfl (lv_at hl 0 rfl) ?_
        refine gg_M_faultAt Fx hC wd_618 dX10_faults_25 ?_
        refine lv_icmp_ge (tgt := 41) Fx.1 Fx.2.1 dX10_faults_28 (by decide) (fun hc => ?_) (fun hc => ?_)
        · replace hf := ift hc hf
          obtain rfl := Option.some.inj hf
          exact hret _ _ _ _ dX10_faults_41 hC
        · replace hf := iff_ hc hf
          exact s_M_faults_J31 Fx hret _ _ _ _  hf _ _ _ (lv_sub hl [0, 1, 2] rfl) hC
/-! FretHandsModel.wants(Z)V -/
abbrev rm_M_wants : Room := { frames := 1, cells := 0, slots := 0, locals := 22 }
theorem hd_M_wants : yX10_wants.cls = RX10 ∧ yX10_wants.cls ≠ "java/lang/invoke/MethodHandle" ∧ yX10_wants.cls ≠ "java/lang/invoke/VarHandle" ∧ (parseMethodDescriptor yX10_wants.desc).map (fun d => d.parameters.length) = some 1 := by decide +kernel
noncomputable def p_M_wants_J20  (g : sG) (f : sF) : Option (sG × sF) := lt_ (upd g 8 ((g 8) + (1 : Int32))) (fun g1 => some (g1, f))
set_option maxRecDepth 100000 in
set_option maxHeartbeats 4000000 in
theorem s_M_wants_J20 {p : Program} {l : Launch} {e : Env} {s : State} {m : MethodId} {args : Array Value} {below : List Frame} {meth : Method} {c : Code} {Q : State → Prop} {D : va_G} {ad : Nat → Nat} {cy : Nat → ClassId} {A : Nat → Prop} {H0 : Heap} {u : sG × sF} (Fx : CallFix p m c cX10_wants 2 s args (Cond.code yX10_wants cX10_wants 2 none :: wU) RX10) (hret : mRv p l e rm_M_wants s m args below meth c Q D (mT cy) (mW ad cy) A H0 cX10_wants u)   (g : sG) (f : sF) (hf : p_M_wants_J20  g f = some u) : ∀ (ls : Array Slot) (H : Heap) (locs : List Loc), lv_has ls 2 [(0, .ref (ad 0))] → wH D (mT cy) (mW ad cy) A H0 s g f H locs → W p l e rm_M_wants s m args below meth c H locs 0 0 Q (F0 m 20 ls []) := by
  intro ls H locs hl hC
  unfold p_M_wants_J20 at hf
  refine lv_aload_n Fx.1 Fx.2.1 dX10_wants_20 rfl (lv_at hl 0 rfl) ?_
  refine lv_dup Fx.1 Fx.2.1 dX10_wants_21 rfl ?_
  refine gg_M_at Fx hC wd_615 dX10_wants_22 ?_
  refine lv_iconst (v := (1 : Int32)) Fx.1 Fx.2.1 dX10_wants_25 (by decide) ?_
  refine lv_iadd Fx.1 Fx.2.1 dX10_wants_26 ?_
  obtain ⟨g1, eg1, hf⟩ := lt_e hf
  refine gp_M_at Fx hC wd_615 eg1 dX10_wants_27 (fun H locs hC => ?_)
  obtain rfl := Option.some.inj hf
  exact hret _ _ _ _ dX10_wants_30 hC
noncomputable def p_M_wants (a1 : Int32) (g : sG) (f : sF) : Option (sG × sF) := (if (g 10) = 0 then (if a1 = 0 then Option.bind (p_M_faults (1 : Int32) (g 8) g f) (fun u1 => p_M_wants_J20  u1.1 u1.2) else p_M_wants_J20  g f) else p_M_wants_J20  g f)
set_option maxRecDepth 100000 in
set_option maxHeartbeats 4000000 in
theorem k_M_wants {l : Launch} {D : va_G} {ad : Nat → Nat} {cy : Nat → ClassId} {a1 : Int32} {u : sG × sF} {g : sG} {f : sF} (hf : p_M_wants a1 g f = some u) : mMv l yX10_wants (Cond.code yX10_wants cX10_wants 2 none :: wU) rm_M_wants D (mT cy) (mW ad cy) [.ref (ad 0), .int a1] g f u := by
  refine mk_v (by decide) rfl (Nat.le_of_ble_eq_true rfl) ?_
  intro p e s m below meth c Q A H0 Fx hret ls H locs hl hC
  replace hl : lv_has ls 2 [(0, .ref (ad 0)), (1, .int a1)] := hl
  unfold p_M_wants at hf
  refine lv_aload_n Fx.1 Fx.2.1 dX10_wants_0 rfl (lv_at hl 0 rfl) ?_
  refine gg_M_fault Fx hC wd_617 dX10_wants_1 ?_
  refine lv_if_ne (tgt := 20) Fx.1 Fx.2.1 dX10_wants_4 (by decide) (fun hc => ?_) (fun hc => ?_)
  · replace hf := iff_ hc hf
    exact s_M_wants_J20 Fx hret _ _  hf _ _ _ (lv_sub hl [0] rfl) hC
  · replace hf := ift hc hf
    refine lv_iload_n Fx.1 Fx.2.1 dX10_wants_7 rfl (lv_at hl 1 rfl) ?_
    refine lv_if_ne (tgt := 20) Fx.1 Fx.2.1 dX10_wants_8 (by decide) (fun hc => ?_) (fun hc => ?_)
    · replace hf := iff_ hc hf
      exact s_M_wants_J20 Fx hret _ _  hf _ _ _ (lv_sub hl [0] rfl) hC
    · replace hf := ift hc hf
      refine lv_aload_n Fx.1 Fx.2.1 dX10_wants_11 rfl (lv_at hl 0 rfl) ?_
      refine lv_iconst (v := (1 : Int32)) Fx.1 Fx.2.1 dX10_wants_12 (by decide) ?_
      refine lv_aload_n Fx.1 Fx.2.1 dX10_wants_13 rfl (lv_at hl 0 rfl) ?_
      refine gg_M_at Fx hC wd_615 dX10_wants_14 ?_
      obtain ⟨u1, hu1, hf⟩ := bd_e hf
      refine ca_v (As := [.int (1 : Int32), .int (g 8)]) (rest := []) Fx hC (k_M_faults hu1) (cVU 2 Fx.2.2.2.2 wd_818 wd_819 wd_901 wd_10 wd_820 rfl rfl hd_M_faults ⟨Nat.le_of_ble_eq_true rfl, Nat.le_of_ble_eq_true rfl⟩) 0 rfl rfl rfl hl.1 rfl (Nat.le_of_ble_eq_true rfl) dX10_wants_17 (fun H locs hC => ?_)
      exact s_M_wants_J20 Fx hret _ _  hf _ _ _ (lv_sub hl [0] rfl) hC
