/-! FretHandsModel.read()I -/
abbrev rm_M_read : Room := { frames := 6, cells := 0, slots := 0, locals := 138 }
theorem hd_M_read : yX10_read.cls = RX10 ∧ yX10_read.cls ≠ "java/lang/invoke/MethodHandle" ∧ yX10_read.cls ≠ "java/lang/invoke/VarHandle" ∧ (parseMethodDescriptor yX10_read.desc).map (fun d => d.parameters.length) = some 0 := by decide +kernel
noncomputable def p_M_read_L117 (K95 : (Int32 × sG × sF) → Option (Int32 × sG × sF)) (K117 : (Int32 × Int32 × sG × sF) → Option (Int32 × sG × sF)) (x1 : Int32) (x2 : Int32) (g : sG) (f : sF) : Option (Int32 × sG × sF) := (if x1 < 0 ∨ 41 ≤ x1.toNatClampNeg then none else (if (f 17 x1.toNatClampNeg) ≤ x2 then lt_ (x1 + (1 : Int32)) (fun v2 => K95 (v2, g, f)) else (if (((4 : Int32) * x1) + x2) < 0 ∨ 164 ≤ (((4 : Int32) * x1) + x2).toNatClampNeg then none else (if (((4 : Int32) * x1) + x2) < 0 ∨ 160 ≤ (((4 : Int32) * x1) + x2).toNatClampNeg then none else lt_ (up2 f 3 (((4 : Int32) * x1) + x2).toNatClampNeg (f 18 (((4 : Int32) * x1) + x2).toNatClampNeg)) (fun f5 => (if (((4 : Int32) * x1) + x2) < 0 ∨ 164 ≤ (((4 : Int32) * x1) + x2).toNatClampNeg then none else (if (((4 : Int32) * x1) + x2) < 0 ∨ 160 ≤ (((4 : Int32) * x1) + x2).toNatClampNeg then none else lt_ (up2 f5 4 (((4 : Int32) * x1) + x2).toNatClampNeg (f5 19 (((4 : Int32) * x1) + x2).toNatClampNeg)) (fun f8 => lt_ (x2 + (1 : Int32)) (fun v9 => K117 (x1, v9, g, f8))))))))))
set_option maxRecDepth 100000 in
set_option maxHeartbeats 4000000 in
theorem s_M_read_L117 {K95 : (Int32 × sG × sF) → Option (Int32 × sG × sF)} {K117 : (Int32 × Int32 × sG × sF) → Option (Int32 × sG × sF)} {p : Program} {l : Launch} {e : Env} {s : State} {m : MethodId} {args : Array Value} {below : List Frame} {meth : Method} {c : Code} {Q : State → Prop} {D : va_G} {ad : Nat → Nat} {cy : Nat → ClassId} {A : Nat → Prop} {H0 : Heap} {u : Int32 × sG × sF} (Fx : CallFix p m c cX10_read 3 s args (Cond.code yX10_read cX10_read 3 (some .int) :: wU) RX10) (hret : mRi p l e rm_M_read s m args below meth c Q D (mT cy) (mW ad cy) A H0 cX10_read u) (hK95 : ∀ (z : Int32 × sG × sF), K95 z = some u → ∀ (ls : Array Slot) (H : Heap) (locs : List Loc), lv_has ls 3 [(0, .ref (ad 0)), (1, .int z.1)] → wH D (mT cy) (mW ad cy) A H0 s z.2.1 z.2.2 H locs → W p l e rm_M_read s m args below meth c H locs 0 0 Q (F0 m 95 ls [])) (hK117 : ∀ (z : Int32 × Int32 × sG × sF), K117 z = some u → ∀ (ls : Array Slot) (H : Heap) (locs : List Loc), lv_has ls 3 [(0, .ref (ad 0)), (1, .int z.1), (2, .int z.2.1)] → wH D (mT cy) (mW ad cy) A H0 s z.2.2.1 z.2.2.2 H locs → W p l e rm_M_read s m args below meth c H locs 0 0 Q (F0 m 117 ls [])) (x1 : Int32) (x2 : Int32) (g : sG) (f : sF) (hf : p_M_read_L117 K95 K117 x1 x2 g f = some u) : ∀ (ls : Array Slot) (H : Heap) (locs : List Loc), lv_has ls 3 [(0, .ref (ad 0)), (1, .int x1), (2, .int x2)] → wH D (mT cy) (mW ad cy) A H0 s g f H locs → W p l e rm_M_read s m args below meth c H locs 0 0 Q (F0 m 117 ls []) := by
  intro ls H locs hl hC
  unfold p_M_read_L117 at hf
  refine lv_iload_n Fx.1 Fx.2.1 dX10_read_117 rfl (lv_at hl 2 rfl) ?_
  refine lv_aload_n Fx.1 Fx.2.1 dX10_read_118 rfl (lv_at hl 0 rfl) ?_
  refine gg_M_newMany Fx hC wd_620 dX10_read_119 ?_
  refine lv_iload_n Fx.1 Fx.2.1 dX10_read_122 rfl (lv_at hl 1 rfl) ?_
  obtain ⟨hi1, hf⟩ := gd_e hf
  refine ld_M_newMany Fx hC hi1 dX10_read_123 ?_
  refine lv_icmp_ge (tgt := 173) Fx.1 Fx.2.1 dX10_read_124 (by decide) (fun hc => ?_) (fun hc => ?_)
  · replace hf := ift hc hf
    obtain ⟨v2, ev2, hf⟩ := lt_e hf
    refine lv_iinc (v := v2) (lv' := [(1, .int v2), (0, .ref (ad 0)), (2, .int x2)]) Fx.1 Fx.2.1 dX10_read_173 hl (k := 1) rfl ev2.symm (by decide) rfl (fun ls hl => ?_)
    refine lv_goto (tgt := 95) Fx.1 Fx.2.1 dX10_read_176 (by decide) ?_
    exact hK95 _ hf _ _ _ (lv_sub hl [1, 0] rfl) hC
  · replace hf := iff_ hc hf
    refine lv_aload_n Fx.1 Fx.2.1 dX10_read_127 rfl (lv_at hl 0 rfl) ?_
    refine gg_M_pitches Fx hC wd_597 dX10_read_128 ?_
    refine lv_iconst (v := (4 : Int32)) Fx.1 Fx.2.1 dX10_read_131 (by decide) ?_
    refine lv_iload_n Fx.1 Fx.2.1 dX10_read_132 rfl (lv_at hl 1 rfl) ?_
    refine lv_imul Fx.1 Fx.2.1 dX10_read_133 ?_
    refine lv_iload_n Fx.1 Fx.2.1 dX10_read_134 rfl (lv_at hl 2 rfl) ?_
    refine lv_iadd Fx.1 Fx.2.1 dX10_read_135 ?_
    refine lv_aload_n Fx.1 Fx.2.1 dX10_read_136 rfl (lv_at hl 0 rfl) ?_
    refine gg_M_newPitches Fx hC wd_621 dX10_read_137 ?_
    refine lv_iconst (v := (4 : Int32)) Fx.1 Fx.2.1 dX10_read_140 (by decide) ?_
    refine lv_iload_n Fx.1 Fx.2.1 dX10_read_141 rfl (lv_at hl 1 rfl) ?_
    refine lv_imul Fx.1 Fx.2.1 dX10_read_142 ?_
    refine lv_iload_n Fx.1 Fx.2.1 dX10_read_143 rfl (lv_at hl 2 rfl) ?_
    refine lv_iadd Fx.1 Fx.2.1 dX10_read_144 ?_
    obtain ⟨hi3, hf⟩ := gd_e hf
    refine ld_M_newPitches Fx hC hi3 dX10_read_145 ?_
    obtain ⟨hi4, hf⟩ := gd_e hf
    obtain ⟨f5, ef5, hf⟩ := lt_e hf
    refine st_M_pitches Fx hC hi4 ef5 dX10_read_146 (fun H locs hC => ?_)
    refine lv_aload_n Fx.1 Fx.2.1 dX10_read_147 rfl (lv_at hl 0 rfl) ?_
    refine gg_M_bounds Fx hC wd_598 dX10_read_148 ?_
    refine lv_iconst (v := (4 : Int32)) Fx.1 Fx.2.1 dX10_read_151 (by decide) ?_
    refine lv_iload_n Fx.1 Fx.2.1 dX10_read_152 rfl (lv_at hl 1 rfl) ?_
    refine lv_imul Fx.1 Fx.2.1 dX10_read_153 ?_
    refine lv_iload_n Fx.1 Fx.2.1 dX10_read_154 rfl (lv_at hl 2 rfl) ?_
    refine lv_iadd Fx.1 Fx.2.1 dX10_read_155 ?_
    refine lv_aload_n Fx.1 Fx.2.1 dX10_read_156 rfl (lv_at hl 0 rfl) ?_
    refine gg_M_newBounds Fx hC wd_622 dX10_read_157 ?_
    refine lv_iconst (v := (4 : Int32)) Fx.1 Fx.2.1 dX10_read_160 (by decide) ?_
    refine lv_iload_n Fx.1 Fx.2.1 dX10_read_161 rfl (lv_at hl 1 rfl) ?_
    refine lv_imul Fx.1 Fx.2.1 dX10_read_162 ?_
    refine lv_iload_n Fx.1 Fx.2.1 dX10_read_163 rfl (lv_at hl 2 rfl) ?_
    refine lv_iadd Fx.1 Fx.2.1 dX10_read_164 ?_
    obtain ⟨hi6, hf⟩ := gd_e hf
    refine ld_M_newBounds Fx hC hi6 dX10_read_165 ?_
    obtain ⟨hi7, hf⟩ := gd_e hf
    obtain ⟨f8, ef8, hf⟩ := lt_e hf
    refine st_M_bounds Fx hC hi7 ef8 dX10_read_166 (fun H locs hC => ?_)
    obtain ⟨v9, ev9, hf⟩ := lt_e hf
    refine lv_iinc (v := v9) (lv' := [(2, .int v9), (0, .ref (ad 0)), (1, .int x1)]) Fx.1 Fx.2.1 dX10_read_167 hl (k := 2) rfl ev9.symm (by decide) rfl (fun ls hl => ?_)
    refine lv_goto (tgt := 117) Fx.1 Fx.2.1 dX10_read_170 (by decide) ?_
    exact hK117 _ hf _ _ _ (lv_sub hl [1, 2, 0] rfl) hC
set_option maxRecDepth 100000 in
set_option maxHeartbeats 4000000 in
theorem t_M_read_L117 {K95 : (Int32 × sG × sF) → Option (Int32 × sG × sF)} {p : Program} {l : Launch} {e : Env} {s : State} {m : MethodId} {args : Array Value} {below : List Frame} {meth : Method} {c : Code} {Q : State → Prop} {D : va_G} {ad : Nat → Nat} {cy : Nat → ClassId} {A : Nat → Prop} {H0 : Heap} {u : Int32 × sG × sF} (Fx : CallFix p m c cX10_read 3 s args (Cond.code yX10_read cX10_read 3 (some .int) :: wU) RX10) (hret : mRi p l e rm_M_read s m args below meth c Q D (mT cy) (mW ad cy) A H0 cX10_read u) (hK95 : ∀ (z : Int32 × sG × sF), K95 z = some u → ∀ (ls : Array Slot) (H : Heap) (locs : List Loc), lv_has ls 3 [(0, .ref (ad 0)), (1, .int z.1)] → wH D (mT cy) (mW ad cy) A H0 s z.2.1 z.2.2 H locs → W p l e rm_M_read s m args below meth c H locs 0 0 Q (F0 m 95 ls [])) (n : Nat) (z : Int32 × Int32 × sG × sF) (hz : itr (fun K z => p_M_read_L117 K95 K z.1 z.2.1 z.2.2.1 z.2.2.2) n z = some u) : ∀ (ls : Array Slot) (H : Heap) (locs : List Loc), lv_has ls 3 [(0, .ref (ad 0)), (1, .int z.1), (2, .int z.2.1)] → wH D (mT cy) (mW ad cy) A H0 s z.2.2.1 z.2.2.2 H locs → W p l e rm_M_read s m args below meth c H locs 0 0 Q (F0 m 117 ls []) :=
  itr_all (B := fun K z => p_M_read_L117 K95 K z.1 z.2.1 z.2.2.1 z.2.2.2) (r := u) (fun z => ∀ (ls : Array Slot) (H : Heap) (locs : List Loc), lv_has ls 3 [(0, .ref (ad 0)), (1, .int z.1), (2, .int z.2.1)] → wH D (mT cy) (mW ad cy) A H0 s z.2.2.1 z.2.2.2 H locs → W p l e rm_M_read s m args below meth c H locs 0 0 Q (F0 m 117 ls [])) (fun K hK z h => s_M_read_L117 (K117 := K) Fx hret hK95 hK z.1 z.2.1 z.2.2.1 z.2.2.2 h) n z hz
noncomputable def p_M_read_L95 (K95 : (Int32 × sG × sF) → Option (Int32 × sG × sF)) (x1 : Int32) (g : sG) (f : sF) : Option (Int32 × sG × sF) := (if (g 3) ≤ x1 then lt_ (upd g 4 (0 : Int32)) (fun g1 => some (g1 3, g1, f)) else (if x1 < 0 ∨ 41 ≤ x1.toNatClampNeg then none else (if x1 < 0 ∨ 40 ≤ x1.toNatClampNeg then none else lt_ (up2 f 2 x1.toNatClampNeg (f 17 x1.toNatClampNeg)) (fun f4 => itr (fun K z => p_M_read_L117 K95 K z.1 z.2.1 z.2.2.1 z.2.2.2) FUEL (x1, (0 : Int32), g, f4)))))
set_option maxRecDepth 100000 in
set_option maxHeartbeats 4000000 in
theorem s_M_read_L95 {K95 : (Int32 × sG × sF) → Option (Int32 × sG × sF)} {p : Program} {l : Launch} {e : Env} {s : State} {m : MethodId} {args : Array Value} {below : List Frame} {meth : Method} {c : Code} {Q : State → Prop} {D : va_G} {ad : Nat → Nat} {cy : Nat → ClassId} {A : Nat → Prop} {H0 : Heap} {u : Int32 × sG × sF} (Fx : CallFix p m c cX10_read 3 s args (Cond.code yX10_read cX10_read 3 (some .int) :: wU) RX10) (hret : mRi p l e rm_M_read s m args below meth c Q D (mT cy) (mW ad cy) A H0 cX10_read u) (hK95 : ∀ (z : Int32 × sG × sF), K95 z = some u → ∀ (ls : Array Slot) (H : Heap) (locs : List Loc), lv_has ls 3 [(0, .ref (ad 0)), (1, .int z.1)] → wH D (mT cy) (mW ad cy) A H0 s z.2.1 z.2.2 H locs → W p l e rm_M_read s m args below meth c H locs 0 0 Q (F0 m 95 ls [])) (x1 : Int32) (g : sG) (f : sF) (hf : p_M_read_L95 K95 x1 g f = some u) : ∀ (ls : Array Slot) (H : Heap) (locs : List Loc), lv_has ls 3 [(0, .ref (ad 0)), (1, .int x1)] → wH D (mT cy) (mW ad cy) A H0 s g f H locs → W p l e rm_M_read s m args below meth c H locs 0 0 Q (F0 m 95 ls []) := by
  intro ls H locs hl hC
  unfold p_M_read_L95 at hf
  refine lv_iload_n Fx.1 Fx.2.1 dX10_read_95 rfl (lv_at hl 1 rfl) ?_
  refine lv_aload_n Fx.1 Fx.2.1 dX10_read_96 rfl (lv_at hl 0 rfl) ?_
  refine gg_M_events Fx hC wd_595 dX10_read_97 ?_
  refine lv_icmp_ge (tgt := 179) Fx.1 Fx.2.1 dX10_read_100 (by decide) (fun hc => ?_) (fun hc => ?_)
  · replace hf := ift hc hf
    refine lv_aload_n Fx.1 Fx.2.1 dX10_read_179 rfl (lv_at hl 0 rfl) ?_
    refine lv_iconst (v := (0 : Int32)) Fx.1 Fx.2.1 dX10_read_180 (by decide) ?_
    obtain ⟨g1, eg1, hf⟩ := lt_e hf
    refine gp_M_isFound Fx hC wd_599 z01_0 eg1 dX10_read_181 (fun H locs hC => ?_)
    refine lv_aload_n Fx.1 Fx.2.1 dX10_read_184 rfl (lv_at hl 0 rfl) ?_
    refine gg_M_events Fx hC wd_595 dX10_read_185 ?_
    obtain rfl := Option.some.inj hf
    exact hret _ _ _ _ dX10_read_188 hC
  · replace hf := iff_ hc hf
    refine lv_aload_n Fx.1 Fx.2.1 dX10_read_103 rfl (lv_at hl 0 rfl) ?_
    refine gg_M_pitchMany Fx hC wd_596 dX10_read_104 ?_
    refine lv_iload_n Fx.1 Fx.2.1 dX10_read_107 rfl (lv_at hl 1 rfl) ?_
    refine lv_aload_n Fx.1 Fx.2.1 dX10_read_108 rfl (lv_at hl 0 rfl) ?_
    refine gg_M_newMany Fx hC wd_620 dX10_read_109 ?_
    refine lv_iload_n Fx.1 Fx.2.1 dX10_read_112 rfl (lv_at hl 1 rfl) ?_
    obtain ⟨hi2, hf⟩ := gd_e hf
    refine ld_M_newMany Fx hC hi2 dX10_read_113 ?_
    obtain ⟨hi3, hf⟩ := gd_e hf
    obtain ⟨f4, ef4, hf⟩ := lt_e hf
    refine st_M_pitchMany Fx hC hi3 ef4 dX10_read_114 (fun H locs hC => ?_)
    refine lv_iconst (v := (0 : Int32)) Fx.1 Fx.2.1 dX10_read_115 (by decide) ?_
    refine lv_istore_n (lv' := [(2, .int (0 : Int32)), (0, .ref (ad 0)), (1, .int x1)]) Fx.1 Fx.2.1 dX10_read_116 rfl hl (by decide) rfl (fun ls hl => ?_)
    exact t_M_read_L117 Fx hret hK95 _ _ hf _ _ _ (lv_sub hl [1, 2, 0] rfl) hC
set_option maxRecDepth 100000 in
set_option maxHeartbeats 4000000 in
theorem t_M_read_L95 {p : Program} {l : Launch} {e : Env} {s : State} {m : MethodId} {args : Array Value} {below : List Frame} {meth : Method} {c : Code} {Q : State → Prop} {D : va_G} {ad : Nat → Nat} {cy : Nat → ClassId} {A : Nat → Prop} {H0 : Heap} {u : Int32 × sG × sF} (Fx : CallFix p m c cX10_read 3 s args (Cond.code yX10_read cX10_read 3 (some .int) :: wU) RX10) (hret : mRi p l e rm_M_read s m args below meth c Q D (mT cy) (mW ad cy) A H0 cX10_read u)  (n : Nat) (z : Int32 × sG × sF) (hz : itr (fun K z => p_M_read_L95 K z.1 z.2.1 z.2.2) n z = some u) : ∀ (ls : Array Slot) (H : Heap) (locs : List Loc), lv_has ls 3 [(0, .ref (ad 0)), (1, .int z.1)] → wH D (mT cy) (mW ad cy) A H0 s z.2.1 z.2.2 H locs → W p l e rm_M_read s m args below meth c H locs 0 0 Q (F0 m 95 ls []) :=
  itr_all (B := fun K z => p_M_read_L95 K z.1 z.2.1 z.2.2) (r := u) (fun z => ∀ (ls : Array Slot) (H : Heap) (locs : List Loc), lv_has ls 3 [(0, .ref (ad 0)), (1, .int z.1)] → wH D (mT cy) (mW ad cy) A H0 s z.2.1 z.2.2 H locs → W p l e rm_M_read s m args below meth c H locs 0 0 Q (F0 m 95 ls [])) (fun K hK z h => s_M_read_L95 (K95 := K) Fx hret hK z.1 z.2.1 z.2.2 h) n z hz
noncomputable def p_M_read_J62 (y0 : Int32) (g : sG) (f : sF) : Option (Int32 × sG × sF) := lt_ (upd g 6 y0) (fun g1 => lt_ (upd g1 5 (0 : Int32)) (fun g2 => (if (g2 10) ≤ 0 then lt_ (upd g2 3 (g2 12)) (fun g3 => itr (fun K z => p_M_read_L95 K z.1 z.2.1 z.2.2) FUEL ((0 : Int32), g3, f)) else some ((-10 : Int32) - (g2 10), g2, f))))
set_option maxRecDepth 100000 in
set_option maxHeartbeats 4000000 in
theorem s_M_read_J62 {p : Program} {l : Launch} {e : Env} {s : State} {m : MethodId} {args : Array Value} {below : List Frame} {meth : Method} {c : Code} {Q : State → Prop} {D : va_G} {ad : Nat → Nat} {cy : Nat → ClassId} {A : Nat → Prop} {H0 : Heap} {u : Int32 × sG × sF} (Fx : CallFix p m c cX10_read 3 s args (Cond.code yX10_read cX10_read 3 (some .int) :: wU) RX10) (hret : mRi p l e rm_M_read s m args below meth c Q D (mT cy) (mW ad cy) A H0 cX10_read u)  (y0 : Int32) (g : sG) (f : sF) (hf : p_M_read_J62 y0 g f = some u) : ∀ (ls : Array Slot) (H : Heap) (locs : List Loc), lv_has ls 3 [(0, .ref (ad 0))] → wH D (mT cy) (mW ad cy) A H0 s g f H locs → W p l e rm_M_read s m args below meth c H locs 0 0 Q (F0 m 62 ls [.int y0, .ref (ad 0)]) := by
  intro ls H locs hl hC
  unfold p_M_read_J62 at hf
  obtain ⟨g1, eg1, hf⟩ := lt_e hf
  refine gp_M_faultPlace Fx hC wd_606 eg1 dX10_read_62 (fun H locs hC => ?_)
  refine lv_aload_n Fx.1 Fx.2.1 dX10_read_65 rfl (lv_at hl 0 rfl) ?_
  refine lv_iconst (v := (0 : Int32)) Fx.1 Fx.2.1 dX10_read_66 (by decide) ?_
  obtain ⟨g2, eg2, hf⟩ := lt_e hf
  refine gp_M_signs Fx hC wd_604 eg2 dX10_read_67 (fun H locs hC => ?_)
  refine lv_aload_n Fx.1 Fx.2.1 dX10_read_70 rfl (lv_at hl 0 rfl) ?_
  refine gg_M_fault Fx hC wd_617 dX10_read_71 ?_
  refine lv_if_le (tgt := 85) Fx.1 Fx.2.1 dX10_read_74 (by decide) (fun hc => ?_) (fun hc => ?_)
  · replace hf := ift hc hf
    refine lv_aload_n Fx.1 Fx.2.1 dX10_read_85 rfl (lv_at hl 0 rfl) ?_
    refine lv_aload_n Fx.1 Fx.2.1 dX10_read_86 rfl (lv_at hl 0 rfl) ?_
    refine gg_M_newEvents Fx hC wd_619 dX10_read_87 ?_
    obtain ⟨g3, eg3, hf⟩ := lt_e hf
    refine gp_M_events Fx hC wd_595 eg3 dX10_read_90 (fun H locs hC => ?_)
    refine lv_iconst (v := (0 : Int32)) Fx.1 Fx.2.1 dX10_read_93 (by decide) ?_
    refine lv_istore_n (lv' := [(1, .int (0 : Int32)), (0, .ref (ad 0))]) Fx.1 Fx.2.1 dX10_read_94 rfl hl (by decide) rfl (fun ls hl => ?_)
    exact t_M_read_L95 Fx hret _ _ hf _ _ _ (lv_sub hl [1, 0] rfl) hC
  · replace hf := iff_ hc hf
    refine lv_bipush (v := (-10 : Int32)) Fx.1 Fx.2.1 dX10_read_77 (by decide) ?_
    refine lv_aload_n Fx.1 Fx.2.1 dX10_read_79 rfl (lv_at hl 0 rfl) ?_
    refine gg_M_fault Fx hC wd_617 dX10_read_80 ?_
    refine lv_isub Fx.1 Fx.2.1 dX10_read_83 ?_
    obtain rfl := Option.some.inj hf
    exact hret _ _ _ _ dX10_read_84 hC
noncomputable def p_M_read_J46  (g : sG) (f : sF) : Option (Int32 × sG × sF) := (if (g 10) = 0 then p_M_read_J62 (-1 : Int32) g f else p_M_read_J62 (g 11) g f)
set_option maxRecDepth 100000 in
set_option maxHeartbeats 4000000 in
theorem s_M_read_J46 {p : Program} {l : Launch} {e : Env} {s : State} {m : MethodId} {args : Array Value} {below : List Frame} {meth : Method} {c : Code} {Q : State → Prop} {D : va_G} {ad : Nat → Nat} {cy : Nat → ClassId} {A : Nat → Prop} {H0 : Heap} {u : Int32 × sG × sF} (Fx : CallFix p m c cX10_read 3 s args (Cond.code yX10_read cX10_read 3 (some .int) :: wU) RX10) (hret : mRi p l e rm_M_read s m args below meth c Q D (mT cy) (mW ad cy) A H0 cX10_read u)   (g : sG) (f : sF) (hf : p_M_read_J46  g f = some u) : ∀ (ls : Array Slot) (H : Heap) (locs : List Loc), lv_has ls 3 [(0, .ref (ad 0))] → wH D (mT cy) (mW ad cy) A H0 s g f H locs → W p l e rm_M_read s m args below meth c H locs 0 0 Q (F0 m 46 ls []) := by
  intro ls H locs hl hC
  unfold p_M_read_J46 at hf
  refine lv_aload_n Fx.1 Fx.2.1 dX10_read_46 rfl (lv_at hl 0 rfl) ?_
  refine lv_aload_n Fx.1 Fx.2.1 dX10_read_47 rfl (lv_at hl 0 rfl) ?_
  refine gg_M_fault Fx hC wd_617 dX10_read_48 ?_
  refine lv_if_ne (tgt := 58) Fx.1 Fx.2.1 dX10_read_51 (by decide) (fun hc => ?_) (fun hc => ?_)
  · replace hf := iff_ hc hf
    refine lv_aload_n Fx.1 Fx.2.1 dX10_read_58 rfl (lv_at hl 0 rfl) ?_
    refine gg_M_faultAt Fx hC wd_618 dX10_read_59 ?_
    exact s_M_read_J62 Fx hret _ _ _  hf _ _ _ (lv_sub hl [0] rfl) hC
  · replace hf := ift hc hf
    refine lv_iconst (v := (-1 : Int32)) Fx.1 Fx.2.1 dX10_read_54 (by decide) ?_
    refine lv_goto (tgt := 62) Fx.1 Fx.2.1 dX10_read_55 (by decide) ?_
    exact s_M_read_J62 Fx hret _ _ _  hf _ _ _ (lv_sub hl [0] rfl) hC
noncomputable def p_M_read_J35  (g : sG) (f : sF) : Option (Int32 × sG × sF) := (if (g 10) = 0 then Option.bind (p_M_lookEvents  g f) (fun u1 => p_M_read_J46  u1.1 u1.2) else p_M_read_J46  g f)
set_option maxRecDepth 100000 in
set_option maxHeartbeats 4000000 in
theorem s_M_read_J35 {p : Program} {l : Launch} {e : Env} {s : State} {m : MethodId} {args : Array Value} {below : List Frame} {meth : Method} {c : Code} {Q : State → Prop} {D : va_G} {ad : Nat → Nat} {cy : Nat → ClassId} {A : Nat → Prop} {H0 : Heap} {u : Int32 × sG × sF} (Fx : CallFix p m c cX10_read 3 s args (Cond.code yX10_read cX10_read 3 (some .int) :: wU) RX10) (hret : mRi p l e rm_M_read s m args below meth c Q D (mT cy) (mW ad cy) A H0 cX10_read u)   (g : sG) (f : sF) (hf : p_M_read_J35  g f = some u) : ∀ (ls : Array Slot) (H : Heap) (locs : List Loc), lv_has ls 3 [(0, .ref (ad 0))] → wH D (mT cy) (mW ad cy) A H0 s g f H locs → W p l e rm_M_read s m args below meth c H locs 0 0 Q (F0 m 35 ls []) := by
  intro ls H locs hl hC
  unfold p_M_read_J35 at hf
  refine lv_aload_n Fx.1 Fx.2.1 dX10_read_35 rfl (lv_at hl 0 rfl) ?_
  refine gg_M_fault Fx hC wd_617 dX10_read_36 ?_
  refine lv_if_ne (tgt := 46) Fx.1 Fx.2.1 dX10_read_39 (by decide) (fun hc => ?_) (fun hc => ?_)
  · replace hf := iff_ hc hf
    exact s_M_read_J46 Fx hret _ _  hf _ _ _ (lv_sub hl [0] rfl) hC
  · replace hf := ift hc hf
    refine lv_aload_n Fx.1 Fx.2.1 dX10_read_42 rfl (lv_at hl 0 rfl) ?_
    obtain ⟨u1, hu1, hf⟩ := bd_e hf
    refine ca_v (As := []) (rest := []) Fx hC (k_M_lookEvents hu1) (cVU 0 Fx.2.2.2.2 wd_842 wd_843 wd_908 wd_10 wd_844 rfl rfl hd_M_lookEvents ⟨Nat.le_of_ble_eq_true rfl, Nat.le_of_ble_eq_true rfl⟩) 0 rfl rfl rfl hl.1 rfl (Nat.le_of_ble_eq_true rfl) dX10_read_43 (fun H locs hC => ?_)
    exact s_M_read_J46 Fx hret _ _  hf _ _ _ (lv_sub hl [0] rfl) hC
noncomputable def p_M_read  (g : sG) (f : sF) : Option (Int32 × sG × sF) := (if (g 0) = 0 then some ((-4 : Int32), g, f) else lt_ (upd g 10 (0 : Int32)) (fun g1 => lt_ (upd g1 11 (-1 : Int32)) (fun g2 => Option.bind (p_M_readLines  g2 f) (fun u3 => (if (u3.1 10) = 0 then Option.bind (p_M_lookNumbers  u3.1 u3.2) (fun u4 => p_M_read_J35  u4.1 u4.2) else p_M_read_J35  u3.1 u3.2)))))
set_option maxRecDepth 100000 in
set_option maxHeartbeats 4000000 in
theorem k_M_read {l : Launch} {D : va_G} {ad : Nat → Nat} {cy : Nat → ClassId}  {u : Int32 × sG × sF} {g : sG} {f : sF} (hf : p_M_read  g f = some u) : mMi l yX10_read (Cond.code yX10_read cX10_read 3 (some .int) :: wU) rm_M_read D (mT cy) (mW ad cy) [.ref (ad 0)] g f u := by
  refine mk_i (by decide) rfl (Nat.le_of_ble_eq_true rfl) ?_
  intro p e s m below meth c Q A H0 Fx hret ls H locs hl hC
  replace hl : lv_has ls 3 [(0, .ref (ad 0))] := hl
  unfold p_M_read at hf
  refine lv_aload_n Fx.1 Fx.2.1 dX10_read_0 rfl (lv_at hl 0 rfl) ?_
  refine gg_M_strings Fx hC wd_590 dX10_read_1 ?_
  refine lv_if_ne (tgt := 10) Fx.1 Fx.2.1 dX10_read_4 (by decide) (fun hc => ?_) (fun hc => ?_)
  · replace hf := iff_ hc hf
    refine lv_aload_n Fx.1 Fx.2.1 dX10_read_10 rfl (lv_at hl 0 rfl) ?_
    refine lv_iconst (v := (0 : Int32)) Fx.1 Fx.2.1 dX10_read_11 (by decide) ?_
    obtain ⟨g1, eg1, hf⟩ := lt_e hf
    refine gp_M_fault Fx hC wd_617 eg1 dX10_read_12 (fun H locs hC => ?_)
    refine lv_aload_n Fx.1 Fx.2.1 dX10_read_15 rfl (lv_at hl 0 rfl) ?_
    refine lv_iconst (v := (-1 : Int32)) Fx.1 Fx.2.1 dX10_read_16 (by decide) ?_
    obtain ⟨g2, eg2, hf⟩ := lt_e hf
    refine gp_M_faultAt Fx hC wd_618 eg2 dX10_read_17 (fun H locs hC => ?_)
    refine lv_aload_n Fx.1 Fx.2.1 dX10_read_20 rfl (lv_at hl 0 rfl) ?_
    obtain ⟨u3, hu3, hf⟩ := bd_e hf
    refine ca_v (As := []) (rest := []) Fx hC (k_M_readLines hu3) (cVU 0 Fx.2.2.2.2 wd_809 wd_810 wd_898 wd_10 wd_811 rfl rfl hd_M_readLines ⟨Nat.le_of_ble_eq_true rfl, Nat.le_of_ble_eq_true rfl⟩) 0 rfl rfl rfl hl.1 rfl (Nat.le_of_ble_eq_true rfl) dX10_read_21 (fun H locs hC => ?_)
    refine lv_aload_n Fx.1 Fx.2.1 dX10_read_24 rfl (lv_at hl 0 rfl) ?_
    refine gg_M_fault Fx hC wd_617 dX10_read_25 ?_
    refine lv_if_ne (tgt := 35) Fx.1 Fx.2.1 dX10_read_28 (by decide) (fun hc => ?_) (fun hc => ?_)
    · replace hf := iff_ hc hf
      exact s_M_read_J35 Fx hret _ _  hf _ _ _ (lv_sub hl [0] rfl) hC
    · replace hf := ift hc hf
      refine lv_aload_n Fx.1 Fx.2.1 dX10_read_31 rfl (lv_at hl 0 rfl) ?_
      obtain ⟨u4, hu4, hf⟩ := bd_e hf
      refine ca_v (As := []) (rest := []) Fx hC (k_M_lookNumbers hu4) (cVU 0 Fx.2.2.2.2 wd_824 wd_825 wd_902 wd_10 wd_826 rfl rfl hd_M_lookNumbers ⟨Nat.le_of_ble_eq_true rfl, Nat.le_of_ble_eq_true rfl⟩) 0 rfl rfl rfl hl.1 rfl (Nat.le_of_ble_eq_true rfl) dX10_read_32 (fun H locs hC => ?_)
      exact s_M_read_J35 Fx hret _ _  hf _ _ _ (lv_sub hl [0] rfl) hC
  · replace hf := ift hc hf
    refine lv_bipush (v := (-4 : Int32)) Fx.1 Fx.2.1 dX10_read_7 (by decide) ?_
    obtain rfl := Option.some.inj hf
    exact hret _ _ _ _ dX10_read_9 hC
/-! FretHandsModel.place()I -/
abbrev rm_M_place : Room := { frames := 0, cells := 0, slots := 0, locals := 0 }
theorem hd_M_place : yX10_place.cls = RX10 ∧ yX10_place.cls ≠ "java/lang/invoke/MethodHandle" ∧ yX10_place.cls ≠ "java/lang/invoke/VarHandle" ∧ (parseMethodDescriptor yX10_place.desc).map (fun d => d.parameters.length) = some 0 := by decide +kernel
noncomputable def p_M_place  (g : sG) (f : sF) : Option (Int32) := some (g 6)
set_option maxRecDepth 100000 in
set_option maxHeartbeats 4000000 in
theorem k_M_place {l : Launch} {D : va_G} {ad : Nat → Nat} {cy : Nat → ClassId}  {r : Int32} {g : sG} {f : sF} (hf : p_M_place  g f = some r) : mMi l yX10_place (Cond.code yX10_place cX10_place 1 (some .int) :: wU) rm_M_place D (mT cy) (mW ad cy) [.ref (ad 0)] g f (r, g, f) := by
  refine mk_i (by decide) rfl (Nat.le_of_ble_eq_true rfl) ?_
  intro p e s m below meth c Q A H0 Fx hret ls H locs hl hC
  replace hl : lv_has ls 1 [(0, .ref (ad 0))] := hl
  unfold p_M_place at hf
  refine lv_aload_n Fx.1 Fx.2.1 dX10_place_0 rfl (lv_at hl 0 rfl) ?_
  refine gg_M_faultPlace Fx hC wd_606 dX10_place_1 ?_
  obtain rfl := Option.some.inj hf
  exact hret _ _ _ _ dX10_place_4 hC
