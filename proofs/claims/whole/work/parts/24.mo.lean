/-! FretHandsModel.readLines()V -/
abbrev rm_M_readLines : Room := { frames := 2, cells := 0, slots := 0, locals := 43 }
theorem hd_M_readLines : yX10_readLines.cls = RX10 ∧ yX10_readLines.cls ≠ "java/lang/invoke/MethodHandle" ∧ yX10_readLines.cls ≠ "java/lang/invoke/VarHandle" ∧ (parseMethodDescriptor yX10_readLines.desc).map (fun d => d.parameters.length) = some 0 := by decide +kernel
noncomputable def p_M_readLines_J226 (y0 : Int32) (g : sG) (f : sF) : Option (sG × sF) := Option.bind (p_M_wants y0 g f) (fun u1 => some (u1.1, u1.2))
set_option maxRecDepth 100000 in
set_option maxHeartbeats 4000000 in
theorem s_M_readLines_J226 {p : Program} {l : Launch} {e : Env} {s : State} {m : MethodId} {args : Array Value} {below : List Frame} {meth : Method} {c : Code} {Q : State → Prop} {D : va_G} {ad : Nat → Nat} {cy : Nat → ClassId} {A : Nat → Prop} {H0 : Heap} {u : sG × sF} (Fx : CallFix p m c cX10_readLines 3 s args (Cond.code yX10_readLines cX10_readLines 3 none :: wU) RX10) (hret : mRv p l e rm_M_readLines s m args below meth c Q D (mT cy) (mW ad cy) A H0 cX10_readLines u)  (y0 : Int32) (g : sG) (f : sF) (hf : p_M_readLines_J226 y0 g f = some u) : ∀ (ls : Array Slot) (H : Heap) (locs : List Loc), lv_has ls 3 [] → wH D (mT cy) (mW ad cy) A H0 s g f H locs → W p l e rm_M_readLines s m args below meth c H locs 0 0 Q (F0 m 226 ls [.int y0, .ref (ad 0)]) := by
  intro ls H locs hl hC
  unfold p_M_readLines_J226 at hf
  obtain ⟨u1, hu1, hf⟩ := bd_e hf
  refine ca_v (As := [.int y0]) (rest := []) Fx hC (k_M_wants hu1) (cVU 1 Fx.2.2.2.2 wd_815 wd_816 wd_900 wd_10 wd_817 rfl rfl hd_M_wants ⟨Nat.le_of_ble_eq_true rfl, Nat.le_of_ble_eq_true rfl⟩) 0 rfl rfl rfl hl.1 rfl (Nat.le_of_ble_eq_true rfl) dX10_readLines_226 (fun H locs hC => ?_)
  obtain rfl := Option.some.inj hf
  exact hret _ _ _ _ dX10_readLines_229 hC
noncomputable def p_M_readLines_J202  (g : sG) (f : sF) : Option (sG × sF) := (if (g 10) = 0 then (if (g 8) = (g 5) then p_M_readLines_J226 (1 : Int32) g f else p_M_readLines_J226 (0 : Int32) g f) else some (g, f))
set_option maxRecDepth 100000 in
set_option maxHeartbeats 4000000 in
theorem s_M_readLines_J202 {p : Program} {l : Launch} {e : Env} {s : State} {m : MethodId} {args : Array Value} {below : List Frame} {meth : Method} {c : Code} {Q : State → Prop} {D : va_G} {ad : Nat → Nat} {cy : Nat → ClassId} {A : Nat → Prop} {H0 : Heap} {u : sG × sF} (Fx : CallFix p m c cX10_readLines 3 s args (Cond.code yX10_readLines cX10_readLines 3 none :: wU) RX10) (hret : mRv p l e rm_M_readLines s m args below meth c Q D (mT cy) (mW ad cy) A H0 cX10_readLines u)   (g : sG) (f : sF) (hf : p_M_readLines_J202  g f = some u) : ∀ (ls : Array Slot) (H : Heap) (locs : List Loc), lv_has ls 3 [(0, .ref (ad 0))] → wH D (mT cy) (mW ad cy) A H0 s g f H locs → W p l e rm_M_readLines s m args below meth c H locs 0 0 Q (F0 m 202 ls []) := by
  intro ls H locs hl hC
  unfold p_M_readLines_J202 at hf
  refine lv_aload_n Fx.1 Fx.2.1 dX10_readLines_202 rfl (lv_at hl 0 rfl) ?_
  refine gg_M_fault Fx hC wd_617 dX10_readLines_203 ?_
  refine lv_if_ne (tgt := 229) Fx.1 Fx.2.1 dX10_readLines_206 (by decide) (fun hc => ?_) (fun hc => ?_)
  · replace hf := iff_ hc hf
    obtain rfl := Option.some.inj hf
    exact hret _ _ _ _ dX10_readLines_229 hC
  · replace hf := ift hc hf
    refine lv_aload_n Fx.1 Fx.2.1 dX10_readLines_209 rfl (lv_at hl 0 rfl) ?_
    refine lv_aload_n Fx.1 Fx.2.1 dX10_readLines_210 rfl (lv_at hl 0 rfl) ?_
    refine gg_M_at Fx hC wd_615 dX10_readLines_211 ?_
    refine lv_aload_n Fx.1 Fx.2.1 dX10_readLines_214 rfl (lv_at hl 0 rfl) ?_
    refine gg_M_signs Fx hC wd_604 dX10_readLines_215 ?_
    refine lv_icmp_ne (tgt := 225) Fx.1 Fx.2.1 dX10_readLines_218 (by decide) (fun hc => ?_) (fun hc => ?_)
    · replace hf := iff_ hc hf
      refine lv_iconst (v := (0 : Int32)) Fx.1 Fx.2.1 dX10_readLines_225 (by decide) ?_
      exact s_M_readLines_J226 Fx hret _ _ _  hf _ _ _ (lv_sub hl [] rfl) hC
    · replace hf := ift hc hf
      refine lv_iconst (v := (1 : Int32)) Fx.1 Fx.2.1 dX10_readLines_221 (by decide) ?_
      refine lv_goto (tgt := 226) Fx.1 Fx.2.1 dX10_readLines_222 (by decide) ?_
      exact s_M_readLines_J226 Fx hret _ _ _  hf _ _ _ (lv_sub hl [] rfl) hC
noncomputable def p_M_readLines_J193 (K12 : (Int32 × sG × sF) → Option (sG × sF)) (x1 : Int32) (y0 : Int32) (g : sG) (f : sF) : Option (sG × sF) := Option.bind (p_M_wants y0 g f) (fun u1 => lt_ (x1 + (1 : Int32)) (fun v2 => K12 (v2, u1.1, u1.2)))
set_option maxRecDepth 100000 in
set_option maxHeartbeats 4000000 in
theorem s_M_readLines_J193 {K12 : (Int32 × sG × sF) → Option (sG × sF)} {p : Program} {l : Launch} {e : Env} {s : State} {m : MethodId} {args : Array Value} {below : List Frame} {meth : Method} {c : Code} {Q : State → Prop} {D : va_G} {ad : Nat → Nat} {cy : Nat → ClassId} {A : Nat → Prop} {H0 : Heap} {u : sG × sF} (Fx : CallFix p m c cX10_readLines 3 s args (Cond.code yX10_readLines cX10_readLines 3 none :: wU) RX10) (hret : mRv p l e rm_M_readLines s m args below meth c Q D (mT cy) (mW ad cy) A H0 cX10_readLines u) (hK12 : ∀ (z : Int32 × sG × sF), K12 z = some u → ∀ (ls : Array Slot) (H : Heap) (locs : List Loc), lv_has ls 3 [(0, .ref (ad 0)), (1, .int z.1)] → wH D (mT cy) (mW ad cy) A H0 s z.2.1 z.2.2 H locs → W p l e rm_M_readLines s m args below meth c H locs 0 0 Q (F0 m 12 ls [])) (x1 : Int32) (y0 : Int32) (g : sG) (f : sF) (hf : p_M_readLines_J193 K12 x1 y0 g f = some u) : ∀ (ls : Array Slot) (H : Heap) (locs : List Loc), lv_has ls 3 [(0, .ref (ad 0)), (1, .int x1)] → wH D (mT cy) (mW ad cy) A H0 s g f H locs → W p l e rm_M_readLines s m args below meth c H locs 0 0 Q (F0 m 193 ls [.int y0, .ref (ad 0)]) := by
  intro ls H locs hl hC
  unfold p_M_readLines_J193 at hf
  obtain ⟨u1, hu1, hf⟩ := bd_e hf
  refine ca_v (As := [.int y0]) (rest := []) Fx hC (k_M_wants hu1) (cVU 1 Fx.2.2.2.2 wd_815 wd_816 wd_900 wd_10 wd_817 rfl rfl hd_M_wants ⟨Nat.le_of_ble_eq_true rfl, Nat.le_of_ble_eq_true rfl⟩) 0 rfl rfl rfl hl.1 rfl (Nat.le_of_ble_eq_true rfl) dX10_readLines_193 (fun H locs hC => ?_)
  obtain ⟨v2, ev2, hf⟩ := lt_e hf
  refine lv_iinc (v := v2) (lv' := [(1, .int v2), (0, .ref (ad 0))]) Fx.1 Fx.2.1 dX10_readLines_196 hl (k := 1) rfl ev2.symm (by decide) rfl (fun ls hl => ?_)
  refine lv_goto (tgt := 12) Fx.1 Fx.2.1 dX10_readLines_199 (by decide) ?_
  exact hK12 _ hf _ _ _ (lv_sub hl [1, 0] rfl) hC
noncomputable def p_M_readLines_J171 (K12 : (Int32 × sG × sF) → Option (sG × sF)) (x1 : Int32) (g : sG) (f : sF) : Option (sG × sF) := (if (g 10) = 0 then Option.bind (p_M_look  g f) (fun u2 => (if u2 = (10 : Int32) then p_M_readLines_J193 K12 x1 (1 : Int32) g f else p_M_readLines_J193 K12 x1 (0 : Int32) g f)) else lt_ (x1 + (1 : Int32)) (fun v1 => K12 (v1, g, f)))
set_option maxRecDepth 100000 in
set_option maxHeartbeats 4000000 in
theorem s_M_readLines_J171 {K12 : (Int32 × sG × sF) → Option (sG × sF)} {p : Program} {l : Launch} {e : Env} {s : State} {m : MethodId} {args : Array Value} {below : List Frame} {meth : Method} {c : Code} {Q : State → Prop} {D : va_G} {ad : Nat → Nat} {cy : Nat → ClassId} {A : Nat → Prop} {H0 : Heap} {u : sG × sF} (Fx : CallFix p m c cX10_readLines 3 s args (Cond.code yX10_readLines cX10_readLines 3 none :: wU) RX10) (hret : mRv p l e rm_M_readLines s m args below meth c Q D (mT cy) (mW ad cy) A H0 cX10_readLines u) (hK12 : ∀ (z : Int32 × sG × sF), K12 z = some u → ∀ (ls : Array Slot) (H : Heap) (locs : List Loc), lv_has ls 3 [(0, .ref (ad 0)), (1, .int z.1)] → wH D (mT cy) (mW ad cy) A H0 s z.2.1 z.2.2 H locs → W p l e rm_M_readLines s m args below meth c H locs 0 0 Q (F0 m 12 ls [])) (x1 : Int32) (g : sG) (f : sF) (hf : p_M_readLines_J171 K12 x1 g f = some u) : ∀ (ls : Array Slot) (H : Heap) (locs : List Loc), lv_has ls 3 [(0, .ref (ad 0)), (1, .int x1)] → wH D (mT cy) (mW ad cy) A H0 s g f H locs → W p l e rm_M_readLines s m args below meth c H locs 0 0 Q (F0 m 171 ls []) := by
  intro ls H locs hl hC
  unfold p_M_readLines_J171 at hf
  refine lv_aload_n Fx.1 Fx.2.1 dX10_readLines_171 rfl (lv_at hl 0 rfl) ?_
  refine gg_M_fault Fx hC wd_617 dX10_readLines_172 ?_
  refine lv_if_ne (tgt := 196) Fx.1 Fx.2.1 dX10_readLines_175 (by decide) (fun hc => ?_) (fun hc => ?_)
  · replace hf := iff_ hc hf
    obtain ⟨v1, ev1, hf⟩ := lt_e hf
    refine lv_iinc (v := v1) (lv' := [(1, .int v1), (0, .ref (ad 0))]) Fx.1 Fx.2.1 dX10_readLines_196 hl (k := 1) rfl ev1.symm (by decide) rfl (fun ls hl => ?_)
    refine lv_goto (tgt := 12) Fx.1 Fx.2.1 dX10_readLines_199 (by decide) ?_
    exact hK12 _ hf _ _ _ (lv_sub hl [1, 0] rfl) hC
  · replace hf := ift hc hf
    refine lv_aload_n Fx.1 Fx.2.1 dX10_readLines_178 rfl (lv_at hl 0 rfl) ?_
    refine lv_aload_n Fx.1 Fx.2.1 dX10_readLines_179 rfl (lv_at hl 0 rfl) ?_
    obtain ⟨u2, hu2, hf⟩ := bd_e hf
    refine ca_i (As := []) (rest := [.ref (ad 0)]) Fx hC (k_M_look hu2) (cVU 0 Fx.2.2.2.2 wd_812 wd_813 wd_899 wd_10 wd_814 rfl rfl hd_M_look ⟨Nat.le_of_ble_eq_true rfl, Nat.le_of_ble_eq_true rfl⟩) 0 rfl rfl rfl hl.1 rfl (Nat.le_of_ble_eq_true rfl) dX10_readLines_180 (fun H locs hC => ?_)
    refine lv_bipush (v := (10 : Int32)) Fx.1 Fx.2.1 dX10_readLines_183 (by decide) ?_
    refine lv_icmp_ne (tgt := 192) Fx.1 Fx.2.1 dX10_readLines_185 (by decide) (fun hc => ?_) (fun hc => ?_)
    · replace hf := iff_ hc hf
      refine lv_iconst (v := (0 : Int32)) Fx.1 Fx.2.1 dX10_readLines_192 (by decide) ?_
      exact s_M_readLines_J193 Fx hret hK12 _ _ _ _  hf _ _ _ (lv_sub hl [0, 1] rfl) hC
    · replace hf := ift hc hf
      refine lv_iconst (v := (1 : Int32)) Fx.1 Fx.2.1 dX10_readLines_188 (by decide) ?_
      refine lv_goto (tgt := 193) Fx.1 Fx.2.1 dX10_readLines_189 (by decide) ?_
      exact s_M_readLines_J193 Fx hret hK12 _ _ _ _  hf _ _ _ (lv_sub hl [0, 1] rfl) hC
noncomputable def p_M_readLines_J168 (K12 : (Int32 × sG × sF) → Option (sG × sF)) (x1 : Int32) (y0 : Int32) (g : sG) (f : sF) : Option (sG × sF) := Option.bind (p_M_wants y0 g f) (fun u1 => p_M_readLines_J171 K12 x1 u1.1 u1.2)
set_option maxRecDepth 100000 in
set_option maxHeartbeats 4000000 in
theorem s_M_readLines_J168 {K12 : (Int32 × sG × sF) → Option (sG × sF)} {p : Program} {l : Launch} {e : Env} {s : State} {m : MethodId} {args : Array Value} {below : List Frame} {meth : Method} {c : Code} {Q : State → Prop} {D : va_G} {ad : Nat → Nat} {cy : Nat → ClassId} {A : Nat → Prop} {H0 : Heap} {u : sG × sF} (Fx : CallFix p m c cX10_readLines 3 s args (Cond.code yX10_readLines cX10_readLines 3 none :: wU) RX10) (hret : mRv p l e rm_M_readLines s m args below meth c Q D (mT cy) (mW ad cy) A H0 cX10_readLines u) (hK12 : ∀ (z : Int32 × sG × sF), K12 z = some u → ∀ (ls : Array Slot) (H : Heap) (locs : List Loc), lv_has ls 3 [(0, .ref (ad 0)), (1, .int z.1)] → wH D (mT cy) (mW ad cy) A H0 s z.2.1 z.2.2 H locs → W p l e rm_M_readLines s m args below meth c H locs 0 0 Q (F0 m 12 ls [])) (x1 : Int32) (y0 : Int32) (g : sG) (f : sF) (hf : p_M_readLines_J168 K12 x1 y0 g f = some u) : ∀ (ls : Array Slot) (H : Heap) (locs : List Loc), lv_has ls 3 [(0, .ref (ad 0)), (1, .int x1)] → wH D (mT cy) (mW ad cy) A H0 s g f H locs → W p l e rm_M_readLines s m args below meth c H locs 0 0 Q (F0 m 168 ls [.int y0, .ref (ad 0)]) := by
  intro ls H locs hl hC
  unfold p_M_readLines_J168 at hf
  obtain ⟨u1, hu1, hf⟩ := bd_e hf
  refine ca_v (As := [.int y0]) (rest := []) Fx hC (k_M_wants hu1) (cVU 1 Fx.2.2.2.2 wd_815 wd_816 wd_900 wd_10 wd_817 rfl rfl hd_M_wants ⟨Nat.le_of_ble_eq_true rfl, Nat.le_of_ble_eq_true rfl⟩) 0 rfl rfl rfl hl.1 rfl (Nat.le_of_ble_eq_true rfl) dX10_readLines_168 (fun H locs hC => ?_)
  exact s_M_readLines_J171 Fx hret hK12 _ _ _  hf _ _ _ (lv_sub hl [0, 1] rfl) hC
noncomputable def p_M_readLines_J146 (K12 : (Int32 × sG × sF) → Option (sG × sF)) (x1 : Int32) (g : sG) (f : sF) : Option (sG × sF) := (if (g 10) = 0 then Option.bind (p_M_look  g f) (fun u1 => (if u1 = (124 : Int32) then p_M_readLines_J168 K12 x1 (1 : Int32) g f else p_M_readLines_J168 K12 x1 (0 : Int32) g f)) else p_M_readLines_J171 K12 x1 g f)
set_option maxRecDepth 100000 in
set_option maxHeartbeats 4000000 in
theorem s_M_readLines_J146 {K12 : (Int32 × sG × sF) → Option (sG × sF)} {p : Program} {l : Launch} {e : Env} {s : State} {m : MethodId} {args : Array Value} {below : List Frame} {meth : Method} {c : Code} {Q : State → Prop} {D : va_G} {ad : Nat → Nat} {cy : Nat → ClassId} {A : Nat → Prop} {H0 : Heap} {u : sG × sF} (Fx : CallFix p m c cX10_readLines 3 s args (Cond.code yX10_readLines cX10_readLines 3 none :: wU) RX10) (hret : mRv p l e rm_M_readLines s m args below meth c Q D (mT cy) (mW ad cy) A H0 cX10_readLines u) (hK12 : ∀ (z : Int32 × sG × sF), K12 z = some u → ∀ (ls : Array Slot) (H : Heap) (locs : List Loc), lv_has ls 3 [(0, .ref (ad 0)), (1, .int z.1)] → wH D (mT cy) (mW ad cy) A H0 s z.2.1 z.2.2 H locs → W p l e rm_M_readLines s m args below meth c H locs 0 0 Q (F0 m 12 ls [])) (x1 : Int32) (g : sG) (f : sF) (hf : p_M_readLines_J146 K12 x1 g f = some u) : ∀ (ls : Array Slot) (H : Heap) (locs : List Loc), lv_has ls 3 [(0, .ref (ad 0)), (1, .int x1)] → wH D (mT cy) (mW ad cy) A H0 s g f H locs → W p l e rm_M_readLines s m args below meth c H locs 0 0 Q (F0 m 146 ls []) := by
  intro ls H locs hl hC
  unfold p_M_readLines_J146 at hf
  refine lv_aload_n Fx.1 Fx.2.1 dX10_readLines_146 rfl (lv_at hl 0 rfl) ?_
  refine gg_M_fault Fx hC wd_617 dX10_readLines_147 ?_
  refine lv_if_ne (tgt := 171) Fx.1 Fx.2.1 dX10_readLines_150 (by decide) (fun hc => ?_) (fun hc => ?_)
  · replace hf := iff_ hc hf
    exact s_M_readLines_J171 Fx hret hK12 _ _ _  hf _ _ _ (lv_sub hl [0, 1] rfl) hC
  · replace hf := ift hc hf
    refine lv_aload_n Fx.1 Fx.2.1 dX10_readLines_153 rfl (lv_at hl 0 rfl) ?_
    refine lv_aload_n Fx.1 Fx.2.1 dX10_readLines_154 rfl (lv_at hl 0 rfl) ?_
    obtain ⟨u1, hu1, hf⟩ := bd_e hf
    refine ca_i (As := []) (rest := [.ref (ad 0)]) Fx hC (k_M_look hu1) (cVU 0 Fx.2.2.2.2 wd_812 wd_813 wd_899 wd_10 wd_814 rfl rfl hd_M_look ⟨Nat.le_of_ble_eq_true rfl, Nat.le_of_ble_eq_true rfl⟩) 0 rfl rfl rfl hl.1 rfl (Nat.le_of_ble_eq_true rfl) dX10_readLines_155 (fun H locs hC => ?_)
    refine lv_bipush (v := (124 : Int32)) Fx.1 Fx.2.1 dX10_readLines_158 (by decide) ?_
    refine lv_icmp_ne (tgt := 167) Fx.1 Fx.2.1 dX10_readLines_160 (by decide) (fun hc => ?_) (fun hc => ?_)
    · replace hf := iff_ hc hf
      refine lv_iconst (v := (0 : Int32)) Fx.1 Fx.2.1 dX10_readLines_167 (by decide) ?_
      exact s_M_readLines_J168 Fx hret hK12 _ _ _ _  hf _ _ _ (lv_sub hl [0, 1] rfl) hC
    · replace hf := ift hc hf
      refine lv_iconst (v := (1 : Int32)) Fx.1 Fx.2.1 dX10_readLines_163 (by decide) ?_
      refine lv_goto (tgt := 168) Fx.1 Fx.2.1 dX10_readLines_164 (by decide) ?_
      exact s_M_readLines_J168 Fx hret hK12 _ _ _ _  hf _ _ _ (lv_sub hl [0, 1] rfl) hC
noncomputable def p_M_readLines_J137 (K12 : (Int32 × sG × sF) → Option (sG × sF)) (K93 : (Int32 × Int32 × sG × sF) → Option (sG × sF)) (x1 : Int32) (x2 : Int32) (y0 : Int32) (g : sG) (f : sF) : Option (sG × sF) := Option.bind (p_M_wants y0 g f) (fun u1 => lt_ (x2 + (1 : Int32)) (fun v2 => K93 (x1, v2, u1.1, u1.2)))
set_option maxRecDepth 100000 in
set_option maxHeartbeats 4000000 in
theorem s_M_readLines_J137 {K12 : (Int32 × sG × sF) → Option (sG × sF)} {K93 : (Int32 × Int32 × sG × sF) → Option (sG × sF)} {p : Program} {l : Launch} {e : Env} {s : State} {m : MethodId} {args : Array Value} {below : List Frame} {meth : Method} {c : Code} {Q : State → Prop} {D : va_G} {ad : Nat → Nat} {cy : Nat → ClassId} {A : Nat → Prop} {H0 : Heap} {u : sG × sF} (Fx : CallFix p m c cX10_readLines 3 s args (Cond.code yX10_readLines cX10_readLines 3 none :: wU) RX10) (hret : mRv p l e rm_M_readLines s m args below meth c Q D (mT cy) (mW ad cy) A H0 cX10_readLines u) (hK12 : ∀ (z : Int32 × sG × sF), K12 z = some u → ∀ (ls : Array Slot) (H : Heap) (locs : List Loc), lv_has ls 3 [(0, .ref (ad 0)), (1, .int z.1)] → wH D (mT cy) (mW ad cy) A H0 s z.2.1 z.2.2 H locs → W p l e rm_M_readLines s m args below meth c H locs 0 0 Q (F0 m 12 ls [])) (hK93 : ∀ (z : Int32 × Int32 × sG × sF), K93 z = some u → ∀ (ls : Array Slot) (H : Heap) (locs : List Loc), lv_has ls 3 [(0, .ref (ad 0)), (1, .int z.1), (2, .int z.2.1)] → wH D (mT cy) (mW ad cy) A H0 s z.2.2.1 z.2.2.2 H locs → W p l e rm_M_readLines s m args below meth c H locs 0 0 Q (F0 m 93 ls [])) (x1 : Int32) (x2 : Int32) (y0 : Int32) (g : sG) (f : sF) (hf : p_M_readLines_J137 K12 K93 x1 x2 y0 g f = some u) : ∀ (ls : Array Slot) (H : Heap) (locs : List Loc), lv_has ls 3 [(0, .ref (ad 0)), (1, .int x1), (2, .int x2)] → wH D (mT cy) (mW ad cy) A H0 s g f H locs → W p l e rm_M_readLines s m args below meth c H locs 0 0 Q (F0 m 137 ls [.int y0, .ref (ad 0)]) := by
  intro ls H locs hl hC
  unfold p_M_readLines_J137 at hf
  obtain ⟨u1, hu1, hf⟩ := bd_e hf
  refine ca_v (As := [.int y0]) (rest := []) Fx hC (k_M_wants hu1) (cVU 1 Fx.2.2.2.2 wd_815 wd_816 wd_900 wd_10 wd_817 rfl rfl hd_M_wants ⟨Nat.le_of_ble_eq_true rfl, Nat.le_of_ble_eq_true rfl⟩) 0 rfl rfl rfl hl.1 rfl (Nat.le_of_ble_eq_true rfl) dX10_readLines_137 (fun H locs hC => ?_)
  obtain ⟨v2, ev2, hf⟩ := lt_e hf
  refine lv_iinc (v := v2) (lv' := [(2, .int v2), (0, .ref (ad 0)), (1, .int x1)]) Fx.1 Fx.2.1 dX10_readLines_140 hl (k := 2) rfl ev2.symm (by decide) rfl (fun ls hl => ?_)
  refine lv_goto (tgt := 93) Fx.1 Fx.2.1 dX10_readLines_143 (by decide) ?_
  exact hK93 _ hf _ _ _ (lv_sub hl [1, 2, 0] rfl) hC
noncomputable def p_M_readLines_J132 (K12 : (Int32 × sG × sF) → Option (sG × sF)) (K93 : (Int32 × Int32 × sG × sF) → Option (sG × sF)) (x1 : Int32) (x2 : Int32) (g : sG) (f : sF) : Option (sG × sF) := p_M_readLines_J137 K12 K93 x1 x2 (1 : Int32) g f
set_option maxRecDepth 100000 in
set_option maxHeartbeats 4000000 in
theorem s_M_readLines_J132 {K12 : (Int32 × sG × sF) → Option (sG × sF)} {K93 : (Int32 × Int32 × sG × sF) → Option (sG × sF)} {p : Program} {l : Launch} {e : Env} {s : State} {m : MethodId} {args : Array Value} {below : List Frame} {meth : Method} {c : Code} {Q : State → Prop} {D : va_G} {ad : Nat → Nat} {cy : Nat → ClassId} {A : Nat → Prop} {H0 : Heap} {u : sG × sF} (Fx : CallFix p m c cX10_readLines 3 s args (Cond.code yX10_readLines cX10_readLines 3 none :: wU) RX10) (hret : mRv p l e rm_M_readLines s m args below meth c Q D (mT cy) (mW ad cy) A H0 cX10_readLines u) (hK12 : ∀ (z : Int32 × sG × sF), K12 z = some u → ∀ (ls : Array Slot) (H : Heap) (locs : List Loc), lv_has ls 3 [(0, .ref (ad 0)), (1, .int z.1)] → wH D (mT cy) (mW ad cy) A H0 s z.2.1 z.2.2 H locs → W p l e rm_M_readLines s m args below meth c H locs 0 0 Q (F0 m 12 ls [])) (hK93 : ∀ (z : Int32 × Int32 × sG × sF), K93 z = some u → ∀ (ls : Array Slot) (H : Heap) (locs : List Loc), lv_has ls 3 [(0, .ref (ad 0)), (1, .int z.1), (2, .int z.2.1)] → wH D (mT cy) (mW ad cy) A H0 s z.2.2.1 z.2.2.2 H locs → W p l e rm_M_readLines s m args below meth c H locs 0 0 Q (F0 m 93 ls [])) (x1 : Int32) (x2 : Int32) (g : sG) (f : sF) (hf : p_M_readLines_J132 K12 K93 x1 x2 g f = some u) : ∀ (ls : Array Slot) (H : Heap) (locs : List Loc), lv_has ls 3 [(0, .ref (ad 0)), (1, .int x1), (2, .int x2)] → wH D (mT cy) (mW ad cy) A H0 s g f H locs → W p l e rm_M_readLines s m args below meth c H locs 0 0 Q (F0 m 132 ls [.ref (ad 0)]) := by
  intro ls H locs hl hC
  unfold p_M_readLines_J132 at hf
  refine lv_iconst (v := (1 : Int32)) Fx.1 Fx.2.1 dX10_readLines_132 (by decide) ?_
  refine lv_goto (tgt := 137) Fx.1 Fx.2.1 dX10_readLines_133 (by decide) ?_
  exact s_M_readLines_J137 Fx hret hK12 hK93 _ _ _ _ _  hf _ _ _ (lv_sub hl [0, 1, 2] rfl) hC
noncomputable def p_M_readLines_L93 (K12 : (Int32 × sG × sF) → Option (sG × sF)) (K93 : (Int32 × Int32 × sG × sF) → Option (sG × sF)) (x1 : Int32) (x2 : Int32) (g : sG) (f : sF) : Option (sG × sF) := (if (g 9) ≤ x2 then p_M_readLines_J146 K12 x1 g f else (if x1 ≤ 0 then p_M_readLines_J146 K12 x1 g f else (if (g 10) = 0 then Option.bind (p_M_look  g f) (fun u1 => (if u1 = (45 : Int32) then p_M_readLines_J132 K12 K93 x1 x2 g f else Option.bind (p_M_look  g f) (fun u2 => Option.bind (p_M_isFigure u2 g f) (fun u3 => (if u3 = 0 then p_M_readLines_J137 K12 K93 x1 x2 (0 : Int32) g f else p_M_readLines_J132 K12 K93 x1 x2 g f))))) else p_M_readLines_J146 K12 x1 g f)))
set_option maxRecDepth 100000 in
set_option maxHeartbeats 4000000 in
theorem s_M_readLines_L93 {K12 : (Int32 × sG × sF) → Option (sG × sF)} {K93 : (Int32 × Int32 × sG × sF) → Option (sG × sF)} {p : Program} {l : Launch} {e : Env} {s : State} {m : MethodId} {args : Array Value} {below : List Frame} {meth : Method} {c : Code} {Q : State → Prop} {D : va_G} {ad : Nat → Nat} {cy : Nat → ClassId} {A : Nat → Prop} {H0 : Heap} {u : sG × sF} (Fx : CallFix p m c cX10_readLines 3 s args (Cond.code yX10_readLines cX10_readLines 3 none :: wU) RX10) (hret : mRv p l e rm_M_readLines s m args below meth c Q D (mT cy) (mW ad cy) A H0 cX10_readLines u) (hK12 : ∀ (z : Int32 × sG × sF), K12 z = some u → ∀ (ls : Array Slot) (H : Heap) (locs : List Loc), lv_has ls 3 [(0, .ref (ad 0)), (1, .int z.1)] → wH D (mT cy) (mW ad cy) A H0 s z.2.1 z.2.2 H locs → W p l e rm_M_readLines s m args below meth c H locs 0 0 Q (F0 m 12 ls [])) (hK93 : ∀ (z : Int32 × Int32 × sG × sF), K93 z = some u → ∀ (ls : Array Slot) (H : Heap) (locs : List Loc), lv_has ls 3 [(0, .ref (ad 0)), (1, .int z.1), (2, .int z.2.1)] → wH D (mT cy) (mW ad cy) A H0 s z.2.2.1 z.2.2.2 H locs → W p l e rm_M_readLines s m args below meth c H locs 0 0 Q (F0 m 93 ls [])) (x1 : Int32) (x2 : Int32) (g : sG) (f : sF) (hf : p_M_readLines_L93 K12 K93 x1 x2 g f = some u) : ∀ (ls : Array Slot) (H : Heap) (locs : List Loc), lv_has ls 3 [(0, .ref (ad 0)), (1, .int x1), (2, .int x2)] → wH D (mT cy) (mW ad cy) A H0 s g f H locs → W p l e rm_M_readLines s m args below meth c H locs 0 0 Q (F0 m 93 ls []) := by
  intro ls H locs hl hC
  unfold p_M_readLines_L93 at hf
  refine lv_iload_n Fx.1 Fx.2.1 dX10_readLines_93 rfl (lv_at hl 2 rfl) ?_
  refine lv_aload_n Fx.1 Fx.2.1 dX10_readLines_94 rfl (lv_at hl 0 rfl) ?_
  refine gg_M_columns Fx hC wd_616 dX10_readLines_95 ?_
  refine lv_icmp_ge (tgt := 146) Fx.1 Fx.2.1 dX10_readLines_98 (by decide) (fun hc => ?_) (fun hc => ?_)
  · replace hf := ift hc hf
    exact s_M_readLines_J146 Fx hret hK12 _ _ _  hf _ _ _ (lv_sub hl [0, 1] rfl) hC
  · replace hf := iff_ hc hf
    refine lv_iload_n Fx.1 Fx.2.1 dX10_readLines_101 rfl (lv_at hl 1 rfl) ?_
    refine lv_if_le (tgt := 146) Fx.1 Fx.2.1 dX10_readLines_102 (by decide) (fun hc => ?_) (fun hc => ?_)
    · replace hf := ift hc hf
      exact s_M_readLines_J146 Fx hret hK12 _ _ _  hf _ _ _ (lv_sub hl [0, 1] rfl) hC
    · replace hf := iff_ hc hf
      refine lv_aload_n Fx.1 Fx.2.1 dX10_readLines_105 rfl (lv_at hl 0 rfl) ?_
      refine gg_M_fault Fx hC wd_617 dX10_readLines_106 ?_
      refine lv_if_ne (tgt := 146) Fx.1 Fx.2.1 dX10_readLines_109 (by decide) (fun hc => ?_) (fun hc => ?_)
      · replace hf := iff_ hc hf
        exact s_M_readLines_J146 Fx hret hK12 _ _ _  hf _ _ _ (lv_sub hl [0, 1] rfl) hC
      · replace hf := ift hc hf
        refine lv_aload_n Fx.1 Fx.2.1 dX10_readLines_112 rfl (lv_at hl 0 rfl) ?_
        refine lv_aload_n Fx.1 Fx.2.1 dX10_readLines_113 rfl (lv_at hl 0 rfl) ?_
        obtain ⟨u1, hu1, hf⟩ := bd_e hf
        refine ca_i (As := []) (rest := [.ref (ad 0)]) Fx hC (k_M_look hu1) (cVU 0 Fx.2.2.2.2 wd_812 wd_813 wd_899 wd_10 wd_814 rfl rfl hd_M_look ⟨Nat.le_of_ble_eq_true rfl, Nat.le_of_ble_eq_true rfl⟩) 0 rfl rfl rfl hl.1 rfl (Nat.le_of_ble_eq_true rfl) dX10_readLines_114 (fun H locs hC => ?_)
        refine lv_bipush (v := (45 : Int32)) Fx.1 Fx.2.1 dX10_readLines_117 (by decide) ?_
        refine lv_icmp_eq (tgt := 132) Fx.1 Fx.2.1 dX10_readLines_119 (by decide) (fun hc => ?_) (fun hc => ?_)
        · replace hf := ift hc hf
          exact s_M_readLines_J132 Fx hret hK12 hK93 _ _ _ _  hf _ _ _ (lv_sub hl [0, 1, 2] rfl) hC
        · replace hf := iff_ hc hf
          refine lv_aload_n Fx.1 Fx.2.1 dX10_readLines_122 rfl (lv_at hl 0 rfl) ?_
          obtain ⟨u2, hu2, hf⟩ := bd_e hf
          refine ca_i (As := []) (rest := [.ref (ad 0)]) Fx hC (k_M_look hu2) (cVU 0 Fx.2.2.2.2 wd_812 wd_813 wd_899 wd_10 wd_814 rfl rfl hd_M_look ⟨Nat.le_of_ble_eq_true rfl, Nat.le_of_ble_eq_true rfl⟩) 0 rfl rfl rfl hl.1 rfl (Nat.le_of_ble_eq_true rfl) dX10_readLines_123 (fun H locs hC => ?_)
          obtain ⟨u3, hu3, hf⟩ := bd_e hf
          refine ca_s (As := [.int u2]) (rest := [.ref (ad 0)]) Fx hC (k_M_isFigure hu3) (cSU 1 Fx.2.2.2.2 wd_821 wd_822 wd_10 wd_823 rfl rfl hd_M_isFigure ⟨Nat.le_of_ble_eq_true rfl, Nat.le_of_ble_eq_true rfl⟩) rfl hl.1 rfl (Nat.le_of_ble_eq_true rfl) dX10_readLines_126 (fun H locs hC => ?_)
          refine lv_if_eq (tgt := 136) Fx.1 Fx.2.1 dX10_readLines_129 (by decide) (fun hc => ?_) (fun hc => ?_)
          · replace hf := ift hc hf
            refine lv_iconst (v := (0 : Int32)) Fx.1 Fx.2.1 dX10_readLines_136 (by decide) ?_
            exact s_M_readLines_J137 Fx hret hK12 hK93 _ _ _ _ _  hf _ _ _ (lv_sub hl [0, 1, 2] rfl) hC
          · replace hf := iff_ hc hf
            exact s_M_readLines_J132 Fx hret hK12 hK93 _ _ _ _  hf _ _ _ (lv_sub hl [0, 1, 2] rfl) hC
set_option maxRecDepth 100000 in
set_option maxHeartbeats 4000000 in
theorem t_M_readLines_L93 {K12 : (Int32 × sG × sF) → Option (sG × sF)} {p : Program} {l : Launch} {e : Env} {s : State} {m : MethodId} {args : Array Value} {below : List Frame} {meth : Method} {c : Code} {Q : State → Prop} {D : va_G} {ad : Nat → Nat} {cy : Nat → ClassId} {A : Nat → Prop} {H0 : Heap} {u : sG × sF} (Fx : CallFix p m c cX10_readLines 3 s args (Cond.code yX10_readLines cX10_readLines 3 none :: wU) RX10) (hret : mRv p l e rm_M_readLines s m args below meth c Q D (mT cy) (mW ad cy) A H0 cX10_readLines u) (hK12 : ∀ (z : Int32 × sG × sF), K12 z = some u → ∀ (ls : Array Slot) (H : Heap) (locs : List Loc), lv_has ls 3 [(0, .ref (ad 0)), (1, .int z.1)] → wH D (mT cy) (mW ad cy) A H0 s z.2.1 z.2.2 H locs → W p l e rm_M_readLines s m args below meth c H locs 0 0 Q (F0 m 12 ls [])) (n : Nat) (z : Int32 × Int32 × sG × sF) (hz : itr (fun K z => p_M_readLines_L93 K12 K z.1 z.2.1 z.2.2.1 z.2.2.2) n z = some u) : ∀ (ls : Array Slot) (H : Heap) (locs : List Loc), lv_has ls 3 [(0, .ref (ad 0)), (1, .int z.1), (2, .int z.2.1)] → wH D (mT cy) (mW ad cy) A H0 s z.2.2.1 z.2.2.2 H locs → W p l e rm_M_readLines s m args below meth c H locs 0 0 Q (F0 m 93 ls []) :=
  itr_all (B := fun K z => p_M_readLines_L93 K12 K z.1 z.2.1 z.2.2.1 z.2.2.2) (r := u) (fun z => ∀ (ls : Array Slot) (H : Heap) (locs : List Loc), lv_has ls 3 [(0, .ref (ad 0)), (1, .int z.1), (2, .int z.2.1)] → wH D (mT cy) (mW ad cy) A H0 s z.2.2.1 z.2.2.2 H locs → W p l e rm_M_readLines s m args below meth c H locs 0 0 Q (F0 m 93 ls [])) (fun K hK z h => s_M_readLines_L93 (K93 := K) Fx hret hK12 hK z.1 z.2.1 z.2.2.1 z.2.2.2 h) n z hz
noncomputable def p_M_readLines_J68 (K12 : (Int32 × sG × sF) → Option (sG × sF)) (K49 : (Int32 × sG × sF) → Option (sG × sF)) (x1 : Int32) (g : sG) (f : sF) : Option (sG × sF) := lt_ (upd g 9 ((g 9) + (1 : Int32))) (fun g1 => lt_ (upd g1 8 ((g1 8) + (1 : Int32))) (fun g2 => K49 (x1, g2, f)))
set_option maxRecDepth 100000 in
set_option maxHeartbeats 4000000 in
theorem s_M_readLines_J68 {K12 : (Int32 × sG × sF) → Option (sG × sF)} {K49 : (Int32 × sG × sF) → Option (sG × sF)} {p : Program} {l : Launch} {e : Env} {s : State} {m : MethodId} {args : Array Value} {below : List Frame} {meth : Method} {c : Code} {Q : State → Prop} {D : va_G} {ad : Nat → Nat} {cy : Nat → ClassId} {A : Nat → Prop} {H0 : Heap} {u : sG × sF} (Fx : CallFix p m c cX10_readLines 3 s args (Cond.code yX10_readLines cX10_readLines 3 none :: wU) RX10) (hret : mRv p l e rm_M_readLines s m args below meth c Q D (mT cy) (mW ad cy) A H0 cX10_readLines u) (hK12 : ∀ (z : Int32 × sG × sF), K12 z = some u → ∀ (ls : Array Slot) (H : Heap) (locs : List Loc), lv_has ls 3 [(0, .ref (ad 0)), (1, .int z.1)] → wH D (mT cy) (mW ad cy) A H0 s z.2.1 z.2.2 H locs → W p l e rm_M_readLines s m args below meth c H locs 0 0 Q (F0 m 12 ls [])) (hK49 : ∀ (z : Int32 × sG × sF), K49 z = some u → ∀ (ls : Array Slot) (H : Heap) (locs : List Loc), lv_has ls 3 [(0, .ref (ad 0)), (1, .int z.1)] → wH D (mT cy) (mW ad cy) A H0 s z.2.1 z.2.2 H locs → W p l e rm_M_readLines s m args below meth c H locs 0 0 Q (F0 m 49 ls [])) (x1 : Int32) (g : sG) (f : sF) (hf : p_M_readLines_J68 K12 K49 x1 g f = some u) : ∀ (ls : Array Slot) (H : Heap) (locs : List Loc), lv_has ls 3 [(0, .ref (ad 0)), (1, .int x1)] → wH D (mT cy) (mW ad cy) A H0 s g f H locs → W p l e rm_M_readLines s m args below meth c H locs 0 0 Q (F0 m 68 ls []) := by
  intro ls H locs hl hC
  unfold p_M_readLines_J68 at hf
  refine lv_aload_n Fx.1 Fx.2.1 dX10_readLines_68 rfl (lv_at hl 0 rfl) ?_
  refine lv_dup Fx.1 Fx.2.1 dX10_readLines_69 rfl ?_
  refine gg_M_columns Fx hC wd_616 dX10_readLines_70 ?_
  refine lv_iconst (v := (1 : Int32)) Fx.1 Fx.2.1 dX10_readLines_73 (by decide) ?_
  refine lv_iadd Fx.1 Fx.2.1 dX10_readLines_74 ?_
  obtain ⟨g1, eg1, hf⟩ := lt_e hf
  refine gp_M_columns Fx hC wd_616 eg1 dX10_readLines_75 (fun H locs hC => ?_)
  refine lv_aload_n Fx.1 Fx.2.1 dX10_readLines_78 rfl (lv_at hl 0 rfl) ?_
  refine lv_dup Fx.1 Fx.2.1 dX10_readLines_79 rfl ?_
  refine gg_M_at Fx hC wd_615 dX10_readLines_80 ?_
  refine lv_iconst (v := (1 : Int32)) Fx.1 Fx.2.1 dX10_readLines_83 (by decide) ?_
  refine lv_iadd Fx.1 Fx.2.1 dX10_readLines_84 ?_
  obtain ⟨g2, eg2, hf⟩ := lt_e hf
  refine gp_M_at Fx hC wd_615 eg2 dX10_readLines_85 (fun H locs hC => ?_)
  refine lv_goto (tgt := 49) Fx.1 Fx.2.1 dX10_readLines_88 (by decide) ?_
  exact hK49 _ hf _ _ _ (lv_sub hl [0, 1] rfl) hC
noncomputable def p_M_readLines_L49 (K12 : (Int32 × sG × sF) → Option (sG × sF)) (K49 : (Int32 × sG × sF) → Option (sG × sF)) (x1 : Int32) (g : sG) (f : sF) : Option (sG × sF) := Option.bind (p_M_look  g f) (fun u1 => (if u1 = (45 : Int32) then p_M_readLines_J68 K12 K49 x1 g f else Option.bind (p_M_look  g f) (fun u2 => Option.bind (p_M_isFigure u2 g f) (fun u3 => (if u3 = 0 then itr (fun K z => p_M_readLines_L93 K12 K z.1 z.2.1 z.2.2.1 z.2.2.2) FUEL (x1, (0 : Int32), g, f) else p_M_readLines_J68 K12 K49 x1 g f)))))
set_option maxRecDepth 100000 in
set_option maxHeartbeats 4000000 in
theorem s_M_readLines_L49 {K12 : (Int32 × sG × sF) → Option (sG × sF)} {K49 : (Int32 × sG × sF) → Option (sG × sF)} {p : Program} {l : Launch} {e : Env} {s : State} {m : MethodId} {args : Array Value} {below : List Frame} {meth : Method} {c : Code} {Q : State → Prop} {D : va_G} {ad : Nat → Nat} {cy : Nat → ClassId} {A : Nat → Prop} {H0 : Heap} {u : sG × sF} (Fx : CallFix p m c cX10_readLines 3 s args (Cond.code yX10_readLines cX10_readLines 3 none :: wU) RX10) (hret : mRv p l e rm_M_readLines s m args below meth c Q D (mT cy) (mW ad cy) A H0 cX10_readLines u) (hK12 : ∀ (z : Int32 × sG × sF), K12 z = some u → ∀ (ls : Array Slot) (H : Heap) (locs : List Loc), lv_has ls 3 [(0, .ref (ad 0)), (1, .int z.1)] → wH D (mT cy) (mW ad cy) A H0 s z.2.1 z.2.2 H locs → W p l e rm_M_readLines s m args below meth c H locs 0 0 Q (F0 m 12 ls [])) (hK49 : ∀ (z : Int32 × sG × sF), K49 z = some u → ∀ (ls : Array Slot) (H : Heap) (locs : List Loc), lv_has ls 3 [(0, .ref (ad 0)), (1, .int z.1)] → wH D (mT cy) (mW ad cy) A H0 s z.2.1 z.2.2 H locs → W p l e rm_M_readLines s m args below meth c H locs 0 0 Q (F0 m 49 ls [])) (x1 : Int32) (g : sG) (f : sF) (hf : p_M_readLines_L49 K12 K49 x1 g f = some u) : ∀ (ls : Array Slot) (H : Heap) (locs : List Loc), lv_has ls 3 [(0, .ref (ad 0)), (1, .int x1)] → wH D (mT cy) (mW ad cy) A H0 s g f H locs → W p l e rm_M_readLines s m args below meth c H locs 0 0 Q (F0 m 49 ls []) := by
  intro ls H locs hl hC
  unfold p_M_readLines_L49 at hf
  refine lv_aload_n Fx.1 Fx.2.1 dX10_readLines_49 rfl (lv_at hl 0 rfl) ?_
  obtain ⟨u1, hu1, hf⟩ := bd_e hf
  refine ca_i (As := []) (rest := []) Fx hC (k_M_look hu1) (cVU 0 Fx.2.2.2.2 wd_812 wd_813 wd_899 wd_10 wd_814 rfl rfl hd_M_look ⟨Nat.le_of_ble_eq_true rfl, Nat.le_of_ble_eq_true rfl⟩) 0 rfl rfl rfl hl.1 rfl (Nat.le_of_ble_eq_true rfl) dX10_readLines_50 (fun H locs hC => ?_)
  refine lv_bipush (v := (45 : Int32)) Fx.1 Fx.2.1 dX10_readLines_53 (by decide) ?_
  refine lv_icmp_eq (tgt := 68) Fx.1 Fx.2.1 dX10_readLines_55 (by decide) (fun hc => ?_) (fun hc => ?_)
  · replace hf := ift hc hf
    exact s_M_readLines_J68 Fx hret hK12 hK49 _ _ _  hf _ _ _ (lv_sub hl [0, 1] rfl) hC
  · replace hf := iff_ hc hf
    refine lv_aload_n Fx.1 Fx.2.1 dX10_readLines_58 rfl (lv_at hl 0 rfl) ?_
    obtain ⟨u2, hu2, hf⟩ := bd_e hf
    refine ca_i (As := []) (rest := []) Fx hC (k_M_look hu2) (cVU 0 Fx.2.2.2.2 wd_812 wd_813 wd_899 wd_10 wd_814 rfl rfl hd_M_look ⟨Nat.le_of_ble_eq_true rfl, Nat.le_of_ble_eq_true rfl⟩) 0 rfl rfl rfl hl.1 rfl (Nat.le_of_ble_eq_true rfl) dX10_readLines_59 (fun H locs hC => ?_)
    obtain ⟨u3, hu3, hf⟩ := bd_e hf
    refine ca_s (As := [.int u2]) (rest := []) Fx hC (k_M_isFigure hu3) (cSU 1 Fx.2.2.2.2 wd_821 wd_822 wd_10 wd_823 rfl rfl hd_M_isFigure ⟨Nat.le_of_ble_eq_true rfl, Nat.le_of_ble_eq_true rfl⟩) rfl hl.1 rfl (Nat.le_of_ble_eq_true rfl) dX10_readLines_62 (fun H locs hC => ?_)
    refine lv_if_eq (tgt := 91) Fx.1 Fx.2.1 dX10_readLines_65 (by decide) (fun hc => ?_) (fun hc => ?_)
    · replace hf := ift hc hf
      refine lv_iconst (v := (0 : Int32)) Fx.1 Fx.2.1 dX10_readLines_91 (by decide) ?_
      refine lv_istore_n (lv' := [(2, .int (0 : Int32)), (0, .ref (ad 0)), (1, .int x1)]) Fx.1 Fx.2.1 dX10_readLines_92 rfl hl (by decide) rfl (fun ls hl => ?_)
      exact t_M_readLines_L93 Fx hret hK12 _ _ hf _ _ _ (lv_sub hl [1, 2, 0] rfl) hC
    · replace hf := iff_ hc hf
      exact s_M_readLines_J68 Fx hret hK12 hK49 _ _ _  hf _ _ _ (lv_sub hl [0, 1] rfl) hC
set_option maxRecDepth 100000 in
set_option maxHeartbeats 4000000 in
theorem t_M_readLines_L49 {K12 : (Int32 × sG × sF) → Option (sG × sF)} {p : Program} {l : Launch} {e : Env} {s : State} {m : MethodId} {args : Array Value} {below : List Frame} {meth : Method} {c : Code} {Q : State → Prop} {D : va_G} {ad : Nat → Nat} {cy : Nat → ClassId} {A : Nat → Prop} {H0 : Heap} {u : sG × sF} (Fx : CallFix p m c cX10_readLines 3 s args (Cond.code yX10_readLines cX10_readLines 3 none :: wU) RX10) (hret : mRv p l e rm_M_readLines s m args below meth c Q D (mT cy) (mW ad cy) A H0 cX10_readLines u) (hK12 : ∀ (z : Int32 × sG × sF), K12 z = some u → ∀ (ls : Array Slot) (H : Heap) (locs : List Loc), lv_has ls 3 [(0, .ref (ad 0)), (1, .int z.1)] → wH D (mT cy) (mW ad cy) A H0 s z.2.1 z.2.2 H locs → W p l e rm_M_readLines s m args below meth c H locs 0 0 Q (F0 m 12 ls [])) (n : Nat) (z : Int32 × sG × sF) (hz : itr (fun K z => p_M_readLines_L49 K12 K z.1 z.2.1 z.2.2) n z = some u) : ∀ (ls : Array Slot) (H : Heap) (locs : List Loc), lv_has ls 3 [(0, .ref (ad 0)), (1, .int z.1)] → wH D (mT cy) (mW ad cy) A H0 s z.2.1 z.2.2 H locs → W p l e rm_M_readLines s m args below meth c H locs 0 0 Q (F0 m 49 ls []) :=
  itr_all (B := fun K z => p_M_readLines_L49 K12 K z.1 z.2.1 z.2.2) (r := u) (fun z => ∀ (ls : Array Slot) (H : Heap) (locs : List Loc), lv_has ls 3 [(0, .ref (ad 0)), (1, .int z.1)] → wH D (mT cy) (mW ad cy) A H0 s z.2.1 z.2.2 H locs → W p l e rm_M_readLines s m args below meth c H locs 0 0 Q (F0 m 49 ls [])) (fun K hK z h => s_M_readLines_L49 (K49 := K) Fx hret hK12 hK z.1 z.2.1 z.2.2 h) n z hz
noncomputable def p_M_readLines_J42 (K12 : (Int32 × sG × sF) → Option (sG × sF)) (x1 : Int32) (y0 : Int32) (g : sG) (f : sF) : Option (sG × sF) := Option.bind (p_M_wants y0 g f) (fun u1 => (if x1 = 0 then itr (fun K z => p_M_readLines_L49 K12 K z.1 z.2.1 z.2.2) FUEL (x1, u1.1, u1.2) else itr (fun K z => p_M_readLines_L93 K12 K z.1 z.2.1 z.2.2.1 z.2.2.2) FUEL (x1, (0 : Int32), u1.1, u1.2)))
set_option maxRecDepth 100000 in
set_option maxHeartbeats 4000000 in
theorem s_M_readLines_J42 {K12 : (Int32 × sG × sF) → Option (sG × sF)} {p : Program} {l : Launch} {e : Env} {s : State} {m : MethodId} {args : Array Value} {below : List Frame} {meth : Method} {c : Code} {Q : State → Prop} {D : va_G} {ad : Nat → Nat} {cy : Nat → ClassId} {A : Nat → Prop} {H0 : Heap} {u : sG × sF} (Fx : CallFix p m c cX10_readLines 3 s args (Cond.code yX10_readLines cX10_readLines 3 none :: wU) RX10) (hret : mRv p l e rm_M_readLines s m args below meth c Q D (mT cy) (mW ad cy) A H0 cX10_readLines u) (hK12 : ∀ (z : Int32 × sG × sF), K12 z = some u → ∀ (ls : Array Slot) (H : Heap) (locs : List Loc), lv_has ls 3 [(0, .ref (ad 0)), (1, .int z.1)] → wH D (mT cy) (mW ad cy) A H0 s z.2.1 z.2.2 H locs → W p l e rm_M_readLines s m args below meth c H locs 0 0 Q (F0 m 12 ls [])) (x1 : Int32) (y0 : Int32) (g : sG) (f : sF) (hf : p_M_readLines_J42 K12 x1 y0 g f = some u) : ∀ (ls : Array Slot) (H : Heap) (locs : List Loc), lv_has ls 3 [(0, .ref (ad 0)), (1, .int x1)] → wH D (mT cy) (mW ad cy) A H0 s g f H locs → W p l e rm_M_readLines s m args below meth c H locs 0 0 Q (F0 m 42 ls [.int y0, .ref (ad 0)]) := by
  intro ls H locs hl hC
  unfold p_M_readLines_J42 at hf
  obtain ⟨u1, hu1, hf⟩ := bd_e hf
  refine ca_v (As := [.int y0]) (rest := []) Fx hC (k_M_wants hu1) (cVU 1 Fx.2.2.2.2 wd_815 wd_816 wd_900 wd_10 wd_817 rfl rfl hd_M_wants ⟨Nat.le_of_ble_eq_true rfl, Nat.le_of_ble_eq_true rfl⟩) 0 rfl rfl rfl hl.1 rfl (Nat.le_of_ble_eq_true rfl) dX10_readLines_42 (fun H locs hC => ?_)
  refine lv_iload_n Fx.1 Fx.2.1 dX10_readLines_45 rfl (lv_at hl 1 rfl) ?_
  refine lv_if_ne (tgt := 91) Fx.1 Fx.2.1 dX10_readLines_46 (by decide) (fun hc => ?_) (fun hc => ?_)
  · replace hf := iff_ hc hf
    refine lv_iconst (v := (0 : Int32)) Fx.1 Fx.2.1 dX10_readLines_91 (by decide) ?_
    refine lv_istore_n (lv' := [(2, .int (0 : Int32)), (0, .ref (ad 0)), (1, .int x1)]) Fx.1 Fx.2.1 dX10_readLines_92 rfl hl (by decide) rfl (fun ls hl => ?_)
    exact t_M_readLines_L93 Fx hret hK12 _ _ hf _ _ _ (lv_sub hl [1, 2, 0] rfl) hC
  · replace hf := ift hc hf
    exact t_M_readLines_L49 Fx hret hK12 _ _ hf _ _ _ (lv_sub hl [0, 1] rfl) hC
noncomputable def p_M_readLines_L12 (K12 : (Int32 × sG × sF) → Option (sG × sF)) (x1 : Int32) (g : sG) (f : sF) : Option (sG × sF) := (if (g 0) ≤ x1 then p_M_readLines_J202  g f else (if (g 10) = 0 then Option.bind (p_M_look  g f) (fun u1 => (if u1 = (124 : Int32) then p_M_readLines_J42 K12 x1 (1 : Int32) g f else p_M_readLines_J42 K12 x1 (0 : Int32) g f)) else p_M_readLines_J202  g f))
set_option maxRecDepth 100000 in
set_option maxHeartbeats 4000000 in
theorem s_M_readLines_L12 {K12 : (Int32 × sG × sF) → Option (sG × sF)} {p : Program} {l : Launch} {e : Env} {s : State} {m : MethodId} {args : Array Value} {below : List Frame} {meth : Method} {c : Code} {Q : State → Prop} {D : va_G} {ad : Nat → Nat} {cy : Nat → ClassId} {A : Nat → Prop} {H0 : Heap} {u : sG × sF} (Fx : CallFix p m c cX10_readLines 3 s args (Cond.code yX10_readLines cX10_readLines 3 none :: wU) RX10) (hret : mRv p l e rm_M_readLines s m args below meth c Q D (mT cy) (mW ad cy) A H0 cX10_readLines u) (hK12 : ∀ (z : Int32 × sG × sF), K12 z = some u → ∀ (ls : Array Slot) (H : Heap) (locs : List Loc), lv_has ls 3 [(0, .ref (ad 0)), (1, .int z.1)] → wH D (mT cy) (mW ad cy) A H0 s z.2.1 z.2.2 H locs → W p l e rm_M_readLines s m args below meth c H locs 0 0 Q (F0 m 12 ls [])) (x1 : Int32) (g : sG) (f : sF) (hf : p_M_readLines_L12 K12 x1 g f = some u) : ∀ (ls : Array Slot) (H : Heap) (locs : List Loc), lv_has ls 3 [(0, .ref (ad 0)), (1, .int x1)] → wH D (mT cy) (mW ad cy) A H0 s g f H locs → W p l e rm_M_readLines s m args below meth c H locs 0 0 Q (F0 m 12 ls []) := by
  intro ls H locs hl hC
  unfold p_M_readLines_L12 at hf
  refine lv_iload_n Fx.1 Fx.2.1 dX10_readLines_12 rfl (lv_at hl 1 rfl) ?_
  refine lv_aload_n Fx.1 Fx.2.1 dX10_readLines_13 rfl (lv_at hl 0 rfl) ?_
  refine gg_M_strings Fx hC wd_590 dX10_readLines_14 ?_
  refine lv_icmp_ge (tgt := 202) Fx.1 Fx.2.1 dX10_readLines_17 (by decide) (fun hc => ?_) (fun hc => ?_)
  · replace hf := ift hc hf
    exact s_M_readLines_J202 Fx hret _ _  hf _ _ _ (lv_sub hl [0] rfl) hC
  · replace hf := iff_ hc hf
    refine lv_aload_n Fx.1 Fx.2.1 dX10_readLines_20 rfl (lv_at hl 0 rfl) ?_
    refine gg_M_fault Fx hC wd_617 dX10_readLines_21 ?_
    refine lv_if_ne (tgt := 202) Fx.1 Fx.2.1 dX10_readLines_24 (by decide) (fun hc => ?_) (fun hc => ?_)
    · replace hf := iff_ hc hf
      exact s_M_readLines_J202 Fx hret _ _  hf _ _ _ (lv_sub hl [0] rfl) hC
    · replace hf := ift hc hf
      refine lv_aload_n Fx.1 Fx.2.1 dX10_readLines_27 rfl (lv_at hl 0 rfl) ?_
      refine lv_aload_n Fx.1 Fx.2.1 dX10_readLines_28 rfl (lv_at hl 0 rfl) ?_
      obtain ⟨u1, hu1, hf⟩ := bd_e hf
      refine ca_i (As := []) (rest := [.ref (ad 0)]) Fx hC (k_M_look hu1) (cVU 0 Fx.2.2.2.2 wd_812 wd_813 wd_899 wd_10 wd_814 rfl rfl hd_M_look ⟨Nat.le_of_ble_eq_true rfl, Nat.le_of_ble_eq_true rfl⟩) 0 rfl rfl rfl hl.1 rfl (Nat.le_of_ble_eq_true rfl) dX10_readLines_29 (fun H locs hC => ?_)
      refine lv_bipush (v := (124 : Int32)) Fx.1 Fx.2.1 dX10_readLines_32 (by decide) ?_
      refine lv_icmp_ne (tgt := 41) Fx.1 Fx.2.1 dX10_readLines_34 (by decide) (fun hc => ?_) (fun hc => ?_)
      · replace hf := iff_ hc hf
        refine lv_iconst (v := (0 : Int32)) Fx.1 Fx.2.1 dX10_readLines_41 (by decide) ?_
        exact s_M_readLines_J42 Fx hret hK12 _ _ _ _  hf _ _ _ (lv_sub hl [0, 1] rfl) hC
      · replace hf := ift hc hf
        refine lv_iconst (v := (1 : Int32)) Fx.1 Fx.2.1 dX10_readLines_37 (by decide) ?_
        refine lv_goto (tgt := 42) Fx.1 Fx.2.1 dX10_readLines_38 (by decide) ?_
        exact s_M_readLines_J42 Fx hret hK12 _ _ _ _  hf _ _ _ (lv_sub hl [0, 1] rfl) hC
set_option maxRecDepth 100000 in
set_option maxHeartbeats 4000000 in
theorem t_M_readLines_L12 {p : Program} {l : Launch} {e : Env} {s : State} {m : MethodId} {args : Array Value} {below : List Frame} {meth : Method} {c : Code} {Q : State → Prop} {D : va_G} {ad : Nat → Nat} {cy : Nat → ClassId} {A : Nat → Prop} {H0 : Heap} {u : sG × sF} (Fx : CallFix p m c cX10_readLines 3 s args (Cond.code yX10_readLines cX10_readLines 3 none :: wU) RX10) (hret : mRv p l e rm_M_readLines s m args below meth c Q D (mT cy) (mW ad cy) A H0 cX10_readLines u)  (n : Nat) (z : Int32 × sG × sF) (hz : itr (fun K z => p_M_readLines_L12 K z.1 z.2.1 z.2.2) n z = some u) : ∀ (ls : Array Slot) (H : Heap) (locs : List Loc), lv_has ls 3 [(0, .ref (ad 0)), (1, .int z.1)] → wH D (mT cy) (mW ad cy) A H0 s z.2.1 z.2.2 H locs → W p l e rm_M_readLines s m args below meth c H locs 0 0 Q (F0 m 12 ls []) :=
  itr_all (B := fun K z => p_M_readLines_L12 K z.1 z.2.1 z.2.2) (r := u) (fun z => ∀ (ls : Array Slot) (H : Heap) (locs : List Loc), lv_has ls 3 [(0, .ref (ad 0)), (1, .int z.1)] → wH D (mT cy) (mW ad cy) A H0 s z.2.1 z.2.2 H locs → W p l e rm_M_readLines s m args below meth c H locs 0 0 Q (F0 m 12 ls [])) (fun K hK z h => s_M_readLines_L12 (K12 := K) Fx hret hK z.1 z.2.1 z.2.2 h) n z hz
noncomputable def p_M_readLines  (g : sG) (f : sF) : Option (sG × sF) := lt_ (upd g 8 (0 : Int32)) (fun g1 => lt_ (upd g1 9 (0 : Int32)) (fun g2 => itr (fun K z => p_M_readLines_L12 K z.1 z.2.1 z.2.2) FUEL ((0 : Int32), g2, f)))
set_option maxRecDepth 100000 in
set_option maxHeartbeats 4000000 in
theorem k_M_readLines {l : Launch} {D : va_G} {ad : Nat → Nat} {cy : Nat → ClassId}  {u : sG × sF} {g : sG} {f : sF} (hf : p_M_readLines  g f = some u) : mMv l yX10_readLines (Cond.code yX10_readLines cX10_readLines 3 none :: wU) rm_M_readLines D (mT cy) (mW ad cy) [.ref (ad 0)] g f u := by
  refine mk_v (by decide) rfl (Nat.le_of_ble_eq_true rfl) ?_
  intro p e s m below meth c Q A H0 Fx hret ls H locs hl hC
  replace hl : lv_has ls 3 [(0, .ref (ad 0))] := hl
  unfold p_M_readLines at hf
  refine lv_aload_n Fx.1 Fx.2.1 dX10_readLines_0 rfl (lv_at hl 0 rfl) ?_
  refine lv_iconst (v := (0 : Int32)) Fx.1 Fx.2.1 dX10_readLines_1 (by decide) ?_
  obtain ⟨g1, eg1, hf⟩ := lt_e hf
  refine gp_M_at Fx hC wd_615 eg1 dX10_readLines_2 (fun H locs hC => ?_)
  refine lv_aload_n Fx.1 Fx.2.1 dX10_readLines_5 rfl (lv_at hl 0 rfl) ?_
  refine lv_iconst (v := (0 : Int32)) Fx.1 Fx.2.1 dX10_readLines_6 (by decide) ?_
  obtain ⟨g2, eg2, hf⟩ := lt_e hf
  refine gp_M_columns Fx hC wd_616 eg2 dX10_readLines_7 (fun H locs hC => ?_)
  refine lv_iconst (v := (0 : Int32)) Fx.1 Fx.2.1 dX10_readLines_10 (by decide) ?_
  refine lv_istore_n (lv' := [(1, .int (0 : Int32)), (0, .ref (ad 0))]) Fx.1 Fx.2.1 dX10_readLines_11 rfl hl (by decide) rfl (fun ls hl => ?_)
  exact t_M_readLines_L12 Fx hret _ _ hf _ _ _ (lv_sub hl [1, 0] rfl) hC
/-! FretHandsModel.placeOf(II)I -/
abbrev rm_M_placeOf : Room := { frames := 0, cells := 0, slots := 0, locals := 0 }
theorem hd_M_placeOf : yX10_placeOf.cls = RX10 ∧ yX10_placeOf.cls ≠ "java/lang/invoke/MethodHandle" ∧ yX10_placeOf.cls ≠ "java/lang/invoke/VarHandle" ∧ (parseMethodDescriptor yX10_placeOf.desc).map (fun d => d.parameters.length) = some 2 := by decide +kernel
noncomputable def p_M_placeOf (a1 : Int32) (a2 : Int32) (g : sG) (f : sF) : Option (Int32) := some ((((((g 0) - (1 : Int32)) - a1) * ((g 9) + (3 : Int32))) + (1 : Int32)) + a2)
set_option maxRecDepth 100000 in
set_option maxHeartbeats 4000000 in
theorem k_M_placeOf {l : Launch} {D : va_G} {ad : Nat → Nat} {cy : Nat → ClassId} {a1 : Int32} {a2 : Int32} {r : Int32} {g : sG} {f : sF} (hf : p_M_placeOf a1 a2 g f = some r) : mMi l yX10_placeOf (Cond.code yX10_placeOf cX10_placeOf 3 (some .int) :: wU) rm_M_placeOf D (mT cy) (mW ad cy) [.ref (ad 0), .int a1, .int a2] g f (r, g, f) := by
  refine mk_i (by decide) rfl (Nat.le_of_ble_eq_true rfl) ?_
  intro p e s m below meth c Q A H0 Fx hret ls H locs hl hC
  replace hl : lv_has ls 3 [(0, .ref (ad 0)), (1, .int a1), (2, .int a2)] := hl
  unfold p_M_placeOf at hf
  refine lv_aload_n Fx.1 Fx.2.1 dX10_placeOf_0 rfl (lv_at hl 0 rfl) ?_
  refine gg_M_strings Fx hC wd_590 dX10_placeOf_1 ?_
  refine lv_iconst (v := (1 : Int32)) Fx.1 Fx.2.1 dX10_placeOf_4 (by decide) ?_
  refine lv_isub Fx.1 Fx.2.1 dX10_placeOf_5 ?_
  refine lv_iload_n Fx.1 Fx.2.1 dX10_placeOf_6 rfl (lv_at hl 1 rfl) ?_
  refine lv_isub Fx.1 Fx.2.1 dX10_placeOf_7 ?_
  refine lv_aload_n Fx.1 Fx.2.1 dX10_placeOf_8 rfl (lv_at hl 0 rfl) ?_
  refine gg_M_columns Fx hC wd_616 dX10_placeOf_9 ?_
  refine lv_iconst (v := (3 : Int32)) Fx.1 Fx.2.1 dX10_placeOf_12 (by decide) ?_
  refine lv_iadd Fx.1 Fx.2.1 dX10_placeOf_13 ?_
  refine lv_imul Fx.1 Fx.2.1 dX10_placeOf_14 ?_
  refine lv_iconst (v := (1 : Int32)) Fx.1 Fx.2.1 dX10_placeOf_15 (by decide) ?_
  refine lv_iadd Fx.1 Fx.2.1 dX10_placeOf_16 ?_
  refine lv_iload_n Fx.1 Fx.2.1 dX10_placeOf_17 rfl (lv_at hl 2 rfl) ?_
  refine lv_iadd Fx.1 Fx.2.1 dX10_placeOf_18 ?_
  obtain rfl := Option.some.inj hf
  exact hret _ _ _ _ dX10_placeOf_19 hC
/-! FretHandsModel.isFigureAt(II)Z -/
abbrev rm_M_isFigureAt : Room := { frames := 2, cells := 0, slots := 0, locals := 42 }
theorem hd_M_isFigureAt : yX10_isFigureAt.cls = RX10 ∧ yX10_isFigureAt.cls ≠ "java/lang/invoke/MethodHandle" ∧ yX10_isFigureAt.cls ≠ "java/lang/invoke/VarHandle" ∧ (parseMethodDescriptor yX10_isFigureAt.desc).map (fun d => d.parameters.length) = some 2 := by decide +kernel
noncomputable def p_M_isFigureAt (a1 : Int32) (a2 : Int32) (g : sG) (f : sF) : Option (Int32) := Option.bind (p_M_within a2 (0 : Int32) ((g 9) - (1 : Int32)) g f) (fun u1 => (if u1 = 0 then some (0 : Int32) else Option.bind (p_M_placeOf a1 a2 g f) (fun u2 => (if u2 < 0 ∨ 2000 ≤ u2.toNatClampNeg then none else Option.bind (p_M_isFigure (f 9 u2.toNatClampNeg) g f) (fun u4 => (if u4 = 0 then some (0 : Int32) else some (1 : Int32)))))))
set_option maxRecDepth 100000 in
set_option maxHeartbeats 4000000 in
theorem k_M_isFigureAt {l : Launch} {D : va_G} {ad : Nat → Nat} {cy : Nat → ClassId} {a1 : Int32} {a2 : Int32} {r : Int32} {g : sG} {f : sF} (hf : p_M_isFigureAt a1 a2 g f = some r) : mMi l yX10_isFigureAt (Cond.code yX10_isFigureAt cX10_isFigureAt 3 (some .boolean) :: wU) rm_M_isFigureAt D (mT cy) (mW ad cy) [.ref (ad 0), .int a1, .int a2] g f (r, g, f) := by
  refine mk_z (by decide) rfl (Nat.le_of_ble_eq_true rfl) ?_
  intro p e s m below meth c Q A H0 Fx hret ls H locs hl hC
  replace hl : lv_has ls 3 [(0, .ref (ad 0)), (1, .int a1), (2, .int a2)] := hl
  unfold p_M_isFigureAt at hf
  refine lv_iload_n Fx.1 Fx.2.1 dX10_isFigureAt_0 rfl (lv_at hl 2 rfl) ?_
  refine lv_iconst (v := (0 : Int32)) Fx.1 Fx.2.1 dX10_isFigureAt_1 (by decide) ?_
  refine lv_aload_n Fx.1 Fx.2.1 dX10_isFigureAt_2 rfl (lv_at hl 0 rfl) ?_
  refine gg_M_columns Fx hC wd_616 dX10_isFigureAt_3 ?_
  refine lv_iconst (v := (1 : Int32)) Fx.1 Fx.2.1 dX10_isFigureAt_6 (by decide) ?_
  refine lv_isub Fx.1 Fx.2.1 dX10_isFigureAt_7 ?_
  obtain ⟨u1, hu1, hf⟩ := bd_e hf
  refine ca_s (As := [.int a2, .int (0 : Int32), .int ((g 9) - (1 : Int32))]) (rest := []) Fx hC (k_M_within hu1) (cSU 3 Fx.2.2.2.2 wd_661 wd_662 wd_10 wd_663 rfl rfl hd_M_within ⟨Nat.le_of_ble_eq_true rfl, Nat.le_of_ble_eq_true rfl⟩) rfl hl.1 rfl (Nat.le_of_ble_eq_true rfl) dX10_isFigureAt_8 (fun H locs hC => ?_)
  refine lv_if_eq (tgt := 35) Fx.1 Fx.2.1 dX10_isFigureAt_11 (by decide) (fun hc => ?_) (fun hc => ?_)
  · replace hf := ift hc hf
    refine lv_iconst (v := (0 : Int32)) Fx.1 Fx.2.1 dX10_isFigureAt_35 (by decide) ?_
    obtain rfl := Option.some.inj hf
    exact hret _ _ _ _ dX10_isFigureAt_36 z01_0 hC
  · replace hf := iff_ hc hf
    refine lv_aload_n Fx.1 Fx.2.1 dX10_isFigureAt_14 rfl (lv_at hl 0 rfl) ?_
    refine gg_M_tape Fx hC wd_605 dX10_isFigureAt_15 ?_
    refine lv_aload_n Fx.1 Fx.2.1 dX10_isFigureAt_18 rfl (lv_at hl 0 rfl) ?_
    refine lv_iload_n Fx.1 Fx.2.1 dX10_isFigureAt_19 rfl (lv_at hl 1 rfl) ?_
    refine lv_iload_n Fx.1 Fx.2.1 dX10_isFigureAt_20 rfl (lv_at hl 2 rfl) ?_
    obtain ⟨u2, hu2, hf⟩ := bd_e hf
    refine ca_i (As := [.int a1, .int a2]) (rest := [.ref (ad 10)]) Fx hC (k_M_placeOf hu2) (cVU 2 Fx.2.2.2.2 wd_833 wd_834 wd_905 wd_10 wd_835 rfl rfl hd_M_placeOf ⟨Nat.le_of_ble_eq_true rfl, Nat.le_of_ble_eq_true rfl⟩) 0 rfl rfl rfl hl.1 rfl (Nat.le_of_ble_eq_true rfl) dX10_isFigureAt_21 (fun H locs hC => ?_)
    obtain ⟨hi3, hf⟩ := gd_e hf
    refine ld_M_tape Fx hC hi3 dX10_isFigureAt_24 ?_
    obtain ⟨u4, hu4, hf⟩ := bd_e hf
    refine ca_s (As := [.int (f 9 u2.toNatClampNeg)]) (rest := []) Fx hC (k_M_isFigure hu4) (cSU 1 Fx.2.2.2.2 wd_821 wd_822 wd_10 wd_823 rfl rfl hd_M_isFigure ⟨Nat.le_of_ble_eq_true rfl, Nat.le_of_ble_eq_true rfl⟩) rfl hl.1 rfl (Nat.le_of_ble_eq_true rfl) dX10_isFigureAt_25 (fun H locs hC => ?_)
    refine lv_if_eq (tgt := 35) Fx.1 Fx.2.1 dX10_isFigureAt_28 (by decide) (fun hc => ?_) (fun hc => ?_)
    · replace hf := ift hc hf
      refine lv_iconst (v := (0 : Int32)) Fx.1 Fx.2.1 dX10_isFigureAt_35 (by decide) ?_
      obtain rfl := Option.some.inj hf
      exact hret _ _ _ _ dX10_isFigureAt_36 z01_0 hC
    · replace hf := iff_ hc hf
      refine lv_iconst (v := (1 : Int32)) Fx.1 Fx.2.1 dX10_isFigureAt_31 (by decide) ?_
      refine lv_goto (tgt := 36) Fx.1 Fx.2.1 dX10_isFigureAt_32 (by decide) ?_
      obtain rfl := Option.some.inj hf
      exact hret _ _ _ _ dX10_isFigureAt_36 z01_1 hC
/-! FretHandsModel.begins(II)Z -/
abbrev rm_M_begins : Room := { frames := 3, cells := 0, slots := 0, locals := 64 }
theorem hd_M_begins : yX10_begins.cls = RX10 ∧ yX10_begins.cls ≠ "java/lang/invoke/MethodHandle" ∧ yX10_begins.cls ≠ "java/lang/invoke/VarHandle" ∧ (parseMethodDescriptor yX10_begins.desc).map (fun d => d.parameters.length) = some 2 := by decide +kernel
noncomputable def p_M_begins (a1 : Int32) (a2 : Int32) (g : sG) (f : sF) : Option (Int32) := Option.bind (p_M_isFigureAt a1 a2 g f) (fun u1 => (if u1 = 0 then some (0 : Int32) else Option.bind (p_M_isFigureAt a1 (a2 - (1 : Int32)) g f) (fun u2 => (if u2 = 0 then some (1 : Int32) else some (0 : Int32)))))
set_option maxRecDepth 100000 in
set_option maxHeartbeats 4000000 in
theorem k_M_begins {l : Launch} {D : va_G} {ad : Nat → Nat} {cy : Nat → ClassId} {a1 : Int32} {a2 : Int32} {r : Int32} {g : sG} {f : sF} (hf : p_M_begins a1 a2 g f = some r) : mMi l yX10_begins (Cond.code yX10_begins cX10_begins 3 (some .boolean) :: wU) rm_M_begins D (mT cy) (mW ad cy) [.ref (ad 0), .int a1, .int a2] g f (r, g, f) := by
  refine mk_z (by decide) rfl (Nat.le_of_ble_eq_true rfl) ?_
  intro p e s m below meth c Q A H0 Fx hret ls H locs hl hC
  replace hl : lv_has ls 3 [(0, .ref (ad 0)), (1, .int a1), (2, .int a2)] := hl
  unfold p_M_begins at hf
  refine lv_aload_n Fx.1 Fx.2.1 dX10_begins_0 rfl (lv_at hl 0 rfl) ?_
  refine lv_iload_n Fx.1 Fx.2.1 dX10_begins_1 rfl (lv_at hl 1 rfl) ?_
  refine lv_iload_n Fx.1 Fx.2.1 dX10_begins_2 rfl (lv_at hl 2 rfl) ?_
  obtain ⟨u1, hu1, hf⟩ := bd_e hf
  refine ca_i (As := [.int a1, .int a2]) (rest := []) Fx hC (k_M_isFigureAt hu1) (cVU 2 Fx.2.2.2.2 wd_830 wd_831 wd_904 wd_10 wd_832 rfl rfl hd_M_isFigureAt ⟨Nat.le_of_ble_eq_true rfl, Nat.le_of_ble_eq_true rfl⟩) 0 rfl rfl rfl hl.1 rfl (Nat.le_of_ble_eq_true rfl) dX10_begins_3 (fun H locs hC => ?_)
  refine lv_if_eq (tgt := 24) Fx.1 Fx.2.1 dX10_begins_6 (by decide) (fun hc => ?_) (fun hc => ?_)
  · replace hf := ift hc hf
    refine lv_iconst (v := (0 : Int32)) Fx.1 Fx.2.1 dX10_begins_24 (by decide) ?_
    obtain rfl := Option.some.inj hf
    exact hret _ _ _ _ dX10_begins_25 z01_0 hC
  · replace hf := iff_ hc hf
    refine lv_aload_n Fx.1 Fx.2.1 dX10_begins_9 rfl (lv_at hl 0 rfl) ?_
    refine lv_iload_n Fx.1 Fx.2.1 dX10_begins_10 rfl (lv_at hl 1 rfl) ?_
    refine lv_iload_n Fx.1 Fx.2.1 dX10_begins_11 rfl (lv_at hl 2 rfl) ?_
    refine lv_iconst (v := (1 : Int32)) Fx.1 Fx.2.1 dX10_begins_12 (by decide) ?_
    refine lv_isub Fx.1 Fx.2.1 dX10_begins_13 ?_
    obtain ⟨u2, hu2, hf⟩ := bd_e hf
    refine ca_i (As := [.int a1, .int (a2 - (1 : Int32))]) (rest := []) Fx hC (k_M_isFigureAt hu2) (cVU 2 Fx.2.2.2.2 wd_830 wd_831 wd_904 wd_10 wd_832 rfl rfl hd_M_isFigureAt ⟨Nat.le_of_ble_eq_true rfl, Nat.le_of_ble_eq_true rfl⟩) 0 rfl rfl rfl hl.1 rfl (Nat.le_of_ble_eq_true rfl) dX10_begins_14 (fun H locs hC => ?_)
    refine lv_if_ne (tgt := 24) Fx.1 Fx.2.1 dX10_begins_17 (by decide) (fun hc => ?_) (fun hc => ?_)
    · replace hf := iff_ hc hf
      refine lv_iconst (v := (0 : Int32)) Fx.1 Fx.2.1 dX10_begins_24 (by decide) ?_
      obtain rfl := Option.some.inj hf
      exact hret _ _ _ _ dX10_begins_25 z01_0 hC
    · replace hf := ift hc hf
      refine lv_iconst (v := (1 : Int32)) Fx.1 Fx.2.1 dX10_begins_20 (by decide) ?_
      refine lv_goto (tgt := 25) Fx.1 Fx.2.1 dX10_begins_21 (by decide) ?_
      obtain rfl := Option.some.inj hf
      exact hret _ _ _ _ dX10_begins_25 z01_1 hC
/-! FretHandsModel.lengthAt(II)I -/
abbrev rm_M_lengthAt : Room := { frames := 3, cells := 0, slots := 0, locals := 64 }
theorem hd_M_lengthAt : yX10_lengthAt.cls = RX10 ∧ yX10_lengthAt.cls ≠ "java/lang/invoke/MethodHandle" ∧ yX10_lengthAt.cls ≠ "java/lang/invoke/VarHandle" ∧ (parseMethodDescriptor yX10_lengthAt.desc).map (fun d => d.parameters.length) = some 2 := by decide +kernel
noncomputable def p_M_lengthAt_L2 (K2 : (Int32 × Int32 × Int32) → Option (Int32)) (x1 : Int32) (x2 : Int32) (x3 : Int32) (g : sG) (f : sF) : Option (Int32) := Option.bind (p_M_isFigureAt x1 (x2 + x3) g f) (fun u1 => (if u1 = 0 then some x3 else lt_ (x3 + (1 : Int32)) (fun v2 => K2 (x1, x2, v2))))
set_option maxRecDepth 100000 in
set_option maxHeartbeats 4000000 in
theorem s_M_lengthAt_L2 {K2 : (Int32 × Int32 × Int32) → Option (Int32)} {p : Program} {l : Launch} {e : Env} {s : State} {m : MethodId} {args : Array Value} {below : List Frame} {meth : Method} {c : Code} {Q : State → Prop} {D : va_G} {ad : Nat → Nat} {cy : Nat → ClassId} {A : Nat → Prop} {H0 : Heap} {r : Int32} {g : sG} {f : sF} (Fx : CallFix p m c cX10_lengthAt 4 s args (Cond.code yX10_lengthAt cX10_lengthAt 4 (some .int) :: wU) RX10) (hret : mRi p l e rm_M_lengthAt s m args below meth c Q D (mT cy) (mW ad cy) A H0 cX10_lengthAt (r, g, f)) (hK2 : ∀ (z : Int32 × Int32 × Int32), K2 z = some r → ∀ (ls : Array Slot) (H : Heap) (locs : List Loc), lv_has ls 4 [(0, .ref (ad 0)), (1, .int z.1), (2, .int z.2.1), (3, .int z.2.2)] → wH D (mT cy) (mW ad cy) A H0 s g f H locs → W p l e rm_M_lengthAt s m args below meth c H locs 0 0 Q (F0 m 2 ls [])) (x1 : Int32) (x2 : Int32) (x3 : Int32) (hf : p_M_lengthAt_L2 K2 x1 x2 x3 g f = some r) : ∀ (ls : Array Slot) (H : Heap) (locs : List Loc), lv_has ls 4 [(0, .ref (ad 0)), (1, .int x1), (2, .int x2), (3, .int x3)] → wH D (mT cy) (mW ad cy) A H0 s g f H locs → W p l e rm_M_lengthAt s m args below meth c H locs 0 0 Q (F0 m 2 ls []) := by
  intro ls H locs hl hC
  unfold p_M_lengthAt_L2 at hf
  refine lv_aload_n Fx.1 Fx.2.1 dX10_lengthAt_2 rfl (lv_at hl 0 rfl) ?_
  refine lv_iload_n Fx.1 Fx.2.1 dX10_lengthAt_3 rfl (lv_at hl 1 rfl) ?_
  refine lv_iload_n Fx.1 Fx.2.1 dX10_lengthAt_4 rfl (lv_at hl 2 rfl) ?_
  refine lv_iload_n Fx.1 Fx.2.1 dX10_lengthAt_5 rfl (lv_at hl 3 rfl) ?_
  refine lv_iadd Fx.1 Fx.2.1 dX10_lengthAt_6 ?_
  obtain ⟨u1, hu1, hf⟩ := bd_e hf
  refine ca_i (As := [.int x1, .int (x2 + x3)]) (rest := []) Fx hC (k_M_isFigureAt hu1) (cVU 2 Fx.2.2.2.2 wd_830 wd_831 wd_904 wd_10 wd_832 rfl rfl hd_M_isFigureAt ⟨Nat.le_of_ble_eq_true rfl, Nat.le_of_ble_eq_true rfl⟩) 0 rfl rfl rfl hl.1 rfl (Nat.le_of_ble_eq_true rfl) dX10_lengthAt_7 (fun H locs hC => ?_)
  refine lv_if_eq (tgt := 19) Fx.1 Fx.2.1 dX10_lengthAt_10 (by decide) (fun hc => ?_) (fun hc => ?_)
  · replace hf := ift hc hf
    refine lv_iload_n Fx.1 Fx.2.1 dX10_lengthAt_19 rfl (lv_at hl 3 rfl) ?_
    obtain rfl := Option.some.inj hf
    exact hret _ _ _ _ dX10_lengthAt_20 hC
  · replace hf := iff_ hc hf
    obtain ⟨v2, ev2, hf⟩ := lt_e hf
    refine lv_iinc (v := v2) (lv' := [(3, .int v2), (0, .ref (ad 0)), (1, .int x1), (2, .int x2)]) Fx.1 Fx.2.1 dX10_lengthAt_13 hl (k := 3) rfl ev2.symm (by decide) rfl (fun ls hl => ?_)
    refine lv_goto (tgt := 2) Fx.1 Fx.2.1 dX10_lengthAt_16 (by decide) ?_
    exact hK2 _ hf _ _ _ (lv_sub hl [1, 2, 3, 0] rfl) hC
set_option maxRecDepth 100000 in
set_option maxHeartbeats 4000000 in
theorem t_M_lengthAt_L2 {p : Program} {l : Launch} {e : Env} {s : State} {m : MethodId} {args : Array Value} {below : List Frame} {meth : Method} {c : Code} {Q : State → Prop} {D : va_G} {ad : Nat → Nat} {cy : Nat → ClassId} {A : Nat → Prop} {H0 : Heap} {r : Int32} {g : sG} {f : sF} (Fx : CallFix p m c cX10_lengthAt 4 s args (Cond.code yX10_lengthAt cX10_lengthAt 4 (some .int) :: wU) RX10) (hret : mRi p l e rm_M_lengthAt s m args below meth c Q D (mT cy) (mW ad cy) A H0 cX10_lengthAt (r, g, f))  (n : Nat) (z : Int32 × Int32 × Int32) (hz : itr (fun K z => p_M_lengthAt_L2 K z.1 z.2.1 z.2.2 g f) n z = some r) : ∀ (ls : Array Slot) (H : Heap) (locs : List Loc), lv_has ls 4 [(0, .ref (ad 0)), (1, .int z.1), (2, .int z.2.1), (3, .int z.2.2)] → wH D (mT cy) (mW ad cy) A H0 s g f H locs → W p l e rm_M_lengthAt s m args below meth c H locs 0 0 Q (F0 m 2 ls []) :=
  itr_all (B := fun K z => p_M_lengthAt_L2 K z.1 z.2.1 z.2.2 g f) (r := r) (fun z => ∀ (ls : Array Slot) (H : Heap) (locs : List Loc), lv_has ls 4 [(0, .ref (ad 0)), (1, .int z.1), (2, .int z.2.1), (3, .int z.2.2)] → wH D (mT cy) (mW ad cy) A H0 s g f H locs → W p l e rm_M_lengthAt s m args below meth c H locs 0 0 Q (F0 m 2 ls [])) (fun K hK z h => s_M_lengthAt_L2 (K2 := K) Fx hret hK z.1 z.2.1 z.2.2 h) n z hz
noncomputable def p_M_lengthAt (a1 : Int32) (a2 : Int32) (g : sG) (f : sF) : Option (Int32) := itr (fun K z => p_M_lengthAt_L2 K z.1 z.2.1 z.2.2 g f) FUEL (a1, a2, (0 : Int32))
set_option maxRecDepth 100000 in
set_option maxHeartbeats 4000000 in
theorem k_M_lengthAt {l : Launch} {D : va_G} {ad : Nat → Nat} {cy : Nat → ClassId} {a1 : Int32} {a2 : Int32} {r : Int32} {g : sG} {f : sF} (hf : p_M_lengthAt a1 a2 g f = some r) : mMi l yX10_lengthAt (Cond.code yX10_lengthAt cX10_lengthAt 4 (some .int) :: wU) rm_M_lengthAt D (mT cy) (mW ad cy) [.ref (ad 0), .int a1, .int a2] g f (r, g, f) := by
  refine mk_i (by decide) rfl (Nat.le_of_ble_eq_true rfl) ?_
  intro p e s m below meth c Q A H0 Fx hret ls H locs hl hC
  replace hl : lv_has ls 4 [(0, .ref (ad 0)), (1, .int a1), (2, .int a2)] := hl
  unfold p_M_lengthAt at hf
  refine lv_iconst (v := (0 : Int32)) Fx.1 Fx.2.1 dX10_lengthAt_0 (by decide) ?_
  refine lv_istore_n (lv' := [(3, .int (0 : Int32)), (0, .ref (ad 0)), (1, .int a1), (2, .int a2)]) Fx.1 Fx.2.1 dX10_lengthAt_1 rfl hl (by decide) rfl (fun ls hl => ?_)
  exact t_M_lengthAt_L2 Fx hret _ _ hf _ _ _ (lv_sub hl [1, 2, 3, 0] rfl) hC
/-! FretHandsModel.valueAt(II)I -/
abbrev rm_M_valueAt : Room := { frames := 4, cells := 0, slots := 0, locals := 87 }
theorem hd_M_valueAt : yX10_valueAt.cls = RX10 ∧ yX10_valueAt.cls ≠ "java/lang/invoke/MethodHandle" ∧ yX10_valueAt.cls ≠ "java/lang/invoke/VarHandle" ∧ (parseMethodDescriptor yX10_valueAt.desc).map (fun d => d.parameters.length) = some 2 := by decide +kernel
noncomputable def p_M_valueAt (a1 : Int32) (a2 : Int32) (g : sG) (f : sF) : Option (Int32) := Option.bind (p_M_placeOf a1 a2 g f) (fun u1 => (if u1 < 0 ∨ 2000 ≤ u1.toNatClampNeg then none else lt_ ((f 9 u1.toNatClampNeg) - (48 : Int32)) (fun v3 => Option.bind (p_M_lengthAt a1 a2 g f) (fun u4 => (if u4 = (2 : Int32) then Option.bind (p_M_placeOf a1 (a2 + (1 : Int32)) g f) (fun u5 => (if u5 < 0 ∨ 2000 ≤ u5.toNatClampNeg then none else some ((((10 : Int32) * v3) + (f 9 u5.toNatClampNeg)) - (48 : Int32)))) else some v3)))))
set_option maxRecDepth 100000 in
set_option maxHeartbeats 4000000 in
theorem k_M_valueAt {l : Launch} {D : va_G} {ad : Nat → Nat} {cy : Nat → ClassId} {a1 : Int32} {a2 : Int32} {r : Int32} {g : sG} {f : sF} (hf : p_M_valueAt a1 a2 g f = some r) : mMi l yX10_valueAt (Cond.code yX10_valueAt cX10_valueAt 4 (some .int) :: wU) rm_M_valueAt D (mT cy) (mW ad cy) [.ref (ad 0), .int a1, .int a2] g f (r, g, f) := by
  refine mk_i (by decide) rfl (Nat.le_of_ble_eq_true rfl) ?_
  intro p e s m below meth c Q A H0 Fx hret ls H locs hl hC
  replace hl : lv_has ls 4 [(0, .ref (ad 0)), (1, .int a1), (2, .int a2)] := hl
  unfold p_M_valueAt at hf
  refine lv_aload_n Fx.1 Fx.2.1 dX10_valueAt_0 rfl (lv_at hl 0 rfl) ?_
  refine gg_M_tape Fx hC wd_605 dX10_valueAt_1 ?_
  refine lv_aload_n Fx.1 Fx.2.1 dX10_valueAt_4 rfl (lv_at hl 0 rfl) ?_
  refine lv_iload_n Fx.1 Fx.2.1 dX10_valueAt_5 rfl (lv_at hl 1 rfl) ?_
  refine lv_iload_n Fx.1 Fx.2.1 dX10_valueAt_6 rfl (lv_at hl 2 rfl) ?_
  obtain ⟨u1, hu1, hf⟩ := bd_e hf
  refine ca_i (As := [.int a1, .int a2]) (rest := [.ref (ad 10)]) Fx hC (k_M_placeOf hu1) (cVU 2 Fx.2.2.2.2 wd_833 wd_834 wd_905 wd_10 wd_835 rfl rfl hd_M_placeOf ⟨Nat.le_of_ble_eq_true rfl, Nat.le_of_ble_eq_true rfl⟩) 0 rfl rfl rfl hl.1 rfl (Nat.le_of_ble_eq_true rfl) dX10_valueAt_7 (fun H locs hC => ?_)
  obtain ⟨hi2, hf⟩ := gd_e hf
  refine ld_M_tape Fx hC hi2 dX10_valueAt_10 ?_
  refine lv_bipush (v := (48 : Int32)) Fx.1 Fx.2.1 dX10_valueAt_11 (by decide) ?_
  refine lv_isub Fx.1 Fx.2.1 dX10_valueAt_13 ?_
  obtain ⟨v3, ev3, hf⟩ := lt_e hf
  refine tpi ev3 ?_
  refine lv_istore_n (lv' := [(3, .int v3), (0, .ref (ad 0)), (1, .int a1), (2, .int a2)]) Fx.1 Fx.2.1 dX10_valueAt_14 rfl hl (by decide) rfl (fun ls hl => ?_)
  refine lv_aload_n Fx.1 Fx.2.1 dX10_valueAt_15 rfl (lv_at hl 1 rfl) ?_
  refine lv_iload_n Fx.1 Fx.2.1 dX10_valueAt_16 rfl (lv_at hl 2 rfl) ?_
  refine lv_iload_n Fx.1 Fx.2.1 dX10_valueAt_17 rfl (lv_at hl 3 rfl) ?_
  obtain ⟨u4, hu4, hf⟩ := bd_e hf
  refine ca_i (As := [.int a1, .int a2]) (rest := []) Fx hC (k_M_lengthAt hu4) (cVU 2 Fx.2.2.2.2 wd_836 wd_837 wd_906 wd_10 wd_838 rfl rfl hd_M_lengthAt ⟨Nat.le_of_ble_eq_true rfl, Nat.le_of_ble_eq_true rfl⟩) 0 rfl rfl rfl hl.1 rfl (Nat.le_of_ble_eq_true rfl) dX10_valueAt_18 (fun H locs hC => ?_)
  refine lv_iconst (v := (2 : Int32)) Fx.1 Fx.2.1 dX10_valueAt_21 (by decide) ?_
  refine lv_icmp_ne (tgt := 49) Fx.1 Fx.2.1 dX10_valueAt_22 (by decide) (fun hc => ?_) (fun hc => ?_)
  · replace hf := iff_ hc hf
    refine lv_iload_n Fx.1 Fx.2.1 dX10_valueAt_49 rfl (lv_at hl 0 rfl) ?_
    obtain rfl := Option.some.inj hf
    exact hret _ _ _ _ dX10_valueAt_50 hC
  · replace hf := ift hc hf
    refine lv_bipush (v := (10 : Int32)) Fx.1 Fx.2.1 dX10_valueAt_25 (by decide) ?_
    refine lv_iload_n Fx.1 Fx.2.1 dX10_valueAt_27 rfl (lv_at hl 0 rfl) ?_
    refine lv_imul Fx.1 Fx.2.1 dX10_valueAt_28 ?_
    refine lv_aload_n Fx.1 Fx.2.1 dX10_valueAt_29 rfl (lv_at hl 1 rfl) ?_
    refine gg_M_tape Fx hC wd_605 dX10_valueAt_30 ?_
    refine lv_aload_n Fx.1 Fx.2.1 dX10_valueAt_33 rfl (lv_at hl 1 rfl) ?_
    refine lv_iload_n Fx.1 Fx.2.1 dX10_valueAt_34 rfl (lv_at hl 2 rfl) ?_
    refine lv_iload_n Fx.1 Fx.2.1 dX10_valueAt_35 rfl (lv_at hl 3 rfl) ?_
    refine lv_iconst (v := (1 : Int32)) Fx.1 Fx.2.1 dX10_valueAt_36 (by decide) ?_
    refine lv_iadd Fx.1 Fx.2.1 dX10_valueAt_37 ?_
    obtain ⟨u5, hu5, hf⟩ := bd_e hf
    refine ca_i (As := [.int a1, .int (a2 + (1 : Int32))]) (rest := [.ref (ad 10), .int ((10 : Int32) * v3)]) Fx hC (k_M_placeOf hu5) (cVU 2 Fx.2.2.2.2 wd_833 wd_834 wd_905 wd_10 wd_835 rfl rfl hd_M_placeOf ⟨Nat.le_of_ble_eq_true rfl, Nat.le_of_ble_eq_true rfl⟩) 0 rfl rfl rfl hl.1 rfl (Nat.le_of_ble_eq_true rfl) dX10_valueAt_38 (fun H locs hC => ?_)
    obtain ⟨hi6, hf⟩ := gd_e hf
    refine ld_M_tape Fx hC hi6 dX10_valueAt_41 ?_
    refine lv_iadd Fx.1 Fx.2.1 dX10_valueAt_42 ?_
    refine lv_bipush (v := (48 : Int32)) Fx.1 Fx.2.1 dX10_valueAt_43 (by decide) ?_
    refine lv_isub Fx.1 Fx.2.1 dX10_valueAt_45 ?_
    refine lv_goto (tgt := 50) Fx.1 Fx.2.1 dX10_valueAt_46 (by decide) ?_
    obtain rfl := Option.some.inj hf
    exact hret _ _ _ _ dX10_valueAt_50 hC
/-! FretHandsModel.lookNumbers()V -/
abbrev rm_M_lookNumbers : Room := { frames := 5, cells := 0, slots := 0, locals := 110 }
theorem hd_M_lookNumbers : yX10_lookNumbers.cls = RX10 ∧ yX10_lookNumbers.cls ≠ "java/lang/invoke/MethodHandle" ∧ yX10_lookNumbers.cls ≠ "java/lang/invoke/VarHandle" ∧ (parseMethodDescriptor yX10_lookNumbers.desc).map (fun d => d.parameters.length) = some 0 := by decide +kernel
noncomputable def p_M_lookNumbers_L106 (K2 : (Int32 × sG × sF) → Option (sG × sF)) (K12 : (Int32 × Int32 × sG × sF) → Option (sG × sF)) (K106 : (Int32 × Int32 × Int32 × sG × sF) → Option (sG × sF)) (x1 : Int32) (x2 : Int32) (x5 : Int32) (g : sG) (f : sF) : Option (sG × sF) := (if (g 0) ≤ x5 then lt_ (x2 + (1 : Int32)) (fun v1 => K12 (x1, v1, g, f)) else (if x5 = x1 then lt_ (x5 + (1 : Int32)) (fun v2 => K106 (x1, x2, v2, g, f)) else Option.bind (p_M_isFigureAt x5 x2 g f) (fun u3 => (if u3 = 0 then lt_ (x5 + (1 : Int32)) (fun v4 => K106 (x1, x2, v4, g, f)) else Option.bind (p_M_begins x5 (x2 - (1 : Int32)) g f) (fun u5 => (if u5 = 0 then lt_ (x5 + (1 : Int32)) (fun v6 => K106 (x1, x2, v6, g, f)) else Option.bind (p_M_placeOf x1 x2 g f) (fun u7 => Option.bind (p_M_faults (3 : Int32) u7 g f) (fun u8 => lt_ (x5 + (1 : Int32)) (fun v9 => K106 (x1, x2, v9, u8.1, u8.2))))))))))
set_option maxRecDepth 100000 in
set_option maxHeartbeats 4000000 in
theorem s_M_lookNumbers_L106 {K2 : (Int32 × sG × sF) → Option (sG × sF)} {K12 : (Int32 × Int32 × sG × sF) → Option (sG × sF)} {K106 : (Int32 × Int32 × Int32 × sG × sF) → Option (sG × sF)} {p : Program} {l : Launch} {e : Env} {s : State} {m : MethodId} {args : Array Value} {below : List Frame} {meth : Method} {c : Code} {Q : State → Prop} {D : va_G} {ad : Nat → Nat} {cy : Nat → ClassId} {A : Nat → Prop} {H0 : Heap} {u : sG × sF} (Fx : CallFix p m c cX10_lookNumbers 6 s args (Cond.code yX10_lookNumbers cX10_lookNumbers 6 none :: wU) RX10) (hret : mRv p l e rm_M_lookNumbers s m args below meth c Q D (mT cy) (mW ad cy) A H0 cX10_lookNumbers u) (hK2 : ∀ (z : Int32 × sG × sF), K2 z = some u → ∀ (ls : Array Slot) (H : Heap) (locs : List Loc), lv_has ls 6 [(0, .ref (ad 0)), (1, .int z.1)] → wH D (mT cy) (mW ad cy) A H0 s z.2.1 z.2.2 H locs → W p l e rm_M_lookNumbers s m args below meth c H locs 0 0 Q (F0 m 2 ls [])) (hK12 : ∀ (z : Int32 × Int32 × sG × sF), K12 z = some u → ∀ (ls : Array Slot) (H : Heap) (locs : List Loc), lv_has ls 6 [(0, .ref (ad 0)), (1, .int z.1), (2, .int z.2.1)] → wH D (mT cy) (mW ad cy) A H0 s z.2.2.1 z.2.2.2 H locs → W p l e rm_M_lookNumbers s m args below meth c H locs 0 0 Q (F0 m 12 ls [])) (hK106 : ∀ (z : Int32 × Int32 × Int32 × sG × sF), K106 z = some u → ∀ (ls : Array Slot) (H : Heap) (locs : List Loc), lv_has ls 6 [(0, .ref (ad 0)), (1, .int z.1), (2, .int z.2.1), (5, .int z.2.2.1)] → wH D (mT cy) (mW ad cy) A H0 s z.2.2.2.1 z.2.2.2.2 H locs → W p l e rm_M_lookNumbers s m args below meth c H locs 0 0 Q (F0 m 106 ls [])) (x1 : Int32) (x2 : Int32) (x5 : Int32) (g : sG) (f : sF) (hf : p_M_lookNumbers_L106 K2 K12 K106 x1 x2 x5 g f = some u) : ∀ (ls : Array Slot) (H : Heap) (locs : List Loc), lv_has ls 6 [(0, .ref (ad 0)), (1, .int x1), (2, .int x2), (5, .int x5)] → wH D (mT cy) (mW ad cy) A H0 s g f H locs → W p l e rm_M_lookNumbers s m args below meth c H locs 0 0 Q (F0 m 106 ls []) := by
  intro ls H locs hl hC
  unfold p_M_lookNumbers_L106 at hf
  refine lv_iload Fx.1 Fx.2.1 dX10_lookNumbers_106 (lv_at hl 3 rfl) ?_
  refine lv_aload_n Fx.1 Fx.2.1 dX10_lookNumbers_108 rfl (lv_at hl 0 rfl) ?_
  refine gg_M_strings Fx hC wd_590 dX10_lookNumbers_109 ?_
  refine lv_icmp_ge (tgt := 160) Fx.1 Fx.2.1 dX10_lookNumbers_112 (by decide) (fun hc => ?_) (fun hc => ?_)
  · replace hf := ift hc hf
    obtain ⟨v1, ev1, hf⟩ := lt_e hf
    refine lv_iinc (v := v1) (lv' := [(2, .int v1), (0, .ref (ad 0)), (1, .int x1), (5, .int x5)]) Fx.1 Fx.2.1 dX10_lookNumbers_160 hl (k := 2) rfl ev1.symm (by decide) rfl (fun ls hl => ?_)
    refine lv_goto (tgt := 12) Fx.1 Fx.2.1 dX10_lookNumbers_163 (by decide) ?_
    exact hK12 _ hf _ _ _ (lv_sub hl [1, 2, 0] rfl) hC
  · replace hf := iff_ hc hf
    refine lv_iload Fx.1 Fx.2.1 dX10_lookNumbers_115 (lv_at hl 3 rfl) ?_
    refine lv_iload_n Fx.1 Fx.2.1 dX10_lookNumbers_117 rfl (lv_at hl 1 rfl) ?_
    refine lv_icmp_eq (tgt := 154) Fx.1 Fx.2.1 dX10_lookNumbers_118 (by decide) (fun hc => ?_) (fun hc => ?_)
    · replace hf := ift hc hf
      obtain ⟨v2, ev2, hf⟩ := lt_e hf
      refine lv_iinc (v := v2) (lv' := [(5, .int v2), (0, .ref (ad 0)), (1, .int x1), (2, .int x2)]) Fx.1 Fx.2.1 dX10_lookNumbers_154 hl (k := 3) rfl ev2.symm (by decide) rfl (fun ls hl => ?_)
      refine lv_goto (tgt := 106) Fx.1 Fx.2.1 dX10_lookNumbers_157 (by decide) ?_
      exact hK106 _ hf _ _ _ (lv_sub hl [1, 2, 3, 0] rfl) hC
    · replace hf := iff_ hc hf
      refine lv_aload_n Fx.1 Fx.2.1 dX10_lookNumbers_121 rfl (lv_at hl 0 rfl) ?_
      refine lv_iload Fx.1 Fx.2.1 dX10_lookNumbers_122 (lv_at hl 3 rfl) ?_
      refine lv_iload_n Fx.1 Fx.2.1 dX10_lookNumbers_124 rfl (lv_at hl 2 rfl) ?_
      obtain ⟨u3, hu3, hf⟩ := bd_e hf
      refine ca_i (As := [.int x5, .int x2]) (rest := []) Fx hC (k_M_isFigureAt hu3) (cVU 2 Fx.2.2.2.2 wd_830 wd_831 wd_904 wd_10 wd_832 rfl rfl hd_M_isFigureAt ⟨Nat.le_of_ble_eq_true rfl, Nat.le_of_ble_eq_true rfl⟩) 0 rfl rfl rfl hl.1 rfl (Nat.le_of_ble_eq_true rfl) dX10_lookNumbers_125 (fun H locs hC => ?_)
      refine lv_if_eq (tgt := 154) Fx.1 Fx.2.1 dX10_lookNumbers_128 (by decide) (fun hc => ?_) (fun hc => ?_)
      · replace hf := ift hc hf
        obtain ⟨v4, ev4, hf⟩ := lt_e hf
        refine lv_iinc (v := v4) (lv' := [(5, .int v4), (0, .ref (ad 0)), (1, .int x1), (2, .int x2)]) Fx.1 Fx.2.1 dX10_lookNumbers_154 hl (k := 3) rfl ev4.symm (by decide) rfl (fun ls hl => ?_)
        refine lv_goto (tgt := 106) Fx.1 Fx.2.1 dX10_lookNumbers_157 (by decide) ?_
        exact hK106 _ hf _ _ _ (lv_sub hl [1, 2, 3, 0] rfl) hC
      · replace hf := iff_ hc hf
        refine lv_aload_n Fx.1 Fx.2.1 dX10_lookNumbers_131 rfl (lv_at hl 0 rfl) ?_
        refine lv_iload Fx.1 Fx.2.1 dX10_lookNumbers_132 (lv_at hl 3 rfl) ?_
        refine lv_iload_n Fx.1 Fx.2.1 dX10_lookNumbers_134 rfl (lv_at hl 2 rfl) ?_
        refine lv_iconst (v := (1 : Int32)) Fx.1 Fx.2.1 dX10_lookNumbers_135 (by decide) ?_
        refine lv_isub Fx.1 Fx.2.1 dX10_lookNumbers_136 ?_
        obtain ⟨u5, hu5, hf⟩ := bd_e hf
        refine ca_i (As := [.int x5, .int (x2 - (1 : Int32))]) (rest := []) Fx hC (k_M_begins hu5) (cVU 2 Fx.2.2.2.2 wd_827 wd_828 wd_903 wd_10 wd_829 rfl rfl hd_M_begins ⟨Nat.le_of_ble_eq_true rfl, Nat.le_of_ble_eq_true rfl⟩) 0 rfl rfl rfl hl.1 rfl (Nat.le_of_ble_eq_true rfl) dX10_lookNumbers_137 (fun H locs hC => ?_)
        refine lv_if_eq (tgt := 154) Fx.1 Fx.2.1 dX10_lookNumbers_140 (by decide) (fun hc => ?_) (fun hc => ?_)
        · replace hf := ift hc hf
          obtain ⟨v6, ev6, hf⟩ := lt_e hf
          refine lv_iinc (v := v6) (lv' := [(5, .int v6), (0, .ref (ad 0)), (1, .int x1), (2, .int x2)]) Fx.1 Fx.2.1 dX10_lookNumbers_154 hl (k := 3) rfl ev6.symm (by decide) rfl (fun ls hl => ?_)
          refine lv_goto (tgt := 106) Fx.1 Fx.2.1 dX10_lookNumbers_157 (by decide) ?_
          exact hK106 _ hf _ _ _ (lv_sub hl [1, 2, 3, 0] rfl) hC
        · replace hf := iff_ hc hf
          refine lv_aload_n Fx.1 Fx.2.1 dX10_lookNumbers_143 rfl (lv_at hl 0 rfl) ?_
          refine lv_iconst (v := (3 : Int32)) Fx.1 Fx.2.1 dX10_lookNumbers_144 (by decide) ?_
          refine lv_aload_n Fx.1 Fx.2.1 dX10_lookNumbers_145 rfl (lv_at hl 0 rfl) ?_
          refine lv_iload_n Fx.1 Fx.2.1 dX10_lookNumbers_146 rfl (lv_at hl 1 rfl) ?_
          refine lv_iload_n Fx.1 Fx.2.1 dX10_lookNumbers_147 rfl (lv_at hl 2 rfl) ?_
          obtain ⟨u7, hu7, hf⟩ := bd_e hf
          refine ca_i (As := [.int x1, .int x2]) (rest := [.int (3 : Int32), .ref (ad 0)]) Fx hC (k_M_placeOf hu7) (cVU 2 Fx.2.2.2.2 wd_833 wd_834 wd_905 wd_10 wd_835 rfl rfl hd_M_placeOf ⟨Nat.le_of_ble_eq_true rfl, Nat.le_of_ble_eq_true rfl⟩) 0 rfl rfl rfl hl.1 rfl (Nat.le_of_ble_eq_true rfl) dX10_lookNumbers_148 (fun H locs hC => ?_)
          obtain ⟨u8, hu8, hf⟩ := bd_e hf
          refine ca_v (As := [.int (3 : Int32), .int u7]) (rest := []) Fx hC (k_M_faults hu8) (cVU 2 Fx.2.2.2.2 wd_818 wd_819 wd_901 wd_10 wd_820 rfl rfl hd_M_faults ⟨Nat.le_of_ble_eq_true rfl, Nat.le_of_ble_eq_true rfl⟩) 0 rfl rfl rfl hl.1 rfl (Nat.le_of_ble_eq_true rfl) dX10_lookNumbers_151 (fun H locs hC => ?_)
          obtain ⟨v9, ev9, hf⟩ := lt_e hf
          refine lv_iinc (v := v9) (lv' := [(5, .int v9), (0, .ref (ad 0)), (1, .int x1), (2, .int x2)]) Fx.1 Fx.2.1 dX10_lookNumbers_154 hl (k := 3) rfl ev9.symm (by decide) rfl (fun ls hl => ?_)
          refine lv_goto (tgt := 106) Fx.1 Fx.2.1 dX10_lookNumbers_157 (by decide) ?_
          exact hK106 _ hf _ _ _ (lv_sub hl [1, 2, 3, 0] rfl) hC
set_option maxRecDepth 100000 in
set_option maxHeartbeats 4000000 in
theorem t_M_lookNumbers_L106 {K2 : (Int32 × sG × sF) → Option (sG × sF)} {K12 : (Int32 × Int32 × sG × sF) → Option (sG × sF)} {p : Program} {l : Launch} {e : Env} {s : State} {m : MethodId} {args : Array Value} {below : List Frame} {meth : Method} {c : Code} {Q : State → Prop} {D : va_G} {ad : Nat → Nat} {cy : Nat → ClassId} {A : Nat → Prop} {H0 : Heap} {u : sG × sF} (Fx : CallFix p m c cX10_lookNumbers 6 s args (Cond.code yX10_lookNumbers cX10_lookNumbers 6 none :: wU) RX10) (hret : mRv p l e rm_M_lookNumbers s m args below meth c Q D (mT cy) (mW ad cy) A H0 cX10_lookNumbers u) (hK2 : ∀ (z : Int32 × sG × sF), K2 z = some u → ∀ (ls : Array Slot) (H : Heap) (locs : List Loc), lv_has ls 6 [(0, .ref (ad 0)), (1, .int z.1)] → wH D (mT cy) (mW ad cy) A H0 s z.2.1 z.2.2 H locs → W p l e rm_M_lookNumbers s m args below meth c H locs 0 0 Q (F0 m 2 ls [])) (hK12 : ∀ (z : Int32 × Int32 × sG × sF), K12 z = some u → ∀ (ls : Array Slot) (H : Heap) (locs : List Loc), lv_has ls 6 [(0, .ref (ad 0)), (1, .int z.1), (2, .int z.2.1)] → wH D (mT cy) (mW ad cy) A H0 s z.2.2.1 z.2.2.2 H locs → W p l e rm_M_lookNumbers s m args below meth c H locs 0 0 Q (F0 m 12 ls [])) (n : Nat) (z : Int32 × Int32 × Int32 × sG × sF) (hz : itr (fun K z => p_M_lookNumbers_L106 K2 K12 K z.1 z.2.1 z.2.2.1 z.2.2.2.1 z.2.2.2.2) n z = some u) : ∀ (ls : Array Slot) (H : Heap) (locs : List Loc), lv_has ls 6 [(0, .ref (ad 0)), (1, .int z.1), (2, .int z.2.1), (5, .int z.2.2.1)] → wH D (mT cy) (mW ad cy) A H0 s z.2.2.2.1 z.2.2.2.2 H locs → W p l e rm_M_lookNumbers s m args below meth c H locs 0 0 Q (F0 m 106 ls []) :=
  itr_all (B := fun K z => p_M_lookNumbers_L106 K2 K12 K z.1 z.2.1 z.2.2.1 z.2.2.2.1 z.2.2.2.2) (r := u) (fun z => ∀ (ls : Array Slot) (H : Heap) (locs : List Loc), lv_has ls 6 [(0, .ref (ad 0)), (1, .int z.1), (2, .int z.2.1), (5, .int z.2.2.1)] → wH D (mT cy) (mW ad cy) A H0 s z.2.2.2.1 z.2.2.2.2 H locs → W p l e rm_M_lookNumbers s m args below meth c H locs 0 0 Q (F0 m 106 ls [])) (fun K hK z h => s_M_lookNumbers_L106 (K106 := K) Fx hret hK2 hK12 hK z.1 z.2.1 z.2.2.1 z.2.2.2.1 z.2.2.2.2 h) n z hz
noncomputable def p_M_lookNumbers_J92 (K2 : (Int32 × sG × sF) → Option (sG × sF)) (K12 : (Int32 × Int32 × sG × sF) → Option (sG × sF)) (x1 : Int32) (x2 : Int32) (g : sG) (f : sF) : Option (sG × sF) := Option.bind (p_M_placeOf x1 x2 g f) (fun u1 => Option.bind (p_M_faults (2 : Int32) u1 g f) (fun u2 => itr (fun K z => p_M_lookNumbers_L106 K2 K12 K z.1 z.2.1 z.2.2.1 z.2.2.2.1 z.2.2.2.2) FUEL (x1, x2, (0 : Int32), u2.1, u2.2)))
set_option maxRecDepth 100000 in
set_option maxHeartbeats 4000000 in
theorem s_M_lookNumbers_J92 {K2 : (Int32 × sG × sF) → Option (sG × sF)} {K12 : (Int32 × Int32 × sG × sF) → Option (sG × sF)} {p : Program} {l : Launch} {e : Env} {s : State} {m : MethodId} {args : Array Value} {below : List Frame} {meth : Method} {c : Code} {Q : State → Prop} {D : va_G} {ad : Nat → Nat} {cy : Nat → ClassId} {A : Nat → Prop} {H0 : Heap} {u : sG × sF} (Fx : CallFix p m c cX10_lookNumbers 6 s args (Cond.code yX10_lookNumbers cX10_lookNumbers 6 none :: wU) RX10) (hret : mRv p l e rm_M_lookNumbers s m args below meth c Q D (mT cy) (mW ad cy) A H0 cX10_lookNumbers u) (hK2 : ∀ (z : Int32 × sG × sF), K2 z = some u → ∀ (ls : Array Slot) (H : Heap) (locs : List Loc), lv_has ls 6 [(0, .ref (ad 0)), (1, .int z.1)] → wH D (mT cy) (mW ad cy) A H0 s z.2.1 z.2.2 H locs → W p l e rm_M_lookNumbers s m args below meth c H locs 0 0 Q (F0 m 2 ls [])) (hK12 : ∀ (z : Int32 × Int32 × sG × sF), K12 z = some u → ∀ (ls : Array Slot) (H : Heap) (locs : List Loc), lv_has ls 6 [(0, .ref (ad 0)), (1, .int z.1), (2, .int z.2.1)] → wH D (mT cy) (mW ad cy) A H0 s z.2.2.1 z.2.2.2 H locs → W p l e rm_M_lookNumbers s m args below meth c H locs 0 0 Q (F0 m 12 ls [])) (x1 : Int32) (x2 : Int32) (g : sG) (f : sF) (hf : p_M_lookNumbers_J92 K2 K12 x1 x2 g f = some u) : ∀ (ls : Array Slot) (H : Heap) (locs : List Loc), lv_has ls 6 [(0, .ref (ad 0)), (1, .int x1), (2, .int x2)] → wH D (mT cy) (mW ad cy) A H0 s g f H locs → W p l e rm_M_lookNumbers s m args below meth c H locs 0 0 Q (F0 m 92 ls []) := by
  intro ls H locs hl hC
  unfold p_M_lookNumbers_J92 at hf
  refine lv_aload_n Fx.1 Fx.2.1 dX10_lookNumbers_92 rfl (lv_at hl 0 rfl) ?_
  refine lv_iconst (v := (2 : Int32)) Fx.1 Fx.2.1 dX10_lookNumbers_93 (by decide) ?_
  refine lv_aload_n Fx.1 Fx.2.1 dX10_lookNumbers_94 rfl (lv_at hl 0 rfl) ?_
  refine lv_iload_n Fx.1 Fx.2.1 dX10_lookNumbers_95 rfl (lv_at hl 1 rfl) ?_
  refine lv_iload_n Fx.1 Fx.2.1 dX10_lookNumbers_96 rfl (lv_at hl 2 rfl) ?_
  obtain ⟨u1, hu1, hf⟩ := bd_e hf
  refine ca_i (As := [.int x1, .int x2]) (rest := [.int (2 : Int32), .ref (ad 0)]) Fx hC (k_M_placeOf hu1) (cVU 2 Fx.2.2.2.2 wd_833 wd_834 wd_905 wd_10 wd_835 rfl rfl hd_M_placeOf ⟨Nat.le_of_ble_eq_true rfl, Nat.le_of_ble_eq_true rfl⟩) 0 rfl rfl rfl hl.1 rfl (Nat.le_of_ble_eq_true rfl) dX10_lookNumbers_97 (fun H locs hC => ?_)
  obtain ⟨u2, hu2, hf⟩ := bd_e hf
  refine ca_v (As := [.int (2 : Int32), .int u1]) (rest := []) Fx hC (k_M_faults hu2) (cVU 2 Fx.2.2.2.2 wd_818 wd_819 wd_901 wd_10 wd_820 rfl rfl hd_M_faults ⟨Nat.le_of_ble_eq_true rfl, Nat.le_of_ble_eq_true rfl⟩) 0 rfl rfl rfl hl.1 rfl (Nat.le_of_ble_eq_true rfl) dX10_lookNumbers_100 (fun H locs hC => ?_)
  refine lv_iconst (v := (0 : Int32)) Fx.1 Fx.2.1 dX10_lookNumbers_103 (by decide) ?_
  refine lv_istore (lv' := [(5, .int (0 : Int32)), (0, .ref (ad 0)), (1, .int x1), (2, .int x2)]) Fx.1 Fx.2.1 dX10_lookNumbers_104 hl (by decide) rfl (fun ls hl => ?_)
  exact t_M_lookNumbers_L106 Fx hret hK2 hK12 _ _ hf _ _ _ (lv_sub hl [1, 2, 3, 0] rfl) hC
noncomputable def p_M_lookNumbers_J67 (K2 : (Int32 × sG × sF) → Option (sG × sF)) (K12 : (Int32 × Int32 × sG × sF) → Option (sG × sF)) (x1 : Int32) (x2 : Int32) (y0 : Int32) (g : sG) (f : sF) : Option (sG × sF) := (if y0 = 0 then Option.bind (p_M_valueAt x1 x2 g f) (fun u1 => (if (u1 + (g 2)) ≤ (g 1) then itr (fun K z => p_M_lookNumbers_L106 K2 K12 K z.1 z.2.1 z.2.2.1 z.2.2.2.1 z.2.2.2.2) FUEL (x1, x2, (0 : Int32), g, f) else p_M_lookNumbers_J92 K2 K12 x1 x2 g f)) else p_M_lookNumbers_J92 K2 K12 x1 x2 g f)
set_option maxRecDepth 100000 in
set_option maxHeartbeats 4000000 in
theorem s_M_lookNumbers_J67 {K2 : (Int32 × sG × sF) → Option (sG × sF)} {K12 : (Int32 × Int32 × sG × sF) → Option (sG × sF)} {p : Program} {l : Launch} {e : Env} {s : State} {m : MethodId} {args : Array Value} {below : List Frame} {meth : Method} {c : Code} {Q : State → Prop} {D : va_G} {ad : Nat → Nat} {cy : Nat → ClassId} {A : Nat → Prop} {H0 : Heap} {u : sG × sF} (Fx : CallFix p m c cX10_lookNumbers 6 s args (Cond.code yX10_lookNumbers cX10_lookNumbers 6 none :: wU) RX10) (hret : mRv p l e rm_M_lookNumbers s m args below meth c Q D (mT cy) (mW ad cy) A H0 cX10_lookNumbers u) (hK2 : ∀ (z : Int32 × sG × sF), K2 z = some u → ∀ (ls : Array Slot) (H : Heap) (locs : List Loc), lv_has ls 6 [(0, .ref (ad 0)), (1, .int z.1)] → wH D (mT cy) (mW ad cy) A H0 s z.2.1 z.2.2 H locs → W p l e rm_M_lookNumbers s m args below meth c H locs 0 0 Q (F0 m 2 ls [])) (hK12 : ∀ (z : Int32 × Int32 × sG × sF), K12 z = some u → ∀ (ls : Array Slot) (H : Heap) (locs : List Loc), lv_has ls 6 [(0, .ref (ad 0)), (1, .int z.1), (2, .int z.2.1)] → wH D (mT cy) (mW ad cy) A H0 s z.2.2.1 z.2.2.2 H locs → W p l e rm_M_lookNumbers s m args below meth c H locs 0 0 Q (F0 m 12 ls [])) (x1 : Int32) (x2 : Int32) (y0 : Int32) (g : sG) (f : sF) (hf : p_M_lookNumbers_J67 K2 K12 x1 x2 y0 g f = some u) : ∀ (ls : Array Slot) (H : Heap) (locs : List Loc), lv_has ls 6 [(0, .ref (ad 0)), (1, .int x1), (2, .int x2)] → wH D (mT cy) (mW ad cy) A H0 s g f H locs → W p l e rm_M_lookNumbers s m args below meth c H locs 0 0 Q (F0 m 67 ls [.int y0]) := by
  intro ls H locs hl hC
  unfold p_M_lookNumbers_J67 at hf
  refine lv_istore (lv' := [(4, .int y0), (0, .ref (ad 0)), (1, .int x1), (2, .int x2)]) Fx.1 Fx.2.1 dX10_lookNumbers_67 hl (by decide) rfl (fun ls hl => ?_)
  refine lv_iload Fx.1 Fx.2.1 dX10_lookNumbers_69 (lv_at hl 0 rfl) ?_
  refine lv_if_ne (tgt := 92) Fx.1 Fx.2.1 dX10_lookNumbers_71 (by decide) (fun hc => ?_) (fun hc => ?_)
  · replace hf := iff_ hc hf
    exact s_M_lookNumbers_J92 Fx hret hK2 hK12 _ _ _ _  hf _ _ _ (lv_sub hl [1, 2, 3] rfl) hC
  · replace hf := ift hc hf
    refine lv_aload_n Fx.1 Fx.2.1 dX10_lookNumbers_74 rfl (lv_at hl 1 rfl) ?_
    refine lv_iload_n Fx.1 Fx.2.1 dX10_lookNumbers_75 rfl (lv_at hl 2 rfl) ?_
    refine lv_iload_n Fx.1 Fx.2.1 dX10_lookNumbers_76 rfl (lv_at hl 3 rfl) ?_
    obtain ⟨u1, hu1, hf⟩ := bd_e hf
    refine ca_i (As := [.int x1, .int x2]) (rest := []) Fx hC (k_M_valueAt hu1) (cVU 2 Fx.2.2.2.2 wd_839 wd_840 wd_907 wd_10 wd_841 rfl rfl hd_M_valueAt ⟨Nat.le_of_ble_eq_true rfl, Nat.le_of_ble_eq_true rfl⟩) 0 rfl rfl rfl hl.1 rfl (Nat.le_of_ble_eq_true rfl) dX10_lookNumbers_77 (fun H locs hC => ?_)
    refine lv_aload_n Fx.1 Fx.2.1 dX10_lookNumbers_80 rfl (lv_at hl 1 rfl) ?_
    refine gg_M_capo Fx hC wd_593 dX10_lookNumbers_81 ?_
    refine lv_iadd Fx.1 Fx.2.1 dX10_lookNumbers_84 ?_
    refine lv_aload_n Fx.1 Fx.2.1 dX10_lookNumbers_85 rfl (lv_at hl 1 rfl) ?_
    refine gg_M_neck Fx hC wd_592 dX10_lookNumbers_86 ?_
    refine lv_icmp_le (tgt := 103) Fx.1 Fx.2.1 dX10_lookNumbers_89 (by decide) (fun hc => ?_) (fun hc => ?_)
    · replace hf := ift hc hf
      refine lv_iconst (v := (0 : Int32)) Fx.1 Fx.2.1 dX10_lookNumbers_103 (by decide) ?_
      refine lv_istore (lv' := [(5, .int (0 : Int32)), (4, .int y0), (0, .ref (ad 0)), (1, .int x1), (2, .int x2)]) Fx.1 Fx.2.1 dX10_lookNumbers_104 hl (by decide) rfl (fun ls hl => ?_)
      exact t_M_lookNumbers_L106 Fx hret hK2 hK12 _ _ hf _ _ _ (lv_sub hl [2, 3, 4, 0] rfl) hC
    · replace hf := iff_ hc hf
      exact s_M_lookNumbers_J92 Fx hret hK2 hK12 _ _ _ _  hf _ _ _ (lv_sub hl [1, 2, 3] rfl) hC
noncomputable def p_M_lookNumbers_J66 (K2 : (Int32 × sG × sF) → Option (sG × sF)) (K12 : (Int32 × Int32 × sG × sF) → Option (sG × sF)) (x1 : Int32) (x2 : Int32) (g : sG) (f : sF) : Option (sG × sF) := p_M_lookNumbers_J67 K2 K12 x1 x2 (0 : Int32) g f
set_option maxRecDepth 100000 in
set_option maxHeartbeats 4000000 in
theorem s_M_lookNumbers_J66 {K2 : (Int32 × sG × sF) → Option (sG × sF)} {K12 : (Int32 × Int32 × sG × sF) → Option (sG × sF)} {p : Program} {l : Launch} {e : Env} {s : State} {m : MethodId} {args : Array Value} {below : List Frame} {meth : Method} {c : Code} {Q : State → Prop} {D : va_G} {ad : Nat → Nat} {cy : Nat → ClassId} {A : Nat → Prop} {H0 : Heap} {u : sG × sF} (Fx : CallFix p m c cX10_lookNumbers 6 s args (Cond.code yX10_lookNumbers cX10_lookNumbers 6 none :: wU) RX10) (hret : mRv p l e rm_M_lookNumbers s m args below meth c Q D (mT cy) (mW ad cy) A H0 cX10_lookNumbers u) (hK2 : ∀ (z : Int32 × sG × sF), K2 z = some u → ∀ (ls : Array Slot) (H : Heap) (locs : List Loc), lv_has ls 6 [(0, .ref (ad 0)), (1, .int z.1)] → wH D (mT cy) (mW ad cy) A H0 s z.2.1 z.2.2 H locs → W p l e rm_M_lookNumbers s m args below meth c H locs 0 0 Q (F0 m 2 ls [])) (hK12 : ∀ (z : Int32 × Int32 × sG × sF), K12 z = some u → ∀ (ls : Array Slot) (H : Heap) (locs : List Loc), lv_has ls 6 [(0, .ref (ad 0)), (1, .int z.1), (2, .int z.2.1)] → wH D (mT cy) (mW ad cy) A H0 s z.2.2.1 z.2.2.2 H locs → W p l e rm_M_lookNumbers s m args below meth c H locs 0 0 Q (F0 m 12 ls [])) (x1 : Int32) (x2 : Int32) (g : sG) (f : sF) (hf : p_M_lookNumbers_J66 K2 K12 x1 x2 g f = some u) : ∀ (ls : Array Slot) (H : Heap) (locs : List Loc), lv_has ls 6 [(0, .ref (ad 0)), (1, .int x1), (2, .int x2)] → wH D (mT cy) (mW ad cy) A H0 s g f H locs → W p l e rm_M_lookNumbers s m args below meth c H locs 0 0 Q (F0 m 66 ls []) := by
  intro ls H locs hl hC
  unfold p_M_lookNumbers_J66 at hf
  refine lv_iconst (v := (0 : Int32)) Fx.1 Fx.2.1 dX10_lookNumbers_66 (by decide) ?_
  exact s_M_lookNumbers_J67 Fx hret hK2 hK12 _ _ _ _ _  hf _ _ _ (lv_sub hl [0, 1, 2] rfl) hC
noncomputable def p_M_lookNumbers_J62 (K2 : (Int32 × sG × sF) → Option (sG × sF)) (K12 : (Int32 × Int32 × sG × sF) → Option (sG × sF)) (x1 : Int32) (x2 : Int32) (g : sG) (f : sF) : Option (sG × sF) := p_M_lookNumbers_J67 K2 K12 x1 x2 (1 : Int32) g f
set_option maxRecDepth 100000 in
set_option maxHeartbeats 4000000 in
theorem s_M_lookNumbers_J62 {K2 : (Int32 × sG × sF) → Option (sG × sF)} {K12 : (Int32 × Int32 × sG × sF) → Option (sG × sF)} {p : Program} {l : Launch} {e : Env} {s : State} {m : MethodId} {args : Array Value} {below : List Frame} {meth : Method} {c : Code} {Q : State → Prop} {D : va_G} {ad : Nat → Nat} {cy : Nat → ClassId} {A : Nat → Prop} {H0 : Heap} {u : sG × sF} (Fx : CallFix p m c cX10_lookNumbers 6 s args (Cond.code yX10_lookNumbers cX10_lookNumbers 6 none :: wU) RX10) (hret : mRv p l e rm_M_lookNumbers s m args below meth c Q D (mT cy) (mW ad cy) A H0 cX10_lookNumbers u) (hK2 : ∀ (z : Int32 × sG × sF), K2 z = some u → ∀ (ls : Array Slot) (H : Heap) (locs : List Loc), lv_has ls 6 [(0, .ref (ad 0)), (1, .int z.1)] → wH D (mT cy) (mW ad cy) A H0 s z.2.1 z.2.2 H locs → W p l e rm_M_lookNumbers s m args below meth c H locs 0 0 Q (F0 m 2 ls [])) (hK12 : ∀ (z : Int32 × Int32 × sG × sF), K12 z = some u → ∀ (ls : Array Slot) (H : Heap) (locs : List Loc), lv_has ls 6 [(0, .ref (ad 0)), (1, .int z.1), (2, .int z.2.1)] → wH D (mT cy) (mW ad cy) A H0 s z.2.2.1 z.2.2.2 H locs → W p l e rm_M_lookNumbers s m args below meth c H locs 0 0 Q (F0 m 12 ls [])) (x1 : Int32) (x2 : Int32) (g : sG) (f : sF) (hf : p_M_lookNumbers_J62 K2 K12 x1 x2 g f = some u) : ∀ (ls : Array Slot) (H : Heap) (locs : List Loc), lv_has ls 6 [(0, .ref (ad 0)), (1, .int x1), (2, .int x2)] → wH D (mT cy) (mW ad cy) A H0 s g f H locs → W p l e rm_M_lookNumbers s m args below meth c H locs 0 0 Q (F0 m 62 ls []) := by
  intro ls H locs hl hC
  unfold p_M_lookNumbers_J62 at hf
  refine lv_iconst (v := (1 : Int32)) Fx.1 Fx.2.1 dX10_lookNumbers_62 (by decide) ?_
  refine lv_goto (tgt := 67) Fx.1 Fx.2.1 dX10_lookNumbers_63 (by decide) ?_
  exact s_M_lookNumbers_J67 Fx hret hK2 hK12 _ _ _ _ _  hf _ _ _ (lv_sub hl [0, 1, 2] rfl) hC
noncomputable def p_M_lookNumbers_L12 (K2 : (Int32 × sG × sF) → Option (sG × sF)) (K12 : (Int32 × Int32 × sG × sF) → Option (sG × sF)) (x1 : Int32) (x2 : Int32) (g : sG) (f : sF) : Option (sG × sF) := (if (g 9) ≤ x2 then lt_ (x1 + (1 : Int32)) (fun v1 => K2 (v1, g, f)) else Option.bind (p_M_begins x1 x2 g f) (fun u2 => (if u2 = 0 then lt_ (x2 + (1 : Int32)) (fun v3 => K12 (x1, v3, g, f)) else Option.bind (p_M_lengthAt x1 x2 g f) (fun u4 => (if (2 : Int32) < u4 then p_M_lookNumbers_J62 K2 K12 x1 x2 g f else (if u4 = (2 : Int32) then Option.bind (p_M_placeOf x1 x2 g f) (fun u5 => (if u5 < 0 ∨ 2000 ≤ u5.toNatClampNeg then none else (if (f 9 u5.toNatClampNeg) = (48 : Int32) then p_M_lookNumbers_J62 K2 K12 x1 x2 g f else p_M_lookNumbers_J66 K2 K12 x1 x2 g f))) else p_M_lookNumbers_J66 K2 K12 x1 x2 g f))))))
set_option maxRecDepth 100000 in
set_option maxHeartbeats 4000000 in
theorem s_M_lookNumbers_L12 {K2 : (Int32 × sG × sF) → Option (sG × sF)} {K12 : (Int32 × Int32 × sG × sF) → Option (sG × sF)} {p : Program} {l : Launch} {e : Env} {s : State} {m : MethodId} {args : Array Value} {below : List Frame} {meth : Method} {c : Code} {Q : State → Prop} {D : va_G} {ad : Nat → Nat} {cy : Nat → ClassId} {A : Nat → Prop} {H0 : Heap} {u : sG × sF} (Fx : CallFix p m c cX10_lookNumbers 6 s args (Cond.code yX10_lookNumbers cX10_lookNumbers 6 none :: wU) RX10) (hret : mRv p l e rm_M_lookNumbers s m args below meth c Q D (mT cy) (mW ad cy) A H0 cX10_lookNumbers u) (hK2 : ∀ (z : Int32 × sG × sF), K2 z = some u → ∀ (ls : Array Slot) (H : Heap) (locs : List Loc), lv_has ls 6 [(0, .ref (ad 0)), (1, .int z.1)] → wH D (mT cy) (mW ad cy) A H0 s z.2.1 z.2.2 H locs → W p l e rm_M_lookNumbers s m args below meth c H locs 0 0 Q (F0 m 2 ls [])) (hK12 : ∀ (z : Int32 × Int32 × sG × sF), K12 z = some u → ∀ (ls : Array Slot) (H : Heap) (locs : List Loc), lv_has ls 6 [(0, .ref (ad 0)), (1, .int z.1), (2, .int z.2.1)] → wH D (mT cy) (mW ad cy) A H0 s z.2.2.1 z.2.2.2 H locs → W p l e rm_M_lookNumbers s m args below meth c H locs 0 0 Q (F0 m 12 ls [])) (x1 : Int32) (x2 : Int32) (g : sG) (f : sF) (hf : p_M_lookNumbers_L12 K2 K12 x1 x2 g f = some u) : ∀ (ls : Array Slot) (H : Heap) (locs : List Loc), lv_has ls 6 [(0, .ref (ad 0)), (1, .int x1), (2, .int x2)] → wH D (mT cy) (mW ad cy) A H0 s g f H locs → W p l e rm_M_lookNumbers s m args below meth c H locs 0 0 Q (F0 m 12 ls []) := by
  intro ls H locs hl hC
  unfold p_M_lookNumbers_L12 at hf
  refine lv_iload_n Fx.1 Fx.2.1 dX10_lookNumbers_12 rfl (lv_at hl 2 rfl) ?_
  refine lv_aload_n Fx.1 Fx.2.1 dX10_lookNumbers_13 rfl (lv_at hl 0 rfl) ?_
  refine gg_M_columns Fx hC wd_616 dX10_lookNumbers_14 ?_
  refine lv_icmp_ge (tgt := 166) Fx.1 Fx.2.1 dX10_lookNumbers_17 (by decide) (fun hc => ?_) (fun hc => ?_)
  · replace hf := ift hc hf
    obtain ⟨v1, ev1, hf⟩ := lt_e hf
    refine lv_iinc (v := v1) (lv' := [(1, .int v1), (0, .ref (ad 0)), (2, .int x2)]) Fx.1 Fx.2.1 dX10_lookNumbers_166 hl (k := 1) rfl ev1.symm (by decide) rfl (fun ls hl => ?_)
    refine lv_goto (tgt := 2) Fx.1 Fx.2.1 dX10_lookNumbers_169 (by decide) ?_
    exact hK2 _ hf _ _ _ (lv_sub hl [1, 0] rfl) hC
  · replace hf := iff_ hc hf
    refine lv_aload_n Fx.1 Fx.2.1 dX10_lookNumbers_20 rfl (lv_at hl 0 rfl) ?_
    refine lv_iload_n Fx.1 Fx.2.1 dX10_lookNumbers_21 rfl (lv_at hl 1 rfl) ?_
    refine lv_iload_n Fx.1 Fx.2.1 dX10_lookNumbers_22 rfl (lv_at hl 2 rfl) ?_
    obtain ⟨u2, hu2, hf⟩ := bd_e hf
    refine ca_i (As := [.int x1, .int x2]) (rest := []) Fx hC (k_M_begins hu2) (cVU 2 Fx.2.2.2.2 wd_827 wd_828 wd_903 wd_10 wd_829 rfl rfl hd_M_begins ⟨Nat.le_of_ble_eq_true rfl, Nat.le_of_ble_eq_true rfl⟩) 0 rfl rfl rfl hl.1 rfl (Nat.le_of_ble_eq_true rfl) dX10_lookNumbers_23 (fun H locs hC => ?_)
    refine lv_if_eq (tgt := 160) Fx.1 Fx.2.1 dX10_lookNumbers_26 (by decide) (fun hc => ?_) (fun hc => ?_)
    · replace hf := ift hc hf
      obtain ⟨v3, ev3, hf⟩ := lt_e hf
      refine lv_iinc (v := v3) (lv' := [(2, .int v3), (0, .ref (ad 0)), (1, .int x1)]) Fx.1 Fx.2.1 dX10_lookNumbers_160 hl (k := 2) rfl ev3.symm (by decide) rfl (fun ls hl => ?_)
      refine lv_goto (tgt := 12) Fx.1 Fx.2.1 dX10_lookNumbers_163 (by decide) ?_
      exact hK12 _ hf _ _ _ (lv_sub hl [1, 2, 0] rfl) hC
    · replace hf := iff_ hc hf
      refine lv_aload_n Fx.1 Fx.2.1 dX10_lookNumbers_29 rfl (lv_at hl 0 rfl) ?_
      refine lv_iload_n Fx.1 Fx.2.1 dX10_lookNumbers_30 rfl (lv_at hl 1 rfl) ?_
      refine lv_iload_n Fx.1 Fx.2.1 dX10_lookNumbers_31 rfl (lv_at hl 2 rfl) ?_
      obtain ⟨u4, hu4, hf⟩ := bd_e hf
      refine ca_i (As := [.int x1, .int x2]) (rest := []) Fx hC (k_M_lengthAt hu4) (cVU 2 Fx.2.2.2.2 wd_836 wd_837 wd_906 wd_10 wd_838 rfl rfl hd_M_lengthAt ⟨Nat.le_of_ble_eq_true rfl, Nat.le_of_ble_eq_true rfl⟩) 0 rfl rfl rfl hl.1 rfl (Nat.le_of_ble_eq_true rfl) dX10_lookNumbers_32 (fun H locs hC => ?_)
      refine lv_istore_n (lv' := [(3, .int u4), (0, .ref (ad 0)), (1, .int x1), (2, .int x2)]) Fx.1 Fx.2.1 dX10_lookNumbers_35 rfl hl (by decide) rfl (fun ls hl => ?_)
      refine lv_iload_n Fx.1 Fx.2.1 dX10_lookNumbers_36 rfl (lv_at hl 0 rfl) ?_
      refine lv_iconst (v := (2 : Int32)) Fx.1 Fx.2.1 dX10_lookNumbers_37 (by decide) ?_
      refine lv_icmp_gt (tgt := 62) Fx.1 Fx.2.1 dX10_lookNumbers_38 (by decide) (fun hc => ?_) (fun hc => ?_)
      · replace hf := ift hc hf
        exact s_M_lookNumbers_J62 Fx hret hK2 hK12 _ _ _ _  hf _ _ _ (lv_sub hl [1, 2, 3] rfl) hC
      · replace hf := iff_ hc hf
        refine lv_iload_n Fx.1 Fx.2.1 dX10_lookNumbers_41 rfl (lv_at hl 0 rfl) ?_
        refine lv_iconst (v := (2 : Int32)) Fx.1 Fx.2.1 dX10_lookNumbers_42 (by decide) ?_
        refine lv_icmp_ne (tgt := 66) Fx.1 Fx.2.1 dX10_lookNumbers_43 (by decide) (fun hc => ?_) (fun hc => ?_)
        · replace hf := iff_ hc hf
          exact s_M_lookNumbers_J66 Fx hret hK2 hK12 _ _ _ _  hf _ _ _ (lv_sub hl [1, 2, 3] rfl) hC
        · replace hf := ift hc hf
          refine lv_aload_n Fx.1 Fx.2.1 dX10_lookNumbers_46 rfl (lv_at hl 1 rfl) ?_
          refine gg_M_tape Fx hC wd_605 dX10_lookNumbers_47 ?_
          refine lv_aload_n Fx.1 Fx.2.1 dX10_lookNumbers_50 rfl (lv_at hl 1 rfl) ?_
          refine lv_iload_n Fx.1 Fx.2.1 dX10_lookNumbers_51 rfl (lv_at hl 2 rfl) ?_
          refine lv_iload_n Fx.1 Fx.2.1 dX10_lookNumbers_52 rfl (lv_at hl 3 rfl) ?_
          obtain ⟨u5, hu5, hf⟩ := bd_e hf
          refine ca_i (As := [.int x1, .int x2]) (rest := [.ref (ad 10)]) Fx hC (k_M_placeOf hu5) (cVU 2 Fx.2.2.2.2 wd_833 wd_834 wd_905 wd_10 wd_835 rfl rfl hd_M_placeOf ⟨Nat.le_of_ble_eq_true rfl, Nat.le_of_ble_eq_true rfl⟩) 0 rfl rfl rfl hl.1 rfl (Nat.le_of_ble_eq_true rfl) dX10_lookNumbers_53 (fun H locs hC => ?_)
          obtain ⟨hi6, hf⟩ := gd_e hf
          refine ld_M_tape Fx hC hi6 dX10_lookNumbers_56 ?_
          refine lv_bipush (v := (48 : Int32)) Fx.1 Fx.2.1 dX10_lookNumbers_57 (by decide) ?_
          refine lv_icmp_ne (tgt := 66) Fx.1 Fx.2.1 dX10_lookNumbers_59 (by decide) (fun hc => ?_) (fun hc => ?_)
          · replace hf := iff_ hc hf
            exact s_M_lookNumbers_J66 Fx hret hK2 hK12 _ _ _ _  hf _ _ _ (lv_sub hl [1, 2, 3] rfl) hC
          · replace hf := ift hc hf
            exact s_M_lookNumbers_J62 Fx hret hK2 hK12 _ _ _ _  hf _ _ _ (lv_sub hl [1, 2, 3] rfl) hC
set_option maxRecDepth 100000 in
set_option maxHeartbeats 4000000 in
theorem t_M_lookNumbers_L12 {K2 : (Int32 × sG × sF) → Option (sG × sF)} {p : Program} {l : Launch} {e : Env} {s : State} {m : MethodId} {args : Array Value} {below : List Frame} {meth : Method} {c : Code} {Q : State → Prop} {D : va_G} {ad : Nat → Nat} {cy : Nat → ClassId} {A : Nat → Prop} {H0 : Heap} {u : sG × sF} (Fx : CallFix p m c cX10_lookNumbers 6 s args (Cond.code yX10_lookNumbers cX10_lookNumbers 6 none :: wU) RX10) (hret : mRv p l e rm_M_lookNumbers s m args below meth c Q D (mT cy) (mW ad cy) A H0 cX10_lookNumbers u) (hK2 : ∀ (z : Int32 × sG × sF), K2 z = some u → ∀ (ls : Array Slot) (H : Heap) (locs : List Loc), lv_has ls 6 [(0, .ref (ad 0)), (1, .int z.1)] → wH D (mT cy) (mW ad cy) A H0 s z.2.1 z.2.2 H locs → W p l e rm_M_lookNumbers s m args below meth c H locs 0 0 Q (F0 m 2 ls [])) (n : Nat) (z : Int32 × Int32 × sG × sF) (hz : itr (fun K z => p_M_lookNumbers_L12 K2 K z.1 z.2.1 z.2.2.1 z.2.2.2) n z = some u) : ∀ (ls : Array Slot) (H : Heap) (locs : List Loc), lv_has ls 6 [(0, .ref (ad 0)), (1, .int z.1), (2, .int z.2.1)] → wH D (mT cy) (mW ad cy) A H0 s z.2.2.1 z.2.2.2 H locs → W p l e rm_M_lookNumbers s m args below meth c H locs 0 0 Q (F0 m 12 ls []) :=
  itr_all (B := fun K z => p_M_lookNumbers_L12 K2 K z.1 z.2.1 z.2.2.1 z.2.2.2) (r := u) (fun z => ∀ (ls : Array Slot) (H : Heap) (locs : List Loc), lv_has ls 6 [(0, .ref (ad 0)), (1, .int z.1), (2, .int z.2.1)] → wH D (mT cy) (mW ad cy) A H0 s z.2.2.1 z.2.2.2 H locs → W p l e rm_M_lookNumbers s m args below meth c H locs 0 0 Q (F0 m 12 ls [])) (fun K hK z h => s_M_lookNumbers_L12 (K12 := K) Fx hret hK2 hK z.1 z.2.1 z.2.2.1 z.2.2.2 h) n z hz
noncomputable def p_M_lookNumbers_L2 (K2 : (Int32 × sG × sF) → Option (sG × sF)) (x1 : Int32) (g : sG) (f : sF) : Option (sG × sF) := (if (g 0) ≤ x1 then some (g, f) else itr (fun K z => p_M_lookNumbers_L12 K2 K z.1 z.2.1 z.2.2.1 z.2.2.2) FUEL (x1, (0 : Int32), g, f))
set_option maxRecDepth 100000 in
set_option maxHeartbeats 4000000 in
theorem s_M_lookNumbers_L2 {K2 : (Int32 × sG × sF) → Option (sG × sF)} {p : Program} {l : Launch} {e : Env} {s : State} {m : MethodId} {args : Array Value} {below : List Frame} {meth : Method} {c : Code} {Q : State → Prop} {D : va_G} {ad : Nat → Nat} {cy : Nat → ClassId} {A : Nat → Prop} {H0 : Heap} {u : sG × sF} (Fx : CallFix p m c cX10_lookNumbers 6 s args (Cond.code yX10_lookNumbers cX10_lookNumbers 6 none :: wU) RX10) (hret : mRv p l e rm_M_lookNumbers s m args below meth c Q D (mT cy) (mW ad cy) A H0 cX10_lookNumbers u) (hK2 : ∀ (z : Int32 × sG × sF), K2 z = some u → ∀ (ls : Array Slot) (H : Heap) (locs : List Loc), lv_has ls 6 [(0, .ref (ad 0)), (1, .int z.1)] → wH D (mT cy) (mW ad cy) A H0 s z.2.1 z.2.2 H locs → W p l e rm_M_lookNumbers s m args below meth c H locs 0 0 Q (F0 m 2 ls [])) (x1 : Int32) (g : sG) (f : sF) (hf : p_M_lookNumbers_L2 K2 x1 g f = some u) : ∀ (ls : Array Slot) (H : Heap) (locs : List Loc), lv_has ls 6 [(0, .ref (ad 0)), (1, .int x1)] → wH D (mT cy) (mW ad cy) A H0 s g f H locs → W p l e rm_M_lookNumbers s m args below meth c H locs 0 0 Q (F0 m 2 ls []) := by
  intro ls H locs hl hC
  unfold p_M_lookNumbers_L2 at hf
  refine lv_iload_n Fx.1 Fx.2.1 dX10_lookNumbers_2 rfl (lv_at hl 1 rfl) ?_
  refine lv_aload_n Fx.1 Fx.2.1 dX10_lookNumbers_3 rfl (lv_at hl 0 rfl) ?_
  refine gg_M_strings Fx hC wd_590 dX10_lookNumbers_4 ?_
  refine lv_icmp_ge (tgt := 172) Fx.1 Fx.2.1 dX10_lookNumbers_7 (by decide) (fun hc => ?_) (fun hc => ?_)
  · replace hf := ift hc hf
    obtain rfl := Option.some.inj hf
    exact hret _ _ _ _ dX10_lookNumbers_172 hC
  · replace hf := iff_ hc hf
    refine lv_iconst (v := (0 : Int32)) Fx.1 Fx.2.1 dX10_lookNumbers_10 (by decide) ?_
    refine lv_istore_n (lv' := [(2, .int (0 : Int32)), (0, .ref (ad 0)), (1, .int x1)]) Fx.1 Fx.2.1 dX10_lookNumbers_11 rfl hl (by decide) rfl (fun ls hl => ?_)
    exact t_M_lookNumbers_L12 Fx hret hK2 _ _ hf _ _ _ (lv_sub hl [1, 2, 0] rfl) hC
set_option maxRecDepth 100000 in
set_option maxHeartbeats 4000000 in
theorem t_M_lookNumbers_L2 {p : Program} {l : Launch} {e : Env} {s : State} {m : MethodId} {args : Array Value} {below : List Frame} {meth : Method} {c : Code} {Q : State → Prop} {D : va_G} {ad : Nat → Nat} {cy : Nat → ClassId} {A : Nat → Prop} {H0 : Heap} {u : sG × sF} (Fx : CallFix p m c cX10_lookNumbers 6 s args (Cond.code yX10_lookNumbers cX10_lookNumbers 6 none :: wU) RX10) (hret : mRv p l e rm_M_lookNumbers s m args below meth c Q D (mT cy) (mW ad cy) A H0 cX10_lookNumbers u)  (n : Nat) (z : Int32 × sG × sF) (hz : itr (fun K z => p_M_lookNumbers_L2 K z.1 z.2.1 z.2.2) n z = some u) : ∀ (ls : Array Slot) (H : Heap) (locs : List Loc), lv_has ls 6 [(0, .ref (ad 0)), (1, .int z.1)] → wH D (mT cy) (mW ad cy) A H0 s z.2.1 z.2.2 H locs → W p l e rm_M_lookNumbers s m args below meth c H locs 0 0 Q (F0 m 2 ls []) :=
  itr_all (B := fun K z => p_M_lookNumbers_L2 K z.1 z.2.1 z.2.2) (r := u) (fun z => ∀ (ls : Array Slot) (H : Heap) (locs : List Loc), lv_has ls 6 [(0, .ref (ad 0)), (1, .int z.1)] → wH D (mT cy) (mW ad cy) A H0 s z.2.1 z.2.2 H locs → W p l e rm_M_lookNumbers s m args below meth c H locs 0 0 Q (F0 m 2 ls [])) (fun K hK z h => s_M_lookNumbers_L2 (K2 := K) Fx hret hK z.1 z.2.1 z.2.2 h) n z hz
noncomputable def p_M_lookNumbers  (g : sG) (f : sF) : Option (sG × sF) := itr (fun K z => p_M_lookNumbers_L2 K z.1 z.2.1 z.2.2) FUEL ((0 : Int32), g, f)
set_option maxRecDepth 100000 in
set_option maxHeartbeats 4000000 in
theorem k_M_lookNumbers {l : Launch} {D : va_G} {ad : Nat → Nat} {cy : Nat → ClassId}  {u : sG × sF} {g : sG} {f : sF} (hf : p_M_lookNumbers  g f = some u) : mMv l yX10_lookNumbers (Cond.code yX10_lookNumbers cX10_lookNumbers 6 none :: wU) rm_M_lookNumbers D (mT cy) (mW ad cy) [.ref (ad 0)] g f u := by
  refine mk_v (by decide) rfl (Nat.le_of_ble_eq_true rfl) ?_
  intro p e s m below meth c Q A H0 Fx hret ls H locs hl hC
  replace hl : lv_has ls 6 [(0, .ref (ad 0))] := hl
  unfold p_M_lookNumbers at hf
  refine lv_iconst (v := (0 : Int32)) Fx.1 Fx.2.1 dX10_lookNumbers_0 (by decide) ?_
  refine lv_istore_n (lv' := [(1, .int (0 : Int32)), (0, .ref (ad 0))]) Fx.1 Fx.2.1 dX10_lookNumbers_1 rfl hl (by decide) rfl (fun ls hl => ?_)
  exact t_M_lookNumbers_L2 Fx hret _ _ hf _ _ _ (lv_sub hl [1, 0] rfl) hC
/-! FretHandsModel.lookEvents()V -/
abbrev rm_M_lookEvents : Room := { frames := 5, cells := 0, slots := 0, locals := 110 }
theorem hd_M_lookEvents : yX10_lookEvents.cls = RX10 ∧ yX10_lookEvents.cls ≠ "java/lang/invoke/MethodHandle" ∧ yX10_lookEvents.cls ≠ "java/lang/invoke/VarHandle" ∧ (parseMethodDescriptor yX10_lookEvents.desc).map (fun d => d.parameters.length) = some 0 := by decide +kernel
noncomputable def p_M_lookEvents_J246 (K9 : (Int32 × Int32 × sG × sF) → Option (sG × sF)) (x1 : Int32) (x2 : Int32) (x3 : Int32) (g : sG) (f : sF) : Option (sG × sF) := (if x3 ≤ 0 then lt_ (x2 + (1 : Int32)) (fun v1 => K9 (x1, v1, g, f)) else (if (40 : Int32) ≤ (g 12) then lt_ (x2 + (1 : Int32)) (fun v2 => K9 (x1, v2, g, f)) else (if (g 12) < 0 ∨ 41 ≤ (g 12).toNatClampNeg then none else lt_ (up2 f 17 (g 12).toNatClampNeg x3) (fun f4 => lt_ (upd g 12 ((g 12) + (1 : Int32))) (fun g5 => lt_ (x2 + (1 : Int32)) (fun v6 => K9 (x1, v6, g5, f4)))))))
set_option maxRecDepth 100000 in
set_option maxHeartbeats 4000000 in
theorem s_M_lookEvents_J246 {K9 : (Int32 × Int32 × sG × sF) → Option (sG × sF)} {p : Program} {l : Launch} {e : Env} {s : State} {m : MethodId} {args : Array Value} {below : List Frame} {meth : Method} {c : Code} {Q : State → Prop} {D : va_G} {ad : Nat → Nat} {cy : Nat → ClassId} {A : Nat → Prop} {H0 : Heap} {u : sG × sF} (Fx : CallFix p m c cX10_lookEvents 9 s args (Cond.code yX10_lookEvents cX10_lookEvents 9 none :: wU) RX10) (hret : mRv p l e rm_M_lookEvents s m args below meth c Q D (mT cy) (mW ad cy) A H0 cX10_lookEvents u) (hK9 : ∀ (z : Int32 × Int32 × sG × sF), K9 z = some u → ∀ (ls : Array Slot) (H : Heap) (locs : List Loc), lv_has ls 9 [(0, .ref (ad 0)), (1, .int z.1), (2, .int z.2.1)] → wH D (mT cy) (mW ad cy) A H0 s z.2.2.1 z.2.2.2 H locs → W p l e rm_M_lookEvents s m args below meth c H locs 0 0 Q (F0 m 9 ls [])) (x1 : Int32) (x2 : Int32) (x3 : Int32) (g : sG) (f : sF) (hf : p_M_lookEvents_J246 K9 x1 x2 x3 g f = some u) : ∀ (ls : Array Slot) (H : Heap) (locs : List Loc), lv_has ls 9 [(0, .ref (ad 0)), (1, .int x1), (2, .int x2), (3, .int x3)] → wH D (mT cy) (mW ad cy) A H0 s g f H locs → W p l e rm_M_lookEvents s m args below meth c H locs 0 0 Q (F0 m 246 ls []) := by
  intro ls H locs hl hC
  unfold p_M_lookEvents_J246 at hf
  refine lv_iload_n Fx.1 Fx.2.1 dX10_lookEvents_246 rfl (lv_at hl 3 rfl) ?_
  refine lv_if_le (tgt := 279) Fx.1 Fx.2.1 dX10_lookEvents_247 (by decide) (fun hc => ?_) (fun hc => ?_)
  · replace hf := ift hc hf
    obtain ⟨v1, ev1, hf⟩ := lt_e hf
    refine lv_iinc (v := v1) (lv' := [(2, .int v1), (0, .ref (ad 0)), (1, .int x1), (3, .int x3)]) Fx.1 Fx.2.1 dX10_lookEvents_279 hl (k := 2) rfl ev1.symm (by decide) rfl (fun ls hl => ?_)
    refine lv_goto (tgt := 9) Fx.1 Fx.2.1 dX10_lookEvents_282 (by decide) ?_
    exact hK9 _ hf _ _ _ (lv_sub hl [1, 2, 0] rfl) hC
  · replace hf := iff_ hc hf
    refine lv_aload_n Fx.1 Fx.2.1 dX10_lookEvents_250 rfl (lv_at hl 0 rfl) ?_
    refine gg_M_newEvents Fx hC wd_619 dX10_lookEvents_251 ?_
    refine lv_bipush (v := (40 : Int32)) Fx.1 Fx.2.1 dX10_lookEvents_254 (by decide) ?_
    refine lv_icmp_ge (tgt := 279) Fx.1 Fx.2.1 dX10_lookEvents_256 (by decide) (fun hc => ?_) (fun hc => ?_)
    · replace hf := ift hc hf
      obtain ⟨v2, ev2, hf⟩ := lt_e hf
      refine lv_iinc (v := v2) (lv' := [(2, .int v2), (0, .ref (ad 0)), (1, .int x1), (3, .int x3)]) Fx.1 Fx.2.1 dX10_lookEvents_279 hl (k := 2) rfl ev2.symm (by decide) rfl (fun ls hl => ?_)
      refine lv_goto (tgt := 9) Fx.1 Fx.2.1 dX10_lookEvents_282 (by decide) ?_
      exact hK9 _ hf _ _ _ (lv_sub hl [1, 2, 0] rfl) hC
    · replace hf := iff_ hc hf
      refine lv_aload_n Fx.1 Fx.2.1 dX10_lookEvents_259 rfl (lv_at hl 0 rfl) ?_
      refine gg_M_newMany Fx hC wd_620 dX10_lookEvents_260 ?_
      refine lv_aload_n Fx.1 Fx.2.1 dX10_lookEvents_263 rfl (lv_at hl 0 rfl) ?_
      refine gg_M_newEvents Fx hC wd_619 dX10_lookEvents_264 ?_
      refine lv_iload_n Fx.1 Fx.2.1 dX10_lookEvents_267 rfl (lv_at hl 3 rfl) ?_
      obtain ⟨hi3, hf⟩ := gd_e hf
      obtain ⟨f4, ef4, hf⟩ := lt_e hf
      refine st_M_newMany Fx hC hi3 ef4 dX10_lookEvents_268 (fun H locs hC => ?_)
      refine lv_aload_n Fx.1 Fx.2.1 dX10_lookEvents_269 rfl (lv_at hl 0 rfl) ?_
      refine lv_dup Fx.1 Fx.2.1 dX10_lookEvents_270 rfl ?_
      refine gg_M_newEvents Fx hC wd_619 dX10_lookEvents_271 ?_
      refine lv_iconst (v := (1 : Int32)) Fx.1 Fx.2.1 dX10_lookEvents_274 (by decide) ?_
      refine lv_iadd Fx.1 Fx.2.1 dX10_lookEvents_275 ?_
      obtain ⟨g5, eg5, hf⟩ := lt_e hf
      refine gp_M_newEvents Fx hC wd_619 eg5 dX10_lookEvents_276 (fun H locs hC => ?_)
      obtain ⟨v6, ev6, hf⟩ := lt_e hf
      refine lv_iinc (v := v6) (lv' := [(2, .int v6), (0, .ref (ad 0)), (1, .int x1), (3, .int x3)]) Fx.1 Fx.2.1 dX10_lookEvents_279 hl (k := 2) rfl ev6.symm (by decide) rfl (fun ls hl => ?_)
      refine lv_goto (tgt := 9) Fx.1 Fx.2.1 dX10_lookEvents_282 (by decide) ?_
      exact hK9 _ hf _ _ _ (lv_sub hl [1, 2, 0] rfl) hC
noncomputable def p_M_lookEvents_J220 (K9 : (Int32 × Int32 × sG × sF) → Option (sG × sF)) (x1 : Int32) (x2 : Int32) (x3 : Int32) (x4 : Int32) (g : sG) (f : sF) : Option (sG × sF) := (if x3 ≤ 0 then p_M_lookEvents_J246 K9 x1 x2 x3 g f else (if (g 12) = (40 : Int32) then (if x1 = 0 then Option.bind (p_M_faults (5 : Int32) x4 g f) (fun u1 => p_M_lookEvents_J246 K9 (1 : Int32) x2 x3 u1.1 u1.2) else p_M_lookEvents_J246 K9 x1 x2 x3 g f) else p_M_lookEvents_J246 K9 x1 x2 x3 g f))
set_option maxRecDepth 100000 in
set_option maxHeartbeats 4000000 in
theorem s_M_lookEvents_J220 {K9 : (Int32 × Int32 × sG × sF) → Option (sG × sF)} {p : Program} {l : Launch} {e : Env} {s : State} {m : MethodId} {args : Array Value} {below : List Frame} {meth : Method} {c : Code} {Q : State → Prop} {D : va_G} {ad : Nat → Nat} {cy : Nat → ClassId} {A : Nat → Prop} {H0 : Heap} {u : sG × sF} (Fx : CallFix p m c cX10_lookEvents 9 s args (Cond.code yX10_lookEvents cX10_lookEvents 9 none :: wU) RX10) (hret : mRv p l e rm_M_lookEvents s m args below meth c Q D (mT cy) (mW ad cy) A H0 cX10_lookEvents u) (hK9 : ∀ (z : Int32 × Int32 × sG × sF), K9 z = some u → ∀ (ls : Array Slot) (H : Heap) (locs : List Loc), lv_has ls 9 [(0, .ref (ad 0)), (1, .int z.1), (2, .int z.2.1)] → wH D (mT cy) (mW ad cy) A H0 s z.2.2.1 z.2.2.2 H locs → W p l e rm_M_lookEvents s m args below meth c H locs 0 0 Q (F0 m 9 ls [])) (x1 : Int32) (x2 : Int32) (x3 : Int32) (x4 : Int32) (g : sG) (f : sF) (hf : p_M_lookEvents_J220 K9 x1 x2 x3 x4 g f = some u) : ∀ (ls : Array Slot) (H : Heap) (locs : List Loc), lv_has ls 9 [(0, .ref (ad 0)), (1, .int x1), (2, .int x2), (3, .int x3), (4, .int x4)] → wH D (mT cy) (mW ad cy) A H0 s g f H locs → W p l e rm_M_lookEvents s m args below meth c H locs 0 0 Q (F0 m 220 ls []) := by
  intro ls H locs hl hC
  unfold p_M_lookEvents_J220 at hf
  refine lv_iload_n Fx.1 Fx.2.1 dX10_lookEvents_220 rfl (lv_at hl 3 rfl) ?_
  refine lv_if_le (tgt := 246) Fx.1 Fx.2.1 dX10_lookEvents_221 (by decide) (fun hc => ?_) (fun hc => ?_)
  · replace hf := ift hc hf
    exact s_M_lookEvents_J246 Fx hret hK9 _ _ _ _ _  hf _ _ _ (lv_sub hl [0, 1, 2, 3] rfl) hC
  · replace hf := iff_ hc hf
    refine lv_aload_n Fx.1 Fx.2.1 dX10_lookEvents_224 rfl (lv_at hl 0 rfl) ?_
    refine gg_M_newEvents Fx hC wd_619 dX10_lookEvents_225 ?_
    refine lv_bipush (v := (40 : Int32)) Fx.1 Fx.2.1 dX10_lookEvents_228 (by decide) ?_
    refine lv_icmp_ne (tgt := 246) Fx.1 Fx.2.1 dX10_lookEvents_230 (by decide) (fun hc => ?_) (fun hc => ?_)
    · replace hf := iff_ hc hf
      exact s_M_lookEvents_J246 Fx hret hK9 _ _ _ _ _  hf _ _ _ (lv_sub hl [0, 1, 2, 3] rfl) hC
    · replace hf := ift hc hf
      refine lv_iload_n Fx.1 Fx.2.1 dX10_lookEvents_233 rfl (lv_at hl 1 rfl) ?_
      refine lv_if_ne (tgt := 246) Fx.1 Fx.2.1 dX10_lookEvents_234 (by decide) (fun hc => ?_) (fun hc => ?_)
      · replace hf := iff_ hc hf
        exact s_M_lookEvents_J246 Fx hret hK9 _ _ _ _ _  hf _ _ _ (lv_sub hl [0, 1, 2, 3] rfl) hC
      · replace hf := ift hc hf
        refine lv_aload_n Fx.1 Fx.2.1 dX10_lookEvents_237 rfl (lv_at hl 0 rfl) ?_
        refine lv_iconst (v := (5 : Int32)) Fx.1 Fx.2.1 dX10_lookEvents_238 (by decide) ?_
        refine lv_iload Fx.1 Fx.2.1 dX10_lookEvents_239 (lv_at hl 4 rfl) ?_
        obtain ⟨u1, hu1, hf⟩ := bd_e hf
        refine ca_v (As := [.int (5 : Int32), .int x4]) (rest := []) Fx hC (k_M_faults hu1) (cVU 2 Fx.2.2.2.2 wd_818 wd_819 wd_901 wd_10 wd_820 rfl rfl hd_M_faults ⟨Nat.le_of_ble_eq_true rfl, Nat.le_of_ble_eq_true rfl⟩) 0 rfl rfl rfl hl.1 rfl (Nat.le_of_ble_eq_true rfl) dX10_lookEvents_241 (fun H locs hC => ?_)
        refine lv_iconst (v := (1 : Int32)) Fx.1 Fx.2.1 dX10_lookEvents_244 (by decide) ?_
        refine lv_istore_n (lv' := [(1, .int (1 : Int32)), (0, .ref (ad 0)), (2, .int x2), (3, .int x3), (4, .int x4)]) Fx.1 Fx.2.1 dX10_lookEvents_245 rfl hl (by decide) rfl (fun ls hl => ?_)
        exact s_M_lookEvents_J246 Fx hret hK9 _ _ _ _ _  hf _ _ _ (lv_sub hl [1, 0, 2, 3] rfl) hC
noncomputable def p_M_lookEvents_J213 (K9 : (Int32 × Int32 × sG × sF) → Option (sG × sF)) (x1 : Int32) (x2 : Int32) (x3 : Int32) (x4 : Int32) (g : sG) (f : sF) : Option (sG × sF) := Option.bind (p_M_faults (4 : Int32) x4 g f) (fun u1 => p_M_lookEvents_J220 K9 x1 x2 x3 x4 u1.1 u1.2)
set_option maxRecDepth 100000 in
set_option maxHeartbeats 4000000 in
theorem s_M_lookEvents_J213 {K9 : (Int32 × Int32 × sG × sF) → Option (sG × sF)} {p : Program} {l : Launch} {e : Env} {s : State} {m : MethodId} {args : Array Value} {below : List Frame} {meth : Method} {c : Code} {Q : State → Prop} {D : va_G} {ad : Nat → Nat} {cy : Nat → ClassId} {A : Nat → Prop} {H0 : Heap} {u : sG × sF} (Fx : CallFix p m c cX10_lookEvents 9 s args (Cond.code yX10_lookEvents cX10_lookEvents 9 none :: wU) RX10) (hret : mRv p l e rm_M_lookEvents s m args below meth c Q D (mT cy) (mW ad cy) A H0 cX10_lookEvents u) (hK9 : ∀ (z : Int32 × Int32 × sG × sF), K9 z = some u → ∀ (ls : Array Slot) (H : Heap) (locs : List Loc), lv_has ls 9 [(0, .ref (ad 0)), (1, .int z.1), (2, .int z.2.1)] → wH D (mT cy) (mW ad cy) A H0 s z.2.2.1 z.2.2.2 H locs → W p l e rm_M_lookEvents s m args below meth c H locs 0 0 Q (F0 m 9 ls [])) (x1 : Int32) (x2 : Int32) (x3 : Int32) (x4 : Int32) (g : sG) (f : sF) (hf : p_M_lookEvents_J213 K9 x1 x2 x3 x4 g f = some u) : ∀ (ls : Array Slot) (H : Heap) (locs : List Loc), lv_has ls 9 [(0, .ref (ad 0)), (1, .int x1), (2, .int x2), (3, .int x3), (4, .int x4)] → wH D (mT cy) (mW ad cy) A H0 s g f H locs → W p l e rm_M_lookEvents s m args below meth c H locs 0 0 Q (F0 m 213 ls []) := by
  intro ls H locs hl hC
  unfold p_M_lookEvents_J213 at hf
  refine lv_aload_n Fx.1 Fx.2.1 dX10_lookEvents_213 rfl (lv_at hl 0 rfl) ?_
  refine lv_iconst (v := (4 : Int32)) Fx.1 Fx.2.1 dX10_lookEvents_214 (by decide) ?_
  refine lv_iload Fx.1 Fx.2.1 dX10_lookEvents_215 (lv_at hl 4 rfl) ?_
  obtain ⟨u1, hu1, hf⟩ := bd_e hf
  refine ca_v (As := [.int (4 : Int32), .int x4]) (rest := []) Fx hC (k_M_faults hu1) (cVU 2 Fx.2.2.2.2 wd_818 wd_819 wd_901 wd_10 wd_820 rfl rfl hd_M_faults ⟨Nat.le_of_ble_eq_true rfl, Nat.le_of_ble_eq_true rfl⟩) 0 rfl rfl rfl hl.1 rfl (Nat.le_of_ble_eq_true rfl) dX10_lookEvents_217 (fun H locs hC => ?_)
  exact s_M_lookEvents_J220 Fx hret hK9 _ _ _ _ _ _  hf _ _ _ (lv_sub hl [0, 1, 2, 3, 4] rfl) hC
noncomputable def p_M_lookEvents_L90 (K9 : (Int32 × Int32 × sG × sF) → Option (sG × sF)) (K28 : (Int32 × Int32 × Int32 × Int32 × Int32 × Int32 × sG × sF) → Option (sG × sF)) (K90 : (Int32 × Int32 × Int32 × Int32 × Int32 × Int32 × Int32 × Int32 × sG × sF) → Option (sG × sF)) (x1 : Int32) (x2 : Int32) (x3 : Int32) (x4 : Int32) (x5 : Int32) (x6 : Int32) (x7 : Int32) (x8 : Int32) (g : sG) (f : sF) : Option (sG × sF) := (if x6 ≤ x8 then (if (4 : Int32) ≤ x3 then lt_ (x3 + (1 : Int32)) (fun v1 => lt_ (x6 + (1 : Int32)) (fun v2 => K28 (x1, x2, v1, x4, x5, v2, g, f))) else (if (40 : Int32) ≤ (g 12) then lt_ (x3 + (1 : Int32)) (fun v3 => lt_ (x6 + (1 : Int32)) (fun v4 => K28 (x1, x2, v3, x4, x5, v4, g, f))) else (if (((4 : Int32) * (g 12)) + x3) < 0 ∨ 164 ≤ (((4 : Int32) * (g 12)) + x3).toNatClampNeg then none else lt_ (up2 f 18 (((4 : Int32) * (g 12)) + x3).toNatClampNeg x7) (fun f6 => (if (((4 : Int32) * (g 12)) + x3) < 0 ∨ 164 ≤ (((4 : Int32) * (g 12)) + x3).toNatClampNeg then none else lt_ (up2 f6 19 (((4 : Int32) * (g 12)) + x3).toNatClampNeg x6) (fun f8 => lt_ (x3 + (1 : Int32)) (fun v9 => lt_ (x6 + (1 : Int32)) (fun v10 => K28 (x1, x2, v9, x4, x5, v10, g, f8))))))))) else (if x5 = 0 then Option.bind (p_M_begins x8 x2 g f) (fun u12 => (if u12 = 0 then lt_ (x8 + (1 : Int32)) (fun v13 => K90 (x1, x2, x3, x4, (0 : Int32), x6, x7, v13, g, f)) else (if x8 < 0 ∨ 7 ≤ x8.toNatClampNeg then none else Option.bind (p_M_valueAt x8 x2 g f) (fun u15 => (if (((f 0 x8.toNatClampNeg) + (g 2)) + u15) = x7 then lt_ (x8 + (1 : Int32)) (fun v17 => K90 (x1, x2, x3, x4, (1 : Int32), x6, x7, v17, g, f)) else lt_ (x8 + (1 : Int32)) (fun v16 => K90 (x1, x2, x3, x4, (0 : Int32), x6, x7, v16, g, f))))))) else lt_ (x8 + (1 : Int32)) (fun v11 => K90 (x1, x2, x3, x4, (1 : Int32), x6, x7, v11, g, f))))
set_option maxRecDepth 100000 in
set_option maxHeartbeats 4000000 in
theorem s_M_lookEvents_L90 {K9 : (Int32 × Int32 × sG × sF) → Option (sG × sF)} {K28 : (Int32 × Int32 × Int32 × Int32 × Int32 × Int32 × sG × sF) → Option (sG × sF)} {K90 : (Int32 × Int32 × Int32 × Int32 × Int32 × Int32 × Int32 × Int32 × sG × sF) → Option (sG × sF)} {p : Program} {l : Launch} {e : Env} {s : State} {m : MethodId} {args : Array Value} {below : List Frame} {meth : Method} {c : Code} {Q : State → Prop} {D : va_G} {ad : Nat → Nat} {cy : Nat → ClassId} {A : Nat → Prop} {H0 : Heap} {u : sG × sF} (Fx : CallFix p m c cX10_lookEvents 9 s args (Cond.code yX10_lookEvents cX10_lookEvents 9 none :: wU) RX10) (hret : mRv p l e rm_M_lookEvents s m args below meth c Q D (mT cy) (mW ad cy) A H0 cX10_lookEvents u) (hK9 : ∀ (z : Int32 × Int32 × sG × sF), K9 z = some u → ∀ (ls : Array Slot) (H : Heap) (locs : List Loc), lv_has ls 9 [(0, .ref (ad 0)), (1, .int z.1), (2, .int z.2.1)] → wH D (mT cy) (mW ad cy) A H0 s z.2.2.1 z.2.2.2 H locs → W p l e rm_M_lookEvents s m args below meth c H locs 0 0 Q (F0 m 9 ls [])) (hK28 : ∀ (z : Int32 × Int32 × Int32 × Int32 × Int32 × Int32 × sG × sF), K28 z = some u → ∀ (ls : Array Slot) (H : Heap) (locs : List Loc), lv_has ls 9 [(0, .ref (ad 0)), (1, .int z.1), (2, .int z.2.1), (3, .int z.2.2.1), (4, .int z.2.2.2.1), (5, .int z.2.2.2.2.1), (6, .int z.2.2.2.2.2.1)] → wH D (mT cy) (mW ad cy) A H0 s z.2.2.2.2.2.2.1 z.2.2.2.2.2.2.2 H locs → W p l e rm_M_lookEvents s m args below meth c H locs 0 0 Q (F0 m 28 ls [])) (hK90 : ∀ (z : Int32 × Int32 × Int32 × Int32 × Int32 × Int32 × Int32 × Int32 × sG × sF), K90 z = some u → ∀ (ls : Array Slot) (H : Heap) (locs : List Loc), lv_has ls 9 [(0, .ref (ad 0)), (1, .int z.1), (2, .int z.2.1), (3, .int z.2.2.1), (4, .int z.2.2.2.1), (5, .int z.2.2.2.2.1), (6, .int z.2.2.2.2.2.1), (7, .int z.2.2.2.2.2.2.1), (8, .int z.2.2.2.2.2.2.2.1)] → wH D (mT cy) (mW ad cy) A H0 s z.2.2.2.2.2.2.2.2.1 z.2.2.2.2.2.2.2.2.2 H locs → W p l e rm_M_lookEvents s m args below meth c H locs 0 0 Q (F0 m 90 ls [])) (x1 : Int32) (x2 : Int32) (x3 : Int32) (x4 : Int32) (x5 : Int32) (x6 : Int32) (x7 : Int32) (x8 : Int32) (g : sG) (f : sF) (hf : p_M_lookEvents_L90 K9 K28 K90 x1 x2 x3 x4 x5 x6 x7 x8 g f = some u) : ∀ (ls : Array Slot) (H : Heap) (locs : List Loc), lv_has ls 9 [(0, .ref (ad 0)), (1, .int x1), (2, .int x2), (3, .int x3), (4, .int x4), (5, .int x5), (6, .int x6), (7, .int x7), (8, .int x8)] → wH D (mT cy) (mW ad cy) A H0 s g f H locs → W p l e rm_M_lookEvents s m args below meth c H locs 0 0 Q (F0 m 90 ls []) := by
  intro ls H locs hl hC
  unfold p_M_lookEvents_L90 at hf
  refine lv_iload Fx.1 Fx.2.1 dX10_lookEvents_90 (lv_at hl 8 rfl) ?_
  refine lv_iload Fx.1 Fx.2.1 dX10_lookEvents_92 (lv_at hl 6 rfl) ?_
  refine lv_icmp_ge (tgt := 150) Fx.1 Fx.2.1 dX10_lookEvents_94 (by decide) (fun hc => ?_) (fun hc => ?_)
  · replace hf := ift hc hf
    refine lv_iload_n Fx.1 Fx.2.1 dX10_lookEvents_150 rfl (lv_at hl 3 rfl) ?_
    refine lv_iconst (v := (4 : Int32)) Fx.1 Fx.2.1 dX10_lookEvents_151 (by decide) ?_
    refine lv_icmp_ge (tgt := 194) Fx.1 Fx.2.1 dX10_lookEvents_152 (by decide) (fun hc => ?_) (fun hc => ?_)
    · replace hf := ift hc hf
      obtain ⟨v1, ev1, hf⟩ := lt_e hf
      refine lv_iinc (v := v1) (lv' := [(3, .int v1), (0, .ref (ad 0)), (1, .int x1), (2, .int x2), (4, .int x4), (5, .int x5), (6, .int x6), (7, .int x7), (8, .int x8)]) Fx.1 Fx.2.1 dX10_lookEvents_194 hl (k := 3) rfl ev1.symm (by decide) rfl (fun ls hl => ?_)
      obtain ⟨v2, ev2, hf⟩ := lt_e hf
      refine lv_iinc (v := v2) (lv' := [(6, .int v2), (3, .int v1), (0, .ref (ad 0)), (1, .int x1), (2, .int x2), (4, .int x4), (5, .int x5), (7, .int x7), (8, .int x8)]) Fx.1 Fx.2.1 dX10_lookEvents_197 hl (k := 6) rfl ev2.symm (by decide) rfl (fun ls hl => ?_)
      refine lv_goto (tgt := 28) Fx.1 Fx.2.1 dX10_lookEvents_200 (by decide) ?_
      exact hK28 _ hf _ _ _ (lv_sub hl [2, 3, 4, 1, 5, 6, 0] rfl) hC
    · replace hf := iff_ hc hf
      refine lv_aload_n Fx.1 Fx.2.1 dX10_lookEvents_155 rfl (lv_at hl 0 rfl) ?_
      refine gg_M_newEvents Fx hC wd_619 dX10_lookEvents_156 ?_
      refine lv_bipush (v := (40 : Int32)) Fx.1 Fx.2.1 dX10_lookEvents_159 (by decide) ?_
      refine lv_icmp_ge (tgt := 194) Fx.1 Fx.2.1 dX10_lookEvents_161 (by decide) (fun hc => ?_) (fun hc => ?_)
      · replace hf := ift hc hf
        obtain ⟨v3, ev3, hf⟩ := lt_e hf
        refine lv_iinc (v := v3) (lv' := [(3, .int v3), (0, .ref (ad 0)), (1, .int x1), (2, .int x2), (4, .int x4), (5, .int x5), (6, .int x6), (7, .int x7), (8, .int x8)]) Fx.1 Fx.2.1 dX10_lookEvents_194 hl (k := 3) rfl ev3.symm (by decide) rfl (fun ls hl => ?_)
        obtain ⟨v4, ev4, hf⟩ := lt_e hf
        refine lv_iinc (v := v4) (lv' := [(6, .int v4), (3, .int v3), (0, .ref (ad 0)), (1, .int x1), (2, .int x2), (4, .int x4), (5, .int x5), (7, .int x7), (8, .int x8)]) Fx.1 Fx.2.1 dX10_lookEvents_197 hl (k := 6) rfl ev4.symm (by decide) rfl (fun ls hl => ?_)
        refine lv_goto (tgt := 28) Fx.1 Fx.2.1 dX10_lookEvents_200 (by decide) ?_
        exact hK28 _ hf _ _ _ (lv_sub hl [2, 3, 4, 1, 5, 6, 0] rfl) hC
      · replace hf := iff_ hc hf
        refine lv_aload_n Fx.1 Fx.2.1 dX10_lookEvents_164 rfl (lv_at hl 0 rfl) ?_
        refine gg_M_newPitches Fx hC wd_621 dX10_lookEvents_165 ?_
        refine lv_iconst (v := (4 : Int32)) Fx.1 Fx.2.1 dX10_lookEvents_168 (by decide) ?_
        refine lv_aload_n Fx.1 Fx.2.1 dX10_lookEvents_169 rfl (lv_at hl 0 rfl) ?_
        refine gg_M_newEvents Fx hC wd_619 dX10_lookEvents_170 ?_
        refine lv_imul Fx.1 Fx.2.1 dX10_lookEvents_173 ?_
        refine lv_iload_n Fx.1 Fx.2.1 dX10_lookEvents_174 rfl (lv_at hl 3 rfl) ?_
        refine lv_iadd Fx.1 Fx.2.1 dX10_lookEvents_175 ?_
        refine lv_iload Fx.1 Fx.2.1 dX10_lookEvents_176 (lv_at hl 7 rfl) ?_
        obtain ⟨hi5, hf⟩ := gd_e hf
        obtain ⟨f6, ef6, hf⟩ := lt_e hf
        refine st_M_newPitches Fx hC hi5 ef6 dX10_lookEvents_178 (fun H locs hC => ?_)
        refine lv_aload_n Fx.1 Fx.2.1 dX10_lookEvents_179 rfl (lv_at hl 0 rfl) ?_
        refine gg_M_newBounds Fx hC wd_622 dX10_lookEvents_180 ?_
        refine lv_iconst (v := (4 : Int32)) Fx.1 Fx.2.1 dX10_lookEvents_183 (by decide) ?_
        refine lv_aload_n Fx.1 Fx.2.1 dX10_lookEvents_184 rfl (lv_at hl 0 rfl) ?_
        refine gg_M_newEvents Fx hC wd_619 dX10_lookEvents_185 ?_
        refine lv_imul Fx.1 Fx.2.1 dX10_lookEvents_188 ?_
        refine lv_iload_n Fx.1 Fx.2.1 dX10_lookEvents_189 rfl (lv_at hl 3 rfl) ?_
        refine lv_iadd Fx.1 Fx.2.1 dX10_lookEvents_190 ?_
        refine lv_iload Fx.1 Fx.2.1 dX10_lookEvents_191 (lv_at hl 6 rfl) ?_
        obtain ⟨hi7, hf⟩ := gd_e hf
        obtain ⟨f8, ef8, hf⟩ := lt_e hf
        refine st_M_newBounds Fx hC hi7 ef8 dX10_lookEvents_193 (fun H locs hC => ?_)
        obtain ⟨v9, ev9, hf⟩ := lt_e hf
        refine lv_iinc (v := v9) (lv' := [(3, .int v9), (0, .ref (ad 0)), (1, .int x1), (2, .int x2), (4, .int x4), (5, .int x5), (6, .int x6), (7, .int x7), (8, .int x8)]) Fx.1 Fx.2.1 dX10_lookEvents_194 hl (k := 3) rfl ev9.symm (by decide) rfl (fun ls hl => ?_)
        obtain ⟨v10, ev10, hf⟩ := lt_e hf
        refine lv_iinc (v := v10) (lv' := [(6, .int v10), (3, .int v9), (0, .ref (ad 0)), (1, .int x1), (2, .int x2), (4, .int x4), (5, .int x5), (7, .int x7), (8, .int x8)]) Fx.1 Fx.2.1 dX10_lookEvents_197 hl (k := 6) rfl ev10.symm (by decide) rfl (fun ls hl => ?_)
        refine lv_goto (tgt := 28) Fx.1 Fx.2.1 dX10_lookEvents_200 (by decide) ?_
        exact hK28 _ hf _ _ _ (lv_sub hl [2, 3, 4, 1, 5, 6, 0] rfl) hC
  · replace hf := iff_ hc hf
    refine lv_iload Fx.1 Fx.2.1 dX10_lookEvents_97 (lv_at hl 5 rfl) ?_
    refine lv_if_ne (tgt := 137) Fx.1 Fx.2.1 dX10_lookEvents_99 (by decide) (fun hc => ?_) (fun hc => ?_)
    · replace hf := iff_ hc hf
      refine lv_iconst (v := (1 : Int32)) Fx.1 Fx.2.1 dX10_lookEvents_137 (by decide) ?_
      refine lv_goto (tgt := 142) Fx.1 Fx.2.1 dX10_lookEvents_138 (by decide) ?_
      refine lv_istore (lv' := [(5, .int (1 : Int32)), (0, .ref (ad 0)), (1, .int x1), (2, .int x2), (3, .int x3), (4, .int x4), (6, .int x6), (7, .int x7), (8, .int x8)]) Fx.1 Fx.2.1 dX10_lookEvents_142 hl (by decide) rfl (fun ls hl => ?_)
      obtain ⟨v11, ev11, hf⟩ := lt_e hf
      refine lv_iinc (v := v11) (lv' := [(8, .int v11), (5, .int (1 : Int32)), (0, .ref (ad 0)), (1, .int x1), (2, .int x2), (3, .int x3), (4, .int x4), (6, .int x6), (7, .int x7)]) Fx.1 Fx.2.1 dX10_lookEvents_144 hl (k := 8) rfl ev11.symm (by decide) rfl (fun ls hl => ?_)
      refine lv_goto (tgt := 90) Fx.1 Fx.2.1 dX10_lookEvents_147 (by decide) ?_
      exact hK90 _ hf _ _ _ (lv_sub hl [2, 3, 4, 5, 6, 1, 7, 8, 0] rfl) hC
    · replace hf := ift hc hf
      refine lv_aload_n Fx.1 Fx.2.1 dX10_lookEvents_102 rfl (lv_at hl 0 rfl) ?_
      refine lv_iload Fx.1 Fx.2.1 dX10_lookEvents_103 (lv_at hl 8 rfl) ?_
      refine lv_iload_n Fx.1 Fx.2.1 dX10_lookEvents_105 rfl (lv_at hl 2 rfl) ?_
      obtain ⟨u12, hu12, hf⟩ := bd_e hf
      refine ca_i (As := [.int x8, .int x2]) (rest := []) Fx hC (k_M_begins hu12) (cVU 2 Fx.2.2.2.2 wd_827 wd_828 wd_903 wd_10 wd_829 rfl rfl hd_M_begins ⟨Nat.le_of_ble_eq_true rfl, Nat.le_of_ble_eq_true rfl⟩) 0 rfl rfl rfl hl.1 rfl (Nat.le_of_ble_eq_true rfl) dX10_lookEvents_106 (fun H locs hC => ?_)
      refine lv_if_eq (tgt := 141) Fx.1 Fx.2.1 dX10_lookEvents_109 (by decide) (fun hc => ?_) (fun hc => ?_)
      · replace hf := ift hc hf
        refine lv_iconst (v := (0 : Int32)) Fx.1 Fx.2.1 dX10_lookEvents_141 (by decide) ?_
        refine lv_istore (lv' := [(5, .int (0 : Int32)), (0, .ref (ad 0)), (1, .int x1), (2, .int x2), (3, .int x3), (4, .int x4), (6, .int x6), (7, .int x7), (8, .int x8)]) Fx.1 Fx.2.1 dX10_lookEvents_142 hl (by decide) rfl (fun ls hl => ?_)
        obtain ⟨v13, ev13, hf⟩ := lt_e hf
        refine lv_iinc (v := v13) (lv' := [(8, .int v13), (5, .int (0 : Int32)), (0, .ref (ad 0)), (1, .int x1), (2, .int x2), (3, .int x3), (4, .int x4), (6, .int x6), (7, .int x7)]) Fx.1 Fx.2.1 dX10_lookEvents_144 hl (k := 8) rfl ev13.symm (by decide) rfl (fun ls hl => ?_)
        refine lv_goto (tgt := 90) Fx.1 Fx.2.1 dX10_lookEvents_147 (by decide) ?_
        exact hK90 _ hf _ _ _ (lv_sub hl [2, 3, 4, 5, 6, 1, 7, 8, 0] rfl) hC
      · replace hf := iff_ hc hf
        refine lv_aload_n Fx.1 Fx.2.1 dX10_lookEvents_112 rfl (lv_at hl 0 rfl) ?_
        refine gg_M_tuned Fx hC wd_591 dX10_lookEvents_113 ?_
        refine lv_iload Fx.1 Fx.2.1 dX10_lookEvents_116 (lv_at hl 8 rfl) ?_
        obtain ⟨hi14, hf⟩ := gd_e hf
        refine ld_M_tuned Fx hC hi14 dX10_lookEvents_118 ?_
        refine lv_aload_n Fx.1 Fx.2.1 dX10_lookEvents_119 rfl (lv_at hl 0 rfl) ?_
        refine gg_M_capo Fx hC wd_593 dX10_lookEvents_120 ?_
        refine lv_iadd Fx.1 Fx.2.1 dX10_lookEvents_123 ?_
        refine lv_aload_n Fx.1 Fx.2.1 dX10_lookEvents_124 rfl (lv_at hl 0 rfl) ?_
        refine lv_iload Fx.1 Fx.2.1 dX10_lookEvents_125 (lv_at hl 8 rfl) ?_
        refine lv_iload_n Fx.1 Fx.2.1 dX10_lookEvents_127 rfl (lv_at hl 2 rfl) ?_
        obtain ⟨u15, hu15, hf⟩ := bd_e hf
        refine ca_i (As := [.int x8, .int x2]) (rest := [.int ((f 0 x8.toNatClampNeg) + (g 2))]) Fx hC (k_M_valueAt hu15) (cVU 2 Fx.2.2.2.2 wd_839 wd_840 wd_907 wd_10 wd_841 rfl rfl hd_M_valueAt ⟨Nat.le_of_ble_eq_true rfl, Nat.le_of_ble_eq_true rfl⟩) 0 rfl rfl rfl hl.1 rfl (Nat.le_of_ble_eq_true rfl) dX10_lookEvents_128 (fun H locs hC => ?_)
        refine lv_iadd Fx.1 Fx.2.1 dX10_lookEvents_131 ?_
        refine lv_iload Fx.1 Fx.2.1 dX10_lookEvents_132 (lv_at hl 7 rfl) ?_
        refine lv_icmp_ne (tgt := 141) Fx.1 Fx.2.1 dX10_lookEvents_134 (by decide) (fun hc => ?_) (fun hc => ?_)
        · replace hf := iff_ hc hf
          refine lv_iconst (v := (0 : Int32)) Fx.1 Fx.2.1 dX10_lookEvents_141 (by decide) ?_
          refine lv_istore (lv' := [(5, .int (0 : Int32)), (0, .ref (ad 0)), (1, .int x1), (2, .int x2), (3, .int x3), (4, .int x4), (6, .int x6), (7, .int x7), (8, .int x8)]) Fx.1 Fx.2.1 dX10_lookEvents_142 hl (by decide) rfl (fun ls hl => ?_)
          obtain ⟨v16, ev16, hf⟩ := lt_e hf
          refine lv_iinc (v := v16) (lv' := [(8, .int v16), (5, .int (0 : Int32)), (0, .ref (ad 0)), (1, .int x1), (2, .int x2), (3, .int x3), (4, .int x4), (6, .int x6), (7, .int x7)]) Fx.1 Fx.2.1 dX10_lookEvents_144 hl (k := 8) rfl ev16.symm (by decide) rfl (fun ls hl => ?_)
          refine lv_goto (tgt := 90) Fx.1 Fx.2.1 dX10_lookEvents_147 (by decide) ?_
          exact hK90 _ hf _ _ _ (lv_sub hl [2, 3, 4, 5, 6, 1, 7, 8, 0] rfl) hC
        · replace hf := ift hc hf
          refine lv_iconst (v := (1 : Int32)) Fx.1 Fx.2.1 dX10_lookEvents_137 (by decide) ?_
          refine lv_goto (tgt := 142) Fx.1 Fx.2.1 dX10_lookEvents_138 (by decide) ?_
          refine lv_istore (lv' := [(5, .int (1 : Int32)), (0, .ref (ad 0)), (1, .int x1), (2, .int x2), (3, .int x3), (4, .int x4), (6, .int x6), (7, .int x7), (8, .int x8)]) Fx.1 Fx.2.1 dX10_lookEvents_142 hl (by decide) rfl (fun ls hl => ?_)
          obtain ⟨v17, ev17, hf⟩ := lt_e hf
          refine lv_iinc (v := v17) (lv' := [(8, .int v17), (5, .int (1 : Int32)), (0, .ref (ad 0)), (1, .int x1), (2, .int x2), (3, .int x3), (4, .int x4), (6, .int x6), (7, .int x7)]) Fx.1 Fx.2.1 dX10_lookEvents_144 hl (k := 8) rfl ev17.symm (by decide) rfl (fun ls hl => ?_)
          refine lv_goto (tgt := 90) Fx.1 Fx.2.1 dX10_lookEvents_147 (by decide) ?_
          exact hK90 _ hf _ _ _ (lv_sub hl [2, 3, 4, 5, 6, 1, 7, 8, 0] rfl) hC
set_option maxRecDepth 100000 in
set_option maxHeartbeats 4000000 in
theorem t_M_lookEvents_L90 {K9 : (Int32 × Int32 × sG × sF) → Option (sG × sF)} {K28 : (Int32 × Int32 × Int32 × Int32 × Int32 × Int32 × sG × sF) → Option (sG × sF)} {p : Program} {l : Launch} {e : Env} {s : State} {m : MethodId} {args : Array Value} {below : List Frame} {meth : Method} {c : Code} {Q : State → Prop} {D : va_G} {ad : Nat → Nat} {cy : Nat → ClassId} {A : Nat → Prop} {H0 : Heap} {u : sG × sF} (Fx : CallFix p m c cX10_lookEvents 9 s args (Cond.code yX10_lookEvents cX10_lookEvents 9 none :: wU) RX10) (hret : mRv p l e rm_M_lookEvents s m args below meth c Q D (mT cy) (mW ad cy) A H0 cX10_lookEvents u) (hK9 : ∀ (z : Int32 × Int32 × sG × sF), K9 z = some u → ∀ (ls : Array Slot) (H : Heap) (locs : List Loc), lv_has ls 9 [(0, .ref (ad 0)), (1, .int z.1), (2, .int z.2.1)] → wH D (mT cy) (mW ad cy) A H0 s z.2.2.1 z.2.2.2 H locs → W p l e rm_M_lookEvents s m args below meth c H locs 0 0 Q (F0 m 9 ls [])) (hK28 : ∀ (z : Int32 × Int32 × Int32 × Int32 × Int32 × Int32 × sG × sF), K28 z = some u → ∀ (ls : Array Slot) (H : Heap) (locs : List Loc), lv_has ls 9 [(0, .ref (ad 0)), (1, .int z.1), (2, .int z.2.1), (3, .int z.2.2.1), (4, .int z.2.2.2.1), (5, .int z.2.2.2.2.1), (6, .int z.2.2.2.2.2.1)] → wH D (mT cy) (mW ad cy) A H0 s z.2.2.2.2.2.2.1 z.2.2.2.2.2.2.2 H locs → W p l e rm_M_lookEvents s m args below meth c H locs 0 0 Q (F0 m 28 ls [])) (n : Nat) (z : Int32 × Int32 × Int32 × Int32 × Int32 × Int32 × Int32 × Int32 × sG × sF) (hz : itr (fun K z => p_M_lookEvents_L90 K9 K28 K z.1 z.2.1 z.2.2.1 z.2.2.2.1 z.2.2.2.2.1 z.2.2.2.2.2.1 z.2.2.2.2.2.2.1 z.2.2.2.2.2.2.2.1 z.2.2.2.2.2.2.2.2.1 z.2.2.2.2.2.2.2.2.2) n z = some u) : ∀ (ls : Array Slot) (H : Heap) (locs : List Loc), lv_has ls 9 [(0, .ref (ad 0)), (1, .int z.1), (2, .int z.2.1), (3, .int z.2.2.1), (4, .int z.2.2.2.1), (5, .int z.2.2.2.2.1), (6, .int z.2.2.2.2.2.1), (7, .int z.2.2.2.2.2.2.1), (8, .int z.2.2.2.2.2.2.2.1)] → wH D (mT cy) (mW ad cy) A H0 s z.2.2.2.2.2.2.2.2.1 z.2.2.2.2.2.2.2.2.2 H locs → W p l e rm_M_lookEvents s m args below meth c H locs 0 0 Q (F0 m 90 ls []) :=
  itr_all (B := fun K z => p_M_lookEvents_L90 K9 K28 K z.1 z.2.1 z.2.2.1 z.2.2.2.1 z.2.2.2.2.1 z.2.2.2.2.2.1 z.2.2.2.2.2.2.1 z.2.2.2.2.2.2.2.1 z.2.2.2.2.2.2.2.2.1 z.2.2.2.2.2.2.2.2.2) (r := u) (fun z => ∀ (ls : Array Slot) (H : Heap) (locs : List Loc), lv_has ls 9 [(0, .ref (ad 0)), (1, .int z.1), (2, .int z.2.1), (3, .int z.2.2.1), (4, .int z.2.2.2.1), (5, .int z.2.2.2.2.1), (6, .int z.2.2.2.2.2.1), (7, .int z.2.2.2.2.2.2.1), (8, .int z.2.2.2.2.2.2.2.1)] → wH D (mT cy) (mW ad cy) A H0 s z.2.2.2.2.2.2.2.2.1 z.2.2.2.2.2.2.2.2.2 H locs → W p l e rm_M_lookEvents s m args below meth c H locs 0 0 Q (F0 m 90 ls [])) (fun K hK z h => s_M_lookEvents_L90 (K90 := K) Fx hret hK9 hK28 hK z.1 z.2.1 z.2.2.1 z.2.2.2.1 z.2.2.2.2.1 z.2.2.2.2.2.1 z.2.2.2.2.2.2.1 z.2.2.2.2.2.2.2.1 z.2.2.2.2.2.2.2.2.1 z.2.2.2.2.2.2.2.2.2 h) n z hz
noncomputable def p_M_lookEvents_J63 (K9 : (Int32 × Int32 × sG × sF) → Option (sG × sF)) (K28 : (Int32 × Int32 × Int32 × Int32 × Int32 × Int32 × sG × sF) → Option (sG × sF)) (x1 : Int32) (x2 : Int32) (x3 : Int32) (x5 : Int32) (x6 : Int32) (y0 : Int32) (g : sG) (f : sF) : Option (sG × sF) := (if x6 < 0 ∨ 7 ≤ x6.toNatClampNeg then none else Option.bind (p_M_valueAt x6 x2 g f) (fun u2 => lt_ (((f 0 x6.toNatClampNeg) + (g 2)) + u2) (fun v3 => itr (fun K z => p_M_lookEvents_L90 K9 K28 K z.1 z.2.1 z.2.2.1 z.2.2.2.1 z.2.2.2.2.1 z.2.2.2.2.2.1 z.2.2.2.2.2.2.1 z.2.2.2.2.2.2.2.1 z.2.2.2.2.2.2.2.2.1 z.2.2.2.2.2.2.2.2.2) FUEL (x1, x2, x3, y0, x5, x6, v3, (0 : Int32), g, f))))
set_option maxRecDepth 100000 in
set_option maxHeartbeats 4000000 in
theorem s_M_lookEvents_J63 {K9 : (Int32 × Int32 × sG × sF) → Option (sG × sF)} {K28 : (Int32 × Int32 × Int32 × Int32 × Int32 × Int32 × sG × sF) → Option (sG × sF)} {p : Program} {l : Launch} {e : Env} {s : State} {m : MethodId} {args : Array Value} {below : List Frame} {meth : Method} {c : Code} {Q : State → Prop} {D : va_G} {ad : Nat → Nat} {cy : Nat → ClassId} {A : Nat → Prop} {H0 : Heap} {u : sG × sF} (Fx : CallFix p m c cX10_lookEvents 9 s args (Cond.code yX10_lookEvents cX10_lookEvents 9 none :: wU) RX10) (hret : mRv p l e rm_M_lookEvents s m args below meth c Q D (mT cy) (mW ad cy) A H0 cX10_lookEvents u) (hK9 : ∀ (z : Int32 × Int32 × sG × sF), K9 z = some u → ∀ (ls : Array Slot) (H : Heap) (locs : List Loc), lv_has ls 9 [(0, .ref (ad 0)), (1, .int z.1), (2, .int z.2.1)] → wH D (mT cy) (mW ad cy) A H0 s z.2.2.1 z.2.2.2 H locs → W p l e rm_M_lookEvents s m args below meth c H locs 0 0 Q (F0 m 9 ls [])) (hK28 : ∀ (z : Int32 × Int32 × Int32 × Int32 × Int32 × Int32 × sG × sF), K28 z = some u → ∀ (ls : Array Slot) (H : Heap) (locs : List Loc), lv_has ls 9 [(0, .ref (ad 0)), (1, .int z.1), (2, .int z.2.1), (3, .int z.2.2.1), (4, .int z.2.2.2.1), (5, .int z.2.2.2.2.1), (6, .int z.2.2.2.2.2.1)] → wH D (mT cy) (mW ad cy) A H0 s z.2.2.2.2.2.2.1 z.2.2.2.2.2.2.2 H locs → W p l e rm_M_lookEvents s m args below meth c H locs 0 0 Q (F0 m 28 ls [])) (x1 : Int32) (x2 : Int32) (x3 : Int32) (x5 : Int32) (x6 : Int32) (y0 : Int32) (g : sG) (f : sF) (hf : p_M_lookEvents_J63 K9 K28 x1 x2 x3 x5 x6 y0 g f = some u) : ∀ (ls : Array Slot) (H : Heap) (locs : List Loc), lv_has ls 9 [(0, .ref (ad 0)), (1, .int x1), (2, .int x2), (3, .int x3), (5, .int x5), (6, .int x6)] → wH D (mT cy) (mW ad cy) A H0 s g f H locs → W p l e rm_M_lookEvents s m args below meth c H locs 0 0 Q (F0 m 63 ls [.int y0]) := by
  intro ls H locs hl hC
  unfold p_M_lookEvents_J63 at hf
  refine lv_istore (lv' := [(4, .int y0), (0, .ref (ad 0)), (1, .int x1), (2, .int x2), (3, .int x3), (5, .int x5), (6, .int x6)]) Fx.1 Fx.2.1 dX10_lookEvents_63 hl (by decide) rfl (fun ls hl => ?_)
  refine lv_aload_n Fx.1 Fx.2.1 dX10_lookEvents_65 rfl (lv_at hl 1 rfl) ?_
  refine gg_M_tuned Fx hC wd_591 dX10_lookEvents_66 ?_
  refine lv_iload Fx.1 Fx.2.1 dX10_lookEvents_69 (lv_at hl 6 rfl) ?_
  obtain ⟨hi1, hf⟩ := gd_e hf
  refine ld_M_tuned Fx hC hi1 dX10_lookEvents_71 ?_
  refine lv_aload_n Fx.1 Fx.2.1 dX10_lookEvents_72 rfl (lv_at hl 1 rfl) ?_
  refine gg_M_capo Fx hC wd_593 dX10_lookEvents_73 ?_
  refine lv_iadd Fx.1 Fx.2.1 dX10_lookEvents_76 ?_
  refine lv_aload_n Fx.1 Fx.2.1 dX10_lookEvents_77 rfl (lv_at hl 1 rfl) ?_
  refine lv_iload Fx.1 Fx.2.1 dX10_lookEvents_78 (lv_at hl 6 rfl) ?_
  refine lv_iload_n Fx.1 Fx.2.1 dX10_lookEvents_80 rfl (lv_at hl 3 rfl) ?_
  obtain ⟨u2, hu2, hf⟩ := bd_e hf
  refine ca_i (As := [.int x6, .int x2]) (rest := [.int ((f 0 x6.toNatClampNeg) + (g 2))]) Fx hC (k_M_valueAt hu2) (cVU 2 Fx.2.2.2.2 wd_839 wd_840 wd_907 wd_10 wd_841 rfl rfl hd_M_valueAt ⟨Nat.le_of_ble_eq_true rfl, Nat.le_of_ble_eq_true rfl⟩) 0 rfl rfl rfl hl.1 rfl (Nat.le_of_ble_eq_true rfl) dX10_lookEvents_81 (fun H locs hC => ?_)
  refine lv_iadd Fx.1 Fx.2.1 dX10_lookEvents_84 ?_
  obtain ⟨v3, ev3, hf⟩ := lt_e hf
  refine tpi ev3 ?_
  refine lv_istore (lv' := [(7, .int v3), (4, .int y0), (0, .ref (ad 0)), (1, .int x1), (2, .int x2), (3, .int x3), (5, .int x5), (6, .int x6)]) Fx.1 Fx.2.1 dX10_lookEvents_85 hl (by decide) rfl (fun ls hl => ?_)
  refine lv_iconst (v := (0 : Int32)) Fx.1 Fx.2.1 dX10_lookEvents_87 (by decide) ?_
  refine lv_istore (lv' := [(8, .int (0 : Int32)), (7, .int v3), (4, .int y0), (0, .ref (ad 0)), (1, .int x1), (2, .int x2), (3, .int x3), (5, .int x5), (6, .int x6)]) Fx.1 Fx.2.1 dX10_lookEvents_88 hl (by decide) rfl (fun ls hl => ?_)
  exact t_M_lookEvents_L90 Fx hret hK9 hK28 _ _ hf _ _ _ (lv_sub hl [3, 4, 5, 6, 2, 7, 8, 1, 0] rfl) hC
noncomputable def p_M_lookEvents_L28 (K9 : (Int32 × Int32 × sG × sF) → Option (sG × sF)) (K28 : (Int32 × Int32 × Int32 × Int32 × Int32 × Int32 × sG × sF) → Option (sG × sF)) (x1 : Int32) (x2 : Int32) (x3 : Int32) (x4 : Int32) (x5 : Int32) (x6 : Int32) (g : sG) (f : sF) : Option (sG × sF) := (if (g 0) ≤ x6 then (if (4 : Int32) < x3 then p_M_lookEvents_J213 K9 x1 x2 x3 x4 g f else (if x5 = 0 then p_M_lookEvents_J220 K9 x1 x2 x3 x4 g f else p_M_lookEvents_J213 K9 x1 x2 x3 x4 g f)) else Option.bind (p_M_begins x6 x2 g f) (fun u1 => (if u1 = 0 then lt_ (x6 + (1 : Int32)) (fun v2 => K28 (x1, x2, x3, x4, x5, v2, g, f)) else (if x3 = 0 then Option.bind (p_M_placeOf x6 x2 g f) (fun u3 => p_M_lookEvents_J63 K9 K28 x1 x2 x3 x5 x6 u3 g f) else p_M_lookEvents_J63 K9 K28 x1 x2 x3 x5 x6 x4 g f))))
set_option maxRecDepth 100000 in
set_option maxHeartbeats 4000000 in
theorem s_M_lookEvents_L28 {K9 : (Int32 × Int32 × sG × sF) → Option (sG × sF)} {K28 : (Int32 × Int32 × Int32 × Int32 × Int32 × Int32 × sG × sF) → Option (sG × sF)} {p : Program} {l : Launch} {e : Env} {s : State} {m : MethodId} {args : Array Value} {below : List Frame} {meth : Method} {c : Code} {Q : State → Prop} {D : va_G} {ad : Nat → Nat} {cy : Nat → ClassId} {A : Nat → Prop} {H0 : Heap} {u : sG × sF} (Fx : CallFix p m c cX10_lookEvents 9 s args (Cond.code yX10_lookEvents cX10_lookEvents 9 none :: wU) RX10) (hret : mRv p l e rm_M_lookEvents s m args below meth c Q D (mT cy) (mW ad cy) A H0 cX10_lookEvents u) (hK9 : ∀ (z : Int32 × Int32 × sG × sF), K9 z = some u → ∀ (ls : Array Slot) (H : Heap) (locs : List Loc), lv_has ls 9 [(0, .ref (ad 0)), (1, .int z.1), (2, .int z.2.1)] → wH D (mT cy) (mW ad cy) A H0 s z.2.2.1 z.2.2.2 H locs → W p l e rm_M_lookEvents s m args below meth c H locs 0 0 Q (F0 m 9 ls [])) (hK28 : ∀ (z : Int32 × Int32 × Int32 × Int32 × Int32 × Int32 × sG × sF), K28 z = some u → ∀ (ls : Array Slot) (H : Heap) (locs : List Loc), lv_has ls 9 [(0, .ref (ad 0)), (1, .int z.1), (2, .int z.2.1), (3, .int z.2.2.1), (4, .int z.2.2.2.1), (5, .int z.2.2.2.2.1), (6, .int z.2.2.2.2.2.1)] → wH D (mT cy) (mW ad cy) A H0 s z.2.2.2.2.2.2.1 z.2.2.2.2.2.2.2 H locs → W p l e rm_M_lookEvents s m args below meth c H locs 0 0 Q (F0 m 28 ls [])) (x1 : Int32) (x2 : Int32) (x3 : Int32) (x4 : Int32) (x5 : Int32) (x6 : Int32) (g : sG) (f : sF) (hf : p_M_lookEvents_L28 K9 K28 x1 x2 x3 x4 x5 x6 g f = some u) : ∀ (ls : Array Slot) (H : Heap) (locs : List Loc), lv_has ls 9 [(0, .ref (ad 0)), (1, .int x1), (2, .int x2), (3, .int x3), (4, .int x4), (5, .int x5), (6, .int x6)] → wH D (mT cy) (mW ad cy) A H0 s g f H locs → W p l e rm_M_lookEvents s m args below meth c H locs 0 0 Q (F0 m 28 ls []) := by
  intro ls H locs hl hC
  unfold p_M_lookEvents_L28 at hf
  refine lv_iload Fx.1 Fx.2.1 dX10_lookEvents_28 (lv_at hl 6 rfl) ?_
  refine lv_aload_n Fx.1 Fx.2.1 dX10_lookEvents_30 rfl (lv_at hl 0 rfl) ?_
  refine gg_M_strings Fx hC wd_590 dX10_lookEvents_31 ?_
  refine lv_icmp_ge (tgt := 203) Fx.1 Fx.2.1 dX10_lookEvents_34 (by decide) (fun hc => ?_) (fun hc => ?_)
  · replace hf := ift hc hf
    refine lv_iload_n Fx.1 Fx.2.1 dX10_lookEvents_203 rfl (lv_at hl 3 rfl) ?_
    refine lv_iconst (v := (4 : Int32)) Fx.1 Fx.2.1 dX10_lookEvents_204 (by decide) ?_
    refine lv_icmp_gt (tgt := 213) Fx.1 Fx.2.1 dX10_lookEvents_205 (by decide) (fun hc => ?_) (fun hc => ?_)
    · replace hf := ift hc hf
      exact s_M_lookEvents_J213 Fx hret hK9 _ _ _ _ _ _  hf _ _ _ (lv_sub hl [0, 1, 2, 3, 4] rfl) hC
    · replace hf := iff_ hc hf
      refine lv_iload Fx.1 Fx.2.1 dX10_lookEvents_208 (lv_at hl 5 rfl) ?_
      refine lv_if_eq (tgt := 220) Fx.1 Fx.2.1 dX10_lookEvents_210 (by decide) (fun hc => ?_) (fun hc => ?_)
      · replace hf := ift hc hf
        exact s_M_lookEvents_J220 Fx hret hK9 _ _ _ _ _ _  hf _ _ _ (lv_sub hl [0, 1, 2, 3, 4] rfl) hC
      · replace hf := iff_ hc hf
        exact s_M_lookEvents_J213 Fx hret hK9 _ _ _ _ _ _  hf _ _ _ (lv_sub hl [0, 1, 2, 3, 4] rfl) hC
  · replace hf := iff_ hc hf
    refine lv_aload_n Fx.1 Fx.2.1 dX10_lookEvents_37 rfl (lv_at hl 0 rfl) ?_
    refine lv_iload Fx.1 Fx.2.1 dX10_lookEvents_38 (lv_at hl 6 rfl) ?_
    refine lv_iload_n Fx.1 Fx.2.1 dX10_lookEvents_40 rfl (lv_at hl 2 rfl) ?_
    obtain ⟨u1, hu1, hf⟩ := bd_e hf
    refine ca_i (As := [.int x6, .int x2]) (rest := []) Fx hC (k_M_begins hu1) (cVU 2 Fx.2.2.2.2 wd_827 wd_828 wd_903 wd_10 wd_829 rfl rfl hd_M_begins ⟨Nat.le_of_ble_eq_true rfl, Nat.le_of_ble_eq_true rfl⟩) 0 rfl rfl rfl hl.1 rfl (Nat.le_of_ble_eq_true rfl) dX10_lookEvents_41 (fun H locs hC => ?_)
    refine lv_if_eq (tgt := 197) Fx.1 Fx.2.1 dX10_lookEvents_44 (by decide) (fun hc => ?_) (fun hc => ?_)
    · replace hf := ift hc hf
      obtain ⟨v2, ev2, hf⟩ := lt_e hf
      refine lv_iinc (v := v2) (lv' := [(6, .int v2), (0, .ref (ad 0)), (1, .int x1), (2, .int x2), (3, .int x3), (4, .int x4), (5, .int x5)]) Fx.1 Fx.2.1 dX10_lookEvents_197 hl (k := 6) rfl ev2.symm (by decide) rfl (fun ls hl => ?_)
      refine lv_goto (tgt := 28) Fx.1 Fx.2.1 dX10_lookEvents_200 (by decide) ?_
      exact hK28 _ hf _ _ _ (lv_sub hl [1, 2, 3, 4, 5, 6, 0] rfl) hC
    · replace hf := iff_ hc hf
      refine lv_iload_n Fx.1 Fx.2.1 dX10_lookEvents_47 rfl (lv_at hl 3 rfl) ?_
      refine lv_if_ne (tgt := 61) Fx.1 Fx.2.1 dX10_lookEvents_48 (by decide) (fun hc => ?_) (fun hc => ?_)
      · replace hf := iff_ hc hf
        refine lv_iload Fx.1 Fx.2.1 dX10_lookEvents_61 (lv_at hl 4 rfl) ?_
        exact s_M_lookEvents_J63 Fx hret hK9 hK28 _ _ _ _ _ _ _ _  hf _ _ _ (lv_sub hl [0, 1, 2, 3, 5, 6] rfl) hC
      · replace hf := ift hc hf
        refine lv_aload_n Fx.1 Fx.2.1 dX10_lookEvents_51 rfl (lv_at hl 0 rfl) ?_
        refine lv_iload Fx.1 Fx.2.1 dX10_lookEvents_52 (lv_at hl 6 rfl) ?_
        refine lv_iload_n Fx.1 Fx.2.1 dX10_lookEvents_54 rfl (lv_at hl 2 rfl) ?_
        obtain ⟨u3, hu3, hf⟩ := bd_e hf
        refine ca_i (As := [.int x6, .int x2]) (rest := []) Fx hC (k_M_placeOf hu3) (cVU 2 Fx.2.2.2.2 wd_833 wd_834 wd_905 wd_10 wd_835 rfl rfl hd_M_placeOf ⟨Nat.le_of_ble_eq_true rfl, Nat.le_of_ble_eq_true rfl⟩) 0 rfl rfl rfl hl.1 rfl (Nat.le_of_ble_eq_true rfl) dX10_lookEvents_55 (fun H locs hC => ?_)
        refine lv_goto (tgt := 63) Fx.1 Fx.2.1 dX10_lookEvents_58 (by decide) ?_
        exact s_M_lookEvents_J63 Fx hret hK9 hK28 _ _ _ _ _ _ _ _  hf _ _ _ (lv_sub hl [0, 1, 2, 3, 5, 6] rfl) hC
set_option maxRecDepth 100000 in
set_option maxHeartbeats 4000000 in
theorem t_M_lookEvents_L28 {K9 : (Int32 × Int32 × sG × sF) → Option (sG × sF)} {p : Program} {l : Launch} {e : Env} {s : State} {m : MethodId} {args : Array Value} {below : List Frame} {meth : Method} {c : Code} {Q : State → Prop} {D : va_G} {ad : Nat → Nat} {cy : Nat → ClassId} {A : Nat → Prop} {H0 : Heap} {u : sG × sF} (Fx : CallFix p m c cX10_lookEvents 9 s args (Cond.code yX10_lookEvents cX10_lookEvents 9 none :: wU) RX10) (hret : mRv p l e rm_M_lookEvents s m args below meth c Q D (mT cy) (mW ad cy) A H0 cX10_lookEvents u) (hK9 : ∀ (z : Int32 × Int32 × sG × sF), K9 z = some u → ∀ (ls : Array Slot) (H : Heap) (locs : List Loc), lv_has ls 9 [(0, .ref (ad 0)), (1, .int z.1), (2, .int z.2.1)] → wH D (mT cy) (mW ad cy) A H0 s z.2.2.1 z.2.2.2 H locs → W p l e rm_M_lookEvents s m args below meth c H locs 0 0 Q (F0 m 9 ls [])) (n : Nat) (z : Int32 × Int32 × Int32 × Int32 × Int32 × Int32 × sG × sF) (hz : itr (fun K z => p_M_lookEvents_L28 K9 K z.1 z.2.1 z.2.2.1 z.2.2.2.1 z.2.2.2.2.1 z.2.2.2.2.2.1 z.2.2.2.2.2.2.1 z.2.2.2.2.2.2.2) n z = some u) : ∀ (ls : Array Slot) (H : Heap) (locs : List Loc), lv_has ls 9 [(0, .ref (ad 0)), (1, .int z.1), (2, .int z.2.1), (3, .int z.2.2.1), (4, .int z.2.2.2.1), (5, .int z.2.2.2.2.1), (6, .int z.2.2.2.2.2.1)] → wH D (mT cy) (mW ad cy) A H0 s z.2.2.2.2.2.2.1 z.2.2.2.2.2.2.2 H locs → W p l e rm_M_lookEvents s m args below meth c H locs 0 0 Q (F0 m 28 ls []) :=
  itr_all (B := fun K z => p_M_lookEvents_L28 K9 K z.1 z.2.1 z.2.2.1 z.2.2.2.1 z.2.2.2.2.1 z.2.2.2.2.2.1 z.2.2.2.2.2.2.1 z.2.2.2.2.2.2.2) (r := u) (fun z => ∀ (ls : Array Slot) (H : Heap) (locs : List Loc), lv_has ls 9 [(0, .ref (ad 0)), (1, .int z.1), (2, .int z.2.1), (3, .int z.2.2.1), (4, .int z.2.2.2.1), (5, .int z.2.2.2.2.1), (6, .int z.2.2.2.2.2.1)] → wH D (mT cy) (mW ad cy) A H0 s z.2.2.2.2.2.2.1 z.2.2.2.2.2.2.2 H locs → W p l e rm_M_lookEvents s m args below meth c H locs 0 0 Q (F0 m 28 ls [])) (fun K hK z h => s_M_lookEvents_L28 (K28 := K) Fx hret hK9 hK z.1 z.2.1 z.2.2.1 z.2.2.2.1 z.2.2.2.2.1 z.2.2.2.2.2.1 z.2.2.2.2.2.2.1 z.2.2.2.2.2.2.2 h) n z hz
noncomputable def p_M_lookEvents_L9 (K9 : (Int32 × Int32 × sG × sF) → Option (sG × sF)) (x1 : Int32) (x2 : Int32) (g : sG) (f : sF) : Option (sG × sF) := (if (g 9) ≤ x2 then some (g, f) else itr (fun K z => p_M_lookEvents_L28 K9 K z.1 z.2.1 z.2.2.1 z.2.2.2.1 z.2.2.2.2.1 z.2.2.2.2.2.1 z.2.2.2.2.2.2.1 z.2.2.2.2.2.2.2) FUEL (x1, x2, (0 : Int32), (-1 : Int32), (0 : Int32), (0 : Int32), g, f))
set_option maxRecDepth 100000 in
set_option maxHeartbeats 4000000 in
theorem s_M_lookEvents_L9 {K9 : (Int32 × Int32 × sG × sF) → Option (sG × sF)} {p : Program} {l : Launch} {e : Env} {s : State} {m : MethodId} {args : Array Value} {below : List Frame} {meth : Method} {c : Code} {Q : State → Prop} {D : va_G} {ad : Nat → Nat} {cy : Nat → ClassId} {A : Nat → Prop} {H0 : Heap} {u : sG × sF} (Fx : CallFix p m c cX10_lookEvents 9 s args (Cond.code yX10_lookEvents cX10_lookEvents 9 none :: wU) RX10) (hret : mRv p l e rm_M_lookEvents s m args below meth c Q D (mT cy) (mW ad cy) A H0 cX10_lookEvents u) (hK9 : ∀ (z : Int32 × Int32 × sG × sF), K9 z = some u → ∀ (ls : Array Slot) (H : Heap) (locs : List Loc), lv_has ls 9 [(0, .ref (ad 0)), (1, .int z.1), (2, .int z.2.1)] → wH D (mT cy) (mW ad cy) A H0 s z.2.2.1 z.2.2.2 H locs → W p l e rm_M_lookEvents s m args below meth c H locs 0 0 Q (F0 m 9 ls [])) (x1 : Int32) (x2 : Int32) (g : sG) (f : sF) (hf : p_M_lookEvents_L9 K9 x1 x2 g f = some u) : ∀ (ls : Array Slot) (H : Heap) (locs : List Loc), lv_has ls 9 [(0, .ref (ad 0)), (1, .int x1), (2, .int x2)] → wH D (mT cy) (mW ad cy) A H0 s g f H locs → W p l e rm_M_lookEvents s m args below meth c H locs 0 0 Q (F0 m 9 ls []) := by
  intro ls H locs hl hC
  unfold p_M_lookEvents_L9 at hf
  refine lv_iload_n Fx.1 Fx.2.1 dX10_lookEvents_9 rfl (lv_at hl 2 rfl) ?_
  refine lv_aload_n Fx.1 Fx.2.1 dX10_lookEvents_10 rfl (lv_at hl 0 rfl) ?_
  refine gg_M_columns Fx hC wd_616 dX10_lookEvents_11 ?_
  refine lv_icmp_ge (tgt := 285) Fx.1 Fx.2.1 dX10_lookEvents_14 (by decide) (fun hc => ?_) (fun hc => ?_)
  · replace hf := ift hc hf
    obtain rfl := Option.some.inj hf
    exact hret _ _ _ _ dX10_lookEvents_285 hC
  · replace hf := iff_ hc hf
    refine lv_iconst (v := (0 : Int32)) Fx.1 Fx.2.1 dX10_lookEvents_17 (by decide) ?_
    refine lv_istore_n (lv' := [(3, .int (0 : Int32)), (0, .ref (ad 0)), (1, .int x1), (2, .int x2)]) Fx.1 Fx.2.1 dX10_lookEvents_18 rfl hl (by decide) rfl (fun ls hl => ?_)
    refine lv_iconst (v := (-1 : Int32)) Fx.1 Fx.2.1 dX10_lookEvents_19 (by decide) ?_
    refine lv_istore (lv' := [(4, .int (-1 : Int32)), (3, .int (0 : Int32)), (0, .ref (ad 0)), (1, .int x1), (2, .int x2)]) Fx.1 Fx.2.1 dX10_lookEvents_20 hl (by decide) rfl (fun ls hl => ?_)
    refine lv_iconst (v := (0 : Int32)) Fx.1 Fx.2.1 dX10_lookEvents_22 (by decide) ?_
    refine lv_istore (lv' := [(5, .int (0 : Int32)), (4, .int (-1 : Int32)), (3, .int (0 : Int32)), (0, .ref (ad 0)), (1, .int x1), (2, .int x2)]) Fx.1 Fx.2.1 dX10_lookEvents_23 hl (by decide) rfl (fun ls hl => ?_)
    refine lv_iconst (v := (0 : Int32)) Fx.1 Fx.2.1 dX10_lookEvents_25 (by decide) ?_
    refine lv_istore (lv' := [(6, .int (0 : Int32)), (5, .int (0 : Int32)), (4, .int (-1 : Int32)), (3, .int (0 : Int32)), (0, .ref (ad 0)), (1, .int x1), (2, .int x2)]) Fx.1 Fx.2.1 dX10_lookEvents_26 hl (by decide) rfl (fun ls hl => ?_)
    exact t_M_lookEvents_L28 Fx hret hK9 _ _ hf _ _ _ (lv_sub hl [4, 5, 6, 3, 2, 1, 0] rfl) hC
set_option maxRecDepth 100000 in
set_option maxHeartbeats 4000000 in
theorem t_M_lookEvents_L9 {p : Program} {l : Launch} {e : Env} {s : State} {m : MethodId} {args : Array Value} {below : List Frame} {meth : Method} {c : Code} {Q : State → Prop} {D : va_G} {ad : Nat → Nat} {cy : Nat → ClassId} {A : Nat → Prop} {H0 : Heap} {u : sG × sF} (Fx : CallFix p m c cX10_lookEvents 9 s args (Cond.code yX10_lookEvents cX10_lookEvents 9 none :: wU) RX10) (hret : mRv p l e rm_M_lookEvents s m args below meth c Q D (mT cy) (mW ad cy) A H0 cX10_lookEvents u)  (n : Nat) (z : Int32 × Int32 × sG × sF) (hz : itr (fun K z => p_M_lookEvents_L9 K z.1 z.2.1 z.2.2.1 z.2.2.2) n z = some u) : ∀ (ls : Array Slot) (H : Heap) (locs : List Loc), lv_has ls 9 [(0, .ref (ad 0)), (1, .int z.1), (2, .int z.2.1)] → wH D (mT cy) (mW ad cy) A H0 s z.2.2.1 z.2.2.2 H locs → W p l e rm_M_lookEvents s m args below meth c H locs 0 0 Q (F0 m 9 ls []) :=
  itr_all (B := fun K z => p_M_lookEvents_L9 K z.1 z.2.1 z.2.2.1 z.2.2.2) (r := u) (fun z => ∀ (ls : Array Slot) (H : Heap) (locs : List Loc), lv_has ls 9 [(0, .ref (ad 0)), (1, .int z.1), (2, .int z.2.1)] → wH D (mT cy) (mW ad cy) A H0 s z.2.2.1 z.2.2.2 H locs → W p l e rm_M_lookEvents s m args below meth c H locs 0 0 Q (F0 m 9 ls [])) (fun K hK z h => s_M_lookEvents_L9 (K9 := K) Fx hret hK z.1 z.2.1 z.2.2.1 z.2.2.2 h) n z hz
noncomputable def p_M_lookEvents  (g : sG) (f : sF) : Option (sG × sF) := lt_ (upd g 12 (0 : Int32)) (fun g1 => itr (fun K z => p_M_lookEvents_L9 K z.1 z.2.1 z.2.2.1 z.2.2.2) FUEL ((0 : Int32), (0 : Int32), g1, f))
set_option maxRecDepth 100000 in
set_option maxHeartbeats 4000000 in
theorem k_M_lookEvents {l : Launch} {D : va_G} {ad : Nat → Nat} {cy : Nat → ClassId}  {u : sG × sF} {g : sG} {f : sF} (hf : p_M_lookEvents  g f = some u) : mMv l yX10_lookEvents (Cond.code yX10_lookEvents cX10_lookEvents 9 none :: wU) rm_M_lookEvents D (mT cy) (mW ad cy) [.ref (ad 0)] g f u := by
  refine mk_v (by decide) rfl (Nat.le_of_ble_eq_true rfl) ?_
  intro p e s m below meth c Q A H0 Fx hret ls H locs hl hC
  replace hl : lv_has ls 9 [(0, .ref (ad 0))] := hl
  unfold p_M_lookEvents at hf
  refine lv_aload_n Fx.1 Fx.2.1 dX10_lookEvents_0 rfl (lv_at hl 0 rfl) ?_
  refine lv_iconst (v := (0 : Int32)) Fx.1 Fx.2.1 dX10_lookEvents_1 (by decide) ?_
  obtain ⟨g1, eg1, hf⟩ := lt_e hf
  refine gp_M_newEvents Fx hC wd_619 eg1 dX10_lookEvents_2 (fun H locs hC => ?_)
  refine lv_iconst (v := (0 : Int32)) Fx.1 Fx.2.1 dX10_lookEvents_5 (by decide) ?_
  refine lv_istore_n (lv' := [(1, .int (0 : Int32)), (0, .ref (ad 0))]) Fx.1 Fx.2.1 dX10_lookEvents_6 rfl hl (by decide) rfl (fun ls hl => ?_)
  refine lv_iconst (v := (0 : Int32)) Fx.1 Fx.2.1 dX10_lookEvents_7 (by decide) ?_
  refine lv_istore_n (lv' := [(2, .int (0 : Int32)), (1, .int (0 : Int32)), (0, .ref (ad 0))]) Fx.1 Fx.2.1 dX10_lookEvents_8 rfl hl (by decide) rfl (fun ls hl => ?_)
  exact t_M_lookEvents_L9 Fx hret _ _ hf _ _ _ (lv_sub hl [2, 1, 0] rfl) hC
