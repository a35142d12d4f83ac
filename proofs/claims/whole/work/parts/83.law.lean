/-! THE CLAIM OUT OF ONE WALK OF THE LAW'S BODY. Your part is whole_start (and what it stands on); all else here is the same for every law, but numbers. -/
def R_law : String := "FretHandsLaw"
def lw_P (b : Addr) (xs : List Int32) (args : Array Value) (s : State) : Prop := args = #[.ref b] ∧ s.IntsAt b xs ∧ xs.length ≤ 256 ∧ (Jvm.Cond.and given_1 narrow_1).before args s = true
def lw_Q (_ : Array Value) (s : State) (o : Outcome) (t : State) : Prop := o = .returned (some (.int 1)) ∧ Framed s o t [] 600000 7302250
def lw_Z (below : List Frame) (a : Array Value) (s : State) : State → Prop := fun t => ∃ o, t.status = .running ∧ Ended t below o ∧ lw_Q a s o t
/-- the law's own end, with 1 on the stack, nothing written that was there before, its room as the claim has it -/
theorem lw_ret {p : Program} {l : Launch} {e : Env} {s : State} {m : MethodId} {below : List Frame} {meth : Method} {c : Code} {b : Nat} (hx : p.tables.exec = Jvm.exec) (hb : c.code = code) (hr : meth.sig.returnType = ret) (hlocks : meth.locks = false) {pc : Nat} {H : Heap} {ls : Array Slot} (hdg : decode code pc = .ok (.ireturn, 1)) : W p l e room_1 s m #[Value.ref b] below meth c H [] 600000 7302250 (lw_Z below #[Value.ref b] s) (F0 m pc ls [.int 1]) := by
  intro T hT X
  obtain ⟨fs, hret, hrun, hended, hW, hframe⟩ := X.leave (v := some (.int 1)) (hlocks := hlocks) (fun h => by rw [hr] at h; cases h)
  have hmeth' : T.vm.method? m = some meth := X.method'
  refine ⟨T.setFrames fs, ?_, .returned (some (.int 1)), hrun, hended, rfl, ⟨_, rfl⟩, hW, hframe⟩
  jvm_step X.here [X.here.top, hx, hb, hdg, hmeth', hr, ret, narrow_b1]
  (try refine ⟨rfl, ?_⟩); (try refine ⟨rfl, ?_⟩)
  first | (intro acts; rw [hret _ acts rfl rfl rfl]) | rw [hret _ _ rfl rfl rfl]
  exact Steps.refl _
/-- what holds at the law's entry: the machine, the code, the tables' words (any of lw_tbl by 'hts w (by decide +kernel)'), the script of L ints xs at the cell b, what the Statement gives of the start (any of its parts by flat_of_before) -/
def lw_At (p : Program) (s : State) (m : MethodId) (meth : Method) (c : Code) (b L : Nat) (xs : Nat → Int32) : Prop :=
  p.tables.exec = Jvm.exec ∧ c.code = code ∧ meth.sig.returnType = ret ∧ c.maxLocals = 4 ∧ s.vm.findClass R_law = some m.cls ∧ (∀ w ∈ lw_tbl, w.before #[Value.ref b] s = true) ∧ va_X b L xs s s.heap ∧ b < s.heap.size ∧ meth.locks = false ∧ (Jvm.Cond.and given_1 narrow_1).before #[Value.ref b] s = true
set_option maxRecDepth 20000 in
set_option maxHeartbeats 8000000 in
theorem law_loop {p : Program} {l : Launch} {e : Env} {s : State} {m : MethodId} {below : List Frame} {meth : Method} {c : Code} {D : va_G} {cI cZ : ClassId} {b L : Nat} {xs : Nat → Int32} {ad ad2 : Nat → Nat} (hL : L ≤ 256) (Fx : CallFix p m c cL_law 4 s #[Value.ref b] (Cond.initialized RL :: wU) RL) (hr : meth.sig.returnType = ret) (hlocks : meth.locks = false) (hX : va_X b L xs s s.heap) (hbl : b < s.heap.size) :
    ∀ (n i : Nat), L + 1 ≤ i + n → i ≤ 256 → ∀ (g : sG) (f : sF) (gm : sG) (fm : sF) (H : Heap) (locs : List Loc), Rel g f gm fm → wX D [(cI, .int), (cZ, .boolean)] (cW ad (fun _ => cI) g f ++ mW ad2 (fun k => if k = 16 then cZ else cI) gm fm) (fun q : Nat => s.heap.size ≤ q) s.heap s H locs → ∀ (ls : Array Slot), lv_has ls 4 [(0, .ref b), (1, .ref (ad 0)), (2, .ref (ad2 0)), (3, .int (nI i))] → W p l e room_1 s m #[Value.ref b] below meth c H locs 52 19555 (lw_Z below #[Value.ref b] s) (F0 m 18 ls []) := by
  have hbA : ¬ (fun q : Nat => s.heap.size ≤ q) b := Nat.not_le.mpr hbl
  intro n
  induction n with
  | zero =>
    intro i h1 h2 g f gm fm H locs hR hC ls hl
    refine lv_iload_n Fx.1 Fx.2.1 dL_law_18 rfl (lv_at hl 3 rfl) ?_
    refine lv_aload_n Fx.1 Fx.2.1 dL_law_19 rfl (lv_at hl 0 rfl) ?_
    refine va_slen Fx.1 Fx.2.1 hX hbl hbA hC.2.2.2.1 dL_law_20 ?_
    refine lv_iconst (v := 4) Fx.1 Fx.2.1 dL_law_21 (by decide) ?_
    refine lv_isub Fx.1 Fx.2.1 dL_law_22 ?_
    refine lv_icmp_gt (tgt := 712) Fx.1 Fx.2.1 dL_law_23 (by decide) (fun _ => ?_) (fun q => ?_)
    · refine lv_iconst (v := 1) Fx.1 Fx.2.1 dL_law_712 (by decide) ?_
      refine va_forget (fun q hq => hC.2.2.2.1.2.2 q hq) ?_
      refine W.widen (k := 600000) (n := 7302250) (by omega) (by omega) ?_
      exact lw_ret Fx.1 Fx.2.1 hr hlocks dL_law_713
    · exfalso
      apply q
      show Int32.ofNat L - 4 < nI i
      rw [show Int32.ofNat L = I (L : Int) from (I_nI L).symm, ← I_nI, l_4, I_sub, I_lt (by omega) (by omega) (by omega) (by omega)]
      omega
  | succ n ih =>
    intro i h1 h2 g f gm fm H locs hR hC ls hl
    refine lv_iload_n Fx.1 Fx.2.1 dL_law_18 rfl (lv_at hl 3 rfl) ?_
    refine lv_aload_n Fx.1 Fx.2.1 dL_law_19 rfl (lv_at hl 0 rfl) ?_
    refine va_slen Fx.1 Fx.2.1 hX hbl hbA hC.2.2.2.1 dL_law_20 ?_
    refine lv_iconst (v := 4) Fx.1 Fx.2.1 dL_law_21 (by decide) ?_
    refine lv_isub Fx.1 Fx.2.1 dL_law_22 ?_
    refine lv_icmp_gt (tgt := 712) Fx.1 Fx.2.1 dL_law_23 (by decide) (fun _ => ?_) (fun q => ?_)
    · refine lv_iconst (v := 1) Fx.1 Fx.2.1 dL_law_712 (by decide) ?_
      refine va_forget (fun q hq => hC.2.2.2.1.2.2 q hq) ?_
      refine W.widen (k := 600000) (n := 7302250) (by omega) (by omega) ?_
      exact lw_ret Fx.1 Fx.2.1 hr hlocks dL_law_713
    have hlt : i + 4 ≤ L := by
      have q2 : ¬ (Int32.ofNat L - 4 < nI i) := q
      rw [show Int32.ofNat L = I (L : Int) from (I_nI L).symm, ← I_nI, l_4, I_sub, I_lt (by omega) (by omega) (by omega) (by omega)] at q2
      omega
    have v0 : vp_in (nI i) L := by exact vp_in_nI (by omega) (by omega)
    have v1 : vp_in (nI i + 1) L := by rw [show nI i + 1 = nI (i + 1) from nI_add i 1]; exact vp_in_nI (by omega) (by omega)
    have v2 : vp_in (nI i + 2) L := by rw [show nI i + 2 = nI (i + 2) from nI_add i 2]; exact vp_in_nI (by omega) (by omega)
    have v3 : vp_in (nI i + 3) L := by rw [show nI i + 3 = nI (i + 3) from nI_add i 3]; exact vp_in_nI (by omega) (by omega)
    have hKc : va_K D vwCl (cT (fun _ => cI)) s := hC.1.sub [0, 0, 0, 0, 0, 0, 0, 0, 0, 0, 0, 0, 0, 0, 0, 0, 0, 0, 0, 0, 0, 0] rfl
    have hKm : va_K D vwCl (mT (fun k => if k = 16 then cZ else cI)) s := hC.1.sub [0, 0, 0, 0, 0, 0, 0, 0, 0, 0, 0, 0, 0, 0, 0, 0, 1, 0, 0, 0] rfl
    have h706 : ∀ (g : sG) (f : sF) (gm : sG) (fm : sF) (H : Heap) (locs : List Loc), wX D [(cI, .int), (cZ, .boolean)] (cW ad (fun _ => cI) g f ++ mW ad2 (fun k => if k = 16 then cZ else cI) gm fm) (fun q : Nat => s.heap.size ≤ q) s.heap s H locs → Rel g f gm fm → W p l e room_1 s m #[Value.ref b] below meth c H locs 52 19555 (lw_Z below #[Value.ref b] s) (F0 m 706 ls []) := by
      intro g f gm fm H locs hC hR
      refine lv_iinc (v := nI (i + 4)) (lv' := [(3, .int (nI (i + 4))), (0, .ref b), (1, .ref (ad 0)), (2, .ref (ad2 0))]) Fx.1 Fx.2.1 dL_law_706 hl (k := 3) rfl (nI_add i 4) (by decide) rfl (fun ls hl => ?_)
      refine lv_goto (tgt := 18) Fx.1 Fx.2.1 dL_law_709 (by decide) ?_
      exact ih (i + 4) (by omega) (by omega) g f gm fm H locs hR hC ls (lv_sub hl [1, 2, 3, 0] rfl)
    refine lv_aload_n Fx.1 Fx.2.1 dL_law_26 rfl (lv_at hl 0 rfl) ?_
    refine lv_iload_n Fx.1 Fx.2.1 dL_law_27 rfl (lv_at hl 3 rfl) ?_
    refine va_sld Fx.1 Fx.2.1 hX hbl hbA hC.2.2.2.1 v0 dL_law_28 ?_
    refine lv_bipush (v := 31) Fx.1 Fx.2.1 dL_law_29 (by decide) ?_
    refine lv_iand Fx.1 Fx.2.1 dL_law_31 ?_
    refine lv_topi (fun x ex => ?_)
    by_cases hc : x = (0 : Int32)
    · refine lv_tableIn (tgt := 144) Fx.1 Fx.2.1 dL_law_32 (by rw [hc]; decide) (by rw [hc]; decide) (by rw [hc]; rfl) (by decide) ?_
      refine lv_aload_n Fx.1 Fx.2.1 dL_law_144 rfl (lv_at hl 1 rfl) ?_
      refine lv_aload_n Fx.1 Fx.2.1 dL_law_145 rfl (lv_at hl 0 rfl) ?_
      refine lv_iload_n Fx.1 Fx.2.1 dL_law_146 rfl (lv_at hl 3 rfl) ?_
      refine lv_iconst (v := 1) Fx.1 Fx.2.1 dL_law_147 (by decide) ?_
      refine lv_iadd Fx.1 Fx.2.1 dL_law_148 ?_
      refine va_sld Fx.1 Fx.2.1 hX hbl hbA hC.2.2.2.1 v1 dL_law_149 ?_
      obtain ⟨r, g', f', gm', fm', hc1, hm1, hR'⟩ := r_string (xs (nI i + 1).toNatClampNeg) g f gm fm hR
      refine x_ci (w := cW ad (fun _ => cI)) (u := (r, g', f')) (rest := []) (As := [.int (xs (nI i + 1).toNatClampNeg)]) (qq := (RX9, TX9, 9)) (ci := 8) Fx hC hKc (k_FH_string hc1) (cVU 1 Fx.2.2.2.2 wd_220 wd_221 wd_222 wd_1 wd_223 rfl rfl hd_FH_string ⟨(Nat.le_of_ble_eq_true rfl), (Nat.le_of_ble_eq_true rfl)⟩) 0 rfl rfl rfl hl.1 rfl (Nat.le_of_ble_eq_true rfl) dL_law_150 ⟨(Nat.le_of_ble_eq_true rfl), (Nat.le_of_ble_eq_true rfl)⟩ (fun H locs hC => ?_)
      refine lv_aload_n Fx.1 Fx.2.1 dL_law_153 rfl (lv_at hl 2 rfl) ?_
      refine lv_aload_n Fx.1 Fx.2.1 dL_law_154 rfl (lv_at hl 0 rfl) ?_
      refine lv_iload_n Fx.1 Fx.2.1 dL_law_155 rfl (lv_at hl 3 rfl) ?_
      refine lv_iconst (v := 1) Fx.1 Fx.2.1 dL_law_156 (by decide) ?_
      refine lv_iadd Fx.1 Fx.2.1 dL_law_157 ?_
      refine va_sld Fx.1 Fx.2.1 hX hbl hbA hC.2.2.2.1 v1 dL_law_158 ?_
      refine x_ci (w := mW ad2 (fun k => if k = 16 then cZ else cI)) (u := (r, gm', fm')) (rest := [.int r]) (As := [.int (xs (nI i + 1).toNatClampNeg)]) (qq := (RX10, TX10, 33)) (ci := 9) Fx hC hKm (k_M_string hm1) (cVU 1 Fx.2.2.2.2 wd_657 wd_658 wd_659 wd_10 wd_660 rfl rfl hd_M_string ⟨(Nat.le_of_ble_eq_true rfl), (Nat.le_of_ble_eq_true rfl)⟩) 0 rfl rfl rfl hl.1 rfl (Nat.le_of_ble_eq_true rfl) dL_law_159 ⟨(Nat.le_of_ble_eq_true rfl), (Nat.le_of_ble_eq_true rfl)⟩ (fun H locs hC => ?_)
      refine lv_icmp_eq (tgt := 706) Fx.1 Fx.2.1 dL_law_162 (by decide) (fun _ => ?_) (fun q => absurd rfl q)
      exact h706 g' f' gm' fm' H locs hC hR'
    have hne0 := lv_neT (a := 0) hc (by decide)
    clear hc
    by_cases hc : x = (1 : Int32)
    · refine lv_tableIn (tgt := 167) Fx.1 Fx.2.1 dL_law_32 (by rw [hc]; decide) (by rw [hc]; decide) (by rw [hc]; rfl) (by decide) ?_
      refine lv_aload_n Fx.1 Fx.2.1 dL_law_167 rfl (lv_at hl 1 rfl) ?_
      obtain ⟨r, g', f', gm', fm', hc1, hm1, hR'⟩ := r_clear  g f gm fm hR
      refine x_ci (w := cW ad (fun _ => cI)) (u := (r, g', f')) (rest := []) (As := []) (qq := (RX9, TX9, 9)) (ci := 8) Fx hC hKc (k_FH_clear hc1) (cVU 0 Fx.2.2.2.2 wd_232 wd_233 wd_234 wd_1 wd_235 rfl rfl hd_FH_clear ⟨(Nat.le_of_ble_eq_true rfl), (Nat.le_of_ble_eq_true rfl)⟩) 0 rfl rfl rfl hl.1 rfl (Nat.le_of_ble_eq_true rfl) dL_law_168 ⟨(Nat.le_of_ble_eq_true rfl), (Nat.le_of_ble_eq_true rfl)⟩ (fun H locs hC => ?_)
      refine lv_aload_n Fx.1 Fx.2.1 dL_law_171 rfl (lv_at hl 2 rfl) ?_
      refine x_ci (w := mW ad2 (fun k => if k = 16 then cZ else cI)) (u := (r, gm', fm')) (rest := [.int r]) (As := []) (qq := (RX10, TX10, 33)) (ci := 9) Fx hC hKm (k_M_clear hm1) (cVU 0 Fx.2.2.2.2 wd_664 wd_665 wd_666 wd_10 wd_667 rfl rfl hd_M_clear ⟨(Nat.le_of_ble_eq_true rfl), (Nat.le_of_ble_eq_true rfl)⟩) 0 rfl rfl rfl hl.1 rfl (Nat.le_of_ble_eq_true rfl) dL_law_172 ⟨(Nat.le_of_ble_eq_true rfl), (Nat.le_of_ble_eq_true rfl)⟩ (fun H locs hC => ?_)
      refine lv_icmp_eq (tgt := 706) Fx.1 Fx.2.1 dL_law_175 (by decide) (fun _ => ?_) (fun q => absurd rfl q)
      exact h706 g' f' gm' fm' H locs hC hR'
    have hne1 := lv_neT (a := 1) hc (by decide)
    clear hc
    by_cases hc : x = (2 : Int32)
    · refine lv_tableIn (tgt := 180) Fx.1 Fx.2.1 dL_law_32 (by rw [hc]; decide) (by rw [hc]; decide) (by rw [hc]; rfl) (by decide) ?_
      refine lv_aload_n Fx.1 Fx.2.1 dL_law_180 rfl (lv_at hl 1 rfl) ?_
      refine lv_aload_n Fx.1 Fx.2.1 dL_law_181 rfl (lv_at hl 0 rfl) ?_
      refine lv_iload_n Fx.1 Fx.2.1 dL_law_182 rfl (lv_at hl 3 rfl) ?_
      refine lv_iconst (v := 1) Fx.1 Fx.2.1 dL_law_183 (by decide) ?_
      refine lv_iadd Fx.1 Fx.2.1 dL_law_184 ?_
      refine va_sld Fx.1 Fx.2.1 hX hbl hbA hC.2.2.2.1 v1 dL_law_185 ?_
      obtain ⟨r, g', f', gm', fm', hc1, hm1, hR'⟩ := r_neck (xs (nI i + 1).toNatClampNeg) g f gm fm hR
      refine x_ci (w := cW ad (fun _ => cI)) (u := (r, g', f')) (rest := []) (As := [.int (xs (nI i + 1).toNatClampNeg)]) (qq := (RX9, TX9, 9)) (ci := 8) Fx hC hKc (k_FH_neck hc1) (cVU 1 Fx.2.2.2.2 wd_236 wd_237 wd_238 wd_1 wd_239 rfl rfl hd_FH_neck ⟨(Nat.le_of_ble_eq_true rfl), (Nat.le_of_ble_eq_true rfl)⟩) 0 rfl rfl rfl hl.1 rfl (Nat.le_of_ble_eq_true rfl) dL_law_186 ⟨(Nat.le_of_ble_eq_true rfl), (Nat.le_of_ble_eq_true rfl)⟩ (fun H locs hC => ?_)
      refine lv_aload_n Fx.1 Fx.2.1 dL_law_189 rfl (lv_at hl 2 rfl) ?_
      refine lv_aload_n Fx.1 Fx.2.1 dL_law_190 rfl (lv_at hl 0 rfl) ?_
      refine lv_iload_n Fx.1 Fx.2.1 dL_law_191 rfl (lv_at hl 3 rfl) ?_
      refine lv_iconst (v := 1) Fx.1 Fx.2.1 dL_law_192 (by decide) ?_
      refine lv_iadd Fx.1 Fx.2.1 dL_law_193 ?_
      refine va_sld Fx.1 Fx.2.1 hX hbl hbA hC.2.2.2.1 v1 dL_law_194 ?_
      refine x_ci (w := mW ad2 (fun k => if k = 16 then cZ else cI)) (u := (r, gm', fm')) (rest := [.int r]) (As := [.int (xs (nI i + 1).toNatClampNeg)]) (qq := (RX10, TX10, 33)) (ci := 9) Fx hC hKm (k_M_neck hm1) (cVU 1 Fx.2.2.2.2 wd_668 wd_669 wd_670 wd_10 wd_671 rfl rfl hd_M_neck ⟨(Nat.le_of_ble_eq_true rfl), (Nat.le_of_ble_eq_true rfl)⟩) 0 rfl rfl rfl hl.1 rfl (Nat.le_of_ble_eq_true rfl) dL_law_195 ⟨(Nat.le_of_ble_eq_true rfl), (Nat.le_of_ble_eq_true rfl)⟩ (fun H locs hC => ?_)
      refine lv_icmp_eq (tgt := 706) Fx.1 Fx.2.1 dL_law_198 (by decide) (fun _ => ?_) (fun q => absurd rfl q)
      exact h706 g' f' gm' fm' H locs hC hR'
    have hne2 := lv_neT (a := 2) hc (by decide)
    clear hc
    by_cases hc : x = (3 : Int32)
    · refine lv_tableIn (tgt := 203) Fx.1 Fx.2.1 dL_law_32 (by rw [hc]; decide) (by rw [hc]; decide) (by rw [hc]; rfl) (by decide) ?_
      refine lv_aload_n Fx.1 Fx.2.1 dL_law_203 rfl (lv_at hl 1 rfl) ?_
      refine lv_aload_n Fx.1 Fx.2.1 dL_law_204 rfl (lv_at hl 0 rfl) ?_
      refine lv_iload_n Fx.1 Fx.2.1 dL_law_205 rfl (lv_at hl 3 rfl) ?_
      refine lv_iconst (v := 1) Fx.1 Fx.2.1 dL_law_206 (by decide) ?_
      refine lv_iadd Fx.1 Fx.2.1 dL_law_207 ?_
      refine va_sld Fx.1 Fx.2.1 hX hbl hbA hC.2.2.2.1 v1 dL_law_208 ?_
      obtain ⟨r, g', f', gm', fm', hc1, hm1, hR'⟩ := r_capo (xs (nI i + 1).toNatClampNeg) g f gm fm hR
      refine x_ci (w := cW ad (fun _ => cI)) (u := (r, g', f')) (rest := []) (As := [.int (xs (nI i + 1).toNatClampNeg)]) (qq := (RX9, TX9, 9)) (ci := 8) Fx hC hKc (k_FH_capo hc1) (cVU 1 Fx.2.2.2.2 wd_240 wd_241 wd_242 wd_1 wd_243 rfl rfl hd_FH_capo ⟨(Nat.le_of_ble_eq_true rfl), (Nat.le_of_ble_eq_true rfl)⟩) 0 rfl rfl rfl hl.1 rfl (Nat.le_of_ble_eq_true rfl) dL_law_209 ⟨(Nat.le_of_ble_eq_true rfl), (Nat.le_of_ble_eq_true rfl)⟩ (fun H locs hC => ?_)
      refine lv_aload_n Fx.1 Fx.2.1 dL_law_212 rfl (lv_at hl 2 rfl) ?_
      refine lv_aload_n Fx.1 Fx.2.1 dL_law_213 rfl (lv_at hl 0 rfl) ?_
      refine lv_iload_n Fx.1 Fx.2.1 dL_law_214 rfl (lv_at hl 3 rfl) ?_
      refine lv_iconst (v := 1) Fx.1 Fx.2.1 dL_law_215 (by decide) ?_
      refine lv_iadd Fx.1 Fx.2.1 dL_law_216 ?_
      refine va_sld Fx.1 Fx.2.1 hX hbl hbA hC.2.2.2.1 v1 dL_law_217 ?_
      refine x_ci (w := mW ad2 (fun k => if k = 16 then cZ else cI)) (u := (r, gm', fm')) (rest := [.int r]) (As := [.int (xs (nI i + 1).toNatClampNeg)]) (qq := (RX10, TX10, 33)) (ci := 9) Fx hC hKm (k_M_capo hm1) (cVU 1 Fx.2.2.2.2 wd_672 wd_673 wd_674 wd_10 wd_675 rfl rfl hd_M_capo ⟨(Nat.le_of_ble_eq_true rfl), (Nat.le_of_ble_eq_true rfl)⟩) 0 rfl rfl rfl hl.1 rfl (Nat.le_of_ble_eq_true rfl) dL_law_218 ⟨(Nat.le_of_ble_eq_true rfl), (Nat.le_of_ble_eq_true rfl)⟩ (fun H locs hC => ?_)
      refine lv_icmp_eq (tgt := 706) Fx.1 Fx.2.1 dL_law_221 (by decide) (fun _ => ?_) (fun q => absurd rfl q)
      exact h706 g' f' gm' fm' H locs hC hR'
    have hne3 := lv_neT (a := 3) hc (by decide)
    clear hc
    by_cases hc : x = (4 : Int32)
    · refine lv_tableIn (tgt := 226) Fx.1 Fx.2.1 dL_law_32 (by rw [hc]; decide) (by rw [hc]; decide) (by rw [hc]; rfl) (by decide) ?_
      refine lv_aload_n Fx.1 Fx.2.1 dL_law_226 rfl (lv_at hl 1 rfl) ?_
      refine lv_aload_n Fx.1 Fx.2.1 dL_law_227 rfl (lv_at hl 0 rfl) ?_
      refine lv_iload_n Fx.1 Fx.2.1 dL_law_228 rfl (lv_at hl 3 rfl) ?_
      refine lv_iconst (v := 1) Fx.1 Fx.2.1 dL_law_229 (by decide) ?_
      refine lv_iadd Fx.1 Fx.2.1 dL_law_230 ?_
      refine va_sld Fx.1 Fx.2.1 hX hbl hbA hC.2.2.2.1 v1 dL_law_231 ?_
      refine lv_aload_n Fx.1 Fx.2.1 dL_law_232 rfl (lv_at hl 0 rfl) ?_
      refine lv_iload_n Fx.1 Fx.2.1 dL_law_233 rfl (lv_at hl 3 rfl) ?_
      refine lv_iconst (v := 2) Fx.1 Fx.2.1 dL_law_234 (by decide) ?_
      refine lv_iadd Fx.1 Fx.2.1 dL_law_235 ?_
      refine va_sld Fx.1 Fx.2.1 hX hbl hbA hC.2.2.2.1 v2 dL_law_236 ?_
      obtain ⟨r, g', f', gm', fm', hc1, hm1, hR'⟩ := r_weight (xs (nI i + 1).toNatClampNeg) (xs (nI i + 2).toNatClampNeg) g f gm fm hR
      refine x_ci (w := cW ad (fun _ => cI)) (u := (r, g', f')) (rest := []) (As := [.int (xs (nI i + 1).toNatClampNeg), .int (xs (nI i + 2).toNatClampNeg)]) (qq := (RX9, TX9, 9)) (ci := 8) Fx hC hKc (k_FH_weight hc1) (cVU 2 Fx.2.2.2.2 wd_244 wd_245 wd_246 wd_1 wd_247 rfl rfl hd_FH_weight ⟨(Nat.le_of_ble_eq_true rfl), (Nat.le_of_ble_eq_true rfl)⟩) 0 rfl rfl rfl hl.1 rfl (Nat.le_of_ble_eq_true rfl) dL_law_237 ⟨(Nat.le_of_ble_eq_true rfl), (Nat.le_of_ble_eq_true rfl)⟩ (fun H locs hC => ?_)
      refine lv_aload_n Fx.1 Fx.2.1 dL_law_240 rfl (lv_at hl 2 rfl) ?_
      refine lv_aload_n Fx.1 Fx.2.1 dL_law_241 rfl (lv_at hl 0 rfl) ?_
      refine lv_iload_n Fx.1 Fx.2.1 dL_law_242 rfl (lv_at hl 3 rfl) ?_
      refine lv_iconst (v := 1) Fx.1 Fx.2.1 dL_law_243 (by decide) ?_
      refine lv_iadd Fx.1 Fx.2.1 dL_law_244 ?_
      refine va_sld Fx.1 Fx.2.1 hX hbl hbA hC.2.2.2.1 v1 dL_law_245 ?_
      refine lv_aload_n Fx.1 Fx.2.1 dL_law_246 rfl (lv_at hl 0 rfl) ?_
      refine lv_iload_n Fx.1 Fx.2.1 dL_law_247 rfl (lv_at hl 3 rfl) ?_
      refine lv_iconst (v := 2) Fx.1 Fx.2.1 dL_law_248 (by decide) ?_
      refine lv_iadd Fx.1 Fx.2.1 dL_law_249 ?_
      refine va_sld Fx.1 Fx.2.1 hX hbl hbA hC.2.2.2.1 v2 dL_law_250 ?_
      refine x_ci (w := mW ad2 (fun k => if k = 16 then cZ else cI)) (u := (r, gm', fm')) (rest := [.int r]) (As := [.int (xs (nI i + 1).toNatClampNeg), .int (xs (nI i + 2).toNatClampNeg)]) (qq := (RX10, TX10, 33)) (ci := 9) Fx hC hKm (k_M_weight hm1) (cVU 2 Fx.2.2.2.2 wd_676 wd_677 wd_678 wd_10 wd_679 rfl rfl hd_M_weight ⟨(Nat.le_of_ble_eq_true rfl), (Nat.le_of_ble_eq_true rfl)⟩) 0 rfl rfl rfl hl.1 rfl (Nat.le_of_ble_eq_true rfl) dL_law_251 ⟨(Nat.le_of_ble_eq_true rfl), (Nat.le_of_ble_eq_true rfl)⟩ (fun H locs hC => ?_)
      refine lv_icmp_eq (tgt := 706) Fx.1 Fx.2.1 dL_law_254 (by decide) (fun _ => ?_) (fun q => absurd rfl q)
      exact h706 g' f' gm' fm' H locs hC hR'
    have hne4 := lv_neT (a := 4) hc (by decide)
    clear hc
    by_cases hc : x = (5 : Int32)
    · refine lv_tableIn (tgt := 259) Fx.1 Fx.2.1 dL_law_32 (by rw [hc]; decide) (by rw [hc]; decide) (by rw [hc]; rfl) (by decide) ?_
      refine lv_aload_n Fx.1 Fx.2.1 dL_law_259 rfl (lv_at hl 1 rfl) ?_
      refine lv_aload_n Fx.1 Fx.2.1 dL_law_260 rfl (lv_at hl 0 rfl) ?_
      refine lv_iload_n Fx.1 Fx.2.1 dL_law_261 rfl (lv_at hl 3 rfl) ?_
      refine lv_iconst (v := 1) Fx.1 Fx.2.1 dL_law_262 (by decide) ?_
      refine lv_iadd Fx.1 Fx.2.1 dL_law_263 ?_
      refine va_sld Fx.1 Fx.2.1 hX hbl hbA hC.2.2.2.1 v1 dL_law_264 ?_
      obtain ⟨r, g', f', gm', fm', hc1, hm1, hR'⟩ := r_event (xs (nI i + 1).toNatClampNeg) g f gm fm hR
      refine x_ci (w := cW ad (fun _ => cI)) (u := (r, g', f')) (rest := []) (As := [.int (xs (nI i + 1).toNatClampNeg)]) (qq := (RX9, TX9, 9)) (ci := 8) Fx hC hKc (k_FH_event hc1) (cVU 1 Fx.2.2.2.2 wd_248 wd_249 wd_250 wd_1 wd_251 rfl rfl hd_FH_event ⟨(Nat.le_of_ble_eq_true rfl), (Nat.le_of_ble_eq_true rfl)⟩) 0 rfl rfl rfl hl.1 rfl (Nat.le_of_ble_eq_true rfl) dL_law_265 ⟨(Nat.le_of_ble_eq_true rfl), (Nat.le_of_ble_eq_true rfl)⟩ (fun H locs hC => ?_)
      refine lv_aload_n Fx.1 Fx.2.1 dL_law_268 rfl (lv_at hl 2 rfl) ?_
      refine lv_aload_n Fx.1 Fx.2.1 dL_law_269 rfl (lv_at hl 0 rfl) ?_
      refine lv_iload_n Fx.1 Fx.2.1 dL_law_270 rfl (lv_at hl 3 rfl) ?_
      refine lv_iconst (v := 1) Fx.1 Fx.2.1 dL_law_271 (by decide) ?_
      refine lv_iadd Fx.1 Fx.2.1 dL_law_272 ?_
      refine va_sld Fx.1 Fx.2.1 hX hbl hbA hC.2.2.2.1 v1 dL_law_273 ?_
      refine x_ci (w := mW ad2 (fun k => if k = 16 then cZ else cI)) (u := (r, gm', fm')) (rest := [.int r]) (As := [.int (xs (nI i + 1).toNatClampNeg)]) (qq := (RX10, TX10, 33)) (ci := 9) Fx hC hKm (k_M_event hm1) (cVU 1 Fx.2.2.2.2 wd_680 wd_681 wd_682 wd_10 wd_683 rfl rfl hd_M_event ⟨(Nat.le_of_ble_eq_true rfl), (Nat.le_of_ble_eq_true rfl)⟩) 0 rfl rfl rfl hl.1 rfl (Nat.le_of_ble_eq_true rfl) dL_law_274 ⟨(Nat.le_of_ble_eq_true rfl), (Nat.le_of_ble_eq_true rfl)⟩ (fun H locs hC => ?_)
      refine lv_icmp_eq (tgt := 706) Fx.1 Fx.2.1 dL_law_277 (by decide) (fun _ => ?_) (fun q => absurd rfl q)
      exact h706 g' f' gm' fm' H locs hC hR'
    have hne5 := lv_neT (a := 5) hc (by decide)
    clear hc
    by_cases hc : x = (6 : Int32)
    · refine lv_tableIn (tgt := 282) Fx.1 Fx.2.1 dL_law_32 (by rw [hc]; decide) (by rw [hc]; decide) (by rw [hc]; rfl) (by decide) ?_
      refine lv_aload_n Fx.1 Fx.2.1 dL_law_282 rfl (lv_at hl 1 rfl) ?_
      refine lv_aload_n Fx.1 Fx.2.1 dL_law_283 rfl (lv_at hl 0 rfl) ?_
      refine lv_iload_n Fx.1 Fx.2.1 dL_law_284 rfl (lv_at hl 3 rfl) ?_
      refine lv_iconst (v := 1) Fx.1 Fx.2.1 dL_law_285 (by decide) ?_
      refine lv_iadd Fx.1 Fx.2.1 dL_law_286 ?_
      refine va_sld Fx.1 Fx.2.1 hX hbl hbA hC.2.2.2.1 v1 dL_law_287 ?_
      obtain ⟨r, g', f', gm', fm', hc1, hm1, hR'⟩ := r_pitch (xs (nI i + 1).toNatClampNeg) g f gm fm hR
      refine x_ci (w := cW ad (fun _ => cI)) (u := (r, g', f')) (rest := []) (As := [.int (xs (nI i + 1).toNatClampNeg)]) (qq := (RX9, TX9, 9)) (ci := 8) Fx hC hKc (k_FH_pitch hc1) (cVU 1 Fx.2.2.2.2 wd_263 wd_264 wd_265 wd_1 wd_266 rfl rfl hd_FH_pitch ⟨(Nat.le_of_ble_eq_true rfl), (Nat.le_of_ble_eq_true rfl)⟩) 0 rfl rfl rfl hl.1 rfl (Nat.le_of_ble_eq_true rfl) dL_law_288 ⟨(Nat.le_of_ble_eq_true rfl), (Nat.le_of_ble_eq_true rfl)⟩ (fun H locs hC => ?_)
      refine lv_aload_n Fx.1 Fx.2.1 dL_law_291 rfl (lv_at hl 2 rfl) ?_
      refine lv_aload_n Fx.1 Fx.2.1 dL_law_292 rfl (lv_at hl 0 rfl) ?_
      refine lv_iload_n Fx.1 Fx.2.1 dL_law_293 rfl (lv_at hl 3 rfl) ?_
      refine lv_iconst (v := 1) Fx.1 Fx.2.1 dL_law_294 (by decide) ?_
      refine lv_iadd Fx.1 Fx.2.1 dL_law_295 ?_
      refine va_sld Fx.1 Fx.2.1 hX hbl hbA hC.2.2.2.1 v1 dL_law_296 ?_
      refine x_ci (w := mW ad2 (fun k => if k = 16 then cZ else cI)) (u := (r, gm', fm')) (rest := [.int r]) (As := [.int (xs (nI i + 1).toNatClampNeg)]) (qq := (RX10, TX10, 33)) (ci := 9) Fx hC hKm (k_M_pitch hm1) (cVU 1 Fx.2.2.2.2 wd_684 wd_685 wd_686 wd_10 wd_687 rfl rfl hd_M_pitch ⟨(Nat.le_of_ble_eq_true rfl), (Nat.le_of_ble_eq_true rfl)⟩) 0 rfl rfl rfl hl.1 rfl (Nat.le_of_ble_eq_true rfl) dL_law_297 ⟨(Nat.le_of_ble_eq_true rfl), (Nat.le_of_ble_eq_true rfl)⟩ (fun H locs hC => ?_)
      refine lv_icmp_eq (tgt := 706) Fx.1 Fx.2.1 dL_law_300 (by decide) (fun _ => ?_) (fun q => absurd rfl q)
      exact h706 g' f' gm' fm' H locs hC hR'
    have hne6 := lv_neT (a := 6) hc (by decide)
    clear hc
    by_cases hc : x = (7 : Int32)
    · refine lv_tableIn (tgt := 305) Fx.1 Fx.2.1 dL_law_32 (by rw [hc]; decide) (by rw [hc]; decide) (by rw [hc]; rfl) (by decide) ?_
      refine lv_aload_n Fx.1 Fx.2.1 dL_law_305 rfl (lv_at hl 1 rfl) ?_
      refine lv_aload_n Fx.1 Fx.2.1 dL_law_306 rfl (lv_at hl 0 rfl) ?_
      refine lv_iload_n Fx.1 Fx.2.1 dL_law_307 rfl (lv_at hl 3 rfl) ?_
      refine lv_iconst (v := 1) Fx.1 Fx.2.1 dL_law_308 (by decide) ?_
      refine lv_iadd Fx.1 Fx.2.1 dL_law_309 ?_
      refine va_sld Fx.1 Fx.2.1 hX hbl hbA hC.2.2.2.1 v1 dL_law_310 ?_
      refine lv_aload_n Fx.1 Fx.2.1 dL_law_311 rfl (lv_at hl 0 rfl) ?_
      refine lv_iload_n Fx.1 Fx.2.1 dL_law_312 rfl (lv_at hl 3 rfl) ?_
      refine lv_iconst (v := 2) Fx.1 Fx.2.1 dL_law_313 (by decide) ?_
      refine lv_iadd Fx.1 Fx.2.1 dL_law_314 ?_
      refine va_sld Fx.1 Fx.2.1 hX hbl hbA hC.2.2.2.1 v2 dL_law_315 ?_
      refine lv_aload_n Fx.1 Fx.2.1 dL_law_316 rfl (lv_at hl 0 rfl) ?_
      refine lv_iload_n Fx.1 Fx.2.1 dL_law_317 rfl (lv_at hl 3 rfl) ?_
      refine lv_iconst (v := 3) Fx.1 Fx.2.1 dL_law_318 (by decide) ?_
      refine lv_iadd Fx.1 Fx.2.1 dL_law_319 ?_
      refine va_sld Fx.1 Fx.2.1 hX hbl hbA hC.2.2.2.1 v3 dL_law_320 ?_
      obtain ⟨r, g', f', gm', fm', hc1, hm1, hR'⟩ := r_bind (xs (nI i + 1).toNatClampNeg) (xs (nI i + 2).toNatClampNeg) (xs (nI i + 3).toNatClampNeg) g f gm fm hR
      refine x_ci (w := cW ad (fun _ => cI)) (u := (r, g', f')) (rest := []) (As := [.int (xs (nI i + 1).toNatClampNeg), .int (xs (nI i + 2).toNatClampNeg), .int (xs (nI i + 3).toNatClampNeg)]) (qq := (RX9, TX9, 9)) (ci := 8) Fx hC hKc (k_FH_bind hc1) (cVU 3 Fx.2.2.2.2 wd_288 wd_289 wd_290 wd_1 wd_291 rfl rfl hd_FH_bind ⟨(Nat.le_of_ble_eq_true rfl), (Nat.le_of_ble_eq_true rfl)⟩) 0 rfl rfl rfl hl.1 rfl (Nat.le_of_ble_eq_true rfl) dL_law_321 ⟨(Nat.le_of_ble_eq_true rfl), (Nat.le_of_ble_eq_true rfl)⟩ (fun H locs hC => ?_)
      refine lv_aload_n Fx.1 Fx.2.1 dL_law_324 rfl (lv_at hl 2 rfl) ?_
      refine lv_aload_n Fx.1 Fx.2.1 dL_law_325 rfl (lv_at hl 0 rfl) ?_
      refine lv_iload_n Fx.1 Fx.2.1 dL_law_326 rfl (lv_at hl 3 rfl) ?_
      refine lv_iconst (v := 1) Fx.1 Fx.2.1 dL_law_327 (by decide) ?_
      refine lv_iadd Fx.1 Fx.2.1 dL_law_328 ?_
      refine va_sld Fx.1 Fx.2.1 hX hbl hbA hC.2.2.2.1 v1 dL_law_329 ?_
      refine lv_aload_n Fx.1 Fx.2.1 dL_law_330 rfl (lv_at hl 0 rfl) ?_
      refine lv_iload_n Fx.1 Fx.2.1 dL_law_331 rfl (lv_at hl 3 rfl) ?_
      refine lv_iconst (v := 2) Fx.1 Fx.2.1 dL_law_332 (by decide) ?_
      refine lv_iadd Fx.1 Fx.2.1 dL_law_333 ?_
      refine va_sld Fx.1 Fx.2.1 hX hbl hbA hC.2.2.2.1 v2 dL_law_334 ?_
      refine lv_aload_n Fx.1 Fx.2.1 dL_law_335 rfl (lv_at hl 0 rfl) ?_
      refine lv_iload_n Fx.1 Fx.2.1 dL_law_336 rfl (lv_at hl 3 rfl) ?_
      refine lv_iconst (v := 3) Fx.1 Fx.2.1 dL_law_337 (by decide) ?_
      refine lv_iadd Fx.1 Fx.2.1 dL_law_338 ?_
      refine va_sld Fx.1 Fx.2.1 hX hbl hbA hC.2.2.2.1 v3 dL_law_339 ?_
      refine x_ci (w := mW ad2 (fun k => if k = 16 then cZ else cI)) (u := (r, gm', fm')) (rest := [.int r]) (As := [.int (xs (nI i + 1).toNatClampNeg), .int (xs (nI i + 2).toNatClampNeg), .int (xs (nI i + 3).toNatClampNeg)]) (qq := (RX10, TX10, 33)) (ci := 9) Fx hC hKm (k_M_bind hm1) (cVU 3 Fx.2.2.2.2 wd_691 wd_692 wd_693 wd_10 wd_694 rfl rfl hd_M_bind ⟨(Nat.le_of_ble_eq_true rfl), (Nat.le_of_ble_eq_true rfl)⟩) 0 rfl rfl rfl hl.1 rfl (Nat.le_of_ble_eq_true rfl) dL_law_340 ⟨(Nat.le_of_ble_eq_true rfl), (Nat.le_of_ble_eq_true rfl)⟩ (fun H locs hC => ?_)
      refine lv_icmp_eq (tgt := 706) Fx.1 Fx.2.1 dL_law_343 (by decide) (fun _ => ?_) (fun q => absurd rfl q)
      exact h706 g' f' gm' fm' H locs hC hR'
    have hne7 := lv_neT (a := 7) hc (by decide)
    clear hc
    by_cases hc : x = (8 : Int32)
    · refine lv_tableIn (tgt := 348) Fx.1 Fx.2.1 dL_law_32 (by rw [hc]; decide) (by rw [hc]; decide) (by rw [hc]; rfl) (by decide) ?_
      refine lv_aload_n Fx.1 Fx.2.1 dL_law_348 rfl (lv_at hl 1 rfl) ?_
      obtain ⟨r, g', f', gm', fm', hc1, hm1, hR'⟩ := r_drop  g f gm fm hR
      refine x_ci (w := cW ad (fun _ => cI)) (u := (r, g', f')) (rest := []) (As := []) (qq := (RX9, TX9, 9)) (ci := 8) Fx hC hKc (k_FH_drop hc1) (cVU 0 Fx.2.2.2.2 wd_306 wd_307 wd_308 wd_1 wd_309 rfl rfl hd_FH_drop ⟨(Nat.le_of_ble_eq_true rfl), (Nat.le_of_ble_eq_true rfl)⟩) 0 rfl rfl rfl hl.1 rfl (Nat.le_of_ble_eq_true rfl) dL_law_349 ⟨(Nat.le_of_ble_eq_true rfl), (Nat.le_of_ble_eq_true rfl)⟩ (fun H locs hC => ?_)
      refine lv_aload_n Fx.1 Fx.2.1 dL_law_352 rfl (lv_at hl 2 rfl) ?_
      refine x_ci (w := mW ad2 (fun k => if k = 16 then cZ else cI)) (u := (r, gm', fm')) (rest := [.int r]) (As := []) (qq := (RX10, TX10, 33)) (ci := 9) Fx hC hKm (k_M_drop hm1) (cVU 0 Fx.2.2.2.2 wd_701 wd_702 wd_703 wd_10 wd_704 rfl rfl hd_M_drop ⟨(Nat.le_of_ble_eq_true rfl), (Nat.le_of_ble_eq_true rfl)⟩) 0 rfl rfl rfl hl.1 rfl (Nat.le_of_ble_eq_true rfl) dL_law_353 ⟨(Nat.le_of_ble_eq_true rfl), (Nat.le_of_ble_eq_true rfl)⟩ (fun H locs hC => ?_)
      refine lv_icmp_eq (tgt := 706) Fx.1 Fx.2.1 dL_law_356 (by decide) (fun _ => ?_) (fun q => absurd rfl q)
      exact h706 g' f' gm' fm' H locs hC hR'
    have hne8 := lv_neT (a := 8) hc (by decide)
    clear hc
    by_cases hc : x = (9 : Int32)
    · refine lv_tableIn (tgt := 361) Fx.1 Fx.2.1 dL_law_32 (by rw [hc]; decide) (by rw [hc]; decide) (by rw [hc]; rfl) (by decide) ?_
      refine lv_aload_n Fx.1 Fx.2.1 dL_law_361 rfl (lv_at hl 1 rfl) ?_
      refine lv_aload_n Fx.1 Fx.2.1 dL_law_362 rfl (lv_at hl 0 rfl) ?_
      refine lv_iload_n Fx.1 Fx.2.1 dL_law_363 rfl (lv_at hl 3 rfl) ?_
      refine lv_iconst (v := 1) Fx.1 Fx.2.1 dL_law_364 (by decide) ?_
      refine lv_iadd Fx.1 Fx.2.1 dL_law_365 ?_
      refine va_sld Fx.1 Fx.2.1 hX hbl hbA hC.2.2.2.1 v1 dL_law_366 ?_
      obtain ⟨r, hc1, hm1⟩ := r_told (xs (nI i + 1).toNatClampNeg) g f gm fm hR
      refine x_ci (w := cW ad (fun _ => cI)) (u := (r, g, f)) (rest := []) (As := [.int (xs (nI i + 1).toNatClampNeg)]) (qq := (RX9, TX9, 9)) (ci := 8) Fx hC hKc (k_FH_told hc1) (cVU 1 Fx.2.2.2.2 wd_310 wd_311 wd_312 wd_1 wd_313 rfl rfl hd_FH_told ⟨(Nat.le_of_ble_eq_true rfl), (Nat.le_of_ble_eq_true rfl)⟩) 0 rfl rfl rfl hl.1 rfl (Nat.le_of_ble_eq_true rfl) dL_law_367 ⟨(Nat.le_of_ble_eq_true rfl), (Nat.le_of_ble_eq_true rfl)⟩ (fun H locs hC => ?_)
      refine lv_aload_n Fx.1 Fx.2.1 dL_law_370 rfl (lv_at hl 2 rfl) ?_
      refine lv_aload_n Fx.1 Fx.2.1 dL_law_371 rfl (lv_at hl 0 rfl) ?_
      refine lv_iload_n Fx.1 Fx.2.1 dL_law_372 rfl (lv_at hl 3 rfl) ?_
      refine lv_iconst (v := 1) Fx.1 Fx.2.1 dL_law_373 (by decide) ?_
      refine lv_iadd Fx.1 Fx.2.1 dL_law_374 ?_
      refine va_sld Fx.1 Fx.2.1 hX hbl hbA hC.2.2.2.1 v1 dL_law_375 ?_
      refine x_ci (w := mW ad2 (fun k => if k = 16 then cZ else cI)) (u := (r, gm, fm)) (rest := [.int r]) (As := [.int (xs (nI i + 1).toNatClampNeg)]) (qq := (RX10, TX10, 33)) (ci := 9) Fx hC hKm (k_M_told hm1) (cVU 1 Fx.2.2.2.2 wd_705 wd_706 wd_707 wd_10 wd_708 rfl rfl hd_M_told ⟨(Nat.le_of_ble_eq_true rfl), (Nat.le_of_ble_eq_true rfl)⟩) 0 rfl rfl rfl hl.1 rfl (Nat.le_of_ble_eq_true rfl) dL_law_376 ⟨(Nat.le_of_ble_eq_true rfl), (Nat.le_of_ble_eq_true rfl)⟩ (fun H locs hC => ?_)
      refine lv_icmp_eq (tgt := 706) Fx.1 Fx.2.1 dL_law_379 (by decide) (fun _ => ?_) (fun q => absurd rfl q)
      exact h706 g f gm fm H locs hC hR
    have hne9 := lv_neT (a := 9) hc (by decide)
    clear hc
    by_cases hc : x = (10 : Int32)
    · refine lv_tableIn (tgt := 384) Fx.1 Fx.2.1 dL_law_32 (by rw [hc]; decide) (by rw [hc]; decide) (by rw [hc]; rfl) (by decide) ?_
      refine lv_aload_n Fx.1 Fx.2.1 dL_law_384 rfl (lv_at hl 1 rfl) ?_
      refine lv_aload_n Fx.1 Fx.2.1 dL_law_385 rfl (lv_at hl 0 rfl) ?_
      refine lv_iload_n Fx.1 Fx.2.1 dL_law_386 rfl (lv_at hl 3 rfl) ?_
      refine lv_iconst (v := 1) Fx.1 Fx.2.1 dL_law_387 (by decide) ?_
      refine lv_iadd Fx.1 Fx.2.1 dL_law_388 ?_
      refine va_sld Fx.1 Fx.2.1 hX hbl hbA hC.2.2.2.1 v1 dL_law_389 ?_
      refine lv_aload_n Fx.1 Fx.2.1 dL_law_390 rfl (lv_at hl 0 rfl) ?_
      refine lv_iload_n Fx.1 Fx.2.1 dL_law_391 rfl (lv_at hl 3 rfl) ?_
      refine lv_iconst (v := 2) Fx.1 Fx.2.1 dL_law_392 (by decide) ?_
      refine lv_iadd Fx.1 Fx.2.1 dL_law_393 ?_
      refine va_sld Fx.1 Fx.2.1 hX hbl hbA hC.2.2.2.1 v2 dL_law_394 ?_
      obtain ⟨r, hc1, hm1⟩ := r_at (xs (nI i + 1).toNatClampNeg) (xs (nI i + 2).toNatClampNeg) g f gm fm hR
      refine x_ci (w := cW ad (fun _ => cI)) (u := (r, g, f)) (rest := []) (As := [.int (xs (nI i + 1).toNatClampNeg), .int (xs (nI i + 2).toNatClampNeg)]) (qq := (RX9, TX9, 9)) (ci := 8) Fx hC hKc (k_FH_at hc1) (cVU 2 Fx.2.2.2.2 wd_314 wd_315 wd_316 wd_1 wd_317 rfl rfl hd_FH_at ⟨(Nat.le_of_ble_eq_true rfl), (Nat.le_of_ble_eq_true rfl)⟩) 0 rfl rfl rfl hl.1 rfl (Nat.le_of_ble_eq_true rfl) dL_law_395 ⟨(Nat.le_of_ble_eq_true rfl), (Nat.le_of_ble_eq_true rfl)⟩ (fun H locs hC => ?_)
      refine lv_aload_n Fx.1 Fx.2.1 dL_law_398 rfl (lv_at hl 2 rfl) ?_
      refine lv_aload_n Fx.1 Fx.2.1 dL_law_399 rfl (lv_at hl 0 rfl) ?_
      refine lv_iload_n Fx.1 Fx.2.1 dL_law_400 rfl (lv_at hl 3 rfl) ?_
      refine lv_iconst (v := 1) Fx.1 Fx.2.1 dL_law_401 (by decide) ?_
      refine lv_iadd Fx.1 Fx.2.1 dL_law_402 ?_
      refine va_sld Fx.1 Fx.2.1 hX hbl hbA hC.2.2.2.1 v1 dL_law_403 ?_
      refine lv_aload_n Fx.1 Fx.2.1 dL_law_404 rfl (lv_at hl 0 rfl) ?_
      refine lv_iload_n Fx.1 Fx.2.1 dL_law_405 rfl (lv_at hl 3 rfl) ?_
      refine lv_iconst (v := 2) Fx.1 Fx.2.1 dL_law_406 (by decide) ?_
      refine lv_iadd Fx.1 Fx.2.1 dL_law_407 ?_
      refine va_sld Fx.1 Fx.2.1 hX hbl hbA hC.2.2.2.1 v2 dL_law_408 ?_
      refine x_ci (w := mW ad2 (fun k => if k = 16 then cZ else cI)) (u := (r, gm, fm)) (rest := [.int r]) (As := [.int (xs (nI i + 1).toNatClampNeg), .int (xs (nI i + 2).toNatClampNeg)]) (qq := (RX10, TX10, 33)) (ci := 9) Fx hC hKm (k_M_at hm1) (cVU 2 Fx.2.2.2.2 wd_709 wd_710 wd_711 wd_10 wd_712 rfl rfl hd_M_at ⟨(Nat.le_of_ble_eq_true rfl), (Nat.le_of_ble_eq_true rfl)⟩) 0 rfl rfl rfl hl.1 rfl (Nat.le_of_ble_eq_true rfl) dL_law_409 ⟨(Nat.le_of_ble_eq_true rfl), (Nat.le_of_ble_eq_true rfl)⟩ (fun H locs hC => ?_)
      refine lv_icmp_eq (tgt := 706) Fx.1 Fx.2.1 dL_law_412 (by decide) (fun _ => ?_) (fun q => absurd rfl q)
      exact h706 g f gm fm H locs hC hR
    have hne10 := lv_neT (a := 10) hc (by decide)
    clear hc
    by_cases hc : x = (11 : Int32)
    · refine lv_tableIn (tgt := 417) Fx.1 Fx.2.1 dL_law_32 (by rw [hc]; decide) (by rw [hc]; decide) (by rw [hc]; rfl) (by decide) ?_
      refine lv_aload_n Fx.1 Fx.2.1 dL_law_417 rfl (lv_at hl 1 rfl) ?_
      refine lv_aload_n Fx.1 Fx.2.1 dL_law_418 rfl (lv_at hl 0 rfl) ?_
      refine lv_iload_n Fx.1 Fx.2.1 dL_law_419 rfl (lv_at hl 3 rfl) ?_
      refine lv_iconst (v := 1) Fx.1 Fx.2.1 dL_law_420 (by decide) ?_
      refine lv_iadd Fx.1 Fx.2.1 dL_law_421 ?_
      refine va_sld Fx.1 Fx.2.1 hX hbl hbA hC.2.2.2.1 v1 dL_law_422 ?_
      refine lv_aload_n Fx.1 Fx.2.1 dL_law_423 rfl (lv_at hl 0 rfl) ?_
      refine lv_iload_n Fx.1 Fx.2.1 dL_law_424 rfl (lv_at hl 3 rfl) ?_
      refine lv_iconst (v := 2) Fx.1 Fx.2.1 dL_law_425 (by decide) ?_
      refine lv_iadd Fx.1 Fx.2.1 dL_law_426 ?_
      refine va_sld Fx.1 Fx.2.1 hX hbl hbA hC.2.2.2.1 v2 dL_law_427 ?_
      obtain ⟨r, hc1, hm1⟩ := r_bound (xs (nI i + 1).toNatClampNeg) (xs (nI i + 2).toNatClampNeg) g f gm fm hR
      refine x_ci (w := cW ad (fun _ => cI)) (u := (r, g, f)) (rest := []) (As := [.int (xs (nI i + 1).toNatClampNeg), .int (xs (nI i + 2).toNatClampNeg)]) (qq := (RX9, TX9, 9)) (ci := 8) Fx hC hKc (k_FH_bound hc1) (cVU 2 Fx.2.2.2.2 wd_319 wd_320 wd_321 wd_1 wd_322 rfl rfl hd_FH_bound ⟨(Nat.le_of_ble_eq_true rfl), (Nat.le_of_ble_eq_true rfl)⟩) 0 rfl rfl rfl hl.1 rfl (Nat.le_of_ble_eq_true rfl) dL_law_428 ⟨(Nat.le_of_ble_eq_true rfl), (Nat.le_of_ble_eq_true rfl)⟩ (fun H locs hC => ?_)
      refine lv_aload_n Fx.1 Fx.2.1 dL_law_431 rfl (lv_at hl 2 rfl) ?_
      refine lv_aload_n Fx.1 Fx.2.1 dL_law_432 rfl (lv_at hl 0 rfl) ?_
      refine lv_iload_n Fx.1 Fx.2.1 dL_law_433 rfl (lv_at hl 3 rfl) ?_
      refine lv_iconst (v := 1) Fx.1 Fx.2.1 dL_law_434 (by decide) ?_
      refine lv_iadd Fx.1 Fx.2.1 dL_law_435 ?_
      refine va_sld Fx.1 Fx.2.1 hX hbl hbA hC.2.2.2.1 v1 dL_law_436 ?_
      refine lv_aload_n Fx.1 Fx.2.1 dL_law_437 rfl (lv_at hl 0 rfl) ?_
      refine lv_iload_n Fx.1 Fx.2.1 dL_law_438 rfl (lv_at hl 3 rfl) ?_
      refine lv_iconst (v := 2) Fx.1 Fx.2.1 dL_law_439 (by decide) ?_
      refine lv_iadd Fx.1 Fx.2.1 dL_law_440 ?_
      refine va_sld Fx.1 Fx.2.1 hX hbl hbA hC.2.2.2.1 v2 dL_law_441 ?_
      refine x_ci (w := mW ad2 (fun k => if k = 16 then cZ else cI)) (u := (r, gm, fm)) (rest := [.int r]) (As := [.int (xs (nI i + 1).toNatClampNeg), .int (xs (nI i + 2).toNatClampNeg)]) (qq := (RX10, TX10, 33)) (ci := 9) Fx hC hKm (k_M_bound hm1) (cVU 2 Fx.2.2.2.2 wd_713 wd_714 wd_715 wd_10 wd_716 rfl rfl hd_M_bound ⟨(Nat.le_of_ble_eq_true rfl), (Nat.le_of_ble_eq_true rfl)⟩) 0 rfl rfl rfl hl.1 rfl (Nat.le_of_ble_eq_true rfl) dL_law_442 ⟨(Nat.le_of_ble_eq_true rfl), (Nat.le_of_ble_eq_true rfl)⟩ (fun H locs hC => ?_)
      refine lv_icmp_eq (tgt := 706) Fx.1 Fx.2.1 dL_law_445 (by decide) (fun _ => ?_) (fun q => absurd rfl q)
      exact h706 g f gm fm H locs hC hR
    have hne11 := lv_neT (a := 11) hc (by decide)
    clear hc
    by_cases hc : x = (12 : Int32)
    · refine lv_tableIn (tgt := 450) Fx.1 Fx.2.1 dL_law_32 (by rw [hc]; decide) (by rw [hc]; decide) (by rw [hc]; rfl) (by decide) ?_
      refine lv_aload_n Fx.1 Fx.2.1 dL_law_450 rfl (lv_at hl 1 rfl) ?_
      refine lv_aload_n Fx.1 Fx.2.1 dL_law_451 rfl (lv_at hl 0 rfl) ?_
      refine lv_iload_n Fx.1 Fx.2.1 dL_law_452 rfl (lv_at hl 3 rfl) ?_
      refine lv_iconst (v := 1) Fx.1 Fx.2.1 dL_law_453 (by decide) ?_
      refine lv_iadd Fx.1 Fx.2.1 dL_law_454 ?_
      refine va_sld Fx.1 Fx.2.1 hX hbl hbA hC.2.2.2.1 v1 dL_law_455 ?_
      refine lv_aload_n Fx.1 Fx.2.1 dL_law_456 rfl (lv_at hl 0 rfl) ?_
      refine lv_iload_n Fx.1 Fx.2.1 dL_law_457 rfl (lv_at hl 3 rfl) ?_
      refine lv_iconst (v := 2) Fx.1 Fx.2.1 dL_law_458 (by decide) ?_
      refine lv_iadd Fx.1 Fx.2.1 dL_law_459 ?_
      refine va_sld Fx.1 Fx.2.1 hX hbl hbA hC.2.2.2.1 v2 dL_law_460 ?_
      obtain ⟨r, hc1, hm1⟩ := r_fret (xs (nI i + 1).toNatClampNeg) (xs (nI i + 2).toNatClampNeg) g f gm fm hR
      refine x_ci (w := cW ad (fun _ => cI)) (u := (r, g, f)) (rest := []) (As := [.int (xs (nI i + 1).toNatClampNeg), .int (xs (nI i + 2).toNatClampNeg)]) (qq := (RX9, TX9, 9)) (ci := 8) Fx hC hKc (k_FH_fret hc1) (cVU 2 Fx.2.2.2.2 wd_323 wd_324 wd_325 wd_1 wd_326 rfl rfl hd_FH_fret ⟨(Nat.le_of_ble_eq_true rfl), (Nat.le_of_ble_eq_true rfl)⟩) 0 rfl rfl rfl hl.1 rfl (Nat.le_of_ble_eq_true rfl) dL_law_461 ⟨(Nat.le_of_ble_eq_true rfl), (Nat.le_of_ble_eq_true rfl)⟩ (fun H locs hC => ?_)
      refine lv_aload_n Fx.1 Fx.2.1 dL_law_464 rfl (lv_at hl 2 rfl) ?_
      refine lv_aload_n Fx.1 Fx.2.1 dL_law_465 rfl (lv_at hl 0 rfl) ?_
      refine lv_iload_n Fx.1 Fx.2.1 dL_law_466 rfl (lv_at hl 3 rfl) ?_
      refine lv_iconst (v := 1) Fx.1 Fx.2.1 dL_law_467 (by decide) ?_
      refine lv_iadd Fx.1 Fx.2.1 dL_law_468 ?_
      refine va_sld Fx.1 Fx.2.1 hX hbl hbA hC.2.2.2.1 v1 dL_law_469 ?_
      refine lv_aload_n Fx.1 Fx.2.1 dL_law_470 rfl (lv_at hl 0 rfl) ?_
      refine lv_iload_n Fx.1 Fx.2.1 dL_law_471 rfl (lv_at hl 3 rfl) ?_
      refine lv_iconst (v := 2) Fx.1 Fx.2.1 dL_law_472 (by decide) ?_
      refine lv_iadd Fx.1 Fx.2.1 dL_law_473 ?_
      refine va_sld Fx.1 Fx.2.1 hX hbl hbA hC.2.2.2.1 v2 dL_law_474 ?_
      refine x_ci (w := mW ad2 (fun k => if k = 16 then cZ else cI)) (u := (r, gm, fm)) (rest := [.int r]) (As := [.int (xs (nI i + 1).toNatClampNeg), .int (xs (nI i + 2).toNatClampNeg)]) (qq := (RX10, TX10, 33)) (ci := 9) Fx hC hKm (k_M_fret hm1) (cVU 2 Fx.2.2.2.2 wd_717 wd_718 wd_719 wd_10 wd_720 rfl rfl hd_M_fret ⟨(Nat.le_of_ble_eq_true rfl), (Nat.le_of_ble_eq_true rfl)⟩) 0 rfl rfl rfl hl.1 rfl (Nat.le_of_ble_eq_true rfl) dL_law_475 ⟨(Nat.le_of_ble_eq_true rfl), (Nat.le_of_ble_eq_true rfl)⟩ (fun H locs hC => ?_)
      refine lv_icmp_eq (tgt := 706) Fx.1 Fx.2.1 dL_law_478 (by decide) (fun _ => ?_) (fun q => absurd rfl q)
      exact h706 g f gm fm H locs hC hR
    have hne12 := lv_neT (a := 12) hc (by decide)
    clear hc
    by_cases hc : x = (13 : Int32)
    · refine lv_tableIn (tgt := 483) Fx.1 Fx.2.1 dL_law_32 (by rw [hc]; decide) (by rw [hc]; decide) (by rw [hc]; rfl) (by decide) ?_
      refine lv_aload_n Fx.1 Fx.2.1 dL_law_483 rfl (lv_at hl 1 rfl) ?_
      refine lv_aload_n Fx.1 Fx.2.1 dL_law_484 rfl (lv_at hl 0 rfl) ?_
      refine lv_iload_n Fx.1 Fx.2.1 dL_law_485 rfl (lv_at hl 3 rfl) ?_
      refine lv_iconst (v := 1) Fx.1 Fx.2.1 dL_law_486 (by decide) ?_
      refine lv_iadd Fx.1 Fx.2.1 dL_law_487 ?_
      refine va_sld Fx.1 Fx.2.1 hX hbl hbA hC.2.2.2.1 v1 dL_law_488 ?_
      obtain ⟨r, g', f', gm', fm', hc1, hm1, hR'⟩ := r_grips (xs (nI i + 1).toNatClampNeg) g f gm fm hR
      refine x_ci (w := cW ad (fun _ => cI)) (u := (r, g', f')) (rest := []) (As := [.int (xs (nI i + 1).toNatClampNeg)]) (qq := (RX9, TX9, 9)) (ci := 8) Fx hC hKc (k_FH_grips hc1) (cVU 1 Fx.2.2.2.2 wd_332 wd_333 wd_334 wd_1 wd_335 rfl rfl hd_FH_grips ⟨(Nat.le_of_ble_eq_true rfl), (Nat.le_of_ble_eq_true rfl)⟩) 0 rfl rfl rfl hl.1 rfl (Nat.le_of_ble_eq_true rfl) dL_law_489 ⟨(Nat.le_of_ble_eq_true rfl), (Nat.le_of_ble_eq_true rfl)⟩ (fun H locs hC => ?_)
      refine lv_aload_n Fx.1 Fx.2.1 dL_law_492 rfl (lv_at hl 2 rfl) ?_
      refine lv_aload_n Fx.1 Fx.2.1 dL_law_493 rfl (lv_at hl 0 rfl) ?_
      refine lv_iload_n Fx.1 Fx.2.1 dL_law_494 rfl (lv_at hl 3 rfl) ?_
      refine lv_iconst (v := 1) Fx.1 Fx.2.1 dL_law_495 (by decide) ?_
      refine lv_iadd Fx.1 Fx.2.1 dL_law_496 ?_
      refine va_sld Fx.1 Fx.2.1 hX hbl hbA hC.2.2.2.1 v1 dL_law_497 ?_
      refine x_ci (w := mW ad2 (fun k => if k = 16 then cZ else cI)) (u := (r, gm', fm')) (rest := [.int r]) (As := [.int (xs (nI i + 1).toNatClampNeg)]) (qq := (RX10, TX10, 33)) (ci := 9) Fx hC hKm (k_M_grips hm1) (cVU 1 Fx.2.2.2.2 wd_724 wd_725 wd_726 wd_10 wd_727 rfl rfl hd_M_grips ⟨(Nat.le_of_ble_eq_true rfl), (Nat.le_of_ble_eq_true rfl)⟩) 0 rfl rfl rfl hl.1 rfl (Nat.le_of_ble_eq_true rfl) dL_law_498 ⟨(Nat.le_of_ble_eq_true rfl), (Nat.le_of_ble_eq_true rfl)⟩ (fun H locs hC => ?_)
      refine lv_icmp_eq (tgt := 706) Fx.1 Fx.2.1 dL_law_501 (by decide) (fun _ => ?_) (fun q => absurd rfl q)
      exact h706 g' f' gm' fm' H locs hC hR'
    have hne13 := lv_neT (a := 13) hc (by decide)
    clear hc
    by_cases hc : x = (14 : Int32)
    · refine lv_tableIn (tgt := 506) Fx.1 Fx.2.1 dL_law_32 (by rw [hc]; decide) (by rw [hc]; decide) (by rw [hc]; rfl) (by decide) ?_
      refine lv_aload_n Fx.1 Fx.2.1 dL_law_506 rfl (lv_at hl 1 rfl) ?_
      refine lv_aload_n Fx.1 Fx.2.1 dL_law_507 rfl (lv_at hl 0 rfl) ?_
      refine lv_iload_n Fx.1 Fx.2.1 dL_law_508 rfl (lv_at hl 3 rfl) ?_
      refine lv_iconst (v := 1) Fx.1 Fx.2.1 dL_law_509 (by decide) ?_
      refine lv_iadd Fx.1 Fx.2.1 dL_law_510 ?_
      refine va_sld Fx.1 Fx.2.1 hX hbl hbA hC.2.2.2.1 v1 dL_law_511 ?_
      refine lv_aload_n Fx.1 Fx.2.1 dL_law_512 rfl (lv_at hl 0 rfl) ?_
      refine lv_iload_n Fx.1 Fx.2.1 dL_law_513 rfl (lv_at hl 3 rfl) ?_
      refine lv_iconst (v := 2) Fx.1 Fx.2.1 dL_law_514 (by decide) ?_
      refine lv_iadd Fx.1 Fx.2.1 dL_law_515 ?_
      refine va_sld Fx.1 Fx.2.1 hX hbl hbA hC.2.2.2.1 v2 dL_law_516 ?_
      refine lv_aload_n Fx.1 Fx.2.1 dL_law_517 rfl (lv_at hl 0 rfl) ?_
      refine lv_iload_n Fx.1 Fx.2.1 dL_law_518 rfl (lv_at hl 3 rfl) ?_
      refine lv_iconst (v := 3) Fx.1 Fx.2.1 dL_law_519 (by decide) ?_
      refine lv_iadd Fx.1 Fx.2.1 dL_law_520 ?_
      refine va_sld Fx.1 Fx.2.1 hX hbl hbA hC.2.2.2.1 v3 dL_law_521 ?_
      obtain ⟨r, g', f', gm', fm', hc1, hm1, hR'⟩ := r_grip (xs (nI i + 1).toNatClampNeg) (xs (nI i + 2).toNatClampNeg) (xs (nI i + 3).toNatClampNeg) g f gm fm hR
      refine x_ci (w := cW ad (fun _ => cI)) (u := (r, g', f')) (rest := []) (As := [.int (xs (nI i + 1).toNatClampNeg), .int (xs (nI i + 2).toNatClampNeg), .int (xs (nI i + 3).toNatClampNeg)]) (qq := (RX9, TX9, 9)) (ci := 8) Fx hC hKc (k_FH_grip hc1) (cVU 3 Fx.2.2.2.2 wd_372 wd_373 wd_374 wd_1 wd_375 rfl rfl hd_FH_grip ⟨(Nat.le_of_ble_eq_true rfl), (Nat.le_of_ble_eq_true rfl)⟩) 0 rfl rfl rfl hl.1 rfl (Nat.le_of_ble_eq_true rfl) dL_law_522 ⟨(Nat.le_of_ble_eq_true rfl), (Nat.le_of_ble_eq_true rfl)⟩ (fun H locs hC => ?_)
      refine lv_aload_n Fx.1 Fx.2.1 dL_law_525 rfl (lv_at hl 2 rfl) ?_
      refine lv_aload_n Fx.1 Fx.2.1 dL_law_526 rfl (lv_at hl 0 rfl) ?_
      refine lv_iload_n Fx.1 Fx.2.1 dL_law_527 rfl (lv_at hl 3 rfl) ?_
      refine lv_iconst (v := 1) Fx.1 Fx.2.1 dL_law_528 (by decide) ?_
      refine lv_iadd Fx.1 Fx.2.1 dL_law_529 ?_
      refine va_sld Fx.1 Fx.2.1 hX hbl hbA hC.2.2.2.1 v1 dL_law_530 ?_
      refine lv_aload_n Fx.1 Fx.2.1 dL_law_531 rfl (lv_at hl 0 rfl) ?_
      refine lv_iload_n Fx.1 Fx.2.1 dL_law_532 rfl (lv_at hl 3 rfl) ?_
      refine lv_iconst (v := 2) Fx.1 Fx.2.1 dL_law_533 (by decide) ?_
      refine lv_iadd Fx.1 Fx.2.1 dL_law_534 ?_
      refine va_sld Fx.1 Fx.2.1 hX hbl hbA hC.2.2.2.1 v2 dL_law_535 ?_
      refine lv_aload_n Fx.1 Fx.2.1 dL_law_536 rfl (lv_at hl 0 rfl) ?_
      refine lv_iload_n Fx.1 Fx.2.1 dL_law_537 rfl (lv_at hl 3 rfl) ?_
      refine lv_iconst (v := 3) Fx.1 Fx.2.1 dL_law_538 (by decide) ?_
      refine lv_iadd Fx.1 Fx.2.1 dL_law_539 ?_
      refine va_sld Fx.1 Fx.2.1 hX hbl hbA hC.2.2.2.1 v3 dL_law_540 ?_
      refine x_ci (w := mW ad2 (fun k => if k = 16 then cZ else cI)) (u := (r, gm', fm')) (rest := [.int r]) (As := [.int (xs (nI i + 1).toNatClampNeg), .int (xs (nI i + 2).toNatClampNeg), .int (xs (nI i + 3).toNatClampNeg)]) (qq := (RX10, TX10, 33)) (ci := 9) Fx hC hKm (k_M_grip hm1) (cVU 3 Fx.2.2.2.2 wd_734 wd_735 wd_736 wd_10 wd_737 rfl rfl hd_M_grip ⟨(Nat.le_of_ble_eq_true rfl), (Nat.le_of_ble_eq_true rfl)⟩) 0 rfl rfl rfl hl.1 rfl (Nat.le_of_ble_eq_true rfl) dL_law_541 ⟨(Nat.le_of_ble_eq_true rfl), (Nat.le_of_ble_eq_true rfl)⟩ (fun H locs hC => ?_)
      refine lv_icmp_eq (tgt := 706) Fx.1 Fx.2.1 dL_law_544 (by decide) (fun _ => ?_) (fun q => absurd rfl q)
      exact h706 g' f' gm' fm' H locs hC hR'
    have hne14 := lv_neT (a := 14) hc (by decide)
    clear hc
    by_cases hc : x = (15 : Int32)
    · refine lv_tableIn (tgt := 549) Fx.1 Fx.2.1 dL_law_32 (by rw [hc]; decide) (by rw [hc]; decide) (by rw [hc]; rfl) (by decide) ?_
      refine lv_aload_n Fx.1 Fx.2.1 dL_law_549 rfl (lv_at hl 1 rfl) ?_
      obtain ⟨r, g', f', gm', fm', hc1, hm1, hR'⟩ := r_plan  g f gm fm hR
      refine x_ci (w := cW ad (fun _ => cI)) (u := (r, g', f')) (rest := []) (As := []) (qq := (RX9, TX9, 9)) (ci := 8) Fx hC hKc (k_FH_plan hc1) (cVU 0 Fx.2.2.2.2 wd_387 wd_388 wd_389 wd_1 wd_390 rfl rfl hd_FH_plan ⟨(Nat.le_of_ble_eq_true rfl), (Nat.le_of_ble_eq_true rfl)⟩) 0 rfl rfl rfl hl.1 rfl (Nat.le_of_ble_eq_true rfl) dL_law_550 ⟨(Nat.le_of_ble_eq_true rfl), (Nat.le_of_ble_eq_true rfl)⟩ (fun H locs hC => ?_)
      refine lv_aload_n Fx.1 Fx.2.1 dL_law_553 rfl (lv_at hl 2 rfl) ?_
      refine x_ci (w := mW ad2 (fun k => if k = 16 then cZ else cI)) (u := (r, gm', fm')) (rest := [.int r]) (As := []) (qq := (RX10, TX10, 33)) (ci := 9) Fx hC hKm (k_M_plan hm1) (cVU 0 Fx.2.2.2.2 wd_744 wd_745 wd_746 wd_10 wd_747 rfl rfl hd_M_plan ⟨(Nat.le_of_ble_eq_true rfl), (Nat.le_of_ble_eq_true rfl)⟩) 0 rfl rfl rfl hl.1 rfl (Nat.le_of_ble_eq_true rfl) dL_law_554 ⟨(Nat.le_of_ble_eq_true rfl), (Nat.le_of_ble_eq_true rfl)⟩ (fun H locs hC => ?_)
      refine lv_icmp_eq (tgt := 706) Fx.1 Fx.2.1 dL_law_557 (by decide) (fun _ => ?_) (fun q => absurd rfl q)
      exact h706 g' f' gm' fm' H locs hC hR'
    have hne15 := lv_neT (a := 15) hc (by decide)
    clear hc
    by_cases hc : x = (16 : Int32)
    · refine lv_tableIn (tgt := 562) Fx.1 Fx.2.1 dL_law_32 (by rw [hc]; decide) (by rw [hc]; decide) (by rw [hc]; rfl) (by decide) ?_
      refine lv_aload_n Fx.1 Fx.2.1 dL_law_562 rfl (lv_at hl 1 rfl) ?_
      refine lv_aload_n Fx.1 Fx.2.1 dL_law_563 rfl (lv_at hl 0 rfl) ?_
      refine lv_iload_n Fx.1 Fx.2.1 dL_law_564 rfl (lv_at hl 3 rfl) ?_
      refine lv_iconst (v := 1) Fx.1 Fx.2.1 dL_law_565 (by decide) ?_
      refine lv_iadd Fx.1 Fx.2.1 dL_law_566 ?_
      refine va_sld Fx.1 Fx.2.1 hX hbl hbA hC.2.2.2.1 v1 dL_law_567 ?_
      refine lv_aload_n Fx.1 Fx.2.1 dL_law_568 rfl (lv_at hl 0 rfl) ?_
      refine lv_iload_n Fx.1 Fx.2.1 dL_law_569 rfl (lv_at hl 3 rfl) ?_
      refine lv_iconst (v := 2) Fx.1 Fx.2.1 dL_law_570 (by decide) ?_
      refine lv_iadd Fx.1 Fx.2.1 dL_law_571 ?_
      refine va_sld Fx.1 Fx.2.1 hX hbl hbA hC.2.2.2.1 v2 dL_law_572 ?_
      obtain ⟨r, hc1, hm1⟩ := r_planned (xs (nI i + 1).toNatClampNeg) (xs (nI i + 2).toNatClampNeg) g f gm fm hR
      refine x_ci (w := cW ad (fun _ => cI)) (u := (r, g, f)) (rest := []) (As := [.int (xs (nI i + 1).toNatClampNeg), .int (xs (nI i + 2).toNatClampNeg)]) (qq := (RX9, TX9, 9)) (ci := 8) Fx hC hKc (k_FH_planned hc1) (cVU 2 Fx.2.2.2.2 wd_435 wd_436 wd_437 wd_1 wd_438 rfl rfl hd_FH_planned ⟨(Nat.le_of_ble_eq_true rfl), (Nat.le_of_ble_eq_true rfl)⟩) 0 rfl rfl rfl hl.1 rfl (Nat.le_of_ble_eq_true rfl) dL_law_573 ⟨(Nat.le_of_ble_eq_true rfl), (Nat.le_of_ble_eq_true rfl)⟩ (fun H locs hC => ?_)
      refine lv_aload_n Fx.1 Fx.2.1 dL_law_576 rfl (lv_at hl 2 rfl) ?_
      refine lv_aload_n Fx.1 Fx.2.1 dL_law_577 rfl (lv_at hl 0 rfl) ?_
      refine lv_iload_n Fx.1 Fx.2.1 dL_law_578 rfl (lv_at hl 3 rfl) ?_
      refine lv_iconst (v := 1) Fx.1 Fx.2.1 dL_law_579 (by decide) ?_
      refine lv_iadd Fx.1 Fx.2.1 dL_law_580 ?_
      refine va_sld Fx.1 Fx.2.1 hX hbl hbA hC.2.2.2.1 v1 dL_law_581 ?_
      refine lv_aload_n Fx.1 Fx.2.1 dL_law_582 rfl (lv_at hl 0 rfl) ?_
      refine lv_iload_n Fx.1 Fx.2.1 dL_law_583 rfl (lv_at hl 3 rfl) ?_
      refine lv_iconst (v := 2) Fx.1 Fx.2.1 dL_law_584 (by decide) ?_
      refine lv_iadd Fx.1 Fx.2.1 dL_law_585 ?_
      refine va_sld Fx.1 Fx.2.1 hX hbl hbA hC.2.2.2.1 v2 dL_law_586 ?_
      refine x_ci (w := mW ad2 (fun k => if k = 16 then cZ else cI)) (u := (r, gm, fm)) (rest := [.int r]) (As := [.int (xs (nI i + 1).toNatClampNeg), .int (xs (nI i + 2).toNatClampNeg)]) (qq := (RX10, TX10, 33)) (ci := 9) Fx hC hKm (k_M_planned hm1) (cVU 2 Fx.2.2.2.2 wd_775 wd_776 wd_777 wd_10 wd_778 rfl rfl hd_M_planned ⟨(Nat.le_of_ble_eq_true rfl), (Nat.le_of_ble_eq_true rfl)⟩) 0 rfl rfl rfl hl.1 rfl (Nat.le_of_ble_eq_true rfl) dL_law_587 ⟨(Nat.le_of_ble_eq_true rfl), (Nat.le_of_ble_eq_true rfl)⟩ (fun H locs hC => ?_)
      refine lv_icmp_eq (tgt := 706) Fx.1 Fx.2.1 dL_law_590 (by decide) (fun _ => ?_) (fun q => absurd rfl q)
      exact h706 g f gm fm H locs hC hR
    have hne16 := lv_neT (a := 16) hc (by decide)
    clear hc
    by_cases hc : x = (17 : Int32)
    · refine lv_tableIn (tgt := 595) Fx.1 Fx.2.1 dL_law_32 (by rw [hc]; decide) (by rw [hc]; decide) (by rw [hc]; rfl) (by decide) ?_
      refine lv_aload_n Fx.1 Fx.2.1 dL_law_595 rfl (lv_at hl 1 rfl) ?_
      obtain ⟨r, g', f', gm', fm', hc1, hm1, hR'⟩ := r_ties  g f gm fm hR
      refine x_ci (w := cW ad (fun _ => cI)) (u := (r, g', f')) (rest := []) (As := []) (qq := (RX9, TX9, 9)) (ci := 8) Fx hC hKc (k_FH_ties hc1) (cVU 0 Fx.2.2.2.2 wd_443 wd_444 wd_445 wd_1 wd_446 rfl rfl hd_FH_ties ⟨(Nat.le_of_ble_eq_true rfl), (Nat.le_of_ble_eq_true rfl)⟩) 0 rfl rfl rfl hl.1 rfl (Nat.le_of_ble_eq_true rfl) dL_law_596 ⟨(Nat.le_of_ble_eq_true rfl), (Nat.le_of_ble_eq_true rfl)⟩ (fun H locs hC => ?_)
      refine lv_aload_n Fx.1 Fx.2.1 dL_law_599 rfl (lv_at hl 2 rfl) ?_
      refine x_ci (w := mW ad2 (fun k => if k = 16 then cZ else cI)) (u := (r, gm', fm')) (rest := [.int r]) (As := []) (qq := (RX10, TX10, 33)) (ci := 9) Fx hC hKm (k_M_ties hm1) (cVU 0 Fx.2.2.2.2 wd_779 wd_780 wd_781 wd_10 wd_782 rfl rfl hd_M_ties ⟨(Nat.le_of_ble_eq_true rfl), (Nat.le_of_ble_eq_true rfl)⟩) 0 rfl rfl rfl hl.1 rfl (Nat.le_of_ble_eq_true rfl) dL_law_600 ⟨(Nat.le_of_ble_eq_true rfl), (Nat.le_of_ble_eq_true rfl)⟩ (fun H locs hC => ?_)
      refine lv_icmp_eq (tgt := 706) Fx.1 Fx.2.1 dL_law_603 (by decide) (fun _ => ?_) (fun q => absurd rfl q)
      exact h706 g' f' gm' fm' H locs hC hR'
    have hne17 := lv_neT (a := 17) hc (by decide)
    clear hc
    by_cases hc : x = (18 : Int32)
    · refine lv_tableIn (tgt := 608) Fx.1 Fx.2.1 dL_law_32 (by rw [hc]; decide) (by rw [hc]; decide) (by rw [hc]; rfl) (by decide) ?_
      refine lv_aload_n Fx.1 Fx.2.1 dL_law_608 rfl (lv_at hl 1 rfl) ?_
      refine lv_aload_n Fx.1 Fx.2.1 dL_law_609 rfl (lv_at hl 0 rfl) ?_
      refine lv_iload_n Fx.1 Fx.2.1 dL_law_610 rfl (lv_at hl 3 rfl) ?_
      refine lv_iconst (v := 1) Fx.1 Fx.2.1 dL_law_611 (by decide) ?_
      refine lv_iadd Fx.1 Fx.2.1 dL_law_612 ?_
      refine va_sld Fx.1 Fx.2.1 hX hbl hbA hC.2.2.2.1 v1 dL_law_613 ?_
      obtain ⟨r, g', f', gm', fm', hc1, hm1, hR'⟩ := r_sign (xs (nI i + 1).toNatClampNeg) g f gm fm hR
      refine x_ci (w := cW ad (fun _ => cI)) (u := (r, g', f')) (rest := []) (As := [.int (xs (nI i + 1).toNatClampNeg)]) (qq := (RX9, TX9, 9)) (ci := 8) Fx hC hKc (k_FH_sign hc1) (cVU 1 Fx.2.2.2.2 wd_447 wd_448 wd_449 wd_1 wd_450 rfl rfl hd_FH_sign ⟨(Nat.le_of_ble_eq_true rfl), (Nat.le_of_ble_eq_true rfl)⟩) 0 rfl rfl rfl hl.1 rfl (Nat.le_of_ble_eq_true rfl) dL_law_614 ⟨(Nat.le_of_ble_eq_true rfl), (Nat.le_of_ble_eq_true rfl)⟩ (fun H locs hC => ?_)
      refine lv_aload_n Fx.1 Fx.2.1 dL_law_617 rfl (lv_at hl 2 rfl) ?_
      refine lv_aload_n Fx.1 Fx.2.1 dL_law_618 rfl (lv_at hl 0 rfl) ?_
      refine lv_iload_n Fx.1 Fx.2.1 dL_law_619 rfl (lv_at hl 3 rfl) ?_
      refine lv_iconst (v := 1) Fx.1 Fx.2.1 dL_law_620 (by decide) ?_
      refine lv_iadd Fx.1 Fx.2.1 dL_law_621 ?_
      refine va_sld Fx.1 Fx.2.1 hX hbl hbA hC.2.2.2.1 v1 dL_law_622 ?_
      refine x_ci (w := mW ad2 (fun k => if k = 16 then cZ else cI)) (u := (r, gm', fm')) (rest := [.int r]) (As := [.int (xs (nI i + 1).toNatClampNeg)]) (qq := (RX10, TX10, 33)) (ci := 9) Fx hC hKm (k_M_sign hm1) (cVU 1 Fx.2.2.2.2 wd_783 wd_784 wd_785 wd_10 wd_786 rfl rfl hd_M_sign ⟨(Nat.le_of_ble_eq_true rfl), (Nat.le_of_ble_eq_true rfl)⟩) 0 rfl rfl rfl hl.1 rfl (Nat.le_of_ble_eq_true rfl) dL_law_623 ⟨(Nat.le_of_ble_eq_true rfl), (Nat.le_of_ble_eq_true rfl)⟩ (fun H locs hC => ?_)
      refine lv_icmp_eq (tgt := 706) Fx.1 Fx.2.1 dL_law_626 (by decide) (fun _ => ?_) (fun q => absurd rfl q)
      exact h706 g' f' gm' fm' H locs hC hR'
    have hne18 := lv_neT (a := 18) hc (by decide)
    clear hc
    by_cases hc : x = (19 : Int32)
    · refine lv_tableIn (tgt := 631) Fx.1 Fx.2.1 dL_law_32 (by rw [hc]; decide) (by rw [hc]; decide) (by rw [hc]; rfl) (by decide) ?_
      refine lv_aload_n Fx.1 Fx.2.1 dL_law_631 rfl (lv_at hl 1 rfl) ?_
      refine lv_aload_n Fx.1 Fx.2.1 dL_law_632 rfl (lv_at hl 0 rfl) ?_
      refine lv_iload_n Fx.1 Fx.2.1 dL_law_633 rfl (lv_at hl 3 rfl) ?_
      refine lv_iconst (v := 1) Fx.1 Fx.2.1 dL_law_634 (by decide) ?_
      refine lv_iadd Fx.1 Fx.2.1 dL_law_635 ?_
      refine va_sld Fx.1 Fx.2.1 hX hbl hbA hC.2.2.2.1 v1 dL_law_636 ?_
      obtain ⟨r, hc1, hm1⟩ := r_tape (xs (nI i + 1).toNatClampNeg) g f gm fm hR
      refine x_ci (w := cW ad (fun _ => cI)) (u := (r, g, f)) (rest := []) (As := [.int (xs (nI i + 1).toNatClampNeg)]) (qq := (RX9, TX9, 9)) (ci := 8) Fx hC hKc (k_FH_tape hc1) (cVU 1 Fx.2.2.2.2 wd_455 wd_456 wd_457 wd_1 wd_458 rfl rfl hd_FH_tape ⟨(Nat.le_of_ble_eq_true rfl), (Nat.le_of_ble_eq_true rfl)⟩) 0 rfl rfl rfl hl.1 rfl (Nat.le_of_ble_eq_true rfl) dL_law_637 ⟨(Nat.le_of_ble_eq_true rfl), (Nat.le_of_ble_eq_true rfl)⟩ (fun H locs hC => ?_)
      refine lv_aload_n Fx.1 Fx.2.1 dL_law_640 rfl (lv_at hl 2 rfl) ?_
      refine lv_aload_n Fx.1 Fx.2.1 dL_law_641 rfl (lv_at hl 0 rfl) ?_
      refine lv_iload_n Fx.1 Fx.2.1 dL_law_642 rfl (lv_at hl 3 rfl) ?_
      refine lv_iconst (v := 1) Fx.1 Fx.2.1 dL_law_643 (by decide) ?_
      refine lv_iadd Fx.1 Fx.2.1 dL_law_644 ?_
      refine va_sld Fx.1 Fx.2.1 hX hbl hbA hC.2.2.2.1 v1 dL_law_645 ?_
      refine x_ci (w := mW ad2 (fun k => if k = 16 then cZ else cI)) (u := (r, gm, fm)) (rest := [.int r]) (As := [.int (xs (nI i + 1).toNatClampNeg)]) (qq := (RX10, TX10, 33)) (ci := 9) Fx hC hKm (k_M_tape hm1) (cVU 1 Fx.2.2.2.2 wd_790 wd_791 wd_792 wd_10 wd_793 rfl rfl hd_M_tape ⟨(Nat.le_of_ble_eq_true rfl), (Nat.le_of_ble_eq_true rfl)⟩) 0 rfl rfl rfl hl.1 rfl (Nat.le_of_ble_eq_true rfl) dL_law_646 ⟨(Nat.le_of_ble_eq_true rfl), (Nat.le_of_ble_eq_true rfl)⟩ (fun H locs hC => ?_)
      refine lv_icmp_eq (tgt := 706) Fx.1 Fx.2.1 dL_law_649 (by decide) (fun _ => ?_) (fun q => absurd rfl q)
      exact h706 g f gm fm H locs hC hR
    have hne19 := lv_neT (a := 19) hc (by decide)
    clear hc
    by_cases hc : x = (20 : Int32)
    · refine lv_tableIn (tgt := 654) Fx.1 Fx.2.1 dL_law_32 (by rw [hc]; decide) (by rw [hc]; decide) (by rw [hc]; rfl) (by decide) ?_
      refine lv_aload_n Fx.1 Fx.2.1 dL_law_654 rfl (lv_at hl 1 rfl) ?_
      obtain ⟨r, g', f', gm', fm', hc1, hm1, hR'⟩ := r_empty  g f gm fm hR
      refine x_ci (w := cW ad (fun _ => cI)) (u := (r, g', f')) (rest := []) (As := []) (qq := (RX9, TX9, 9)) (ci := 8) Fx hC hKc (k_FH_empty hc1) (cVU 0 Fx.2.2.2.2 wd_463 wd_464 wd_465 wd_1 wd_466 rfl rfl hd_FH_empty ⟨(Nat.le_of_ble_eq_true rfl), (Nat.le_of_ble_eq_true rfl)⟩) 0 rfl rfl rfl hl.1 rfl (Nat.le_of_ble_eq_true rfl) dL_law_655 ⟨(Nat.le_of_ble_eq_true rfl), (Nat.le_of_ble_eq_true rfl)⟩ (fun H locs hC => ?_)
      refine lv_aload_n Fx.1 Fx.2.1 dL_law_658 rfl (lv_at hl 2 rfl) ?_
      refine x_ci (w := mW ad2 (fun k => if k = 16 then cZ else cI)) (u := (r, gm', fm')) (rest := [.int r]) (As := []) (qq := (RX10, TX10, 33)) (ci := 9) Fx hC hKm (k_M_empty hm1) (cVU 0 Fx.2.2.2.2 wd_794 wd_795 wd_796 wd_10 wd_797 rfl rfl hd_M_empty ⟨(Nat.le_of_ble_eq_true rfl), (Nat.le_of_ble_eq_true rfl)⟩) 0 rfl rfl rfl hl.1 rfl (Nat.le_of_ble_eq_true rfl) dL_law_659 ⟨(Nat.le_of_ble_eq_true rfl), (Nat.le_of_ble_eq_true rfl)⟩ (fun H locs hC => ?_)
      refine lv_icmp_eq (tgt := 706) Fx.1 Fx.2.1 dL_law_662 (by decide) (fun _ => ?_) (fun q => absurd rfl q)
      exact h706 g' f' gm' fm' H locs hC hR'
    have hne20 := lv_neT (a := 20) hc (by decide)
    clear hc
    by_cases hc : x = (21 : Int32)
    · refine lv_tableIn (tgt := 667) Fx.1 Fx.2.1 dL_law_32 (by rw [hc]; decide) (by rw [hc]; decide) (by rw [hc]; rfl) (by decide) ?_
      refine lv_aload_n Fx.1 Fx.2.1 dL_law_667 rfl (lv_at hl 1 rfl) ?_
      obtain ⟨r, g', f', gm', fm', hc1, hm1, hR'⟩ := r_write  g f gm fm hR
      refine x_ci (w := cW ad (fun _ => cI)) (u := (r, g', f')) (rest := []) (As := []) (qq := (RX9, TX9, 9)) (ci := 8) Fx hC hKc (k_FH_write hc1) (cVU 0 Fx.2.2.2.2 wd_467 wd_468 wd_469 wd_1 wd_470 rfl rfl hd_FH_write ⟨(Nat.le_of_ble_eq_true rfl), (Nat.le_of_ble_eq_true rfl)⟩) 0 rfl rfl rfl hl.1 rfl (Nat.le_of_ble_eq_true rfl) dL_law_668 ⟨(Nat.le_of_ble_eq_true rfl), (Nat.le_of_ble_eq_true rfl)⟩ (fun H locs hC => ?_)
      refine lv_aload_n Fx.1 Fx.2.1 dL_law_671 rfl (lv_at hl 2 rfl) ?_
      refine x_ci (w := mW ad2 (fun k => if k = 16 then cZ else cI)) (u := (r, gm', fm')) (rest := [.int r]) (As := []) (qq := (RX10, TX10, 33)) (ci := 9) Fx hC hKm (k_M_write hm1) (cVU 0 Fx.2.2.2.2 wd_798 wd_799 wd_800 wd_10 wd_801 rfl rfl hd_M_write ⟨(Nat.le_of_ble_eq_true rfl), (Nat.le_of_ble_eq_true rfl)⟩) 0 rfl rfl rfl hl.1 rfl (Nat.le_of_ble_eq_true rfl) dL_law_672 ⟨(Nat.le_of_ble_eq_true rfl), (Nat.le_of_ble_eq_true rfl)⟩ (fun H locs hC => ?_)
      refine lv_icmp_eq (tgt := 706) Fx.1 Fx.2.1 dL_law_675 (by decide) (fun _ => ?_) (fun q => absurd rfl q)
      exact h706 g' f' gm' fm' H locs hC hR'
    have hne21 := lv_neT (a := 21) hc (by decide)
    clear hc
    by_cases hc : x = (22 : Int32)
    · refine lv_tableIn (tgt := 680) Fx.1 Fx.2.1 dL_law_32 (by rw [hc]; decide) (by rw [hc]; decide) (by rw [hc]; rfl) (by decide) ?_
      refine lv_aload_n Fx.1 Fx.2.1 dL_law_680 rfl (lv_at hl 1 rfl) ?_
      obtain ⟨r, g', f', gm', fm', hc1, hm1, hR'⟩ := r_read  g f gm fm hR
      refine x_ci (w := cW ad (fun _ => cI)) (u := (r, g', f')) (rest := []) (As := []) (qq := (RX9, TX9, 9)) (ci := 8) Fx hC hKc (k_FH_read hc1) (cVU 0 Fx.2.2.2.2 wd_501 wd_502 wd_503 wd_1 wd_504 rfl rfl hd_FH_read ⟨(Nat.le_of_ble_eq_true rfl), (Nat.le_of_ble_eq_true rfl)⟩) 0 rfl rfl rfl hl.1 rfl (Nat.le_of_ble_eq_true rfl) dL_law_681 ⟨(Nat.le_of_ble_eq_true rfl), (Nat.le_of_ble_eq_true rfl)⟩ (fun H locs hC => ?_)
      refine lv_aload_n Fx.1 Fx.2.1 dL_law_684 rfl (lv_at hl 2 rfl) ?_
      refine x_ci (w := mW ad2 (fun k => if k = 16 then cZ else cI)) (u := (r, gm', fm')) (rest := [.int r]) (As := []) (qq := (RX10, TX10, 33)) (ci := 9) Fx hC hKm (k_M_read hm1) (cVU 0 Fx.2.2.2.2 wd_805 wd_806 wd_807 wd_10 wd_808 rfl rfl hd_M_read ⟨(Nat.le_of_ble_eq_true rfl), (Nat.le_of_ble_eq_true rfl)⟩) 0 rfl rfl rfl hl.1 rfl (Nat.le_of_ble_eq_true rfl) dL_law_685 ⟨(Nat.le_of_ble_eq_true rfl), (Nat.le_of_ble_eq_true rfl)⟩ (fun H locs hC => ?_)
      refine lv_icmp_eq (tgt := 706) Fx.1 Fx.2.1 dL_law_688 (by decide) (fun _ => ?_) (fun q => absurd rfl q)
      exact h706 g' f' gm' fm' H locs hC hR'
    have hne22 := lv_neT (a := 22) hc (by decide)
    clear hc
    by_cases hc : x = (23 : Int32)
    · refine lv_tableIn (tgt := 693) Fx.1 Fx.2.1 dL_law_32 (by rw [hc]; decide) (by rw [hc]; decide) (by rw [hc]; rfl) (by decide) ?_
      refine lv_aload_n Fx.1 Fx.2.1 dL_law_693 rfl (lv_at hl 1 rfl) ?_
      obtain ⟨r, hc1, hm1⟩ := r_place g f gm fm hR
      refine x_ci (w := cW ad (fun _ => cI)) (u := (r, g, f)) (rest := []) (As := []) (qq := (RX9, TX9, 9)) (ci := 8) Fx hC hKc (k_FH_place hc1) (cVU 0 Fx.2.2.2.2 wd_580 wd_581 wd_582 wd_1 wd_583 rfl rfl hd_FH_place ⟨(Nat.le_of_ble_eq_true rfl), (Nat.le_of_ble_eq_true rfl)⟩) 0 rfl rfl rfl hl.1 rfl (Nat.le_of_ble_eq_true rfl) dL_law_694 ⟨(Nat.le_of_ble_eq_true rfl), (Nat.le_of_ble_eq_true rfl)⟩ (fun H locs hC => ?_)
      refine lv_aload_n Fx.1 Fx.2.1 dL_law_697 rfl (lv_at hl 2 rfl) ?_
      refine x_ci (w := mW ad2 (fun k => if k = 16 then cZ else cI)) (u := (r, gm, fm)) (rest := [.int r]) (As := []) (qq := (RX10, TX10, 33)) (ci := 9) Fx hC hKm (k_M_place hm1) (cVU 0 Fx.2.2.2.2 wd_845 wd_846 wd_847 wd_10 wd_848 rfl rfl hd_M_place ⟨(Nat.le_of_ble_eq_true rfl), (Nat.le_of_ble_eq_true rfl)⟩) 0 rfl rfl rfl hl.1 rfl (Nat.le_of_ble_eq_true rfl) dL_law_698 ⟨(Nat.le_of_ble_eq_true rfl), (Nat.le_of_ble_eq_true rfl)⟩ (fun H locs hC => ?_)
      refine lv_icmp_eq (tgt := 706) Fx.1 Fx.2.1 dL_law_701 (by decide) (fun _ => ?_) (fun q => absurd rfl q)
      exact h706 g f gm fm H locs hC hR
    have hne23 := lv_neT (a := 23) hc (by decide)
    clear hc
    refine lv_tableOut (tgt := 706) Fx.1 Fx.2.1 dL_law_32 (by omega) (by decide) ?_
    exact h706 g f gm fm H locs hC hR
set_option maxRecDepth 20000 in
set_option maxHeartbeats 8000000 in
theorem whole_start {p : Program} {e : Env} {s : State} {m : MethodId} {below : List Frame} {meth : Method} {c : Code} (l : Launch) {b L : Nat} {xs : Nat → Int32} (hL : L ≤ 256) (C0 : lw_At p s m meth c b L xs) : W p l e room_1 s m #[Value.ref b] below meth c s.heap [] 0 0 (lw_Z below #[Value.ref b] s) (entryFrame m ([Value.ref b] : List Value).toArray 4) := by
  obtain ⟨hx, hb, hr, hml, hown, hts, hX, hbl, hlocks, hgv⟩ := id C0
  have hA : ∀ q : Nat, s.heap.size ≤ q → (fun q : Nat => s.heap.size ≤ q) q := fun _ h => h
  have hU : ∀ w ∈ wU, w.before #[Value.ref b] s = true := fun w h => hts w (List.mem_filter.mp h).1
  have Fx : CallFix p m c cL_law 4 s #[Value.ref b] (Cond.initialized RL :: wU) RL := ⟨hx, hb, hml, hown, fun w h => (List.mem_cons.mp h).elim (fun q => q ▸ hU _ wd_0) (hU w)⟩
  obtain ⟨c0, iS0, hKn0⟩ := u_known (C := RX0) (T := TX0) (N := 16) (n := 16) hts (fun w h => (List.mem_filter.mp (inX0 w h)).1) (hU _ wd_86)
  obtain ⟨c1, iS1, hKn1⟩ := u_known (C := RX1) (T := TX1) (N := 4) (n := 4) hts (fun w h => (List.mem_filter.mp (inX1 w h)).1) (hU _ wd_22)
  obtain ⟨c2, iS2, hKn2⟩ := u_known (C := RX2) (T := TX2) (N := 5) (n := 5) hts (fun w h => (List.mem_filter.mp (inX2 w h)).1) (hU _ wd_66)
  obtain ⟨c3, iS3, hKn3⟩ := u_known (C := RX3) (T := TX3) (N := 8) (n := 8) hts (fun w h => (List.mem_filter.mp (inX3 w h)).1) (hU _ wd_132)
  obtain ⟨c4, iS4, hKn4⟩ := u_known (C := RX5) (T := TX5) (N := 6) (n := 6) hts (fun w h => (List.mem_filter.mp (inX5 w h)).1) (hU _ wd_184)
  obtain ⟨c5, iS5, hKn5⟩ := u_known (C := RX6) (T := TX6) (N := 5) (n := 5) hts (fun w h => (List.mem_filter.mp (inX6 w h)).1) (hU _ wd_168)
  obtain ⟨c6, iS6, hKn6⟩ := u_known (C := RX7) (T := TX7) (N := 2) (n := 2) hts (fun w h => (List.mem_filter.mp (inX7 w h)).1) (hU _ wd_156)
  obtain ⟨c7, iS7, hKn7⟩ := u_known (C := RX8) (T := TX8) (N := 4) (n := 4) hts (fun w h => (List.mem_filter.mp (inX8 w h)).1) (hU _ wd_49)
  obtain ⟨c8, iS8, hKn8⟩ := u_known (C := RX9) (T := TX9) (N := 9) (n := 9) hts (fun w h => (List.mem_filter.mp (inX9 w h)).1) (hU _ wd_14)
  obtain ⟨c9, iS9, hKn9⟩ := u_known (C := RX10) (T := TX10) (N := 33) (n := 33) hts (fun w h => (List.mem_filter.mp (inX10 w h)).1) (hU _ wd_585)
  obtain ⟨D, hKc⟩ : ∃ D : va_G, ∀ (k : Nat) (q : vw_C), vwCl[k]? = some q → u_Kn s q.1 q.2.1 q.2.2 (D.1 k) (D.2 k) := by
    refine ⟨(fun k => [c0, c1, c2, c3, c4, c5, c6, c7, c8, c9].getD k c0, fun k => [iS0, iS1, iS2, iS3, iS4, iS5, iS6, iS7, iS8, iS9].getD k iS0), ?_⟩
    intro k q hq
    match k, hq with
    | 0, hq => cases hq; exact hKn0
    | 1, hq => cases hq; exact hKn1
    | 2, hq => cases hq; exact hKn2
    | 3, hq => cases hq; exact hKn3
    | 4, hq => cases hq; exact hKn4
    | 5, hq => cases hq; exact hKn5
    | 6, hq => cases hq; exact hKn6
    | 7, hq => cases hq; exact hKn7
    | 8, hq => cases hq; exact hKn8
    | 9, hq => cases hq; exact hKn9
    | k + 10, hq => simp [vwCl] at hq
  obtain ⟨cI, kI, mI, fI1, fI2, fI3⟩ := Cond.arrayClass_spec (hU _ wd_47)
  obtain ⟨cZ, kZ, mZ, fZ1, fZ2, fZ3⟩ := Cond.arrayClass_spec (hU _ wd_656)
  have hK : va_K D vwCl [(cI, .int), (cZ, .boolean)] s := by
    refine ⟨hKc, fun k q h => ?_⟩
    match k, h with
    | 0, h => cases h; exact ⟨fun n z => ⟨fun k h => (by cases h), kI, fI2, mI, fI3⟩, fI1⟩
    | 1, h => cases h; exact ⟨fun n z => ⟨fun k h => (by cases h), kZ, fZ2, mZ, fZ3⟩, fZ1⟩
    | k + 2, h => simp at h
  have hC : wX D [(cI, .int)] [] (fun q : Nat => s.heap.size ≤ q) s.heap s s.heap [] := ⟨hK.sub [0] rfl, fun k q h => by simp at h, ⟨fun i j p q h => by simp at h, fun k q h => by simp at h⟩, va_S.rf, hA⟩
  have nw0 : va_Nw (.methodLinkNest RX9 11 yX1_init RX9) s := va_Nw.of rfl (hts _ (List.mem_append_right _ (show _ ∈ tables_1 from List.mem_append_left _ (List.mem_of_getElem? (i := 23) rfl))))
  have nw1 : va_Nw (.methodLinkNest RX9 22 yX8_init RX9) s := va_Nw.of rfl (hts _ (List.mem_append_right _ (show _ ∈ tables_1 from List.mem_append_left _ (List.mem_of_getElem? (i := 56) rfl))))
  have nw2 : va_Nw (.methodLinkNest RX9 29 yX2_init RX9) s := va_Nw.of rfl (hts _ (List.mem_append_right _ (show _ ∈ tables_1 from List.mem_append_left _ (List.mem_of_getElem? (i := 79) rfl))))
  have nw3 : va_Nw (.methodLinkNest RX9 54 yX7_init RX9) s := va_Nw.of rfl (hts _ (List.mem_append_right _ (show _ ∈ tables_1 from List.mem_append_left _ (List.mem_of_getElem? (i := 202) rfl))))
  have hl := lv_entry ([.ref b]) (n := 4) (Nat.le_of_ble_eq_true rfl)
  rw [lg_entry_eq]
  generalize (lg_sl ([.ref b]) ++ List.replicate (4 - (lg_sl ([.ref b])).length) Slot.unset).toArray = ls at hl ⊢
  replace hl : lv_has ls 4 [(0, .ref b)] := hl
  refine x_new (ci := 8) (fs := [.null, .null, .null, .null, .null, .null, .null, .null, .null]) Fx hC rfl inX9 tyX9 tyX9_ok wd_13 wd_14 wd_1 (fun j hj => by rcases (show j = 0 ∨ j = 1 ∨ j = 2 ∨ j = 3 ∨ j = 4 ∨ j = 5 ∨ j = 6 ∨ j = 7 ∨ j = 8 by omega) with rfl | rfl | rfl | rfl | rfl | rfl | rfl | rfl | rfl <;> rfl) (Nat.le_of_ble_eq_true rfl) (Nat.le_of_ble_eq_true rfl) dL_law_0 (fun q0 H hC => ?_)
  refine lv_dup Fx.1 Fx.2.1 dL_law_3 rfl ?_
  refine x_init (rest := [.ref q0]) (As := []) (ws := []) Fx hC (kc_FH (h0 := q0)) wd_1 wd_15 wd_16 wd_17 rfl hd_FH_init rfl rfl ⟨(Nat.le_of_ble_eq_true rfl), (Nat.le_of_ble_eq_true rfl)⟩ (fun U hW => ⟨va_Nw.warmM hW nw0, va_Nw.warmM hW nw1, va_Nw.warmM hW nw2, va_Nw.warmM hW nw3⟩) (fun U g mk a q => ⟨va_Nw.same rfl (rfl : U.vm = (U.calling g mk a).vm) q.1, va_Nw.same rfl (rfl : U.vm = (U.calling g mk a).vm) q.2.1, va_Nw.same rfl (rfl : U.vm = (U.calling g mk a).vm) q.2.2.1, va_Nw.same rfl (rfl : U.vm = (U.calling g mk a).vm) q.2.2.2⟩) rfl hl.1 rfl (Nat.le_of_ble_eq_true rfl) dL_law_4 ⟨(Nat.le_of_ble_eq_true rfl), (Nat.le_of_ble_eq_true rfl)⟩ (fun u H locs hC => ?_)
  replace hC : wX D [(cI, .int)] (cW (fun k => match k with | 0 => q0 | k + 1 => u k) (fun _ => cI) gI fI) (fun q : Nat => s.heap.size ≤ q) s.heap s H locs := hC
  refine lv_astore_n (lv' := [(1, .ref q0), (0, .ref b)]) Fx.1 Fx.2.1 dL_law_7 rfl hl (by decide) rfl (fun ls hl => ?_)
  replace hC : wX D [(cI, .int), (cZ, .boolean)] (cW (fun k => match k with | 0 => q0 | k + 1 => u k) (fun _ => cI) gI fI) (fun q : Nat => s.heap.size ≤ q) s.heap s H locs := ⟨hK, hC.2⟩
  refine x_new (ci := 9) (fs := [.int 0, .null, .int 0, .int 0, .null, .int 0, .null, .null, .null, .int 0, .null, .null, .null, .null, .int 0, .null, .int 0, .int 0, .null, .null, .null, .null, .null, .null, .null, .int 0, .int 0, .int 0, .int 0, .int 0, .null, .null, .null]) Fx hC rfl inX10 tyX10 tyX10_ok wd_584 wd_585 wd_10 (fun j hj => by rcases (show j = 0 ∨ j = 1 ∨ j = 2 ∨ j = 3 ∨ j = 4 ∨ j = 5 ∨ j = 6 ∨ j = 7 ∨ j = 8 ∨ j = 9 ∨ j = 10 ∨ j = 11 ∨ j = 12 ∨ j = 13 ∨ j = 14 ∨ j = 15 ∨ j = 16 ∨ j = 17 ∨ j = 18 ∨ j = 19 ∨ j = 20 ∨ j = 21 ∨ j = 22 ∨ j = 23 ∨ j = 24 ∨ j = 25 ∨ j = 26 ∨ j = 27 ∨ j = 28 ∨ j = 29 ∨ j = 30 ∨ j = 31 ∨ j = 32 by omega) with rfl | rfl | rfl | rfl | rfl | rfl | rfl | rfl | rfl | rfl | rfl | rfl | rfl | rfl | rfl | rfl | rfl | rfl | rfl | rfl | rfl | rfl | rfl | rfl | rfl | rfl | rfl | rfl | rfl | rfl | rfl | rfl | rfl <;> rfl) (Nat.le_of_ble_eq_true rfl) (Nat.le_of_ble_eq_true rfl) dL_law_8 (fun q8 H hC => ?_)
  refine lv_dup Fx.1 Fx.2.1 dL_law_11 rfl ?_
  refine x_init (rest := [.ref q8]) (As := []) (ws := cW (fun k => match k with | 0 => q0 | k + 1 => u k) (fun _ => cI) gI fI) Fx hC (kc_M (h0 := q8)) wd_10 wd_586 wd_587 wd_588 rfl hd_M_init rfl rfl ⟨(Nat.le_of_ble_eq_true rfl), (Nat.le_of_ble_eq_true rfl)⟩ (fun _ _ => trivial) (fun _ _ _ _ _ => trivial) rfl hl.1 rfl (Nat.le_of_ble_eq_true rfl) dL_law_12 ⟨(Nat.le_of_ble_eq_true rfl), (Nat.le_of_ble_eq_true rfl)⟩ (fun v H locs hC => ?_)
  replace hC : wX D [(cI, .int), (cZ, .boolean)] (cW (fun k => match k with | 0 => q0 | k + 1 => u k) (fun _ => cI) gI fI ++ mW (fun k => match k with | 0 => q8 | k + 1 => v k) (fun k => if k = 16 then cZ else cI) gJ fJ) (fun q : Nat => s.heap.size ≤ q) s.heap s H locs := hC
  refine lv_astore_n (lv' := [(2, .ref q8), (1, .ref q0), (0, .ref b)]) Fx.1 Fx.2.1 dL_law_15 rfl hl (by decide) rfl (fun ls hl => ?_)
  refine lv_iconst (v := 0) Fx.1 Fx.2.1 dL_law_16 (by decide) ?_
  refine lv_istore_n (lv' := [(3, .int 0), (2, .ref q8), (1, .ref q0), (0, .ref b)]) Fx.1 Fx.2.1 dL_law_17 rfl hl (by decide) rfl (fun ls hl => ?_)
  refine W.widen (k := 52) (n := 19555) (by decide) (by decide) ?_
  exact law_loop (ad := (fun k => match k with | 0 => q0 | k + 1 => u k)) (ad2 := (fun k => match k with | 0 => q8 | k + 1 => v k)) hL Fx hr hlocks hX hbl (L + 1) 0 (by omega) (by omega) gI fI gJ fJ H locs Rel_init hC ls (lv_sub hl [3, 2, 1, 0] rfl)
set_option maxHeartbeats 4000000 in
theorem lw_walk (l : Launch) (b : Addr) (xs : List Int32) : MetFree l x (headSpec (Jvm.Cond.code x code maxLocals ret :: tables_1) room_1) (lw_P b xs) (fun _ _ _ _ _ => True) lw_Q := by
  refine MetFree.of_bodyS (code := code) (maxLocals := maxLocals) (ret := ret) (by decide) ?_ ?_
  · intro args s m h hn
    obtain ⟨meth, c, h1, h2, h3, h4, h5, h6, -, -⟩ := Cond.code_spec hn (atoms_spec (ws := Jvm.Cond.code x code maxLocals ret :: tables_1) h _ List.mem_cons_self)
    exact ⟨meth, c, h1, h2, h3, h4, h5, h6⟩
  · intro p e s m args below meth c s₁ B hml0 hP _
    obtain ⟨rfl, hx, hbd, hgv⟩ := hP
    obtain ⟨scr, harrAt, hlist, hof, hsmall⟩ := hx
    obtain ⟨hcb, hkn, -, -⟩ := State.arrayAt?_spec harrAt
    have hown : s.vm.findClass R_law = some m.cls := findClass_of_methodNamed B.named
    have hts0 : ∀ c ∈ (Jvm.Cond.code x code maxLocals ret :: tables_1), c.before #[Value.ref b] s = true := atoms_spec (ws := Jvm.Cond.code x code maxLocals ret :: tables_1) B.pre
    have hts : ∀ w ∈ lw_tbl, w.before #[Value.ref b] s = true := k2_hts_sels lw_privs (fun w hw => hts0 w (List.mem_cons_of_mem _ hw)) lw_privs_ok
    have hml : c.maxLocals = 4 := B.maxLocals_eq (hts0 _ List.mem_cons_self)
    have X₀ : Stand p l e room_1 s m #[Value.ref b] below meth c s₁ [] 0 0 := Stand.of_body B
    have hh0 : s₁.heap = s.heap := by rw [B.state]; rfl
    have hsz : scr.slots.size = xs.length := by rw [← Array.length_toList, hlist, List.length_map]
    have hval : ∀ j : Nat, j < xs.length → scr.slots[j]? = some (.int (xs.getD j 0)) := fun j hj => by
      rw [← Array.getElem?_toList, hlist]
      simp [hj]
    have hbl : b < s.heap.size := (Array.getElem?_eq_some_iff.mp hcb).1
    have hX : va_X b xs.length (fun j => xs.getD j 0) s s.heap := ⟨scr, hcb, hof, hkn, hsz, hval⟩
    have K : W p l e room_1 s m #[Value.ref b] below meth c s₁.heap [] 0 0 (lw_Z below #[Value.ref b] s) (entryFrame m ([Value.ref b] : List Value).toArray 4) := by
      rw [hh0]
      exact whole_start l hbd ⟨B.exec, B.bytes, B.returns, hml, hown, hts, hX, hbl, B.notSynchronized, hgv⟩
    obtain ⟨t, a1, o, b1, b2, b3⟩ := K s₁ rfl X₀
    exact ⟨t, o, a1, b1, b2, b3⟩
theorem lw_pre_spec {args : Array Value} {s : State} (h : (Jvm.Cond.and given_1 narrow_1).before args s = true) (hr : rest_1_c.before args s = true) : ∃ (b : Addr) (xs : List Int32), lw_P b xs args s := by
  have hs := flat_of_before _ h
  have hq := flat_of_before _ hr
  have hc : (Cond.count 1).before args s = true := hs _ (by decide +kernel)
  have harr : (Cond.arrayOf (.arg 0) .int).before args s = true := hs _ (by decide +kernel)
  have hle : (Cond.le (.length (.arg 0)) (.int 256)).before args s = true := hs _ (by decide +kernel)
  have hlen : (Cond.isInt (.length (.arg 0))).before args s = true := hq _ (by decide +kernel)
  have hall : (Cond.all (.arg 0) (.isInt (.elem (.arg 0) (.index 0)))).before args s = true := hq _ (by decide +kernel)
  obtain ⟨b, xs, hb, hx⟩ := State.ints_of_pre rfl harr hlen hall
  have hsm : xs.length < 2 ^ 31 := hx.choose_spec.2.2.2
  have hev : (Term.length (.arg 0)).eval args s none [] s = some (.int xs.length.toInt32) := hx.length_eval hb
  have hv := Cond.le_ints hev (show (Term.int 256).eval args s none [] s = some (.int 256) from rfl)
  have hd : xs.length.toInt32 ≤ 256 := by
    simpa [Cond.before, Cond.holds, hv] using hle
  have hN : xs.length ≤ 256 := (Int32.ofNat_le_ofNat hsm (by decide)).mp (show Int32.ofNat xs.length ≤ Int32.ofNat 256 from hd)
  exact ⟨b, xs, Cond.one_arg hc (show args[0]? = some (.ref b) from hb), hx, hN, h⟩
theorem lw_comes (l : Launch) : Comes l x (Jvm.Cond.code x code maxLocals ret :: tables_1) room_1 (fun tb e args s => Calls_1 tb e args s ∧ rest_1 tb e args s ∧ Pre_1 tb e args s)
    (fun _ _ args s o t => lw_Q args s o t) := by
  intro p e ha hc hk s m args below hf hfit hheap happ hpre
  obtain ⟨b, xs, hP⟩ := lw_pre_spec hpre.2.2 hpre.2.1
  obtain ⟨k, o, h1, h2, h3, hQ⟩ := lw_walk l b xs p e ha hc hk s m args below hf ((Spec.applies_iff_loose hf).mp happ).1 hP trivial
  exact ⟨k, o, h1, h2, h3, hQ⟩
theorem lw_frame {s t : State} {o : Outcome} {args : Array Value} (h : Framed s o t [] 600000 7302250) :
    Framed s o t (fieldLocs frame_1_writes args s ++ arrayLocs frame_1_arrays args s ++ staticLocs frame_1_statics s) 600000 7302250 := h
theorem lw_limb (L : Cond) (hL : ∀ (args : Array Value) (s t : State), L.after args s (.returned (some (.int 1))) t = true) :
    ArmFor flags0 classFile x code maxLocals ret World_1 tables_1 room_1 Calls_1 rest_1 Pre_1
      (fun tb e a s o t => postC L tb e a s o t ∧ Framed s o t (fieldLocs frame_1_writes a s ++ arrayLocs frame_1_arrays a s ++ staticLocs frame_1_statics s) 600000 7302250) := by
  intro l _ _ _ p e ha hc hk s m args below hf hfit hheap happ hpre
  obtain ⟨k, o, h1, h2, h3, rfl, hF⟩ := lw_comes l p e ha hc hk s m args below hf hfit hheap happ hpre
  exact ⟨k, _, h1, h2, h3, hL args s _, lw_frame hF⟩
theorem i_vc : Claimed_1_1 ∧ Claimed_1_2 := ⟨lw_limb limb_1_1 (fun args s t => by simp [limb_1_1, Cond.after, Cond.holds, Cond.value]), lw_limb limb_1_2 (fun args s t => Cond.after_iff.mpr (by
  first | (rw [show limb_1_2 = Cond.eq .result (.int 1) from rfl, Cond.eq_ints (x := 1) (y := 1) rfl rfl]; simp; done) | (simp [limb_1_2, Cond.value, Term.eval]; done)))⟩

