/-! growing worlds: constructors, and the law with both worlds side by side -/
def wX (D : va_G) (tys : List (ClassId × FieldType)) (ws : va_W) (A : Nat → Prop) (H0 : Heap) (s : State) (H : Heap) (locs : List Loc) : Prop :=
  va_K D vwCl tys s ∧ va_P D vwCl ws H ∧ va_D A ws ∧ va_S A H0 H locs ∧ ∀ q : Nat, H0.size ≤ q → A q
theorem xP_l {D : va_G} {cl : List vw_C} {a b : va_W} {H : Heap} (h : va_P D cl (a ++ b) H) : va_P D cl a H := fun k q hk => h k q (by rw [List.getElem?_append_left (List.getElem?_eq_some_iff.mp hk).1]; exact hk)
theorem xP_r {D : va_G} {cl : List vw_C} {a b : va_W} {H : Heap} (h : va_P D cl (a ++ b) H) : va_P D cl b H := fun k q hk => h (a.length + k) q (by rw [List.getElem?_append_right (by omega), Nat.add_sub_cancel_left]; exact hk)
theorem xD_l {A : Nat → Prop} {a b : va_W} (h : va_D A (a ++ b)) : va_D A a := by
  have e : ∀ (k : Nat) (q : Nat × va_E), a[k]? = some q → (a ++ b)[k]? = some q := fun k q hk => by rw [List.getElem?_append_left (List.getElem?_eq_some_iff.mp hk).1]; exact hk
  exact ⟨fun i j x y hi hj hxy => h.1 i j x y (e i x hi) (e j y hj) hxy, fun k q hk => h.2 k q (e k q hk)⟩
theorem xD_r {A : Nat → Prop} {a b : va_W} (h : va_D A (a ++ b)) : va_D A b := by
  have e : ∀ (k : Nat) (q : Nat × va_E), b[k]? = some q → (a ++ b)[a.length + k]? = some q := fun k q hk => by rw [List.getElem?_append_right (by omega), Nat.add_sub_cancel_left]; exact hk
  refine ⟨fun i j x y hi hj hxy => ?_, fun k q hk => h.2 _ q (e k q hk)⟩
  have := h.1 _ _ x y (e i x hi) (e j y hj) hxy
  omega
theorem xD_x {A : Nat → Prop} {a b : va_W} (h : va_D A (a ++ b)) : ∀ (i j : Nat) (p q : Nat × va_E), a[i]? = some p → b[j]? = some q → p.1 ≠ q.1 := fun i j p q hi hj hpq => by
  have hil := (List.getElem?_eq_some_iff.mp hi).1
  have := h.1 i (a.length + j) p q (by rw [List.getElem?_append_left hil]; exact hi) (by rw [List.getElem?_append_right (by omega), Nat.add_sub_cancel_left]; exact hj) hpq
  omega
/-- behind a call that has changed a's cells -/
theorem xjoin {A0 : Nat → Prop} {D : va_G} {cl : List vw_C} {a b a1 : va_W} {H H1 : Heap} (hP : va_P D cl (a ++ b) H) (hD : va_D A0 (a ++ b)) (hk : ∀ q : Nat, q < H.size → ¬ va_A a H.size q → H1[q]? = H[q]?) (hF : ∀ q, va_A a H.size q → A0 q) (hP1 : va_P D cl a1 H1) (hD1 : va_D (va_A a H.size) a1) : va_P D cl (b ++ a1) H1 ∧ va_D A0 (b ++ a1) := by
  have apart : ∀ (k : Nat) (q : Nat × va_E), b[k]? = some q → q.1 < H.size ∧ ¬ va_A a H.size q.1 := by
    intro k q hq
    have hl := (xP_r hP k q hq).lt
    refine ⟨hl, fun h => ?_⟩
    rcases h with ⟨k2, e, h⟩ | h
    · exact xD_x hD k2 k (q.1, e) q h hq rfl
    · omega
  refine ⟨va_P.app (fun k q hq => ?_) hP1, va_D.app (xD_r hD) (hD1.weaken (fun k q _ h => hF q.1 h)) (fun i j x y hx hy hxy => ?_)⟩
  · obtain ⟨g1, g2⟩ := apart k q hq
    exact (xP_r hP k q hq).kept (hk q.1 g1 g2)
  · exact (apart i x hx).2 (by rw [hxy]; exact hD1.2 j y hy)
section XB
variable {p : Program} {l : Launch} {e : Env} {R : Room} {s : State} {m : MethodId} {args : Array Value} {below : List Frame} {meth : Method} {c : Code} {H : Heap} {locs : List Loc} {cells slots : Nat} {Q : State → Prop}
variable {D : va_G} {tys : List (ClassId × FieldType)} {ws a b : va_W} {A : Nat → Prop} {H0 : Heap} {cc : ByteArray} {pc : Nat} {ls : Array Slot} {rest st0 : List Value} {nL : Nat} {c0 : Cond} {own : String}
theorem wX_swap (h : wX D tys (a ++ b) A H0 s H locs) : wX D tys (b ++ a) A H0 s H locs :=
  ⟨h.1, va_P.app (xP_r h.2.1) (xP_l h.2.1), va_D.app (xD_r h.2.2.1) (xD_l h.2.2.1) (fun i j p q hi hj hpq => xD_x h.2.2.1 j i q p hj hi hpq.symm), h.2.2.2⟩
theorem wX_sub {ws' : va_W} (h : wX D tys ws A H0 s H locs) (is : List Nat) (h1 : is.filterMap (fun i => ws[i]?) = ws') (hn : va_nd is = true) (h2 : is.map (fun i => ws[i]?) = ws'.map some) : wX D tys ws' A H0 s H locs :=
  ⟨h.1, h.2.1.sub is h1, h.2.2.1.sub is hn h2, h.2.2.2⟩
theorem x_new (Fx : CallFix p m c cc nL s args (c0 :: wU) own) (hC : wX D tys ws A H0 s H locs) {C : String} {T : u_T} {N ci index : Nat} (hc : vwCl[ci]? = some (C, T, N)) (hin : ∀ w ∈ u_ws C T N, w ∈ wU) (ty : Nat → FieldType) (hty : ∀ k, k < N → parseFieldDescriptor (T k).2.2.1 = some (ty k)) (h1 : Cond.classLink own index C ∈ wU) (h2 : Cond.instantiable C N ∈ wU) (h3 : Cond.initialized C ∈ wU) {fs : List Value} (hfs : ∀ j, j < N → defaultValue (ty j) = vp_V fs j) (hcells : cells + 1 ≤ R.cells) (hslots : slots + N ≤ R.slots) (hdg : decode cc pc = .ok (.new index, 3))
    (kk : ∀ (q : Nat) (H : Heap), wX D tys (ws ++ [(q, .inr (ci, fs))]) A H0 s H locs → W p l e R s m args below meth c H locs (cells + 1) (slots + N) Q (F0 m (pc + 3) ls (.ref q :: rest))) : W p l e R s m args below meth c H locs cells slots Q (F0 m pc ls rest) :=
  va_new (D := D) Fx.1 Fx.2.1 Fx.2.2.2.2 (fun w h => List.mem_cons_of_mem _ (hin w h)) ty hty Fx.2.2.2.1 (Fx.2.2.2.2 _ (List.mem_cons_of_mem _ h1)) (Fx.2.2.2.2 _ (List.mem_cons_of_mem _ h2)) (Fx.2.2.2.2 _ (List.mem_cons_of_mem _ h3)) hC.1 hC.2.1 hC.2.2.1 hC.2.2.2.1 hC.2.2.2.2 hc hfs hcells hslots hdg (fun q H1 hP hD hS => kk q H1 ⟨hC.1, hP, hD, hS, hC.2.2.2.2⟩)
theorem x_newa (Fx : CallFix p m c cc nL s args (c0 :: wU) own) (hC : wX D tys ws A H0 s H locs) {atype : ArrayType} {ty : FieldType} (hty : newarray.typeOf atype = ty) (hw : Cond.arrayClass ty ∈ wU) (hpl : ∀ cA, va_RA s cA ty → s.vm.findClass ("[" ++ ty.toString) = some cA) (t0 : Nat) {cA : ClassId} (ht : tys[t0]? = some (cA, ty)) (hz : defaultValue ty = .int 0) {n : Int32} {N : Nat} (hn : ¬ n < 0) (hN : n.toNatClampNeg = N) (hbytes : N * componentBytes ty ≤ 536870912) (hcells : cells + 1 ≤ R.cells) (hslots : slots + N ≤ R.slots) (hdg : decode cc pc = .ok (.newarray atype, 2))
    (kk : ∀ (q : Nat) (H : Heap), wX D tys (ws ++ [(q, .inl (cA, N, .inl (fun _ => 0)))]) A H0 s H locs → W p l e R s m args below meth c H locs (cells + 1) (slots + N) Q (F0 m (pc + 2) ls (.ref q :: rest))) : W p l e R s m args below meth c H locs cells slots Q (F0 m pc ls (.int n :: rest)) := by
  refine va_newa (D := D) (a0 := (N, .inl (fun _ => 0))) Fx.1 Fx.2.1 (by rw [hty]; exact Fx.2.2.2.2 _ (List.mem_cons_of_mem _ hw)) hty hC.1 hC.2.1 hC.2.2.1 hC.2.2.2.1 hC.2.2.2.2 (fun cA => by rw [vp_cell_i, hz]) hn hN hbytes hcells hslots hdg (fun q cA' H1 hK hP hD hS => ?_)
  have e1 := hpl _ (hC.1.2 t0 _ ht).2
  have e2 := hpl _ (hK.2 tys.length (cA', ty) (by simp)).2
  have e3 : cA' = cA := Option.some.inj (e2.symm.trans e1)
  subst e3
  exact kk q H1 ⟨hC.1, hP, hD, hS, hC.2.2.2.2⟩
theorem x_get (Fx : CallFix p m c cc nL s args (c0 :: wU) own) (hC : wX D tys ws A H0 s H locs) {ref C : String} {T : u_T} {N ci index q : Nat} (q0 : Nat) {fs : List Value} (he : ws[q0]? = some (q, .inr (ci, fs))) (hc : vwCl[ci]? = some (C, T, N)) (hin : ∀ w ∈ u_ws C T N, w ∈ wU) (k : Nat) (hk : k < N) (hlink : Cond.fieldLink own index ref (T k).2.1 (T k).2.2.1 ∈ wU) (hr : ref = (T k).1) {v : Value} (hv : fs[k]? = some v) (hdg : decode cc pc = .ok (.getfield index, 3))
    (kk : W p l e R s m args below meth c H locs cells slots Q (F0 m (pc + 3) ls (v :: rest))) : W p l e R s m args below meth c H locs cells slots Q (F0 m pc ls (.ref q :: rest)) :=
  va_get (D := D) Fx.1 Fx.2.1 Fx.2.2.2.2 (fun w h => List.mem_cons_of_mem _ (hin w h)) Fx.2.2.2.1 hC.1 hC.2.1 q0 he hc k hk (Fx.2.2.2.2 _ (List.mem_cons_of_mem _ hlink)) (fun x h => by rw [hr]; exact h) hv hdg kk
theorem x_putF (Fx : CallFix p m c cc nL s args (c0 :: wU) own) (hC : wX D tys ws A H0 s H locs) {ref C : String} {T : u_T} {N ci index q : Nat} (q0 : Nat) {fs : List Value} (he : ws[q0]? = some (q, .inr (ci, fs))) (hc : vwCl[ci]? = some (C, T, N)) (hin : ∀ w ∈ u_ws C T N, w ∈ wU) (ty0 : Nat → FieldType) (hty : ∀ k, k < N → parseFieldDescriptor (T k).2.2.1 = some (ty0 k)) (hnm : ∀ a, a < N → ∀ b, b < N → a ≠ b → (T a).2.1 ≠ (T b).2.1) (k : Nat) (hk : k < N) (hlink : Cond.fieldLink own index ref (T k).2.1 (T k).2.2.1 ∈ wU) (hr : ref = (T k).1) (hfin : (T k).2.2.2 = true) (hin2 : meth.name = "<init>") (hdecl : (T k).1 = own) {ty : FieldType} {v : Value} (hd : parseFieldDescriptor (T k).2.2.1 = some ty) (hn : narrow ty v = v) (hfit : fits ty v = true) (hl : k < fs.length) (hdg : decode cc pc = .ok (.putfield index, 3))
    (kk : ∀ (H : Heap) (locs : List Loc), wX D tys (ws.set q0 (q, .inr (ci, fs.set k v))) A H0 s H locs → W p l e R s m args below meth c H locs cells slots Q (F0 m (pc + 3) ls rest)) : W p l e R s m args below meth c H locs cells slots Q (F0 m pc ls (v :: .ref q :: rest)) :=
  va_putF (D := D) Fx.1 Fx.2.1 Fx.2.2.2.2 (fun w h => List.mem_cons_of_mem _ (hin w h)) ty0 hty hnm Fx.2.2.2.1 hC.1 hC.2.1 hC.2.2.1 hC.2.2.2.1 q0 he hc k hk (Fx.2.2.2.2 _ (List.mem_cons_of_mem _ hlink)) (fun x h => by rw [hr]; exact h) hfin hin2 hdecl hd hn hfit hl hdg (fun H1 locs1 hP hD hS => kk H1 locs1 ⟨hC.1, hP, hD, hS, hC.2.2.2.2⟩)
theorem x_put (Fx : CallFix p m c cc nL s args (c0 :: wU) own) (hC : wX D tys ws A H0 s H locs) {ref C : String} {T : u_T} {N ci index q : Nat} (q0 : Nat) {fs : List Value} (he : ws[q0]? = some (q, .inr (ci, fs))) (hc : vwCl[ci]? = some (C, T, N)) (hin : ∀ w ∈ u_ws C T N, w ∈ wU) (ty0 : Nat → FieldType) (hty : ∀ k, k < N → parseFieldDescriptor (T k).2.2.1 = some (ty0 k)) (hnm : ∀ a, a < N → ∀ b, b < N → a ≠ b → (T a).2.1 ≠ (T b).2.1) (k : Nat) (hk : k < N) (hlink : Cond.fieldLink own index ref (T k).2.1 (T k).2.2.1 ∈ wU) (hr : ref = (T k).1) (hfin : (T k).2.2.2 = false) {ty : FieldType} {v : Value} (hd : parseFieldDescriptor (T k).2.2.1 = some ty) (hn : narrow ty v = v) (hfit : fits ty v = true) (hl : k < fs.length) (hdg : decode cc pc = .ok (.putfield index, 3))
    (kk : ∀ (H : Heap) (locs : List Loc), wX D tys (ws.set q0 (q, .inr (ci, fs.set k v))) A H0 s H locs → W p l e R s m args below meth c H locs cells slots Q (F0 m (pc + 3) ls rest)) : W p l e R s m args below meth c H locs cells slots Q (F0 m pc ls (v :: .ref q :: rest)) :=
  va_put (D := D) Fx.1 Fx.2.1 Fx.2.2.2.2 (fun w h => List.mem_cons_of_mem _ (hin w h)) ty0 hty hnm Fx.2.2.2.1 hC.1 hC.2.1 hC.2.2.1 hC.2.2.2.1 q0 he hc k hk (Fx.2.2.2.2 _ (List.mem_cons_of_mem _ hlink)) (fun x h => by rw [hr]; exact h) hfin hd hn hfit hl hdg (fun H1 locs1 hP hD hS => kk H1 locs1 ⟨hC.1, hP, hD, hS, hC.2.2.2.2⟩)
theorem x_st (Fx : CallFix p m c cc nL s args (c0 :: wU) own) (hC : wX D tys ws A H0 s H locs) (q0 t0 : Nat) {q n : Nat} {cA : ClassId} {fr : Nat → Int32} (he : ws[q0]? = some (q, .inl (cA, n, .inl fr))) (ht : tys[t0]? = some (cA, .int)) {i x : Int32} (hi : ¬ (i < 0 ∨ n ≤ i.toNatClampNeg)) (hdg : decode cc pc = .ok (.iastore, 1))
    (kk : ∀ (H : Heap) (locs : List Loc), wX D tys (ws.set q0 (q, .inl (cA, n, .inl (upd fr i.toNatClampNeg x)))) A H0 s H locs → W p l e R s m args below meth c H locs cells slots Q (F0 m (pc + 1) ls rest)) : W p l e R s m args below meth c H locs cells slots Q (F0 m pc ls (.int x :: .int i :: .ref q :: rest)) :=
  va_iast (D := D) Fx.1 Fx.2.1 hC.1 hC.2.1 hC.2.2.1 hC.2.2.2.1 q0 t0 he ht hi hdg (fun H1 locs1 hP hD hS => kk H1 locs1 ⟨hC.1, hP, hD, hS, hC.2.2.2.2⟩)
theorem x_obj (Fx : CallFix p m c cc nL s args (c0 :: wU) own) {idx q : Nat} (hl : Cond.methodLink own idx objectInit ∈ wU) (hsz : ls.size = nL) (hdg : decode cc pc = .ok (.invokespecial idx, 3)) (hfr : 1 ≤ R.frames) (hlo : 12 ≤ R.locals)
    (kk : W p l e R s m args below meth c H locs cells slots Q (F0 m (pc + 3) ls [])) : W p l e R s m args below meth c H locs cells slots Q (F0 m pc ls [.ref q]) :=
  W.objInit Fx.1 Fx.2.1 Fx.2.2.2.1 (Fx.2.2.2.2 _ (List.mem_cons_of_mem _ hl)) (Fx.2.2.2.2 _ (List.mem_cons_of_mem _ wd_19)) (Fx.2.2.2.2 _ (List.mem_cons_of_mem _ wd_20)) rfl (hsz.trans Fx.2.2.1.symm) rfl hdg hfr hlo kk
end XB
/-- a constructor -/
def cPre (D : va_G) (tys : List (ClassId × FieldType)) (w0 : va_W) (N : State → Prop) (sz : Nat) : State → Prop := fun U => U.heap.size = sz ∧ va_P D vwCl w0 U.heap ∧ va_K D vwCl tys U ∧ va_D (fun _ => True) w0 ∧ N U
def cPost (D : va_G) (tys : List (ClassId × FieldType)) (A : Nat → Prop) (w1 : (Nat → Nat) → va_W) : (Nat → Nat) → State → Prop := fun u t => va_P D vwCl (w1 u) t.heap ∧ va_K D vwCl tys t ∧ va_D A (w1 u)
def mC (l : Launch) (y : MethodName) (ws : List Cond) (rm : Room) (D : va_G) (tys : List (ClassId × FieldType)) (avs : List Value) (w0 : va_W) (w1 : (Nat → Nat) → va_W) (N : State → Prop) (mc ms : Nat) : Prop :=
  ∀ sz : Nat, Met l y ws rm (va_Pc avs (cPre D tys w0 N sz)) (va_Qv (fun (_ : Nat → Nat) => True) (cPost D tys (va_A w0 sz) w1) (va_A w0 sz)) mc ms (va_A w0 sz)
def mRc (p : Program) (l : Launch) (e : Env) (R : Room) (s : State) (m : MethodId) (args : Array Value) (below : List Frame) (meth : Method) (c : Code) (Q : State → Prop) (D : va_G) (tys : List (ClassId × FieldType)) (w1 : (Nat → Nat) → va_W) (A : Nat → Prop) (H0 : Heap) (cc : ByteArray) (mc ms : Nat) : Prop :=
  ∀ (pc : Nat) (ls : Array Slot) (H : Heap) (locs : List Loc) (cells slots : Nat) (u : Nat → Nat), decode cc pc = .ok (.return_, 1) → cells ≤ mc → slots ≤ ms → wX D tys (w1 u) A H0 s H locs → W p l e R s m args below meth c H locs cells slots Q (F0 m pc ls [])
section XM
variable {l : Launch} {y : MethodName} {ws' : List Cond} {rm : Room} {D : va_G} {tys : List (ClassId × FieldType)} {avs : List Value} {w0 : va_W} {w1 : (Nat → Nat) → va_W} {N : State → Prop} {cc : ByteArray} {maxL mc ms : Nat}
theorem mk_c (hy : plainName y.cls = true) (hi : y.name = "<init>") (hn : (lg_sl avs).length ≤ maxL)
    (body : ∀ (p : Program) (e : Env) (s : State) (m : MethodId) (below : List Frame) (meth : Method) (c : Code) (Q : State → Prop) (A : Nat → Prop) (H0 : Heap), CallFix p m c cc maxL s avs.toArray (Cond.code y cc maxL none :: wU) y.cls → meth.name = "<init>" → N s → mRc p l e rm s m avs.toArray below meth c Q D tys w1 A H0 cc mc ms → ∀ (ls : Array Slot) (H : Heap) (locs : List Loc), lv_has ls maxL (lv_args 0 avs) → wX D tys w0 A H0 s H locs → W p l e rm s m avs.toArray below meth c H locs 0 0 Q (F0 m 0 ls [])) :
    mC l y (Cond.code y cc maxL none :: wU) rm D tys avs w0 w1 N mc ms := by
  intro sz
  refine Met.ofW (cc := cc) (maxL := maxL) (ret := none) hy rfl ?_
  intro p e s m args below meth c s₁ B hml hv
  obtain ⟨rfl, hsz, hP, hK, hD0, hN⟩ := hv
  have hl := lv_entry avs (n := maxL) hn
  rw [lg_entry_eq]
  subst hsz
  have hD := hD0.self (sz := s.heap.size)
  have hlocks := B.notSynchronized
  refine body p e s m below meth c _ (va_A w0 s.heap.size) s.heap ⟨B.exec, B.bytes, hml, findClass_of_methodNamed B.named, atoms_spec (ws := Cond.code y cc maxL none :: wU) B.pre⟩ ((name_of_methodNamed B.named B.method).1.trans hi) hN ?_ _ _ _ hl ⟨hK, hP, hD, va_S.rf, fun q h => Or.inr h⟩
  intro pc ls H locs cells slots u hdg h1 h2 hC
  refine W.widen (k := mc) (n := ms) h1 h2 ?_
  exact W.vret B.exec B.bytes B.returns (fun t ht hW => ⟨⟨u, rfl, trivial, by rw [ht]; exact hC.2.1, va_K.moved hW.alike hC.1, hC.2.2.1⟩, hC.2.2.2.1.F ht⟩) hC.2.2.2.1.2.2 hdg
variable {p : Program} {e : Env} {R : Room} {s : State} {m : MethodId} {args : Array Value} {below : List Frame} {meth : Method} {c : Code} {H : Heap} {locs : List Loc} {cells slots : Nat} {Q : State → Prop}
variable {ws : va_W} {A : Nat → Prop} {H0 : Heap} {pc : Nat} {ls : Array Slot} {rest st0 As : List Value} {nL : Nat} {c0 : Cond} {own : String} {index b n : Nat} {bytes : ByteArray} {ccc : ByteArray}
theorem cPre_blind {sz : Nat} (hNb : ∀ (U : State) (g : JFrame) (mk : MethodId) (a : Array Value), N U → N (U.calling g mk a)) : FrameBlind (va_Pc avs (cPre D tys w0 N sz)) := fun a U gg mk q => by
  obtain ⟨q0, q1, qP, qK, qD, qN⟩ := q
  exact ⟨q0, q1, qP, va_K.moved (u := U) (U := U.calling gg mk a) (Vm.Alike.refl U.vm) qK, qD, hNb U gg mk a qN⟩
theorem x_sub (hC : wX D tys (ws ++ w0) A H0 s H locs) : ∀ q : Nat, va_A w0 H.size q → A q := by
  intro q hq
  rcases hq with ⟨k, e, hk⟩ | hq
  · exact (xD_r hC.2.2.1).2 k _ hk
  · exact hC.2.2.2.2 q (Nat.le_trans hC.2.2.2.1.1 hq)
theorem x_cv (hC : wX D tys (ws ++ w0) A H0 s H locs) (hr : va_Run p l e R s m args below meth c H locs cells slots mc ms (F0 m pc ls st0) rest (va_Qv (fun (_ : Nat → Nat) => True) (cPost D tys (va_A w0 H.size) w1) (va_A w0 H.size) avs.toArray) (va_A w0 H.size))
    (kk : ∀ (u : Nat → Nat) (H : Heap) (locs : List Loc), wX D tys (ws ++ w1 u) A H0 s H locs → W p l e R s m args below meth c H locs (cells + mc) (slots + ms) Q (F0 m (pc + 3) ls rest)) : W p l e R s m args below meth c H locs cells slots Q (F0 m pc ls st0) := by
  refine va_callv hr hC.2.2.2.1 (fun q _ h => x_sub hC q h) (x_sub hC) (fun u t H1 locs1 ht hvm hw hB hz1 hk1 hS => ?_)
  obtain ⟨hP1, hK1, hD1⟩ := hB
  rw [ht] at hP1
  have hs := wX_swap hC
  obtain ⟨hP, hD⟩ := xjoin hs.2.1 hs.2.2.1 hk1 (x_sub hC) hP1 hD1
  exact kk u H1 locs1 ⟨hC.1, hP, hD, hS, hC.2.2.2.2⟩
theorem x_pre (hC : wX D tys (ws ++ w0) A H0 s H locs) (hN : ∀ U : State, s.WarmedH U.vm → N U) (hNb : ∀ (U : State) (g : JFrame) (mk : MethodId) (a : Array Value), N U → N (U.calling g mk a)) : PreS s H (va_Pc avs (cPre D tys w0 N H.size)) avs :=
  ⟨cPre_blind hNb, fun U hU hW => ⟨rfl, by rw [hU], by rw [hU]; exact xP_r hC.2.1, va_K.moved hW.alike hC.1, (xD_r hC.2.2.1).weaken (fun _ _ _ _ => trivial), hN U hW⟩⟩
theorem x_init (Fx : CallFix p m c ccc nL s args (c0 :: wU) own) (hC : wX D tys (ws ++ w0) A H0 s H locs) (hM : mC l y (Cond.code y cc maxL none :: wU) rm D tys (.ref b :: As) w0 w1 N mc ms) (h1 : Cond.initialized y.cls ∈ wU) (h2 : Cond.methodLink own index y ∈ wU) (h3 : Cond.instanceMethod y ∈ wU) (h4 : Cond.code y cc maxL none ∈ wU) (hy : y.name = "<init>") (hd : y.cls ≠ "java/lang/invoke/MethodHandle" ∧ y.cls ≠ "java/lang/invoke/VarHandle" ∧ (parseMethodDescriptor y.desc).map (fun d => d.parameters.length) = some n) (hrc : rm.cells = mc) (hrs : rm.slots = ms) (hR : rm.frames + 1 ≤ R.frames ∧ 8 + (maxL + 11) + rm.locals ≤ R.locals) (hN : ∀ U : State, s.WarmedH U.vm → N U) (hNb : ∀ (U : State) (g : JFrame) (mk : MethodId) (a : Array Value), N U → N (U.calling g mk a)) (hn : As.length = n) (hsz : ls.size = nL) (hst : st0 = As.reverse ++ .ref b :: rest) (hroom : (rest.map fun v => v.category).sum ≤ 8) (hdg : decode ccc pc = .ok (.invokespecial index, 3)) (hf : cells + mc ≤ R.cells ∧ slots + ms ≤ R.slots)
    (kk : ∀ (u : Nat → Nat) (H : Heap) (locs : List Loc), wX D tys (ws ++ w1 u) A H0 s H locs → W p l e R s m args below meth c H locs (cells + mc) (slots + ms) Q (F0 m (pc + 3) ls rest)) : W p l e R s m args below meth c H locs cells slots Q (F0 m pc ls st0) := by
  subst hst
  exact x_cv (avs := .ref b :: As) hC (va_runI (As := As) (rest := rest) Fx (hM H.size) (cwI n Fx.2.2.2.2 (goodU (fun w hw => (List.mem_cons.mp hw).elim (fun q => q ▸ h4) id)) rfl hrc hrs (Fx.2.2.2.2 _ (List.mem_cons_of_mem _ h1)) (Fx.2.2.2.2 _ (List.mem_cons_of_mem _ h2)) (Fx.2.2.2.2 _ (List.mem_cons_of_mem _ h3)) hy hd hR) (x_pre hC hN hNb) rfl hn hsz rfl (lv_room hroom) hdg hf) kk
theorem x_initN {host : String} (Fx : CallFix p m c ccc nL s args (c0 :: wU) own) (hC : wX D tys (ws ++ w0) A H0 s H locs) (hM : mC l y (Cond.code y cc maxL none :: wU) rm D tys (.ref b :: As) w0 w1 N mc ms) (h1 : Cond.initialized y.cls ∈ wU) (h2 : va_Nw (.methodLinkNest own index y host) s) (h3 : Cond.instanceMethod y ∈ wU) (h4 : Cond.code y cc maxL none ∈ wU) (hy : y.name = "<init>") (hd : y.cls ≠ "java/lang/invoke/MethodHandle" ∧ y.cls ≠ "java/lang/invoke/VarHandle" ∧ (parseMethodDescriptor y.desc).map (fun d => d.parameters.length) = some n) (hrc : rm.cells = mc) (hrs : rm.slots = ms) (hR : rm.frames + 1 ≤ R.frames ∧ 8 + (maxL + 11) + rm.locals ≤ R.locals) (hN : ∀ U : State, s.WarmedH U.vm → N U) (hNb : ∀ (U : State) (g : JFrame) (mk : MethodId) (a : Array Value), N U → N (U.calling g mk a)) (hn : As.length = n) (hsz : ls.size = nL) (hst : st0 = As.reverse ++ .ref b :: rest) (hroom : (rest.map fun v => v.category).sum ≤ 8) (hdg : decode ccc pc = .ok (.invokespecial index, 3)) (hf : cells + mc ≤ R.cells ∧ slots + ms ≤ R.slots)
    (kk : ∀ (u : Nat → Nat) (H : Heap) (locs : List Loc), wX D tys (ws ++ w1 u) A H0 s H locs → W p l e R s m args below meth c H locs (cells + mc) (slots + ms) Q (F0 m (pc + 3) ls rest)) : W p l e R s m args below meth c H locs cells slots Q (F0 m pc ls st0) := by
  subst hst
  exact x_cv (avs := .ref b :: As) hC (va_runIN (As := As) (rest := rest) Fx (hM H.size) ⟨va_cnB n Fx.2.2.2.2 (goodU (fun w hw => (List.mem_cons.mp hw).elim (fun q => q ▸ h4) id)) rfl hrc hrs h2 (Fx.2.2.2.2 _ (List.mem_cons_of_mem _ h1)) hd hR, hy, Fx.2.2.2.2 _ (List.mem_cons_of_mem _ h3)⟩ (x_pre hC hN hNb) rfl hn hsz rfl (lv_room hroom) hdg hf) kk
end XM
