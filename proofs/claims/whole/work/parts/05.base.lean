/-! the machine's contracts tied to pure functions: a world is a list of cells given by numbers g (fields) and rows f (arrays) -/
abbrev sG : Type := Nat → Int32
abbrev sF : Type := Nat → Nat → Int32
noncomputable def FUEL : Nat := Classical.choose (⟨6000, rfl⟩ : ∃ n : Nat, n = 6000)
theorem FUEL_eq : FUEL = 6000 := Classical.choose_spec (⟨6000, rfl⟩ : ∃ n : Nat, n = 6000)
noncomputable def DEP : Nat := Classical.choose (⟨6, rfl⟩ : ∃ n : Nat, n = 6)
theorem DEP_eq : DEP = 6 := Classical.choose_spec (⟨6, rfl⟩ : ∃ n : Nat, n = 6)
def up2 (f : sF) (j k : Nat) (x : Int32) : sF := fun a => if a = j then upd (f j) k x else f a
def itr {σ ρ : Type} (B : (σ → Option ρ) → σ → Option ρ) : Nat → σ → Option ρ
  | 0, _ => none
  | n + 1, s => B (itr B n) s
theorem itr_all {σ ρ : Type} {B : (σ → Option ρ) → σ → Option ρ} {r : ρ} (P : σ → Prop) (h : ∀ K : σ → Option ρ, (∀ s, K s = some r → P s) → ∀ s, B K s = some r → P s) : ∀ n s, itr B n s = some r → P s := by
  intro n
  induction n with
  | zero => intro s hs; cases hs
  | succ n ih => intro s hs; exact h (itr B n) ih s hs
def lt_ {α β : Type} (x : α) (k : α → β) : β := k x
theorem lt_e {α β : Type} {x : α} {k : α → Option β} {R : β} (h : lt_ x k = some R) : ∃ y, y = x ∧ k y = some R := ⟨x, rfl, h⟩
theorem gd_e {c : Prop} [Decidable c] {β : Type} {A : Option β} {R : β} (h : (if c then none else A) = some R) : ¬ c ∧ A = some R := by
  by_cases hc : c
  · rw [if_pos hc] at h; cases h
  · rw [if_neg hc] at h; exact ⟨hc, h⟩
theorem bd_e {α β : Type} {x : Option α} {k : α → Option β} {R : β} (h : x.bind k = some R) : ∃ u, x = some u ∧ k u = some R := by
  cases x with
  | none => cases h
  | some u => exact ⟨u, rfl, h⟩
theorem ift {c : Prop} [Decidable c] {β : Type} {A B R : β} (h : c) (e : (if c then A else B) = R) : A = R := by rw [if_pos h] at e; exact e
theorem iff_ {c : Prop} [Decidable c] {β : Type} {A B R : β} (h : ¬ c) (e : (if c then A else B) = R) : B = R := by rw [if_neg h] at e; exact e
theorem bo_nar {x : Int32} (h : ¬ (¬ x = 0 ∧ ¬ x = 1)) : narrow .boolean (.int x) = .int x := by
  by_cases h0 : x = 0
  · subst h0; rfl
  · by_cases h1 : x = 1
    · subst h1; rfl
    · exact absurd ⟨h0, h1⟩ h
theorem bo_vp {x : Int32} (h : ¬ (¬ x = 0 ∧ ¬ x = 1)) : vp_nar .boolean x = x := by
  unfold vp_nar; rw [bo_nar h]
def wH (D : va_G) (tys : List (ClassId × FieldType)) (w : sG → sF → va_W) (A : Nat → Prop) (H0 : Heap) (s : State) (g : sG) (f : sF) (H : Heap) (locs : List Loc) : Prop :=
  va_K D vwCl tys s ∧ va_P D vwCl (w g f) H ∧ va_D A (w g f) ∧ va_S A H0 H locs ∧ ∀ q : Nat, H0.size ≤ q → A q
def mPre (D : va_G) (tys : List (ClassId × FieldType)) (w : sG → sF → va_W) (g : sG) (f : sF) (sz : Nat) : State → Prop := fun U => U.heap.size = sz ∧ va_P D vwCl (w g f) U.heap ∧ va_K D vwCl tys U ∧ va_D (fun _ => True) (w g f)
def mPost (D : va_G) (tys : List (ClassId × FieldType)) (w : sG → sF → va_W) (A : Nat → Prop) (g : sG) (f : sF) : Unit → State → Prop := fun _ t => va_P D vwCl (w g f) t.heap ∧ va_K D vwCl tys t ∧ va_D A (w g f)
/-- a method that answers an int -/
def mMi (l : Launch) (y : MethodName) (ws : List Cond) (rm : Room) (D : va_G) (tys : List (ClassId × FieldType)) (w : sG → sF → va_W) (avs : List Value) (g : sG) (f : sF) (u : Int32 × sG × sF) : Prop :=
  ∀ sz : Nat, Met l y ws rm (va_Pc avs (mPre D tys w g f sz)) (va_Qi (fun r (_ : Unit) => r = u.1) (mPost D tys w (va_A (w g f) sz) u.2.1 u.2.2) (va_A (w g f) sz)) 0 0 (va_A (w g f) sz)
/-- a method that answers nothing -/
def mMv (l : Launch) (y : MethodName) (ws : List Cond) (rm : Room) (D : va_G) (tys : List (ClassId × FieldType)) (w : sG → sF → va_W) (avs : List Value) (g : sG) (f : sF) (u : sG × sF) : Prop :=
  ∀ sz : Nat, Met l y ws rm (va_Pc avs (mPre D tys w g f sz)) (va_Qv (fun (_ : Unit) => True) (mPost D tys w (va_A (w g f) sz) u.1 u.2) (va_A (w g f) sz)) 0 0 (va_A (w g f) sz)
section BB
variable {p : Program} {l : Launch} {e : Env} {R : Room} {s : State} {m : MethodId} {args : Array Value} {below : List Frame} {meth : Method} {c : Code} {H : Heap} {locs : List Loc} {Q : State → Prop}
variable {D : va_G} {tys : List (ClassId × FieldType)} {w : sG → sF → va_W} {A : Nat → Prop} {H0 : Heap} {g : sG} {f : sF} {cc : ByteArray} {pc : Nat} {ls : Array Slot} {rest st0 : List Value} {nL : Nat} {Ts : List Cond} {own : String}
/-- where a walk of the body may end: the answer u.1, the world u.2 -/
def mRi (p : Program) (l : Launch) (e : Env) (R : Room) (s : State) (m : MethodId) (args : Array Value) (below : List Frame) (meth : Method) (c : Code) (Q : State → Prop) (D : va_G) (tys : List (ClassId × FieldType)) (w : sG → sF → va_W) (A : Nat → Prop) (H0 : Heap) (cc : ByteArray) (u : Int32 × sG × sF) : Prop :=
  ∀ (pc : Nat) (ls : Array Slot) (H : Heap) (locs : List Loc), decode cc pc = .ok (.ireturn, 1) → wH D tys w A H0 s u.2.1 u.2.2 H locs → W p l e R s m args below meth c H locs 0 0 Q (F0 m pc ls [.int u.1])
def mRz (p : Program) (l : Launch) (e : Env) (R : Room) (s : State) (m : MethodId) (args : Array Value) (below : List Frame) (meth : Method) (c : Code) (Q : State → Prop) (D : va_G) (tys : List (ClassId × FieldType)) (w : sG → sF → va_W) (A : Nat → Prop) (H0 : Heap) (cc : ByteArray) (u : Int32 × sG × sF) : Prop :=
  ∀ (pc : Nat) (ls : Array Slot) (H : Heap) (locs : List Loc), decode cc pc = .ok (.ireturn, 1) → ¬ (¬ u.1 = 0 ∧ ¬ u.1 = 1) → wH D tys w A H0 s u.2.1 u.2.2 H locs → W p l e R s m args below meth c H locs 0 0 Q (F0 m pc ls [.int u.1])
def mRv (p : Program) (l : Launch) (e : Env) (R : Room) (s : State) (m : MethodId) (args : Array Value) (below : List Frame) (meth : Method) (c : Code) (Q : State → Prop) (D : va_G) (tys : List (ClassId × FieldType)) (w : sG → sF → va_W) (A : Nat → Prop) (H0 : Heap) (cc : ByteArray) (u : sG × sF) : Prop :=
  ∀ (pc : Nat) (ls : Array Slot) (H : Heap) (locs : List Loc), decode cc pc = .ok (.return_, 1) → wH D tys w A H0 s u.1 u.2 H locs → W p l e R s m args below meth c H locs 0 0 Q (F0 m pc ls [])
theorem tpi {x y : Int32} (h : y = x) (k : W p l e R s m args below meth c H locs 0 0 Q (F0 m pc ls (.int y :: rest))) : W p l e R s m args below meth c H locs 0 0 Q (F0 m pc ls (.int x :: rest)) := by subst h; exact k
theorem tpl {x y : Int64} (h : y = x) (k : W p l e R s m args below meth c H locs 0 0 Q (F0 m pc ls (.long y :: rest))) : W p l e R s m args below meth c H locs 0 0 Q (F0 m pc ls (.long x :: rest)) := by subst h; exact k
theorem g_get (Fx : CallFix p m c cc nL s args Ts own) (hC : wH D tys w A H0 s g f H locs) {ref C : String} {T : u_T} {N ci index a : Nat} (q0 : Nat) {fs : List Value} (he : (w g f)[q0]? = some (a, .inr (ci, fs))) (hc : vwCl[ci]? = some (C, T, N)) (hin : ∀ w ∈ u_ws C T N, w ∈ Ts) (k : Nat) (hk : k < N) (hlink : (Cond.fieldLink own index ref (T k).2.1 (T k).2.2.1).before args s = true) (hr : ref = (T k).1) {v : Value} (hv : fs[k]? = some v) (hdg : decode cc pc = .ok (.getfield index, 3))
    (kk : W p l e R s m args below meth c H locs 0 0 Q (F0 m (pc + 3) ls (v :: rest))) : W p l e R s m args below meth c H locs 0 0 Q (F0 m pc ls (.ref a :: rest)) :=
  va_get (D := D) Fx.1 Fx.2.1 Fx.2.2.2.2 hin Fx.2.2.2.1 hC.1 hC.2.1 q0 he hc k hk hlink (fun x h => by rw [hr]; exact h) hv hdg kk
theorem g_put (Fx : CallFix p m c cc nL s args Ts own) (hC : wH D tys w A H0 s g f H locs) {ref C : String} {T : u_T} {N ci index a : Nat} (q0 : Nat) {fs : List Value} (he : (w g f)[q0]? = some (a, .inr (ci, fs))) (hc : vwCl[ci]? = some (C, T, N)) (hin : ∀ w ∈ u_ws C T N, w ∈ Ts) (ty0 : Nat → FieldType) (hty : ∀ k, k < N → parseFieldDescriptor (T k).2.2.1 = some (ty0 k)) (hnm : ∀ a, a < N → ∀ b, b < N → a ≠ b → (T a).2.1 ≠ (T b).2.1) (k : Nat) (hk : k < N) (hlink : (Cond.fieldLink own index ref (T k).2.1 (T k).2.2.1).before args s = true) (hr : ref = (T k).1) (hfin : (T k).2.2.2 = false) {ty : FieldType} {v : Value} (hd : parseFieldDescriptor (T k).2.2.1 = some ty) (hn : narrow ty v = v) (hfit : fits ty v = true) (hl : k < fs.length) {g1 : sG} (hw : (w g f).set q0 (a, .inr (ci, fs.set k v)) = w g1 f) (hdg : decode cc pc = .ok (.putfield index, 3))
    (kk : ∀ (H : Heap) (locs : List Loc), wH D tys w A H0 s g1 f H locs → W p l e R s m args below meth c H locs 0 0 Q (F0 m (pc + 3) ls rest)) : W p l e R s m args below meth c H locs 0 0 Q (F0 m pc ls (v :: .ref a :: rest)) :=
  va_put (D := D) Fx.1 Fx.2.1 Fx.2.2.2.2 hin ty0 hty hnm Fx.2.2.2.1 hC.1 hC.2.1 hC.2.2.1 hC.2.2.2.1 q0 he hc k hk hlink (fun x h => by rw [hr]; exact h) hfin hd hn hfit hl hdg (fun H1 locs1 hP hD hS => kk H1 locs1 ⟨hC.1, hw ▸ hP, hw ▸ hD, hS, hC.2.2.2.2⟩)
theorem g_ld (Fx : CallFix p m c cc nL s args Ts own) (hC : wH D tys w A H0 s g f H locs) (q0 t0 : Nat) {a n j : Nat} {cA : ClassId} (he : (w g f)[q0]? = some (a, .inl (cA, n, .inl (f j)))) (ht : tys[t0]? = some (cA, .int)) {i : Int32} (hi : ¬ (i < 0 ∨ n ≤ i.toNatClampNeg)) (hdg : decode cc pc = .ok (.iaload, 1))
    (kk : W p l e R s m args below meth c H locs 0 0 Q (F0 m (pc + 1) ls (.int (f j i.toNatClampNeg) :: rest))) : W p l e R s m args below meth c H locs 0 0 Q (F0 m pc ls (.int i :: .ref a :: rest)) :=
  va_iald (D := D) Fx.1 Fx.2.1 hC.1 hC.2.1 q0 t0 he ht hi hdg kk
theorem g_zld (Fx : CallFix p m c cc nL s args Ts own) (hC : wH D tys w A H0 s g f H locs) (q0 t0 : Nat) {a n j : Nat} {cA : ClassId} (he : (w g f)[q0]? = some (a, .inl (cA, n, .inl (f j)))) (ht : tys[t0]? = some (cA, .boolean)) {i : Int32} (hi : ¬ (i < 0 ∨ n ≤ i.toNatClampNeg)) (hdg : decode cc pc = .ok (.baload, 1))
    (kk : W p l e R s m args below meth c H locs 0 0 Q (F0 m (pc + 1) ls (.int (f j i.toNatClampNeg) :: rest))) : W p l e R s m args below meth c H locs 0 0 Q (F0 m pc ls (.int i :: .ref a :: rest)) :=
  va_zald (D := D) Fx.1 Fx.2.1 hC.1 hC.2.1 q0 t0 he ht hi hdg kk
theorem g_st (Fx : CallFix p m c cc nL s args Ts own) (hC : wH D tys w A H0 s g f H locs) (q0 t0 : Nat) {a n j : Nat} {cA : ClassId} (he : (w g f)[q0]? = some (a, .inl (cA, n, .inl (f j)))) (ht : tys[t0]? = some (cA, .int)) {i x : Int32} (hi : ¬ (i < 0 ∨ n ≤ i.toNatClampNeg)) {f1 : sF} (hw : (w g f).set q0 (a, .inl (cA, n, .inl (upd (f j) i.toNatClampNeg x))) = w g f1) (hdg : decode cc pc = .ok (.iastore, 1))
    (kk : ∀ (H : Heap) (locs : List Loc), wH D tys w A H0 s g f1 H locs → W p l e R s m args below meth c H locs 0 0 Q (F0 m (pc + 1) ls rest)) : W p l e R s m args below meth c H locs 0 0 Q (F0 m pc ls (.int x :: .int i :: .ref a :: rest)) :=
  va_iast (D := D) Fx.1 Fx.2.1 hC.1 hC.2.1 hC.2.2.1 hC.2.2.2.1 q0 t0 he ht hi hdg (fun H1 locs1 hP hD hS => kk H1 locs1 ⟨hC.1, hw ▸ hP, hw ▸ hD, hS, hC.2.2.2.2⟩)
theorem g_zst (Fx : CallFix p m c cc nL s args Ts own) (hC : wH D tys w A H0 s g f H locs) (q0 t0 : Nat) {a n j : Nat} {cA : ClassId} (he : (w g f)[q0]? = some (a, .inl (cA, n, .inl (f j)))) (ht : tys[t0]? = some (cA, .boolean)) {i x : Int32} (hi : ¬ (i < 0 ∨ n ≤ i.toNatClampNeg)) (hx : ¬ (¬ x = 0 ∧ ¬ x = 1)) {f1 : sF} (hw : (w g f).set q0 (a, .inl (cA, n, .inl (upd (f j) i.toNatClampNeg x))) = w g f1) (hdg : decode cc pc = .ok (.bastore, 1))
    (kk : ∀ (H : Heap) (locs : List Loc), wH D tys w A H0 s g f1 H locs → W p l e R s m args below meth c H locs 0 0 Q (F0 m (pc + 1) ls rest)) : W p l e R s m args below meth c H locs 0 0 Q (F0 m pc ls (.int x :: .int i :: .ref a :: rest)) :=
  va_zast (D := D) Fx.1 Fx.2.1 hC.1 hC.2.1 hC.2.2.1 hC.2.2.2.1 q0 t0 he ht hi hdg (fun H1 locs1 hP hD hS => by rw [bo_vp hx, hw] at hP hD; exact kk H1 locs1 ⟨hC.1, hP, hD, hS, hC.2.2.2.2⟩)
theorem mPre_blind {avs : List Value} {sz : Nat} : FrameBlind (va_Pc avs (mPre D tys w g f sz)) := fun a U gg mk q => by
  obtain ⟨q0, q1, qP, qK, qD⟩ := q
  exact ⟨q0, q1, qP, va_K.moved (u := U) (U := U.calling gg mk a) (Vm.Alike.refl U.vm) qK, qD⟩
theorem wH_sub (hC : wH D tys w A H0 s g f H locs) : ∀ q : Nat, va_A (w g f) H.size q → A q := by
  intro q hq
  rcases hq with ⟨k, e, hk⟩ | hq
  · exact hC.2.2.1.2 k _ hk
  · exact hC.2.2.2.2 q (Nat.le_trans hC.2.2.2.1.1 hq)
theorem wH_back {g1 : sG} {f1 : sF} {t : State} {H1 : Heap} {locs1 : List Loc} {A1 : Nat → Prop} (hC : wH D tys w A H0 s g f H locs) (hsub : ∀ q : Nat, A1 q → A q) (ht : t.heap = H1) (hvm : s.vm.Alike t.vm) (hB : mPost D tys w A1 g1 f1 () t) (hS : va_S A H0 H1 locs1) : wH D tys w A H0 s g1 f1 H1 locs1 := by
  obtain ⟨hP, hK, hD⟩ := hB
  rw [ht] at hP
  exact ⟨hC.1, hP, hD.weaken (fun k q hk h => hsub _ h), hS, hC.2.2.2.2⟩
variable {y : MethodName} {bytes : ByteArray} {maxL n index b ci q0 : Nat} {ret : Option FieldType} {ws : List Cond} {rm : Room} {C : String} {As fs : List Value} {qq : vw_C}
theorem ca_i {u : Int32 × sG × sF} (Fx : CallFix p m c cc nL s args Ts own) (hC : wH D tys w A H0 s g f H locs) (hM : mMi l y ws rm D tys w (.ref b :: As) g f u) (cw : CallW R s args own qq.1 index y bytes maxL ret ws rm 0 0 n) (q0 : Nat) (he : (w g f)[q0]? = some (b, .inr (ci, fs))) (hc : vwCl[ci]? = some qq) (hn : As.length = n) (hsz : ls.size = nL) (hst : st0 = As.reverse ++ .ref b :: rest) (hroom : (rest.map fun v => v.category).sum ≤ 8) (hdg : decode cc pc = .ok (.invokevirtual index, 3))
    (kk : ∀ (H : Heap) (locs : List Loc), wH D tys w A H0 s u.2.1 u.2.2 H locs → W p l e R s m args below meth c H locs 0 0 Q (F0 m (pc + 3) ls (.int u.1 :: rest))) : W p l e R s m args below meth c H locs 0 0 Q (F0 m pc ls st0) := by
  subst hst
  refine va_calli (va_runV (As := As) (rest := rest) Fx (hM H.size) cw ⟨mPre_blind, va_recv hC.1 hC.2.1 hc he, fun U hU hW => ⟨rfl, by rw [hU], by rw [hU]; exact hC.2.1, va_K.moved hW.alike hC.1, hC.2.2.1.weaken (fun _ _ _ _ => trivial)⟩⟩ rfl hn hsz rfl (lv_room hroom) hdg ⟨Nat.zero_le _, Nat.zero_le _⟩) hC.2.2.2.1 (fun q _ h => wH_sub hC q h) (wH_sub hC) (fun r u t H1 locs1 ht hvm hw hB hz1 hk1 hS => ?_)
  subst hw
  exact kk H1 locs1 (wH_back hC (wH_sub hC) ht hvm hB hS)
theorem ca_v {u : sG × sF} (Fx : CallFix p m c cc nL s args Ts own) (hC : wH D tys w A H0 s g f H locs) (hM : mMv l y ws rm D tys w (.ref b :: As) g f u) (cw : CallW R s args own qq.1 index y bytes maxL ret ws rm 0 0 n) (q0 : Nat) (he : (w g f)[q0]? = some (b, .inr (ci, fs))) (hc : vwCl[ci]? = some qq) (hn : As.length = n) (hsz : ls.size = nL) (hst : st0 = As.reverse ++ .ref b :: rest) (hroom : (rest.map fun v => v.category).sum ≤ 8) (hdg : decode cc pc = .ok (.invokevirtual index, 3))
    (kk : ∀ (H : Heap) (locs : List Loc), wH D tys w A H0 s u.1 u.2 H locs → W p l e R s m args below meth c H locs 0 0 Q (F0 m (pc + 3) ls rest)) : W p l e R s m args below meth c H locs 0 0 Q (F0 m pc ls st0) := by
  subst hst
  refine va_callv (va_runV (As := As) (rest := rest) Fx (hM H.size) cw ⟨mPre_blind, va_recv hC.1 hC.2.1 hc he, fun U hU hW => ⟨rfl, by rw [hU], by rw [hU]; exact hC.2.1, va_K.moved hW.alike hC.1, hC.2.2.1.weaken (fun _ _ _ _ => trivial)⟩⟩ rfl hn hsz rfl (lv_room hroom) hdg ⟨Nat.zero_le _, Nat.zero_le _⟩) hC.2.2.2.1 (fun q _ h => wH_sub hC q h) (wH_sub hC) (fun u t H1 locs1 ht hvm hw hB hz1 hk1 hS => ?_)
  exact kk H1 locs1 (wH_back hC (wH_sub hC) ht hvm hB hS)
theorem ca_s {u : Int32 × sG × sF} (Fx : CallFix p m c cc nL s args Ts own) (hC : wH D tys w A H0 s g f H locs) (hM : mMi l y ws rm D tys w As g f u) (cw : CallB R s args own index y bytes maxL ret ws rm 0 0 n ∧ (Cond.static y).before args s = true) (hn : As.length = n) (hsz : ls.size = nL) (hst : st0 = As.reverse ++ rest) (hroom : (rest.map fun v => v.category).sum ≤ 8) (hdg : decode cc pc = .ok (.invokestatic index, 3))
    (kk : ∀ (H : Heap) (locs : List Loc), wH D tys w A H0 s u.2.1 u.2.2 H locs → W p l e R s m args below meth c H locs 0 0 Q (F0 m (pc + 3) ls (.int u.1 :: rest))) : W p l e R s m args below meth c H locs 0 0 Q (F0 m pc ls st0) := by
  subst hst
  refine va_calli (va_runS (As := As) (rest := rest) Fx (hM H.size) cw ⟨mPre_blind, fun U hU hW => ⟨rfl, by rw [hU], by rw [hU]; exact hC.2.1, va_K.moved hW.alike hC.1, hC.2.2.1.weaken (fun _ _ _ _ => trivial)⟩⟩ rfl hn hsz rfl (lv_room hroom) hdg ⟨Nat.zero_le _, Nat.zero_le _⟩) hC.2.2.2.1 (fun q _ h => wH_sub hC q h) (wH_sub hC) (fun r u t H1 locs1 ht hvm hw hB hz1 hk1 hS => ?_)
  subst hw
  exact kk H1 locs1 (wH_back hC (wH_sub hC) ht hvm hB hS)
end BB
section BM
variable {l : Launch} {y : MethodName} {ws ws' : List Cond} {rm : Room} {D : va_G} {tys : List (ClassId × FieldType)} {w : sG → sF → va_W} {avs : List Value} {g : sG} {f : sF} {cc : ByteArray} {maxL : Nat}
theorem mk_i {u : Int32 × sG × sF} (hy : plainName y.cls = true) (hw : ws = Cond.code y cc maxL (some .int) :: ws') (hn : (lg_sl avs).length ≤ maxL)
    (body : ∀ (p : Program) (e : Env) (s : State) (m : MethodId) (below : List Frame) (meth : Method) (c : Code) (Q : State → Prop) (A : Nat → Prop) (H0 : Heap), CallFix p m c cc maxL s avs.toArray ws y.cls → mRi p l e rm s m avs.toArray below meth c Q D tys w A H0 cc u → ∀ (ls : Array Slot) (H : Heap) (locs : List Loc), lv_has ls maxL (lv_args 0 avs) → wH D tys w A H0 s g f H locs → W p l e rm s m avs.toArray below meth c H locs 0 0 Q (F0 m 0 ls [])) :
    mMi l y ws rm D tys w avs g f u := by
  intro sz
  refine Met.ofW (cc := cc) (maxL := maxL) (ret := some .int) hy hw ?_
  intro p e s m args below meth c s₁ B hml hv
  obtain ⟨rfl, hsz, hP, hK, hD0⟩ := hv
  have hl := lv_entry avs (n := maxL) hn
  rw [lg_entry_eq]
  subst hsz
  have hD := hD0.self (sz := s.heap.size)
  have hlocks := B.notSynchronized
  refine body p e s m below meth c _ (va_A (w g f) s.heap.size) s.heap ⟨B.exec, B.bytes, hml, findClass_of_methodNamed B.named, atoms_spec (ws := ws) B.pre⟩ ?_ _ _ _ hl ⟨hK, hP, hD, va_S.rf, fun q h => Or.inr h⟩
  intro pc ls H locs hdg hC
  exact W.iret (v := u.1) B.exec B.bytes B.returns (fun t ht hW => ⟨⟨u.1, (), rfl, rfl, by rw [ht]; exact hC.2.1, va_K.moved hW.alike hC.1, hC.2.2.1⟩, hC.2.2.2.1.F ht⟩) hC.2.2.2.1.2.2 hdg
theorem mk_z {u : Int32 × sG × sF} (hy : plainName y.cls = true) (hw : ws = Cond.code y cc maxL (some .boolean) :: ws') (hn : (lg_sl avs).length ≤ maxL)
    (body : ∀ (p : Program) (e : Env) (s : State) (m : MethodId) (below : List Frame) (meth : Method) (c : Code) (Q : State → Prop) (A : Nat → Prop) (H0 : Heap), CallFix p m c cc maxL s avs.toArray ws y.cls → mRz p l e rm s m avs.toArray below meth c Q D tys w A H0 cc u → ∀ (ls : Array Slot) (H : Heap) (locs : List Loc), lv_has ls maxL (lv_args 0 avs) → wH D tys w A H0 s g f H locs → W p l e rm s m avs.toArray below meth c H locs 0 0 Q (F0 m 0 ls [])) :
    mMi l y ws rm D tys w avs g f u := by
  intro sz
  refine Met.ofW (cc := cc) (maxL := maxL) (ret := some .boolean) hy hw ?_
  intro p e s m args below meth c s₁ B hml hv
  obtain ⟨rfl, hsz, hP, hK, hD0⟩ := hv
  have hl := lv_entry avs (n := maxL) hn
  rw [lg_entry_eq]
  subst hsz
  have hD := hD0.self (sz := s.heap.size)
  have hlocks := B.notSynchronized
  refine body p e s m below meth c _ (va_A (w g f) s.heap.size) s.heap ⟨B.exec, B.bytes, hml, findClass_of_methodNamed B.named, atoms_spec (ws := ws) B.pre⟩ ?_ _ _ _ hl ⟨hK, hP, hD, va_S.rf, fun q h => Or.inr h⟩
  intro pc ls H locs hdg hz hC
  exact W.zret (v := u.1) B.exec B.bytes B.returns (bo_nar hz) (fun t ht hW => ⟨⟨u.1, (), rfl, rfl, by rw [ht]; exact hC.2.1, va_K.moved hW.alike hC.1, hC.2.2.1⟩, hC.2.2.2.1.F ht⟩) hC.2.2.2.1.2.2 hdg
theorem mk_v {u : sG × sF} (hy : plainName y.cls = true) (hw : ws = Cond.code y cc maxL none :: ws') (hn : (lg_sl avs).length ≤ maxL)
    (body : ∀ (p : Program) (e : Env) (s : State) (m : MethodId) (below : List Frame) (meth : Method) (c : Code) (Q : State → Prop) (A : Nat → Prop) (H0 : Heap), CallFix p m c cc maxL s avs.toArray ws y.cls → mRv p l e rm s m avs.toArray below meth c Q D tys w A H0 cc u → ∀ (ls : Array Slot) (H : Heap) (locs : List Loc), lv_has ls maxL (lv_args 0 avs) → wH D tys w A H0 s g f H locs → W p l e rm s m avs.toArray below meth c H locs 0 0 Q (F0 m 0 ls [])) :
    mMv l y ws rm D tys w avs g f u := by
  intro sz
  refine Met.ofW (cc := cc) (maxL := maxL) (ret := none) hy hw ?_
  intro p e s m args below meth c s₁ B hml hv
  obtain ⟨rfl, hsz, hP, hK, hD0⟩ := hv
  have hl := lv_entry avs (n := maxL) hn
  rw [lg_entry_eq]
  subst hsz
  have hD := hD0.self (sz := s.heap.size)
  have hlocks := B.notSynchronized
  refine body p e s m below meth c _ (va_A (w g f) s.heap.size) s.heap ⟨B.exec, B.bytes, hml, findClass_of_methodNamed B.named, atoms_spec (ws := ws) B.pre⟩ ?_ _ _ _ hl ⟨hK, hP, hD, va_S.rf, fun q h => Or.inr h⟩
  intro pc ls H locs hdg hC
  exact W.vret B.exec B.bytes B.returns (fun t ht hW => ⟨⟨(), rfl, trivial, by rw [ht]; exact hC.2.1, va_K.moved hW.alike hC.1, hC.2.2.1⟩, hC.2.2.2.1.F ht⟩) hC.2.2.2.1.2.2 hdg
end BM
