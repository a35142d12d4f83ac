theorem z01_0 : ¬ (¬ (0 : Int32) = 0 ∧ ¬ (0 : Int32) = 1) := fun h => h.1 rfl
theorem z01_1 : ¬ (¬ (1 : Int32) = 0 ∧ ¬ (1 : Int32) = 1) := fun h => h.2 rfl
theorem rmle1 (d : Nat) : 1 ≤ 20 + (d + 1) := by omega
theorem rmle3 (d : Nat) : 8 + (15 + 11) + (400 + 60 * d) ≤ 400 + 60 * (d + 1) := by omega
theorem rmle4 (d : Nat) {X : Nat} (h : X ≤ 20) : X ≤ 20 + (d + 1) := Nat.le_trans h (Nat.le_add_right 20 (d + 1))
theorem rmle5 (d : Nat) {X : Nat} (h : X ≤ 400) : X ≤ 400 + 60 * (d + 1) := Nat.le_trans h (Nat.le_add_right 400 (60 * (d + 1)))
section MM
variable {p : Program} {l : Launch} {e : Env} {R : Room} {s : State} {m : MethodId} {args : Array Value} {below : List Frame} {meth : Method} {c : Code} {H : Heap} {locs : List Loc} {Q : State → Prop}
variable {cc : ByteArray} {pc : Nat} {ls : Array Slot} {rest : List Value} {nL : Nat} {c0 : Cond} {own : String} {index : Nat}
theorem g_mmin (Fx : CallFix p m c cc nL s args (c0 :: wU) own) (hsz : ls.size = nL) (hw : Cond.methodLink own index Lib.Math.min.name ∈ wU) (hfr : 1 ≤ R.frames) (hlo : (rest.map fun v => v.category).sum + 13 ≤ R.locals) {x y : Int32} (hdg : decode cc pc = .ok (.invokestatic index, 3))
    (kk : W p l e R s m args below meth c H locs 0 0 Q (F0 m (pc + 3) ls (.int (if y < x then y else x) :: rest))) : W p l e R s m args below meth c H locs 0 0 Q (F0 m pc ls (.int y :: .int x :: rest)) :=
  va_mmin Fx.1 Fx.2.1 (Fx.2.2.1.trans hsz.symm) Fx.2.2.2.1 (Fx.2.2.2.2 _ (List.mem_cons_of_mem _ hw)) (Fx.2.2.2.2 _ (List.mem_cons_of_mem _ wd_345)) (Fx.2.2.2.2 _ (List.mem_cons_of_mem _ wd_11)) (Fx.2.2.2.2 _ (List.mem_cons_of_mem _ wd_346)) hfr hlo (Nat.zero_le _) (Nat.zero_le _) hdg kk
theorem g_mmax (Fx : CallFix p m c cc nL s args (c0 :: wU) own) (hsz : ls.size = nL) (hw : Cond.methodLink own index Lib.Math.max.name ∈ wU) (hfr : 1 ≤ R.frames) (hlo : (rest.map fun v => v.category).sum + 13 ≤ R.locals) {x y : Int32} (hdg : decode cc pc = .ok (.invokestatic index, 3))
    (kk : W p l e R s m args below meth c H locs 0 0 Q (F0 m (pc + 3) ls (.int (if x < y then y else x) :: rest))) : W p l e R s m args below meth c H locs 0 0 Q (F0 m pc ls (.int y :: .int x :: rest)) :=
  va_mmax Fx.1 Fx.2.1 (Fx.2.2.1.trans hsz.symm) Fx.2.2.2.1 (Fx.2.2.2.2 _ (List.mem_cons_of_mem _ hw)) (Fx.2.2.2.2 _ (List.mem_cons_of_mem _ wd_356)) (Fx.2.2.2.2 _ (List.mem_cons_of_mem _ wd_11)) (Fx.2.2.2.2 _ (List.mem_cons_of_mem _ wd_357)) hfr hlo (Nat.zero_le _) (Nat.zero_le _) hdg kk
theorem g_mabs (Fx : CallFix p m c cc nL s args (c0 :: wU) own) (hsz : ls.size = nL) (hw : Cond.methodLink own index Lib.Math.abs.name ∈ wU) (hfr : 1 ≤ R.frames) (hlo : (rest.map fun v => v.category).sum + 13 ≤ R.locals) {x : Int32} (hdg : decode cc pc = .ok (.invokestatic index, 3))
    (kk : W p l e R s m args below meth c H locs 0 0 Q (F0 m (pc + 3) ls (.int (if 0 ≤ x then x else 0 - x) :: rest))) : W p l e R s m args below meth c H locs 0 0 Q (F0 m pc ls (.int x :: rest)) :=
  va_mabs Fx.1 Fx.2.1 (Fx.2.2.1.trans hsz.symm) Fx.2.2.2.1 (Fx.2.2.2.2 _ (List.mem_cons_of_mem _ hw)) (Fx.2.2.2.2 _ (List.mem_cons_of_mem _ wd_409)) (Fx.2.2.2.2 _ (List.mem_cons_of_mem _ wd_11)) (Fx.2.2.2.2 _ (List.mem_cons_of_mem _ wd_410)) hfr hlo (Nat.zero_le _) (Nat.zero_le _) hdg kk
end MM
