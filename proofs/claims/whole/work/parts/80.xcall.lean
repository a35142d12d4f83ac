section XC
variable {p : Program} {l : Launch} {e : Env} {R : Room} {s : State} {m : MethodId} {args : Array Value} {below : List Frame} {meth : Method} {c : Code} {H : Heap} {locs : List Loc} {cells slots : Nat} {Q : State → Prop}
variable {D : va_G} {tys tysC : List (ClassId × FieldType)} {w : sG → sF → va_W} {bw : va_W} {A : Nat → Prop} {H0 : Heap} {cc : ByteArray} {pc : Nat} {ls : Array Slot} {rest st0 As fs : List Value} {nL : Nat} {c0 : Cond} {own : String} {g : sG} {f : sF}
variable {y : MethodName} {bytes : ByteArray} {maxL n index ad ci : Nat} {ret : Option FieldType} {ws' : List Cond} {rm : Room} {qq : vw_C}
/-- a call out of two worlds: the other one stays -/
theorem x_ci {u : Int32 × sG × sF} (Fx : CallFix p m c cc nL s args (c0 :: wU) own) (hC : wX D tys (w g f ++ bw) A H0 s H locs) (hKc : va_K D vwCl tysC s) (hM : mMi l y ws' rm D tysC w (.ref ad :: As) g f u) (cw : CallW R s args own qq.1 index y bytes maxL ret ws' rm 0 0 n) (q0 : Nat) (he : (w g f)[q0]? = some (ad, .inr (ci, fs))) (hc : vwCl[ci]? = some qq) (hn : As.length = n) (hsz : ls.size = nL) (hst : st0 = As.reverse ++ .ref ad :: rest) (hroom : (rest.map fun v => v.category).sum ≤ 8) (hdg : decode cc pc = .ok (.invokevirtual index, 3)) (hf : cells ≤ R.cells ∧ slots ≤ R.slots)
    (kk : ∀ (H : Heap) (locs : List Loc), wX D tys (bw ++ w u.2.1 u.2.2) A H0 s H locs → W p l e R s m args below meth c H locs cells slots Q (F0 m (pc + 3) ls (.int u.1 :: rest))) : W p l e R s m args below meth c H locs cells slots Q (F0 m pc ls st0) := by
  subst hst
  have hsub : ∀ q : Nat, va_A (w g f) H.size q → A q := by
    intro q hq
    rcases hq with ⟨k, e, hk⟩ | hq
    · exact (xD_l hC.2.2.1).2 k _ hk
    · exact hC.2.2.2.2 q (Nat.le_trans hC.2.2.2.1.1 hq)
  refine va_calli (va_runV (As := As) (rest := rest) Fx (hM H.size) cw ⟨mPre_blind, va_recv hKc (xP_l hC.2.1) hc he, fun U hU hW => ⟨rfl, by rw [hU], by rw [hU]; exact xP_l hC.2.1, va_K.moved hW.alike hKc, (xD_l hC.2.2.1).weaken (fun _ _ _ _ => trivial)⟩⟩ rfl hn hsz rfl (lv_room hroom) hdg ⟨hf.1, hf.2⟩) hC.2.2.2.1 (fun q _ h => hsub q h) hsub (fun r u' t H1 locs1 ht hvm hw hB hz1 hk1 hS => ?_)
  subst hw
  obtain ⟨hP1, hK1, hD1⟩ := hB
  rw [ht] at hP1
  obtain ⟨hP, hD⟩ := xjoin hC.2.1 hC.2.2.1 hk1 hsub hP1 hD1
  exact kk H1 locs1 ⟨hC.1, hP, hD, hS, hC.2.2.2.2⟩
end XC
