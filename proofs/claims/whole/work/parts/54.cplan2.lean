section CP2
variable {m nk cp ev : Nat} {op wt sz pt : Nat → Nat} {bd : Nat → Int} {g : sG} {f : sF}
theorem cR_vv {e p : Nat} : (if e < ev then tS (cp + 1) (vv m nk cp ev op wt sz pt bd e (p : Int)) (nk - cp) else some (0, 1)) = if e ≤ ev then cR m nk cp ev op wt sz pt bd e p else some (0, 1) := by
  by_cases h : e < ev
  · rw [if_pos h, if_pos (by omega)]
    unfold cR
    rw [Rt_e h]
    refine tS_congr (fun q _ _ => ?_)
    unfold vv
    rw [if_neg (by omega), Int.toNat_natCast]
    rfl
  · rw [if_neg h]
    by_cases h2 : e = ev
    · subst h2
      rw [if_pos (Nat.le_refl _)]
      exact Rt_end.symm
    · rw [if_neg (by omega)]
theorem fillCell_v (hB : Base m nk cp ev op wt sz pt bd) (hC : Cb m nk cp ev op wt sz pt bd g f) {e p : Nat} (he : e < ev) (hp : p < 25) (hT : TS (GC m nk cp op wt sz pt e) (roww m (sz e)) (GL m nk cp op sz pt bd e) g f) (hS : e + 1 < ev → SC m nk cp ev op wt sz pt bd (e + 1) f) :
    ∃ g' f', p_Pr_fillCell (I e) (I p) g f = some (g', f') ∧ (f' 17 (25 * e + p) = I (esum (cB m nk cp ev op wt sz pt bd e p)) ∧ (cB m nk cp ev op wt sz pt bd e p ≠ none → f' 18 (25 * e + p) = I (ecnt (cB m nk cp ev op wt sz pt bd e p)))) ∧ (∀ x, x ≠ 10 → x ≠ 11 → g' x = g x) ∧ (∀ j, j ≠ 17 → j ≠ 18 → f' j = f j) ∧ (∀ q, q ≠ 25 * e + p → f' 17 q = f 17 q ∧ f' 18 q = f 18 q) := by
  have b4 := hB.1.2.2.2.2
  have gl := GL_len (p := p) hB he
  obtain ⟨t9, t10, -⟩ := hT p hp
  rw [lst_len] at t9 t10
  unfold p_Pr_fillCell
  rw [isCell_v (by omega) hp, Option.bind_some, if_neg (by decide)]
  have e1 : (e : Int) + 1 = ((e + 1 : Nat) : Int) := by omega
  have q9 : up2 f 17 (25 * e + p) (I (-1)) 9 p = I (GL m nk cp op sz pt bd e p).length := by rw [up2_n _ _ _ (by omega)]; exact t9
  simp (disch := omega) only [l_0, l_1, l_2, l_3, l_4, l_5, l_6, l_7, l_9, l_10, l_20, l_24, l_25, l_31, l_40, l_45, l_48, l_57, l_99, l_123, l_124, l_127, l_2000, l_far, l_999999, I_neg, I_mul, I_add, lt_, I_lt, I_nat, tn_25, tn_n, gdG, q9, I_eq, e1]
  have hcB : cB m nk cp ev op wt sz pt bd e p = tmul (DD m nk cp op wt sz pt bd e p) (cR m nk cp ev op wt sz pt bd (e + 1) p) := rfl
  by_cases hl : ((GL m nk cp op sz pt bd e p).length : Int) = 0
  · rw [if_pos hl]
    have hD : DD m nk cp op wt sz pt bd e p = none := by unfold DD; rw [if_pos (by omega)]
    have hn : cB m nk cp ev op wt sz pt bd e p = none := by rw [hcB, hD]; rfl
    refine ⟨_, _, rfl, ⟨by rw [up2_s, upd_s, hn]; rfl, fun z => absurd hn z⟩, fun _ _ _ => rfl, fun j a b => up2_n _ _ _ a, fun q hq => ⟨by rw [up2_s, upd_n _ _ hq], by rw [up2_n _ _ _ (by omega)]⟩⟩
  · rw [if_neg hl]
    obtain ⟨u10, u11, -, -⟩ := t10 (by omega)
    have hD : DD m nk cp op wt sz pt bd e p = some ((lst (GC m nk cp op wt sz pt e p) (GL m nk cp op sz pt bd e p)).2.1, (lst (GC m nk cp op wt sz pt e p) (GL m nk cp op sz pt bd e p)).2.2.1) := by unfold DD; rw [if_neg (by omega)]
    obtain ⟨d1, d2, d3⟩ := DD_bd hB he hD
    generalize (lst (GC m nk cp op wt sz pt e p) (GL m nk cp op sz pt bd e p)) = S at *
    have hC2 : Cb m nk cp ev op wt sz pt bd g (up2 f 17 (25 * e + p) (I (-1))) := hC.fr (fun _ _ => rfl) (fun j hj => up2_n _ _ _ (by omega))
    have hS2 : e + 1 < ev → SC m nk cp ev op wt sz pt bd (e + 1) (up2 f 17 (25 * e + p) (I (-1))) := fun h q hq => by
      rw [up2_s, upd_n _ _ (by omega), up2_n _ _ _ (by omega)]
      exact hS h q hq
    obtain ⟨g', ev1, ⟨en0, en1⟩, fg⟩ := weighRest_v (e := e + 1) (b := (p : Int)) hB hC2 (by omega) hS2 (by omega) (by omega)
    rw [cR_vv, if_pos (show e + 1 ≤ ev by omega)] at en0 en1
    rw [ev1, Option.bind_some]
    simp only [en0]
    cases hR : cR m nk cp ev op wt sz pt bd (e + 1) p with
    | none =>
      have hn : cB m nk cp ev op wt sz pt bd e p = none := by rw [hcB, hR, tmul_n]
      rw [if_pos (show I (esum none) = I (-1) from rfl)]
      refine ⟨_, _, rfl, ⟨by rw [up2_s, upd_s, hn]; rfl, fun z => absurd hn z⟩, fg, fun j a b => up2_n _ _ _ a, fun q hq => ⟨by rw [up2_s, upd_n _ _ hq], by rw [up2_n _ _ _ (by omega)]⟩⟩
    | some r =>
      have rb := cR_bd hB (show p ≤ 24 by omega) hR
      have hb : cB m nk cp ev op wt sz pt bd e p = some (S.2.1 + r.1, S.2.2.1 * r.2) := by rw [hcB, hR, hD]; rfl
      rw [hR] at en1
      rw [show esum (some r) = r.1 from rfl, if_neg (by rw [I_eq (by omega) (by omega) (by omega) (by omega)]; omega)]
      have k10 : up2 f 17 (25 * e + p) (I (-1)) 10 p = I S.2.1 := by rw [up2_n _ _ _ (by omega)]; exact u10
      have k11 : ∀ y, up2 (up2 f 17 (25 * e + p) (I (-1))) 17 (25 * e + p) y 11 p = I S.2.2.1 := fun y => by rw [up2_n _ _ _ (by omega), up2_n _ _ _ (by omega)]; exact u11
      rw [k10, k11, en1, show ecnt (some r) = ((min r.2 999999 : Nat) : Int) from rfl]
      have mr : min r.2 999999 ≤ 999999 := by omega
      have cm := cap_mul S.2.2.1 r.2
      generalize min r.2 999999 = mm at *
      have hprod : S.2.2.1 * mm ≤ 2401 * 999999 := Nat.mul_le_mul d3 mr
      rw [I_64 (by omega) (by omega), I_64 (by omega) (by omega), J_mul, show ((S.2.2.1 : Int) * (mm : Int)) = ((S.2.2.1 * mm : Nat) : Int) from (Int.natCast_mul _ _).symm, ties_v (by omega), Option.bind_some, I_add]
      refine ⟨_, _, rfl, ⟨?_, fun _ => ?_⟩, fg, fun j a b => by rw [up2_n _ _ _ b, up2_n _ _ _ a, up2_n _ _ _ a], fun q hq => ⟨?_, ?_⟩⟩
      · rw [up2_n _ _ _ (by omega), up2_s, upd_s, hb]; rfl
      · rw [up2_s, upd_s, hb, cm]; rfl
      · rw [up2_n _ _ _ (by omega), up2_s, upd_n _ _ hq, up2_s, upd_n _ _ hq]
      · rw [up2_s, upd_n _ _ hq, up2_n _ _ _ (by omega), up2_n _ _ _ (by omega)]
theorem search24 (hB : Base m nk cp ev op wt sz pt bd) (hC : Cb m nk cp ev op wt sz pt bd g f) {e : Nat} (he : e < ev) (hT : TS (GC m nk cp op wt sz pt e) (roww m (sz e)) (GL m nk cp op sz pt bd e) g f) (hS : ∀ e', e < e' → e' < ev → SC m nk cp ev op wt sz pt bd e' f) (K10 : (Int32 × sG × sF) → Option (sG × sF)) :
    ∃ g' f', itr (fun K z => p_Pr_search_L24 K10 K z.1 z.2.1 z.2.2.1 z.2.2.2) FUEL (I e, I 0, g, f) = K10 (I ((e : Int) - 1), g', f') ∧ (∀ e', e ≤ e' → e' < ev → SC m nk cp ev op wt sz pt bd e' f') ∧ (∀ x, x ≠ 10 → x ≠ 11 → g' x = g x) ∧ (∀ j, j ≠ 17 → j ≠ 18 → f' j = f j) := by
  refine itr_R (fun t z => ∃ g' f', z = (I e, I t, g', f') ∧ (∀ p, p < t → f' 17 (25 * e + p) = I (esum (cB m nk cp ev op wt sz pt bd e p)) ∧ (cB m nk cp ev op wt sz pt bd e p ≠ none → f' 18 (25 * e + p) = I (ecnt (cB m nk cp ev op wt sz pt bd e p)))) ∧ (∀ e', e < e' → e' < ev → SC m nk cp ev op wt sz pt bd e' f') ∧ (∀ x, x ≠ 10 → x ≠ 11 → g' x = g x) ∧ (∀ j, j ≠ 17 → j ≠ 18 → f' j = f j)) 25
    (fun o => ∃ g' f', o = K10 (I ((e : Int) - 1), g', f') ∧ (∀ e', e ≤ e' → e' < ev → SC m nk cp ev op wt sz pt bd e' f') ∧ (∀ x, x ≠ 10 → x ≠ 11 → g' x = g x) ∧ (∀ j, j ≠ 17 → j ≠ 18 → f' j = f j)) ⟨g, f, rfl, fun p hp => by omega, hS, fun _ _ _ => rfl, fun _ _ _ => rfl⟩ (by omega) ?_ ?_
  · intro K t z ht ⟨g', f', ez, h1, h2, h3, h4⟩
    subst ez
    left
    have hC' : Cb m nk cp ev op wt sz pt bd g' f' := hC.fr (fun x hx => h3 x (by omega) (by omega)) (fun j hj => h4 j (by omega) (by omega))
    have hT' : TS (GC m nk cp op wt sz pt e) (roww m (sz e)) (GL m nk cp op sz pt bd e) g' f' := fun p hp => by
      have := hT p hp
      unfold TSp at this ⊢
      rw [h4 9 (by omega) (by omega), h4 10 (by omega) (by omega), h4 11 (by omega) (by omega), h4 12 (by omega) (by omega), h4 13 (by omega) (by omega), h3 6 (by omega) (by omega), h3 7 (by omega) (by omega), h3 8 (by omega) (by omega), h3 9 (by omega) (by omega)]
      exact this
    obtain ⟨g2, f2, ev2, a1, a2, a3, a4⟩ := fillCell_v (p := t) hB hC' he ht hT' (fun h => h2 (e + 1) (by omega) h)
    have e1 : (t : Int) + 1 = ((t + 1 : Nat) : Int) := by omega
    refine ⟨(I e, I ((t + 1 : Nat) : Int), g2, f2), ?_, g2, f2, rfl, fun p hp => ?_, fun e' x y q hq => ?_, fun x a b => by rw [a2 x a b, h3 x a b], fun j a b => by rw [a3 j a b, h4 j a b]⟩
    · dsimp only
      unfold p_Pr_search_L24
      simp (disch := omega) only [l_0, l_1, l_2, l_3, l_4, l_5, l_6, l_7, l_9, l_10, l_20, l_24, l_25, l_31, l_40, l_45, l_48, l_57, l_99, l_123, l_124, l_127, l_2000, l_far, l_999999, I_le]
      rw [if_neg (by omega), ev2]
      simp only [Option.bind_some, lt_, I_add, e1]
    · by_cases q : p = t
      · subst q; exact a1
      · have := a4 (25 * e + p) (by omega)
        rw [this.1, this.2]
        exact h1 p (by omega)
    · have := a4 (25 * e' + q) (by omega)
      rw [this.1, this.2]
      exact h2 e' x y q hq
  · intro K z ⟨g', f', ez, h1, h2, h3, h4⟩
    subst ez
    dsimp only
    unfold p_Pr_search_L24
    rw [if_pos (by decide)]
    simp only [lt_, l_0, l_1, l_2, l_3, l_4, l_5, l_6, l_7, l_9, l_10, l_20, l_24, l_25, l_31, l_40, l_45, l_48, l_57, l_99, l_123, l_124, l_127, l_2000, l_far, l_999999, I_neg, I_add]
    rw [show (e : Int) + -1 = (e : Int) - 1 by omega]
    refine ⟨g', f', rfl, fun e' x y => ?_, h3, h4⟩
    by_cases q : e' = e
    · subst q; exact h1
    · exact h2 e' (by omega) y
theorem search_v (hB : Base m nk cp ev op wt sz pt bd) (hC : Cb m nk cp ev op wt sz pt bd g f) (hv : 0 < ev) :
    ∃ g' f', p_Pr_search g f = some (g', f') ∧ enc (cT' m nk cp ev op wt sz pt bd) g' ∧ (∀ e, e < ev → SC m nk cp ev op wt sz pt bd e f') ∧ (∀ x, x ≤ 4 ∨ x = 7 ∨ 11 < x → g' x = g x) ∧ (∀ j, j < 9 ∨ 18 < j → f' j = f j) := by
  have b4 := hB.1.2.2.2.2
  unfold p_Pr_search
  rw [hC.1.2.2.2, l_1, I_sub]
  simp only [lt_]
  refine itr_R (fun i z => ∃ g' f', z = (I ((ev : Int) - 1 - i), g', f') ∧ (∀ e, ev - i ≤ e → e < ev → SC m nk cp ev op wt sz pt bd e f') ∧ (∀ x, x ≤ 4 ∨ x = 7 ∨ 11 < x → g' x = g x) ∧ (∀ j, j < 9 ∨ 18 < j → f' j = f j)) ev
    (fun o => ∃ g' f', o = some (g', f') ∧ enc (cT' m nk cp ev op wt sz pt bd) g' ∧ (∀ e, e < ev → SC m nk cp ev op wt sz pt bd e f') ∧ (∀ x, x ≤ 4 ∨ x = 7 ∨ 11 < x → g' x = g x) ∧ (∀ j, j < 9 ∨ 18 < j → f' j = f j)) ⟨g, f, by simp, fun e a b => by omega, fun _ _ => rfl, fun _ _ => rfl⟩ (by omega) ?_ ?_
  · intro K i z hi ⟨g', f', ez, h1, h2, h3⟩
    subst ez
    left
    obtain ⟨e, he⟩ : ∃ e : Nat, e = ev - 1 - i := ⟨_, rfl⟩
    have ee : (ev : Int) - 1 - i = e := by omega
    have hC' : Cb m nk cp ev op wt sz pt bd g' f' := hC.fr (fun x hx => h2 x (by omega)) (fun j hj => h3 j (by omega))
    obtain ⟨g2, f2, ev2, tv, gv, fv⟩ := survey_v (e := e) hB hC' (by omega)
    have hC2 : Cb m nk cp ev op wt sz pt bd g2 f2 := hC'.fr (fun x hx => gv x (by omega) (by omega) (by omega) (by omega)) (fun j hj => fv j (by omega))
    obtain ⟨g3, f3, ev3, s3, gv3, fv3⟩ := search24 hB hC2 (show e < ev by omega) tv (fun e' x y q hq => by rw [fv 17 (by omega), fv 18 (by omega)]; exact h1 e' (by omega) y q hq) K
    refine ⟨(I ((ev : Int) - 1 - ((i + 1 : Nat) : Int)), g3, f3), ?_, g3, f3, rfl, fun e' x y => s3 e' (by omega) y, fun x hx => by rw [gv3 x (by omega) (by omega), gv x (by omega) (by omega) (by omega) (by omega), h2 x hx], fun j hj => by rw [fv3 j (by omega) (by omega), fv j (by omega), h3 j hj]⟩
    dsimp only
    rw [ee]
    unfold p_Pr_search_L10
    rw [if_neg (by rw [l_0, I_lt (by omega) (by omega) (by omega) (by omega)]; omega), ev2, Option.bind_some, l_0, show (ev : Int) - 1 - ((i + 1 : Nat) : Int) = (e : Int) - 1 by omega]
    exact ev3
  · intro K z ⟨g', f', ez, h1, h2, h3⟩
    subst ez
    dsimp only
    rw [show (ev : Int) - 1 - (ev : Int) = -1 by omega]
    unfold p_Pr_search_L10
    rw [if_pos (by decide)]
    have hC' : Cb m nk cp ev op wt sz pt bd g' f' := hC.fr (fun x hx => h2 x (by omega)) (fun j hj => h3 j (by omega))
    obtain ⟨g2, ev2, en, fg⟩ := weighRest_v (e := 0) (b := -1) hB hC' (by omega) (fun _ => h1 0 (by omega) (by omega)) (by omega) (by omega)
    have ev3 : p_Pr_weighRest 0 (-1) g' f' = some (g2, f') := ev2
    rw [ev3, Option.bind_some]
    refine ⟨g2, f', rfl, ?_, fun e he => h1 e (by omega) he, fun x hx => by rw [fg x (by omega) (by omega), h2 x hx], h3⟩
    rw [if_pos hv] at en
    have e0 : tS (cp + 1) (vv m nk cp ev op wt sz pt bd 0 (-1)) (nk - cp) = cT' m nk cp ev op wt sz pt bd := by
      unfold cT' Tt
      refine tS_congr (fun q _ _ => ?_)
      unfold vv
      rw [if_pos rfl]
      rfl
    rw [e0] at en
    exact en
theorem cties_v (hB : Base m nk cp ev op wt sz pt bd) (hC : Cb m nk cp ev op wt sz pt bd g f) (hv : 0 < ev) :
    ∃ g' f', p_FH_ties g f = some (I (ecnt (cT' m nk cp ev op wt sz pt bd)), g', f') ∧ (∀ x, x ≤ 4 ∨ x = 7 ∨ 11 < x → g' x = g x) ∧ (∀ j, j < 9 ∨ 18 < j → f' j = f j) := by
  have b4 := hB.1.2.2.2.2
  obtain ⟨g', f', e1, ⟨n0, n1⟩, -, h2, h3⟩ := search_v hB hC hv
  unfold p_FH_ties
  rw [hC.1.2.2.2, if_neg (by rw [l_0, I_eq (by omega) (by omega) (by omega) (by omega)]; omega), e1, Option.bind_some]
  simp only [n0, n1]
  refine ⟨g', f', ?_, h2, h3⟩
  cases hT : cT' m nk cp ev op wt sz pt bd with
  | none => rfl
  | some t =>
    have tb : 0 ≤ t.1 ∧ t.1 ≤ 101200 := by
      obtain ⟨q, k, q1, q2, hq⟩ := (tS_spec.2 t hT).2
      have b2 := hB.1.2.2.1
      have := cB_bd (a := (t.1, k)) hB hv (show q ≤ 24 by omega) hq
      exact this
    rw [show esum (some t) = t.1 from rfl, if_neg (by rw [l_1, I_neg, I_eq (by omega) (by omega) (by omega) (by omega)]; omega)]
end CP2
