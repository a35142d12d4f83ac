section WX
variable {m nk cp ev : Nat} {op wt sz pt : Nat → Nat} {bd : Nat → Int} {g : sG} {f : sF}
theorem ways50 (hB : Base m nk cp ev op wt sz pt bd) (hM : Mb m nk cp ev op wt sz pt bd g f) {e : Nat} (he : e < ev) (h7 : g 7 = I 0) :
    ∃ g' f', itr (fun K z => p_M_findWays_L50 K z.1 z.2.1 z.2.2.1 z.2.2.2.1 z.2.2.2.2.1 z.2.2.2.2.2) FUEL (I e, I (sz e), I ((m ^ sz e : Nat) : Int), I 0, g, f) = some (g', f') ∧ WS m (sz e) nk cp op (eP pt e) (eB bd e) (m ^ sz e) g' f' ∧ (∀ x, x ≠ 7 → g' x = g x) ∧ (∀ j, j ≠ 10 → j ≠ 11 → f' j = f j) := by
  have hs := hB.2.2.2.1 e he
  have hp := pow_2401 (m := m) (k := sz e) hB.1.1 hs.2
  refine itr_R (fun c z => ∃ g' f', z = (I e, I (sz e), I ((m ^ sz e : Nat) : Int), I c, g', f') ∧ WS m (sz e) nk cp op (eP pt e) (eB bd e) c g' f' ∧ (∀ x, x ≠ 7 → g' x = g x) ∧ (∀ j, j ≠ 10 → j ≠ 11 → f' j = f j)) (m ^ sz e) (fun o => ∃ g' f', o = some (g', f') ∧ WS m (sz e) nk cp op (eP pt e) (eB bd e) (m ^ sz e) g' f' ∧ (∀ x, x ≠ 7 → g' x = g x) ∧ (∀ j, j ≠ 10 → j ≠ 11 → f' j = f j)) ?_ (by omega) ?_ ?_
  · have e0 : gl m (sz e) nk cp op (eP pt e) (eB bd e) 0 0 = [] := gl_nil (fun c a b => by omega)
    refine ⟨g, f, rfl, ⟨?_, fun w hw => ?_⟩, fun _ _ => rfl, fun _ _ _ => rfl⟩
    · rw [e0]; exact h7
    · rw [e0] at hw; exact absurd hw (Nat.not_lt_zero w)
  · intro K c z hc ⟨g', f', ez, hW, hg, hf⟩
    subst ez
    left
    have hm0 : 0 < m := by
      rcases Nat.eq_zero_or_pos m with z | z
      · subst z
        rw [Nat.zero_pow (by omega)] at hc
        omega
      · exact z
    have hM' : Mb m nk cp ev op wt sz pt bd g' f' := hM.fr (fun x hx => hg x (by omega)) (fun j hj => hf j (by omega) (by omega))
    obtain ⟨g2, f2, ev2, hW2, hg2, hf2⟩ := ways71 hB hM' he hm0 hc hW K (I ((m ^ sz e : Nat) : Int))
    refine ⟨_, ?_, g2, f2, rfl, hW2, fun x hx => by rw [hg2 x hx, hg x hx], fun j a b => by rw [hf2 j a b, hf j a b]⟩
    dsimp only
    unfold p_M_findWays_L50
    rw [if_neg (by rw [I_le (by omega) (by omega) (by omega) (by omega)]; omega)]
    simp only [lt_, l_0, l_1, l_2, l_3, l_4, l_5, l_6, l_7, l_9, l_10, l_20, l_24, l_25, l_31, l_40, l_45, l_48, l_57, l_99, l_123, l_124, l_127, l_2000, l_far, l_999999, I_sub]
    exact ev2
  · intro K z ⟨g', f', ez, hW, hg, hf⟩
    subst ez
    dsimp only
    unfold p_M_findWays_L50
    rw [if_pos (Int32.le_refl _)]
    exact ⟨g', f', rfl, hW, hg, hf⟩
theorem ways23 (hB : Base m nk cp ev op wt sz pt bd) (hM : Mb m nk cp ev op wt sz pt bd g f) {e : Nat} (he : e < ev) (a0 : Nat) (h0 : a0 * m ^ sz e = m ^ sz e) (ha : a0 ≤ 1) :
    ∃ g' f', itr (fun K z => p_M_findWays_L23 K z.1 z.2.1 z.2.2.1 z.2.2.2.1 z.2.2.2.2.1 z.2.2.2.2.2) FUEL (I e, I (sz e), I a0, I 0, g, f) = some (g', f') ∧ WS m (sz e) nk cp op (eP pt e) (eB bd e) (m ^ sz e) g' f' ∧ (∀ x, x ≠ 7 → g' x = g x) ∧ (∀ j, j ≠ 10 → j ≠ 11 → f' j = f j) := by
  have hs := hB.2.2.2.1 e he
  refine itr_R (fun i z => z = (I e, I (sz e), I ((a0 * m ^ i : Nat) : Int), I i, g, f)) (sz e) (fun o => ∃ g' f', o = some (g', f') ∧ WS m (sz e) nk cp op (eP pt e) (eB bd e) (m ^ sz e) g' f' ∧ (∀ x, x ≠ 7 → g' x = g x) ∧ (∀ j, j ≠ 10 → j ≠ 11 → f' j = f j)) (by rw [Nat.pow_zero, Nat.mul_one]; rfl) (by omega) ?_ ?_
  · intro K i z hi ez
    subst ez
    left
    refine ⟨_, ?_, rfl⟩
    have ei : (i : Int) + 1 = ((i + 1 : Nat) : Int) := by omega
    have em : ((a0 * m ^ i : Nat) : Int) * (m : Int) = ((a0 * m ^ (i + 1) : Nat) : Int) := by
      rw [Nat.pow_succ, ← Nat.mul_assoc]
      exact (Int.natCast_mul _ _).symm
    dsimp only
    unfold p_M_findWays_L23
    rw [if_neg (by rw [I_le (by omega) (by omega) (by omega) (by omega)]; omega), hM.1.1]
    simp only [lt_, l_0, l_1, l_2, l_3, l_4, l_5, l_6, l_7, l_9, l_10, l_20, l_24, l_25, l_31, l_40, l_45, l_48, l_57, l_99, l_123, l_124, l_127, l_2000, l_far, l_999999, I_mul, I_add, em, ei]
  · intro K z ez
    subst ez
    dsimp only
    unfold p_M_findWays_L23
    rw [if_pos (Int32.le_refl _)]
    simp only [lt_, l_0, l_1, l_2, l_3, l_4, l_5, l_6, l_7, l_9, l_10, l_20, l_24, l_25, l_31, l_40, l_45, l_48, l_57, l_99, l_123, l_124, l_127, l_2000, l_far, l_999999]
    rw [h0]
    obtain ⟨g', f', ev', hW, hg, hf⟩ := ways50 (g := upd g 7 (I 0)) hB (hM.fr (fun x hx => upd_n _ _ (by omega)) (fun _ _ => rfl)) he (upd_s _ _ _)
    exact ⟨g', f', ev', hW, fun x hx => by rw [hg x hx, upd_n _ _ hx], hf⟩
theorem findWays_v (hB : Base m nk cp ev op wt sz pt bd) (hM : Mb m nk cp ev op wt sz pt bd g f) {e : Nat} (he : e < ev) :
    ∃ g' f', p_M_findWays (I e) g f = some (g', f') ∧ WS m (sz e) nk cp op (eP pt e) (eB bd e) (m ^ sz e) g' f' ∧ (∀ x, x ≠ 7 → g' x = g x) ∧ (∀ j, j ≠ 10 → j ≠ 11 → f' j = f j) := by
  have hs := hB.2.2.2.1 e he
  have hv := hB.1.2.2.2.2
  have hm := hB.1.1
  unfold p_M_findWays
  simp (disch := omega) only [l_0, l_1, l_2, l_3, l_4, l_5, l_6, l_7, l_9, l_10, l_20, l_24, l_25, l_31, l_40, l_45, l_48, l_57, l_99, l_123, l_124, l_127, l_2000, l_far, l_999999, I_lt, I_nat, tn_n, gdG, lt_, hM.2.2.2.1 e he, hM.1.1, I_eq]
  by_cases h : (m : Int) = 0
  · rw [if_pos h]
    have h' : m = 0 := by omega
    refine ways23 hB hM he 0 ?_ (by omega)
    rw [h', Nat.zero_mul, Nat.zero_pow (by omega)]
  · rw [if_neg h]
    exact ways23 hB hM he 1 (Nat.one_mul _) (by omega)
/-- the codes of all ways -/
noncomputable def WC (m nk cp : Nat) (op sz pt : Nat → Nat) (bd : Nat → Int) (e : Nat) : List Nat := gl m (sz e) nk cp op (eP pt e) (eB bd e) 0 (m ^ sz e)
theorem WC_len {e : Nat} (hB : Base m nk cp ev op wt sz pt bd) (he : e < ev) : (WC m nk cp op sz pt bd e).length ≤ 840 := gl_840 hB.1.1 (hB.2.2.2.1 e he).2 (Nat.le_refl _)
theorem WC_fr {e w : Nat} (hw : w < (WC m nk cp op sz pt bd e).length) {i : Nat} (hi : i < sz e) : (cp : Int) ≤ frw m nk cp op (eP pt e) (sz e) ((WC m nk cp op sz pt bd e).getD w 0) i ∧ frw m nk cp op (eP pt e) (sz e) ((WC m nk cp op sz pt bd e).getD w 0) i ≤ nk := by
  have : (WC m nk cp op sz pt bd e).getD w 0 ∈ WC m nk cp op sz pt bd e := by
    rw [List.getD_eq_getElem?_getD, List.getElem?_eq_getElem hw]
    exact List.getElem_mem hw
  exact good_fr (gl_mem this).2.2 hi
theorem isGrip_v (hB : Base m nk cp ev op wt sz pt bd) (hM : Mb m nk cp ev op wt sz pt bd g f) {e : Nat} (he : e < ev) (hW : WS m (sz e) nk cp op (eP pt e) (eB bd e) (m ^ sz e) g f) {w p : Nat} (hw : w < (WC m nk cp op sz pt bd e).length) (hp1 : cp < p) (hp2 : p ≤ nk) :
    p_M_isGrip (I e) (I w) (I p) g f = some (if cb (isGr cp nk (sz e) (frw m nk cp op (eP pt e) (sz e) ((WC m nk cp op sz pt bd e).getD w 0)) p) = true then I 1 else I 0) := by
  obtain ⟨⟨b0, b1, b2, b3, b4⟩, bO, bW, bS, bP⟩ := id hB
  have hs := bS e he
  have hl := WC_len hB he
  unfold p_M_isGrip
  refine itr_R (fun i z => ∃ y : Int32, z = (I e, I w, I p, y, I i) ∧ ((y = I 1 ∧ ∀ j, j < i → frw m nk cp op (eP pt e) (sz e) ((WC m nk cp op sz pt bd e).getD w 0) j = cp ∨ ((p : Int) ≤ frw m nk cp op (eP pt e) (sz e) ((WC m nk cp op sz pt bd e).getD w 0) j ∧ frw m nk cp op (eP pt e) (sz e) ((WC m nk cp op sz pt bd e).getD w 0) j ≤ (p : Int) + 3)) ∨ (y = I 0 ∧ ¬ isGr cp nk (sz e) (frw m nk cp op (eP pt e) (sz e) ((WC m nk cp op sz pt bd e).getD w 0)) p))) (sz e)
    (fun o => o = some (if cb (isGr cp nk (sz e) (frw m nk cp op (eP pt e) (sz e) ((WC m nk cp op sz pt bd e).getD w 0)) p) = true then I 1 else I 0)) ⟨I 1, rfl, Or.inl ⟨rfl, fun j hj => by omega⟩⟩ (by omega) ?_ ?_
  · intro K i z hi ⟨y, ez, hy⟩
    subst ez
    left
    have fb := WC_fr hw hi
    have fv : f 11 (4 * w + i) = I (frw m nk cp op (eP pt e) (sz e) ((WC m nk cp op sz pt bd e).getD w 0) i) := (hW.2 w hw i hi).2
    have ei : (i : Int) + 1 = ((i + 1 : Nat) : Int) := by omega
    generalize hφ : frw m nk cp op (eP pt e) (sz e) ((WC m nk cp op sz pt bd e).getD w 0) = φ at *
    dsimp only
    unfold p_M_isGrip_L6
    rcases hy with ⟨rfl, hg⟩ | ⟨rfl, hg⟩
    · simp (disch := omega) only [l_0, l_1, l_2, l_3, l_4, l_5, l_6, l_7, l_9, l_10, l_20, l_24, l_25, l_31, l_40, l_45, l_48, l_57, l_99, l_123, l_124, l_127, l_2000, l_far, l_999999, I_lt, I_le, I_nat, tn_n, gdG, hM.2.2.2.1 e he, I_mul, I_add, tn_4, fv, lt_, hM.1.2.2.1, I_eq, ei, within_v, Option.bind_some, if01, ite_not, reduceIte, Int.reduceNeg, Int.reduceEq, Int.reduceLT, Int.reduceLE, Int.reduceAdd, Int.reduceSub, Int.reduceMul, Int.reduceToNat]
      rw [if_neg (by omega)]
      by_cases q1 : φ i = cp
      · rw [if_pos q1]
        refine ⟨_, rfl, _, rfl, Or.inl ⟨rfl, fun j hj => ?_⟩⟩
        by_cases q : j = i
        · subst q; exact Or.inl q1
        · exact hg j (by omega)
      · rw [if_neg q1]
        by_cases q2 : (p : Int) ≤ φ i ∧ φ i ≤ (p : Int) + 3
        · rw [if_pos q2]
          refine ⟨_, rfl, _, rfl, Or.inl ⟨rfl, fun j hj => ?_⟩⟩
          by_cases q : j = i
          · subst q; exact Or.inr q2
          · exact hg j (by omega)
        · rw [if_neg q2]
          exact ⟨_, rfl, _, rfl, Or.inr ⟨rfl, fun z => (z.2.2 i hi).elim q1 q2⟩⟩
    · simp (disch := omega) only [l_0, l_1, l_2, l_3, l_4, l_5, l_6, l_7, l_9, l_10, l_20, l_24, l_25, l_31, l_40, l_45, l_48, l_57, l_99, l_123, l_124, l_127, l_2000, l_far, l_999999, I_lt, I_le, I_nat, tn_n, gdG, hM.2.2.2.1 e he, I_mul, I_add, tn_4, fv, lt_, I_eq, ei, reduceIte, Int.reduceNeg, Int.reduceEq, Int.reduceLT, Int.reduceLE, Int.reduceAdd, Int.reduceSub, Int.reduceMul, Int.reduceToNat]
      rw [if_neg (by omega)]
      exact ⟨_, rfl, _, rfl, Or.inr ⟨rfl, hg⟩⟩
  · intro K z ⟨y, ez, hy⟩
    subst ez
    dsimp only
    unfold p_M_isGrip_L6
    simp (disch := omega) only [l_0, l_1, l_2, l_3, l_4, l_5, l_6, l_7, l_9, l_10, l_20, l_24, l_25, l_31, l_40, l_45, l_48, l_57, l_99, l_123, l_124, l_127, l_2000, l_far, l_999999, I_lt, I_nat, tn_n, gdG, hM.2.2.2.1 e he]
    rw [if_pos (Int32.le_refl _)]
    rcases hy with ⟨rfl, hg⟩ | ⟨rfl, hg⟩
    · rw [if_pos (cb_t.mpr ⟨hp1, hp2, hg⟩)]
      exact bz (Or.inr rfl)
    · rw [if_neg (fun z => hg (cb_t.mp z))]
      exact bz (Or.inl rfl)
theorem costOf_v (hB : Base m nk cp ev op wt sz pt bd) (hM : Mb m nk cp ev op wt sz pt bd g f) {e : Nat} (he : e < ev) (hW : WS m (sz e) nk cp op (eP pt e) (eB bd e) (m ^ sz e) g f) {w p : Nat} (hw : w < (WC m nk cp op sz pt bd e).length) (hp1 : cp < p) (hp2 : p ≤ nk) :
    p_M_costOf (I e) (I w) (I p) g f = some (I (GC m nk cp op wt sz pt e p ((WC m nk cp op sz pt bd e).getD w 0))) := by
  obtain ⟨⟨b0, b1, b2, b3, b4⟩, bO, bW, bS, bP⟩ := id hB
  have hs := bS e he
  have hl := WC_len hB he
  have w1 : f 1 (1 : Int32).toNatClampNeg = I (wt 1) := hM.2.2.1 1 (by omega)
  have w2 : f 1 (2 : Int32).toNatClampNeg = I (wt 2) := hM.2.2.1 2 (by omega)
  have w3 : f 1 (3 : Int32).toNatClampNeg = I (wt 3) := hM.2.2.1 3 (by omega)
  unfold p_M_costOf GC CS csf
  refine itr_R (fun i z => z = (I e, I w, I p, I (sm (fun i => if frw m nk cp op (eP pt e) (sz e) ((WC m nk cp op sz pt bd e).getD w 0) i = cp then (wt 3 : Int) else wt 1 * (frw m nk cp op (eP pt e) (sz e) ((WC m nk cp op sz pt bd e).getD w 0) i - cp) + (if frw m nk cp op (eP pt e) (sz e) ((WC m nk cp op sz pt bd e).getD w 0) i = (p : Int) + 3 then (wt 2 : Int) else 0)) i), I i)) (sz e) (fun o => o = some (I (sm (fun i => if frw m nk cp op (eP pt e) (sz e) ((WC m nk cp op sz pt bd e).getD w 0) i = cp then (wt 3 : Int) else wt 1 * (frw m nk cp op (eP pt e) (sz e) ((WC m nk cp op sz pt bd e).getD w 0) i - cp) + (if frw m nk cp op (eP pt e) (sz e) ((WC m nk cp op sz pt bd e).getD w 0) i = (p : Int) + 3 then (wt 2 : Int) else 0)) (sz e)))) rfl (by omega) ?_ ?_
  · intro K i z hi ez
    subst ez
    left
    have fb := WC_fr hw hi
    have fv : f 11 (4 * w + i) = I (frw m nk cp op (eP pt e) (sz e) ((WC m nk cp op sz pt bd e).getD w 0) i) := (hW.2 w hw i hi).2
    have ei : (i : Int) + 1 = ((i + 1 : Nat) : Int) := by omega
    refine ⟨_, ?_, rfl⟩
    dsimp only [sm]
    generalize frw m nk cp op (eP pt e) (sz e) ((WC m nk cp op sz pt bd e).getD w 0) = φ at *
    unfold p_M_costOf_L6
    rw [w1, w2, w3, hM.1.2.2.1]
    simp (disch := omega) only [l_0, l_1, l_2, l_3, l_4, l_5, l_6, l_7, l_9, l_10, l_20, l_24, l_25, l_31, l_40, l_45, l_48, l_57, l_99, l_123, l_124, l_127, l_2000, l_far, l_999999, I_lt, I_le, I_nat, tn_n, gdG, hM.2.2.2.1 e he, I_mul, I_add, I_sub, tn_4, fv, lt_, I_eq, ei]
    rw [if_neg (by omega)]
    by_cases q1 : φ i = cp
    · rw [if_pos q1, if_pos q1]
    · rw [if_neg q1, if_neg q1]
      by_cases q2 : φ i = (p : Int) + 3
      · rw [if_pos q2, if_pos q2]
      · rw [if_neg q2, if_neg q2]
  · intro K z ez
    subst ez
    dsimp only
    unfold p_M_costOf_L6
    simp (disch := omega) only [l_0, l_1, l_2, l_3, l_4, l_5, l_6, l_7, l_9, l_10, l_20, l_24, l_25, l_31, l_40, l_45, l_48, l_57, l_99, l_123, l_124, l_127, l_2000, l_far, l_999999, I_lt, I_nat, tn_n, gdG, hM.2.2.2.1 e he]
    rw [if_pos (Int32.le_refl _)]
end WX
