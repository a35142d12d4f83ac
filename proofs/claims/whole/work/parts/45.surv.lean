/-! goThrough, survey, countBelow, findNumber -/
theorem Cb.fr {m nk cp ev : Nat} {op wt sz pt : Nat → Nat} {bd : Nat → Int} {g g' : sG} {f f' : sF} (h : Cb m nk cp ev op wt sz pt bd g f) (hg : ∀ x, x ≤ 3 → g' x = g x) (hf : ∀ j, j ≤ 4 → f' j = f j) : Cb m nk cp ev op wt sz pt bd g' f' := by
  obtain ⟨⟨c0, c1, c2, c3⟩, cO, cW, cS, cP⟩ := h
  refine ⟨⟨by rw [hg 0 (by omega)]; exact c0, by rw [hg 1 (by omega)]; exact c1, by rw [hg 2 (by omega)]; exact c2, by rw [hg 3 (by omega)]; exact c3⟩, fun i hi => by rw [hf 1 (by omega)]; exact cO i hi, fun i hi => by rw [hf 0 (by omega)]; exact cW i hi, fun e he => by rw [hf 2 (by omega)]; exact cS e he, fun e he i hi => by rw [hf 3 (by omega), hf 4 (by omega)]; exact cP e he i hi⟩
def Fr3 (g : sG) (f : sF) (g' : sG) (f' : sF) : Prop := (∀ x, x ≠ 5 → x ≠ 8 → x ≠ 9 → g' x = g x) ∧ (∀ j, j < 9 ∨ 16 < j → f' j = f j)
section SV
variable {m nk cp ev : Nat} {op wt sz pt : Nat → Nat} {bd : Nat → Int} {g : sG} {f : sF}
/-- pitch and bond i of an event -/
def eP (pt : Nat → Nat) (e : Nat) : Nat → Nat := fun i => pt (4 * e + i)
def eB (bd : Nat → Int) (e : Nat) : Nat → Int := fun i => bd (4 * e + i)
/-- the grips at a position -/
noncomputable def GL (m nk cp : Nat) (op sz pt : Nat → Nat) (bd : Nat → Int) (e p : Nat) : List Nat := LL m (sz e) nk cp op (eP pt e) (eB bd e) (m ^ sz e) p
def GC (m nk cp : Nat) (op wt sz pt : Nat → Nat) (e : Nat) : Nat → Nat → Int := CS m (sz e) nk cp op wt (eP pt e)
theorem go39_v (hB : Base m nk cp ev op wt sz pt bd) (hC : Cb m nk cp ev op wt sz pt bd g f) {e : Nat} (he : e < ev) (h5 : g 5 = I (sz e)) (h6 : -1 ≤ (g 6).toInt ∧ (g 6).toInt ≤ 30) (h9 : ∀ p, p < 25 → f 9 p = I 0) :
    ∃ g' f', itr (fun K z => p_GF_goThrough_L39 K z.1 z.2.1 z.2.2.1 z.2.2.2) FUEL (I e, I 0, g, f) = some (g', f') ∧ TS (GC m nk cp op wt sz pt e) (roww m (sz e)) (GL m nk cp op sz pt bd e) g' f' ∧ (∀ x, x ≠ 8 → x ≠ 9 → g' x = g x) ∧ (∀ j, j < 9 ∨ 16 < j → f' j = f j) := by
  have hs := hB.2.2.2.1 e he
  have hv := hB.1.2.2.2.2
  refine itr_R (fun i z => ∃ f', z = (I e, I i, g, f') ∧ (∀ j, j < i → f' 14 j = I (eP pt e j) ∧ f' 15 j = I (eB bd e j)) ∧ (∀ j, j ≠ 14 → j ≠ 15 → f' j = f j)) (sz e) (fun o => ∃ g' f', o = some (g', f') ∧ TS (GC m nk cp op wt sz pt e) (roww m (sz e)) (GL m nk cp op sz pt bd e) g' f' ∧ (∀ x, x ≠ 8 → x ≠ 9 → g' x = g x) ∧ (∀ j, j < 9 ∨ 16 < j → f' j = f j)) ⟨f, rfl, fun j hj => by omega, fun _ _ _ => rfl⟩ (by omega) ?_ ?_
  · intro K i z hi ⟨f', ez, hd, ho⟩
    subst ez
    left
    have hC' : Cb m nk cp ev op wt sz pt bd g f' := hC.fr (fun _ _ => rfl) (fun j hj => ho j (by omega) (by omega))
    have hC'' : Cb m nk cp ev op wt sz pt bd g (up2 f' 14 i (I (pt (4 * e + i)))) := hC'.fr (fun _ _ => rfl) (fun j hj => up2_n _ _ _ (by omega))
    have ei : (i : Int) + 1 = ((i + 1 : Nat) : Int) := by omega
    refine ⟨(I e, I ((i + 1 : Nat) : Int), g, up2 (up2 f' 14 i (I (pt (4 * e + i)))) 15 i (I (bd (4 * e + i)))), ?_, _, rfl, fun j hj => ?_, fun j a b => by rw [up2_n _ _ _ b, up2_n _ _ _ a]; exact ho j a b⟩
    · dsimp only
      unfold p_GF_goThrough_L39
      rw [pitchOf_v hB hC' he hi]
      simp (disch := omega) only [l_0, l_1, l_2, l_3, l_4, l_5, l_6, l_7, l_9, l_10, l_20, l_24, l_25, l_31, l_40, l_45, l_48, l_57, l_99, l_123, l_124, l_127, l_2000, l_far, l_999999, h5, I_le, I_lt, I_nat, tn_n, gdG, Option.bind_some, lt_, stringOf_v hB hC'' he hi, I_add, ei]
      rw [if_neg (by omega)]
    · by_cases q : j = i
      · subst q
        simp only [up2_e, and_self, and_true, true_and, if_true, and_false, false_and, if_false, Nat.reduceEqDiff, reduceIte]
        exact ⟨rfl, rfl⟩
      · simp only [up2_e, q, and_self, and_true, true_and, if_true, and_false, false_and, if_false, Nat.reduceEqDiff, reduceIte]
        exact hd j (by omega)
  · intro K z ⟨f', ez, hd, ho⟩
    subst ez
    dsimp only
    unfold p_GF_goThrough_L39
    obtain ⟨⟨b0, b1, b2, b3, b4⟩, bO, bW, bS, bP⟩ := id hB
    obtain ⟨⟨c0, c1, c2, c3⟩, cO, cW, cS, cP⟩ := id hC
    have hE : LEnv m (sz e) nk cp op wt (eP pt e) (eB bd e) g f' := by
      refine ⟨⟨b0, hs.2, b2, b3⟩, ⟨c0, c1, c2, h5⟩, h6, fun s hs => ?_, fun i hi => ?_, fun j hj => ?_⟩
      · rw [ho 1 (by omega) (by omega)]; exact ⟨cO s hs, bO s hs⟩
      · rw [ho 0 (by omega) (by omega)]; exact ⟨cW i hi, bW i hi⟩
      · have := bP e he j hj
        exact ⟨(hd j hj).1, this.1, (hd j hj).2, this.2.1, by show bd (4 * e + j) < 7; omega⟩
    have hP : LPre m nk cp op (eP pt e) (eB bd e) 0 0 0 nk cp f' := by
      refine ⟨fun j hj => by omega, by omega, fun s _ => ⟨fun z => by rw [Nat.zero_testBit] at z; exact absurd z (by decide), fun ⟨j, hj, _⟩ => by omega⟩, fun j hj => by omega, fun p => ⟨fun z => ⟨by omega, fun j hj => by omega⟩, fun z => by omega⟩, fun x => ⟨fun z => ⟨z, fun j hj => by omega⟩, fun z => z.1⟩, by omega, by omega⟩
    have hT : TS (GC m nk cp op wt sz pt e) (roww m (sz e)) (LL m (sz e) nk cp op (eP pt e) (eB bd e) (0 * m ^ (sz e - 0))) g f' := by
      intro p hp
      have e0 : LL m (sz e) nk cp op (eP pt e) (eB bd e) (0 * m ^ (sz e - 0)) p = [] := List.eq_nil_of_length_eq_zero (by have := LL_len (m := m) (k := sz e) (nk := nk) (cp := cp) (op := op) (P := eP pt e) (Bd := eB bd e) (C := 0 * m ^ (sz e - 0)) (p := p); rw [Nat.zero_mul] at this ⊢; omega)
      rw [e0]
      refine ⟨?_, fun z => absurd rfl z, fun q hq => absurd hq (Nat.not_lt_zero q)⟩
      rw [ho 9 (by omega) (by omega)]
      exact h9 p hp
    obtain ⟨g', f'', ev', tv, fv⟩ := lay (wt := wt) hs.1 6 0 0 0 (nk : Int) (cp : Int) g f' (by omega) (by omega) (by rw [Nat.zero_add, Nat.one_mul]; exact Nat.le_refl _) hE hP hT
    rw [c1, c2, h5, if_pos (Int32.le_refl _), DEP_eq]
    have ev2 : p_GF_layFrom 6 0 0 0 (I nk) (I cp) 0 g f' = some (g', f'') := ev'
    rw [ev2, Option.bind_some]
    refine ⟨g', f'', rfl, ?_, fun x a b => fv.1 x a b, fun j hj => ?_⟩
    · unfold GL
      rw [Nat.zero_add, Nat.one_mul] at tv
      exact tv
    · rw [fv.2.1 j (by omega) (by omega), ho j (by omega) (by omega)]
theorem goThrough_v (hB : Base m nk cp ev op wt sz pt bd) (hC : Cb m nk cp ev op wt sz pt bd g f) {e : Nat} (he : e < ev) (h6 : -1 ≤ (g 6).toInt ∧ (g 6).toInt ≤ 30) :
    ∃ g' f', p_GF_goThrough (I e) g f = some (g', f') ∧ TS (GC m nk cp op wt sz pt e) (roww m (sz e)) (GL m nk cp op sz pt bd e) g' f' ∧ Fr3 g f g' f' := by
  have hs := hB.2.2.2.1 e he
  unfold p_GF_goThrough
  refine itr_R (fun t z => ∃ f', z = (I e, I t, g, f') ∧ (∀ p, p < t → f' 9 p = I 0) ∧ (∀ j, j ≠ 9 → f' j = f j)) 25 (fun o => ∃ g' f', o = some (g', f') ∧ TS (GC m nk cp op wt sz pt e) (roww m (sz e)) (GL m nk cp op sz pt bd e) g' f' ∧ Fr3 g f g' f') ⟨f, rfl, fun j hj => by omega, fun _ _ => rfl⟩ (by omega) ?_ ?_
  · intro K t z ht ⟨f', ez, hd, ho⟩
    subst ez
    left
    have ei : (t : Int) + 1 = ((t + 1 : Nat) : Int) := by omega
    refine ⟨(I e, I ((t + 1 : Nat) : Int), g, up2 f' 9 t (I 0)), ?_, _, rfl, fun p hp => ?_, fun j a => by rw [up2_n _ _ _ a]; exact ho j a⟩
    · dsimp only
      unfold p_GF_goThrough_L2
      simp (disch := omega) only [l_0, l_1, l_2, l_3, l_4, l_5, l_6, l_7, l_9, l_10, l_20, l_24, l_25, l_31, l_40, l_45, l_48, l_57, l_99, l_123, l_124, l_127, l_2000, l_far, l_999999, I_le, I_lt, I_nat, tn_n, gdG, lt_, I_add, ei]
      rw [if_neg (by omega)]
    · rw [up2_e]
      by_cases q : p = t
      · rw [if_pos ⟨rfl, q⟩]
      · rw [if_neg (fun z => q z.2)]
        exact hd p (by omega)
  · intro K z ⟨f', ez, hd, ho⟩
    subst ez
    dsimp only
    unfold p_GF_goThrough_L2
    have hC' : Cb m nk cp ev op wt sz pt bd g f' := hC.fr (fun _ _ => rfl) (fun j hj => ho j (by omega))
    rw [if_pos (by decide), sizeOf_v hB hC' he, Option.bind_some]
    have e4 : (if (4 : Int32) < I (sz e) then (4 : Int32) else I (sz e)) = I (sz e) := by
      rw [if_neg (by rw [l_4, I_lt (by omega) (by omega) (by omega) (by omega)]; omega)]
    rw [e4]
    simp only [lt_]
    obtain ⟨g', f'', ev', tv, gv, fv⟩ := go39_v (g := upd g 5 (I (sz e))) hB (hC'.fr (fun x hx => upd_n _ _ (by omega)) (fun _ _ => rfl)) he (upd_s _ _ _) (by rw [upd_n _ _ (by omega)]; exact h6) hd
    rw [l_0, ev']
    refine ⟨g', f'', rfl, tv, fun x a b c => ?_, fun j hj => ?_⟩
    · rw [gv x b c, upd_n _ _ a]
    · rw [fv j hj, ho j (by omega)]
theorem survey_v (hB : Base m nk cp ev op wt sz pt bd) (hC : Cb m nk cp ev op wt sz pt bd g f) {e : Nat} (he : e < ev) :
    ∃ g' f', p_GF_survey (I e) g f = some (g', f') ∧ TS (GC m nk cp op wt sz pt e) (roww m (sz e)) (GL m nk cp op sz pt bd e) g' f' ∧ (∀ x, x ≠ 5 → x ≠ 6 → x ≠ 8 → x ≠ 9 → g' x = g x) ∧ (∀ j, j < 9 ∨ 16 < j → f' j = f j) := by
  unfold p_GF_survey
  simp only [lt_]
  obtain ⟨g', f', ev', tv, fv⟩ := goThrough_v (g := upd g 6 (-1)) hB (hC.fr (fun x hx => upd_n _ _ (by omega)) (fun _ _ => rfl)) he (by rw [upd_s]; decide)
  rw [ev', Option.bind_some]
  refine ⟨g', f', rfl, tv, fun x a b c d => ?_, fv.2⟩
  rw [fv.1 x a c d, upd_n _ _ b]
theorem GL_len {e p : Nat} (hB : Base m nk cp ev op wt sz pt bd) (he : e < ev) : (GL m nk cp op sz pt bd e p).length ≤ 2401 := by
  unfold GL
  exact Nat.le_trans LL_len (pow_2401 hB.1.1 (hB.2.2.2.1 e he).2)
/-- how many grips there are below a position -/
noncomputable def cnb (m nk cp : Nat) (op sz pt : Nat → Nat) (bd : Nat → Int) (e p : Nat) : Int := sm (fun q => ((GL m nk cp op sz pt bd e q).length : Int)) p
theorem cnb_bd {e p : Nat} (hB : Base m nk cp ev op wt sz pt bd) (he : e < ev) : 0 ≤ cnb m nk cp op sz pt bd e p ∧ cnb m nk cp op sz pt bd e p ≤ 2401 * p := by
  have := sm_bd (a := fun q => ((GL m nk cp op sz pt bd e q).length : Int)) (lo := 0) (hi := 2401) (n := p) (fun q _ => by have := GL_len (p := q) hB he; omega)
  unfold cnb
  omega
theorem countBelow_v {e : Nat} (hB : Base m nk cp ev op wt sz pt bd) (he : e < ev) (hT : TS (GC m nk cp op wt sz pt e) (roww m (sz e)) (GL m nk cp op sz pt bd e) g f) {x : Nat} (hx : x ≤ 25) : p_GF_countBelow (I x) g f = some (I (cnb m nk cp op sz pt bd e x)) := by
  unfold p_GF_countBelow
  refine itr_R (fun i s => s = (I x, I (cnb m nk cp op sz pt bd e i), I i)) x (fun o => o = some (I (cnb m nk cp op sz pt bd e x))) rfl (by omega) ?_ ?_
  · intro K i s hi hs
    subst hs
    left
    refine ⟨(I x, I (cnb m nk cp op sz pt bd e (i + 1)), I ((i + 1 : Nat) : Int)), ?_, rfl⟩
    have b := cnb_bd (p := i) hB he
    have e1 : (i : Int) + 1 = ((i + 1 : Nat) : Int) := by omega
    have t := (hT i (by omega)).1
    rw [lst_len] at t
    dsimp only
    unfold p_GF_countBelow_L4
    simp (disch := omega) only [l_0, l_1, l_2, l_3, l_4, l_5, l_6, l_7, l_9, l_10, l_20, l_24, l_25, l_31, l_40, l_45, l_48, l_57, l_99, l_123, l_124, l_127, l_2000, l_far, l_999999, lt_, I_le, I_lt, I_nat, tn_n, gdG, I_add, t, e1]
    rw [if_neg (by omega), if_neg (by omega)]
    rfl
  · intro K s hs
    subst hs
    dsimp only
    unfold p_GF_countBelow_L4
    rw [if_pos (Int32.le_refl _)]
end SV
