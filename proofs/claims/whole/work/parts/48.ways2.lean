theorem rem_v {rs m s : Nat} (hs : rs % m = s) (h0 : 0 < m) (h1 : rs < 2147483648) (h2 : m < 2147483648) : I (rs : Int) - I (rs : Int) / I (m : Int) * I (m : Int) = I s := by
  rw [I_rem (by omega) (by omega) (by omega) (by omega), ← hs]
  rfl
theorem div_v {rs m : Nat} (h0 : 0 < m) (h1 : rs < 2147483648) (h2 : m < 2147483648) : I (rs : Int) / I (m : Int) = I ((rs / m : Nat) : Int) := by
  rw [I_div (by omega) (by omega) (by omega) (by omega)]
  rfl
section WZ
variable {m nk cp ev : Nat} {op wt sz pt : Nat → Nat} {bd : Nat → Int} {g : sG} {f : sF}
def WS (m k nk cp : Nat) (op P : Nat → Nat) (Bd : Nat → Int) (c : Nat) (g : sG) (f : sF) : Prop :=
  g 7 = I (gl m k nk cp op P Bd 0 c).length ∧ ∀ w, w < (gl m k nk cp op P Bd 0 c).length → ∀ i, i < k → f 10 (4 * w + i) = I (pdg m k ((gl m k nk cp op P Bd 0 c).getD w 0) i) ∧ f 11 (4 * w + i) = I (frw m nk cp op P k ((gl m k nk cp op P Bd 0 c).getD w 0) i)
theorem J182_v {K50 : (Int32 × Int32 × Int32 × Int32 × sG × sF) → Option (sG × sF)} {K : (Int32 × Int32 × Int32 × Int32 × Int32 × Int32 × Int32 × Int32 × sG × sF) → Option (sG × sF)} {x1 x2 x3 x4 x5 : Int32} {U s W : Nat} {j : Nat} {y x10 : Int32} {f' : sF} (hU : U < 128) (hs : s < 7) (h7 : g 7 = I W) (hW : W ≤ 840) (hj : j < 4) :
    (y = I 0 → p_M_findWays_J182 K50 K x1 x2 x3 x4 x5 (I U) (I j) (I s) x10 y g f' = K (x1, x2, x3, x4, x5, I ((U ||| 2 ^ s : Nat) : Int), y, I ((j : Int) - 1), g, f')) ∧
    (y = I 1 → p_M_findWays_J182 K50 K x1 x2 x3 x4 x5 (I U) (I j) (I s) x10 y g f' = K (x1, x2, x3, x4, x5, I ((U ||| 2 ^ s : Nat) : Int), y, I ((j : Int) - 1), g, up2 (up2 f' 10 (4 * W + j) (I s)) 11 (4 * W + j) x10)) := by
  have e1 : (j : Int) + -1 = (j : Int) - 1 := by omega
  constructor
  · intro hy
    subst hy
    unfold p_M_findWays_J182
    simp only [l_0, l_1, l_2, l_3, l_4, l_5, l_6, l_7, l_9, l_10, l_20, l_24, l_25, l_31, l_40, l_45, l_48, l_57, l_99, l_123, l_124, l_127, l_2000, l_far, l_999999, I_neg, lt_, bit2 U hU s hs, I_add, if_true, e1]
  · intro hy
    subst hy
    unfold p_M_findWays_J182
    simp (disch := omega) only [l_0, l_1, l_2, l_3, l_4, l_5, l_6, l_7, l_9, l_10, l_20, l_24, l_25, l_31, l_40, l_45, l_48, l_57, l_99, l_123, l_124, l_127, l_2000, l_far, l_999999, I_neg, lt_, bit2 U hU s hs, I_add, I_mul, I_eq, h7, I_lt, I_nat, tn_4, gdG, reduceIte, Int.reduceNeg, Int.reduceEq, Int.reduceLT, Int.reduceLE, Int.reduceAdd, Int.reduceSub, Int.reduceMul, Int.reduceToNat, e1]
theorem ways71 (hB : Base m nk cp ev op wt sz pt bd) (hM : Mb m nk cp ev op wt sz pt bd g f) {e : Nat} (he : e < ev) {c : Nat} (hm0 : 0 < m) (hc : c < m ^ sz e) (hW : WS m (sz e) nk cp op (eP pt e) (eB bd e) c g f) (K50 : (Int32 × Int32 × Int32 × Int32 × sG × sF) → Option (sG × sF)) (al : Int32) :
    ∃ g' f', itr (fun K z => p_M_findWays_L71 K50 K z.1 z.2.1 z.2.2.1 z.2.2.2.1 z.2.2.2.2.1 z.2.2.2.2.2.1 z.2.2.2.2.2.2.1 z.2.2.2.2.2.2.2.1 z.2.2.2.2.2.2.2.2.1 z.2.2.2.2.2.2.2.2.2) FUEL (I e, I (sz e), al, I c, I c, I 0, I 1, I ((sz e : Int) - 1), g, f) = K50 (I e, I (sz e), al, I ((c + 1 : Nat) : Int), g', f') ∧ WS m (sz e) nk cp op (eP pt e) (eB bd e) (c + 1) g' f' ∧ (∀ x, x ≠ 7 → g' x = g x) ∧ (∀ j, j ≠ 10 → j ≠ 11 → f' j = f j) := by
  obtain ⟨⟨b0, b1, b2, b3, b4⟩, bO, bW, bS, bP⟩ := id hB
  have hs := bS e he
  have hp24 := pow_2401 (m := m) (k := sz e) b0 hs.2
  have hlen := gl_840 (m := m) (k := sz e) (nk := nk) (cp := cp) (op := op) (P := eP pt e) (Bd := eB bd e) (c := c) b0 hs.2 (by omega)
  obtain ⟨w7, ww⟩ := hW
  generalize hWn : (gl m (sz e) nk cp op (eP pt e) (eB bd e) 0 c).length = W at *
  refine itr_R (fun t z => ∃ (U : Nat) (y : Int32) (f' : sF), z = (I e, I (sz e), al, I c, I ((c / m ^ t : Nat) : Int), I U, y, I ((sz e : Int) - 1 - t), g, f') ∧ U < 128 ∧ (∀ s, s < 7 → (U.testBit s = true ↔ ∃ j, sz e - t ≤ j ∧ j < sz e ∧ pdg m (sz e) c j = s)) ∧
      ((y = I 1 ∧ goodt m (sz e) nk cp op (eP pt e) (eB bd e) c t ∧ ∀ j, sz e - t ≤ j → j < sz e → f' 10 (4 * W + j) = I (pdg m (sz e) c j) ∧ f' 11 (4 * W + j) = I (frw m nk cp op (eP pt e) (sz e) c j)) ∨ (y = I 0 ∧ ¬ goodt m (sz e) nk cp op (eP pt e) (eB bd e) c t)) ∧ (∀ j, j ≠ 10 → j ≠ 11 → f' j = f j) ∧ (∀ q, q < 4 * W → f' 10 q = f 10 q ∧ f' 11 q = f 11 q)) (sz e)
    (fun o => ∃ g' f', o = K50 (I e, I (sz e), al, I ((c + 1 : Nat) : Int), g', f') ∧ WS m (sz e) nk cp op (eP pt e) (eB bd e) (c + 1) g' f' ∧ (∀ x, x ≠ 7 → g' x = g x) ∧ (∀ j, j ≠ 10 → j ≠ 11 → f' j = f j)) ?_ (by omega) ?_ ?_
  · refine ⟨0, I 1, f, ?_, by omega, fun s _ => ⟨fun z => by rw [Nat.zero_testBit] at z; exact absurd z (by decide), fun ⟨j, a, b, _⟩ => by omega⟩, Or.inl ⟨rfl, fun j a b => by omega, fun j a b => by omega⟩, fun _ _ _ => rfl, fun _ _ => ⟨rfl, rfl⟩⟩
    rw [Nat.pow_zero, Nat.div_one]
    simp
  · intro K t z ht ⟨U, y, f', ez, hU, hbit, hgood, ho, hq⟩
    subst ez
    left
    have hM' : Mb m nk cp ev op wt sz pt bd g f' := hM.fr (fun _ _ => rfl) (fun j hj => ho j (by omega) (by omega))
    obtain ⟨⟨m0, m1, m2, m3⟩, mO, mW, mS, mP⟩ := id hM'
    obtain ⟨j, hj⟩ : ∃ j : Nat, j = sz e - 1 - t := ⟨_, rfl⟩
    have ej : (sz e : Int) - 1 - t = j := by omega
    have hjk : j < sz e := by omega
    have hpj := bP e he j hjk
    have hrest : c / m ^ t ≤ c := Nat.div_le_self _ _
    obtain ⟨s, hsd⟩ : ∃ s : Nat, s = pdg m (sz e) c j := ⟨_, rfl⟩
    have hsm : s < m := by rw [hsd]; exact pdg_lt hm0
    have hdig : (c / m ^ t) % m = s := by
      rw [hsd]
      unfold pdg
      rw [show sz e - 1 - j = t by omega]
    have hrem : I ((c / m ^ t : Nat) : Int) - I ((c / m ^ t : Nat) : Int) / I (m : Int) * I (m : Int) = I s := by
      exact rem_v hdig hm0 (Nat.lt_of_le_of_lt hrest (by omega)) (by omega)
    have hdiv : I ((c / m ^ t : Nat) : Int) / I (m : Int) = I ((c / m ^ (t + 1) : Nat) : Int) := by
      rw [div_v hm0 (Nat.lt_of_le_of_lt hrest (by omega)) (by omega), Nat.pow_succ, ← Nat.div_div_eq_div_mul]
    have hfr : frw m nk cp op (eP pt e) (sz e) c j = frt nk cp op s (pt (4 * e + j)) := by unfold frw; rw [← hsd]; rfl
    have hfv := mfretOf_v hB hM' (s := s) (p := (pt (4 * e + j) : Int)) hsm (by omega) (by omega)
    -- is it good with this digit, too
    have hup := goodt_up (m := m) (k := sz e) (nk := nk) (cp := cp) (op := op) (P := eP pt e) (Bd := eB bd e) (c := c) ht
    rw [← hj, ← hsd] at hup
    have hfree : (U.testBit s = false) ↔ ∀ h, sz e - t ≤ h → h < sz e → pdg m (sz e) c h ≠ s := by
      constructor
      · intro z h a b d
        have := (hbit s (by omega)).mpr ⟨h, a, b, d⟩
        rw [z] at this
        exact absurd this (by decide)
      · intro z
        rcases hb : U.testBit s with _ | _
        · rfl
        · obtain ⟨h, a, b, d⟩ := (hbit s (by omega)).mp hb
          exact absurd d (z h a b)
    have hbit' : ∀ s', s' < 7 → ((U ||| 2 ^ s).testBit s' = true ↔ ∃ j', sz e - (t + 1) ≤ j' ∧ j' < sz e ∧ pdg m (sz e) c j' = s') := by
      intro s' hs'
      rw [or_bit]
      constructor
      · intro z
        rcases Bool.or_eq_true _ _ |>.mp z with z | z
        · obtain ⟨h, a, b, d⟩ := (hbit s' hs').mp z
          exact ⟨h, by omega, b, d⟩
        · exact ⟨j, by omega, hjk, by rw [← hsd]; exact of_decide_eq_true z⟩
      · intro ⟨h, a, b, d⟩
        by_cases q : h = j
        · subst q
          rw [← hsd] at d
          rw [decide_eq_true d, Bool.or_true]
        · rw [(hbit s' hs').mpr ⟨h, by omega, b, d⟩, Bool.true_or]
    -- the walk up to the joined test
    have hx8 : ¬ ((j : Int) < 0) := by omega
    have walk : p_M_findWays_L71 K50 K (I e) (I (sz e)) al (I c) (I ((c / m ^ t : Nat) : Int)) (I U) y (I (j : Int)) g f' = p_M_findWays_J149 K50 K (I e) (I (sz e)) al (I c) (I ((c / m ^ (t + 1) : Nat) : Int)) (I U) y (I (j : Int)) (I s) (I (frt nk cp op s (pt (4 * e + j)))) (if bd (4 * e + j) = -1 ∨ bd (4 * e + j) = s then I 1 else I 0) g f' := by
      unfold p_M_findWays_L71 p_M_findWays_J144
      have hmne : ¬ ((m : Int) = 0) := by omega
      simp only [m0, lt_]
      rw [hrem, hdiv]
      simp (disch := omega) only [l_0, l_1, l_2, l_3, l_4, l_5, l_6, l_7, l_9, l_10, l_20, l_24, l_25, l_31, l_40, l_45, l_48, l_57, l_99, l_123, l_124, l_127, l_2000, l_far, l_999999, I_lt, I_eq, I_mul, I_add, I_nat, tn_4, gdG, (mP e he j hjk).1, (mP e he j hjk).2, hfv, Option.bind_some, I_neg]
      rw [if_neg hx8]
      simp only [hmne, if_false]
      by_cases q1 : bd (4 * e + j) = -1
      · rw [if_pos q1, if_pos (Or.inl q1)]
      · rw [if_neg q1]
        by_cases q2 : bd (4 * e + j) = s
        · rw [if_pos q2, if_pos (Or.inr q2)]
        · rw [if_neg q2, if_neg (fun z => z.elim q1 q2)]
    have test : p_M_findWays_J149 K50 K (I e) (I (sz e)) al (I c) (I ((c / m ^ (t + 1) : Nat) : Int)) (I U) y (I (j : Int)) (I s) (I (frt nk cp op s (pt (4 * e + j)))) (if bd (4 * e + j) = -1 ∨ bd (4 * e + j) = s then I 1 else I 0) g f' = p_M_findWays_J182 K50 K (I e) (I (sz e)) al (I c) (I ((c / m ^ (t + 1) : Nat) : Int)) (I U) (I (j : Int)) (I s) (I (frt nk cp op s (pt (4 * e + j)))) (if cb (goodt m (sz e) nk cp op (eP pt e) (eB bd e) c (t + 1)) = true then I 1 else I 0) g f' := by
      have hfb : -1 ≤ frt nk cp op s (pt (4 * e + j)) ∧ frt nk cp op s (pt (4 * e + j)) ≤ 24 := by
        by_cases q : frt nk cp op s (pt (4 * e + j)) = -1
        · omega
        · have := frt_ok q; omega
      unfold p_M_findWays_J149 p_M_findWays_J181
      simp (disch := omega) only [l_0, l_1, l_2, l_3, l_4, l_5, l_6, l_7, l_9, l_10, l_20, l_24, l_25, l_31, l_40, l_45, l_48, l_57, l_99, l_123, l_124, l_127, l_2000, l_far, l_999999, I_neg, I_eq]
      rcases hgood with ⟨rfl, hg, -⟩ | ⟨rfl, hg⟩
      · rw [if_neg (by decide)]
        by_cases q1 : bd (4 * e + j) = -1 ∨ bd (4 * e + j) = s
        · rw [if_pos q1, if_neg (by decide)]
          by_cases q2 : frt nk cp op s (pt (4 * e + j)) = -1
          · rw [if_pos q2, if_neg (fun z => (hup.mp (cb_t.mp z)).2.1.1 q2)]
          · rw [if_neg q2]
            by_cases q3 : U.testBit s = false
            · have b3 := (bit3 U hU s (by omega)).mpr q3
              rw [if_pos b3]
              rw [if_pos (cb_t.mpr (hup.mpr ⟨hg, ⟨q2, q1⟩, hfree.mp q3⟩))]
            · have b3 := fun z => q3 ((bit3 U hU s (by omega)).mp z)
              rw [if_neg b3]
              rw [if_neg (fun z => q3 (hfree.mpr (hup.mp (cb_t.mp z)).2.2))]
        · rw [if_neg q1, if_pos rfl, if_neg (fun z => q1 (hup.mp (cb_t.mp z)).2.1.2)]
      · rw [if_pos rfl, if_neg (fun z => hg (hup.mp (cb_t.mp z)).1)]
    obtain ⟨J0, J1⟩ := J182_v (K50 := K50) (K := K) (g := g) (x1 := I e) (x2 := I (sz e)) (x3 := al) (x4 := I c) (x5 := I ((c / m ^ (t + 1) : Nat) : Int)) (U := U) (s := s) (W := W) (j := j) (y := if cb (goodt m (sz e) nk cp op (eP pt e) (eB bd e) c (t + 1)) = true then I 1 else I 0) (x10 := I (frt nk cp op s (pt (4 * e + j)))) (f' := f') hU (by omega) w7 hlen (by omega)
    have ej2 : (j : Int) - 1 = (sz e : Int) - 1 - ((t + 1 : Nat) : Int) := by omega
    dsimp only
    rw [ej, walk, test]
    by_cases hgt : goodt m (sz e) nk cp op (eP pt e) (eB bd e) c (t + 1)
    · have ey : (if cb (goodt m (sz e) nk cp op (eP pt e) (eB bd e) c (t + 1)) = true then I 1 else I 0) = I 1 := if_pos (cb_t.mpr hgt)
      rw [J1 ey, ej2, ey]
      refine ⟨_, rfl, U ||| 2 ^ s, I 1, _, rfl, or_lt hU (by omega), hbit', Or.inl ⟨rfl, hgt, fun j' a b => ?_⟩, fun j' a b => by rw [up2_n _ _ _ b, up2_n _ _ _ a]; exact ho j' a b, fun q hq' => ?_⟩
      · by_cases q : j' = j
        · subst q
          simp only [up2_e, and_self, and_true, true_and, if_true, and_false, false_and, if_false, Nat.reduceEqDiff, reduceIte]
          rw [hfr, hsd]
          exact ⟨rfl, rfl⟩
        · have hne : ¬ (4 * W + j' = 4 * W + j) := by omega
          simp only [up2_e, hne, and_self, and_true, true_and, if_true, and_false, false_and, if_false, Nat.reduceEqDiff, reduceIte]
          rcases hgood with ⟨-, -, hw⟩ | ⟨-, hg⟩
          · exact hw j' (by omega) b
          · exact absurd (hup.mp hgt).1 hg
      · have hne : ¬ (q = 4 * W + j) := by omega
        simp only [up2_e, hne, and_self, and_true, true_and, if_true, and_false, false_and, if_false, Nat.reduceEqDiff, reduceIte]
        exact hq q hq'
    · have ey : (if cb (goodt m (sz e) nk cp op (eP pt e) (eB bd e) c (t + 1)) = true then I 1 else I 0) = I 0 := if_neg (fun z => hgt (cb_t.mp z))
      rw [J0 ey, ej2, ey]
      exact ⟨_, rfl, U ||| 2 ^ s, I 0, f', rfl, or_lt hU (by omega), hbit', Or.inr ⟨rfl, hgt⟩, ho, hq⟩
  · intro K z ⟨U, y, f', ez, hU, hbit, hgood, ho, hq⟩
    subst ez
    have ex : (sz e : Int) - 1 - (sz e : Int) = -1 := by omega
    have ec : (c : Int) + 1 = ((c + 1 : Nat) : Int) := by omega
    dsimp only
    rw [ex]
    unfold p_M_findWays_L71 p_M_findWays_J251
    rw [if_pos (by decide), w7]
    simp only [l_0, l_1, l_2, l_3, l_4, l_5, l_6, l_7, l_9, l_10, l_20, l_24, l_25, l_31, l_40, l_45, l_48, l_57, l_99, l_123, l_124, l_127, l_2000, l_far, l_999999, lt_, I_add, ec]
    rcases hgood with ⟨rfl, hg, hw⟩ | ⟨rfl, hg⟩
    · have hgw := goodt_all.mp hg
      have eg : gl m (sz e) nk cp op (eP pt e) (eB bd e) 0 (c + 1) = gl m (sz e) nk cp op (eP pt e) (eB bd e) 0 c ++ [c] := by rw [← gl_app (Nat.zero_le c) (Nat.le_succ c), gl_one hgw]
      rw [if_neg (by decide)]
      refine ⟨_, _, rfl, ⟨?_, fun w hw' i hi => ?_⟩, fun x hx => upd_n _ _ hx, ho⟩
      · rw [upd_s, eg, List.length_append, List.length_singleton, hWn]
        rfl
      · rw [eg, List.length_append, List.length_singleton, hWn] at hw'
        rw [eg]
        by_cases q : w = W
        · subst q
          rw [List.getD_eq_getElem?_getD, List.getElem?_append_right (by omega), hWn, Nat.sub_self]
          exact hw i (by omega) hi
        · have hwW : w < W := by omega
          rw [List.getD_eq_getElem?_getD, List.getElem?_append_left (by omega), ← List.getD_eq_getElem?_getD, (hq (4 * w + i) (by omega)).1, (hq (4 * w + i) (by omega)).2]
          exact ww w hwW i hi
    · have eg : gl m (sz e) nk cp op (eP pt e) (eB bd e) 0 (c + 1) = gl m (sz e) nk cp op (eP pt e) (eB bd e) 0 c := by
        rw [← gl_app (Nat.zero_le c) (Nat.le_succ c), gl_nil (a := c) (b := c + 1) (fun q a b z => hg (goodt_all.mpr (by rw [show q = c by omega] at z; exact z))), List.append_nil]
      rw [if_pos rfl]
      refine ⟨_, _, rfl, ⟨?_, fun w hw' i hi => ?_⟩, fun x hx => upd_n _ _ hx, ho⟩
      · rw [upd_s, eg, hWn, Int.add_zero]
      · rw [eg, hWn] at hw'
        rw [eg, (hq (4 * w + i) (by omega)).1, (hq (4 * w + i) (by omega)).2]
        exact ww w hw' i hi
end WZ
