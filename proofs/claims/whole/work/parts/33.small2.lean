theorem Fb_any {m nk cp ev : Nat} {op sz pt st : Nat → Nat} {fd : Bool} {gc gc2 : sG} {fc fc2 : sF} {gm gm2 : sG} {fm fm2 : sF} (h : Fb m nk cp ev op sz pt st fd gc fc gm fm) (h1 : gc2 4 = gc 4) (h2 : gm2 4 = gm 4) (h3 : ∀ j, j = 5 ∨ j = 6 ∨ j = 7 ∨ j = 8 → fc2 j = fc j ∧ fm2 j = fm j) : Fb m nk cp ev op sz pt st fd gc2 fc2 gm2 fm2 := by
  cases fd
  · exact ⟨h1.trans h.1, h2.trans h.2⟩
  · refine ⟨h1.trans h.1, h.2.1, h2.trans h.2.2.1, ?_⟩
    have a5 := h3 5 (by omega)
    have a6 := h3 6 (by omega)
    have a7 := h3 7 (by omega)
    have a8 := h3 8 (by omega)
    rw [a5.1, a5.2, a6.1, a6.2, a7.1, a7.2, a8.1, a8.2]
    exact h.2.2.2
theorem addEvent_v {g : sG} {f : sF} {ev : Nat} (h3 : g 3 = I ev) (he : ev < 40) : p_Tu_addEvent g f = some (I 1, upd g 3 (I ((ev : Int) + 1)), up2 f 2 ev (I 0)) := by
  unfold p_Tu_addEvent
  simp (disch := omega) only [l_0, l_1, l_2, l_3, l_4, l_5, l_6, l_7, l_9, l_10, l_20, l_24, l_25, l_31, l_40, l_45, l_48, l_57, l_99, l_123, l_124, l_127, l_2000, l_far, l_999999, I_add, I_sub, I_mul, I_neg, I_lt, I_le, I_eq, I_nat, reduceIte, Int.reduceNeg, Int.reduceEq, Int.reduceLT, Int.reduceLE, Int.reduceAdd, Int.reduceSub, Int.reduceMul, Int.reduceToNat, tn_n, tn_4, tn_4b, tn_4c, tn_25, tn_25b, gdG, if01, ite_not, lt_, Option.bind_some, Option.bind_none, and_true, true_and, and_false, false_and, or_false, false_or, or_true, true_or, not_true_eq_false, not_false_eq_true, if_true, if_false, h3]
  rw [if_pos (by omega)]
theorem addEvent_n {g : sG} {f : sF} (h3 : g 3 = I 40) : p_Tu_addEvent g f = some (I 0, g, f) := by
  unfold p_Tu_addEvent
  simp (disch := omega) only [l_0, l_1, l_2, l_3, l_4, l_5, l_6, l_7, l_9, l_10, l_20, l_24, l_25, l_31, l_40, l_45, l_48, l_57, l_99, l_123, l_124, l_127, l_2000, l_far, l_999999, I_add, I_sub, I_mul, I_neg, I_lt, I_le, I_eq, I_nat, reduceIte, Int.reduceNeg, Int.reduceEq, Int.reduceLT, Int.reduceLE, Int.reduceAdd, Int.reduceSub, Int.reduceMul, Int.reduceToNat, tn_n, tn_4, tn_4b, tn_4c, tn_25, tn_25b, gdG, if01, ite_not, lt_, Option.bind_some, Option.bind_none, and_true, true_and, and_false, false_and, or_false, false_or, or_true, true_or, not_true_eq_false, not_false_eq_true, if_true, if_false, h3]
theorem addPitch_v {g : sG} {f : sF} {e s : Nat} (h3 : g 3 = I ((e : Int) + 1)) (he : e < 40) (hs : f 2 e = I s) (h4 : s < 4) (a b : Int32) : p_Tu_addPitch a b g f = some (I 1, g, up2 (up2 (up2 f 3 (4 * e + s) a) 4 (4 * e + s) b) 2 e (I ((s : Int) + 1))) := by
  have e1 : (e : Int) + 1 - 1 = e := by omega
  unfold p_Tu_addPitch
  rw [h3, l_1, I_sub, e1]
  simp (disch := omega) only [l_0, l_1, l_2, l_3, l_4, l_5, l_6, l_7, l_9, l_10, l_20, l_24, l_25, l_31, l_40, l_45, l_48, l_57, l_99, l_123, l_124, l_127, l_2000, l_far, l_999999, I_add, I_sub, I_mul, I_neg, I_lt, I_le, I_eq, I_nat, lt_, tn_n, hs, gdG, tn_4b]
  rw [if_neg (by omega), if_pos (by omega), up2_n _ _ _ (by omega), up2_n _ _ _ (by omega), hs, I_add]
theorem addPitch_n {g : sG} {f : sF} {e : Nat} (h3 : g 3 = I ((e : Int) + 1)) (he : e < 40) (hs : f 2 e = I 4) (a b : Int32) : p_Tu_addPitch a b g f = some (I 0, g, f) := by
  have e1 : (e : Int) + 1 - 1 = e := by omega
  unfold p_Tu_addPitch
  rw [h3, l_1, I_sub, e1]
  simp (disch := omega) only [l_0, l_1, l_2, l_3, l_4, l_5, l_6, l_7, l_9, l_10, l_20, l_24, l_25, l_31, l_40, l_45, l_48, l_57, l_99, l_123, l_124, l_127, l_2000, l_far, l_999999, I_add, I_sub, I_mul, I_neg, I_lt, I_le, I_eq, I_nat, lt_, tn_n, hs, gdG, tn_4b]
  rw [if_neg (by omega), if_neg (by omega)]
theorem isPitch_v {g : sG} {f : sF} {x : Int} (h1 : -2147483648 ≤ x) (h2 : x < 2147483648) : p_FH_isPitch (I x) g f = some (if 0 ≤ x ∧ x ≤ 123 then I 1 else I 0) := by
  unfold p_FH_isPitch
  simp (disch := omega) only [l_0, l_1, l_2, l_3, l_4, l_5, l_6, l_7, l_9, l_10, l_20, l_24, l_25, l_31, l_40, l_45, l_48, l_57, l_99, l_123, l_124, l_127, l_2000, l_far, l_999999, I_add, I_sub, I_mul, I_neg, I_lt, I_le, I_eq, I_nat, reduceIte, Int.reduceNeg, Int.reduceEq, Int.reduceLT, Int.reduceLE, Int.reduceAdd, Int.reduceSub, Int.reduceMul, Int.reduceToNat, tn_n, tn_4, tn_4b, tn_4c, tn_25, tn_25b, gdG, if01, ite_not, lt_, Option.bind_some, Option.bind_none, and_true, true_and, and_false, false_and, or_false, false_or, or_true, true_or, not_true_eq_false, not_false_eq_true, if_true, if_false]
  split
  · rw [if_neg (by omega)]
  · split
    · rw [if_neg (by omega)]
    · rw [if_pos (by omega)]
theorem mfretOf_v {m nk cp ev : Nat} {op wt sz pt : Nat → Nat} {bd : Nat → Int} {g : sG} {f : sF} (hB : Base m nk cp ev op wt sz pt bd) (hC : Mb m nk cp ev op wt sz pt bd g f) {s : Nat} {p : Int} (hs : s < m) (h1 : -2147483648 ≤ p) (h2 : p < 2147483648) : p_M_fretOf (I s) (I p) g f = some (I (frt nk cp op s p)) := by
  obtain ⟨⟨b0, b1, b2, b3, b4⟩, bO, bW, bS, bP⟩ := hB
  obtain ⟨⟨c0, c1, c2, c3⟩, cO, cW, cS, cP⟩ := hC
  have ho := bO s hs
  unfold p_M_fretOf
  simp (disch := omega) only [l_0, l_1, l_2, l_3, l_4, l_5, l_6, l_7, l_9, l_10, l_20, l_24, l_25, l_31, l_40, l_45, l_48, l_57, l_99, l_123, l_124, l_127, l_2000, l_far, l_999999, I_nat, gdG, tn_n, lt_, I_lt, cO s hs, c2, c1, I_64, J_sub, J_cmp0, J_cmp1, J_32]
  unfold frt
  by_cases h : (cp : Int) ≤ p - op s ∧ p - op s ≤ nk
  · rw [if_pos h, if_neg (by omega), if_neg (by omega)]
  · rw [if_neg h]
    split
    · rfl
    · rw [if_pos (by omega)]
      rfl
theorem r_fret (a b : Int32) : Sro (p_FH_fret a b) (p_M_fret a b) := by
  intro gc fc gm fm ⟨m, nk, cp, ev, tn, op, wt, sz, pt, tp, st, bd, fd, hB, hC, hM, _, _, _⟩
  obtain ⟨x, rfl, x1, x2⟩ := I_ex a
  obtain ⟨y, rfl, y1, y2⟩ := I_ex b
  unfold p_FH_fret p_M_fret
  rw [hasString_v hC.1.1 hB.1.1 x1 x2, isString_v hM.1.1 hB.1.1 x1 x2]
  by_cases h : 0 ≤ x ∧ x < m
  · rw [if_pos h]
    obtain ⟨s, rfl⟩ : ∃ n : Nat, x = n := ⟨x.toNat, by omega⟩
    rw [fretOf_v hB hC (by omega) y1 y2]
    refine ⟨I (frt nk cp op s y), rfl, ?_⟩
    rw [Option.bind_some, if_neg (by decide), mfretOf_v hB hM (by omega) y1 y2]
    rfl
  · rw [if_neg h]
    exact ⟨_, rfl, rfl⟩
theorem r_event (a : Int32) : Stw (p_FH_event a) (p_M_event a) := by
  intro gc fc gm fm hR
  obtain ⟨m, nk, cp, ev, tn, op, wt, sz, pt, tp, st, bd, fd, hB, hC, hM, ⟨t0, t1, t2, t3⟩, hF, hp⟩ := id hR
  obtain ⟨⟨c0, c1, c2, c3⟩, cO, cW, cS, cP⟩ := hC
  obtain ⟨⟨m0, m1, m2, m3⟩, mO, mW, mS, mP⟩ := hM
  obtain ⟨⟨b0, b1, b2, b3, b4⟩, bO, bW, bS, bP⟩ := hB
  obtain ⟨x, rfl, x1, x2⟩ := I_ex a
  unfold p_FH_event p_M_event p_Pl_forget
  rw [isPitch_v x1 x2]
  simp (disch := omega) only [l_0, l_1, l_2, l_3, l_4, l_5, l_6, l_7, l_9, l_10, l_20, l_24, l_25, l_31, l_40, l_45, l_48, l_57, l_99, l_123, l_124, l_127, l_2000, l_far, l_999999, within_v]
  by_cases h : 0 ≤ x ∧ x ≤ 123
  · obtain ⟨n, rfl⟩ : ∃ n : Nat, x = n := ⟨x.toNat, by omega⟩
    rw [if_pos h]
    by_cases h2 : ev = 40
    · subst h2
      rw [addEvent_n c3]
      refine ⟨I (-5), gc, fc, gm, fm, rfl, ?_, hR⟩
      rw [Option.bind_some, m3]
      rfl
    · rw [addEvent_v c3 (by omega)]
      simp (disch := omega) only [Option.bind_some, I_eq, reduceIte, Int.reduceNeg, Int.reduceEq, Int.reduceLT, Int.reduceLE, Int.reduceAdd, Int.reduceSub, Int.reduceMul, Int.reduceToNat]
      rw [addPitch_v (e := ev) (s := 0) rfl (by omega) (by rw [up2_s, upd_s]; rfl) (by omega)]
      simp (disch := omega) only [l_0, l_1, l_2, l_3, l_4, l_5, l_6, l_7, l_9, l_10, l_20, l_24, l_25, l_31, l_40, l_45, l_48, l_57, l_99, l_123, l_124, l_127, l_2000, l_far, l_999999, I_add, I_sub, I_mul, I_neg, I_lt, I_le, I_eq, I_nat, reduceIte, Int.reduceNeg, Int.reduceEq, Int.reduceLT, Int.reduceLE, Int.reduceAdd, Int.reduceSub, Int.reduceMul, Int.reduceToNat, tn_n, tn_4, tn_4b, tn_4c, tn_25, tn_25b, gdG, if01, ite_not, lt_, Option.bind_some, Option.bind_none, and_true, true_and, and_false, false_and, or_false, false_or, or_true, true_or, not_true_eq_false, not_false_eq_true, if_true, if_false, m3]
      rw [if_neg (by omega)]
      have e1 : (ev : Int) + 1 - 1 = ev := by omega
      refine ⟨I ev, _, _, _, _, by simp only [upd_e, reduceIte, Nat.reduceEqDiff, I_sub, e1]; rfl, by simp only [upd_e, reduceIte, Nat.reduceEqDiff, I_sub, e1]; rfl, Rel_mk (m := m) (nk := nk) (cp := cp) (ev := ev + 1) (tn := tn) (op := op) (wt := wt) (sz := nset sz ev 1) (pt := nset pt (4 * ev) n) (bd := zset bd (4 * ev) (-1)) (tp := tp) ?_ ?_ ?_ ?_ ?_ ?_ ?_⟩
      · refine ⟨⟨b0, b1, b2, b3, by omega⟩, bO, bW, fun e he => ?_, fun e he i hi => ?_⟩
        · rw [nset_e]
          split
          · omega
          · exact bS e (by omega)
        · rw [nset_e] at hi
          rw [nset_e, zset_e]
          by_cases q : e = ev
          · rw [if_pos q] at hi
            rw [if_pos (by omega), if_pos (by omega)]
            omega
          · rw [if_neg q] at hi
            have := bS e (by omega)
            rw [if_neg (by omega), if_neg (by omega)]
            exact bP e (by omega) i hi
      · refine ⟨⟨c0, c1, c2, rfl⟩, cO, cW, fun e he => ?_, fun e he i hi => ?_⟩
        · rw [up2_e, nset_e]
          by_cases q : e = ev
          · rw [if_pos ⟨rfl, q⟩, if_pos q]
            rfl
          · rw [if_neg (fun z => q z.2), if_neg q, up2_n _ _ _ (by omega), up2_n _ _ _ (by omega), up2_e, if_neg (fun z => q z.2)]
            exact cS e (by omega)
        · rw [nset_e] at hi
          by_cases q : e = ev
          · subst q
            rw [if_pos rfl] at hi
            obtain rfl : i = 0 := by omega
            simp only [up2_e, nset_e, zset_e, Nat.add_zero, and_self, and_true, true_and, if_true, and_false, false_and, if_false, Nat.reduceEqDiff, reduceIte]
          · rw [if_neg q] at hi
            have := bS e (by omega)
            have hne : ¬ (4 * e + i = 4 * ev) := by omega
            simp only [up2_e, nset_e, zset_e, hne, Nat.add_zero, and_self, and_true, true_and, if_true, and_false, false_and, if_false, Nat.reduceEqDiff, reduceIte]
            exact cP e (by omega) i hi
      · refine ⟨⟨m0, m1, m2, rfl⟩, mO, mW, fun e he => ?_, fun e he i hi => ?_⟩
        · rw [up2_n _ _ _ (by omega), up2_n _ _ _ (by omega), up2_e, nset_e]
          by_cases q : e = ev
          · rw [if_pos ⟨rfl, q⟩, if_pos q]
            rfl
          · rw [if_neg (fun z => q z.2), if_neg q]
            exact mS e (by omega)
        · rw [nset_e] at hi
          by_cases q : e = ev
          · subst q
            rw [if_pos rfl] at hi
            obtain rfl : i = 0 := by omega
            simp only [up2_e, nset_e, zset_e, Nat.add_zero, and_self, and_true, true_and, if_true, and_false, false_and, if_false, Nat.reduceEqDiff, reduceIte]
          · rw [if_neg q] at hi
            have := bS e (by omega)
            have hne : ¬ (4 * e + i = 4 * ev) := by omega
            simp only [up2_e, nset_e, zset_e, hne, Nat.add_zero, and_self, and_true, true_and, if_true, and_false, false_and, if_false, Nat.reduceEqDiff, reduceIte]
            exact mP e (by omega) i hi
      · exact ⟨t0, t1, t2, t3⟩
      · rfl
      · rfl
      · exact hp
  · refine ⟨I (-2), gc, fc, gm, fm, ?_, ?_, hR⟩
    · rw [if_neg h]
      rfl
    · rw [if_neg h]
      rfl
