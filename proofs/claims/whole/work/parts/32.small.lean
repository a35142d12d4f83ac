/-! the calls that change little -/
theorem Rel_mk {m nk cp ev tn : Nat} {op wt sz pt tp : Nat → Nat} {bd : Nat → Int} {gc : sG} {fc : sF} {gm : sG} {fm : sF} (hB : Base m nk cp ev op wt sz pt bd) (hC : Cb m nk cp ev op wt sz pt bd gc fc) (hM : Mb m nk cp ev op wt sz pt bd gm fm) (hT : Tb tn tp gc fc gm fm) (h4 : gc 4 = I 0) (h5 : gm 4 = I 0) (hp : gc 14 = gm 6) : Rel gc fc gm fm :=
  ⟨m, nk, cp, ev, tn, op, wt, sz, pt, tp, fun _ => 0, bd, false, hB, hC, hM, hT, ⟨h4, h5⟩, hp⟩
theorem r_clear : Stw p_FH_clear p_M_clear := by
  intro gc fc gm fm ⟨m, nk, cp, ev, tn, op, wt, sz, pt, tp, st, bd, fd, hB, hC, hM, ⟨t0, t1, t2, t3⟩, hF, hp⟩
  obtain ⟨⟨c0, c1, c2, c3⟩, cO, cW, cS, cP⟩ := hC
  obtain ⟨⟨m0, m1, m2, m3⟩, mO, mW, mS, mP⟩ := hM
  unfold p_FH_clear p_M_clear p_Pl_forget
  simp only [lt_, Option.bind_some, c3, m3]
  refine ⟨_, _, _, _, _, rfl, rfl, Rel_mk (m := 0) (nk := nk) (cp := cp) (ev := 0) (tn := tn) (op := op) (wt := wt) (sz := sz) (pt := pt) (bd := bd) (tp := tp) ?_ ?_ ?_ ?_ ?_ ?_ ?_⟩
  · exact ⟨⟨by omega, hB.1.2.1, hB.1.2.2.1, hB.1.2.2.2.1, by omega⟩, fun i h => by omega, hB.2.2.1, fun e h => by omega, fun e h => by omega⟩
  · exact ⟨⟨rfl, c1, c2, rfl⟩, fun i h => by omega, cW, fun e h => by omega, fun e h => by omega⟩
  · exact ⟨⟨rfl, m1, m2, rfl⟩, fun i h => by omega, mW, fun e h => by omega, fun e h => by omega⟩
  · exact ⟨t0, t1, t2, t3⟩
  · rfl
  · rfl
  · exact hp
theorem r_neck (a : Int32) : Stw (p_FH_neck a) (p_M_neck a) := by
  intro gc fc gm fm hR
  obtain ⟨m, nk, cp, ev, tn, op, wt, sz, pt, tp, st, bd, fd, hB, hC, hM, ⟨t0, t1, t2, t3⟩, hF, hp⟩ := id hR
  obtain ⟨⟨c0, c1, c2, c3⟩, cO, cW, cS, cP⟩ := hC
  obtain ⟨⟨m0, m1, m2, m3⟩, mO, mW, mS, mP⟩ := hM
  obtain ⟨⟨b0, b1, b2, b3, b4⟩, bO, bW, bS, bP⟩ := hB
  obtain ⟨x, rfl, x1, x2⟩ := I_ex a
  unfold p_FH_neck p_M_neck p_Pl_forget
  simp (disch := omega) only [l_0, l_1, l_2, l_3, l_4, l_5, l_6, l_7, l_9, l_10, l_20, l_24, l_25, l_31, l_40, l_45, l_48, l_57, l_99, l_123, l_124, l_127, l_2000, l_far, l_999999, I_add, I_sub, I_mul, I_neg, I_lt, I_le, I_eq, I_nat, reduceIte, Int.reduceNeg, Int.reduceEq, Int.reduceLT, Int.reduceLE, Int.reduceAdd, Int.reduceSub, Int.reduceMul, Int.reduceToNat, tn_n, tn_4, tn_4b, tn_4c, tn_25, tn_25b, gdG, if01, ite_not, lt_, Option.bind_some, Option.bind_none, and_true, true_and, and_false, false_and, or_false, false_or, or_true, true_or, not_true_eq_false, not_false_eq_true, if_true, if_false, within_v, c1, c2, m1, m2]
  by_cases h : 1 ≤ x ∧ x ≤ 24 ∧ (cp : Int) < x
  · rw [if_neg (by omega), if_neg (by omega), if_pos (by omega), if_pos (by omega), if_pos (by omega)]
    obtain ⟨n, rfl⟩ : ∃ n : Nat, x = n := ⟨x.toNat, by omega⟩
    refine ⟨_, _, _, _, _, rfl, rfl, Rel_mk (m := m) (nk := n) (cp := cp) (ev := ev) (tn := tn) (op := op) (wt := wt) (sz := sz) (pt := pt) (bd := bd) (tp := tp) ?_ ?_ ?_ ?_ ?_ ?_ ?_⟩
    · exact ⟨⟨b0, by omega, by omega, by omega, b4⟩, bO, bW, bS, bP⟩
    · exact ⟨⟨c0, rfl, c2, c3⟩, cO, cW, cS, cP⟩
    · exact ⟨⟨m0, rfl, m2, m3⟩, mO, mW, mS, mP⟩
    · exact ⟨t0, t1, t2, t3⟩
    · rfl
    · rfl
    · exact hp
  · refine ⟨I (-2), gc, fc, gm, fm, ?_, ?_, hR⟩
    · by_cases h1 : x < 1
      · rw [if_pos h1]
      · by_cases h2 : 24 < x
        · rw [if_neg h1, if_pos h2]
        · rw [if_neg h1, if_neg h2, if_neg (by omega)]
    · by_cases h1 : 1 ≤ x ∧ x ≤ 24
      · rw [if_pos h1, if_neg (by omega)]
      · rw [if_neg h1]
theorem r_capo (a : Int32) : Stw (p_FH_capo a) (p_M_capo a) := by
  intro gc fc gm fm hR
  obtain ⟨m, nk, cp, ev, tn, op, wt, sz, pt, tp, st, bd, fd, hB, hC, hM, ⟨t0, t1, t2, t3⟩, hF, hp⟩ := id hR
  obtain ⟨⟨c0, c1, c2, c3⟩, cO, cW, cS, cP⟩ := hC
  obtain ⟨⟨m0, m1, m2, m3⟩, mO, mW, mS, mP⟩ := hM
  obtain ⟨⟨b0, b1, b2, b3, b4⟩, bO, bW, bS, bP⟩ := hB
  obtain ⟨x, rfl, x1, x2⟩ := I_ex a
  unfold p_FH_capo p_M_capo p_Pl_forget
  simp (disch := omega) only [l_0, l_1, l_2, l_3, l_4, l_5, l_6, l_7, l_9, l_10, l_20, l_24, l_25, l_31, l_40, l_45, l_48, l_57, l_99, l_123, l_124, l_127, l_2000, l_far, l_999999, I_add, I_sub, I_mul, I_neg, I_lt, I_le, I_eq, I_nat, reduceIte, Int.reduceNeg, Int.reduceEq, Int.reduceLT, Int.reduceLE, Int.reduceAdd, Int.reduceSub, Int.reduceMul, Int.reduceToNat, tn_n, tn_4, tn_4b, tn_4c, tn_25, tn_25b, gdG, if01, ite_not, lt_, Option.bind_some, Option.bind_none, and_true, true_and, and_false, false_and, or_false, false_or, or_true, true_or, not_true_eq_false, not_false_eq_true, if_true, if_false, within_v, c1, c2, m1, m2]
  by_cases h : 0 ≤ x ∧ x < (nk : Int)
  · rw [if_neg (by omega), if_pos (by omega), if_pos (by omega)]
    obtain ⟨n, rfl⟩ : ∃ n : Nat, x = n := ⟨x.toNat, by omega⟩
    refine ⟨_, _, _, _, _, rfl, rfl, Rel_mk (m := m) (nk := nk) (cp := n) (ev := ev) (tn := tn) (op := op) (wt := wt) (sz := sz) (pt := pt) (bd := bd) (tp := tp) ?_ ?_ ?_ ?_ ?_ ?_ ?_⟩
    · exact ⟨⟨b0, by omega, by omega, by omega, b4⟩, bO, bW, bS, bP⟩
    · exact ⟨⟨c0, c1, rfl, c3⟩, cO, cW, cS, cP⟩
    · exact ⟨⟨m0, m1, rfl, m3⟩, mO, mW, mS, mP⟩
    · exact ⟨t0, t1, t2, t3⟩
    · rfl
    · rfl
    · exact hp
  · refine ⟨I (-2), gc, fc, gm, fm, ?_, ?_, hR⟩
    · by_cases h1 : x < 0
      · rw [if_pos h1]
      · rw [if_neg h1, if_neg (by omega)]
    · rw [if_neg (by omega)]
theorem r_weight (a b : Int32) : Stw (p_FH_weight a b) (p_M_weight a b) := by
  intro gc fc gm fm hR
  obtain ⟨m, nk, cp, ev, tn, op, wt, sz, pt, tp, st, bd, fd, hB, hC, hM, ⟨t0, t1, t2, t3⟩, hF, hp⟩ := id hR
  obtain ⟨⟨c0, c1, c2, c3⟩, cO, cW, cS, cP⟩ := hC
  obtain ⟨⟨m0, m1, m2, m3⟩, mO, mW, mS, mP⟩ := hM
  obtain ⟨⟨b0, b1, b2, b3, b4⟩, bO, bW, bS, bP⟩ := hB
  obtain ⟨x, rfl, x1, x2⟩ := I_ex a
  obtain ⟨y, rfl, y1, y2⟩ := I_ex b
  unfold p_FH_weight p_M_weight p_Pl_forget
  by_cases h : 0 ≤ x ∧ x < 4 ∧ 0 ≤ y ∧ y ≤ 20
  · obtain ⟨k, rfl⟩ : ∃ n : Nat, x = n := ⟨x.toNat, by omega⟩
    obtain ⟨w, rfl⟩ : ∃ n : Nat, y = n := ⟨y.toNat, by omega⟩
    have hk : k < 4 := by omega
    simp (disch := omega) only [l_0, l_1, l_2, l_3, l_4, l_5, l_6, l_7, l_9, l_10, l_20, l_24, l_25, l_31, l_40, l_45, l_48, l_57, l_99, l_123, l_124, l_127, l_2000, l_far, l_999999, I_add, I_sub, I_mul, I_neg, I_lt, I_le, I_eq, I_nat, reduceIte, Int.reduceNeg, Int.reduceEq, Int.reduceLT, Int.reduceLE, Int.reduceAdd, Int.reduceSub, Int.reduceMul, Int.reduceToNat, tn_n, tn_4, tn_4b, tn_4c, tn_25, tn_25b, gdG, if01, ite_not, lt_, Option.bind_some, Option.bind_none, and_true, true_and, and_false, false_and, or_false, false_or, or_true, true_or, not_true_eq_false, not_false_eq_true, if_true, if_false, within_v, cW k hk, mW k hk]
    rw [if_neg (by omega), if_neg (by omega), if_neg (by omega), if_pos (by omega), if_pos (by omega), if_pos (by omega)]
    refine ⟨_, _, _, _, _, rfl, rfl, Rel_mk (m := m) (nk := nk) (cp := cp) (ev := ev) (tn := tn) (op := op) (wt := nset wt k w) (sz := sz) (pt := pt) (bd := bd) (tp := tp) ?_ ?_ ?_ ?_ ?_ ?_ ?_⟩
    · refine ⟨⟨b0, by omega, by omega, by omega, b4⟩, bO, fun i hi => ?_, bS, bP⟩
      rw [nset_e]
      by_cases q : i = k
      · rw [if_pos q]; omega
      · rw [if_neg q]; exact bW i hi
    · refine ⟨⟨c0, c1, c2, c3⟩, cO, fun i hi => ?_, cS, cP⟩
      rw [up2_e, nset_e]
      by_cases q : i = k
      · rw [if_pos q, if_pos ⟨rfl, q⟩]
      · rw [if_neg q, if_neg (fun z => q z.2)]; exact cW i hi
    · refine ⟨⟨m0, m1, m2, m3⟩, mO, fun i hi => ?_, mS, mP⟩
      rw [up2_e, nset_e]
      by_cases q : i = k
      · rw [if_pos q, if_pos ⟨rfl, q⟩]
      · rw [if_neg q, if_neg (fun z => q z.2)]; exact mW i hi
    · exact ⟨t0, t1, t2, t3⟩
    · rfl
    · rfl
    · exact hp
  · refine ⟨I (-2), gc, fc, gm, fm, ?_, ?_, hR⟩
    · simp (disch := omega) only [l_0, l_1, l_2, l_3, l_4, l_5, l_6, l_7, l_9, l_10, l_20, l_24, l_25, l_31, l_40, l_45, l_48, l_57, l_99, l_123, l_124, l_127, l_2000, l_far, l_999999, I_lt, I_le, I_neg]
      by_cases h1 : x < 0
      · rw [if_pos h1]
      · by_cases h2 : 4 ≤ x
        · rw [if_neg h1, if_pos h2]
        · by_cases h3 : y < 0
          · rw [if_neg h1, if_neg h2, if_pos h3]
          · rw [if_neg h1, if_neg h2, if_neg h3, if_neg (by omega)]
    · simp (disch := omega) only [l_0, l_1, l_2, l_3, l_4, l_5, l_6, l_7, l_9, l_10, l_20, l_24, l_25, l_31, l_40, l_45, l_48, l_57, l_99, l_123, l_124, l_127, l_2000, l_far, l_999999, I_neg, within_v, Option.bind_some, if01, ite_not]
      by_cases h1 : 0 ≤ x ∧ x ≤ 3
      · rw [if_pos h1, if_neg (by omega)]
      · rw [if_neg h1]
theorem r_drop : Stw p_FH_drop p_M_drop := by
  intro gc fc gm fm hR
  obtain ⟨m, nk, cp, ev, tn, op, wt, sz, pt, tp, st, bd, fd, hB, hC, hM, ⟨t0, t1, t2, t3⟩, hF, hp⟩ := id hR
  obtain ⟨⟨c0, c1, c2, c3⟩, cO, cW, cS, cP⟩ := hC
  obtain ⟨⟨m0, m1, m2, m3⟩, mO, mW, mS, mP⟩ := hM
  obtain ⟨⟨b0, b1, b2, b3, b4⟩, bO, bW, bS, bP⟩ := hB
  unfold p_FH_drop p_M_drop p_Pl_forget
  simp (disch := omega) only [l_0, l_1, l_2, l_3, l_4, l_5, l_6, l_7, l_9, l_10, l_20, l_24, l_25, l_31, l_40, l_45, l_48, l_57, l_99, l_123, l_124, l_127, l_2000, l_far, l_999999, I_add, I_sub, I_mul, I_neg, I_lt, I_le, I_eq, I_nat, reduceIte, Int.reduceNeg, Int.reduceEq, Int.reduceLT, Int.reduceLE, Int.reduceAdd, Int.reduceSub, Int.reduceMul, Int.reduceToNat, tn_n, tn_4, tn_4b, tn_4c, tn_25, tn_25b, gdG, if01, ite_not, lt_, Option.bind_some, Option.bind_none, and_true, true_and, and_false, false_and, or_false, false_or, or_true, true_or, not_true_eq_false, not_false_eq_true, if_true, if_false, c3, m3]
  by_cases h : (ev : Int) = 0
  · rw [if_pos h, if_pos h]
    exact ⟨_, gc, fc, gm, fm, rfl, rfl, hR⟩
  · rw [if_neg h, if_neg h]
    obtain ⟨n, rfl⟩ : ∃ n : Nat, ev = n + 1 := ⟨ev - 1, by omega⟩
    have en : ((n + 1 : Nat) : Int) - 1 = (n : Int) := by omega
    rw [en]
    refine ⟨I n, _, _, _, _, rfl, rfl, Rel_mk (m := m) (nk := nk) (cp := cp) (ev := n) (tn := tn) (op := op) (wt := wt) (sz := sz) (pt := pt) (bd := bd) (tp := tp) ?_ ?_ ?_ ?_ ?_ ?_ ?_⟩
    · exact ⟨⟨b0, b1, b2, b3, by omega⟩, bO, bW, fun e he => bS e (by omega), fun e he => bP e (by omega)⟩
    · exact ⟨⟨c0, c1, c2, rfl⟩, cO, cW, fun e he => cS e (by omega), fun e he => cP e (by omega)⟩
    · exact ⟨⟨m0, m1, m2, rfl⟩, mO, mW, fun e he => mS e (by omega), fun e he => mP e (by omega)⟩
    · exact ⟨t0, t1, t2, t3⟩
    · rfl
    · rfl
    · exact hp
theorem r_string (a : Int32) : Stw (p_FH_string a) (p_M_string a) := by
  intro gc fc gm fm hR
  obtain ⟨m, nk, cp, ev, tn, op, wt, sz, pt, tp, st, bd, fd, hB, hC, hM, ⟨t0, t1, t2, t3⟩, hF, hp⟩ := id hR
  obtain ⟨⟨c0, c1, c2, c3⟩, cO, cW, cS, cP⟩ := hC
  obtain ⟨⟨m0, m1, m2, m3⟩, mO, mW, mS, mP⟩ := hM
  obtain ⟨⟨b0, b1, b2, b3, b4⟩, bO, bW, bS, bP⟩ := hB
  obtain ⟨x, rfl, x1, x2⟩ := I_ex a
  unfold p_FH_string p_M_string p_Pl_forget p_In_addString
  simp (disch := omega) only [l_0, l_1, l_2, l_3, l_4, l_5, l_6, l_7, l_9, l_10, l_20, l_24, l_25, l_31, l_40, l_45, l_48, l_57, l_99, l_123, l_124, l_127, l_2000, l_far, l_999999, I_add, I_sub, I_mul, I_neg, I_lt, I_le, I_eq, I_nat, reduceIte, Int.reduceNeg, Int.reduceEq, Int.reduceLT, Int.reduceLE, Int.reduceAdd, Int.reduceSub, Int.reduceMul, Int.reduceToNat, tn_n, tn_4, tn_4b, tn_4c, tn_25, tn_25b, gdG, if01, ite_not, lt_, Option.bind_some, Option.bind_none, and_true, true_and, and_false, false_and, or_false, false_or, or_true, true_or, not_true_eq_false, not_false_eq_true, if_true, if_false, within_v, c3, m3, c0, m0]
  by_cases h : 0 ≤ x ∧ x ≤ 99
  · rw [if_neg (by omega), if_pos (by omega), if_pos h]
    by_cases h1 : (ev : Int) ≤ 0
    · rw [if_pos h1, if_pos h1]
      by_cases h2 : m = 7
      · subst h2
        exact ⟨I (-5), gc, fc, gm, fm, rfl, rfl, hR⟩
      · rw [if_pos (by omega), if_neg (by omega)]
        simp (disch := omega) only [l_0, l_1, l_2, l_3, l_4, l_5, l_6, l_7, l_9, l_10, l_20, l_24, l_25, l_31, l_40, l_45, l_48, l_57, l_99, l_123, l_124, l_127, l_2000, l_far, l_999999, I_add, I_sub, I_mul, I_neg, I_lt, I_le, I_eq, I_nat, reduceIte, Int.reduceNeg, Int.reduceEq, Int.reduceLT, Int.reduceLE, Int.reduceAdd, Int.reduceSub, Int.reduceMul, Int.reduceToNat, tn_n, tn_4, tn_4b, tn_4c, tn_25, tn_25b, gdG, if01, ite_not, lt_, Option.bind_some, Option.bind_none, and_true, true_and, and_false, false_and, or_false, false_or, or_true, true_or, not_true_eq_false, not_false_eq_true, if_true, if_false]
        obtain ⟨n, rfl⟩ : ∃ n : Nat, x = n := ⟨x.toNat, by omega⟩
        refine ⟨I ((m : Int) + 1), _, _, _, _, rfl, rfl, Rel_mk (m := m + 1) (nk := nk) (cp := cp) (ev := ev) (tn := tn) (op := nset op m n) (wt := wt) (sz := sz) (pt := pt) (bd := bd) (tp := tp) ?_ ?_ ?_ ?_ ?_ ?_ ?_⟩
        · refine ⟨⟨by omega, b1, b2, b3, b4⟩, fun i hi => ?_, bW, bS, fun e he => by omega⟩
          rw [nset_e]
          by_cases q : i = m
          · rw [if_pos q]; omega
          · rw [if_neg q]; exact bO i (by omega)
        · refine ⟨⟨rfl, c1, c2, c3⟩, fun i hi => ?_, cW, cS, fun e he => by omega⟩
          rw [up2_e, nset_e]
          by_cases q : i = m
          · rw [if_pos q, if_pos ⟨rfl, q⟩]
          · rw [if_neg q, if_neg (fun z => q z.2)]; exact cO i (by omega)
        · refine ⟨⟨rfl, m1, m2, m3⟩, fun i hi => ?_, mW, mS, fun e he => by omega⟩
          rw [up2_e, nset_e]
          by_cases q : i = m
          · rw [if_pos q, if_pos ⟨rfl, q⟩]
          · rw [if_neg q, if_neg (fun z => q z.2)]; exact mO i (by omega)
        · exact ⟨t0, t1, t2, t3⟩
        · rfl
        · rfl
        · exact hp
    · rw [if_neg h1, if_neg h1]
      exact ⟨_, gc, fc, gm, fm, rfl, rfl, hR⟩
  · refine ⟨I (-2), gc, fc, gm, fm, ?_, ?_, hR⟩
    · by_cases h1 : x < 0
      · rw [if_pos h1]
      · rw [if_neg h1, if_neg (by omega)]
    · rw [if_neg h]
theorem signAt_v {g : sG} {f : sF} {tn : Nat} {z : Int} (h3 : g 12 = I tn) (hv : tn ≤ 2000) (h1 : -2147483648 ≤ z) (h2 : z < 2147483648) : p_Ta_signAt (I z) g f = some (if 0 ≤ z ∧ z < tn then f 19 z.toNat else I (-1)) := by
  unfold p_Ta_signAt
  simp (disch := omega) only [h3, l_0, l_1, l_2, l_3, l_4, l_5, l_6, l_7, l_9, l_10, l_20, l_24, l_25, l_31, l_40, l_45, l_48, l_57, l_99, l_123, l_124, l_127, l_2000, l_far, l_999999, I_add, I_sub, I_mul, I_neg, I_lt, I_le, I_eq, I_nat, reduceIte, Int.reduceNeg, Int.reduceEq, Int.reduceLT, Int.reduceLE, Int.reduceAdd, Int.reduceSub, Int.reduceMul, Int.reduceToNat, tn_n, tn_4, tn_4b, tn_4c, tn_25, tn_25b, gdG, if01, ite_not, lt_, Option.bind_some, Option.bind_none, and_true, true_and, and_false, false_and, or_false, false_or, or_true, true_or, not_true_eq_false, not_false_eq_true, if_true, if_false]
  split
  · rw [if_neg (by omega)]
  · split
    · rw [if_neg (by omega)]
    · rw [if_pos (by omega)]
theorem r_tape (a : Int32) : Sro (p_FH_tape a) (p_M_tape a) := by
  intro gc fc gm fm ⟨m, nk, cp, ev, tn, op, wt, sz, pt, tp, st, bd, fd, hB, hC, hM, ⟨t0, t1, t2, t3⟩, _, _⟩
  obtain ⟨x, rfl, x1, x2⟩ := I_ex a
  unfold p_FH_tape p_M_tape
  rw [signAt_v t1 t0 x1 x2]
  simp (disch := omega) only [t2, l_0, l_1, l_2, l_3, l_4, l_5, l_6, l_7, l_9, l_10, l_20, l_24, l_25, l_31, l_40, l_45, l_48, l_57, l_99, l_123, l_124, l_127, l_2000, l_far, l_999999, I_add, I_sub, I_mul, I_neg, I_lt, I_le, I_eq, I_nat, reduceIte, Int.reduceNeg, Int.reduceEq, Int.reduceLT, Int.reduceLE, Int.reduceAdd, Int.reduceSub, Int.reduceMul, Int.reduceToNat, tn_n, tn_4, tn_4b, tn_4c, tn_25, tn_25b, gdG, if01, ite_not, lt_, Option.bind_some, Option.bind_none, and_true, true_and, and_false, false_and, or_false, false_or, or_true, true_or, not_true_eq_false, not_false_eq_true, if_true, if_false, within_v]
  by_cases h : 0 ≤ x ∧ x < tn
  · rw [if_pos h, if_pos (by omega)]
    have := t3 x.toNat (by omega)
    exact ⟨_, rfl, by rw [this.1, this.2.1]⟩
  · rw [if_neg h, if_neg (by omega)]
    exact ⟨_, rfl, rfl⟩
theorem r_empty : Stw p_FH_empty p_M_empty := by
  intro gc fc gm fm hR
  obtain ⟨m, nk, cp, ev, tn, op, wt, sz, pt, tp, st, bd, fd, hB, hC, hM, ⟨t0, t1, t2, t3⟩, hF, hp⟩ := id hR
  unfold p_FH_empty p_M_empty
  simp only [lt_, t1, t2]
  refine ⟨_, _, _, _, _, rfl, rfl, m, nk, cp, ev, 0, op, wt, sz, pt, tp, st, bd, fd, hB, hC, hM, ⟨by omega, rfl, rfl, fun i h => by omega⟩, ?_, hp⟩
  cases fd
  · exact hF
  · exact hF
theorem r_sign (a : Int32) : Stw (p_FH_sign a) (p_M_sign a) := by
  intro gc fc gm fm hR
  obtain ⟨m, nk, cp, ev, tn, op, wt, sz, pt, tp, st, bd, fd, hB, hC, hM, ⟨t0, t1, t2, t3⟩, hF, hp⟩ := id hR
  obtain ⟨x, rfl, x1, x2⟩ := I_ex a
  unfold p_FH_sign p_M_sign p_Ta_add p_M_put
  simp (disch := omega) only [t1, t2, l_0, l_1, l_2, l_3, l_4, l_5, l_6, l_7, l_9, l_10, l_20, l_24, l_25, l_31, l_40, l_45, l_48, l_57, l_99, l_123, l_124, l_127, l_2000, l_far, l_999999, I_add, I_sub, I_mul, I_neg, I_lt, I_le, I_eq, I_nat, reduceIte, Int.reduceNeg, Int.reduceEq, Int.reduceLT, Int.reduceLE, Int.reduceAdd, Int.reduceSub, Int.reduceMul, Int.reduceToNat, tn_n, tn_4, tn_4b, tn_4c, tn_25, tn_25b, gdG, if01, ite_not, lt_, Option.bind_some, Option.bind_none, and_true, true_and, and_false, false_and, or_false, false_or, or_true, true_or, not_true_eq_false, not_false_eq_true, if_true, if_false, within_v]
  by_cases h : 1 ≤ x ∧ x ≤ 127
  · rw [if_neg (by omega), if_pos (by omega), if_pos h]
    by_cases h2 : tn = 2000
    · subst h2
      exact ⟨I (-5), gc, fc, gm, fm, rfl, rfl, hR⟩
    · rw [if_pos (by omega), if_neg (by omega)]
      simp (disch := omega) only [l_0, l_1, l_2, l_3, l_4, l_5, l_6, l_7, l_9, l_10, l_20, l_24, l_25, l_31, l_40, l_45, l_48, l_57, l_99, l_123, l_124, l_127, l_2000, l_far, l_999999, I_add, I_sub, I_mul, I_neg, I_lt, I_le, I_eq, I_nat, reduceIte, Int.reduceNeg, Int.reduceEq, Int.reduceLT, Int.reduceLE, Int.reduceAdd, Int.reduceSub, Int.reduceMul, Int.reduceToNat, tn_n, tn_4, tn_4b, tn_4c, tn_25, tn_25b, gdG, if01, ite_not, lt_, Option.bind_some, Option.bind_none, and_true, true_and, and_false, false_and, or_false, false_or, or_true, true_or, not_true_eq_false, not_false_eq_true, if_true, if_false]
      obtain ⟨n, rfl⟩ : ∃ n : Nat, x = n := ⟨x.toNat, by omega⟩
      refine ⟨I ((tn : Int) + 1), _, _, _, _, rfl, rfl, m, nk, cp, ev, tn + 1, op, wt, sz, pt, nset tp tn n, st, bd, fd, hB, hC, hM, ⟨by omega, rfl, rfl, fun i hi => ?_⟩, ?_, hp⟩
      · rw [up2_e, up2_e, nset_e]
        by_cases q : i = tn
        · rw [if_pos q, if_pos ⟨rfl, q⟩, if_pos ⟨rfl, q⟩]
          exact ⟨rfl, rfl, by omega⟩
        · rw [if_neg q, if_neg (fun z => q z.2), if_neg (fun z => q z.2)]
          exact t3 i (by omega)
      · cases fd
        · exact hF
        · exact hF
  · refine ⟨I (-2), gc, fc, gm, fm, ?_, ?_, hR⟩
    · by_cases h1 : x < 1
      · rw [if_pos h1]
      · rw [if_neg h1, if_neg (by omega)]
    · rw [if_neg h]
