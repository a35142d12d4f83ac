/-! pitch, bind, planned -/
section A3
variable {m nk cp ev : Nat} {op wt sz pt : Nat → Nat} {bd : Nat → Int} {g : sG} {f : sF}
theorem contains_L (hB : Base m nk cp ev op wt sz pt bd) (hC : Cb m nk cp ev op wt sz pt bd g f) {e : Nat} {x : Int} (he : e < ev) (h1 : -2147483648 ≤ x) (h2 : x < 2147483648) : ∀ n i : Nat, sz e - i < n → i ≤ sz e →
    ((∃ j, i ≤ j ∧ j < sz e ∧ (pt (4 * e + j) : Int) = x) → itr (fun K z => p_Tu_contains_L9 K z.1 z.2.1 z.2.2.1 z.2.2.2 g f) n (I e, I x, I (sz e), I i) = some (I 1)) ∧
    ((∀ j, i ≤ j → j < sz e → (pt (4 * e + j) : Int) ≠ x) → itr (fun K z => p_Tu_contains_L9 K z.1 z.2.1 z.2.2.1 z.2.2.2 g f) n (I e, I x, I (sz e), I i) = some (I 0)) := by
  have hs := hB.2.2.2.1 e he
  intro n
  induction n with
  | zero => intro i h; omega
  | succ n ih =>
    intro i hn hi
    have e1 : (i : Int) + 1 = ((i + 1 : Nat) : Int) := by omega
    simp only [itr_s]
    generalize itr (fun K z => p_Tu_contains_L9 K z.1 z.2.1 z.2.2.1 z.2.2.2 g f) n = K at ih ⊢
    unfold p_Tu_contains_L9
    by_cases q : i = sz e
    · subst q
      refine ⟨fun ⟨j, a, b, _⟩ => by omega, fun _ => ?_⟩
      simp (disch := omega) only [l_0, l_1, l_2, l_3, l_4, l_5, l_6, l_7, l_9, l_10, l_20, l_24, l_25, l_31, l_40, l_45, l_48, l_57, l_99, l_123, l_124, l_127, l_2000, l_far, l_999999, I_le, Int.le_refl, if_true]
    · have hp := (hB.2.2.2.2 e he i (by omega)).1
      rw [pitchOf_v hB hC he (by omega)]
      simp (disch := omega) only [l_0, l_1, l_2, l_3, l_4, l_5, l_6, l_7, l_9, l_10, l_20, l_24, l_25, l_31, l_40, l_45, l_48, l_57, l_99, l_123, l_124, l_127, l_2000, l_far, l_999999, lt_, Option.bind_some, I_le, I_eq, I_add, e1]
      rw [if_neg (by omega)]
      by_cases hx : (pt (4 * e + i) : Int) = x
      · rw [if_pos hx]
        exact ⟨fun _ => rfl, fun h => absurd hx (h i (Nat.le_refl i) (by omega))⟩
      · rw [if_neg hx]
        obtain ⟨i1, i2⟩ := ih (i + 1) (by omega) (by omega)
        refine ⟨fun ⟨j, a, b, c⟩ => i1 ⟨j, ?_, b, c⟩, fun h => i2 (fun j a b => h j (by omega) b)⟩
        rcases Nat.lt_or_ge i j with w | w
        · exact w
        · have : j = i := by omega
          subst this
          exact absurd c hx
theorem contains_v (hB : Base m nk cp ev op wt sz pt bd) (hC : Cb m nk cp ev op wt sz pt bd g f) {e : Nat} {x : Int} (he : e < ev) (h1 : -2147483648 ≤ x) (h2 : x < 2147483648) :
    ((∃ j, j < sz e ∧ (pt (4 * e + j) : Int) = x) → p_Tu_contains (I e) (I x) g f = some (I 1)) ∧ ((∀ j, j < sz e → (pt (4 * e + j) : Int) ≠ x) → p_Tu_contains (I e) (I x) g f = some (I 0)) := by
  have hs := hB.2.2.2.1 e he
  unfold p_Tu_contains
  rw [sizeOf_v hB hC he, Option.bind_some, FUEL_eq]
  obtain ⟨i1, i2⟩ := contains_L hB hC he h1 h2 6000 0 (by omega) (by omega)
  exact ⟨fun ⟨j, a, b⟩ => i1 ⟨j, Nat.zero_le j, a, b⟩, fun h => i2 (fun j _ b => h j b)⟩
theorem contains_0 (h3 : g 3 = I 0) {x : Int} : p_Tu_contains (I (-1)) (I x) g f = some (I 0) := by
  unfold p_Tu_contains p_Tu_sizeOf
  rw [hasEvent_v (ev := 0) h3 (by omega) (by omega) (by omega), if_neg (by omega)]
  simp only [Option.bind_some, l_0, if_true, FUEL_eq]
  rfl
theorem mhas_L (hB : Base m nk cp ev op wt sz pt bd) (hC : Mb m nk cp ev op wt sz pt bd g f) {e : Nat} {x : Int} (he : e < ev) (h1 : -2147483648 ≤ x) (h2 : x < 2147483648) : ∀ n i : Nat, sz e - i < n → i ≤ sz e →
    (itr (fun K z => p_M_hasPitch_L5 K z.1 z.2.1 z.2.2.1 z.2.2.2 g f) n (I e, I x, I 1, I i) = some (I 1)) ∧
    ((∃ j, i ≤ j ∧ j < sz e ∧ (pt (4 * e + j) : Int) = x) → itr (fun K z => p_M_hasPitch_L5 K z.1 z.2.1 z.2.2.1 z.2.2.2 g f) n (I e, I x, I 0, I i) = some (I 1)) ∧
    ((∀ j, i ≤ j → j < sz e → (pt (4 * e + j) : Int) ≠ x) → itr (fun K z => p_M_hasPitch_L5 K z.1 z.2.1 z.2.2.1 z.2.2.2 g f) n (I e, I x, I 0, I i) = some (I 0)) := by
  have hs := hB.2.2.2.1 e he
  have hv := hB.1.2.2.2.2
  intro n
  induction n with
  | zero => intro i h; omega
  | succ n ih =>
    intro i hn hi
    have e1 : (i : Int) + 1 = ((i + 1 : Nat) : Int) := by omega
    simp only [itr_s]
    generalize itr (fun K z => p_M_hasPitch_L5 K z.1 z.2.1 z.2.2.1 z.2.2.2 g f) n = K at ih ⊢
    unfold p_M_hasPitch_L5
    simp (disch := omega) only [l_0, l_1, l_2, l_3, l_4, l_5, l_6, l_7, l_9, l_10, l_20, l_24, l_25, l_31, l_40, l_45, l_48, l_57, l_99, l_123, l_124, l_127, l_2000, l_far, l_999999, lt_, I_le, I_lt, I_nat, tn_n, gdG, I_eq, I_add, I_mul, tn_4, e1, hC.2.2.2.1 e he, reduceIte, Int.reduceNeg, Int.reduceEq, Int.reduceLT, Int.reduceLE, Int.reduceAdd, Int.reduceSub, Int.reduceMul, Int.reduceToNat]
    by_cases q : i = sz e
    · subst q
      simp only [Int.le_refl, if_true, not_true_eq_false, not_false_eq_true, and_false, false_and, if_false, true_and]
      exact ⟨fun ⟨j, a, b, _⟩ => by omega, fun _ => trivial⟩
    · have hp := (hB.2.2.2.2 e he i (by omega)).1
      rw [if_neg (by omega), if_neg (by omega)]
      simp (disch := omega) only [(hC.2.2.2.2 e he i (by omega)).1, I_eq, I_lt, gdG]
      obtain ⟨i0, i1, i2⟩ := ih (i + 1) (by omega) (by omega)
      refine ⟨i0, ?_, ?_⟩
      · intro ⟨j, a, b, c⟩
        by_cases hx : (pt (4 * e + i) : Int) = x
        · rw [if_pos hx]; exact i0
        · rw [if_neg hx]
          refine i1 ⟨j, ?_, b, c⟩
          rcases Nat.lt_or_ge i j with w | w
          · exact w
          · have : j = i := by omega
            subst this
            exact absurd c hx
      · intro h
        rw [if_neg (h i (Nat.le_refl i) (by omega))]
        exact i2 (fun j a b => h j (by omega) b)
theorem mhas_v (hB : Base m nk cp ev op wt sz pt bd) (hC : Mb m nk cp ev op wt sz pt bd g f) {e : Nat} {x : Int} (he : e < ev) (h1 : -2147483648 ≤ x) (h2 : x < 2147483648) :
    ((∃ j, j < sz e ∧ (pt (4 * e + j) : Int) = x) → p_M_hasPitch (I e) (I x) g f = some (I 1)) ∧ ((∀ j, j < sz e → (pt (4 * e + j) : Int) ≠ x) → p_M_hasPitch (I e) (I x) g f = some (I 0)) := by
  have hs := hB.2.2.2.1 e he
  unfold p_M_hasPitch
  rw [FUEL_eq]
  obtain ⟨-, i1, i2⟩ := mhas_L hB hC he h1 h2 6000 0 (by omega) (by omega)
  exact ⟨fun ⟨j, a, b⟩ => i1 ⟨j, Nat.zero_le j, a, b⟩, fun h => i2 (fun j _ b => h j b)⟩
end A3
theorem sizeOf_w {g : sG} {f : sF} {e ev : Nat} (h3 : g 3 = I ev) (h4 : ev ≤ 40) (he : e < ev) : p_Tu_sizeOf (I e) g f = some (f 2 e) := by
  unfold p_Tu_sizeOf
  rw [hasEvent_v h3 h4 (by omega) (by omega), if_pos (by omega)]
  simp (disch := omega) only [l_0, l_1, l_2, l_3, l_4, l_5, l_6, l_7, l_9, l_10, l_20, l_24, l_25, l_31, l_40, l_45, l_48, l_57, l_99, l_123, l_124, l_127, l_2000, l_far, l_999999, I_add, I_sub, I_mul, I_neg, I_lt, I_le, I_eq, I_nat, reduceIte, Int.reduceNeg, Int.reduceEq, Int.reduceLT, Int.reduceLE, Int.reduceAdd, Int.reduceSub, Int.reduceMul, Int.reduceToNat, tn_n, tn_4, tn_4b, tn_4c, tn_25, tn_25b, gdG, if01, ite_not, lt_, Option.bind_some, Option.bind_none, and_true, true_and, and_false, false_and, or_false, false_or, or_true, true_or, not_true_eq_false, not_false_eq_true, if_true, if_false]
theorem mpitch_v {g : sG} {f : sF} {e s : Nat} (he : e < 40) (hs : f 2 e = I s) (h4 : s < 4) (x : Int32) : p_M_pitch_J33 x (I e) g f = some (I ((s : Int) + 1), upd g 4 (I 0), up2 (up2 (up2 f 3 (4 * e + s) x) 4 (4 * e + s) (I (-1))) 2 e (I ((s : Int) + 1))) := by
  unfold p_M_pitch_J33
  simp (disch := omega) only [l_0, l_1, l_2, l_3, l_4, l_5, l_6, l_7, l_9, l_10, l_20, l_24, l_25, l_31, l_40, l_45, l_48, l_57, l_99, l_123, l_124, l_127, l_2000, l_far, l_999999, I_le, I_lt, I_nat, tn_n, gdG, hs, I_eq, I_mul, I_add, tn_4, I_neg, reduceIte, Int.reduceNeg, Int.reduceEq, Int.reduceLT, Int.reduceLE, Int.reduceAdd, Int.reduceSub, Int.reduceMul, Int.reduceToNat]
  rw [if_pos (by omega), if_neg (by omega)]
  unfold lt_
  have q1 : up2 f 3 (4 * e + s) x 2 e = I s := by rw [up2_n _ _ _ (by omega), hs]
  simp (disch := omega) only [I_lt, I_nat, tn_n, gdG, q1, I_add, tn_4]
  have q2 : up2 (up2 f 3 (4 * e + s) x) 4 (4 * e + s) (I (-1)) 2 e = I s := by rw [up2_n _ _ _ (by omega), q1]
  simp (disch := omega) only [q2, I_add, up2_s, upd_s]
theorem r_pitch (a : Int32) : Stw (p_FH_pitch a) (p_M_pitch a) := by
  intro gc fc gm fm hR
  obtain ⟨m, nk, cp, ev, tn, op, wt, sz, pt, tp, st, bd, fd, hB, hC, hM, ⟨t0, t1, t2, t3⟩, hF, hp⟩ := id hR
  obtain ⟨x, rfl, x1, x2⟩ := I_ex a
  have b4 := hB.1.2.2.2.2
  have c3 := hC.1.2.2.2
  have m3 := hM.1.2.2.2
  unfold p_FH_pitch p_M_pitch
  rw [c3, m3, l_1, I_sub]
  unfold lt_
  rw [isPitch_v x1 x2, l_0, l_123, within_v x1 x2 (by omega) (by omega) (by omega) (by omega)]
  by_cases h : 0 ≤ x ∧ x ≤ 123
  · rw [if_pos h]
    simp (disch := omega) only [Option.bind_some, I_eq, reduceIte, Int.reduceNeg, Int.reduceEq, Int.reduceLT, Int.reduceLE, Int.reduceAdd, Int.reduceSub, Int.reduceMul, Int.reduceToNat]
    by_cases hv : ev = 0
    · subst hv
      rw [show ((0 : Nat) : Int) - 1 = -1 by omega, contains_0 c3]
      exact ⟨I (-4), gc, fc, gm, fm, rfl, rfl, hR⟩
    · obtain ⟨e, rfl⟩ : ∃ e, ev = e + 1 := ⟨ev - 1, by omega⟩
      rw [show ((e + 1 : Nat) : Int) - 1 = e by omega]
      have he : e < e + 1 := Nat.lt_succ_self e
      have hs := hB.2.2.2.1 e he
      obtain ⟨k1, k2⟩ := contains_v hB hC he x1 x2
      obtain ⟨l1, l2⟩ := mhas_v hB hM he x1 x2
      have g1 : ¬ I (e : Int) < I 0 := by rw [I_lt (by omega) (by omega) (by omega) (by omega)]; omega
      have g2 : I 0 ≤ I (e : Int) := by rw [I_le (by omega) (by omega) (by omega) (by omega)]; omega
      rw [if_neg g1, if_pos g2]
      by_cases hx : ∃ j, j < sz e ∧ (pt (4 * e + j) : Int) = x
      · rw [k1 hx, l1 hx]
        exact ⟨I (-2), gc, fc, gm, fm, rfl, rfl, hR⟩
      · have hx' : ∀ j, j < sz e → (pt (4 * e + j) : Int) ≠ x := fun j a b => hx ⟨j, a, b⟩
        rw [k2 hx', l2 hx']
        unfold p_Pl_forget
        have cse := hC.2.2.2.1 e he
        have mse := hM.2.2.2.1 e he
        by_cases h4 : sz e = 4
        · rw [h4] at cse mse
          rw [addPitch_n (e := e) (by rw [c3]; rfl) (by omega) cse]
          unfold p_M_pitch_J33
          simp (disch := omega) only [Option.bind_some, l_0, l_1, l_2, l_3, l_4, l_5, l_6, l_7, l_9, l_10, l_20, l_24, l_25, l_31, l_40, l_45, l_48, l_57, l_99, l_123, l_124, l_127, l_2000, l_far, l_999999, I_eq, I_le, I_lt, I_nat, tn_n, gdG, mse, reduceIte, Int.reduceNeg, Int.reduceEq, Int.reduceLT, Int.reduceLE, Int.reduceAdd, Int.reduceSub, Int.reduceMul, Int.reduceToNat]
          rw [if_pos (by omega)]
          exact ⟨I (-5), gc, fc, gm, fm, rfl, rfl, hR⟩
        · have h4' : sz e < 4 := by omega
          rw [addPitch_v (e := e) (s := sz e) (by rw [c3]; rfl) (by omega) cse h4', mpitch_v (by omega) mse h4']
          simp (disch := omega) only [Option.bind_some, lt_, l_0, l_1, l_2, l_3, l_4, l_5, l_6, l_7, l_9, l_10, l_20, l_24, l_25, l_31, l_40, l_45, l_48, l_57, l_99, l_123, l_124, l_127, l_2000, l_far, l_999999, I_eq, reduceIte, Int.reduceNeg, Int.reduceEq, Int.reduceLT, Int.reduceLE, Int.reduceAdd, Int.reduceSub, Int.reduceMul, Int.reduceToNat]
          rw [sizeOf_w (ev := e + 1) (by rw [upd_n _ _ (by omega)]; exact c3) (by omega) he, up2_s, upd_s, Option.bind_some]
          obtain ⟨n, rfl⟩ : ∃ n : Nat, x = n := ⟨x.toNat, by omega⟩
          obtain ⟨⟨c0, c1, c2, c3⟩, cO, cW, cS, cP⟩ := hC
          obtain ⟨⟨m0, m1, m2, m3⟩, mO, mW, mS, mP⟩ := hM
          obtain ⟨⟨b0, b1, b2, b3, b4⟩, bO, bW, bS, bP⟩ := hB
          refine ⟨_, _, _, _, _, rfl, rfl, Rel_mk (m := m) (nk := nk) (cp := cp) (ev := e + 1) (tn := tn) (op := op) (wt := wt) (sz := nset sz e (sz e + 1)) (pt := nset pt (4 * e + sz e) n) (bd := zset bd (4 * e + sz e) (-1)) (tp := tp) ?_ ?_ ?_ ?_ ?_ ?_ ?_⟩
          · refine ⟨⟨b0, b1, b2, b3, b4⟩, bO, bW, fun d hd => ?_, fun d hd i hi => ?_⟩
            · rw [nset_e]
              split
              · omega
              · exact bS d hd
            · rw [nset_e] at hi
              rw [nset_e, zset_e]
              by_cases q : 4 * d + i = 4 * e + sz e
              · rw [if_pos q, if_pos q]
                omega
              · rw [if_neg q, if_neg q]
                refine bP d hd i ?_
                by_cases q2 : d = e
                · subst q2
                  rw [if_pos rfl] at hi
                  omega
                · rw [if_neg q2] at hi
                  exact hi
          · refine ⟨⟨c0, c1, c2, c3⟩, cO, cW, fun d hd => ?_, fun d hd i hi => ?_⟩
            · rw [up2_e, nset_e]
              by_cases q : d = e
              · rw [if_pos ⟨rfl, q⟩, if_pos q]
                rfl
              · rw [if_neg (fun z => q z.2), if_neg q, up2_n _ _ _ (by omega), up2_n _ _ _ (by omega)]
                exact cS d hd
            · rw [nset_e] at hi
              by_cases q : 4 * d + i = 4 * e + sz e
              · simp only [up2_e, nset_e, zset_e, q, and_self, and_true, true_and, if_true, and_false, false_and, if_false, Nat.reduceEqDiff, reduceIte]
                rfl
              · simp only [up2_e, nset_e, zset_e, q, and_self, and_true, true_and, if_true, and_false, false_and, if_false, Nat.reduceEqDiff, reduceIte]
                refine cP d hd i ?_
                by_cases q2 : d = e
                · subst q2
                  rw [if_pos rfl] at hi
                  omega
                · rw [if_neg q2] at hi
                  exact hi
          · refine ⟨⟨m0, m1, m2, m3⟩, mO, mW, fun d hd => ?_, fun d hd i hi => ?_⟩
            · rw [up2_e, nset_e]
              by_cases q : d = e
              · rw [if_pos ⟨rfl, q⟩, if_pos q]
                rfl
              · rw [if_neg (fun z => q z.2), if_neg q, up2_n _ _ _ (by omega), up2_n _ _ _ (by omega)]
                exact mS d hd
            · rw [nset_e] at hi
              by_cases q : 4 * d + i = 4 * e + sz e
              · simp only [up2_e, nset_e, zset_e, q, and_self, and_true, true_and, if_true, and_false, false_and, if_false, Nat.reduceEqDiff, reduceIte]
              · simp only [up2_e, nset_e, zset_e, q, and_self, and_true, true_and, if_true, and_false, false_and, if_false, Nat.reduceEqDiff, reduceIte]
                refine mP d hd i ?_
                by_cases q2 : d = e
                · subst q2
                  rw [if_pos rfl] at hi
                  omega
                · rw [if_neg q2] at hi
                  exact hi
          · exact ⟨t0, t1, t2, t3⟩
          · rfl
          · rfl
          · exact hp
  · rw [if_neg h]
    exact ⟨I (-2), gc, fc, gm, fm, rfl, rfl, hR⟩
theorem r_bind (a b c : Int32) : Stw (p_FH_bind a b c) (p_M_bind a b c) := by
  intro gc fc gm fm hR
  obtain ⟨m, nk, cp, ev, tn, op, wt, sz, pt, tp, st, bd, fd, hB, hC, hM, ⟨t0, t1, t2, t3⟩, hF, hp⟩ := id hR
  obtain ⟨x, rfl, x1, x2⟩ := I_ex a
  obtain ⟨y, rfl, y1, y2⟩ := I_ex b
  obtain ⟨w, rfl, w1, w2⟩ := I_ex c
  have b0 := hB.1.1
  have b4 := hB.1.2.2.2.2
  have c3 := hC.1.2.2.2
  have m3 := hM.1.2.2.2
  unfold p_FH_bind p_M_bind
  rw [hasEvent_v c3 b4 x1 x2, isEvent_v m3 b4 x1 x2]
  by_cases h : 0 ≤ x ∧ x < ev
  · rw [if_pos h]
    obtain ⟨e, rfl⟩ : ∃ n : Nat, x = n := ⟨x.toNat, by omega⟩
    have he : e < ev := by omega
    have hs := hB.2.2.2.1 e he
    have mse := hM.2.2.2.1 e he
    rw [hasPitch_v hB hC he y1 y2, hasString_v hC.1.1 b0 w1 w2, isString_v hM.1.1 b0 w1 w2]
    simp (disch := omega) only [Option.bind_some, l_0, l_1, l_2, l_3, l_4, l_5, l_6, l_7, l_9, l_10, l_20, l_24, l_25, l_31, l_40, l_45, l_48, l_57, l_99, l_123, l_124, l_127, l_2000, l_far, l_999999, I_eq, I_lt, I_nat, tn_n, gdG, mse, I_sub, within_v, I_neg, if01, ite_not, reduceIte, Int.reduceNeg, Int.reduceEq, Int.reduceLT, Int.reduceLE, Int.reduceAdd, Int.reduceSub, Int.reduceMul, Int.reduceToNat]
    by_cases h2 : 0 ≤ y ∧ y < sz e
    · have h2' : 0 ≤ y ∧ y ≤ (sz e : Int) - 1 := by omega
      rw [if_pos h2, if_pos h2']
      obtain ⟨i, rfl⟩ : ∃ n : Nat, y = n := ⟨y.toNat, by omega⟩
      have hi : i < sz e := by omega
      have main : -1 ≤ w ∧ w < m → ∃ r gc' fc' gm' fm', p_FH_bind_J45 (I e) (I i) (I w) gc fc = some (r, gc', fc') ∧ p_M_bind_J43 (I e) (I i) (I w) gm fm = some (r, gm', fm') ∧ Rel gc' fc' gm' fm' := by
        intro hw
        have k1 : p_Tu_bindPitch (I e) (I i) (I w) gc fc = some (gc, up2 fc 4 (4 * e + i) (I w)) := by
          unfold p_Tu_bindPitch
          rw [hasPitch_v hB hC he (by omega) (by omega), if_pos (by omega)]
          simp (disch := omega) only [l_0, l_1, l_2, l_3, l_4, l_5, l_6, l_7, l_9, l_10, l_20, l_24, l_25, l_31, l_40, l_45, l_48, l_57, l_99, l_123, l_124, l_127, l_2000, l_far, l_999999, I_add, I_sub, I_mul, I_neg, I_lt, I_le, I_eq, I_nat, reduceIte, Int.reduceNeg, Int.reduceEq, Int.reduceLT, Int.reduceLE, Int.reduceAdd, Int.reduceSub, Int.reduceMul, Int.reduceToNat, tn_n, tn_4, tn_4b, tn_4c, tn_25, tn_25b, gdG, if01, ite_not, lt_, Option.bind_some, Option.bind_none, and_true, true_and, and_false, false_and, or_false, false_or, or_true, true_or, not_true_eq_false, not_false_eq_true, if_true, if_false]
        unfold p_FH_bind_J45 p_M_bind_J43 p_Pl_forget
        rw [stringOf_v hB hC he hi, k1]
        simp (disch := omega) only [l_0, l_1, l_2, l_3, l_4, l_5, l_6, l_7, l_9, l_10, l_20, l_24, l_25, l_31, l_40, l_45, l_48, l_57, l_99, l_123, l_124, l_127, l_2000, l_far, l_999999, I_add, I_sub, I_mul, I_neg, I_lt, I_le, I_eq, I_nat, reduceIte, Int.reduceNeg, Int.reduceEq, Int.reduceLT, Int.reduceLE, Int.reduceAdd, Int.reduceSub, Int.reduceMul, Int.reduceToNat, tn_n, tn_4, tn_4b, tn_4c, tn_25, tn_25b, gdG, if01, ite_not, lt_, Option.bind_some, Option.bind_none, and_true, true_and, and_false, false_and, or_false, false_or, or_true, true_or, not_true_eq_false, not_false_eq_true, if_true, if_false, (hM.2.2.2.2 e he i hi).2]
        obtain ⟨⟨c0, c1, c2, c3⟩, cO, cW, cS, cP⟩ := hC
        obtain ⟨⟨m0, m1, m2, m3⟩, mO, mW, mS, mP⟩ := hM
        obtain ⟨⟨b0, b1, b2, b3, b4⟩, bO, bW, bS, bP⟩ := hB
        refine ⟨_, _, _, _, _, rfl, rfl, Rel_mk (m := m) (nk := nk) (cp := cp) (ev := ev) (tn := tn) (op := op) (wt := wt) (sz := sz) (pt := pt) (bd := zset bd (4 * e + i) w) (tp := tp) ?_ ?_ ?_ ?_ ?_ ?_ ?_⟩
        · refine ⟨⟨b0, b1, b2, b3, b4⟩, bO, bW, bS, fun d hd j hj => ?_⟩
          have := bP d hd j hj
          rw [zset_e]
          split
          · omega
          · exact this
        · refine ⟨⟨c0, c1, c2, c3⟩, cO, cW, cS, fun d hd j hj => ?_⟩
          have := cP d hd j hj
          rw [up2_n _ _ _ (by omega), up2_e, zset_e]
          refine ⟨this.1, ?_⟩
          by_cases q : 4 * d + j = 4 * e + i
          · rw [if_pos q, if_pos ⟨rfl, q⟩]
          · rw [if_neg q, if_neg (fun z => q z.2)]
            exact this.2
        · refine ⟨⟨m0, m1, m2, m3⟩, mO, mW, mS, fun d hd j hj => ?_⟩
          have := mP d hd j hj
          rw [up2_n _ _ _ (by omega), up2_e, zset_e]
          refine ⟨this.1, ?_⟩
          by_cases q : 4 * d + j = 4 * e + i
          · rw [if_pos q, if_pos ⟨rfl, q⟩]
          · rw [if_neg q, if_neg (fun z => q z.2)]
            exact this.2
        · exact ⟨t0, t1, t2, t3⟩
        · rfl
        · rfl
        · exact hp
      by_cases h3 : w = -1
      · rw [if_pos h3, if_pos h3]
        exact main (by omega)
      · rw [if_neg h3, if_neg h3]
        by_cases h4 : 0 ≤ w ∧ w < m
        · rw [if_pos h4, if_pos h4]
          exact main (by omega)
        · rw [if_neg h4, if_neg h4]
          exact ⟨I (-2), gc, fc, gm, fm, rfl, rfl, hR⟩
    · have h2' : ¬ (0 ≤ y ∧ y ≤ (sz e : Int) - 1) := by omega
      rw [if_neg h2, if_neg h2']
      exact ⟨I (-2), gc, fc, gm, fm, rfl, rfl, hR⟩
  · rw [if_neg h]
    exact ⟨I (-3), gc, fc, gm, fm, rfl, rfl, hR⟩
theorem r_planned (a b : Int32) : Sro (p_FH_planned a b) (p_M_planned a b) := by
  intro gc fc gm fm ⟨m, nk, cp, ev, tn, op, wt, sz, pt, tp, st, bd, fd, hB, hC, hM, _, hF, hp⟩
  obtain ⟨x, rfl, x1, x2⟩ := I_ex a
  obtain ⟨y, rfl, y1, y2⟩ := I_ex b
  have b4 := hB.1.2.2.2.2
  have c3 := hC.1.2.2.2
  have m3 := hM.1.2.2.2
  unfold p_FH_planned p_M_planned p_Pl_hasEvent
  rw [isEvent_v m3 b4 x1 x2]
  simp (disch := omega) only [l_0, l_1, l_2, l_3, l_4, l_5, l_6, l_7, l_9, l_10, l_20, l_24, l_25, l_31, l_40, l_45, l_48, l_57, l_99, l_123, l_124, l_127, l_2000, l_far, l_999999, I_lt, I_le, I_neg, within_v, Option.bind_some, if01, ite_not]
  by_cases h : 0 ≤ y ∧ y ≤ 6
  · rw [if_neg (by omega), if_pos (by omega), if_pos h]
    cases fd
    · rw [hF.1, hF.2]
      simp (disch := omega) only [I_lt, I_le, I_eq, reduceIte, Int.reduceNeg, Int.reduceEq, Int.reduceLT, Int.reduceLE, Int.reduceAdd, Int.reduceSub, Int.reduceMul, Int.reduceToNat]
      by_cases h1 : x < 0
      · rw [if_pos h1]
        exact ⟨_, rfl, rfl⟩
      · rw [if_neg h1, if_pos (by omega)]
        exact ⟨_, rfl, rfl⟩
    · obtain ⟨f1, f2, f3, f4⟩ := hF
      rw [f1, f3]
      simp (disch := omega) only [I_lt, I_le, I_eq, reduceIte, Int.reduceNeg, Int.reduceEq, Int.reduceLT, Int.reduceLE, Int.reduceAdd, Int.reduceSub, Int.reduceMul, Int.reduceToNat]
      by_cases hx : 0 ≤ x ∧ x < ev
      · obtain ⟨e, rfl⟩ : ∃ n : Nat, x = n := ⟨x.toNat, by omega⟩
        have he : e < ev := by omega
        have hs := hB.2.2.2.1 e he
        obtain ⟨q5, q7, q8, qs, qn⟩ := f4 e he
        rw [if_pos hx, if_neg (by omega), if_neg (by omega)]
        simp (disch := omega) only [Option.bind_some, I_nat, tn_n, gdG, I_eq, I_add, I_sub, I_mul, I_lt, reduceIte, Int.reduceNeg, Int.reduceEq, Int.reduceLT, Int.reduceLE, Int.reduceAdd, Int.reduceSub, Int.reduceMul, Int.reduceToNat, q5, q7, q8]
        unfold p_FH_partOf
        by_cases y6 : y = 6
        · rw [if_pos y6, if_neg (by omega), if_neg (by omega), if_pos y6]
          exact ⟨_, rfl, rfl⟩
        · rw [if_neg y6, if_neg y6]
          simp (disch := omega) only [l_0, l_1, l_2, l_3, l_4, l_5, l_6, l_7, l_9, l_10, l_20, l_24, l_25, l_31, l_40, l_45, l_48, l_57, l_99, l_123, l_124, l_127, l_2000, l_far, l_999999, I_eq]
          by_cases y0 : y = 0
          · rw [if_pos y0, if_pos y0]
            exact ⟨_, rfl, rfl⟩
          · rw [if_neg y0, if_neg y0]
            by_cases y5 : y = 5
            · rw [if_pos y5, if_pos y5]
              exact ⟨_, rfl, rfl⟩
            · rw [if_neg y5, if_neg y5]
              obtain ⟨i, rfl⟩ : ∃ i : Nat, y = (i : Int) + 1 := ⟨y.toNat - 1, by omega⟩
              have e1 : (i : Int) + 1 - 1 = i := by omega
              have e2 : (4 * (e : Int) + ((i : Int) + 1) - 1).toNat = 4 * e + i := by omega
              rw [I_sub, e1, hasPitch_v hB hC he (by omega) (by omega), e2]
              by_cases hi : i < sz e
              · rw [if_pos (by omega)]
                simp (disch := omega) only [Option.bind_some, I_eq, reduceIte, Int.reduceNeg, Int.reduceEq, Int.reduceLT, Int.reduceLE, Int.reduceAdd, Int.reduceSub, Int.reduceMul, Int.reduceToNat]
                unfold p_SR_stringIn
                refine ⟨I (st (4 * e + i)), ?_, by rw [(qs i hi).2.2.2.1]⟩
                rw [l_3, I_mul, l_31, l_7, (qs i hi).2.2.2.2]
                rfl
              · rw [if_neg (by omega)]
                simp (disch := omega) only [Option.bind_some, I_eq, reduceIte, Int.reduceNeg, Int.reduceEq, Int.reduceLT, Int.reduceLE, Int.reduceAdd, Int.reduceSub, Int.reduceMul, Int.reduceToNat]
                refine ⟨I (-1), rfl, by rw [qn i (by omega) (by omega)]⟩
      · rw [if_neg hx]
        by_cases h1 : x < 0
        · rw [if_pos h1]
          exact ⟨_, rfl, rfl⟩
        · rw [if_neg h1, if_pos (by omega)]
          exact ⟨_, rfl, rfl⟩
  · rw [if_neg h]
    refine ⟨I (-2), ?_, rfl⟩
    by_cases h1 : y < 0
    · rw [if_pos h1]
    · rw [if_neg h1, if_neg (by omega)]
