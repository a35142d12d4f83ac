/-! what class and reference hold in common -/
def Base (m nk cp ev : Nat) (op wt sz pt : Nat → Nat) (bd : Nat → Int) : Prop :=
  (m ≤ 7 ∧ 1 ≤ nk ∧ nk ≤ 24 ∧ cp < nk ∧ ev ≤ 40) ∧ (∀ i, i < m → op i ≤ 99) ∧ (∀ i, i < 4 → wt i ≤ 20) ∧ (∀ e, e < ev → 1 ≤ sz e ∧ sz e ≤ 4) ∧
  (∀ e, e < ev → ∀ i, i < sz e → pt (4 * e + i) ≤ 123 ∧ -1 ≤ bd (4 * e + i) ∧ bd (4 * e + i) < m)
def Cb (m nk cp ev : Nat) (op wt sz pt : Nat → Nat) (bd : Nat → Int) (g : sG) (f : sF) : Prop :=
  (g 0 = I m ∧ g 1 = I nk ∧ g 2 = I cp ∧ g 3 = I ev) ∧ (∀ i, i < m → f 1 i = I (op i)) ∧ (∀ i, i < 4 → f 0 i = I (wt i)) ∧ (∀ e, e < ev → f 2 e = I (sz e)) ∧
  (∀ e, e < ev → ∀ i, i < sz e → f 3 (4 * e + i) = I (pt (4 * e + i)) ∧ f 4 (4 * e + i) = I (bd (4 * e + i)))
def Mb (m nk cp ev : Nat) (op wt sz pt : Nat → Nat) (bd : Nat → Int) (g : sG) (f : sF) : Prop :=
  (g 0 = I m ∧ g 1 = I nk ∧ g 2 = I cp ∧ g 3 = I ev) ∧ (∀ i, i < m → f 0 i = I (op i)) ∧ (∀ i, i < 4 → f 1 i = I (wt i)) ∧ (∀ e, e < ev → f 2 e = I (sz e)) ∧
  (∀ e, e < ev → ∀ i, i < sz e → f 3 (4 * e + i) = I (pt (4 * e + i)) ∧ f 4 (4 * e + i) = I (bd (4 * e + i)))
def Tb (tn : Nat) (tp : Nat → Nat) (gc : sG) (fc : sF) (gm : sG) (fm : sF) : Prop :=
  tn ≤ 2000 ∧ gc 12 = I tn ∧ gm 5 = I tn ∧ ∀ i, i < tn → fc 19 i = I (tp i) ∧ fm 9 i = I (tp i) ∧ tp i ≤ 127
def Fb (m nk cp ev : Nat) (op sz pt st : Nat → Nat) (fd : Bool) (gc : sG) (fc : sF) (gm : sG) (fm : sF) : Prop :=
  match fd with
  | false => gc 4 = I 0 ∧ gm 4 = I 0
  | true => gc 4 = I ev ∧ 0 < ev ∧ gm 4 = I 1 ∧ ∀ e, e < ev → fc 5 e = fm 5 e ∧ fc 7 e = fm 7 e ∧ fc 8 e = fm 8 e ∧
      (∀ i, i < sz e → st (4 * e + i) < m ∧ cp + op (st (4 * e + i)) ≤ pt (4 * e + i) ∧ pt (4 * e + i) ≤ nk + op (st (4 * e + i)) ∧ fm 6 (4 * e + i) = I (st (4 * e + i)) ∧ (fc 6 e >>> (I (3 * i) &&& I 31)) &&& I 7 = I (st (4 * e + i))) ∧
      (∀ i, sz e ≤ i → i < 4 → fm 6 (4 * e + i) = I (-1))
def Rel (gc : sG) (fc : sF) (gm : sG) (fm : sF) : Prop :=
  ∃ (m nk cp ev tn : Nat) (op wt sz pt tp st : Nat → Nat) (bd : Nat → Int) (fd : Bool), Base m nk cp ev op wt sz pt bd ∧ Cb m nk cp ev op wt sz pt bd gc fc ∧ Mb m nk cp ev op wt sz pt bd gm fm ∧ Tb tn tp gc fc gm fm ∧ Fb m nk cp ev op sz pt st fd gc fc gm fm ∧ gc 14 = gm 6
def Stw (pc pm : sG → sF → Option (Int32 × sG × sF)) : Prop := ∀ gc fc gm fm, Rel gc fc gm fm → ∃ (r : Int32) (gc' : sG) (fc' : sF) (gm' : sG) (fm' : sF), pc gc fc = some (r, gc', fc') ∧ pm gm fm = some (r, gm', fm') ∧ Rel gc' fc' gm' fm'
def Sro (pc pm : sG → sF → Option Int32) : Prop := ∀ gc fc gm fm, Rel gc fc gm fm → ∃ r : Int32, pc gc fc = some r ∧ pm gm fm = some r
theorem r_told (a : Int32) : Sro (p_FH_told a) (p_M_told a) := by
  intro gc fc gm fm ⟨m, nk, cp, ev, tn, op, wt, sz, pt, tp, st, bd, fd, hB, ⟨⟨c0, c1, c2, c3⟩, _⟩, ⟨⟨m0, m1, m2, m3⟩, _⟩, ⟨_, t1, t2, _⟩, _, _⟩
  unfold p_FH_told p_M_told
  rw [c0, c1, c2, c3, t1, m0, m1, m2, m3, t2]
  split
  · exact ⟨_, rfl, rfl⟩
  · split
    · exact ⟨_, rfl, rfl⟩
    · split
      · exact ⟨_, rfl, rfl⟩
      · split
        · exact ⟨_, rfl, rfl⟩
        · split
          · exact ⟨_, rfl, rfl⟩
          · exact ⟨_, rfl, rfl⟩
theorem r_place : Sro p_FH_place p_M_place := by
  intro gc fc gm fm ⟨m, nk, cp, ev, tn, op, wt, sz, pt, tp, st, bd, fd, hB, _, _, _, _, h⟩
  exact ⟨gc 14, rfl, by unfold p_M_place; rw [h]⟩
theorem hasEvent_v {g : sG} {f : sF} {ev : Nat} {z : Int} (h3 : g 3 = I ev) (hv : ev ≤ 40) (h1 : -2147483648 ≤ z) (h2 : z < 2147483648) : p_Tu_hasEvent (I z) g f = some (if 0 ≤ z ∧ z < ev then I 1 else I 0) := by
  unfold p_Tu_hasEvent
  simp (disch := omega) only [h3, l_0, l_1, l_2, l_3, l_4, l_5, l_6, l_7, l_9, l_10, l_20, l_24, l_25, l_31, l_40, l_45, l_48, l_57, l_99, l_123, l_124, l_127, l_2000, l_far, l_999999, I_add, I_sub, I_mul, I_neg, I_lt, I_le, I_eq, I_nat, reduceIte, Int.reduceNeg, Int.reduceEq, Int.reduceLT, Int.reduceLE, Int.reduceAdd, Int.reduceSub, Int.reduceMul, Int.reduceToNat, tn_n, tn_4, tn_4b, tn_4c, tn_25, tn_25b, gdG, if01, ite_not, lt_, Option.bind_some, Option.bind_none, and_true, true_and, and_false, false_and, or_false, false_or, or_true, true_or, not_true_eq_false, not_false_eq_true, if_true, if_false]
  split
  · rw [if_neg (by omega)]
  · split
    · rw [if_neg (by omega)]
    · rw [if_pos (by omega)]
theorem hasString_v {g : sG} {f : sF} {m : Nat} {z : Int} (h3 : g 0 = I m) (hv : m ≤ 7) (h1 : -2147483648 ≤ z) (h2 : z < 2147483648) : p_In_hasString (I z) g f = some (if 0 ≤ z ∧ z < m then I 1 else I 0) := by
  unfold p_In_hasString
  simp (disch := omega) only [h3, l_0, l_1, l_2, l_3, l_4, l_5, l_6, l_7, l_9, l_10, l_20, l_24, l_25, l_31, l_40, l_45, l_48, l_57, l_99, l_123, l_124, l_127, l_2000, l_far, l_999999, I_add, I_sub, I_mul, I_neg, I_lt, I_le, I_eq, I_nat, reduceIte, Int.reduceNeg, Int.reduceEq, Int.reduceLT, Int.reduceLE, Int.reduceAdd, Int.reduceSub, Int.reduceMul, Int.reduceToNat, tn_n, tn_4, tn_4b, tn_4c, tn_25, tn_25b, gdG, if01, ite_not, lt_, Option.bind_some, Option.bind_none, and_true, true_and, and_false, false_and, or_false, false_or, or_true, true_or, not_true_eq_false, not_false_eq_true, if_true, if_false]
  split
  · rw [if_neg (by omega)]
  · split
    · rw [if_neg (by omega)]
    · rw [if_pos (by omega)]
theorem within_v {g : sG} {f : sF} {z lo hi : Int} (h1 : -2147483648 ≤ z) (h2 : z < 2147483648) (h3 : -2147483648 ≤ lo) (h4 : lo < 2147483648) (h5 : -2147483648 ≤ hi) (h6 : hi < 2147483648) : p_M_within (I z) (I lo) (I hi) g f = some (if lo ≤ z ∧ z ≤ hi then I 1 else I 0) := by
  unfold p_M_within
  simp (disch := omega) only [l_0, l_1, l_2, l_3, l_4, l_5, l_6, l_7, l_9, l_10, l_20, l_24, l_25, l_31, l_40, l_45, l_48, l_57, l_99, l_123, l_124, l_127, l_2000, l_far, l_999999, I_add, I_sub, I_mul, I_neg, I_lt, I_le, I_eq, I_nat, reduceIte, Int.reduceNeg, Int.reduceEq, Int.reduceLT, Int.reduceLE, Int.reduceAdd, Int.reduceSub, Int.reduceMul, Int.reduceToNat, tn_n, tn_4, tn_4b, tn_4c, tn_25, tn_25b, gdG, if01, ite_not, lt_, Option.bind_some, Option.bind_none, and_true, true_and, and_false, false_and, or_false, false_or, or_true, true_or, not_true_eq_false, not_false_eq_true, if_true, if_false]
  split
  · rw [if_neg (by omega)]
  · split
    · rw [if_neg (by omega)]
    · rw [if_pos (by omega)]
theorem isEvent_v {g : sG} {f : sF} {ev : Nat} {z : Int} (h3 : g 3 = I ev) (hv : ev ≤ 40) (h1 : -2147483648 ≤ z) (h2 : z < 2147483648) : p_M_isEvent (I z) g f = some (if 0 ≤ z ∧ z < ev then I 1 else I 0) := by
  unfold p_M_isEvent
  rw [h3, l_1, I_sub, l_0, within_v h1 h2 (by omega) (by omega) (by omega) (by omega), Option.bind_some]
  by_cases h : 0 ≤ z ∧ z < (ev : Int)
  · have e1 : (if 0 ≤ z ∧ z ≤ (ev : Int) - 1 then I 1 else I 0) = I 1 := if_pos (by omega)
    rw [if_pos h, e1]
    exact bz (Or.inr rfl)
  · have e1 : (if 0 ≤ z ∧ z ≤ (ev : Int) - 1 then I 1 else I 0) = I 0 := if_neg (by omega)
    rw [if_neg h, e1]
    exact bz (Or.inl rfl)
theorem isString_v {g : sG} {f : sF} {m : Nat} {z : Int} (h3 : g 0 = I m) (hv : m ≤ 7) (h1 : -2147483648 ≤ z) (h2 : z < 2147483648) : p_M_isString (I z) g f = some (if 0 ≤ z ∧ z < m then I 1 else I 0) := by
  unfold p_M_isString
  rw [h3, l_1, I_sub, l_0, within_v h1 h2 (by omega) (by omega) (by omega) (by omega), Option.bind_some]
  by_cases h : 0 ≤ z ∧ z < (m : Int)
  · have e1 : (if 0 ≤ z ∧ z ≤ (m : Int) - 1 then I 1 else I 0) = I 1 := if_pos (by omega)
    rw [if_pos h, e1]
    exact bz (Or.inr rfl)
  · have e1 : (if 0 ≤ z ∧ z ≤ (m : Int) - 1 then I 1 else I 0) = I 0 := if_neg (by omega)
    rw [if_neg h, e1]
    exact bz (Or.inl rfl)
section A1
variable {m nk cp ev : Nat} {op wt sz pt : Nat → Nat} {bd : Nat → Int} {g : sG} {f : sF}
theorem sizeOf_v (hB : Base m nk cp ev op wt sz pt bd) (hC : Cb m nk cp ev op wt sz pt bd g f) {e : Nat} (he : e < ev) : p_Tu_sizeOf (I e) g f = some (I (sz e)) := by
  obtain ⟨⟨b0, b1, b2, b3, b4⟩, bO, bW, bS, bP⟩ := hB
  obtain ⟨⟨c0, c1, c2, c3⟩, cO, cW, cS, cP⟩ := hC
  unfold p_Tu_sizeOf
  rw [hasEvent_v c3 b4 (by omega) (by omega), if_pos (by omega)]
  simp (disch := omega) only [l_0, l_1, l_2, l_3, l_4, l_5, l_6, l_7, l_9, l_10, l_20, l_24, l_25, l_31, l_40, l_45, l_48, l_57, l_99, l_123, l_124, l_127, l_2000, l_far, l_999999, I_add, I_sub, I_mul, I_neg, I_lt, I_le, I_eq, I_nat, reduceIte, Int.reduceNeg, Int.reduceEq, Int.reduceLT, Int.reduceLE, Int.reduceAdd, Int.reduceSub, Int.reduceMul, Int.reduceToNat, tn_n, tn_4, tn_4b, tn_4c, tn_25, tn_25b, gdG, if01, ite_not, lt_, Option.bind_some, Option.bind_none, and_true, true_and, and_false, false_and, or_false, false_or, or_true, true_or, not_true_eq_false, not_false_eq_true, if_true, if_false, cS e he]
theorem hasPitch_v (hB : Base m nk cp ev op wt sz pt bd) (hC : Cb m nk cp ev op wt sz pt bd g f) {e : Nat} {y : Int} (he : e < ev) (h1 : -2147483648 ≤ y) (h2 : y < 2147483648) : p_Tu_hasPitch (I e) (I y) g f = some (if 0 ≤ y ∧ y < sz e then I 1 else I 0) := by
  obtain ⟨⟨b0, b1, b2, b3, b4⟩, bO, bW, bS, bP⟩ := hB
  obtain ⟨⟨c0, c1, c2, c3⟩, cO, cW, cS, cP⟩ := hC
  have := bS e he
  unfold p_Tu_hasPitch
  rw [hasEvent_v c3 b4 (by omega) (by omega), if_pos (by omega)]
  simp (disch := omega) only [l_0, l_1, l_2, l_3, l_4, l_5, l_6, l_7, l_9, l_10, l_20, l_24, l_25, l_31, l_40, l_45, l_48, l_57, l_99, l_123, l_124, l_127, l_2000, l_far, l_999999, I_add, I_sub, I_mul, I_neg, I_lt, I_le, I_eq, I_nat, reduceIte, Int.reduceNeg, Int.reduceEq, Int.reduceLT, Int.reduceLE, Int.reduceAdd, Int.reduceSub, Int.reduceMul, Int.reduceToNat, tn_n, tn_4, tn_4b, tn_4c, tn_25, tn_25b, gdG, if01, ite_not, lt_, Option.bind_some, Option.bind_none, and_true, true_and, and_false, false_and, or_false, false_or, or_true, true_or, not_true_eq_false, not_false_eq_true, if_true, if_false, cS e he]
  split
  · rw [if_neg (by omega)]
  · split
    · rw [if_neg (by omega)]
    · rw [if_pos (by omega)]
theorem pitchOf_v (hB : Base m nk cp ev op wt sz pt bd) (hC : Cb m nk cp ev op wt sz pt bd g f) {e i : Nat} (he : e < ev) (hi : i < sz e) : p_Tu_pitchOf (I e) (I i) g f = some (I (pt (4 * e + i))) := by
  have hs := hB.2.2.2.1 e he
  have hv := hB.1.2.2.2.2
  unfold p_Tu_pitchOf
  rw [hasPitch_v hB hC he (by omega) (by omega), if_pos (by omega)]
  simp (disch := omega) only [l_0, l_1, l_2, l_3, l_4, l_5, l_6, l_7, l_9, l_10, l_20, l_24, l_25, l_31, l_40, l_45, l_48, l_57, l_99, l_123, l_124, l_127, l_2000, l_far, l_999999, I_add, I_sub, I_mul, I_neg, I_lt, I_le, I_eq, I_nat, reduceIte, Int.reduceNeg, Int.reduceEq, Int.reduceLT, Int.reduceLE, Int.reduceAdd, Int.reduceSub, Int.reduceMul, Int.reduceToNat, tn_n, tn_4, tn_4b, tn_4c, tn_25, tn_25b, gdG, if01, ite_not, lt_, Option.bind_some, Option.bind_none, and_true, true_and, and_false, false_and, or_false, false_or, or_true, true_or, not_true_eq_false, not_false_eq_true, if_true, if_false, (hC.2.2.2.2 e he i hi).1]
theorem stringOf_v (hB : Base m nk cp ev op wt sz pt bd) (hC : Cb m nk cp ev op wt sz pt bd g f) {e i : Nat} (he : e < ev) (hi : i < sz e) : p_Tu_stringOf (I e) (I i) g f = some (I (bd (4 * e + i))) := by
  have hs := hB.2.2.2.1 e he
  have hv := hB.1.2.2.2.2
  unfold p_Tu_stringOf
  rw [hasPitch_v hB hC he (by omega) (by omega), if_pos (by omega)]
  simp (disch := omega) only [l_0, l_1, l_2, l_3, l_4, l_5, l_6, l_7, l_9, l_10, l_20, l_24, l_25, l_31, l_40, l_45, l_48, l_57, l_99, l_123, l_124, l_127, l_2000, l_far, l_999999, I_add, I_sub, I_mul, I_neg, I_lt, I_le, I_eq, I_nat, reduceIte, Int.reduceNeg, Int.reduceEq, Int.reduceLT, Int.reduceLE, Int.reduceAdd, Int.reduceSub, Int.reduceMul, Int.reduceToNat, tn_n, tn_4, tn_4b, tn_4c, tn_25, tn_25b, gdG, if01, ite_not, lt_, Option.bind_some, Option.bind_none, and_true, true_and, and_false, false_and, or_false, false_or, or_true, true_or, not_true_eq_false, not_false_eq_true, if_true, if_false, (hC.2.2.2.2 e he i hi).2]
theorem pitchOf_n (hB : Base m nk cp ev op wt sz pt bd) (hC : Cb m nk cp ev op wt sz pt bd g f) {e : Nat} {y : Int} (he : e < ev) (h1 : -2147483648 ≤ y) (h2 : y < 2147483648) (hy : ¬ (0 ≤ y ∧ y < sz e)) : p_Tu_pitchOf (I e) (I y) g f = some (I (-1)) := by
  unfold p_Tu_pitchOf
  rw [hasPitch_v hB hC he h1 h2, if_neg hy]
  rfl
theorem stringOf_n (hB : Base m nk cp ev op wt sz pt bd) (hC : Cb m nk cp ev op wt sz pt bd g f) {e : Nat} {y : Int} (he : e < ev) (h1 : -2147483648 ≤ y) (h2 : y < 2147483648) (hy : ¬ (0 ≤ y ∧ y < sz e)) : p_Tu_stringOf (I e) (I y) g f = some (I (-1)) := by
  unfold p_Tu_stringOf
  rw [hasPitch_v hB hC he h1 h2, if_neg hy]
  rfl
/-- the fret at which a pitch lies on a string, -1 for none -/
def frt (nk cp : Nat) (op : Nat → Nat) (s : Nat) (p : Int) : Int := if cp ≤ p - op s ∧ p - op s ≤ nk then p - op s else -1
theorem fretOf_v (hB : Base m nk cp ev op wt sz pt bd) (hC : Cb m nk cp ev op wt sz pt bd g f) {s : Nat} {p : Int} (hs : s < m) (h1 : -2147483648 ≤ p) (h2 : p < 2147483648) : p_In_fretOf (I s) (I p) g f = some (I (frt nk cp op s p)) := by
  obtain ⟨⟨b0, b1, b2, b3, b4⟩, bO, bW, bS, bP⟩ := hB
  obtain ⟨⟨c0, c1, c2, c3⟩, cO, cW, cS, cP⟩ := hC
  have ho := bO s hs
  unfold p_In_fretOf
  rw [hasString_v c0 b0 (by omega) (by omega), if_pos (by omega)]
  simp (disch := omega) only [l_0, l_1, l_2, l_3, l_4, l_5, l_6, l_7, l_9, l_10, l_20, l_24, l_25, l_31, l_40, l_45, l_48, l_57, l_99, l_123, l_124, l_127, l_2000, l_far, l_999999, Option.bind_some, I_nat, gdG, tn_n, lt_, I_eq, I_lt, reduceIte, Int.reduceNeg, Int.reduceEq, Int.reduceLT, Int.reduceLE, Int.reduceAdd, Int.reduceSub, Int.reduceMul, Int.reduceToNat, cO s hs, c2, c1, I_sub]
  unfold frt
  by_cases hp : -2147483648 ≤ p - (op s : Int)
  · simp (disch := omega) only [I_lt]
    by_cases h : (cp : Int) ≤ p - op s ∧ p - op s ≤ nk
    · rw [if_pos h, if_neg (by omega), if_neg (by omega)]
    · rw [if_neg h]
      split
      · rfl
      · rw [if_pos (by omega)]
        rfl
  · have e2 : (if (cp : Int) ≤ p - op s ∧ p - op s ≤ nk then p - (op s : Int) else -1) = -1 := if_neg (by omega)
    rw [e2]
    have hw : I (p - (op s : Int)) = I (p - (op s : Int) + 4294967296) := by
      rw [← I_add]
      show _ = I (p - ↑(op s)) + 0
      rw [Int32.add_zero]
    rw [hw]
    simp (disch := omega) only [I_lt]
    rw [if_neg (by omega), if_pos (by omega)]
    rfl
end A1
theorem r_at (a b : Int32) : Sro (p_FH_at a b) (p_M_at a b) := by
  intro gc fc gm fm ⟨m, nk, cp, ev, tn, op, wt, sz, pt, tp, st, bd, fd, hB, hC, ⟨⟨m0, m1, m2, m3⟩, mO, mW, mS, mP⟩, _, _, _⟩
  obtain ⟨x, rfl, x1, x2⟩ := I_ex a
  obtain ⟨y, rfl, y1, y2⟩ := I_ex b
  have b4 := hB.1.2.2.2.2
  unfold p_FH_at p_M_at
  rw [hasEvent_v hC.1.2.2.2 b4 x1 x2, isEvent_v m3 b4 x1 x2]
  by_cases hx : 0 ≤ x ∧ x < ev
  · rw [if_pos hx]
    obtain ⟨e, rfl⟩ : ∃ e : Nat, x = e := ⟨x.toNat, by omega⟩
    have he : e < ev := by omega
    have := hB.2.2.2.1 e he
    by_cases hy : 0 ≤ y ∧ y < sz e
    · obtain ⟨i, rfl⟩ : ∃ i : Nat, y = i := ⟨y.toNat, by omega⟩
      have hi : i < sz e := by omega
      rw [pitchOf_v hB hC he hi]
      refine ⟨I (pt (4 * e + i)), rfl, ?_⟩
      simp (disch := omega) only [l_0, l_1, l_2, l_3, l_4, l_5, l_6, l_7, l_9, l_10, l_20, l_24, l_25, l_31, l_40, l_45, l_48, l_57, l_99, l_123, l_124, l_127, l_2000, l_far, l_999999, I_add, I_sub, I_mul, I_neg, I_lt, I_le, I_eq, I_nat, reduceIte, Int.reduceNeg, Int.reduceEq, Int.reduceLT, Int.reduceLE, Int.reduceAdd, Int.reduceSub, Int.reduceMul, Int.reduceToNat, tn_n, tn_4, tn_4b, tn_4c, tn_25, tn_25b, gdG, if01, ite_not, lt_, Option.bind_some, Option.bind_none, and_true, true_and, and_false, false_and, or_false, false_or, or_true, true_or, not_true_eq_false, not_false_eq_true, if_true, if_false, mS e he, within_v]
      rw [if_pos (by omega)]
      simp (disch := omega) only [l_0, l_1, l_2, l_3, l_4, l_5, l_6, l_7, l_9, l_10, l_20, l_24, l_25, l_31, l_40, l_45, l_48, l_57, l_99, l_123, l_124, l_127, l_2000, l_far, l_999999, I_add, I_sub, I_mul, I_neg, I_lt, I_le, I_eq, I_nat, reduceIte, Int.reduceNeg, Int.reduceEq, Int.reduceLT, Int.reduceLE, Int.reduceAdd, Int.reduceSub, Int.reduceMul, Int.reduceToNat, tn_n, tn_4, tn_4b, tn_4c, tn_25, tn_25b, gdG, if01, ite_not, lt_, Option.bind_some, Option.bind_none, and_true, true_and, and_false, false_and, or_false, false_or, or_true, true_or, not_true_eq_false, not_false_eq_true, if_true, if_false, (mP e he i hi).1]
    · rw [pitchOf_n hB hC he y1 y2 hy]
      refine ⟨I (-1), rfl, ?_⟩
      simp (disch := omega) only [l_0, l_1, l_2, l_3, l_4, l_5, l_6, l_7, l_9, l_10, l_20, l_24, l_25, l_31, l_40, l_45, l_48, l_57, l_99, l_123, l_124, l_127, l_2000, l_far, l_999999, I_add, I_sub, I_mul, I_neg, I_lt, I_le, I_eq, I_nat, reduceIte, Int.reduceNeg, Int.reduceEq, Int.reduceLT, Int.reduceLE, Int.reduceAdd, Int.reduceSub, Int.reduceMul, Int.reduceToNat, tn_n, tn_4, tn_4b, tn_4c, tn_25, tn_25b, gdG, if01, ite_not, lt_, Option.bind_some, Option.bind_none, and_true, true_and, and_false, false_and, or_false, false_or, or_true, true_or, not_true_eq_false, not_false_eq_true, if_true, if_false, mS e he, within_v]
      rw [if_neg (by omega)]
  · rw [if_neg hx]
    exact ⟨-3, rfl, rfl⟩
theorem r_bound (a b : Int32) : Sro (p_FH_bound a b) (p_M_bound a b) := by
  intro gc fc gm fm ⟨m, nk, cp, ev, tn, op, wt, sz, pt, tp, st, bd, fd, hB, hC, ⟨⟨m0, m1, m2, m3⟩, mO, mW, mS, mP⟩, _, _, _⟩
  obtain ⟨x, rfl, x1, x2⟩ := I_ex a
  obtain ⟨y, rfl, y1, y2⟩ := I_ex b
  have b4 := hB.1.2.2.2.2
  unfold p_FH_bound p_M_bound
  rw [hasEvent_v hC.1.2.2.2 b4 x1 x2, isEvent_v m3 b4 x1 x2]
  by_cases hx : 0 ≤ x ∧ x < ev
  · rw [if_pos hx]
    obtain ⟨e, rfl⟩ : ∃ e : Nat, x = e := ⟨x.toNat, by omega⟩
    have he : e < ev := by omega
    have := hB.2.2.2.1 e he
    by_cases hy : 0 ≤ y ∧ y < sz e
    · obtain ⟨i, rfl⟩ : ∃ i : Nat, y = i := ⟨y.toNat, by omega⟩
      have hi : i < sz e := by omega
      rw [stringOf_v hB hC he hi]
      refine ⟨I (bd (4 * e + i)), rfl, ?_⟩
      simp (disch := omega) only [l_0, l_1, l_2, l_3, l_4, l_5, l_6, l_7, l_9, l_10, l_20, l_24, l_25, l_31, l_40, l_45, l_48, l_57, l_99, l_123, l_124, l_127, l_2000, l_far, l_999999, I_add, I_sub, I_mul, I_neg, I_lt, I_le, I_eq, I_nat, reduceIte, Int.reduceNeg, Int.reduceEq, Int.reduceLT, Int.reduceLE, Int.reduceAdd, Int.reduceSub, Int.reduceMul, Int.reduceToNat, tn_n, tn_4, tn_4b, tn_4c, tn_25, tn_25b, gdG, if01, ite_not, lt_, Option.bind_some, Option.bind_none, and_true, true_and, and_false, false_and, or_false, false_or, or_true, true_or, not_true_eq_false, not_false_eq_true, if_true, if_false, mS e he, within_v]
      rw [if_pos (by omega)]
      simp (disch := omega) only [l_0, l_1, l_2, l_3, l_4, l_5, l_6, l_7, l_9, l_10, l_20, l_24, l_25, l_31, l_40, l_45, l_48, l_57, l_99, l_123, l_124, l_127, l_2000, l_far, l_999999, I_add, I_sub, I_mul, I_neg, I_lt, I_le, I_eq, I_nat, reduceIte, Int.reduceNeg, Int.reduceEq, Int.reduceLT, Int.reduceLE, Int.reduceAdd, Int.reduceSub, Int.reduceMul, Int.reduceToNat, tn_n, tn_4, tn_4b, tn_4c, tn_25, tn_25b, gdG, if01, ite_not, lt_, Option.bind_some, Option.bind_none, and_true, true_and, and_false, false_and, or_false, false_or, or_true, true_or, not_true_eq_false, not_false_eq_true, if_true, if_false, (mP e he i hi).2]
    · rw [stringOf_n hB hC he y1 y2 hy]
      refine ⟨I (-1), rfl, ?_⟩
      simp (disch := omega) only [l_0, l_1, l_2, l_3, l_4, l_5, l_6, l_7, l_9, l_10, l_20, l_24, l_25, l_31, l_40, l_45, l_48, l_57, l_99, l_123, l_124, l_127, l_2000, l_far, l_999999, I_add, I_sub, I_mul, I_neg, I_lt, I_le, I_eq, I_nat, reduceIte, Int.reduceNeg, Int.reduceEq, Int.reduceLT, Int.reduceLE, Int.reduceAdd, Int.reduceSub, Int.reduceMul, Int.reduceToNat, tn_n, tn_4, tn_4b, tn_4c, tn_25, tn_25b, gdG, if01, ite_not, lt_, Option.bind_some, Option.bind_none, and_true, true_and, and_false, false_and, or_false, false_or, or_true, true_or, not_true_eq_false, not_false_eq_true, if_true, if_false, mS e he, within_v]
      rw [if_neg (by omega)]
  · rw [if_neg hx]
    exact ⟨-3, rfl, rfl⟩
