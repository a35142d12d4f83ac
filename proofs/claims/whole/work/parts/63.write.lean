section WR
variable {m nk cp ev : Nat} {op wt sz pt st : Nat → Nat} {bd : Nat → Int} {g g0 : sG} {f f0 : sF}
/-! what has been written: the class, the reference -/
def PC (g0 : sG) (f0 : sF) (L : List Nat) (g : sG) (f : sF) : Prop := g 12 = I L.length ∧ (∀ i, i < L.length → f 19 i = I (L.getD i 0)) ∧ (∀ x, x ≠ 12 → g x = g0 x) ∧ (∀ j, j ≠ 19 → f j = f0 j)
def PM (g0 : sG) (f0 : sF) (L : List Nat) (g : sG) (f : sF) : Prop := g 5 = I L.length ∧ (∀ i, i < L.length → f 9 i = I (L.getD i 0)) ∧ (∀ x, x ≠ 5 → g x = g0 x) ∧ (∀ j, j ≠ 9 → f j = f0 j)
theorem cadd {L : List Nat} (h : PC g0 f0 L g f) (hl : L.length < 2000) (c : Nat) : ∃ g' f', p_Ta_add (I c) g f = some (I 1, g', f') ∧ PC g0 f0 (L ++ [c]) g' f' := by
  obtain ⟨h1, h2, h3, h4⟩ := h
  have e1 : (L.length : Int) + 1 = ((L.length + 1 : Nat) : Int) := by omega
  unfold p_Ta_add
  rw [h1]
  simp (disch := omega) only [l_0, l_1, l_2, l_3, l_4, l_5, l_6, l_7, l_9, l_10, l_20, l_24, l_25, l_31, l_40, l_45, l_48, l_57, l_99, l_123, l_124, l_127, l_2000, l_far, l_999999, I_lt, I_nat, tn_n, gdG, lt_, I_add, e1]
  rw [if_pos (by omega)]
  refine ⟨_, _, rfl, ?_, fun i hi => ?_, fun x hx => by rw [upd_n _ _ hx]; exact h3 x hx, fun j hj => by rw [up2_n _ _ _ hj]; exact h4 j hj⟩
  · rw [upd_s, List.length_append, List.length_singleton]
  · rw [List.length_append, List.length_singleton] at hi
    by_cases q : i = L.length
    · rw [q, up2_s, upd_s, getD_r]
    · rw [up2_s, upd_n _ _ q, getD_l (by omega)]; exact h2 i (by omega)
theorem mput {L : List Nat} (h : PM g0 f0 L g f) (hl : L.length < 2000) (c : Nat) : ∃ g' f', p_M_put (I c) g f = some (g', f') ∧ PM g0 f0 (L ++ [c]) g' f' := by
  obtain ⟨h1, h2, h3, h4⟩ := h
  have e1 : (L.length : Int) + 1 = ((L.length + 1 : Nat) : Int) := by omega
  unfold p_M_put
  rw [h1]
  simp (disch := omega) only [l_0, l_1, l_2, l_3, l_4, l_5, l_6, l_7, l_9, l_10, l_20, l_24, l_25, l_31, l_40, l_45, l_48, l_57, l_99, l_123, l_124, l_127, l_2000, l_far, l_999999, I_lt, I_nat, tn_n, gdG, lt_, I_add, e1]
  refine ⟨_, _, rfl, ?_, fun i hi => ?_, fun x hx => by rw [upd_n _ _ hx]; exact h3 x hx, fun j hj => by rw [up2_n _ _ _ hj]; exact h4 j hj⟩
  · rw [upd_s, List.length_append, List.length_singleton]
  · rw [List.length_append, List.length_singleton] at hi
    by_cases q : i = L.length
    · rw [q, up2_s, upd_s, getD_r]
    · rw [up2_s, upd_n _ _ q, getD_l (by omega)]; exact h2 i (by omega)
def Wc (m nk cp ev : Nat) (op wt sz pt st : Nat → Nat) (bd : Nat → Int) (g : sG) (f : sF) : Prop := Cb m nk cp ev op wt sz pt bd g f ∧ g 4 = I ev ∧ ∀ e, e < ev → ∀ i, i < sz e → (f 6 e >>> (I (3 * (i : Int)) &&& I 31)) &&& I 7 = I (st (4 * e + i))
def Wm (m nk cp ev : Nat) (op wt sz pt st : Nat → Nat) (bd : Nat → Int) (g : sG) (f : sF) : Prop := Mb m nk cp ev op wt sz pt bd g f ∧ ∀ e, e < ev → ∀ i, i < sz e → f 6 (4 * e + i) = I (st (4 * e + i))
theorem PC.w {L : List Nat} (h : PC g0 f0 L g f) (hw : Wc m nk cp ev op wt sz pt st bd g0 f0) : Wc m nk cp ev op wt sz pt st bd g f := ⟨hw.1.fr (fun x hx => h.2.2.1 x (by omega)) (fun j hj => h.2.2.2 j (by omega)), by rw [h.2.2.1 4 (by omega)]; exact hw.2.1, fun e he i hi => by rw [h.2.2.2 6 (by omega)]; exact hw.2.2 e he i hi⟩
theorem PM.w {L : List Nat} (h : PM g0 f0 L g f) (hw : Wm m nk cp ev op wt sz pt st bd g0 f0) : Wm m nk cp ev op wt sz pt st bd g f := ⟨hw.1.fr (fun x hx => h.2.2.1 x (by omega)) (fun j hj => h.2.2.2 j (by omega)), fun e he i hi => by rw [h.2.2.2 6 (by omega)]; exact hw.2 e he i hi⟩
theorem frt_in {s : Nat} {p : Nat} (h1 : cp + op s ≤ p) (h2 : p ≤ nk + op s) : frt nk cp op s p = (p : Int) - op s := by
  unfold frt
  rw [if_pos (by omega)]
theorem frets_v (hB : Base m nk cp ev op wt sz pt bd) (hS : Ws m nk cp ev op sz pt st) (hW : Wc m nk cp ev op wt sz pt st bd g f) {e s : Nat} (he : e < ev) (hs : s < m) : p_TW_fretsBehindCapo (I e) (I s) g f = some (I (nb cp op sz pt st e s)) := by
  obtain ⟨hC, h4, h6⟩ := hW
  have hv := hB.1.2.2.2.2
  have hm := hB.1.1
  have hz := hB.2.2.2.1 e he
  unfold p_TW_fretsBehindCapo p_Pl_hasEvent
  rw [h4, if_neg (by rw [l_0, I_lt (by omega) (by omega) (by omega) (by omega)]; omega), if_neg (by rw [I_le (by omega) (by omega) (by omega) (by omega)]; omega), Option.bind_some, if_neg (by decide), sizeOf_v hB hC he, Option.bind_some, l_0]
  refine itr_R (fun i z => z = (I e, I s, I (sz e), I i) ∧ nbk cp op pt st e s i = -1) (sz e) (fun o => o = some (I (nb cp op sz pt st e s))) ⟨rfl, rfl⟩ (by omega) ?_ ?_
  · intro K i z hi ⟨ez, hn⟩
    subst ez
    obtain ⟨w1, w2, w3⟩ := hS e he i hi
    have ei : (i : Int) + 1 = ((i + 1 : Nat) : Int) := by omega
    have h6' := h6 e he i hi
    have hst : p_SR_stringIn (f 6 e) (I i) g f = some (I (st (4 * e + i))) := by
      unfold p_SR_stringIn
      rw [l_3, l_31, l_7, I_mul, h6']
    have body : p_TW_fretsBehindCapo_L25 K (I e) (I s) (I (sz e)) (I i) g f = if st (4 * e + i) = s then some (I ((pt (4 * e + i) : Int) - op s - cp)) else K (I e, I s, I (sz e), I ((i + 1 : Nat) : Int)) := by
      unfold p_TW_fretsBehindCapo_L25
      rw [if_neg (by rw [I_le (by omega) (by omega) (by omega) (by omega)]; omega)]
      simp (disch := omega) only [l_0, l_1, l_2, l_3, l_4, l_5, l_6, l_7, l_9, l_10, l_20, l_24, l_25, l_31, l_40, l_45, l_48, l_57, l_99, l_123, l_124, l_127, l_2000, l_far, l_999999, I_lt, I_nat, tn_n, gdG, hst, Option.bind_some, lt_, I_add, ei]
      by_cases q : st (4 * e + i) = s
      · have pb := (hB.2.2.2.2 e he i hi).1
        rw [q] at w2 w3
        rw [if_pos (by rw [q]), if_pos q, pitchOf_v hB hC he hi, Option.bind_some, fretOf_v hB hC hs (by omega) (by omega), Option.bind_some, hC.1.2.2.1, frt_in w2 w3, I_sub]
      · rw [if_neg (by rw [I_eq (by omega) (by omega) (by omega) (by omega)]; omega), if_neg q]
    dsimp only
    rw [body]
    by_cases q : st (4 * e + i) = s
    · right
      rw [if_pos q, nbk_hit hS he hi hn q]
    · left
      rw [if_neg q]
      exact ⟨_, rfl, rfl, nbk_miss hn q⟩
  · intro K z ⟨ez, hn⟩
    subst ez
    dsimp only
    unfold p_TW_fretsBehindCapo_L25 nb
    rw [if_pos (Int32.le_refl _), hn, l_1, I_neg]
theorem numberOn_v (hB : Base m nk cp ev op wt sz pt bd) (hS : Ws m nk cp ev op sz pt st) (hW : Wm m nk cp ev op wt sz pt st bd g f) {e s : Nat} (he : e < ev) (hs : s < m) : p_M_numberOn (I e) (I s) g f = some (I (nb cp op sz pt st e s)) := by
  obtain ⟨hM, h6⟩ := hW
  have hv := hB.1.2.2.2.2
  have hm := hB.1.1
  have hz := hB.2.2.2.1 e he
  unfold p_M_numberOn
  rw [l_0]
  refine itr_R (fun i z => z = (I e, I s, I i) ∧ nbk cp op pt st e s i = -1) (sz e) (fun o => o = some (I (nb cp op sz pt st e s))) ⟨rfl, rfl⟩ (by omega) ?_ ?_
  · intro K i z hi ⟨ez, hn⟩
    subst ez
    obtain ⟨w1, w2, w3⟩ := hS e he i hi
    have ei : (i : Int) + 1 = ((i + 1 : Nat) : Int) := by omega
    have body : p_M_numberOn_L2 K (I e) (I s) (I i) g f = if st (4 * e + i) = s then some (I ((pt (4 * e + i) : Int) - op s - cp)) else K (I e, I s, I ((i + 1 : Nat) : Int)) := by
      unfold p_M_numberOn_L2
      simp (disch := omega) only [l_0, l_1, l_2, l_3, l_4, l_5, l_6, l_7, l_9, l_10, l_20, l_24, l_25, l_31, l_40, l_45, l_48, l_57, l_99, l_123, l_124, l_127, l_2000, l_far, l_999999, I_mul, I_le, I_lt, I_nat, tn_n, tn_4, gdG, hM.2.2.2.1 e he, h6 e he i hi, (hM.2.2.2.2 e he i hi).1, Option.bind_some, lt_, I_add, ei]
      rw [if_neg (by omega)]
      by_cases q : st (4 * e + i) = s
      · have pb := (hB.2.2.2.2 e he i hi).1
        rw [q] at w2 w3
        rw [if_pos (by rw [q]), if_pos q, mfretOf_v hB hM hs (by omega) (by omega), Option.bind_some, hM.1.2.2.1, frt_in w2 w3, I_sub]
      · rw [if_neg (by rw [I_eq (by omega) (by omega) (by omega) (by omega)]; omega), if_neg q]
    dsimp only
    rw [body]
    by_cases q : st (4 * e + i) = s
    · right
      rw [if_pos q, nbk_hit hS he hi hn q]
    · left
      rw [if_neg q]
      exact ⟨_, rfl, rfl, nbk_miss hn q⟩
  · intro K z ⟨ez, hn⟩
    subst ez
    dsimp only
    unfold p_M_numberOn_L2 nb
    simp (disch := omega) only [l_0, l_1, l_2, l_3, l_4, l_5, l_6, l_7, l_9, l_10, l_20, l_24, l_25, l_31, l_40, l_45, l_48, l_57, l_99, l_123, l_124, l_127, l_2000, l_far, l_999999, I_lt, I_nat, tn_n, gdG, hM.2.2.2.1 e he]
    rw [if_pos (Int32.le_refl _), hn, I_neg]
theorem lengthOf_v {v : Int} (h1 : -1 ≤ v) (h2 : v ≤ 24) : p_TW_lengthOf (I v) g f = some (I (lenN v)) := by
  unfold p_TW_lengthOf lenN
  simp (disch := omega) only [l_0, l_1, l_2, l_3, l_4, l_5, l_6, l_7, l_9, l_10, l_20, l_24, l_25, l_31, l_40, l_45, l_48, l_57, l_99, l_123, l_124, l_127, l_2000, l_far, l_999999, I_neg, I_eq, I_le]
  split
  · rfl
  · split <;> rfl
theorem longest_v (hB : Base m nk cp ev op wt sz pt bd) (hS : Ws m nk cp ev op sz pt st) (hW : Wc m nk cp ev op wt sz pt st bd g f) {e : Nat} (he : e < ev) : p_TW_longestNumber (I e) g f = some (I (wdk cp op sz pt st e m)) := by
  have hm := hB.1.1
  have hn := hB.1.2.2.1
  unfold p_TW_longestNumber
  rw [l_0]
  refine itr_R (fun s z => z = (I e, I (lgk cp op sz pt st e s), I s)) m (fun o => o = some (I (wdk cp op sz pt st e m))) rfl (by omega) ?_ ?_
  · intro K s z hs ez
    subst ez
    left
    refine ⟨_, ?_, rfl⟩
    have nbb := nb_bd hS he s
    have l2 := lenN_2 (nb cp op sz pt st e s)
    have lw := wlk (cp := cp) (op := op) (sz := sz) (pt := pt) (st := st) (e := e) s
    have es : (s : Int) + 1 = ((s + 1 : Nat) : Int) := by omega
    have el : lgk cp op sz pt st e (s + 1) = if lgk cp op sz pt st e s < lenN (nb cp op sz pt st e s) then lenN (nb cp op sz pt st e s) else lgk cp op sz pt st e s := rfl
    dsimp only
    unfold p_TW_longestNumber_L4
    rw [hW.1.1.1, if_neg (by rw [I_le (by omega) (by omega) (by omega) (by omega)]; omega), frets_v hB hS hW he hs, Option.bind_some, lengthOf_v (by omega) (by omega), Option.bind_some, el]
    simp (disch := omega) only [l_0, l_1, l_2, l_3, l_4, l_5, l_6, l_7, l_9, l_10, l_20, l_24, l_25, l_31, l_40, l_45, l_48, l_57, l_99, l_123, l_124, l_127, l_2000, l_far, l_999999, I_lt, lt_, I_add, es]
    by_cases q : lgk cp op sz pt st e s < lenN (nb cp op sz pt st e s)
    · rw [if_pos (by omega), if_pos q]
    · rw [if_neg (by omega), if_neg q]
  · intro K z ez
    subst ez
    dsimp only
    unfold p_TW_longestNumber_L4
    rw [hW.1.1.1, if_pos (Int32.le_refl _), lg_wd hB hS he]
theorem writeNumber_v {L : List Nat} (h : PC g0 f0 L g f) (hl : L.length + 2 ≤ 2000) {v : Int} (h1 : -1 ≤ v) (h2 : v ≤ 24) : ∃ g' f', p_TW_writeNumber (I v) g f = some (I (lenN v), g', f') ∧ PC g0 f0 (L ++ digs v) g' f' := by
  unfold p_TW_writeNumber p_TW_writeNumber_J25
  rw [lengthOf_v h1 h2, Option.bind_some]
  unfold lenN digs
  by_cases q : v = -1
  · subst q
    rw [if_pos rfl, if_pos rfl, if_pos (show I ((0 : Nat) : Int) ≤ (1 : Int32) by decide), if_pos (show I ((0 : Nat) : Int) ≤ (0 : Int32) by decide), List.append_nil]
    exact ⟨g, f, rfl, h⟩
  · obtain ⟨n, rfl⟩ : ∃ n : Nat, v = n := ⟨v.toNat, by omega⟩
    rw [if_neg q, if_neg q]
    have ed : I (n : Int) / (10 : Int32) = I ((n / 10 : Nat) : Int) := div_v (m := 10) (by omega) (by omega) (by omega)
    have er : I (n : Int) - I (n : Int) / (10 : Int32) * (10 : Int32) = I ((n % 10 : Nat) : Int) := rem_v (m := 10) rfl (by omega) (by omega) (by omega)
    have e1 : (48 : Int) + ((n / 10 : Nat) : Int) = ((48 + n / 10 : Nat) : Int) := by omega
    have e2 : (48 : Int) + ((n % 10 : Nat) : Int) = ((48 + n % 10 : Nat) : Int) := by omega
    rw [er, ed, l_48, I_add, I_add, e1, e2, Int.toNat_natCast]
    by_cases w : 10 ≤ (n : Int)
    · rw [if_pos w, if_pos w, if_neg (show ¬ I ((2 : Nat) : Int) ≤ (1 : Int32) by decide)]
      obtain ⟨g1, f1, a1, a2⟩ := cadd h (by omega) (48 + n / 10)
      obtain ⟨g2, f2, c1, c2⟩ := cadd a2 (by rw [List.length_append, List.length_singleton]; omega) (48 + n % 10)
      rw [a1, Option.bind_some, if_neg (show ¬ I ((2 : Nat) : Int) ≤ (0 : Int32) by decide)]
      dsimp only
      rw [c1, Option.bind_some]
      refine ⟨g2, f2, rfl, ?_⟩
      rw [List.append_assoc] at c2
      exact c2
    · rw [if_neg w, if_neg w, if_pos (show I ((1 : Nat) : Int) ≤ (1 : Int32) by decide), if_neg (show ¬ I ((1 : Nat) : Int) ≤ (0 : Int32) by decide)]
      obtain ⟨g2, f2, c1, c2⟩ := cadd h (by omega) (48 + n % 10)
      rw [c1, Option.bind_some]
      exact ⟨g2, f2, rfl, c2⟩
theorem rep_snoc (n : Nat) : List.replicate (n + 1) 45 = List.replicate n 45 ++ [45] := List.replicate_succ'
theorem writeLine47 {L : List Nat} (h : PC g0 f0 L g f) {e a w : Nat} (he : e < 40) (ha : a ≤ w) (hw : w ≤ 2) (hl : L.length + 2 ≤ 2000) (h20 : f0 20 e = I w) {x1 : Int32} (K12 : (Int32 × Int32 × sG × sF) → Option (sG × sF)) :
    ∃ g' f', itr (fun K z => p_TW_writeLine_L47 K12 K z.1 z.2.1 z.2.2.1 z.2.2.2.1 z.2.2.2.2) FUEL (x1, I e, I a, g, f) = K12 (x1, I ((e + 1 : Nat) : Int), g', f') ∧ PC g0 f0 (L ++ List.replicate (w - a) 45) g' f' := by
  refine itr_R (fun t z => ∃ (g' : sG) (f' : sF), z = (x1, I e, I ((a + t : Nat) : Int), g', f') ∧ PC g0 f0 (L ++ List.replicate t 45) g' f') (w - a) (fun o => ∃ (g' : sG) (f' : sF), o = K12 (x1, I ((e + 1 : Nat) : Int), g', f') ∧ PC g0 f0 (L ++ List.replicate (w - a) 45) g' f') ⟨g, f, rfl, by rw [List.replicate_zero, List.append_nil]; exact h⟩ (by omega) ?_ ?_
  · intro K t z ht ⟨g', f', ez, hp⟩
    subst ez
    left
    have z20 : f' 20 e = I w := by rw [hp.2.2.2 20 (by omega)]; exact h20
    obtain ⟨g2, f2, c1, c2⟩ := cadd hp (by rw [List.length_append, List.length_replicate]; omega) 45
    rw [List.append_assoc, ← rep_snoc] at c2
    have ea : ((a + t : Nat) : Int) + 1 = ((a + (t + 1) : Nat) : Int) := by omega
    have c1' : p_Ta_add (I 45) g' f' = some (I 1, g2, f2) := c1
    refine ⟨_, ?_, g2, f2, rfl, c2⟩
    dsimp only
    unfold p_TW_writeLine_L47
    simp (disch := omega) only [l_0, l_1, l_2, l_3, l_4, l_5, l_6, l_7, l_9, l_10, l_20, l_24, l_25, l_31, l_40, l_45, l_48, l_57, l_99, l_123, l_124, l_127, l_2000, l_far, l_999999, I_lt, I_nat, tn_n, gdG, z20, I_le, lt_, I_add, ea, c1', Option.bind_some]
    rw [if_neg (by omega)]
  · intro K z ⟨g', f', ez, hp⟩
    subst ez
    have z20 : f' 20 e = I w := by rw [hp.2.2.2 20 (by omega)]; exact h20
    have ee : (e : Int) + 1 = ((e + 1 : Nat) : Int) := by omega
    refine ⟨g', f', ?_, hp⟩
    dsimp only
    unfold p_TW_writeLine_L47
    simp (disch := omega) only [l_0, l_1, l_2, l_3, l_4, l_5, l_6, l_7, l_9, l_10, l_20, l_24, l_25, l_31, l_40, l_45, l_48, l_57, l_99, l_123, l_124, l_127, l_2000, l_far, l_999999, I_lt, I_nat, tn_n, gdG, z20, I_le, lt_, I_add, ee]
    rw [if_pos (by omega)]
theorem writeLine_v (hB : Base m nk cp ev op wt sz pt bd) (hS : Ws m nk cp ev op sz pt st) (hW : Wc m nk cp ev op wt sz pt st bd g0 f0) (h20 : ∀ e, e < ev → f0 20 e = I (wdk cp op sz pt st e m)) {L : List Nat} (h : PC g0 f0 L g f) (hl : L.length + 124 ≤ 2000) {s : Nat} (hs : s < m) :
    ∃ g' f', p_TW_writeLine (I s) g f = some (g', f') ∧ PC g0 f0 (L ++ (124 :: (cells m cp op sz pt st s ev ++ [45, 124, 10]))) g' f' := by
  have hv := hB.1.2.2.2.2
  have hn := hB.1.2.2.1
  unfold p_TW_writeLine
  obtain ⟨g1, f1, a1, a2⟩ := cadd h (by omega) 124
  have a1' : p_Ta_add (124 : Int32) g f = some (I 1, g1, f1) := a1
  rw [a1', Option.bind_some, l_0]
  refine itr_R (fun e z => ∃ (g' : sG) (f' : sF), z = (I s, I e, g', f') ∧ PC g0 f0 (L ++ [124] ++ cells m cp op sz pt st s e) g' f') ev (fun o => ∃ (g' : sG) (f' : sF), o = some (g', f') ∧ PC g0 f0 (L ++ (124 :: (cells m cp op sz pt st s ev ++ [45, 124, 10]))) g' f') ⟨g1, f1, rfl, by show PC g0 f0 (L ++ [124] ++ []) g1 f1; rw [List.append_nil]; exact a2⟩ (by omega) ?_ ?_
  · intro K e z he ⟨g', f', ez, hp⟩
    subst ez
    left
    have cl := cells_len (m := m) (cp := cp) (op := op) (sz := sz) (pt := pt) (st := st) (s := s) e
    have ll : (L ++ [124] ++ cells m cp op sz pt st s e).length = L.length + 1 + (cells m cp op sz pt st s e).length := by rw [List.length_append, List.length_append, List.length_singleton]
    obtain ⟨g2, f2, c1, c2⟩ := cadd hp (by omega) 45
    have c1' : p_Ta_add (45 : Int32) g' f' = some (I 1, g2, f2) := c1
    have nbb := nb_bd hS he s
    obtain ⟨g3, f3, d1, d2⟩ := writeNumber_v (v := nb cp op sz pt st e s) c2 (by rw [List.length_append, List.length_singleton]; omega) (by omega) (by omega)
    have lw := wlk (cp := cp) (op := op) (sz := sz) (pt := pt) (st := st) (e := e) m
    have lwd := lg_wd hB hS he
    have l2 := lenN_2 (nb cp op sz pt st e s)
    have lle : lenN (nb cp op sz pt st e s) ≤ wdk cp op sz pt st e m := by
      rw [← lwd]
      exact lgk_ge hs
    obtain ⟨g4, f4, k1, k2⟩ := writeLine47 (x1 := I s) d2 (show e < 40 by omega) lle (by omega) (by rw [List.length_append, List.length_append, List.length_singleton, digs_len]; omega) (h20 e he) K
    refine ⟨_, ?_, g4, f4, rfl, ?_⟩
    · dsimp only
      unfold p_TW_writeLine_L12
      rw [(hp.w hW).1.1.2.2.2, if_neg (by rw [I_le (by omega) (by omega) (by omega) (by omega)]; omega), c1', Option.bind_some]
      dsimp only
      rw [frets_v hB hS (c2.w hW) he hs, Option.bind_some, d1, Option.bind_some]
      exact k1
    · have : L ++ [124] ++ cells m cp op sz pt st s (e + 1) = L ++ [124] ++ cells m cp op sz pt st s e ++ [45] ++ digs (nb cp op sz pt st e s) ++ List.replicate (wdk cp op sz pt st e m - lenN (nb cp op sz pt st e s)) 45 := by
        show L ++ [124] ++ (cells m cp op sz pt st s e ++ cell m cp op sz pt st e s) = _
        unfold cell
        simp only [List.append_assoc, List.singleton_append, List.cons_append, List.nil_append]
      rw [this]
      exact k2
  · intro K z ⟨g', f', ez, hp⟩
    subst ez
    have cl := cells_len (m := m) (cp := cp) (op := op) (sz := sz) (pt := pt) (st := st) (s := s) ev
    have ll : (L ++ [124] ++ cells m cp op sz pt st s ev).length = L.length + 1 + (cells m cp op sz pt st s ev).length := by rw [List.length_append, List.length_append, List.length_singleton]
    obtain ⟨g2, f2, c1, c2⟩ := cadd hp (by omega) 45
    obtain ⟨g3, f3, d1, d2⟩ := cadd c2 (by rw [List.length_append, List.length_singleton]; omega) 124
    obtain ⟨g4, f4, k1, k2⟩ := cadd d2 (by rw [List.length_append, List.length_append, List.length_singleton, List.length_singleton]; omega) 10
    have c1' : p_Ta_add (45 : Int32) g' f' = some (I 1, g2, f2) := c1
    have d1' : p_Ta_add (124 : Int32) g2 f2 = some (I 1, g3, f3) := d1
    have k1' : p_Ta_add (10 : Int32) g3 f3 = some (I 1, g4, f4) := k1
    refine ⟨g4, f4, ?_, ?_⟩
    · dsimp only
      unfold p_TW_writeLine_L12
      rw [(hp.w hW).1.1.2.2.2, if_pos (Int32.le_refl _), c1', Option.bind_some]
      dsimp only
      rw [d1', Option.bind_some]
      dsimp only
      rw [k1', Option.bind_some]
    · have : L ++ (124 :: (cells m cp op sz pt st s ev ++ [45, 124, 10])) = L ++ [124] ++ cells m cp op sz pt st s ev ++ [45] ++ [124] ++ [10] := by
        simp only [List.append_assoc, List.singleton_append, List.cons_append, List.nil_append]
      rw [this]
      exact k2
theorem writeTab_v (hB : Base m nk cp ev op wt sz pt bd) (hS : Ws m nk cp ev op sz pt st) (hW : Wc m nk cp ev op wt sz pt st bd g f) :
    ∃ g' f', p_TW_writeTab g f = some (g', f') ∧ g' 12 = I (linesT m cp ev op sz pt st m).length ∧ (∀ i, i < (linesT m cp ev op sz pt st m).length → f' 19 i = I ((linesT m cp ev op sz pt st m).getD i 0)) ∧ (∀ x, x ≠ 12 → g' x = g x) ∧ (∀ j, j ≠ 19 → j ≠ 20 → f' j = f j) := by
  have hv := hB.1.2.2.2.2
  have hm := hB.1.1
  unfold p_TW_writeTab
  rw [l_0, lt_]
  refine itr_R (fun e z => ∃ f' : sF, z = (I e, upd g 12 (I 0), f') ∧ (∀ e', e' < e → f' 20 e' = I (wdk cp op sz pt st e' m)) ∧ (∀ j, j ≠ 20 → f' j = f j)) ev
    (fun o => ∃ (g' : sG) (f' : sF), o = some (g', f') ∧ g' 12 = I (linesT m cp ev op sz pt st m).length ∧ (∀ i, i < (linesT m cp ev op sz pt st m).length → f' 19 i = I ((linesT m cp ev op sz pt st m).getD i 0)) ∧ (∀ x, x ≠ 12 → g' x = g x) ∧ (∀ j, j ≠ 19 → j ≠ 20 → f' j = f j)) ⟨f, rfl, fun e' h => by omega, fun _ _ => rfl⟩ (by omega) ?_ ?_
  · intro K e z he ⟨f', ez, h1, h2⟩
    subst ez
    left
    have hW' : Wc m nk cp ev op wt sz pt st bd (upd g 12 (I 0)) f' := ⟨hW.1.fr (fun x hx => upd_n _ _ (by omega)) (fun j hj => h2 j (by omega)), by rw [upd_n _ _ (by omega)]; exact hW.2.1, fun e he i hi => by rw [h2 6 (by omega)]; exact hW.2.2 e he i hi⟩
    have ee : (e : Int) + 1 = ((e + 1 : Nat) : Int) := by omega
    refine ⟨(I ((e + 1 : Nat) : Int), upd g 12 (I 0), up2 f' 20 e (I (wdk cp op sz pt st e m))), ?_, _, rfl, fun e' he' => ?_, fun j hj => by rw [up2_n _ _ _ hj]; exact h2 j hj⟩
    · dsimp only
      unfold p_TW_writeTab_L10
      rw [hW'.1.1.2.2.2, if_neg (by rw [I_le (by omega) (by omega) (by omega) (by omega)]; omega), longest_v hB hS hW' he, Option.bind_some]
      simp (disch := omega) only [l_0, l_1, l_2, l_3, l_4, l_5, l_6, l_7, l_9, l_10, l_20, l_24, l_25, l_31, l_40, l_45, l_48, l_57, l_99, l_123, l_124, l_127, l_2000, l_far, l_999999, I_lt, I_nat, tn_n, gdG, lt_, I_add, ee]
    · by_cases q : e' = e
      · subst q; rw [up2_s, upd_s]
      · rw [up2_s, upd_n _ _ q]; exact h1 e' (by omega)
  · intro K z ⟨f', ez, h1, h2⟩
    subst ez
    have hW' : Wc m nk cp ev op wt sz pt st bd (upd g 12 (I 0)) f' := ⟨hW.1.fr (fun x hx => upd_n _ _ (by omega)) (fun j hj => h2 j (by omega)), by rw [upd_n _ _ (by omega)]; exact hW.2.1, fun e he i hi => by rw [h2 6 (by omega)]; exact hW.2.2 e he i hi⟩
    dsimp only
    unfold p_TW_writeTab_L10
    rw [hW'.1.1.2.2.2, if_pos (Int32.le_refl _), hW'.1.1.1, l_1, I_sub, lt_]
    refine itr_R (fun k z => ∃ (g2 : sG) (f2 : sF), z = (I ((m : Int) - 1 - k), g2, f2) ∧ PC (upd g 12 (I 0)) f' (linesT m cp ev op sz pt st k) g2 f2) m
      (fun o => ∃ (g' : sG) (f' : sF), o = some (g', f') ∧ g' 12 = I (linesT m cp ev op sz pt st m).length ∧ (∀ i, i < (linesT m cp ev op sz pt st m).length → f' 19 i = I ((linesT m cp ev op sz pt st m).getD i 0)) ∧ (∀ x, x ≠ 12 → g' x = g x) ∧ (∀ j, j ≠ 19 → j ≠ 20 → f' j = f j)) ⟨upd g 12 (I 0), f', by rw [show ((0 : Nat) : Int) = 0 from rfl, Int.sub_zero], ⟨upd_s g 12 (I 0), fun i hi => absurd hi (Nat.not_lt_zero i), fun _ _ => rfl, fun _ _ => rfl⟩⟩ (by omega) ?_ ?_
    · intro K2 k z hk ⟨g2, f2, ez, hp⟩
      subst ez
      left
      have ek : (m : Int) - 1 - k = ((m - 1 - k : Nat) : Int) := by omega
      have ll := lines_len (m := m) (cp := cp) (op := op) (sz := sz) (pt := pt) (st := st) hv k
      obtain ⟨g3, f3, d1, d2⟩ := writeLine_v hB hS hW' h1 hp (by omega) (show m - 1 - k < m by omega)
      refine ⟨_, ?_, g3, f3, rfl, d2⟩
      rw [ek]
      dsimp only
      unfold p_TW_writeTab_L48
      rw [if_neg (by rw [l_0, I_lt (by omega) (by omega) (by omega) (by omega)]; omega), d1, Option.bind_some, l_1, I_neg, I_add, lt_, show ((m - 1 - k : Nat) : Int) + -1 = (m : Int) - 1 - ((k + 1 : Nat) : Int) by omega]
    · intro K2 z ⟨g2, f2, ez, hp⟩
      subst ez
      dsimp only
      unfold p_TW_writeTab_L48
      rw [if_pos (by rw [l_0, I_lt (by omega) (by omega) (by omega) (by omega)]; omega)]
      exact ⟨g2, f2, rfl, hp.1, hp.2.1, fun x hx => by rw [hp.2.2.1 x hx, upd_n _ _ hx], fun j a b => by rw [hp.2.2.2 j a, h2 j b]⟩
end WR
