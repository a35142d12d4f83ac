section CR
variable {m nk cp ev n C i : Nat} {op wt sz pt tp : Nat → Nat} {bd : Nat → Int} {g : sG} {f : sF}
/-- the tape in the class, in the reference -/
def Xc (n : Nat) (tp : Nat → Nat) (g : sG) (f : sF) : Prop := n ≤ 2000 ∧ g 12 = I n ∧ ∀ j, j < n → f 19 j = I (tp j) ∧ tp j ≤ 127
def Xm (n : Nat) (tp : Nat → Nat) (g : sG) (f : sF) : Prop := n ≤ 2000 ∧ g 5 = I n ∧ ∀ j, j < n → f 9 j = I (tp j) ∧ tp j ≤ 127
theorem csign_v (h : Xc n tp g f) {k : Nat} (hk : k < 2147483648) : p_Ta_signAt (I k) g f = some (I (sgn n tp k)) := by
  obtain ⟨h1, h2, h3⟩ := h
  unfold p_Ta_signAt sgn
  rw [if_neg (by rw [l_0, I_lt (by omega) (by omega) (by omega) (by omega)]; omega), h2]
  by_cases q : k < n
  · rw [if_neg (by rw [I_le (by omega) (by omega) (by omega) (by omega)]; omega), if_pos q]
    simp (disch := omega) only [l_0, l_1, l_2, l_3, l_4, l_5, l_6, l_7, l_9, l_10, l_20, l_24, l_25, l_31, l_40, l_45, l_48, l_57, l_99, l_123, l_124, l_127, l_2000, l_far, l_999999, I_lt, I_nat, tn_n, gdG, (h3 k q).1]
  · rw [if_pos (by rw [I_le (by omega) (by omega) (by omega) (by omega)]; omega), if_neg q]
    rfl
theorem isDigit_v {x : Int} (h1 : -1 ≤ x) (h2 : x ≤ 127) : p_TR_isDigit (I x) g f = some (I (bI (48 ≤ x ∧ x ≤ 57))) := by
  unfold p_TR_isDigit
  simp (disch := omega) only [l_0, l_1, l_2, l_3, l_4, l_5, l_6, l_7, l_9, l_10, l_20, l_24, l_25, l_31, l_40, l_45, l_48, l_57, l_99, l_123, l_124, l_127, l_2000, l_far, l_999999, I_lt]
  by_cases a : 48 ≤ x ∧ x ≤ 57
  · rw [if_neg (by omega), if_neg (by omega), bI_t a]
  · rw [bI_f a]
    by_cases b : x < 48
    · rw [if_pos b]
    · rw [if_neg b, if_pos (by omega)]
theorem n10 : ¬ I 1 = (0 : Int32) := by decide
theorem z00 : I 0 = (0 : Int32) := rfl
theorem isInner_v {x : Int} (h1 : -1 ≤ x) (h2 : x ≤ 127) : p_TR_isInner (I x) g f = some (I (bI (inn x))) := by
  unfold p_TR_isInner
  rw [isDigit_v h1 h2, Option.bind_some]
  simp (disch := omega) only [l_0, l_1, l_2, l_3, l_4, l_5, l_6, l_7, l_9, l_10, l_20, l_24, l_25, l_31, l_40, l_45, l_48, l_57, l_99, l_123, l_124, l_127, l_2000, l_far, l_999999, I_eq]
  by_cases a : x = 45
  · rw [if_pos a, bI_t (show inn x from Or.inl a)]
  · rw [if_neg a]
    by_cases b : 48 ≤ x ∧ x ≤ 57
    · rw [bI_t b, bI_t (show inn x from Or.inr b)]; rfl
    · rw [bI_f b, bI_f (show ¬ inn x from fun q => q.elim a b)]; rfl
theorem measure_v (hX : Xc n tp g f) (hC : IsC n tp C) (hCn : C ≤ n) :
    ∃ g', p_TR_measureFirstLine g f = some (I (if sgn n tp 0 = 124 then (if sgn n tp (1 + C) = 124 then (if sgn n tp (2 + C) = 10 then -1 else 2 + C) else 1 + C) else 0), g', f) ∧ (∀ x, x ≠ 13 → g' x = g x) ∧ (sgn n tp 0 = 124 → sgn n tp (1 + C) = 124 → sgn n tp (2 + C) = 10 → g' 13 = I ((C + 3 : Nat) : Int)) := by
  have hn := hX.1
  have sb := sgn_bd (n := n) (tp := tp) (fun j hj => (hX.2.2 j hj).2)
  have s0 := sb 0
  have s1 := sb (1 + C)
  have s2 := sb (2 + C)
  unfold p_TR_measureFirstLine
  have c0 : p_Ta_signAt (0 : Int32) g f = some (I (sgn n tp 0)) := csign_v (k := 0) hX (by omega)
  rw [c0, Option.bind_some]
  by_cases h0 : sgn n tp 0 = 124
  · rw [if_pos h0, show I (sgn n tp 0) = I 124 by rw [h0], if_pos (show I 124 = (124 : Int32) from rfl), l_1]
    have fin : ∃ g', p_TR_measureFirstLine_J48 (I ((1 + C : Nat) : Int)) g f = some (I (if sgn n tp (1 + C) = 124 then (if sgn n tp (2 + C) = 10 then -1 else 2 + C) else 1 + C), g', f) ∧ (∀ x, x ≠ 13 → g' x = g x) ∧ (sgn n tp 0 = 124 → sgn n tp (1 + C) = 124 → sgn n tp (2 + C) = 10 → g' 13 = I ((C + 3 : Nat) : Int)) := by
      unfold p_TR_measureFirstLine_J48
      rw [csign_v hX (by omega), Option.bind_some, l_1, I_add, show ((1 + C : Nat) : Int) + 1 = ((2 + C : Nat) : Int) by omega, csign_v hX (by omega), Option.bind_some, l_2, I_add]
      simp (disch := omega) only [l_0, l_1, l_2, l_3, l_4, l_5, l_6, l_7, l_9, l_10, l_20, l_24, l_25, l_31, l_40, l_45, l_48, l_57, l_99, l_123, l_124, l_127, l_2000, l_far, l_999999, I_eq]
      by_cases h1 : sgn n tp (1 + C) = 124
      · rw [if_pos h1, if_pos h1]
        by_cases h2 : sgn n tp (2 + C) = 10
        · rw [if_pos h2, if_pos h2]
          refine ⟨_, rfl, fun x hx => upd_n _ _ hx, fun _ _ _ => ?_⟩
          rw [upd_s]
          congr 1
          omega
        · rw [if_neg h2, if_neg h2]
          exact ⟨g, by rw [show ((2 + C : Nat) : Int) = 2 + (C : Int) by omega], fun _ _ => rfl, fun _ _ q => absurd q h2⟩
      · rw [if_neg h1, if_neg h1]
        exact ⟨g, by rw [show ((1 + C : Nat) : Int) = 1 + (C : Int) by omega], fun _ _ => rfl, fun _ q _ => absurd q h1⟩
    refine itr_R (fun t z => z = (I ((1 + t : Nat) : Int), g, f)) C (fun o => ∃ g' : sG, o = some (I (if sgn n tp (1 + C) = 124 then (if sgn n tp (2 + C) = 10 then -1 else 2 + C) else 1 + C), g', f) ∧ (∀ x, x ≠ 13 → g' x = g x) ∧ (sgn n tp 0 = 124 → sgn n tp (1 + C) = 124 → sgn n tp (2 + C) = 10 → g' 13 = I ((C + 3 : Nat) : Int))) rfl (by omega) ?_ ?_
    · intro K t z ht ez
      subst ez
      left
      have hi := hC.1 t ht
      have hlt := inn_in hi
      have st := sb (1 + t)
      refine ⟨_, ?_, rfl⟩
      dsimp only
      unfold p_TR_measureFirstLine_L17
      rw [hX.2.1, if_neg (by rw [I_le (by omega) (by omega) (by omega) (by omega)]; omega), csign_v hX (by omega), Option.bind_some, isInner_v st.1 st.2, Option.bind_some, bI_t hi, if_neg n10, l_1, I_add]
      rfl
    · intro K z ez
      subst ez
      dsimp only
      unfold p_TR_measureFirstLine_L17
      rw [csign_v hX (by omega), Option.bind_some, isInner_v s1.1 s1.2, Option.bind_some, bI_f hC.2, if_pos z00]
      split
      · exact fin
      · exact fin
  · rw [if_neg h0, if_neg (by rw [l_124, I_eq (by omega) (by omega) (by omega) (by omega)]; exact h0)]
    exact ⟨g, rfl, fun _ _ => rfl, fun q => absurd q h0⟩
theorem fits_v {c : Nat} {x : Int} (h13 : g 13 = I ((C + 3 : Nat) : Int)) (hC : C ≤ 2000) (hc : c < C + 3) (h1 : -1 ≤ x) (h2 : x ≤ 127) : p_TR_fitsColumn (I x) (I c) g f = some (I (bI (fitc C c x))) := by
  unfold p_TR_fitsColumn p_TR_fitsColumn_J36 fitc
  rw [h13, isInner_v h1 h2, Option.bind_some]
  have ng : ¬ (¬ I (bI (inn x)) = 0 ∧ ¬ I (bI (inn x)) = 1) := by
    rcases bI_01 (inn x) with h | h <;> rw [h] <;> decide
  rw [if_neg ng]
  simp (disch := omega) only [l_0, l_1, l_2, l_3, l_4, l_5, l_6, l_7, l_9, l_10, l_20, l_24, l_25, l_31, l_40, l_45, l_48, l_57, l_99, l_123, l_124, l_127, l_2000, l_far, l_999999, I_sub, I_eq]
  by_cases c2 : c = C + 2
  · rw [if_pos (by omega), if_pos c2]
    by_cases w : x = 10
    · rw [if_pos w, bI_t w]
    · rw [if_neg w, bI_f w]
  · rw [if_neg (by omega), if_neg c2]
    by_cases c0 : c = 0
    · rw [if_pos (by omega), if_pos (Or.inl c0)]
      by_cases w : x = 124
      · rw [if_pos w, bI_t w]
      · rw [if_neg w, bI_f w]
    · rw [if_neg (by omega)]
      by_cases c1 : c = C + 1
      · rw [if_pos (by omega), if_pos (Or.inr c1)]
        by_cases w : x = 124
        · rw [if_pos w, bI_t w]
        · rw [if_neg w, bI_f w]
      · rw [if_neg (by omega), if_neg (fun q => q.elim c0 c1)]
theorem placeC {s k : Nat} (h0 : g 0 = I m) (h13 : g 13 = I ((C + 3 : Nat) : Int)) (hs : s < m) : p_TR_placeOf (I s) (I k) g f = some (I (((m - 1 - s) * (C + 3) + k : Nat) : Int)) := by
  unfold p_TR_placeOf
  rw [h0, h13, l_1, I_sub, I_sub, I_mul, I_add]
  congr 2
  rw [show (m : Int) - 1 - s = ((m - 1 - s : Nat) : Int) by omega, ← Int.natCast_mul]
  omega
theorem wrongSign_v (hm : 1 ≤ m) (hm7 : m ≤ 7) (h0 : g 0 = I m) (hX : Xc n tp g f) (hC : IsC n tp C) (hCn : C ≤ n) (hI : IsI m n tp C i) :
    ∃ g', p_TR_wrongSign g f = some (I (F1 m n tp C i), g', f) ∧ (∀ x, x ≠ 13 → g' x = g x) ∧ (F1 m n tp C i = -1 → g' 13 = I ((C + 3 : Nat) : Int)) := by
  have hn := hX.1
  have sb := sgn_bd (n := n) (tp := tp) (fun j hj => (hX.2.2 j hj).2)
  obtain ⟨g1, e1, e2, e3⟩ := measure_v hX hC hCn
  unfold p_TR_wrongSign
  rw [e1, Option.bind_some]
  dsimp only
  unfold F1
  by_cases q0 : sgn n tp 0 = 124
  · rw [if_pos q0, if_pos q0]
    by_cases q1 : sgn n tp (1 + C) = 124
    · rw [if_pos q1, if_pos q1]
      by_cases q2 : sgn n tp (2 + C) = 10
      · rw [if_pos q2, if_pos q2, if_pos (show I (-1) = (-1 : Int32) from rfl)]
        have g13 := e3 q0 q1 q2
        have hW7 : m * (C + 3) ≤ 7 * (C + 3) := Nat.mul_le_mul_right _ hm7
        have g0' : g1 0 = I m := by rw [e2 0 (by omega)]; exact h0
        have g12 : g1 12 = I n := by rw [e2 12 (by omega)]; exact hX.2.1
        have hX1 : Xc n tp g1 f := ⟨hn, g12, hX.2.2⟩
        rw [g0', l_2, I_sub, lt_]
        obtain ⟨i1, i2, i3, i4⟩ := hI
        refine itr_R (fun t z => z = (I ((m : Int) - 2 - t), g1, f) ∧ (t + 1) * (C + 3) ≤ i) (m - 1) (fun o => ∃ g' : sG, o = some (I (if i < m * (C + 3) then (i : Int) else if m * (C + 3) < n then ((m * (C + 3) : Nat) : Int) else -1), g', f) ∧ (∀ x, x ≠ 13 → g' x = g x) ∧ ((if i < m * (C + 3) then (i : Int) else if m * (C + 3) < n then ((m * (C + 3) : Nat) : Int) else -1) = -1 → g' 13 = I ((C + 3 : Nat) : Int))) ⟨by rw [show ((0 : Nat) : Int) = 0 from rfl, Int.sub_zero], by omega⟩ (by omega) ?_ ?_
        · intro K t z ht ⟨ez, hti⟩
          subst ez
          obtain ⟨s, hs⟩ : ∃ s : Nat, s = m - 2 - t := ⟨_, rfl⟩
          have es : (m : Int) - 2 - t = s := by omega
          have est : m - 1 - s = t + 1 := by omega
          rw [es]
          dsimp only
          unfold p_TR_wrongSign_L22
          rw [if_neg (by rw [l_0, I_lt (by omega) (by omega) (by omega) (by omega)]; omega), l_0]
          refine itr_R (fun c z => z = (I s, I c, g1, f) ∧ (t + 1) * (C + 3) + c ≤ i) (C + 3) (fun o => (∃ s', o = K s' ∧ s' = (I ((m : Int) - 2 - ((t + 1 : Nat) : Int)), g1, f) ∧ (t + 1 + 1) * (C + 3) ≤ i) ∨ ∃ g' : sG, o = some (I (if i < m * (C + 3) then (i : Int) else if m * (C + 3) < n then ((m * (C + 3) : Nat) : Int) else -1), g', f) ∧ (∀ x, x ≠ 13 → g' x = g x) ∧ ((if i < m * (C + 3) then (i : Int) else if m * (C + 3) < n then ((m * (C + 3) : Nat) : Int) else -1) = -1 → g' 13 = I ((C + 3 : Nat) : Int))) ⟨rfl, by omega⟩ (by omega) ?_ ?_
          · intro K2 c z hc ⟨ez, hle⟩
            subst ez
            have hlt := line_lt (k := t + 1) (m := m) (by omega) hc
            have st := sb ((t + 1) * (C + 3) + c)
            have body : p_TR_wrongSign_L28 K K2 (I s) (I c) g1 f = if cb (fitc C c (sgn n tp ((t + 1) * (C + 3) + c))) = true then K2 (I s, I ((c + 1 : Nat) : Int), g1, f) else some (I (((t + 1) * (C + 3) + c : Nat) : Int), g1, f) := by
              unfold p_TR_wrongSign_L28 p_TR_signIn
              rw [g13, if_neg (by rw [I_le (by omega) (by omega) (by omega) (by omega)]; omega), placeC g0' g13 (show s < m by omega), Option.bind_some, est, csign_v hX1 (by omega), Option.bind_some, Option.bind_some, fits_v g13 (by omega) hc st.1 st.2, Option.bind_some, Option.bind_some, l_1, I_add]
              by_cases w : fitc C c (sgn n tp ((t + 1) * (C + 3) + c))
              · rw [bI_t w, if_neg n10, if_pos (cb_t.mpr w)]; rfl
              · rw [bI_f w, if_pos z00, if_neg (fun q => w (cb_t.mp q))]
            have emod : ((t + 1) * (C + 3) + c) % (C + 3) = c := by rw [Nat.mul_comm, Nat.mul_add_mod, Nat.mod_eq_of_lt hc]
            dsimp only
            rw [body]
            by_cases w : (t + 1) * (C + 3) + c = i
            · right
              right
              have nf := i4 (by omega)
              rw [← w, emod] at nf
              rw [if_neg (fun q => nf (cb_t.mp q)), w, if_pos (by omega)]
              exact ⟨g1, rfl, e2, fun q => by omega⟩
            · left
              have ff := i3 ((t + 1) * (C + 3) + c) (by have : 1 * (C + 3) ≤ (t + 1) * (C + 3) := Nat.mul_le_mul_right _ (by omega); omega) (by omega)
              rw [emod] at ff
              rw [if_pos (cb_t.mpr ff)]
              exact ⟨_, rfl, rfl, by omega⟩
          · intro K2 z ⟨ez, hle⟩
            subst ez
            left
            refine ⟨_, ?_, rfl, by rw [Nat.add_mul (t + 1) 1, Nat.one_mul]; exact hle⟩
            dsimp only
            unfold p_TR_wrongSign_L28
            rw [g13, if_pos (Int32.le_refl _), l_1, I_neg, I_add, lt_, show (s : Int) + -1 = (m : Int) - 2 - ((t + 1 : Nat) : Int) by omega]
        · intro K z ⟨ez, hti⟩
          subst ez
          rw [show m - 1 + 1 = m by omega] at hti
          dsimp only
          unfold p_TR_wrongSign_L22
          rw [if_pos (by rw [l_0, I_lt (by omega) (by omega) (by omega) (by omega)]; omega), g0', g13, I_mul, lt_, g12, if_neg (show ¬ i < m * (C + 3) by omega), ← Int.natCast_mul]
          by_cases w : m * (C + 3) < n
          · rw [if_neg (by rw [I_le (by omega) (by omega) (by omega) (by omega)]; omega), if_pos w]
            exact ⟨g1, rfl, e2, fun _ => g13⟩
          · rw [if_pos (by rw [I_le (by omega) (by omega) (by omega) (by omega)]; omega), if_neg w]
            exact ⟨g1, rfl, e2, fun _ => g13⟩
      · rw [if_neg q2, if_neg q2, if_neg (by rw [l_1, I_neg, I_eq (by omega) (by omega) (by omega) (by omega)]; omega)]
        exact ⟨g1, rfl, e2, fun q => by omega⟩
    · rw [if_neg q1, if_neg q1, if_neg (by rw [l_1, I_neg, I_eq (by omega) (by omega) (by omega) (by omega)]; omega)]
      exact ⟨g1, rfl, e2, fun q => by omega⟩
  · rw [if_neg q0, if_neg q0, if_neg (by decide)]
    exact ⟨g1, rfl, e2, fun q => by omega⟩
end CR
