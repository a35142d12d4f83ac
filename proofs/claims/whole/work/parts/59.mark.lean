noncomputable def bI (P : Prop) : Int := if cb P = true then 1 else 0
theorem bI_t {P : Prop} (h : P) : bI P = 1 := if_pos (cb_t.mpr h)
theorem bI_f {P : Prop} (h : ¬ P) : bI P = 0 := if_neg (fun q => h (cb_t.mp q))
theorem bI_congr {P Q : Prop} (h : P ↔ Q) : bI P = bI Q := congrArg bI (propext h)
theorem bI_01 (P : Prop) : bI P = 0 ∨ bI P = 1 := by
  by_cases h : P
  · exact Or.inr (bI_t h)
  · exact Or.inl (bI_f h)
section MK
variable {m nk cp ev : Nat} {op wt sz pt : Nat → Nat} {bd : Nat → Int} {g : sG} {f : sF}
def gos (m nk cp : Nat) (op wt sz pt : Nat → Nat) (bd : Nat → Int) (e p q : Nat) : Prop := goes (cp + 1) (nk - cp) (DD m nk cp op wt sz pt bd) (mvv wt) e p q
def onn (m nk cp ev : Nat) (op wt sz pt : Nat → Nat) (bd : Nat → Int) (t : Int) (e p : Nat) : Prop := onp (cp + 1) (nk - cp) ev (DD m nk cp op wt sz pt bd) (mvv wt) t e p
def FA (m nk cp ev : Nat) (op wt sz pt : Nat → Nat) (bd : Nat → Int) (f : sF) : Prop := ∀ e q, e < ev → cp < q → q ≤ nk → FSs m nk cp op wt sz pt bd e q f ∧ FCs m nk cp op wt sz pt bd e q f
theorem goesOn_v (hB : Base m nk cp ev op wt sz pt bd) (hM : Mb m nk cp ev op wt sz pt bd g f) (hF : FA m nk cp ev op wt sz pt bd f) {e p q : Nat} (he : e + 1 < ev) (p1 : cp < p) (p2 : p ≤ nk) (q1 : cp < q) (q2 : q ≤ nk) : p_M_goesOn (I e) (I p) (I q) g f = some (I (bI (gos m nk cp op wt sz pt bd e p q))) := by
  obtain ⟨⟨b0, b1, b2, b3, b4⟩, bO, bW, bS, bP⟩ := id hB
  have x14 := (hF e p (by omega) p1 p2).1.1
  have y14 := (hF (e + 1) q he q1 q2).1.1
  have y12 := (hF (e + 1) q he q1 q2).2.1
  have mvq := move_v (p := p) (q := q) hB hM (by omega) (by omega)
  have mb := mvv_bd (wt := wt) (bW 0 (by omega)) (show p ≤ 24 by omega) (show q ≤ 24 by omega)
  have e1 : (e : Int) + 1 = ((e + 1 : Nat) : Int) := by omega
  unfold p_M_goesOn p_M_at_
  simp (disch := omega) only [l_0, l_1, l_2, l_3, l_4, l_5, l_6, l_7, l_9, l_10, l_20, l_24, l_25, l_31, l_40, l_45, l_48, l_57, l_99, l_123, l_124, l_127, l_2000, l_far, l_999999, Option.bind_some, I_mul, I_add, I_lt, I_nat, e1, tn_25b, gdG, x14, y14, y12, mvq]
  unfold gos goes
  have u1 : cF m nk cp op wt sz pt bd e p = Ft (cp + 1) (nk - cp) (DD m nk cp op wt sz pt bd) (mvv wt) e p := rfl
  have u2 : cF m nk cp op wt sz pt bd (e + 1) q = Ft (cp + 1) (nk - cp) (DD m nk cp op wt sz pt bd) (mvv wt) (e + 1) q := rfl
  rw [← u1, ← u2]
  cases hx : cF m nk cp op wt sz pt bd e p with
  | none =>
    rw [msum_n, if_pos (Int32.le_refl _), bI_f (fun ⟨_, _, _, h, _⟩ => (by cases h))]
  | some a =>
    have ab := cF_bd hB e (by omega) p a (by omega) hx
    rw [msum_s, if_neg (by rw [I_le (by omega) (by omega) (by omega) (by omega)]; omega)]
    cases hy : cF m nk cp op wt sz pt bd (e + 1) q with
    | none =>
      rw [msum_n, if_pos (Int32.le_refl _), bI_f (fun ⟨_, _, _, _, h, _⟩ => (by cases h))]
    | some c =>
      have cb := cF_bd hB (e + 1) he q c (by omega) hy
      rw [msum_s, if_neg (by rw [I_le (by omega) (by omega) (by omega) (by omega)]; omega)]
      cases hD : DD m nk cp op wt sz pt bd (e + 1) q with
      | none =>
        exfalso
        have : cF m nk cp op wt sz pt bd (e + 1) q = tmul (DD m nk cp op wt sz pt bd (e + 1) q) (cG m nk cp op wt sz pt bd e q (nk - cp)) := rfl
        rw [hD, hy] at this
        cases this
      | some d =>
        have db := DD_bd hB he hD
        rw [msum_s]
        simp (disch := omega) only [I_eq]
        by_cases w : a.1 + mvv wt p q + d.1 = c.1
        · rw [if_pos w, bI_t ⟨a, c, d, rfl, rfl, rfl, w⟩]
        · rw [if_neg w, bI_f (fun ⟨_, _, _, h1, h2, h3, h4⟩ => by cases h1; cases h2; cases h3; exact w h4)]
def MO (m nk cp ev : Nat) (op wt sz pt : Nat → Nat) (bd : Nat → Int) (t : Int) (e p : Nat) (f : sF) : Prop := f 16 (25 * e + p) = I (bI (onn m nk cp ev op wt sz pt bd t e p))
theorem mark131 {e p : Nat} {P : Prop} (he : e < 40) (hp : p < 25) {x1 : Int32} (K7 : (Int32 × Int32 × sG × sF) → Option (sG × sF)) (K18 : (Int32 × Int32 × Int32 × sG × sF) → Option (sG × sF)) :
    p_M_markBack_J131 K7 K18 x1 (I e) (I p) (I (bI P)) g f = K18 (x1, I e, I ((p + 1 : Nat) : Int), g, up2 f 16 (25 * e + p) (I (bI P))) := by
  unfold p_M_markBack_J131 p_M_at_
  have h : ¬ (¬ I (bI P) = 0 ∧ ¬ I (bI P) = 1) := by
    rcases bI_01 P with h | h <;> rw [h] <;> decide
  rw [Option.bind_some, if_neg h]
  have ep : (p : Int) + 1 = ((p + 1 : Nat) : Int) := by omega
  simp (disch := omega) only [l_0, l_1, l_2, l_3, l_4, l_5, l_6, l_7, l_9, l_10, l_20, l_24, l_25, l_31, l_40, l_45, l_48, l_57, l_99, l_123, l_124, l_127, l_2000, l_far, l_999999, Option.bind_some, I_mul, I_add, I_lt, I_nat, ep, tn_25b, gdG, lt_]
/-- before the last event -/
theorem mark66 (hB : Base m nk cp ev op wt sz pt bd) (hM : Mb m nk cp ev op wt sz pt bd g f) (hF : FA m nk cp ev op wt sz pt bd f) {t : Int × Nat} (hT : cT' m nk cp ev op wt sz pt bd = some t) {e p : Nat} (he : e + 1 < ev) (p1 : cp < p) (p2 : p ≤ nk) (hO : ∀ q, cp < q → q ≤ nk → MO m nk cp ev op wt sz pt bd t.1 (e + 1) q f) {x1 : Int32} (K7 : (Int32 × Int32 × sG × sF) → Option (sG × sF)) (K18 : (Int32 × Int32 × Int32 × sG × sF) → Option (sG × sF)) :
    itr (fun K z => p_M_markBack_L66 K7 K18 K z.1 z.2.1 z.2.2.1 z.2.2.2.1 z.2.2.2.2.1 z.2.2.2.2.2.1 z.2.2.2.2.2.2) FUEL (x1, I e, I p, I 0, I ((cp + 1 : Nat) : Int), g, f) = K18 (x1, I e, I ((p + 1 : Nat) : Int), g, up2 f 16 (25 * e + p) (I (bI (onn m nk cp ev op wt sz pt bd t.1 e p)))) := by
  obtain ⟨⟨b0, b1, b2, b3, b4⟩, bO, bW, bS, bP⟩ := id hB
  have g1 : g 1 = I nk := hM.1.2.1
  have g3 : g 3 = I ev := hM.1.2.2.2
  refine itr_R (fun k z => z = (x1, I e, I p, I (bI (∃ q, cp < q ∧ q < cp + 1 + k ∧ onn m nk cp ev op wt sz pt bd t.1 (e + 1) q ∧ gos m nk cp op wt sz pt bd e p q)), I ((cp + 1 + k : Nat) : Int), g, f)) (nk - cp)
    (fun o => o = K18 (x1, I e, I ((p + 1 : Nat) : Int), g, up2 f 16 (25 * e + p) (I (bI (onn m nk cp ev op wt sz pt bd t.1 e p))))) ?_ (by omega) ?_ ?_
  · rw [bI_f (fun ⟨q, a, b, _⟩ => by omega), Nat.add_zero]
  · intro K k z hk ez
    subst ez
    left
    obtain ⟨q, hq⟩ : ∃ q : Nat, q = cp + 1 + k := ⟨_, rfl⟩
    have hq1 : (q : Int) + 1 = ((cp + 1 + (k + 1) : Nat) : Int) := by omega
    have e1 : (e : Int) + 1 = ((e + 1 : Nat) : Int) := by omega
    have f16 : f 16 (25 * (e + 1) + q) = _ := hO q (by omega) (by omega)
    refine ⟨_, ?_, rfl⟩
    rw [← hq]
    dsimp only
    unfold p_M_markBack_L66 p_M_at_
    rw [g1, if_neg (by rw [I_lt (by omega) (by omega) (by omega) (by omega)]; omega), g3, l_1, I_sub, if_neg (by rw [I_le (by omega) (by omega) (by omega) (by omega)]; omega)]
    simp (disch := omega) only [l_0, l_1, l_2, l_3, l_4, l_5, l_6, l_7, l_9, l_10, l_20, l_24, l_25, l_31, l_40, l_45, l_48, l_57, l_99, l_123, l_124, l_127, l_2000, l_far, l_999999, Option.bind_some, I_mul, I_add, I_lt, I_nat, e1, hq1, tn_25b, gdG, lt_, f16, goesOn_v hB hM hF he p1 p2 (show cp < q by omega) (show q ≤ nk by omega)]
    have n10 : ¬ I 1 = I 0 := by decide
    by_cases a : ∃ q', cp < q' ∧ q' < q ∧ onn m nk cp ev op wt sz pt bd t.1 (e + 1) q' ∧ gos m nk cp op wt sz pt bd e p q'
    · rw [bI_t a, if_neg n10]
      obtain ⟨q', a1, a2, a3⟩ := a
      rw [bI_t ⟨q', a1, by omega, a3⟩]
    · rw [bI_f a, if_pos rfl]
      by_cases b : onn m nk cp ev op wt sz pt bd t.1 (e + 1) q
      · rw [bI_t b, if_neg n10]
        by_cases c : gos m nk cp op wt sz pt bd e p q
        · rw [bI_t c, if_neg n10, bI_t ⟨q, by omega, by omega, b, c⟩]
        · rw [bI_f c, if_pos rfl, bI_f]
          intro ⟨q', a1, a2, a3, a4⟩
          by_cases w : q' = q
          · subst w; exact c a4
          · exact a ⟨q', a1, by omega, a3, a4⟩
      · rw [bI_f b, if_pos rfl, bI_f]
        intro ⟨q', a1, a2, a3, a4⟩
        by_cases w : q' = q
        · subst w; exact b a3
        · exact a ⟨q', a1, by omega, a3, a4⟩
  · intro K z ez
    subst ez
    dsimp only
    unfold p_M_markBack_L66
    rw [g1, if_pos (by rw [I_lt (by omega) (by omega) (by omega) (by omega)]; omega), mark131 (by omega) (by omega)]
    have := on_step (p := p) hT he (show cp + 1 ≤ p by omega) (by omega)
    rw [bI_congr (P := ∃ q, _) (Q := onn m nk cp ev op wt sz pt bd t.1 e p)]
    unfold onn gos
    rw [this]
    constructor
    · intro ⟨q, a, b, c⟩
      exact ⟨q, by omega, by omega, c⟩
    · intro ⟨q, a, b, c⟩
      exact ⟨q, by omega, by omega, c⟩
theorem mark18 (hB : Base m nk cp ev op wt sz pt bd) (hM : Mb m nk cp ev op wt sz pt bd g f) (hF : FA m nk cp ev op wt sz pt bd f) {t : Int × Nat} (hT : cT' m nk cp ev op wt sz pt bd = some t) (ht : t.1 ≤ 200000 ∧ 0 ≤ t.1) {e p : Nat} (he : e < ev) (p1 : cp < p) (p2 : p ≤ nk) (hO : e + 1 < ev → ∀ q, cp < q → q ≤ nk → MO m nk cp ev op wt sz pt bd t.1 (e + 1) q f) (K7 : (Int32 × Int32 × sG × sF) → Option (sG × sF)) (K18 : (Int32 × Int32 × Int32 × sG × sF) → Option (sG × sF)) :
    p_M_markBack_L18 K7 K18 (I t.1) (I e) (I p) g f = K18 (I t.1, I e, I ((p + 1 : Nat) : Int), g, up2 f 16 (25 * e + p) (I (bI (onn m nk cp ev op wt sz pt bd t.1 e p)))) := by
  obtain ⟨⟨b0, b1, b2, b3, b4⟩, bO, bW, bS, bP⟩ := id hB
  have g1 : g 1 = I nk := hM.1.2.1
  have g2 : g 2 = I cp := hM.1.2.2.1
  have g3 : g 3 = I ev := hM.1.2.2.2
  unfold p_M_markBack_L18
  rw [g1, if_neg (by rw [I_lt (by omega) (by omega) (by omega) (by omega)]; omega), g3, g2, l_1, I_sub, I_add, l_0, show (cp : Int) + 1 = ((cp + 1 : Nat) : Int) by omega]
  simp only [lt_]
  by_cases w : e + 1 < ev
  · rw [if_neg (by rw [I_eq (by omega) (by omega) (by omega) (by omega)]; omega)]
    exact mark66 hB hM hF hT w p1 p2 (hO w) K7 K18
  · have ee : e = ev - 1 := by omega
    rw [if_pos (by rw [I_eq (by omega) (by omega) (by omega) (by omega)]; omega)]
    have x14 := (hF e p (by omega) p1 p2).1.1
    have fin : ∀ P : Prop, itr (fun K z => p_M_markBack_L66 K7 K18 K z.1 z.2.1 z.2.2.1 z.2.2.2.1 z.2.2.2.2.1 z.2.2.2.2.2.1 z.2.2.2.2.2.2) FUEL (I t.1, I e, I p, I (bI P), I ((cp + 1 : Nat) : Int), g, f) = K18 (I t.1, I e, I ((p + 1 : Nat) : Int), g, up2 f 16 (25 * e + p) (I (bI P))) := fun P => by
      refine itr_F _ _ 0 _ (fun n hn => ?_) (by omega)
      obtain ⟨n', rfl⟩ : ∃ n', n = n' + 1 := ⟨n - 1, by omega⟩
      rw [itr_s]
      dsimp only
      unfold p_M_markBack_L66
      rw [g1, if_neg (by rw [I_lt (by omega) (by omega) (by omega) (by omega)]; omega), g3, l_1, I_sub, if_pos (by rw [I_le (by omega) (by omega) (by omega) (by omega)]; omega), mark131 (by omega) (by omega)]
    have key : onn m nk cp ev op wt sz pt bd t.1 e p ↔ ∃ k, cF m nk cp op wt sz pt bd e p = some (t.1, k) := by
      rw [ee]
      exact on_last (by omega)
    have one : ∀ P : Prop, P → I 1 = I (bI P) := fun P h => by rw [bI_t h]
    have zer : ∀ P : Prop, ¬ P → I 0 = I (bI P) := fun P h => by rw [bI_f h]
    unfold p_M_at_
    simp (disch := omega) only [l_25, Option.bind_some, I_mul, I_add, I_lt, I_nat, tn_25b, gdG, x14]
    cases hx : cF m nk cp op wt sz pt bd e p with
    | none =>
      rw [msum_n, if_neg (by rw [I_eq (by omega) (by omega) (by omega) (by omega)]; omega), zer (onn m nk cp ev op wt sz pt bd t.1 e p) (fun h => by obtain ⟨k, hk⟩ := key.mp h; rw [hx] at hk; cases hk)]
      exact fin _
    | some a =>
      have ab := cF_bd hB e (by omega) p a (by omega) hx
      rw [msum_s]
      by_cases w2 : a.1 = t.1
      · rw [if_pos (by rw [w2]), one (onn m nk cp ev op wt sz pt bd t.1 e p) (key.mpr ⟨a.2, by rw [hx, ← w2]⟩)]
        exact fin _
      · rw [if_neg (by rw [I_eq (by omega) (by omega) (by omega) (by omega)]; omega), zer (onn m nk cp ev op wt sz pt bd t.1 e p) (fun h => by obtain ⟨k, hk⟩ := key.mp h; rw [hx] at hk; cases hk; exact w2 rfl)]
        exact fin _
theorem FA.fr {f' : sF} (h : FA m nk cp ev op wt sz pt bd f) (hf : ∀ j, 12 ≤ j → j ≤ 15 → f' j = f j) : FA m nk cp ev op wt sz pt bd f' := fun e q a b c => by
  have := h e q a b c
  unfold FSs FCs at this ⊢
  rw [hf 12 (by omega) (by omega), hf 13 (by omega) (by omega), hf 14 (by omega) (by omega), hf 15 (by omega) (by omega)]
  exact this
theorem markBack_v (hB : Base m nk cp ev op wt sz pt bd) (hM : Mb m nk cp ev op wt sz pt bd g f) (hF : FA m nk cp ev op wt sz pt bd f) {t : Int × Nat} (hT : cT' m nk cp ev op wt sz pt bd = some t) (ht : t.1 ≤ 200000 ∧ 0 ≤ t.1) :
    ∃ f', p_M_markBack (I t.1) g f = some (g, f') ∧ (∀ e q, e < ev → cp < q → q ≤ nk → MO m nk cp ev op wt sz pt bd t.1 e q f') ∧ (∀ j, j ≠ 16 → f' j = f j) := by
  obtain ⟨⟨b0, b1, b2, b3, b4⟩, bO, bW, bS, bP⟩ := id hB
  have g1 : g 1 = I nk := hM.1.2.1
  have g2 : g 2 = I cp := hM.1.2.2.1
  have g3 : g 3 = I ev := hM.1.2.2.2
  unfold p_M_markBack
  rw [g3, l_1, I_sub, lt_]
  refine itr_R (fun k z => ∃ f' : sF, z = (I t.1, I ((ev : Int) - 1 - k), g, f') ∧ (∀ e q, ev - k ≤ e → e < ev → cp < q → q ≤ nk → MO m nk cp ev op wt sz pt bd t.1 e q f') ∧ (∀ j, j ≠ 16 → f' j = f j)) ev
    (fun o => ∃ f' : sF, o = some (g, f') ∧ (∀ e q, e < ev → cp < q → q ≤ nk → MO m nk cp ev op wt sz pt bd t.1 e q f') ∧ (∀ j, j ≠ 16 → f' j = f j)) ⟨f, by rw [show ((0 : Nat) : Int) = 0 from rfl, Int.sub_zero], fun e q a b => by omega, fun _ _ => rfl⟩ (by omega) ?_ ?_
  · intro K k z hk ⟨f', ez, h1, h2⟩
    subst ez
    left
    obtain ⟨e, he⟩ : ∃ e : Nat, e = ev - 1 - k := ⟨_, rfl⟩
    have ee : (ev : Int) - 1 - k = e := by omega
    rw [ee]
    dsimp only
    unfold p_M_markBack_L7
    rw [g2, l_1, I_add, lt_, if_neg (by rw [l_0, I_lt (by omega) (by omega) (by omega) (by omega)]; omega)]
    refine itr_R (fun u z => ∃ f2 : sF, z = (I t.1, I e, I ((cp + 1 + u : Nat) : Int), g, f2) ∧ (∀ e' q, e < e' → e' < ev → cp < q → q ≤ nk → MO m nk cp ev op wt sz pt bd t.1 e' q f2) ∧ (∀ q, cp < q → q < cp + 1 + u → MO m nk cp ev op wt sz pt bd t.1 e q f2) ∧ (∀ j, j ≠ 16 → f2 j = f j)) (nk - cp)
      (fun o => ∃ s', o = K s' ∧ ∃ f' : sF, s' = (I t.1, I ((ev : Int) - 1 - ((k + 1 : Nat) : Int)), g, f') ∧ (∀ e q, ev - (k + 1) ≤ e → e < ev → cp < q → q ≤ nk → MO m nk cp ev op wt sz pt bd t.1 e q f') ∧ (∀ j, j ≠ 16 → f' j = f j)) ⟨f', rfl, fun e' q a b => h1 e' q (by omega) b, fun q a b => by omega, h2⟩ (by omega) ?_ ?_
    · intro K2 u z hu ⟨f2, ez, i1, i2, i3⟩
      subst ez
      left
      have hM2 : Mb m nk cp ev op wt sz pt bd g f2 := hM.fr (fun _ _ => rfl) (fun j hj => i3 j (by omega))
      have hF2 : FA m nk cp ev op wt sz pt bd f2 := hF.fr (fun j a b => i3 j (by omega))
      refine ⟨_, mark18 hB hM2 hF2 hT ht (show e < ev by omega) (show cp < cp + 1 + u by omega) (by omega) (fun w q a b => i1 (e + 1) q (by omega) w a b) K K2, _, rfl, fun e' q a b c d => ?_, fun q a b => ?_, fun j hj => by rw [up2_n _ _ _ hj, i3 j hj]⟩
      · unfold MO
        rw [up2_s, upd_n _ _ (by omega)]
        exact i1 e' q a b c d
      · unfold MO
        by_cases w : q = cp + 1 + u
        · subst w; rw [up2_s, upd_s]
        · rw [up2_s, upd_n _ _ (by omega)]
          exact i2 q a (by omega)
    · intro K2 z ⟨f2, ez, i1, i2, i3⟩
      subst ez
      dsimp only
      unfold p_M_markBack_L18
      rw [g1, if_pos (by rw [I_lt (by omega) (by omega) (by omega) (by omega)]; omega), l_1, I_neg, I_add, lt_]
      refine ⟨_, rfl, f2, by rw [show (e : Int) + -1 = (ev : Int) - 1 - ((k + 1 : Nat) : Int) by omega], fun e' q a b c d => ?_, i3⟩
      by_cases w : e' = e
      · subst w; exact i2 q c (by omega)
      · exact i1 e' q (by omega) b c d
  · intro K z ⟨f', ez, h1, h2⟩
    subst ez
    dsimp only
    unfold p_M_markBack_L7
    rw [if_pos (by rw [l_0, I_lt (by omega) (by omega) (by omega) (by omega)]; omega)]
    exact ⟨f', rfl, fun e q a b c => h1 e q (by omega) a b c, h2⟩
end MK
