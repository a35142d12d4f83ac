section MG
variable {m nk cp ev : Nat} {op wt sz pt : Nat → Nat} {bd : Nat → Int} {g : sG} {f : sF}
noncomputable def isg (m nk cp : Nat) (op sz pt : Nat → Nat) (e p c : Nat) : Bool := cb (isGr cp nk (sz e) (frw m nk cp op (eP pt e) (sz e) c) p)
noncomputable def GW (m nk cp : Nat) (op sz pt : Nat → Nat) (bd : Nat → Int) (e p w : Nat) : List Nat := ((WC m nk cp op sz pt bd e).take w).filter (isg m nk cp op sz pt e p)
theorem GW_0 {e p : Nat} : GW m nk cp op sz pt bd e p 0 = [] := by unfold GW; rw [List.take_zero]; rfl
theorem GW_all {e p : Nat} : GW m nk cp op sz pt bd e p (WC m nk cp op sz pt bd e).length = GL m nk cp op sz pt bd e p := by
  unfold GW
  rw [List.take_length]
  rfl
theorem GW_s {e p w : Nat} (hw : w < (WC m nk cp op sz pt bd e).length) : GW m nk cp op sz pt bd e p (w + 1) = GW m nk cp op sz pt bd e p w ++ if isg m nk cp op sz pt e p ((WC m nk cp op sz pt bd e).getD w 0) = true then [(WC m nk cp op sz pt bd e).getD w 0] else [] := by
  unfold GW
  rw [List.take_succ, List.filter_append, List.getD_eq_getElem?_getD, List.getElem?_eq_getElem hw]
  congr 1
  show List.filter _ [_] = _
  rw [List.filter_cons]
  rfl
theorem GW_pre {e p w : Nat} (hw : w ≤ (WC m nk cp op sz pt bd e).length) : ∃ l, GL m nk cp op sz pt bd e p = GW m nk cp op sz pt bd e p w ++ l := by
  refine ⟨((WC m nk cp op sz pt bd e).drop w).filter (isg m nk cp op sz pt e p), ?_⟩
  unfold GW
  rw [← List.filter_append, List.take_append_drop]
  rfl
theorem GL_out {e p : Nat} (h : ¬ (cp < p ∧ p ≤ nk)) : GL m nk cp op sz pt bd e p = [] := by
  unfold GL LL
  rw [List.filter_eq_nil_iff]
  intro c _
  rw [cb_t]
  exact fun z => h ⟨z.1, z.2.1⟩
theorem cnb_s {e p : Nat} : cnb m nk cp op sz pt bd e (p + 1) = cnb m nk cp op sz pt bd e p + (GL m nk cp op sz pt bd e p).length := rfl
theorem cnb_lo {e : Nat} : ∀ p : Nat, p ≤ cp + 1 → cnb m nk cp op sz pt bd e p = 0
  | 0, _ => rfl
  | p + 1, h => by rw [cnb_s, cnb_lo p (by omega), GL_out (by omega)]; rfl
theorem cnb_hi {e : Nat} : ∀ d : Nat, cnb m nk cp op sz pt bd e (nk + 1 + d) = cnb m nk cp op sz pt bd e (nk + 1)
  | 0 => rfl
  | d + 1 => by rw [show nk + 1 + (d + 1) = (nk + 1 + d) + 1 by omega, cnb_s, cnb_hi d, GL_out (by omega)]; simp
theorem cnb_25 {e : Nat} (h : nk ≤ 24) : cnb m nk cp op sz pt bd e 25 = cnb m nk cp op sz pt bd e (nk + 1) := by
  have := cnb_hi (m := m) (nk := nk) (cp := cp) (op := op) (sz := sz) (pt := pt) (bd := bd) (e := e) (24 - nk)
  rw [show nk + 1 + (24 - nk) = 25 by omega] at this
  exact this
theorem cnb_mono {e p q : Nat} (h : p ≤ q) : cnb m nk cp op sz pt bd e p ≤ cnb m nk cp op sz pt bd e q := by
  induction q with
  | zero => rw [show p = 0 by omega]; exact Int.le_refl _
  | succ q ih =>
    by_cases z : p = q + 1
    · rw [z]; exact Int.le_refl _
    · rw [cnb_s]
      have := ih (by omega)
      omega
theorem cnb_uniq {e p q p' q' : Nat} (h1 : q < (GL m nk cp op sz pt bd e p).length) (h2 : q' < (GL m nk cp op sz pt bd e p').length) (h : cnb m nk cp op sz pt bd e p + q = cnb m nk cp op sz pt bd e p' + q') : p = p' ∧ q = q' := by
  rcases Nat.lt_trichotomy p p' with z | z | z
  · have := cnb_mono (m := m) (nk := nk) (cp := cp) (op := op) (sz := sz) (pt := pt) (bd := bd) (e := e) (show p + 1 ≤ p' by omega)
    rw [cnb_s] at this
    omega
  · subst z
    exact ⟨rfl, by omega⟩
  · have := cnb_mono (m := m) (nk := nk) (cp := cp) (op := op) (sz := sz) (pt := pt) (bd := bd) (e := e) (show p' + 1 ≤ p by omega)
    rw [cnb_s] at this
    omega
theorem mgrips_v (hB : Base m nk cp ev op wt sz pt bd) (hM : Mb m nk cp ev op wt sz pt bd g f) {e : Nat} (he : e < ev) :
    ∃ g' f', p_M_grips (I e) g f = some (I (cnb m nk cp op sz pt bd e 25), g', f') ∧ (∀ x, x ≠ 7 → g' x = g x) ∧ (∀ j, j ≠ 10 → j ≠ 11 → f' j = f j) := by
  obtain ⟨⟨b0, b1, b2, b3, b4⟩, bO, bW, bS, bP⟩ := id hB
  have hl := WC_len hB he
  unfold p_M_grips
  obtain ⟨g1, f1, ev1, hW, hg, hf⟩ := findWays_v hB hM he
  have hM1 : Mb m nk cp ev op wt sz pt bd g1 f1 := hM.fr (fun x hx => hg x (by omega)) (fun j hj => hf j (by omega) (by omega))
  rw [isEvent_v hM.1.2.2.2 b4 (by omega) (by omega), if_pos (by omega), Option.bind_some, if_neg (by decide), ev1, Option.bind_some]
  simp only [lt_, hM1.1.2.2.1, l_0, l_1, l_2, l_3, l_4, l_5, l_6, l_7, l_9, l_10, l_20, l_24, l_25, l_31, l_40, l_45, l_48, l_57, l_99, l_123, l_124, l_127, l_2000, l_far, l_999999, I_add]
  have h7 : g1 7 = I (WC m nk cp op sz pt bd e).length := hW.1
  refine itr_R (fun t z => z = (I e, I (cnb m nk cp op sz pt bd e (cp + 1 + t)), I ((cp + 1 + t : Nat) : Int), g1, f1)) (nk - cp) (fun o => ∃ (g' : sG) (f' : sF), o = some (I (cnb m nk cp op sz pt bd e 25), g', f') ∧ (∀ x, x ≠ 7 → g' x = g x) ∧ (∀ j, j ≠ 10 → j ≠ 11 → f' j = f j)) (by rw [Nat.add_zero, cnb_lo _ (Nat.le_refl _)]; exact rfl) (by omega) ?_ ?_
  · intro K t z ht ez
    subst ez
    left
    obtain ⟨p, hp⟩ : ∃ p : Nat, p = cp + 1 + t := ⟨_, rfl⟩
    rw [← hp]
    refine ⟨(I e, I (cnb m nk cp op sz pt bd e (p + 1)), I ((p + 1 : Nat) : Int), g1, f1), ?_, by rw [hp]; rfl⟩
    have cb1 := cnb_bd (p := p) hB he
    dsimp only
    unfold p_M_grips_L25
    rw [hM1.1.2.1, if_neg (by rw [I_lt (by omega) (by omega) (by omega) (by omega)]; omega)]
    refine itr_R (fun w z => z = (I e, I (cnb m nk cp op sz pt bd e p + (GW m nk cp op sz pt bd e p w).length), I p, I w, g1, f1)) (WC m nk cp op sz pt bd e).length (fun o => o = K (I e, I (cnb m nk cp op sz pt bd e (p + 1)), I ((p + 1 : Nat) : Int), g1, f1)) (by rw [GW_0]; simp [l_0]) (by omega) ?_ ?_
    · intro K2 w z hw ez
      subst ez
      left
      have ew : (w : Int) + 1 = ((w + 1 : Nat) : Int) := by omega
      refine ⟨_, ?_, rfl⟩
      dsimp only
      unfold p_M_grips_L36
      rw [h7, if_neg (by rw [I_le (by omega) (by omega) (by omega) (by omega)]; omega), isGrip_v hB hM1 he hW hw (by omega) (by omega), Option.bind_some, GW_s hw]
      unfold isg
      simp only [l_0, l_1, l_2, l_3, l_4, l_5, l_6, l_7, l_9, l_10, l_20, l_24, l_25, l_31, l_40, l_45, l_48, l_57, l_99, l_123, l_124, l_127, l_2000, l_far, l_999999, lt_, I_add, ew]
      by_cases q : cb (isGr cp nk (sz e) (frw m nk cp op (eP pt e) (sz e) ((WC m nk cp op sz pt bd e).getD w 0)) p) = true
      · rw [if_pos q, if_pos q, if_neg (by decide), List.length_append, List.length_singleton]
        have e8 : cnb m nk cp op sz pt bd e p + ((GW m nk cp op sz pt bd e p w).length : Int) + 1 = cnb m nk cp op sz pt bd e p + (((GW m nk cp op sz pt bd e p w).length + 1 : Nat) : Int) := by omega
        rw [e8]
      · rw [if_neg q, if_neg q, List.append_nil, if_pos rfl, Int.add_zero]
    · intro K2 z ez
      subst ez
      dsimp only
      unfold p_M_grips_L36
      rw [h7, if_pos (Int32.le_refl _), GW_all, cnb_s]
      simp only [lt_, l_0, l_1, l_2, l_3, l_4, l_5, l_6, l_7, l_9, l_10, l_20, l_24, l_25, l_31, l_40, l_45, l_48, l_57, l_99, l_123, l_124, l_127, l_2000, l_far, l_999999, I_add]
      rfl
  · intro K z ez
    subst ez
    dsimp only
    unfold p_M_grips_L25
    rw [hM1.1.2.1, show cp + 1 + (nk - cp) = nk + 1 by omega, if_pos (by rw [I_lt (by omega) (by omega) (by omega) (by omega)]; omega), ← cnb_25 b2]
    exact ⟨g1, f1, rfl, hg, hf⟩
theorem told__v (hB : Base m nk cp ev op wt sz pt bd) (hM : Mb m nk cp ev op wt sz pt bd g f) {e : Nat} (he : e < ev) (hW : WS m (sz e) nk cp op (eP pt e) (eB bd e) (m ^ sz e) g f) {w p : Nat} (hw : w < (WC m nk cp op sz pt bd e).length) (hp1 : cp < p) (hp2 : p ≤ nk) {y : Int} (y0 : 0 ≤ y) (y5 : y ≤ 5) :
    p_M_told_ (I e) (I w) (I p) (I y) g f = some (I (gpart m nk cp op wt sz pt e p ((WC m nk cp op sz pt bd e).getD w 0) y)) := by
  have hs := hB.2.2.2.1 e he
  have hv := hB.1.2.2.2.2
  have hl := WC_len hB he
  unfold p_M_told_ gpart
  rw [costOf_v hB hM he hW hw hp1 hp2]
  simp (disch := omega) only [l_0, l_1, l_2, l_3, l_4, l_5, l_6, l_7, l_9, l_10, l_20, l_24, l_25, l_31, l_40, l_45, l_48, l_57, l_99, l_123, l_124, l_127, l_2000, l_far, l_999999, I_eq, I_lt, I_nat, tn_n, gdG, hM.2.2.2.1 e he, Option.bind_some]
  by_cases h0 : y = 0
  · rw [if_pos h0, if_pos h0]
  · rw [if_neg h0, if_neg h0]
    by_cases h5 : y = 5
    · rw [if_pos h5, if_pos h5]
    · rw [if_neg h5, if_neg h5]
      by_cases hi : y - 1 < sz e
      · rw [if_neg (by omega), if_pos hi]
        have e1 : (4 * (w : Int) + y - 1).toNat = 4 * w + (y - 1).toNat := by omega
        simp (disch := omega) only [I_mul, I_add, I_sub, I_lt, I_nat, gdG]
        rw [e1, (hW.2 w hw (y - 1).toNat (by omega)).1]
        rfl
      · rw [if_pos (by omega), if_neg hi]
        rfl
theorem mgrip_v (hB : Base m nk cp ev op wt sz pt bd) (hM : Mb m nk cp ev op wt sz pt bd g f) {e : Nat} (he : e < ev) {x y : Int} (x1 : -2147483648 ≤ x) (x2 : x < 2147483648) (y0 : 0 ≤ y) (y5 : y ≤ 5) :
    ∃ r g' f', p_M_grip (I e) (I x) (I y) g f = some (r, g', f') ∧ (∀ x, x ≠ 7 → g' x = g x) ∧ (∀ j, j ≠ 10 → j ≠ 11 → f' j = f j) ∧
      ((r = I (-1) ∧ (x < 0 ∨ cnb m nk cp op sz pt bd e 25 ≤ x)) ∨ ∃ p q : Nat, p < 25 ∧ q < (GL m nk cp op sz pt bd e p).length ∧ x = cnb m nk cp op sz pt bd e p + q ∧ r = I (gpart m nk cp op wt sz pt e p ((GL m nk cp op sz pt bd e p).getD q 0) y)) := by
  obtain ⟨⟨b0, b1, b2, b3, b4⟩, bO, bW, bS, bP⟩ := id hB
  have hl := WC_len hB he
  unfold p_M_grip
  obtain ⟨g1, f1, ev1, hW, hg, hf⟩ := findWays_v hB hM he
  have hM1 : Mb m nk cp ev op wt sz pt bd g1 f1 := hM.fr (fun x hx => hg x (by omega)) (fun j hj => hf j (by omega) (by omega))
  rw [isEvent_v hM.1.2.2.2 b4 (by omega) (by omega), if_pos (by omega), Option.bind_some, if_neg (by decide), l_0, l_5, within_v (by omega) (by omega) (by omega) (by omega) (by omega) (by omega), if_pos ⟨y0, y5⟩, Option.bind_some, if_neg (by decide), ev1, Option.bind_some]
  simp only [lt_, hM1.1.2.2.1, l_0, l_1, l_2, l_3, l_4, l_5, l_6, l_7, l_9, l_10, l_20, l_24, l_25, l_31, l_40, l_45, l_48, l_57, l_99, l_123, l_124, l_127, l_2000, l_far, l_999999, I_add]
  have h7 : g1 7 = I (WC m nk cp op sz pt bd e).length := hW.1
  by_cases hx : x < 0
  · rw [FUEL_eq]
    show ∃ r g' f', p_M_grip_L39 _ (I e) (I x) (I y) (I x) (I ((cp : Int) + 1)) g1 f1 = some (r, g', f') ∧ _
    unfold p_M_grip_L39
    rw [hM1.1.2.1, if_neg (by rw [I_lt (by omega) (by omega) (by omega) (by omega)]; omega), if_pos (by rw [l_0, I_lt (by omega) (by omega) (by omega) (by omega)]; omega)]
    exact ⟨_, g1, f1, rfl, hg, hf, Or.inl ⟨rfl, Or.inl hx⟩⟩
  · refine itr_R (fun t z => z = (I e, I x, I y, I (x - cnb m nk cp op sz pt bd e (cp + 1 + t)), I ((cp + 1 + t : Nat) : Int), g1, f1) ∧ cnb m nk cp op sz pt bd e (cp + 1 + t) ≤ x) (nk - cp) (fun o => ∃ (r : Int32) (g' : sG) (f' : sF), o = some (r, g', f') ∧ (∀ x, x ≠ 7 → g' x = g x) ∧ (∀ j, j ≠ 10 → j ≠ 11 → f' j = f j) ∧ ((r = I (-1) ∧ (x < 0 ∨ cnb m nk cp op sz pt bd e 25 ≤ x)) ∨ ∃ p q : Nat, p < 25 ∧ q < (GL m nk cp op sz pt bd e p).length ∧ x = cnb m nk cp op sz pt bd e p + q ∧ r = I (gpart m nk cp op wt sz pt e p ((GL m nk cp op sz pt bd e p).getD q 0) y))) ?_ (by omega) ?_ ?_
    · rw [Nat.add_zero, cnb_lo _ (Nat.le_refl _), Int.sub_zero]
      exact ⟨rfl, by omega⟩
    · intro K t z ht ⟨ez, hle⟩
      subst ez
      obtain ⟨p, hp⟩ : ∃ p : Nat, p = cp + 1 + t := ⟨_, rfl⟩
      rw [← hp] at hle ⊢
      rw [show cp + 1 + (t + 1) = p + 1 by omega]
      have cb1 := cnb_bd (p := p) hB he
      dsimp only
      unfold p_M_grip_L39
      rw [hM1.1.2.1, if_neg (by rw [I_lt (by omega) (by omega) (by omega) (by omega)]; omega), if_neg (by rw [l_0, I_lt (by omega) (by omega) (by omega) (by omega)]; omega)]
      refine itr_R (fun w z => z = (I e, I x, I y, I (x - cnb m nk cp op sz pt bd e p - (GW m nk cp op sz pt bd e p w).length), I p, I w, g1, f1) ∧ cnb m nk cp op sz pt bd e p + (GW m nk cp op sz pt bd e p w).length ≤ x) (WC m nk cp op sz pt bd e).length (fun o => (∃ s' : Int32 × Int32 × Int32 × Int32 × Int32 × sG × sF, o = K s' ∧ s' = (I e, I x, I y, I (x - cnb m nk cp op sz pt bd e (p + 1)), I ((p + 1 : Nat) : Int), g1, f1) ∧ cnb m nk cp op sz pt bd e (p + 1) ≤ x) ∨ ∃ (r : Int32) (g' : sG) (f' : sF), o = some (r, g', f') ∧ (∀ x, x ≠ 7 → g' x = g x) ∧ (∀ j, j ≠ 10 → j ≠ 11 → f' j = f j) ∧ ((r = I (-1) ∧ (x < 0 ∨ cnb m nk cp op sz pt bd e 25 ≤ x)) ∨ ∃ p q : Nat, p < 25 ∧ q < (GL m nk cp op sz pt bd e p).length ∧ x = cnb m nk cp op sz pt bd e p + q ∧ r = I (gpart m nk cp op wt sz pt e p ((GL m nk cp op sz pt bd e p).getD q 0) y))) ?_ (by omega) ?_ ?_
      · rw [GW_0]
        exact ⟨by simp [l_0], by simp; exact hle⟩
      · intro K2 w z hw ⟨ez, hle2⟩
        subst ez
        have ew : (w : Int) + 1 = ((w + 1 : Nat) : Int) := by omega
        have gs := GW_s (m := m) (nk := nk) (cp := cp) (op := op) (sz := sz) (pt := pt) (bd := bd) (e := e) (p := p) hw
        unfold isg at gs
        dsimp only
        unfold p_M_grip_L55
        rw [h7, if_neg (by rw [I_le (by omega) (by omega) (by omega) (by omega)]; omega), isGrip_v hB hM1 he hW hw (by omega) (by omega), Option.bind_some]
        by_cases q : cb (isGr cp nk (sz e) (frw m nk cp op (eP pt e) (sz e) ((WC m nk cp op sz pt bd e).getD w 0)) p) = true
        · rw [if_pos q, if_neg (by decide)]
          rw [if_pos q] at gs
          by_cases hz : x - cnb m nk cp op sz pt bd e p - (GW m nk cp op sz pt bd e p w).length = 0
          · right
            right
            rw [hz, if_pos (show I 0 = (0 : Int32) from rfl), told__v hB hM1 he hW hw (by omega) (by omega) y0 y5, Option.bind_some]
            obtain ⟨l, hl2⟩ := GW_pre (m := m) (nk := nk) (cp := cp) (op := op) (sz := sz) (pt := pt) (bd := bd) (e := e) (p := p) (w := w + 1) (by omega)
            rw [gs, List.append_assoc] at hl2
            have hlen : (GL m nk cp op sz pt bd e p).length = (GW m nk cp op sz pt bd e p w).length + (1 + l.length) := by rw [hl2, List.length_append, List.length_append, List.length_singleton]
            refine ⟨_, g1, f1, rfl, hg, hf, Or.inr ⟨p, (GW m nk cp op sz pt bd e p w).length, by omega, by omega, by omega, ?_⟩⟩
            have hgd : (GL m nk cp op sz pt bd e p).getD (GW m nk cp op sz pt bd e p w).length 0 = (WC m nk cp op sz pt bd e).getD w 0 := by
              rw [hl2, List.getD_eq_getElem?_getD, List.getElem?_append_right (Nat.le_refl _), Nat.sub_self]
              rfl
            rw [hgd]
          · left
            refine ⟨_, ?_, rfl, ?_⟩
            · rw [if_neg (by rw [l_0, I_eq (by omega) (by omega) (by omega) (by omega)]; exact hz), gs, List.length_append, List.length_singleton]
              simp only [l_0, l_1, l_2, l_3, l_4, l_5, l_6, l_7, l_9, l_10, l_20, l_24, l_25, l_31, l_40, l_45, l_48, l_57, l_99, l_123, l_124, l_127, l_2000, l_far, l_999999, I_neg, lt_, I_add, ew]
              have e8 : x - cnb m nk cp op sz pt bd e p - ((GW m nk cp op sz pt bd e p w).length : Int) + -1 = x - cnb m nk cp op sz pt bd e p - (((GW m nk cp op sz pt bd e p w).length + 1 : Nat) : Int) := by omega
              rw [e8]
            · rw [gs, List.length_append, List.length_singleton]
              omega
        · rw [if_neg q, if_pos (show I 0 = (0 : Int32) from rfl)]
          rw [if_neg q, List.append_nil] at gs
          left
          refine ⟨_, ?_, rfl, ?_⟩
          · rw [gs]
            simp only [l_0, l_1, l_2, l_3, l_4, l_5, l_6, l_7, l_9, l_10, l_20, l_24, l_25, l_31, l_40, l_45, l_48, l_57, l_99, l_123, l_124, l_127, l_2000, l_far, l_999999, lt_, I_add, ew]
          · rw [gs]
            exact hle2
      · intro K2 z ⟨ez, hle2⟩
        subst ez
        rw [GW_all] at hle2
        dsimp only
        unfold p_M_grip_L55
        rw [h7, if_pos (Int32.le_refl _), GW_all]
        left
        refine ⟨_, rfl, ?_, by rw [cnb_s]; exact hle2⟩
        simp only [l_0, l_1, l_2, l_3, l_4, l_5, l_6, l_7, l_9, l_10, l_20, l_24, l_25, l_31, l_40, l_45, l_48, l_57, l_99, l_123, l_124, l_127, l_2000, l_far, l_999999, lt_, I_add, cnb_s]
        rw [show x - cnb m nk cp op sz pt bd e p - ((GL m nk cp op sz pt bd e p).length : Int) = x - (cnb m nk cp op sz pt bd e p + (GL m nk cp op sz pt bd e p).length) by omega]
        rfl
    · intro K z ⟨ez, hle⟩
      subst ez
      rw [show cp + 1 + (nk - cp) = nk + 1 by omega] at hle ⊢
      dsimp only
      unfold p_M_grip_L39
      rw [hM1.1.2.1, if_pos (by rw [I_lt (by omega) (by omega) (by omega) (by omega)]; omega)]
      exact ⟨_, g1, f1, rfl, hg, hf, Or.inl ⟨rfl, Or.inr (by rw [cnb_25 b2]; exact hle)⟩⟩
end MG
theorem Rel_fr {gc : sG} {fc : sF} {gm : sG} {fm : sF} {gc' : sG} {fc' : sF} {gm' : sG} {fm' : sF} (h : Rel gc fc gm fm) (h1 : ∀ x, x ≤ 4 ∨ x = 12 ∨ x = 14 → gc' x = gc x) (h2 : ∀ j, j < 9 ∨ j = 19 → fc' j = fc j) (h3 : ∀ x, x ≤ 6 → gm' x = gm x) (h4 : ∀ j, j ≤ 9 → fm' j = fm j) : Rel gc' fc' gm' fm' := by
  obtain ⟨m, nk, cp, ev, tn, op, wt, sz, pt, tp, st, bd, fd, hB, hC, hM, ⟨t0, t1, t2, t3⟩, hF, hp⟩ := h
  refine ⟨m, nk, cp, ev, tn, op, wt, sz, pt, tp, st, bd, fd, hB, hC.fr (fun x hx => h1 x (by omega)) (fun j hj => h2 j (by omega)), hM.fr (fun x hx => h3 x (by omega)) (fun j hj => h4 j (by omega)), ⟨t0, by rw [h1 12 (by omega)]; exact t1, by rw [h3 5 (by omega)]; exact t2, fun i hi => by rw [h2 19 (by omega), h4 9 (by omega)]; exact t3 i hi⟩, Fb_any hF (h1 4 (by omega)) (h3 4 (by omega)) (fun j hj => ⟨h2 j (by omega), h4 j (by omega)⟩), by rw [h1 14 (by omega), h3 6 (by omega)]; exact hp⟩
theorem r_grips (a : Int32) : Stw (p_FH_grips a) (p_M_grips a) := by
  intro gc fc gm fm hR
  obtain ⟨m, nk, cp, ev, tn, op, wt, sz, pt, tp, st, bd, fd, hB, hC, hM, _⟩ := id hR
  obtain ⟨x, rfl, x1, x2⟩ := I_ex a
  have b4 := hB.1.2.2.2.2
  by_cases h : 0 ≤ x ∧ x < ev
  · obtain ⟨e, rfl⟩ : ∃ n : Nat, x = n := ⟨x.toNat, by omega⟩
    obtain ⟨g1, f1, e1, a1, a2⟩ := cgrips_v hB hC (show e < ev by omega)
    obtain ⟨g2, f2, e2, c1, c2⟩ := mgrips_v hB hM (show e < ev by omega)
    exact ⟨_, g1, f1, g2, f2, e1, e2, Rel_fr hR (fun x hx => a1 x (by omega) (by omega) (by omega) (by omega)) (fun j hj => a2 j (by omega)) (fun x hx => c1 x (by omega)) (fun j hj => c2 j (by omega) (by omega))⟩
  · refine ⟨I (-3), gc, fc, gm, fm, ?_, ?_, hR⟩
    · unfold p_FH_grips
      rw [hasEvent_v hC.1.2.2.2 b4 x1 x2, if_neg h]
      rfl
    · unfold p_M_grips
      rw [isEvent_v hM.1.2.2.2 b4 x1 x2, if_neg h]
      rfl
theorem r_grip (a b c : Int32) : Stw (p_FH_grip a b c) (p_M_grip a b c) := by
  intro gc fc gm fm hR
  obtain ⟨m, nk, cp, ev, tn, op, wt, sz, pt, tp, st, bd, fd, hB, hC, hM, _⟩ := id hR
  obtain ⟨x, rfl, x1, x2⟩ := I_ex a
  obtain ⟨k, rfl, k1, k2⟩ := I_ex b
  obtain ⟨y, rfl, y1, y2⟩ := I_ex c
  have b4 := hB.1.2.2.2.2
  by_cases h : 0 ≤ x ∧ x < ev
  · obtain ⟨e, rfl⟩ : ∃ n : Nat, x = n := ⟨x.toNat, by omega⟩
    by_cases hy : 0 ≤ y ∧ y ≤ 5
    · obtain ⟨r, g1, f1, e1, a1, a2, a3⟩ := cgrip_v hB hC (show e < ev by omega) k1 k2 hy.1 hy.2
      obtain ⟨r', g2, f2, e2, c1, c2, c3⟩ := mgrip_v hB hM (show e < ev by omega) k1 k2 hy.1 hy.2
      have hrr : r = r' := by
        rcases a3 with ⟨rfl, q⟩ | ⟨p, q, hp, hq, hx, rfl⟩
        · rcases c3 with ⟨rfl, _⟩ | ⟨p', q', hp', hq', hx', _⟩
          · rfl
          · exfalso
            have := cnb_mono (m := m) (nk := nk) (cp := cp) (op := op) (sz := sz) (pt := pt) (bd := bd) (e := e) (show p' + 1 ≤ 25 by omega)
            rw [cnb_s] at this
            have := (cnb_bd (p := p') hB (show e < ev by omega)).1
            omega
        · rcases c3 with ⟨_, q'⟩ | ⟨p', q', hp', hq', hx', rfl⟩
          · exfalso
            have := cnb_mono (m := m) (nk := nk) (cp := cp) (op := op) (sz := sz) (pt := pt) (bd := bd) (e := e) (show p + 1 ≤ 25 by omega)
            rw [cnb_s] at this
            have := (cnb_bd (p := p) hB (show e < ev by omega)).1
            omega
          · obtain ⟨rfl, rfl⟩ := cnb_uniq hq hq' (by omega)
            rfl
      subst hrr
      exact ⟨r, g1, f1, g2, f2, e1, e2, Rel_fr hR (fun x hx => a1 x (by omega) (by omega) (by omega) (by omega) (by omega)) (fun j hj => a2 j (by omega)) (fun x hx => c1 x (by omega)) (fun j hj => c2 j (by omega) (by omega))⟩
    · refine ⟨I (-2), gc, fc, gm, fm, ?_, ?_, hR⟩
      · unfold p_FH_grip
        rw [hasEvent_v hC.1.2.2.2 b4 x1 x2, if_pos h, Option.bind_some, if_neg (by decide)]
        simp (disch := omega) only [l_0, l_1, l_2, l_3, l_4, l_5, l_6, l_7, l_9, l_10, l_20, l_24, l_25, l_31, l_40, l_45, l_48, l_57, l_99, l_123, l_124, l_127, l_2000, l_far, l_999999, I_lt, I_le, I_neg]
        by_cases h1 : y < 0
        · rw [if_pos h1]
        · rw [if_neg h1, if_neg (by omega)]
      · unfold p_M_grip
        rw [isEvent_v hM.1.2.2.2 b4 x1 x2, if_pos h, Option.bind_some, if_neg (by decide), l_0, l_5, within_v y1 y2 (by omega) (by omega) (by omega) (by omega), if_neg hy]
        rfl
  · refine ⟨I (-3), gc, fc, gm, fm, ?_, ?_, hR⟩
    · unfold p_FH_grip
      rw [hasEvent_v hC.1.2.2.2 b4 x1 x2, if_neg h]
      rfl
    · unfold p_M_grip
      rw [isEvent_v hM.1.2.2.2 b4 x1 x2, if_neg h]
      rfl
