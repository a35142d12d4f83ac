theorem getD_l {l : List Nat} {c i : Nat} (h : i < l.length) : (l ++ [c]).getD i 0 = l.getD i 0 := by
  rw [List.getD_eq_getElem?_getD, List.getD_eq_getElem?_getD, List.getElem?_append_left h]
theorem getD_r {l r : List Nat} {c : Nat} : (l ++ c :: r).getD l.length 0 = c := by
  rw [List.getD_eq_getElem?_getD, List.getElem?_append_right (Nat.le_refl _), Nat.sub_self]
  rfl
theorem getD_ll {l r : List Nat} {i : Nat} (h : i < l.length) : (l ++ r).getD i 0 = l.getD i 0 := by
  rw [List.getD_eq_getElem?_getD, List.getD_eq_getElem?_getD, List.getElem?_append_left h]
theorem getD_mem {l : List Nat} {i : Nat} (h : i < l.length) : l.getD i 0 ∈ l := by
  rw [List.getD_eq_getElem?_getD, List.getElem?_eq_getElem h]
  exact List.getElem_mem h
/-- the first least -/
theorem lst_first (cost : Nat → Int) (l : List Nat) (h : l.length ≠ 0) : (lst cost l).2.2.2.1 < l.length ∧ l.getD (lst cost l).2.2.2.1 0 = (lst cost l).2.2.2.2 ∧ cost (lst cost l).2.2.2.2 = (lst cost l).2.1 ∧ (∀ i, i < l.length → (lst cost l).2.1 ≤ cost (l.getD i 0)) ∧ ∀ i, i < (lst cost l).2.2.2.1 → cost (l.getD i 0) ≠ (lst cost l).2.1 := by
  induction l using snoc_ind with
  | h0 => exact absurd rfl h
  | hs l c ih =>
    have e := lst_len cost l
    have last : (l ++ [c]).getD l.length 0 = c := getD_r
    have bef : ∀ i, i < l.length → (l ++ [c]).getD i 0 = l.getD i 0 := fun i hi => getD_l hi
    rw [lst_snoc, List.length_append, List.length_singleton]
    unfold lstep
    by_cases q : (lst cost l).1 = 0 ∨ cost c < (lst cost l).2.1
    · rw [if_pos q]
      show (lst cost l).1 < l.length + 1 ∧ (l ++ [c]).getD (lst cost l).1 0 = c ∧ cost c = cost c ∧ (∀ i, i < l.length + 1 → cost c ≤ cost ((l ++ [c]).getD i 0)) ∧ ∀ i, i < (lst cost l).1 → cost ((l ++ [c]).getD i 0) ≠ cost c
      rw [e]
      rw [e] at q
      refine ⟨by omega, last, rfl, fun i hi => ?_, fun i hi => ?_⟩
      · by_cases w : i = l.length
        · rw [w, last]; exact Int.le_refl _
        · rw [bef i (by omega)]
          have := (ih (by omega)).2.2.2.1 i (by omega)
          omega
      · rw [bef i hi]
        have := (ih (by omega)).2.2.2.1 i hi
        omega
    · rw [if_neg q]
      have i0 := ih (by omega)
      obtain ⟨i1, i2, i3, i4, i5⟩ := i0
      have res : (lst cost l).2.2.2.1 < l.length + 1 ∧ (l ++ [c]).getD (lst cost l).2.2.2.1 0 = (lst cost l).2.2.2.2 ∧ cost (lst cost l).2.2.2.2 = (lst cost l).2.1 ∧ (∀ i, i < l.length + 1 → (lst cost l).2.1 ≤ cost ((l ++ [c]).getD i 0)) ∧ ∀ i, i < (lst cost l).2.2.2.1 → cost ((l ++ [c]).getD i 0) ≠ (lst cost l).2.1 := by
        refine ⟨by omega, by rw [bef _ i1]; exact i2, i3, fun i hi => ?_, fun i hi => by rw [bef i (by omega)]; exact i5 i hi⟩
        by_cases w : i = l.length
        · rw [w, last]; omega
        · rw [bef i (by omega)]; exact i4 i (by omega)
      split
      · exact res
      · exact res
section TK
variable {m nk cp ev : Nat} {op wt sz pt : Nat → Nat} {bd : Nat → Int} {g : sG} {f : sF}
def TK6 (m : Nat) (sz : Nat → Nat) (e c : Nat) (f : sF) : Prop := ∀ i, i < 4 → f 6 (4 * e + i) = if i < sz e then I (pdg m (sz e) c i) else I (-1)
def TK (m nk cp : Nat) (op wt sz pt : Nat → Nat) (bd : Nat → Int) (e p : Nat) (f : sF) : Prop := f 5 e = I p ∧ f 7 e = I (LSx m nk cp op wt sz pt bd e p).2.1 ∧ f 8 e = I (cnb m nk cp op sz pt bd e p + (LSx m nk cp op wt sz pt bd e p).2.2.2.1) ∧ TK6 m sz e (LSx m nk cp op wt sz pt bd e p).2.2.2.2 f
def TKf (e : Nat) (f f' : sF) : Prop := (∀ j, j < 5 ∨ 8 < j → f' j = f j) ∧ (∀ e', e' ≠ e → f' 5 e' = f 5 e' ∧ f' 7 e' = f 7 e' ∧ f' 8 e' = f 8 e') ∧ (∀ k, k < 4 * e ∨ 4 * e + 4 ≤ k → f' 6 k = f 6 k)
theorem takes136 (hB : Base m nk cp ev op wt sz pt bd) (hM : Mb m nk cp ev op wt sz pt bd g f) {e : Nat} (he : e < ev) (hW : WS m (sz e) nk cp op (eP pt e) (eB bd e) (m ^ sz e) g f) {w : Nat} (hw : w < (WC m nk cp op sz pt bd e).length) {x2 x3 x4 x5 : Int32} (K18 : (Int32 × Int32 × Int32 × Int32 × Int32 × sG × sF) → Option (sG × sF)) (K32 : (Int32 × Int32 × Int32 × Int32 × Int32 × Int32 × sG × sF) → Option (sG × sF)) :
    ∃ f', itr (fun K z => p_M_takes_L136 K18 K32 K z.1 z.2.1 z.2.2.1 z.2.2.2.1 z.2.2.2.2.1 z.2.2.2.2.2.1 z.2.2.2.2.2.2.1 z.2.2.2.2.2.2.2.1 z.2.2.2.2.2.2.2.2) FUEL (I e, x2, x3, x4, x5, I w, I 0, g, f) = K32 (I e, x2, x3 + I 1, x4, x5, I ((w + 1 : Nat) : Int), g, f') ∧ TK6 m sz e ((WC m nk cp op sz pt bd e).getD w 0) f' ∧ (∀ j, j ≠ 6 → f' j = f j) ∧ (∀ k, k < 4 * e ∨ 4 * e + 4 ≤ k → f' 6 k = f 6 k) := by
  obtain ⟨⟨b0, b1, b2, b3, b4⟩, bO, bW, bS, bP⟩ := id hB
  have hs := bS e he
  have hl := WC_len hB he
  refine itr_R (fun i z => ∃ f' : sF, z = (I e, x2, x3, x4, x5, I w, I i, g, f') ∧ (∀ j, j < i → f' 6 (4 * e + j) = if j < sz e then I (pdg m (sz e) ((WC m nk cp op sz pt bd e).getD w 0) j) else I (-1)) ∧ (∀ j, j ≠ 6 → f' j = f j) ∧ (∀ k, k < 4 * e ∨ 4 * e + 4 ≤ k → f' 6 k = f 6 k)) 4
    (fun o => ∃ f' : sF, o = K32 (I e, x2, x3 + I 1, x4, x5, I ((w + 1 : Nat) : Int), g, f') ∧ TK6 m sz e ((WC m nk cp op sz pt bd e).getD w 0) f' ∧ (∀ j, j ≠ 6 → f' j = f j) ∧ (∀ k, k < 4 * e ∨ 4 * e + 4 ≤ k → f' 6 k = f 6 k)) ⟨f, rfl, fun j hj => by omega, fun _ _ => rfl, fun _ _ => rfl⟩ (by omega) ?_ ?_
  · intro K i z hi ⟨f', ez, h1, h2, h3⟩
    subst ez
    left
    have ei : (i : Int) + 1 = ((i + 1 : Nat) : Int) := by omega
    have f2 : f' 2 e = I (sz e) := by rw [h2 2 (by omega)]; exact hM.2.2.2.1 e he
    refine ⟨(I e, x2, x3, x4, x5, I w, I ((i + 1 : Nat) : Int), g, up2 f' 6 (4 * e + i) (if i < sz e then I (pdg m (sz e) ((WC m nk cp op sz pt bd e).getD w 0) i) else I (-1))), ?_, _, rfl, fun j hj => ?_, fun j hj => by rw [up2_n _ _ _ hj, h2 j hj], fun k hk => by rw [up2_s, upd_n _ _ (by omega)]; exact h3 k hk⟩
    · dsimp only
      unfold p_M_takes_L136 p_M_takes_J179
      simp (disch := omega) only [l_0, l_1, l_2, l_3, l_4, l_5, l_6, l_7, l_9, l_10, l_20, l_24, l_25, l_31, l_40, l_45, l_48, l_57, l_99, l_123, l_124, l_127, l_2000, l_far, l_999999, I_neg, I_mul, I_add, I_lt, I_le, I_nat, tn_n, tn_4, ei, gdG, lt_, f2]
      rw [if_neg (by omega)]
      by_cases q : i < sz e
      · rw [if_neg (by omega), if_pos q]
        have : f' 10 (4 * w + i) = I (pdg m (sz e) ((WC m nk cp op sz pt bd e).getD w 0) i) := by rw [h2 10 (by omega)]; exact (hW.2 w hw i q).1
        rw [this]
      · rw [if_pos (by omega), if_neg q]
    · by_cases q : j = i
      · subst q; rw [up2_s, upd_s]
      · rw [up2_s, upd_n _ _ (by omega)]; exact h1 j (by omega)
  · intro K z ⟨f', ez, h1, h2, h3⟩
    subst ez
    refine ⟨f', ?_, h1, h2, h3⟩
    dsimp only
    unfold p_M_takes_L136
    rw [if_pos (show (4 : Int32) ≤ I ((4 : Nat) : Int) from Int32.le_refl _), l_1, I_add]
    rfl
/-- the positions below p -/
theorem takes32a (hB : Base m nk cp ev op wt sz pt bd) (hM : Mb m nk cp ev op wt sz pt bd g f) {e p q : Nat} (he : e < ev) (hq1 : cp < q) (hq : q < p) (hp : p ≤ nk) (hW : WS m (sz e) nk cp op (eP pt e) (eB bd e) (m ^ sz e) g f) (K18 : (Int32 × Int32 × Int32 × Int32 × Int32 × sG × sF) → Option (sG × sF)) :
    itr (fun K z => p_M_takes_L32 K18 K z.1 z.2.1 z.2.2.1 z.2.2.2.1 z.2.2.2.2.1 z.2.2.2.2.2.1 z.2.2.2.2.2.2.1 z.2.2.2.2.2.2.2) FUEL (I e, I p, I (cnb m nk cp op sz pt bd e q), I 0, I q, I 0, g, f) = K18 (I e, I p, I (cnb m nk cp op sz pt bd e (q + 1)), I 0, I ((q + 1 : Nat) : Int), g, f) := by
  obtain ⟨⟨b0, b1, b2, b3, b4⟩, bO, bW, bS, bP⟩ := id hB
  have hl := WC_len hB he
  have h7 : g 7 = I (WC m nk cp op sz pt bd e).length := hW.1
  refine itr_R (fun w z => z = (I e, I p, I (cnb m nk cp op sz pt bd e q + (GW m nk cp op sz pt bd e q w).length), I 0, I q, I w, g, f)) (WC m nk cp op sz pt bd e).length
    (fun o => o = K18 (I e, I p, I (cnb m nk cp op sz pt bd e (q + 1)), I 0, I ((q + 1 : Nat) : Int), g, f)) (by rw [GW_0]; simp) (by omega) ?_ ?_
  · intro K w z hw ez
    subst ez
    left
    have ew : (w : Int) + 1 = ((w + 1 : Nat) : Int) := by omega
    refine ⟨_, ?_, rfl⟩
    dsimp only
    unfold p_M_takes_L32 p_M_takes_J92 p_M_takes_J93
    rw [h7, if_neg (by rw [I_le (by omega) (by omega) (by omega) (by omega)]; omega), if_pos (show I 0 = (0 : Int32) from rfl), isGrip_v hB hM he hW hw (by omega) (by omega), Option.bind_some, GW_s hw]
    unfold isg
    by_cases c : cb (isGr cp nk (sz e) (frw m nk cp op (eP pt e) (sz e) ((WC m nk cp op sz pt bd e).getD w 0)) q) = true
    · rw [if_pos c, if_pos c, if_neg (by decide), if_neg (by rw [I_eq (by omega) (by omega) (by omega) (by omega)]; omega), if_pos rfl, List.length_append, List.length_singleton]
      have e8 : cnb m nk cp op sz pt bd e q + ((GW m nk cp op sz pt bd e q w).length : Int) + 1 = cnb m nk cp op sz pt bd e q + (((GW m nk cp op sz pt bd e q w).length + 1 : Nat) : Int) := by omega
      simp only [l_0, l_1, l_2, l_3, l_4, l_5, l_6, l_7, l_9, l_10, l_20, l_24, l_25, l_31, l_40, l_45, l_48, l_57, l_99, l_123, l_124, l_127, l_2000, l_far, l_999999, lt_, I_add, ew, e8]
    · rw [if_neg c, if_neg c, List.append_nil, if_pos (show I 0 = (0 : Int32) from rfl)]
      simp only [l_0, l_1, l_2, l_3, l_4, l_5, l_6, l_7, l_9, l_10, l_20, l_24, l_25, l_31, l_40, l_45, l_48, l_57, l_99, l_123, l_124, l_127, l_2000, l_far, l_999999, lt_, I_add, ew]
  · intro K z ez
    subst ez
    dsimp only
    unfold p_M_takes_L32
    rw [h7, if_pos (Int32.le_refl _), GW_all, cnb_s]
    simp only [lt_, l_0, l_1, l_2, l_3, l_4, l_5, l_6, l_7, l_9, l_10, l_20, l_24, l_25, l_31, l_40, l_45, l_48, l_57, l_99, l_123, l_124, l_127, l_2000, l_far, l_999999, I_add]
    rfl
theorem takes32b (hB : Base m nk cp ev op wt sz pt bd) (hM : Mb m nk cp ev op wt sz pt bd g f) {e p : Nat} (he : e < ev) (hp1 : cp < p) (hp : p ≤ nk) (hW : WS m (sz e) nk cp op (eP pt e) (eB bd e) (m ^ sz e) g f) (hl0 : (GL m nk cp op sz pt bd e p).length ≠ 0) (hfc : FCs m nk cp op wt sz pt bd e p f) (K18 : (Int32 × Int32 × Int32 × Int32 × Int32 × sG × sF) → Option (sG × sF)) :
    ∃ x3 f', itr (fun K z => p_M_takes_L32 K18 K z.1 z.2.1 z.2.2.1 z.2.2.2.1 z.2.2.2.2.1 z.2.2.2.2.2.1 z.2.2.2.2.2.2.1 z.2.2.2.2.2.2.2) FUEL (I e, I p, I (cnb m nk cp op sz pt bd e p), I 0, I p, I 0, g, f) = K18 (I e, I p, x3, I 1, I ((p + 1 : Nat) : Int), g, f') ∧ TK m nk cp op wt sz pt bd e p f' ∧ TKf e f f' := by
  obtain ⟨⟨b0, b1, b2, b3, b4⟩, bO, bW, bS, bP⟩ := id hB
  have hl := WC_len hB he
  have h7 : g 7 = I (WC m nk cp op sz pt bd e).length := hW.1
  obtain ⟨u1, u2, u3, u4, u5⟩ := lst_first (GC m nk cp op wt sz pt e p) _ hl0
  have ubd := lst_bd (GC m nk cp op wt sz pt e p) _ (GL_cost (p := p) hB he)
  have f12 : f 12 (25 * e + p) = I (LSx m nk cp op wt sz pt bd e p).2.1 := by
    rw [hfc.1, DD_bst]
    unfold bst
    rw [if_neg hl0]
    rfl
  refine itr_R (fun w z => (z = (I e, I p, I (cnb m nk cp op sz pt bd e p + (GW m nk cp op sz pt bd e p w).length), I 0, I p, I w, g, f) ∧ ∀ c ∈ GW m nk cp op sz pt bd e p w, GC m nk cp op wt sz pt e p c ≠ (lst (GC m nk cp op wt sz pt e p) (GL m nk cp op sz pt bd e p)).2.1) ∨ ∃ (x3 : Int32) (f' : sF), z = (I e, I p, x3, I 1, I p, I w, g, f') ∧ TK m nk cp op wt sz pt bd e p f' ∧ TKf e f f') (WC m nk cp op sz pt bd e).length
    (fun o => ∃ (x3 : Int32) (f' : sF), o = K18 (I e, I p, x3, I 1, I ((p + 1 : Nat) : Int), g, f') ∧ TK m nk cp op wt sz pt bd e p f' ∧ TKf e f f') (Or.inl ⟨by rw [GW_0]; simp, by rw [GW_0]; intro c hc; cases hc⟩) (by omega) ?_ ?_
  · intro K w z hw hz
    have ew : (w : Int) + 1 = ((w + 1 : Nat) : Int) := by omega
    rcases hz with ⟨ez, hno⟩ | ⟨x3, f', ez, hTK, hTf⟩
    · subst ez
      left
      have gs := GW_s (m := m) (nk := nk) (cp := cp) (op := op) (sz := sz) (pt := pt) (bd := bd) (e := e) (p := p) hw
      unfold isg at gs
      dsimp only
      unfold p_M_takes_L32 p_M_takes_J92
      rw [h7, if_neg (by rw [I_le (by omega) (by omega) (by omega) (by omega)]; omega), if_pos (show I 0 = (0 : Int32) from rfl), isGrip_v hB hM he hW hw (by omega) (by omega), Option.bind_some]
      by_cases c : cb (isGr cp nk (sz e) (frw m nk cp op (eP pt e) (sz e) ((WC m nk cp op sz pt bd e).getD w 0)) p) = true
      · rw [if_pos c] at gs
        obtain ⟨l, hl2⟩ := GW_pre (m := m) (nk := nk) (cp := cp) (op := op) (sz := sz) (pt := pt) (bd := bd) (e := e) (p := p) (w := w + 1) (by omega)
        rw [gs, List.append_assoc] at hl2
        have hl3 : GL m nk cp op sz pt bd e p = GW m nk cp op sz pt bd e p w ++ (WC m nk cp op sz pt bd e).getD w 0 :: l := hl2
        have cm : (WC m nk cp op sz pt bd e).getD w 0 ∈ GL m nk cp op sz pt bd e p := by rw [hl3]; exact List.mem_append_right _ List.mem_cons_self
        have cc := GL_cost (wt := wt) hB he _ cm
        rw [if_pos c, if_neg (by decide), if_pos rfl, costOf_v hB hM he hW hw hp1 hp, Option.bind_some]
        unfold p_M_at_
        rw [l_0]
        simp (disch := omega) only [l_25, Option.bind_some, I_mul, I_add, I_lt, I_nat, tn_25b, gdG, f12]
        have e8 : cnb m nk cp op sz pt bd e p + ((GW m nk cp op sz pt bd e p w).length : Int) + 1 = cnb m nk cp op sz pt bd e p + (((GW m nk cp op sz pt bd e p w).length + 1 : Nat) : Int) := by omega
        by_cases k : GC m nk cp op wt sz pt e p ((WC m nk cp op sz pt bd e).getD w 0) = (LSx m nk cp op wt sz pt bd e p).2.1
        · rw [k, if_pos rfl]
          have glen : (GL m nk cp op sz pt bd e p).length = (GW m nk cp op sz pt bd e p w).length + (1 + l.length) := by rw [hl2, List.length_append, List.length_append, List.length_singleton]
          have hfp : (lst (GC m nk cp op wt sz pt e p) (GL m nk cp op sz pt bd e p)).2.2.2.1 = (GW m nk cp op sz pt bd e p w).length := by
            rcases Nat.lt_trichotomy (lst (GC m nk cp op wt sz pt e p) (GL m nk cp op sz pt bd e p)).2.2.2.1 (GW m nk cp op sz pt bd e p w).length with x | x | x
            · exfalso
              have y : (GL m nk cp op sz pt bd e p).getD (lst (GC m nk cp op wt sz pt e p) (GL m nk cp op sz pt bd e p)).2.2.2.1 0 ∈ GW m nk cp op sz pt bd e p w := by
                have : (GL m nk cp op sz pt bd e p).getD (lst (GC m nk cp op wt sz pt e p) (GL m nk cp op sz pt bd e p)).2.2.2.1 0 = (GW m nk cp op sz pt bd e p w).getD (lst (GC m nk cp op wt sz pt e p) (GL m nk cp op sz pt bd e p)).2.2.2.1 0 := by
                  generalize (lst (GC m nk cp op wt sz pt e p) (GL m nk cp op sz pt bd e p)).2.2.2.1 = fp at x ⊢
                  rw [hl3]
                  exact getD_ll x
                rw [this]
                exact getD_mem x
              rw [u2] at y
              exact hno _ y u3
            · exact x
            · exfalso
              refine u5 _ x ?_
              rw [show (GL m nk cp op sz pt bd e p).getD (GW m nk cp op sz pt bd e p w).length 0 = (WC m nk cp op sz pt bd e).getD w 0 by rw [hl3]; exact getD_r]
              exact k
          have hfcc : (LSx m nk cp op wt sz pt bd e p).2.2.2.2 = (WC m nk cp op sz pt bd e).getD w 0 := by
            unfold LSx
            rw [← u2, hfp, hl3]
            exact getD_r
          have hfpp : (LSx m nk cp op wt sz pt bd e p).2.2.2.1 = (GW m nk cp op sz pt bd e p w).length := hfp
          unfold p_M_takes_J93 p_M_at_
          have n10 : ¬ (1 : Int32) = 0 := by decide
          rw [if_neg n10]
          have q12 : up2 f 5 e (I p) 12 (25 * e + p) = I (LSx m nk cp op wt sz pt bd e p).2.1 := by rw [up2_n _ _ _ (by omega)]; exact f12
          simp (disch := omega) only [l_0, l_1, l_2, l_3, l_4, l_5, l_6, l_7, l_9, l_10, l_20, l_24, l_25, l_31, l_40, l_45, l_48, l_57, l_99, l_123, l_124, l_127, l_2000, l_far, l_999999, Option.bind_some, I_mul, I_add, I_lt, I_nat, tn_n, tn_25b, gdG, lt_, q12]
          generalize hF : up2 (up2 (up2 f 5 e (I p)) 7 e (I (LSx m nk cp op wt sz pt bd e p).2.1)) 8 e (I (cnb m nk cp op sz pt bd e p + ((GW m nk cp op sz pt bd e p w).length : Int))) = F
          have Fj : ∀ j, j < 5 ∨ j = 6 ∨ 8 < j → F j = f j := fun j hj => by rw [← hF, up2_n _ _ _ (by omega), up2_n _ _ _ (by omega), up2_n _ _ _ (by omega)]
          have hM' : Mb m nk cp ev op wt sz pt bd g F := hM.fr (fun _ _ => rfl) (fun j hj => Fj j (by omega))
          have hW' : WS m (sz e) nk cp op (eP pt e) (eB bd e) (m ^ sz e) g F := ⟨hW.1, fun w hw i hi => by rw [Fj 10 (by omega), Fj 11 (by omega)]; exact hW.2 w hw i hi⟩
          obtain ⟨f', r1, r2, r3, r4⟩ := takes136 (x2 := I p) (x3 := I (cnb m nk cp op sz pt bd e p + ((GW m nk cp op sz pt bd e p w).length : Int))) (x4 := I 1) (x5 := I p) hB hM' he hW' hw K18 K
          refine ⟨_, r1, Or.inr ⟨_, f', rfl, ⟨?_, ?_, ?_, ?_⟩, ⟨fun j hj => ?_, fun e' he' => ?_, fun k hk => ?_⟩⟩⟩
          · rw [r3 5 (by omega), ← hF]; simp only [up2_e, and_self, and_true, true_and, if_true, and_false, false_and, if_false, Nat.reduceEqDiff, reduceIte]
          · rw [r3 7 (by omega), ← hF]; simp only [up2_e, and_self, and_true, true_and, if_true, and_false, false_and, if_false, Nat.reduceEqDiff, reduceIte]
          · rw [r3 8 (by omega), ← hF, hfpp]; simp only [up2_e, and_self, and_true, true_and, if_true, and_false, false_and, if_false, Nat.reduceEqDiff, reduceIte]
          · rw [hfcc]; exact r2
          · rw [r3 j (by omega), Fj j (by omega)]
          · rw [r3 5 (by omega), r3 7 (by omega), r3 8 (by omega), ← hF]
            simp only [up2_e, he', and_self, and_true, true_and, if_true, and_false, false_and, if_false, Nat.reduceEqDiff, reduceIte]
          · rw [r4 k hk, Fj 6 (by omega)]
        · have lb : 0 ≤ (LSx m nk cp op wt sz pt bd e p).2.1 ∧ (LSx m nk cp op wt sz pt bd e p).2.1 ≤ 2000 := ⟨ubd.1, ubd.2.1⟩
          rw [if_neg (by rw [I_eq (by omega) (by omega) (by omega) (by omega)]; exact k)]
          unfold p_M_takes_J93
          rw [if_pos (show I 0 = (0 : Int32) from rfl)]
          refine ⟨_, ?_, Or.inl ⟨rfl, fun c' hc' => ?_⟩⟩
          · rw [gs, List.length_append, List.length_singleton]
            simp only [l_0, l_1, l_2, l_3, l_4, l_5, l_6, l_7, l_9, l_10, l_20, l_24, l_25, l_31, l_40, l_45, l_48, l_57, l_99, l_123, l_124, l_127, l_2000, l_far, l_999999, lt_, I_add, ew, e8]
          · rw [gs] at hc'
            rcases List.mem_append.mp hc' with x | x
            · exact hno c' x
            · rw [List.mem_singleton.mp x]; exact k
      · rw [if_neg c, List.append_nil] at gs
        rw [if_neg c, if_pos (show I 0 = (0 : Int32) from rfl)]
        refine ⟨_, ?_, Or.inl ⟨rfl, by rw [gs]; exact hno⟩⟩
        rw [gs]
        simp only [l_0, l_1, l_2, l_3, l_4, l_5, l_6, l_7, l_9, l_10, l_20, l_24, l_25, l_31, l_40, l_45, l_48, l_57, l_99, l_123, l_124, l_127, l_2000, l_far, l_999999, lt_, I_add, ew]
    · subst ez
      right
      refine ⟨x3, f', ?_, hTK, hTf⟩
      dsimp only
      unfold p_M_takes_L32
      rw [h7, if_neg (by rw [I_le (by omega) (by omega) (by omega) (by omega)]; omega), if_neg (show ¬ I 1 = 0 by decide)]
      simp only [l_0, l_1, l_2, l_3, l_4, l_5, l_6, l_7, l_9, l_10, l_20, l_24, l_25, l_31, l_40, l_45, l_48, l_57, l_99, l_123, l_124, l_127, l_2000, l_far, l_999999, lt_, I_add]
      rfl
  · intro K z hz
    rcases hz with ⟨ez, hno⟩ | ⟨x3, f', ez, hTK, hTf⟩
    · exfalso
      rw [GW_all] at hno
      refine hno _ ?_ u3
      rw [← u2]
      exact getD_mem u1
    · subst ez
      refine ⟨x3, f', ?_, hTK, hTf⟩
      dsimp only
      unfold p_M_takes_L32
      rw [h7, if_pos (Int32.le_refl _)]
      simp only [l_0, l_1, l_2, l_3, l_4, l_5, l_6, l_7, l_9, l_10, l_20, l_24, l_25, l_31, l_40, l_45, l_48, l_57, l_99, l_123, l_124, l_127, l_2000, l_far, l_999999, lt_, I_add]
      rfl
theorem takes_v (hB : Base m nk cp ev op wt sz pt bd) (hM : Mb m nk cp ev op wt sz pt bd g f) {e p : Nat} (he : e < ev) (hp1 : cp < p) (hp : p ≤ nk) (hl0 : (GL m nk cp op sz pt bd e p).length ≠ 0) (hfc : FCs m nk cp op wt sz pt bd e p f) :
    ∃ g' f', p_M_takes (I e) (I p) g f = some (g', f') ∧ TK m nk cp op wt sz pt bd e p f' ∧ (∀ x, x ≠ 7 → g' x = g x) ∧ (∀ j, j < 5 ∨ j = 9 ∨ 11 < j → f' j = f j) ∧ (∀ e', e' ≠ e → f' 5 e' = f 5 e' ∧ f' 7 e' = f 7 e' ∧ f' 8 e' = f 8 e') ∧ (∀ k, k < 4 * e ∨ 4 * e + 4 ≤ k → f' 6 k = f 6 k) := by
  obtain ⟨⟨b0, b1, b2, b3, b4⟩, bO, bW, bS, bP⟩ := id hB
  unfold p_M_takes
  obtain ⟨g1, f1, ev1, hW, hg, hf⟩ := findWays_v hB hM he
  have hM1 : Mb m nk cp ev op wt sz pt bd g1 f1 := hM.fr (fun x hx => hg x (by omega)) (fun j hj => hf j (by omega) (by omega))
  have hfc1 : FCs m nk cp op wt sz pt bd e p f1 := by unfold FCs; rw [hf 12 (by omega) (by omega), hf 13 (by omega) (by omega)]; exact hfc
  rw [ev1, Option.bind_some]
  simp only [lt_, hM1.1.2.2.1, l_0, l_1, l_2, l_3, l_4, l_5, l_6, l_7, l_9, l_10, l_20, l_24, l_25, l_31, l_40, l_45, l_48, l_57, l_99, l_123, l_124, l_127, l_2000, l_far, l_999999, I_add]
  refine itr_R (fun t z => (t < p - cp ∧ z = (I e, I p, I (cnb m nk cp op sz pt bd e (cp + 1 + t)), I 0, I ((cp + 1 + t : Nat) : Int), g1, f1)) ∨ (t = p - cp ∧ ∃ (x3 : Int32) (f' : sF), z = (I e, I p, x3, I 1, I ((p + 1 : Nat) : Int), g1, f') ∧ TK m nk cp op wt sz pt bd e p f' ∧ TKf e f1 f')) (p - cp)
    (fun o => ∃ (g' : sG) (f' : sF), o = some (g', f') ∧ TK m nk cp op wt sz pt bd e p f' ∧ (∀ x, x ≠ 7 → g' x = g x) ∧ (∀ j, j < 5 ∨ j = 9 ∨ 11 < j → f' j = f j) ∧ (∀ e', e' ≠ e → f' 5 e' = f 5 e' ∧ f' 7 e' = f 7 e' ∧ f' 8 e' = f 8 e') ∧ (∀ k, k < 4 * e ∨ 4 * e + 4 ≤ k → f' 6 k = f 6 k)) (Or.inl ⟨by omega, by rw [Nat.add_zero, cnb_lo _ (Nat.le_refl _)]; exact rfl⟩) (by omega) ?_ ?_
  · intro K t z ht hz
    rcases hz with ⟨_, ez⟩ | ⟨h, _⟩
    · subst ez
      left
      dsimp only
      unfold p_M_takes_L18
      rw [if_neg (by rw [I_lt (by omega) (by omega) (by omega) (by omega)]; omega), if_pos (show I 0 = (0 : Int32) from rfl), l_0]
      by_cases q : cp + 1 + t < p
      · rw [takes32a hB hM1 he (by omega) q hp hW K]
        exact ⟨_, rfl, Or.inl ⟨by omega, rfl⟩⟩
      · have e1 : cp + 1 + t = p := by omega
        rw [e1]
        obtain ⟨x3, f', r1, r2, r3⟩ := takes32b hB hM1 he hp1 hp hW hl0 hfc1 K
        rw [r1]
        exact ⟨_, rfl, Or.inr ⟨by omega, x3, f', rfl, r2, r3⟩⟩
    · omega
  · intro K z hz
    rcases hz with ⟨h, _⟩ | ⟨_, x3, f', ez, h1, h2, h3, h4⟩
    · omega
    · subst ez
      refine ⟨g1, f', ?_, h1, hg, fun j hj => by rw [h2 j (by omega), hf j (by omega) (by omega)], fun e' he' => ?_, fun k hk => by rw [h4 k hk, hf 6 (by omega) (by omega)]⟩
      · dsimp only
        unfold p_M_takes_L18
        rw [if_pos (by rw [I_lt (by omega) (by omega) (by omega) (by omega)]; omega)]
      · have := h3 e' he'
        rw [this.1, this.2.1, this.2.2, hf 5 (by omega) (by omega), hf 7 (by omega) (by omega), hf 8 (by omega) (by omega)]
        exact ⟨rfl, rfl, rfl⟩
end TK
