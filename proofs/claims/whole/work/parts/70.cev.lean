section EV
variable (m cp C : Nat) (op tp : Nat → Nat)
noncomputable def pch (s c : Nat) : Nat := op s + cp + vl m C tp s c
noncomputable def clk (c : Nat) : Nat → List Nat
  | 0 => []
  | s + 1 => clk c s ++ (if cb (bg m C tp s c) = true then [s] else [])
noncomputable def cl (c : Nat) : List Nat := clk m C tp c m
def tw (c : Nat) : Prop := ∃ s t, s < m ∧ t < s ∧ bg m C tp s c ∧ bg m C tp t c ∧ pch m cp C op tp s c = pch m cp C op tp t c
def b4 (c : Nat) : Prop := 4 < (cl m C tp c).length ∨ tw m cp C op tp c
noncomputable def low (c : Nat) : Nat := (cl m C tp c).getD 0 0
noncomputable def evk : Nat → List Nat
  | 0 => []
  | k + 1 => evk k ++ (if (cl m C tp k).length = 0 then [] else [k])
noncomputable def colv (s c : Nat) : Int := if cb (bg m C tp s c) = true then (pch m cp C op tp s c : Int) else -1
end EV
section EV2
variable {m nk cp n C : Nat} {op tp : Nat → Nat} {g : sG} {f : sF}
theorem clk_s {c s : Nat} : clk m C tp c (s + 1) = clk m C tp c s ++ (if cb (bg m C tp s c) = true then [s] else []) := rfl
theorem clk_pre {c s : Nat} : ∀ d, ∃ r, clk m C tp c (s + d) = clk m C tp c s ++ r
  | 0 => ⟨[], (List.append_nil _).symm⟩
  | d + 1 => by
    obtain ⟨r, hr⟩ := clk_pre (c := c) (s := s) d
    refine ⟨r ++ (if cb (bg m C tp (s + d) c) = true then [s + d] else []), ?_⟩
    rw [show s + (d + 1) = s + d + 1 by omega, clk_s, hr, List.append_assoc]
theorem cl_pre {c s : Nat} (h : s ≤ m) : ∃ r, cl m C tp c = clk m C tp c s ++ r := by
  obtain ⟨r, hr⟩ := clk_pre (m := m) (C := C) (tp := tp) (c := c) (s := s) (m - s)
  rw [show s + (m - s) = m by omega] at hr
  exact ⟨r, hr⟩
theorem clk_mem {c t : Nat} : ∀ {s : Nat}, t ∈ clk m C tp c s → t < s ∧ bg m C tp t c
  | 0, h => by cases h
  | s + 1, h => by
    rw [clk_s] at h
    rcases List.mem_append.mp h with x | x
    · have := clk_mem (s := s) x; exact ⟨by omega, this.2⟩
    · split at x
      · rename_i q
        rw [List.mem_singleton.mp x]
        exact ⟨by omega, cb_t.mp q⟩
      · cases x
theorem clk_in {c s t : Nat} (hs : t < s) (hb : bg m C tp t c) : t ∈ clk m C tp c s := by
  obtain ⟨r, hr⟩ := clk_pre (m := m) (C := C) (tp := tp) (c := c) (s := t + 1) (s - (t + 1))
  rw [show t + 1 + (s - (t + 1)) = s by omega, clk_s, if_pos (cb_t.mpr hb)] at hr
  rw [hr]
  exact List.mem_append_left _ (List.mem_append_right _ (List.mem_singleton.mpr rfl))
theorem cl_low {c : Nat} (h : (cl m C tp c).length ≠ 0) : low m C tp c < m ∧ bg m C tp (low m C tp c) c := clk_mem (s := m) (getD_mem (l := cl m C tp c) (i := 0) (by omega))
theorem cl_lt {c : Nat} (h : (cl m C tp c).length ≠ 0) : c < C := (cl_low h).2.1.1
theorem low_hit {c s : Nat} (hs : s < m) (h0 : (clk m C tp c s).length = 0) (hb : bg m C tp s c) : low m C tp c = s ∧ (cl m C tp c).length ≠ 0 := by
  obtain ⟨r, hr⟩ := cl_pre (C := C) (tp := tp) (c := c) (s := s + 1) hs
  have e : clk m C tp c s = [] := List.eq_nil_of_length_eq_zero h0
  rw [clk_s, if_pos (cb_t.mpr hb), e] at hr
  unfold low
  rw [hr]
  exact ⟨rfl, by rw [List.length_append, List.length_append, List.length_singleton]; omega⟩
theorem evk_s {k : Nat} : evk m C tp (k + 1) = evk m C tp k ++ (if (cl m C tp k).length = 0 then [] else [k]) := rfl
theorem evk_pre {k : Nat} : ∀ d, ∃ r, evk m C tp (k + d) = evk m C tp k ++ r
  | 0 => ⟨[], (List.append_nil _).symm⟩
  | d + 1 => by
    obtain ⟨r, hr⟩ := evk_pre (k := k) d
    refine ⟨r ++ (if (cl m C tp (k + d)).length = 0 then [] else [k + d]), ?_⟩
    rw [show k + (d + 1) = k + d + 1 by omega, evk_s, hr, List.append_assoc]
theorem evk_le {k k' : Nat} (h : k ≤ k') : (evk m C tp k).length ≤ (evk m C tp k').length := by
  obtain ⟨r, hr⟩ := evk_pre (m := m) (C := C) (tp := tp) (k := k) (k' - k)
  rw [show k + (k' - k) = k' by omega] at hr
  rw [hr, List.length_append]
  omega
theorem evk_C (d : Nat) : evk m C tp (C + d) = evk m C tp C := by
  induction d with
  | zero => rfl
  | succ d ih =>
    rw [show C + (d + 1) = C + d + 1 by omega, evk_s, ih]
    rw [if_pos, List.append_nil]
    exact Classical.byContradiction (fun q => by have := cl_lt q; omega)
theorem evk_mem {c : Nat} : ∀ {k : Nat}, c ∈ evk m C tp k → c < k ∧ (cl m C tp c).length ≠ 0
  | 0, h => by cases h
  | k + 1, h => by
    rw [evk_s] at h
    rcases List.mem_append.mp h with x | x
    · have := evk_mem (k := k) x; exact ⟨by omega, this.2⟩
    · split at x
      · cases x
      · rename_i q
        rw [List.mem_singleton.mp x]
        exact ⟨by omega, q⟩
theorem Rc.fr {g' : sG} {f' : sF} (h : Rc m nk cp C n op tp g f) (hg : ∀ x, x ≤ 2 ∨ x = 12 ∨ x = 13 → g' x = g x) (hf : f' 19 = f 19 ∧ f' 1 = f 1) : Rc m nk cp C n op tp g' f' := by
  obtain ⟨a, ⟨b0, b1, b2⟩, ⟨c0, c1, c2, c3⟩, d, e⟩ := h
  exact ⟨a, ⟨b0, by rw [hg 12 (by omega)]; exact b1, by rw [hf.1]; exact b2⟩, ⟨by rw [hg 0 (by omega)]; exact c0, by rw [hg 1 (by omega)]; exact c1, by rw [hg 2 (by omega)]; exact c2, by rw [hg 13 (by omega)]; exact c3⟩, by rw [hf.2]; exact d, e⟩
def LC (m cp C : Nat) (op tp : Nat → Nat) (c : Nat) (f : sF) : Prop := ∀ s, s < m → f 21 s = I (colv m cp C op tp s c)
theorem pch_bd (h : Rc m nk cp C n op tp g f) {s c : Nat} (hs : s < m) (hb : bg m C tp s c) : pch m cp C op tp s c ≤ 300 := by
  have := vl_bd hb.1
  have rb := h.2.2.2.2.1
  have ro := h.2.2.2.2.2 s hs
  unfold pch
  omega
theorem load_v (h : Rc m nk cp C n op tp g f) {c : Nat} (hc : c < C + 2) : ∃ f', p_TR_loadColumn (I ((c + 1 : Nat) : Int)) g f = some (g, f') ∧ LC m cp C op tp c f' ∧ ∀ j, j ≠ 21 → f' j = f j := by
  have rb := h.2.2.2.2.1
  unfold p_TR_loadColumn
  rw [l_0]
  refine itr_R (fun s z => ∃ f' : sF, z = (I ((c + 1 : Nat) : Int), I s, g, f') ∧ (∀ s', s' < s → f' 21 s' = I (colv m cp C op tp s' c)) ∧ ∀ j, j ≠ 21 → f' j = f j) m (fun o => ∃ f' : sF, o = some (g, f') ∧ LC m cp C op tp c f' ∧ ∀ j, j ≠ 21 → f' j = f j) ⟨f, rfl, fun s' q => by omega, fun _ _ => rfl⟩ (by omega) ?_ ?_
  · intro K s z hs ⟨f', ez, h1, h2⟩
    subst ez
    left
    have es : (s : Int) + 1 = ((s + 1 : Nat) : Int) := by omega
    have h' : Rc m nk cp C n op tp g (up2 f' 21 s (I (-1))) := h.fr (fun _ _ => rfl) ⟨by rw [up2_n _ _ _ (by omega), h2 19 (by omega)], by rw [up2_n _ _ _ (by omega), h2 1 (by omega)]⟩
    obtain ⟨r0, r1, r2, r3⟩ := h.2.2.1
    have ro := h'.2.2.2.1 s hs
    dsimp only
    unfold p_TR_loadColumn_L2
    rw [r0, if_neg (by rw [I_le (by omega) (by omega) (by omega) (by omega)]; omega)]
    have hstr := fun (f : sF) => hasString_v (f := f) (z := (s : Int)) r0 rb.2.1 (by omega) (by omega)
    simp (disch := omega) only [l_0, l_1, l_2, l_3, l_4, l_5, l_6, l_7, l_9, l_10, l_20, l_24, l_25, l_31, l_40, l_45, l_48, l_57, l_99, l_123, l_124, l_127, l_2000, l_far, l_999999, I_neg, I_lt, I_nat, tn_n, gdG, lt_, begins_v h' hs hc, Option.bind_some, I_add, es]
    by_cases b : bg m C tp s c
    · rw [bI_t b, if_neg (by decide), numberIn_v h' hs b.1, Option.bind_some]
      unfold p_In_pitchBehindCapo
      rw [hstr, if_pos ⟨by omega, by omega⟩, Option.bind_some, if_neg (by decide)]
      simp (disch := omega) only [l_0, l_1, l_2, l_3, l_4, l_5, l_6, l_7, l_9, l_10, l_20, l_24, l_25, l_31, l_40, l_45, l_48, l_57, l_99, l_123, l_124, l_127, l_2000, l_far, l_999999, I_lt, I_nat, tn_n, gdG, ro, r2, I_add, Option.bind_some]
      refine ⟨_, rfl, _, rfl, fun s' q => ?_, fun j hj => by rw [up2_n _ _ _ hj, up2_n _ _ _ hj]; exact h2 j hj⟩
      by_cases w : s' = s
      · subst w
        rw [up2_s, upd_s]
        unfold colv pch
        rw [if_pos (cb_t.mpr b)]
        congr 1
      · rw [up2_s, upd_n _ _ w, up2_s, upd_n _ _ w]
        exact h1 s' (by omega)
    · rw [bI_f b, if_pos rfl]
      refine ⟨_, rfl, _, rfl, fun s' q => ?_, fun j hj => by rw [up2_n _ _ _ hj]; exact h2 j hj⟩
      by_cases w : s' = s
      · subst w
        rw [up2_s, upd_s]
        unfold colv
        rw [if_neg (fun q => b (cb_t.mp q))]
      · rw [up2_s, upd_n _ _ w]
        exact h1 s' (by omega)
  · intro K z ⟨f', ez, h1, h2⟩
    subst ez
    dsimp only
    unfold p_TR_loadColumn_L2
    rw [h.2.2.1.1, if_pos (Int32.le_refl _)]
    exact ⟨f', rfl, h1, h2⟩
theorem colv_1 (h : Rc m nk cp C n op tp g f) {s c : Nat} (hs : s < m) : (I (colv m cp C op tp s c) = I (-1) ↔ ¬ bg m C tp s c) ∧ -1 ≤ colv m cp C op tp s c ∧ colv m cp C op tp s c ≤ 300 := by
  unfold colv
  by_cases b : bg m C tp s c
  · have := pch_bd h hs b
    rw [if_pos (cb_t.mpr b)]
    refine ⟨?_, by omega, by omega⟩
    rw [I_eq (by omega) (by omega) (by omega) (by omega)]
    exact ⟨fun q => by omega, fun q => absurd b q⟩
  · rw [if_neg (fun q => b (cb_t.mp q))]
    exact ⟨⟨fun _ => b, fun _ => rfl⟩, by omega, by omega⟩
theorem count_v (h : Rc m nk cp C n op tp g f) {c : Nat} (hl : LC m cp C op tp c f) : p_TR_countPitches g f = some (I (cl m C tp c).length) := by
  have rb := h.2.2.2.2.1
  unfold p_TR_countPitches
  rw [l_0]
  refine itr_R (fun s z => z = (I (clk m C tp c s).length, I s)) m (fun o => o = some (I (cl m C tp c).length)) rfl (by omega) ?_ ?_
  · intro K s z hs ez
    subst ez
    left
    refine ⟨_, ?_, rfl⟩
    have es : (s : Int) + 1 = ((s + 1 : Nat) : Int) := by omega
    have cv := colv_1 (c := c) h hs
    dsimp only
    unfold p_TR_countPitches_L4
    rw [h.2.2.1.1, if_neg (by rw [I_le (by omega) (by omega) (by omega) (by omega)]; omega), clk_s]
    simp (disch := omega) only [l_0, l_1, l_2, l_3, l_4, l_5, l_6, l_7, l_9, l_10, l_20, l_24, l_25, l_31, l_40, l_45, l_48, l_57, l_99, l_123, l_124, l_127, l_2000, l_far, l_999999, I_neg, I_lt, I_nat, tn_n, gdG, lt_, hl s hs, I_add, es]
    by_cases b : bg m C tp s c
    · rw [if_neg (fun q => cv.1.mp q b), if_pos (cb_t.mpr b), List.length_append, List.length_singleton]
      rfl
    · rw [if_pos (cv.1.mpr b), if_neg (fun q => b (cb_t.mp q)), List.append_nil]
  · intro K z ez
    subst ez
    dsimp only
    unfold p_TR_countPitches_L4
    rw [h.2.2.1.1, if_pos (Int32.le_refl _)]
    rfl
theorem twice_v (h : Rc m nk cp C n op tp g f) {c : Nat} (hl : LC m cp C op tp c f) : p_TR_hasPitchTwice g f = some (I (bI (tw m cp C op tp c))) := by
  have rb := h.2.2.2.2.1
  unfold p_TR_hasPitchTwice
  rw [l_1]
  refine itr_R (fun k z => z = I ((1 + k : Nat) : Int) ∧ ∀ s t, s < 1 + k → t < s → ¬ (bg m C tp s c ∧ bg m C tp t c ∧ pch m cp C op tp s c = pch m cp C op tp t c)) (m - 1) (fun o => o = some (I (bI (tw m cp C op tp c)))) ⟨rfl, fun s t a b => by omega⟩ (by omega) ?_ ?_
  · intro K k z hk ⟨ez, hno⟩
    subst ez
    obtain ⟨s, hs⟩ : ∃ s, s = 1 + k := ⟨_, rfl⟩
    rw [← hs] at hno ⊢
    have cvs := colv_1 (c := c) h (show s < m by omega)
    unfold p_TR_hasPitchTwice_L2
    rw [h.2.2.1.1, if_neg (by rw [I_le (by omega) (by omega) (by omega) (by omega)]; omega), l_0]
    refine itr_R (fun t z => z = (I s, I t) ∧ ∀ t', t' < t → ¬ (bg m C tp s c ∧ bg m C tp t' c ∧ pch m cp C op tp s c = pch m cp C op tp t' c)) s (fun o => (∃ s', o = K s' ∧ s' = I ((1 + (k + 1) : Nat) : Int) ∧ ∀ s t, s < 1 + (k + 1) → t < s → ¬ (bg m C tp s c ∧ bg m C tp t c ∧ pch m cp C op tp s c = pch m cp C op tp t c)) ∨ o = some (I (bI (tw m cp C op tp c)))) ⟨rfl, fun t' q => by omega⟩ (by omega) ?_ ?_
    · intro K2 t z ht ⟨ez, hno2⟩
      subst ez
      have et : (t : Int) + 1 = ((t + 1 : Nat) : Int) := by omega
      have cvt := colv_1 (c := c) h (show t < m by omega)
      dsimp only
      unfold p_TR_hasPitchTwice_L15
      rw [if_neg (by rw [I_le (by omega) (by omega) (by omega) (by omega)]; omega)]
      simp (disch := omega) only [l_0, l_1, l_2, l_3, l_4, l_5, l_6, l_7, l_9, l_10, l_20, l_24, l_25, l_31, l_40, l_45, l_48, l_57, l_99, l_123, l_124, l_127, l_2000, l_far, l_999999, I_neg, I_lt, I_nat, tn_n, gdG, lt_, hl s (by omega), hl t (by omega), I_add, et]
      have up : ¬ (bg m C tp s c ∧ bg m C tp t c ∧ pch m cp C op tp s c = pch m cp C op tp t c) → ∀ t', t' < t + 1 → ¬ (bg m C tp s c ∧ bg m C tp t' c ∧ pch m cp C op tp s c = pch m cp C op tp t' c) := fun q t' h' => by
        by_cases w : t' = t
        · rw [w]; exact q
        · exact hno2 t' (by omega)
      by_cases b : bg m C tp s c
      · rw [if_neg (fun q => cvs.1.mp q b)]
        have ecs : colv m cp C op tp s c = pch m cp C op tp s c := by unfold colv; rw [if_pos (cb_t.mpr b)]
        by_cases bt : bg m C tp t c
        · have ect : colv m cp C op tp t c = pch m cp C op tp t c := by unfold colv; rw [if_pos (cb_t.mpr bt)]
          by_cases e : pch m cp C op tp s c = pch m cp C op tp t c
          · right
            right
            rw [if_pos (by rw [ecs, ect, e]), bI_t ⟨s, t, by omega, ht, b, bt, e⟩]
          · left
            rw [if_neg (by rw [I_eq (by omega) (by omega) (by omega) (by omega)]; omega)]
            exact ⟨_, rfl, rfl, up (fun q => e q.2.2)⟩
        · left
          have ect : colv m cp C op tp t c = -1 := by unfold colv; rw [if_neg (fun q => bt (cb_t.mp q))]
          rw [if_neg (by rw [I_eq (by omega) (by omega) (by omega) (by omega)]; omega)]
          exact ⟨_, rfl, rfl, up (fun q => bt q.2.1)⟩
      · left
        rw [if_pos (cvs.1.mpr b)]
        exact ⟨_, rfl, rfl, up (fun q => b q.1)⟩
    · intro K2 z ⟨ez, hno2⟩
      subst ez
      left
      dsimp only
      unfold p_TR_hasPitchTwice_L15
      rw [if_pos (Int32.le_refl _), l_1, I_add, lt_]
      refine ⟨_, rfl, by rw [show (s : Int) + 1 = ((1 + (k + 1) : Nat) : Int) by omega], fun s' t' a b => ?_⟩
      by_cases w : s' = s
      · subst w; exact hno2 t' b
      · exact hno s' t' (by omega) b
  · intro K z ⟨ez, hno⟩
    subst ez
    unfold p_TR_hasPitchTwice_L2
    rw [h.2.2.1.1, if_pos (by rw [I_le (by omega) (by omega) (by omega) (by omega)]; omega), bI_f (fun ⟨s, t, a, b, d⟩ => hno s t (by omega) b d), l_0]
theorem lowest_v (h : Rc m nk cp C n op tp g f) {c : Nat} (hl : LC m cp C op tp c f) : p_TR_lowestString g f = some (I (if (cl m C tp c).length = 0 then -1 else (low m C tp c : Nat))) := by
  have rb := h.2.2.2.2.1
  unfold p_TR_lowestString
  rw [l_0]
  refine itr_R (fun s z => z = I s ∧ (clk m C tp c s).length = 0) m (fun o => o = some (I (if (cl m C tp c).length = 0 then -1 else (low m C tp c : Nat)))) ⟨rfl, rfl⟩ (by omega) ?_ ?_
  · intro K s z hs ⟨ez, h0⟩
    subst ez
    have es : (s : Int) + 1 = ((s + 1 : Nat) : Int) := by omega
    have cv := colv_1 (c := c) h hs
    unfold p_TR_lowestString_L2
    rw [h.2.2.1.1, if_neg (by rw [I_le (by omega) (by omega) (by omega) (by omega)]; omega)]
    simp (disch := omega) only [l_0, l_1, l_2, l_3, l_4, l_5, l_6, l_7, l_9, l_10, l_20, l_24, l_25, l_31, l_40, l_45, l_48, l_57, l_99, l_123, l_124, l_127, l_2000, l_far, l_999999, I_neg, I_lt, I_nat, tn_n, gdG, lt_, hl s hs, I_add, es]
    by_cases b : bg m C tp s c
    · right
      obtain ⟨e1, e2⟩ := low_hit hs h0 b
      rw [if_neg (fun q => cv.1.mp q b), if_neg e2, e1]
    · left
      rw [if_pos (cv.1.mpr b)]
      exact ⟨_, rfl, rfl, by rw [clk_s, if_neg (fun q => b (cb_t.mp q)), List.append_nil]; exact h0⟩
  · intro K z ⟨ez, h0⟩
    subst ez
    have h0' : (cl m C tp c).length = 0 := h0
    unfold p_TR_lowestString_L2
    rw [h.2.2.1.1, if_pos (Int32.le_refl _), if_pos h0', l_1, I_neg]
/-- the first place among the events -/
def isM (m C : Nat) (tp : Nat → Nat) (Q : Nat → Prop) (k : Nat) (r : Int) : Prop := (r = -1 ∧ ∀ c, c < k → ¬ Q c) ∨ ∃ c, c < k ∧ Q c ∧ r = pl m C (low m C tp c) c ∧ ∀ c', c' < k → Q c' → pl m C (low m C tp c) c ≤ pl m C (low m C tp c') c'
theorem isM_n {Q : Nat → Prop} {k : Nat} {r : Int} (h : isM m C tp Q k r) (hq : ¬ Q k) : isM m C tp Q (k + 1) r := by
  have up : ∀ c', c' < k + 1 → Q c' → c' < k := fun c' a b => by
    by_cases w : c' = k
    · rw [w] at b; exact absurd b hq
    · omega
  rcases h with ⟨a, b⟩ | ⟨c, a, b, d, e⟩
  · exact Or.inl ⟨a, fun c' x y => b c' (up c' x y) y⟩
  · exact Or.inr ⟨c, by omega, b, d, fun c' x y => e c' (up c' x y) y⟩
theorem b4_ne {c : Nat} (h : b4 m cp C op tp c) : (cl m C tp c).length ≠ 0 := by
  rcases h with h | ⟨s, t, a, b, d, _⟩
  · omega
  · intro q
    have : s ∈ cl m C tp c := clk_in (m := m) (C := C) (tp := tp) (c := c) a d
    rw [List.eq_nil_of_length_eq_zero q] at this
    cases this
theorem wrongEvent_v (h : Rc m nk cp C n op tp g f) : ∃ r f', p_TR_wrongEvent g f = some (I r, g, f') ∧ (∀ j, j ≠ 21 → f' j = f j) ∧ isM m C tp (b4 m cp C op tp) (C + 2) r := by
  have rb := h.2.2.2.2.1
  obtain ⟨r0, r1, r2, r3⟩ := h.2.2.1
  unfold p_TR_wrongEvent
  rw [show (-1 : Int32) = I (-1) from rfl, show (1 : Int32) = I ((0 + 1 : Nat) : Int) from rfl]
  refine itr_R (fun c z => ∃ (r : Int) (f' : sF), z = (I r, I ((c + 1 : Nat) : Int), g, f') ∧ (∀ j, j ≠ 21 → f' j = f j) ∧ isM m C tp (b4 m cp C op tp) c r) (C + 2) (fun o => ∃ (r : Int) (f' : sF), o = some (I r, g, f') ∧ (∀ j, j ≠ 21 → f' j = f j) ∧ isM m C tp (b4 m cp C op tp) (C + 2) r) ⟨-1, f, rfl, fun _ _ => rfl, Or.inl ⟨rfl, fun c q => by omega⟩⟩ (by omega) ?_ ?_
  · intro K c z hc ⟨r, f', ez, hf, hM⟩
    subst ez
    left
    have ec : ((c + 1 : Nat) : Int) + 1 = ((c + 1 + 1 : Nat) : Int) := by omega
    have h' : Rc m nk cp C n op tp g f' := h.fr (fun _ _ => rfl) ⟨hf 19 (by omega), hf 1 (by omega)⟩
    obtain ⟨f2, l1, l2, l3⟩ := load_v h' hc
    have hf2 : ∀ j, j ≠ 21 → f2 j = f j := fun j hj => by rw [l3 j hj, hf j hj]
    have h2 : Rc m nk cp C n op tp g f2 := h.fr (fun _ _ => rfl) ⟨hf2 19 (by omega), hf2 1 (by omega)⟩
    have clb : (cl m C tp c).length ≤ 7 := by
      have : ∀ s, (clk m C tp c s).length ≤ s := fun s => by
        induction s with
        | zero => exact Nat.le_refl 0
        | succ s ih =>
          rw [clk_s, List.length_append]
          split
          · rw [List.length_singleton]; omega
          · show _ + 0 ≤ _; omega
      have := this m
      have e : cl m C tp c = clk m C tp c m := rfl
      rw [e]
      omega
    have hit : b4 m cp C op tp c → ∃ s', p_TR_wrongEvent_J32 K (I r) (I ((c + 1 : Nat) : Int)) g f2 = K s' ∧ ∃ (r : Int) (f' : sF), s' = (I r, I ((c + 1 + 1 : Nat) : Int), g, f') ∧ (∀ j, j ≠ 21 → f' j = f j) ∧ isM m C tp (b4 m cp C op tp) (c + 1) r := fun hb => by
      have hne := b4_ne hb
      obtain ⟨lo1, lo2⟩ := cl_low hne
      have plb := h2.pb lo1 (show c < C + 2 by omega)
      unfold p_TR_wrongEvent_J32
      rw [lowest_v h2 l2, if_neg hne, Option.bind_some, placeC r0 r3 lo1, Option.bind_some, pl_e, l_1, I_add, ec, show -I 1 = I (-1) from rfl]
      simp only [lt_]
      rcases hM with ⟨a, b⟩ | ⟨c0, a, b, d, e⟩
      · rw [a, if_pos rfl]
        refine ⟨_, rfl, _, f2, rfl, hf2, Or.inr ⟨c, by omega, hb, rfl, fun c' x y => ?_⟩⟩
        by_cases w : c' = c
        · rw [w]; exact Nat.le_refl _
        · exact absurd y (b c' (by omega))
      · have lo0 := cl_low (b4_ne b)
        have plb0 := h2.pb lo0.1 (show c0 < C + 2 by omega)
        rw [d, if_neg (by rw [I_eq (by omega) (by omega) (by omega) (by omega)]; omega)]
        by_cases w : pl m C (low m C tp c0) c0 ≤ pl m C (low m C tp c) c
        · rw [if_pos (by rw [I_le (by omega) (by omega) (by omega) (by omega)]; omega)]
          refine ⟨_, rfl, _, f2, rfl, hf2, Or.inr ⟨c0, by omega, b, rfl, fun c' x y => ?_⟩⟩
          by_cases w2 : c' = c
          · rw [w2]; exact w
          · exact e c' (by omega) y
        · rw [if_neg (by rw [I_le (by omega) (by omega) (by omega) (by omega)]; omega)]
          refine ⟨_, rfl, _, f2, rfl, hf2, Or.inr ⟨c, by omega, hb, rfl, fun c' x y => ?_⟩⟩
          by_cases w2 : c' = c
          · rw [w2]; exact Nat.le_refl _
          · have := e c' (by omega) y; omega
    dsimp only
    unfold p_TR_wrongEvent_L4
    rw [r3, if_neg (by rw [I_le (by omega) (by omega) (by omega) (by omega)]; omega), l1, Option.bind_some]
    dsimp only
    rw [count_v h2 l2, Option.bind_some, twice_v h2 l2, Option.bind_some]
    by_cases q4 : 4 < (cl m C tp c).length
    · rw [if_pos (by rw [l_4, I_lt (by omega) (by omega) (by omega) (by omega)]; omega)]
      exact hit (Or.inl q4)
    · rw [if_neg (by rw [l_4, I_lt (by omega) (by omega) (by omega) (by omega)]; omega)]
      by_cases qt : tw m cp C op tp c
      · rw [bI_t qt, if_neg n10]
        exact hit (Or.inr qt)
      · rw [bI_f qt, if_pos z00, l_1, I_add, ec]
        exact ⟨_, rfl, r, f2, rfl, hf2, isM_n hM (fun q => q.elim q4 qt)⟩
  · intro K z ⟨r, f', ez, hf, hM⟩
    subst ez
    dsimp only
    unfold p_TR_wrongEvent_L4
    rw [r3, if_pos (show I ((C + 3 : Nat) : Int) ≤ I ((C + 2 + 1 : Nat) : Int) from Int32.le_refl _)]
    exact ⟨r, f', rfl, hf, hM⟩
def isS (m C : Nat) (tp : Nat → Nat) (r : Int) : Prop := (r = -1 ∧ (evk m C tp (C + 2)).length ≤ 40) ∨ ∃ c, c < C ∧ (cl m C tp c).length ≠ 0 ∧ (evk m C tp c).length = 40 ∧ r = pl m C (low m C tp c) c
theorem surplus_v (h : Rc m nk cp C n op tp g f) : ∃ r f', p_TR_surplusEvent g f = some (I r, g, f') ∧ (∀ j, j ≠ 21 → f' j = f j) ∧ isS m C tp r := by
  have rb := h.2.2.2.2.1
  obtain ⟨r0, r1, r2, r3⟩ := h.2.2.1
  unfold p_TR_surplusEvent
  rw [show (1 : Int32) = I ((0 + 1 : Nat) : Int) from rfl, l_0]
  refine itr_R (fun c z => ∃ f' : sF, z = (I (evk m C tp c).length, I ((c + 1 : Nat) : Int), g, f') ∧ (∀ j, j ≠ 21 → f' j = f j) ∧ (evk m C tp c).length ≤ 40) (C + 2) (fun o => ∃ (r : Int) (f' : sF), o = some (I r, g, f') ∧ (∀ j, j ≠ 21 → f' j = f j) ∧ isS m C tp r) ⟨f, rfl, fun _ _ => rfl, by show 0 ≤ 40; omega⟩ (by omega) ?_ ?_
  · intro K c z hc ⟨f', ez, hf, hle⟩
    subst ez
    have ec : ((c + 1 : Nat) : Int) + 1 = ((c + 1 + 1 : Nat) : Int) := by omega
    have h' : Rc m nk cp C n op tp g f' := h.fr (fun _ _ => rfl) ⟨hf 19 (by omega), hf 1 (by omega)⟩
    obtain ⟨f2, l1, l2, l3⟩ := load_v h' hc
    have hf2 : ∀ j, j ≠ 21 → f2 j = f j := fun j hj => by rw [l3 j hj, hf j hj]
    have h2 : Rc m nk cp C n op tp g f2 := h.fr (fun _ _ => rfl) ⟨hf2 19 (by omega), hf2 1 (by omega)⟩
    dsimp only
    unfold p_TR_surplusEvent_L4
    rw [r3, if_neg (by rw [I_le (by omega) (by omega) (by omega) (by omega)]; omega), l1, Option.bind_some]
    dsimp only
    rw [lowest_v h2 l2, Option.bind_some]
    unfold p_TR_surplusEvent_J28
    by_cases z : (cl m C tp c).length = 0
    · left
      have e1 : evk m C tp (c + 1) = evk m C tp c := by rw [evk_s, if_pos z, List.append_nil]
      rw [if_pos z, if_pos (show I (-1) = (-1 : Int32) from rfl), if_pos (by rw [l_40, I_le (by omega) (by omega) (by omega) (by omega)]; omega), l_1, I_add, ec, e1]
      exact ⟨_, rfl, f2, rfl, hf2, hle⟩
    · obtain ⟨lo1, lo2⟩ := cl_low z
      have e1 : (evk m C tp (c + 1)).length = (evk m C tp c).length + 1 := by rw [evk_s, if_neg z, List.length_append, List.length_singleton]
      rw [if_neg z, if_neg (by rw [show (-1 : Int32) = I (-1) from rfl, I_eq (by omega) (by omega) (by omega) (by omega)]; omega), l_1, I_add, lt_]
      by_cases w : (evk m C tp c).length < 40
      · left
        rw [if_pos (by rw [l_40, I_le (by omega) (by omega) (by omega) (by omega)]; omega), I_add, ec]
        refine ⟨_, rfl, f2, ?_, hf2, by omega⟩
        rw [e1]
        rfl
      · right
        rw [if_neg (by rw [l_40, I_le (by omega) (by omega) (by omega) (by omega)]; omega), lowest_v h2 l2, if_neg z, Option.bind_some, placeC r0 r3 lo1, Option.bind_some, pl_e]
        exact ⟨_, f2, rfl, hf2, Or.inr ⟨c, cl_lt z, z, by omega, rfl⟩⟩
  · intro K z ⟨f', ez, hf, hle⟩
    subst ez
    dsimp only
    unfold p_TR_surplusEvent_L4
    rw [r3, if_pos (show I ((C + 3 : Nat) : Int) ≤ I ((C + 2 + 1 : Nat) : Int) from Int32.le_refl _)]
    exact ⟨-1, f', rfl, hf, Or.inl ⟨rfl, hle⟩⟩
end EV2
