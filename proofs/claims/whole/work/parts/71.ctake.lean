section TKE
variable {m nk cp n C : Nat} {op tp : Nat → Nat} {g : sG} {f : sF}
/-- event e is what begins in column c -/
def EVc (m cp C : Nat) (op tp : Nat → Nat) (j2 j3 j4 e c : Nat) (f : sF) : Prop := f j2 e = I (cl m C tp c).length ∧ ∀ i, i < (cl m C tp c).length → f j3 (4 * e + i) = I (pch m cp C op tp ((cl m C tp c).getD i 0) c) ∧ f j4 (4 * e + i) = I ((cl m C tp c).getD i 0)
def TE (m cp C : Nat) (op tp : Nat → Nat) (j2 j3 j4 k : Nat) (f : sF) : Prop := ∀ e, e < (evk m C tp k).length → EVc m cp C op tp j2 j3 j4 e ((evk m C tp k).getD e 0) f
theorem clk_le {c s : Nat} (h : s ≤ m) : (clk m C tp c s).length ≤ (cl m C tp c).length := by
  obtain ⟨r, hr⟩ := cl_pre (C := C) (tp := tp) (c := c) h
  rw [hr, List.length_append]
  omega
theorem takePitches_v (h : Rc m nk cp C n op tp g f) {c e : Nat} (hl : LC m cp C op tp c f) (h3 : g 3 = I ((e : Int) + 1)) (he : e < 40) (h4 : (cl m C tp c).length ≤ 4) (h0 : f 2 e = I 0) :
    ∃ f', p_TR_takePitches g f = some (g, f') ∧ EVc m cp C op tp 2 3 4 e c f' ∧ (∀ j, j < 2 ∨ 4 < j → f' j = f j) ∧ (∀ e', e' < e → f' 2 e' = f 2 e' ∧ ∀ i, i < 4 → f' 3 (4 * e' + i) = f 3 (4 * e' + i) ∧ f' 4 (4 * e' + i) = f 4 (4 * e' + i)) := by
  have rb := h.2.2.2.2.1
  unfold p_TR_takePitches
  rw [l_0]
  refine itr_R (fun s z => ∃ f' : sF, z = (I s, g, f') ∧ f' 2 e = I (clk m C tp c s).length ∧ (∀ i, i < (clk m C tp c s).length → f' 3 (4 * e + i) = I (pch m cp C op tp ((clk m C tp c s).getD i 0) c) ∧ f' 4 (4 * e + i) = I ((clk m C tp c s).getD i 0)) ∧ (∀ j, j < 2 ∨ 4 < j → f' j = f j) ∧ (∀ e', e' < e → f' 2 e' = f 2 e' ∧ ∀ i, i < 4 → f' 3 (4 * e' + i) = f 3 (4 * e' + i) ∧ f' 4 (4 * e' + i) = f 4 (4 * e' + i))) m
    (fun o => ∃ f' : sF, o = some (g, f') ∧ EVc m cp C op tp 2 3 4 e c f' ∧ (∀ j, j < 2 ∨ 4 < j → f' j = f j) ∧ (∀ e', e' < e → f' 2 e' = f 2 e' ∧ ∀ i, i < 4 → f' 3 (4 * e' + i) = f 3 (4 * e' + i) ∧ f' 4 (4 * e' + i) = f 4 (4 * e' + i))) ⟨f, rfl, h0, fun i q => absurd q (Nat.not_lt_zero i), fun _ _ => rfl, fun _ _ => ⟨rfl, fun _ _ => ⟨rfl, rfl⟩⟩⟩ (by omega) ?_ ?_
  · intro K s z hs ⟨f', ez, p1, p2, p3, p4⟩
    subst ez
    left
    have es : (s : Int) + 1 = ((s + 1 : Nat) : Int) := by omega
    have cv := colv_1 (c := c) h hs
    have hls : f' 21 s = I (colv m cp C op tp s c) := by rw [p3 21 (by omega)]; exact hl s hs
    dsimp only
    unfold p_TR_takePitches_L2
    rw [h.2.2.1.1, if_neg (by rw [I_le (by omega) (by omega) (by omega) (by omega)]; omega)]
    simp (disch := omega) only [l_0, l_1, l_2, l_3, l_4, l_5, l_6, l_7, l_9, l_10, l_20, l_24, l_25, l_31, l_40, l_45, l_48, l_57, l_99, l_123, l_124, l_127, l_2000, l_far, l_999999, I_neg, I_lt, I_nat, tn_n, gdG, lt_, hls, I_add, es]
    by_cases b : bg m C tp s c
    · have ecs : colv m cp C op tp s c = pch m cp C op tp s c := by unfold colv; rw [if_pos (cb_t.mpr b)]
      have csn : clk m C tp c (s + 1) = clk m C tp c s ++ [s] := by rw [clk_s, if_pos (cb_t.mpr b)]
      have cle := clk_le (C := C) (tp := tp) (c := c) (s := s + 1) (m := m) hs
      rw [csn, List.length_append, List.length_singleton] at cle
      rw [if_neg (fun q => cv.1.mp q b), addPitch_v h3 he p1 (by omega), Option.bind_some, ecs, csn]
      dsimp only
      refine ⟨_, rfl, _, rfl, ?_, fun i hi => ?_, fun j hj => ?_, fun e' he' => ⟨?_, fun i hi => ⟨?_, ?_⟩⟩⟩
      · rw [up2_s, upd_s, List.length_append, List.length_singleton]; rfl
      · rw [List.length_append, List.length_singleton] at hi
        rw [up2_n _ _ _ (by omega), up2_n _ _ _ (by omega)]
        by_cases w : i = (clk m C tp c s).length
        · subst w
          rw [up2_s, upd_s, up2_n _ _ _ (by omega), up2_s, upd_s, getD_r]
          exact ⟨rfl, rfl⟩
        · rw [up2_s, upd_n _ _ (by omega), up2_n _ _ _ (by omega), up2_s, upd_n _ _ (by omega), up2_n _ _ _ (by omega), getD_l (by omega)]
          exact p2 i (by omega)
      · rw [up2_n _ _ _ (by omega), up2_n _ _ _ (by omega), up2_n _ _ _ (by omega)]; exact p3 j hj
      · rw [up2_s, upd_n _ _ (by omega), up2_n _ _ _ (by omega), up2_n _ _ _ (by omega)]; exact (p4 e' he').1
      · rw [up2_n _ _ _ (by omega), up2_n _ _ _ (by omega), up2_s, upd_n _ _ (by omega)]; exact ((p4 e' he').2 i hi).1
      · rw [up2_n _ _ _ (by omega), up2_s, upd_n _ _ (by omega), up2_n _ _ _ (by omega)]; exact ((p4 e' he').2 i hi).2
    · have csn : clk m C tp c (s + 1) = clk m C tp c s := by rw [clk_s, if_neg (fun q => b (cb_t.mp q)), List.append_nil]
      rw [if_pos (cv.1.mpr b), csn]
      exact ⟨_, rfl, f', rfl, p1, p2, p3, p4⟩
  · intro K z ⟨f', ez, p1, p2, p3, p4⟩
    subst ez
    dsimp only
    unfold p_TR_takePitches_L2
    rw [h.2.2.1.1, if_pos (Int32.le_refl _)]
    exact ⟨f', rfl, ⟨p1, p2⟩, p3, p4⟩
theorem takeEvents_v (h : Rc m nk cp C n op tp g f) (h4 : ∀ c, c < C + 2 → (cl m C tp c).length ≤ 4) (h5 : (evk m C tp (C + 2)).length ≤ 40) :
    ∃ g' f', p_TR_takeEvents g f = some (g', f') ∧ g' 3 = I (evk m C tp (C + 2)).length ∧ TE m cp C op tp 2 3 4 (C + 2) f' ∧ (∀ x, x ≠ 3 → g' x = g x) ∧ (∀ j, j < 2 ∨ (4 < j ∧ j ≠ 21) → f' j = f j) := by
  have rb := h.2.2.2.2.1
  obtain ⟨r0, r1, r2, r3⟩ := h.2.2.1
  unfold p_TR_takeEvents
  rw [l_0, lt_, show (1 : Int32) = I ((0 + 1 : Nat) : Int) from rfl]
  refine itr_R (fun c z => ∃ (g' : sG) (f' : sF), z = (I ((c + 1 : Nat) : Int), g', f') ∧ g' 3 = I (evk m C tp c).length ∧ TE m cp C op tp 2 3 4 c f' ∧ (∀ x, x ≠ 3 → g' x = g x) ∧ (∀ j, j < 2 ∨ (4 < j ∧ j ≠ 21) → f' j = f j)) (C + 2)
    (fun o => ∃ (g' : sG) (f' : sF), o = some (g', f') ∧ g' 3 = I (evk m C tp (C + 2)).length ∧ TE m cp C op tp 2 3 4 (C + 2) f' ∧ (∀ x, x ≠ 3 → g' x = g x) ∧ (∀ j, j < 2 ∨ (4 < j ∧ j ≠ 21) → f' j = f j)) ⟨_, f, rfl, upd_s _ _ _, fun e q => absurd q (Nat.not_lt_zero e), fun x hx => upd_n _ _ hx, fun _ _ => rfl⟩ (by omega) ?_ ?_
  · intro K c z hc ⟨g', f', ez, e3, hT, hg, hf⟩
    subst ez
    left
    have ec : ((c + 1 : Nat) : Int) + 1 = ((c + 1 + 1 : Nat) : Int) := by omega
    have h' : Rc m nk cp C n op tp g' f' := h.fr (fun x hx => hg x (by omega)) ⟨hf 19 (by omega), hf 1 (by omega)⟩
    obtain ⟨f2, l1, l2, l3⟩ := load_v h' hc
    have h2 : Rc m nk cp C n op tp g' f2 := h'.fr (fun _ _ => rfl) ⟨l3 19 (by omega), l3 1 (by omega)⟩
    have evl := evk_le (m := m) (C := C) (tp := tp) (k := c + 1) (k' := C + 2) (by omega)
    dsimp only
    unfold p_TR_takeEvents_L10
    rw [h'.2.2.1.2.2.2, if_neg (by rw [I_le (by omega) (by omega) (by omega) (by omega)]; omega), l1, Option.bind_some]
    dsimp only
    rw [lowest_v h2 l2, Option.bind_some]
    by_cases z : (cl m C tp c).length = 0
    · have e1 : evk m C tp (c + 1) = evk m C tp c := by rw [evk_s, if_pos z, List.append_nil]
      rw [if_pos z, if_pos (show I (-1) = (-1 : Int32) from rfl), l_1, I_add, ec]
      refine ⟨_, rfl, g', f2, rfl, by rw [e1]; exact e3, ?_, hg, fun j hj => by rw [l3 j (by omega), hf j hj]⟩
      unfold TE EVc
      rw [e1, l3 2 (by omega), l3 3 (by omega), l3 4 (by omega)]
      exact hT
    · obtain ⟨lo1, lo2⟩ := cl_low z
      have e1 : evk m C tp (c + 1) = evk m C tp c ++ [c] := by rw [evk_s, if_neg z]
      have e1l : (evk m C tp (c + 1)).length = (evk m C tp c).length + 1 := by rw [e1, List.length_append, List.length_singleton]
      rw [if_neg z, if_neg (by rw [show (-1 : Int32) = I (-1) from rfl, I_eq (by omega) (by omega) (by omega) (by omega)]; omega), addEvent_v e3 (by omega), Option.bind_some]
      dsimp only
      rw [if_neg (by decide)]
      generalize hE : (evk m C tp c).length = E at *
      have h3 : Rc m nk cp C n op tp (upd g' 3 (I ((E : Int) + 1))) (up2 f2 2 E (I 0)) := h2.fr (fun x hx => upd_n _ _ (by omega)) ⟨up2_n _ _ _ (by omega), up2_n _ _ _ (by omega)⟩
      have l2' : LC m cp C op tp c (up2 f2 2 E (I 0)) := fun s hs => by rw [up2_n _ _ _ (by omega)]; exact l2 s hs
      obtain ⟨f3, t1, t2, t3, t4⟩ := takePitches_v h3 l2' (e := E) (upd_s _ _ _) (by omega) (h4 c hc) (by rw [up2_s, upd_s])
      rw [t1, Option.bind_some, l_1, I_add, ec]
      dsimp only [lt_]
      refine ⟨_, rfl, _, f3, rfl, by rw [upd_s, e1l]; rfl, fun e he => ?_, fun x hx => by rw [upd_n _ _ hx]; exact hg x hx, fun j hj => by rw [t3 j (by omega), up2_n _ _ _ (by omega), l3 j (by omega), hf j hj]⟩
      rw [e1]
      by_cases w : e = E
      · subst w
        rw [← hE, getD_r, hE]
        exact t2
      · have he' : e < E := by omega
        rw [getD_l (by omega)]
        have old := hT e (by omega)
        obtain ⟨k1, k2⟩ := t4 e he'
        obtain ⟨o1, o2⟩ := old
        have cc := h4 ((evk m C tp c).getD e 0) (by have := (evk_mem (getD_mem (l := evk m C tp c) (i := e) (by omega))).1; omega)
        refine ⟨?_, fun i hi => ?_⟩
        · rw [k1, up2_s, upd_n _ _ (by omega), l3 2 (by omega)]; exact o1
        · obtain ⟨a, b⟩ := k2 i (by omega)
          rw [a, b, up2_n _ _ _ (by omega), up2_n _ _ _ (by omega), l3 3 (by omega), l3 4 (by omega)]
          exact o2 i hi
  · intro K z ⟨g', f', ez, e3, hT, hg, hf⟩
    subst ez
    have h' : Rc m nk cp C n op tp g' f' := h.fr (fun x hx => hg x (by omega)) ⟨hf 19 (by omega), hf 1 (by omega)⟩
    dsimp only
    unfold p_TR_takeEvents_L10
    rw [h'.2.2.1.2.2.2, if_pos (show I ((C + 3 : Nat) : Int) ≤ I ((C + 2 + 1 : Nat) : Int) from Int32.le_refl _)]
    exact ⟨g', f', rfl, e3, hT, hg, hf⟩
end TKE
