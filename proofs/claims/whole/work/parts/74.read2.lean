section RD2
variable {m nk cp ev n C : Nat} {op wt sz pt tp : Nat → Nat} {bd : Nat → Int} {g : sG} {f : sF}
theorem copy_v {E : Nat} (hE : E ≤ 40) (col : Nat → Nat) (h3 : g 3 = I E) (hT : ∀ e, e < E → EVc m cp C op tp 17 18 19 e (col e) f) (h4 : ∀ e, e < E → (cl m C tp (col e)).length ≤ 4) :
    ∃ f', itr (fun K z => p_M_read_L95 K z.1 z.2.1 z.2.2) FUEL (I 0, g, f) = some (I E, upd g 4 (I 0), f') ∧ (∀ e, e < E → EVc m cp C op tp 2 3 4 e (col e) f') ∧ (∀ j, j < 2 ∨ 4 < j → f' j = f j) := by
  refine itr_R (fun e z => ∃ f' : sF, z = (I e, g, f') ∧ (∀ e', e' < e → EVc m cp C op tp 2 3 4 e' (col e') f') ∧ (∀ j, j < 2 ∨ 4 < j → f' j = f j)) E
    (fun o => ∃ f' : sF, o = some (I E, upd g 4 (I 0), f') ∧ (∀ e, e < E → EVc m cp C op tp 2 3 4 e (col e) f') ∧ (∀ j, j < 2 ∨ 4 < j → f' j = f j)) ⟨f, rfl, fun e' q => by omega, fun _ _ => rfl⟩ (by omega) ?_ ?_
  · intro K0 e z he ⟨f', ez, k1, k2⟩
    subst ez
    left
    obtain ⟨t1, t2⟩ := hT e he
    have c4 := h4 e he
    have ee : (e : Int) + 1 = ((e + 1 : Nat) : Int) := by omega
    have f17 : f' 17 e = I (cl m C tp (col e)).length := by rw [k2 17 (by omega)]; exact t1
    have body : p_M_read_L95 K0 (I e) g f' = itr (fun K z => p_M_read_L117 K0 K z.1 z.2.1 z.2.2.1 z.2.2.2) FUEL (I e, I 0, g, up2 f' 2 e (I (cl m C tp (col e)).length)) := by
      unfold p_M_read_L95
      rw [h3, if_neg (by rw [I_le (by omega) (by omega) (by omega) (by omega)]; omega)]
      simp (disch := omega) only [l_0, l_1, l_2, l_3, l_4, l_5, l_6, l_7, l_9, l_10, l_20, l_24, l_25, l_31, l_40, l_45, l_48, l_57, l_99, l_123, l_124, l_127, l_2000, l_far, l_999999, I_lt, I_nat, tn_n, gdG, lt_, f17]
    dsimp only
    rw [body]
    refine itr_R (fun i z => ∃ f2 : sF, z = (I e, I i, g, f2) ∧ f2 2 e = I (cl m C tp (col e)).length ∧ (∀ i', i' < i → f2 3 (4 * e + i') = I (pch m cp C op tp ((cl m C tp (col e)).getD i' 0) (col e)) ∧ f2 4 (4 * e + i') = I ((cl m C tp (col e)).getD i' 0)) ∧ (∀ e', e' < e → EVc m cp C op tp 2 3 4 e' (col e') f2) ∧ (∀ j, j < 2 ∨ 4 < j → f2 j = f j)) (cl m C tp (col e)).length
      (fun o => ∃ s', o = K0 s' ∧ ∃ f' : sF, s' = (I ((e + 1 : Nat) : Int), g, f') ∧ (∀ e', e' < e + 1 → EVc m cp C op tp 2 3 4 e' (col e') f') ∧ (∀ j, j < 2 ∨ 4 < j → f' j = f j)) ⟨_, rfl, by rw [up2_s, upd_s], fun i' q => by omega, fun e' he' => ?_, fun j hj => by rw [up2_n _ _ _ (by omega)]; exact k2 j hj⟩ (by omega) ?_ ?_
    · obtain ⟨a, b⟩ := k1 e' he'
      exact ⟨by rw [up2_s, upd_n _ _ (by omega)]; exact a, fun i hi => by rw [up2_n _ _ _ (by omega), up2_n _ _ _ (by omega)]; exact b i hi⟩
    · intro K i z hi ⟨f2, ez, p1, p2, p3, p4⟩
      subst ez
      left
      obtain ⟨u1, u2⟩ := t2 i hi
      have ei : (i : Int) + 1 = ((i + 1 : Nat) : Int) := by omega
      have q17 : f2 17 e = I (cl m C tp (col e)).length := by rw [p4 17 (by omega)]; exact t1
      have q18 : f2 18 (4 * e + i) = I (pch m cp C op tp ((cl m C tp (col e)).getD i 0) (col e)) := by rw [p4 18 (by omega)]; exact u1
      have q19 : ∀ x, up2 f2 3 (4 * e + i) x 19 (4 * e + i) = I ((cl m C tp (col e)).getD i 0) := fun x => by rw [up2_n _ _ _ (by omega), p4 19 (by omega)]; exact u2
      refine ⟨(I e, I ((i + 1 : Nat) : Int), g, up2 (up2 f2 3 (4 * e + i) (I (pch m cp C op tp ((cl m C tp (col e)).getD i 0) (col e)))) 4 (4 * e + i) (I ((cl m C tp (col e)).getD i 0))), ?_, _, rfl, ?_, fun i' hi' => ?_, fun e' he' => ?_, fun j hj => by rw [up2_n _ _ _ (by omega), up2_n _ _ _ (by omega)]; exact p4 j hj⟩
      · dsimp only
        unfold p_M_read_L117
        simp (disch := omega) only [l_0, l_1, l_2, l_3, l_4, l_5, l_6, l_7, l_9, l_10, l_20, l_24, l_25, l_31, l_40, l_45, l_48, l_57, l_99, l_123, l_124, l_127, l_2000, l_far, l_999999, I_mul, I_add, I_le, I_lt, I_nat, tn_n, tn_4, gdG, lt_, q17, q18, q19, ei]
        rw [if_neg (by omega)]
      · rw [up2_n _ _ _ (by omega), up2_n _ _ _ (by omega)]; exact p1
      · by_cases w : i' = i
        · subst w
          rw [up2_n _ _ _ (by omega), up2_s, upd_s, up2_s, upd_s]
          exact ⟨rfl, rfl⟩
        · rw [up2_n _ _ _ (by omega), up2_s, upd_n _ _ (by omega), up2_s, upd_n _ _ (by omega), up2_n _ _ _ (by omega)]
          exact p2 i' (by omega)
      · obtain ⟨a, b⟩ := p3 e' he'
        have c4' := h4 e' (by omega)
        refine ⟨by rw [up2_n _ _ _ (by omega), up2_n _ _ _ (by omega)]; exact a, fun i'' hi'' => ?_⟩
        rw [up2_n _ _ _ (by omega), up2_s, upd_n _ _ (by omega), up2_s, upd_n _ _ (by omega), up2_n _ _ _ (by omega)]
        exact b i'' hi''
    · intro K z ⟨f2, ez, p1, p2, p3, p4⟩
      subst ez
      have q17 : f2 17 e = I (cl m C tp (col e)).length := by rw [p4 17 (by omega)]; exact t1
      refine ⟨(I ((e + 1 : Nat) : Int), g, f2), ?_, f2, rfl, fun e' he' => ?_, p4⟩
      · dsimp only
        unfold p_M_read_L117
        simp (disch := omega) only [l_0, l_1, l_2, l_3, l_4, l_5, l_6, l_7, l_9, l_10, l_20, l_24, l_25, l_31, l_40, l_45, l_48, l_57, l_99, l_123, l_124, l_127, l_2000, l_far, l_999999, I_lt, I_nat, tn_n, gdG, lt_, q17, I_add, ee]
        rw [if_pos (Int32.le_refl _)]
      · by_cases w : e' = e
        · subst w; exact ⟨p1, p2⟩
        · exact p3 e' (by omega)
  · intro K z ⟨f', ez, k1, k2⟩
    subst ez
    refine ⟨f', ?_, k1, k2⟩
    dsimp only
    unfold p_M_read_L95
    rw [h3, if_pos (Int32.le_refl _), l_0, lt_, upd_n _ _ (by omega), h3]
theorem r_read : Stw p_FH_read p_M_read := by
  intro gc fc gm fm hR
  obtain ⟨m, nk, cp, ev, tn, op, wt, sz, pt, tp, st, bd, fd, hB, hC, hM, ⟨T0, T1, T2, T3⟩, hFb, h14⟩ := id hR
  obtain ⟨⟨b0, b1, b2', b3', b4'⟩, bO, bW, bS, bP⟩ := id hB
  by_cases hm0 : m = 0
  · subst hm0
    refine ⟨I (-4), gc, fc, gm, fm, ?_, ?_, hR⟩
    · unfold p_FH_read
      rw [hC.1.1, if_pos (show I ((0 : Nat) : Int) = (0 : Int32) from rfl)]; rfl
    · unfold p_M_read
      rw [hM.1.1, if_pos (show I ((0 : Nat) : Int) = (0 : Int32) from rfl)]; rfl
  · have hm : 1 ≤ m := by omega
    obtain ⟨C, iC, hCn⟩ := isC_ex tn tp
    obtain ⟨i, iI⟩ := isI_ex hm tn tp C
    have hXc : Xc tn tp gc fc := ⟨T0, T1, fun j hj => ⟨(T3 j hj).1, (T3 j hj).2.2⟩⟩
    have hXm : Xm tn tp gm fm := ⟨T0, T2, fun j hj => ⟨(T3 j hj).2.1, (T3 j hj).2.2⟩⟩
    obtain ⟨k, r, g1, f1, c1, c2, c3, hO, cR, c4, c5⟩ := findFault_v hB hC hm hXc iC hCn iI
    obtain ⟨g2, f2, m1, m2, m3, m4, m5, m6⟩ := mfault_v hB hM hm hXm iC hCn iI hO
    have g0c : ¬ gc 0 = 0 := by rw [hC.1.1, l_0, I_eq (by omega) (by omega) (by omega) (by omega)]; omega
    by_cases k0 : k = 0
    · subst k0
      -- no fault
      have hR1 := cR rfl
      have hall : r = -1 ∧ isL m C (b2 m nk cp C tp) (-1) ∧ isM m C tp (b4 m cp C op tp) (C + 2) (-1) ∧ isS m C tp (-1) := by
        rcases hO with ⟨x, _⟩ | ⟨_, x, _⟩ | ⟨_, _, x, _⟩ | ⟨_, _, _, x, _⟩ | ⟨_, _, _, _, x, _⟩ | ⟨_, h2, _, h4, _, x, h5⟩
        · omega
        · omega
        · omega
        · omega
        · omega
        · exact ⟨x, h2, h4, h5⟩
      obtain ⟨hr, hn2, hn4, hn5⟩ := hall
      have cl4 : ∀ c, c < C + 2 → (cl m C tp c).length ≤ 4 := fun c hc => by
        have := isM_n1 hn4 c hc
        unfold b4 at this
        omega
      have ev40 : (evk m C tp (C + 2)).length ≤ 40 := by
        rcases hn5 with ⟨_, x⟩ | ⟨c, _, _, _, x⟩
        · exact x
        · omega
      have ok : ∀ s c, s < m → bg m C tp s c → okn m nk cp C tp s c := fun s c hs hb => Classical.byContradiction (fun q => isL_n hn2 s c hs hb.1.1 ⟨hb, q⟩)
      obtain ⟨g3, f3, t1, t2, t3, t4, t5⟩ := takeEvents_v hR1 cl4 ev40
      have eC : evk m C tp (C + 2) = evk m C tp C := evk_C 2
      rw [eC] at t2 ev40
      unfold TE at t3
      rw [eC] at t3
      obtain ⟨n12, nT⟩ := m4 rfl
      have emin : min (evk m C tp C).length 40 = (evk m C tp C).length := by omega
      rw [emin] at n12
      have colm : ∀ e, e < (evk m C tp C).length → (evk m C tp C).getD e 0 < C ∧ (cl m C tp ((evk m C tp C).getD e 0)).length ≠ 0 := fun e he => evk_mem (getD_mem he)
      have g211 : upd (upd (upd g2 6 (-1)) 5 (I 0)) 3 (I (evk m C tp C).length) 3 = I (evk m C tp C).length := upd_s _ _ _
      obtain ⟨f4, w1, w2, w3⟩ := copy_v (g := upd (upd (upd g2 6 (-1)) 5 (I 0)) 3 (I (evk m C tp C).length)) (f := f2) ev40 (fun e => (evk m C tp C).getD e 0) g211 (fun e he => nT e he (by omega) (cl4 _ (by have := (colm e he).1; omega))) (fun e he => cl4 _ (by have := (colm e he).1; omega))
      refine ⟨I (evk m C tp C).length, upd (upd g3 4 (I 0)) 12 (I 0), f3, upd (upd (upd (upd g2 6 (-1)) 5 (I 0)) 3 (I (evk m C tp C).length)) 4 (I 0), f4, ?_, ?_, ?_⟩
      · unfold p_FH_read p_FH_read_J39 p_Pl_forget
        rw [if_neg g0c, c1, Option.bind_some]
        dsimp only
        rw [if_pos (show I ((0 : Nat) : Int) = (0 : Int32) from rfl), t1, Option.bind_some, l_0]
        simp only [lt_, Option.bind_some]
        rw [if_pos (show I ((0 : Nat) : Int) = I 0 from rfl), upd_n _ _ (by omega), upd_n _ _ (by omega), t2]
      · rw [m1]
        unfold p_M_read_J46 p_M_read_J62
        rw [m2, if_pos (show I ((0 : Nat) : Int) = (0 : Int32) from rfl), l_0, lt_, lt_, upd_n _ _ (by omega), upd_n _ _ (by omega), m2, if_pos (show I ((0 : Nat) : Int) ≤ I 0 from Int32.le_refl _), lt_, upd_n _ _ (by omega), upd_n _ _ (by omega), n12]
        exact w1
      · have gcx : ∀ x, x ≤ 2 ∨ x = 14 → upd (upd g3 4 (I 0)) 12 (I 0) x = g1 x := fun x hx => by rw [upd_n _ _ (by omega), upd_n _ _ (by omega)]; exact t4 x (by omega)
        have gmx : ∀ x, x ≤ 2 → upd (upd (upd (upd g2 6 (-1)) 5 (I 0)) 3 (I (evk m C tp C).length)) 4 (I 0) x = gm x := fun x hx => by rw [upd_n _ _ (by omega), upd_n _ _ (by omega), upd_n _ _ (by omega), upd_n _ _ (by omega)]; exact m5 x (by omega)
        have de : ∀ e i : Nat, i < 4 → (4 * e + i) / 4 = e ∧ (4 * e + i) % 4 = i := fun e i hi => ⟨by omega, by omega⟩
        refine Rel_mk (m := m) (nk := nk) (cp := cp) (ev := (evk m C tp C).length) (tn := 0) (op := op) (wt := wt) (sz := fun e => (cl m C tp ((evk m C tp C).getD e 0)).length) (pt := fun k => pch m cp C op tp ((cl m C tp ((evk m C tp C).getD (k / 4) 0)).getD (k % 4) 0) ((evk m C tp C).getD (k / 4) 0)) (tp := tp) (bd := fun k => (((cl m C tp ((evk m C tp C).getD (k / 4) 0)).getD (k % 4) 0 : Nat) : Int)) ?_ ?_ ?_ ?_ ?_ ?_ ?_
        · refine ⟨⟨b0, b1, b2', b3', ev40⟩, bO, bW, fun e he => ?_, fun e he i hi => ?_⟩
          · have c := colm e he
            have := cl4 ((evk m C tp C).getD e 0) (by omega)
            dsimp only
            omega
          · have c := colm e he
            have c4' := cl4 ((evk m C tp C).getD e 0) (by omega)
            dsimp only at hi ⊢
            obtain ⟨d1, d2⟩ := de e i (by omega)
            rw [d1, d2]
            have sm := clk_mem (m := m) (C := C) (tp := tp) (s := m) (getD_mem (l := cl m C tp ((evk m C tp C).getD e 0)) hi)
            have o := (ok _ _ sm.1 sm.2).1
            have oo := bO _ sm.1
            unfold pch
            omega
        · refine ⟨⟨by rw [gcx 0 (by omega), c4 0 (by omega) (by omega)]; exact hC.1.1, by rw [gcx 1 (by omega), c4 1 (by omega) (by omega)]; exact hC.1.2.1, by rw [gcx 2 (by omega), c4 2 (by omega) (by omega)]; exact hC.1.2.2.1, by rw [upd_n _ _ (by omega), upd_n _ _ (by omega)]; exact t2⟩, fun s hs => by rw [t5 1 (by omega), c5 1 (by omega)]; exact hC.2.1 s hs, fun s hs => by rw [t5 0 (by omega), c5 0 (by omega)]; exact hC.2.2.1 s hs, fun e he => (t3 e he).1, fun e he i hi => ?_⟩
          have c := colm e he
          have c4' := cl4 ((evk m C tp C).getD e 0) (by omega)
          dsimp only at hi ⊢
          obtain ⟨d1, d2⟩ := de e i (by omega)
          rw [d1, d2]
          exact (t3 e he).2 i hi
        · refine ⟨⟨by rw [gmx 0 (by omega)]; exact hM.1.1, by rw [gmx 1 (by omega)]; exact hM.1.2.1, by rw [gmx 2 (by omega)]; exact hM.1.2.2.1, by rw [upd_n _ _ (by omega)]; exact g211⟩, fun s hs => by rw [w3 0 (by omega), m6 0 (by omega)]; exact hM.2.1 s hs, fun s hs => by rw [w3 1 (by omega), m6 1 (by omega)]; exact hM.2.2.1 s hs, fun e he => (w2 e he).1, fun e he i hi => ?_⟩
          have c := colm e he
          have c4' := cl4 ((evk m C tp C).getD e 0) (by omega)
          dsimp only at hi ⊢
          obtain ⟨d1, d2⟩ := de e i (by omega)
          rw [d1, d2]
          exact (w2 e he).2 i hi
        · exact ⟨by omega, upd_s _ _ _, by rw [upd_n _ _ (by omega), upd_n _ _ (by omega), upd_s]; rfl, fun j hj => by omega⟩
        · rw [upd_n _ _ (by omega), upd_s]
        · exact upd_s _ _ _
        · rw [gcx 14 (by omega), c3, hr, upd_n _ _ (by omega), upd_n _ _ (by omega), upd_n _ _ (by omega), upd_s]; rfl
    · -- a fault
      have nk0 : ¬ I (k : Int) = 0 := by rw [l_0, I_eq (by omega) (by omega) (by omega) (by omega)]; omega
      have nk1 : ¬ I (k : Int) ≤ 0 := by rw [l_0, I_le (by omega) (by omega) (by omega) (by omega)]; omega
      refine ⟨(-10 : Int32) - I k, upd g1 12 0, f1, upd (upd g2 6 (I r)) 5 0, f2, ?_, ?_, ?_⟩
      · unfold p_FH_read p_FH_read_J39
        rw [if_neg g0c, c1, Option.bind_some]
        dsimp only
        rw [if_neg nk0, lt_, if_neg nk0]
      · rw [m1]
        unfold p_M_read_J46 p_M_read_J62
        rw [m2, if_neg nk0, lt_, lt_, upd_n _ _ (by omega), upd_n _ _ (by omega), m2, if_neg nk1, m3 k0]
      · have gmx : ∀ x, x ≤ 4 → upd (upd g2 6 (I r)) 5 0 x = gm x := fun x hx => by rw [upd_n _ _ (by omega), upd_n _ _ (by omega)]; exact m5 x (by omega)
        refine ⟨m, nk, cp, ev, 0, op, wt, sz, pt, tp, st, bd, fd, hB, hC.fr (fun x hx => by rw [upd_n _ _ (by omega), c4 x (by omega) (by omega)]) (fun j hj => c5 j (by omega)), hM.fr (fun x hx => gmx x (by omega)) (fun j hj => m6 j (by omega)), ⟨by omega, by rw [upd_s]; rfl, by rw [upd_s]; rfl, fun j hj => by omega⟩, Fb_any hFb (by rw [upd_n _ _ (by omega), c4 4 (by omega) (by omega)]) (gmx 4 (by omega)) (fun j hj => ⟨c5 j (by omega), m6 j (by omega)⟩), ?_⟩
        rw [upd_n _ _ (by omega), c3, upd_n _ _ (by omega), upd_s]
end RD2
