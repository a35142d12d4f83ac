section RD
variable {m nk cp ev n C i : Nat} {op wt sz pt tp : Nat → Nat} {bd : Nat → Int} {g : sG} {f : sF}
theorem LM_zero {S : Nat → Nat → Prop} (h : LM S g) (hn : ∀ k p, ¬ S k p) : g 10 = I 0 := by
  rcases h with ⟨a, _⟩ | ⟨k, p, _, _, _, _, _, d, _⟩
  · exact a
  · exact absurd d (hn k p)
theorem LM_hit {S : Nat → Nat → Prop} (h : LM S g) {k p : Nat} (hs : S k p) (hm : ∀ k' p', S k' p' → k < k' ∨ (k = k' ∧ p ≤ p')) : g 10 = I k ∧ g 11 = I p := by
  rcases h with ⟨_, b⟩ | ⟨k0, p0, _, _, _, c4, c5, d, e⟩
  · exact absurd hs (b k p)
  · have x := hm k0 p0 d
    have y := e k p hs
    have e1 : k0 = k := by omega
    have e2 : p0 = p := by omega
    rw [e1] at c4
    rw [e2] at c5
    exact ⟨c4, c5⟩
theorem F1_bd (hm7 : m ≤ 7) (hC : C ≤ 2000) (hi : i ≤ m * (C + 3)) : -1 ≤ F1 m n tp C i ∧ F1 m n tp C i ≤ 100000 := by
  have hW7 : m * (C + 3) ≤ 7 * (C + 3) := Nat.mul_le_mul_right _ hm7
  unfold F1
  split
  · split
    · split
      · split
        · omega
        · split
          · omega
          · omega
      · omega
    · omega
  · omega
/-- which fault counts, and where -/
def OUT (m nk cp C n i : Nat) (op tp : Nat → Nat) (k : Nat) (r : Int) : Prop :=
  (k = 1 ∧ F1 m n tp C i ≠ -1 ∧ r = F1 m n tp C i) ∨
  (F1 m n tp C i = -1 ∧ k = 2 ∧ r ≠ -1 ∧ isL m C (b2 m nk cp C tp) r) ∨
  (F1 m n tp C i = -1 ∧ isL m C (b2 m nk cp C tp) (-1) ∧ k = 3 ∧ r ≠ -1 ∧ isL m C (b3 m C tp) r) ∨
  (F1 m n tp C i = -1 ∧ isL m C (b2 m nk cp C tp) (-1) ∧ isL m C (b3 m C tp) (-1) ∧ k = 4 ∧ r ≠ -1 ∧ isM m C tp (b4 m cp C op tp) (C + 2) r) ∨
  (F1 m n tp C i = -1 ∧ isL m C (b2 m nk cp C tp) (-1) ∧ isL m C (b3 m C tp) (-1) ∧ isM m C tp (b4 m cp C op tp) (C + 2) (-1) ∧ k = 5 ∧ r ≠ -1 ∧ isS m C tp r) ∨
  (F1 m n tp C i = -1 ∧ isL m C (b2 m nk cp C tp) (-1) ∧ isL m C (b3 m C tp) (-1) ∧ isM m C tp (b4 m cp C op tp) (C + 2) (-1) ∧ k = 0 ∧ r = -1 ∧ isS m C tp (-1))
theorem isL_bd (hW : WF m C n tp) (hn : n ≤ 2000) {Q : Nat → Nat → Prop} {r : Int} (h : isL m C Q r) : -1 ≤ r ∧ r ≤ 2000 := by
  rcases h with ⟨a, _⟩ | ⟨s, c, a, b, d, e, _⟩
  · omega
  · have := pl_lt (m := m) (C := C) (s := s) (c := c) a (by omega)
    have := hW.1
    omega
theorem isM_bd (hW : WF m C n tp) (hn : n ≤ 2000) {r : Int} (h : isM m C tp (b4 m cp C op tp) (C + 2) r) : -1 ≤ r ∧ r ≤ 2000 := by
  rcases h with ⟨a, _⟩ | ⟨c, a, b, d, _⟩
  · omega
  · have := pl_lt (m := m) (C := C) (c := c) (cl_low (b4_ne b)).1 (by omega)
    have := hW.1
    omega
theorem isS_bd (hW : WF m C n tp) (hn : n ≤ 2000) {r : Int} (h : isS m C tp r) : -1 ≤ r ∧ r ≤ 2000 := by
  rcases h with ⟨a, _⟩ | ⟨c, a, b, _, d⟩
  · omega
  · have := pl_lt (m := m) (C := C) (c := c) (cl_low b).1 (by omega)
    have := hW.1
    omega
theorem nI1 {r : Int} (h1 : -1 ≤ r) (h2 : r ≤ 100000) : I r = (-1 : Int32) ↔ r = -1 := by
  rw [show (-1 : Int32) = I (-1) from rfl, I_eq (by omega) (by omega) (by omega) (by omega)]
theorem findFault_v (hB : Base m nk cp ev op wt sz pt bd) (hC : Cb m nk cp ev op wt sz pt bd g f) (hm : 1 ≤ m) (hX : Xc n tp g f) (iC : IsC n tp C) (hCn : C ≤ n) (iI : IsI m n tp C i) :
    ∃ (k : Nat) (r : Int) (g' : sG) (f' : sF), p_TR_findFault g f = some (I k, g', f') ∧ k ≤ 5 ∧ g' 14 = I r ∧ OUT m nk cp C n i op tp k r ∧ (k = 0 → Rc m nk cp C n op tp g' f') ∧ (∀ x, x ≠ 13 → x ≠ 14 → g' x = g x) ∧ (∀ j, j ≠ 21 → f' j = f j) := by
  obtain ⟨⟨b0, b1, b2', b3', b4'⟩, bO, bW, bS, bP⟩ := id hB
  have hn := hX.1
  have fb := F1_bd (n := n) (tp := tp) (C := C) (i := i) b0 (by omega) iI.2.1
  obtain ⟨g1, s1, s2, s3⟩ := wrongSign_v hm b0 hC.1.1 hX iC hCn iI
  unfold p_TR_findFault
  rw [s1, Option.bind_some]
  simp only [lt_, upd_s]
  by_cases q1 : F1 m n tp C i = -1
  · rw [if_pos ((nI1 fb.1 fb.2).mpr q1)]
    have hW := F1_wf hm iC iI q1
    have fr1 : ∀ x, x ≠ 13 → x ≠ 14 → upd g1 14 (I (F1 m n tp C i)) x = g x := fun x a b => by rw [upd_n _ _ b, s2 x a]
    have R2 : Rc m nk cp C n op tp (upd g1 14 (I (F1 m n tp C i))) f := ⟨hW, ⟨hn, by rw [fr1 12 (by omega) (by omega)]; exact hX.2.1, hX.2.2⟩, ⟨by rw [fr1 0 (by omega) (by omega)]; exact hC.1.1, by rw [fr1 1 (by omega) (by omega)]; exact hC.1.2.1, by rw [fr1 2 (by omega) (by omega)]; exact hC.1.2.2.1, by rw [upd_n _ _ (by omega)]; exact s3 q1⟩, hC.2.1, ⟨hm, b0, b2', b3', by omega⟩, bO⟩
    generalize upd g1 14 (I (F1 m n tp C i)) = g2 at *
    obtain ⟨r2, w1, w2⟩ := wrongNumber_v R2
    have rb2 := isL_bd hW hn w2
    rw [w1, Option.bind_some]
    by_cases q2 : r2 = -1
    · rw [if_pos ((nI1 (by omega) (by omega)).mpr q2)]
      have R4 : Rc m nk cp C n op tp (upd g2 14 (I r2)) f := R2.fr (fun x hx => upd_n _ _ (by omega)) ⟨rfl, rfl⟩
      have fr4 : ∀ x, x ≠ 13 → x ≠ 14 → upd g2 14 (I r2) x = g x := fun x a b => by rw [upd_n _ _ b, fr1 x a b]
      generalize upd g2 14 (I r2) = g4 at *
      subst q2
      obtain ⟨r3, x1, x2⟩ := shiftedNumber_v R4
      have rb3 := isL_bd hW hn x2
      rw [x1, Option.bind_some]
      by_cases q3 : r3 = -1
      · rw [if_pos ((nI1 (by omega) (by omega)).mpr q3)]
        have R6 : Rc m nk cp C n op tp (upd g4 14 (I r3)) f := R4.fr (fun x hx => upd_n _ _ (by omega)) ⟨rfl, rfl⟩
        have fr6 : ∀ x, x ≠ 13 → x ≠ 14 → upd g4 14 (I r3) x = g x := fun x a b => by rw [upd_n _ _ b, fr4 x a b]
        generalize upd g4 14 (I r3) = g6 at *
        subst q3
        obtain ⟨r4, f4, y1, y2, y3⟩ := wrongEvent_v R6
        have rb4 := isM_bd hW hn y3
        rw [y1, Option.bind_some]
        dsimp only
        by_cases q4 : r4 = -1
        · rw [if_pos ((nI1 (by omega) (by omega)).mpr q4)]
          have R8 : Rc m nk cp C n op tp (upd g6 14 (I r4)) f4 := R6.fr (fun x hx => upd_n _ _ (by omega)) ⟨y2 19 (by omega), y2 1 (by omega)⟩
          have fr8 : ∀ x, x ≠ 13 → x ≠ 14 → upd g6 14 (I r4) x = g x := fun x a b => by rw [upd_n _ _ b, fr6 x a b]
          generalize upd g6 14 (I r4) = g8 at *
          subst q4
          obtain ⟨r5, f5, z1, z2, z3⟩ := surplus_v R8
          have rb5 := isS_bd hW hn z3
          rw [z1, Option.bind_some]
          dsimp only
          have fr9 : ∀ x, x ≠ 13 → x ≠ 14 → upd g8 14 (I r5) x = g x := fun x a b => by rw [upd_n _ _ b, fr8 x a b]
          by_cases q5 : r5 = -1
          · rw [if_pos ((nI1 (by omega) (by omega)).mpr q5)]
            exact ⟨0, r5, _, f5, rfl, by omega, upd_s _ _ _, Or.inr (Or.inr (Or.inr (Or.inr (Or.inr ⟨q1, w2, x2, y3, rfl, q5, by rw [q5] at z3; exact z3⟩)))), fun _ => R8.fr (fun x hx => upd_n _ _ (by omega)) ⟨z2 19 (by omega), z2 1 (by omega)⟩, fr9, fun j hj => by rw [z2 j hj, y2 j hj]⟩
          · rw [if_neg (fun q => q5 ((nI1 (by omega) (by omega)).mp q))]
            exact ⟨5, r5, _, f5, rfl, by omega, upd_s _ _ _, Or.inr (Or.inr (Or.inr (Or.inr (Or.inl ⟨q1, w2, x2, y3, rfl, q5, z3⟩)))), fun q => by omega, fr9, fun j hj => by rw [z2 j hj, y2 j hj]⟩
        · rw [if_neg (fun q => q4 ((nI1 (by omega) (by omega)).mp q))]
          exact ⟨4, r4, _, f4, rfl, by omega, upd_s _ _ _, Or.inr (Or.inr (Or.inr (Or.inl ⟨q1, w2, x2, rfl, q4, y3⟩))), fun q => by omega, fun x a b => by rw [upd_n _ _ b, fr6 x a b], y2⟩
      · rw [if_neg (fun q => q3 ((nI1 (by omega) (by omega)).mp q))]
        exact ⟨3, r3, _, f, rfl, by omega, upd_s _ _ _, Or.inr (Or.inr (Or.inl ⟨q1, w2, rfl, q3, x2⟩)), fun q => by omega, fun x a b => by rw [upd_n _ _ b, fr4 x a b], fun _ _ => rfl⟩
    · rw [if_neg (fun q => q2 ((nI1 (by omega) (by omega)).mp q))]
      exact ⟨2, r2, _, f, rfl, by omega, upd_s _ _ _, Or.inr (Or.inl ⟨q1, rfl, q2, w2⟩), fun q => by omega, fun x a b => by rw [upd_n _ _ b, fr1 x a b], fun _ _ => rfl⟩
  · rw [if_neg (fun q => q1 ((nI1 fb.1 fb.2).mp q))]
    exact ⟨1, _, _, f, rfl, by omega, upd_s _ _ _, Or.inl ⟨rfl, q1, rfl⟩, fun q => by omega, fun x a b => by rw [upd_n _ _ b, s2 x a], fun _ _ => rfl⟩
theorem isL_n {Q : Nat → Nat → Prop} (h : isL m C Q (-1)) : ∀ s c, s < m → c < C → ¬ Q s c := by
  rcases h with ⟨_, a⟩ | ⟨s, c, _, _, _, e, _⟩
  · exact a
  · omega
theorem isM_n1 {Q : Nat → Prop} {k : Nat} (h : isM m C tp Q k (-1)) : ∀ c, c < k → ¬ Q c := by
  rcases h with ⟨_, a⟩ | ⟨c, _, _, e, _⟩
  · exact a
  · omega
theorem mfault_v (hB : Base m nk cp ev op wt sz pt bd) (hM : Mb m nk cp ev op wt sz pt bd g f) (hm : 1 ≤ m) (hX : Xm n tp g f) (iC : IsC n tp C) (hCn : C ≤ n) (iI : IsI m n tp C i) {k : Nat} {r : Int} (hO : OUT m nk cp C n i op tp k r) :
    ∃ (g' : sG) (f' : sF), p_M_read g f = p_M_read_J46 g' f' ∧ g' 10 = I k ∧ (k ≠ 0 → g' 11 = I r) ∧ (k = 0 → g' 12 = I ((min (evk m C tp C).length 40 : Nat) : Int) ∧ TM m cp C op tp C f') ∧ (∀ x, x < 8 → g' x = g x) ∧ (∀ j, j < 17 → f' j = f j) := by
  obtain ⟨⟨b0, b1, b2', b3', b4'⟩, bO, bW, bS, bP⟩ := id hB
  have hn := hX.1
  unfold p_M_read
  rw [hM.1.1, if_neg (by rw [l_0, I_eq (by omega) (by omega) (by omega) (by omega)]; omega)]
  simp only [lt_]
  have fr0 : ∀ x, x ≠ 10 → x ≠ 11 → upd (upd g 10 0) 11 (-1) x = g x := fun x a b => by rw [upd_n _ _ b, upd_n _ _ a]
  have g010 : upd (upd g 10 0) 11 (-1) 10 = I 0 := by rw [upd_n _ _ (by omega), upd_s]; rfl
  generalize upd (upd g 10 0) 11 (-1) = g0 at *
  obtain ⟨g1, s1, s2⟩ := readLines_v hm b0 hn (by rw [fr0 0 (by omega) (by omega)]; exact hM.1.1) (by rw [fr0 5 (by omega) (by omega)]; exact hX.2.1) g010 hX.2.2 iC hCn iI
  rw [s1, Option.bind_some]
  show ∃ (g' : sG) (f' : sF), (if g1 10 = 0 then Option.bind (p_M_lookNumbers g1 f) (fun u4 => p_M_read_J35 u4.1 u4.2) else p_M_read_J35 g1 f) = p_M_read_J46 g' f' ∧ g' 10 = I k ∧ (k ≠ 0 → g' 11 = I r) ∧ (k = 0 → g' 12 = I ((min (evk m C tp C).length 40 : Nat) : Int) ∧ TM m cp C op tp C f') ∧ (∀ x, x < 8 → g' x = g x) ∧ (∀ j, j < 17 → f' j = f j)
  rcases s2 with ⟨hF, a, hs⟩ | ⟨p, a, c, hF, hs⟩
  · -- no fault in the lines
    have hW := F1_wf hm iC iI hF
    obtain ⟨h8, h9, h10, hfr⟩ := hs
    have h10' : g1 10 = I 0 := h10
    have fr1 : ∀ x, x < 8 → g1 x = g x := fun x hx => by rw [hfr x (by omega) (by omega) (by omega) (by omega), fr0 x (by omega) (by omega)]
    have R1 : Rm m nk cp C n op tp g1 f := ⟨hW, ⟨hn, hX.2.2⟩, ⟨by rw [fr1 0 (by omega)]; exact hM.1.1, by rw [fr1 1 (by omega)]; exact hM.1.2.1, by rw [fr1 2 (by omega)]; exact hM.1.2.2.1, h9⟩, hM.2.1, ⟨hm, b0, b2', b3', by omega⟩, bO⟩
    obtain ⟨g2, t1, t2, t3⟩ := lookNumbers_v R1 h10'
    have fr2 : ∀ x, x < 8 → g2 x = g x := fun x hx => by rw [t3 x (by omega) (by omega), fr1 x hx]
    have R2 : Rm m nk cp C n op tp g2 f := R1.fr (fun x hx => t3 x (by omega) (by omega)) ⟨rfl, rfl⟩
    have n2 : isL m C (b2 m nk cp C tp) (-1) → ∀ s c, s < m → ¬ b2 m nk cp C tp s c := fun h s c hs hb => isL_n h s c hs hb.1.1.1 hb
    have n3 : isL m C (b3 m C tp) (-1) → ∀ s c, s < m → ¬ b3 m C tp s c := fun h s c hs hb => isL_n h s c hs hb.1.1.1 hb
    have ok : isL m C (b2 m nk cp C tp) (-1) → ∀ s c, s < m → bg m C tp s c → okn m nk cp C tp s c := fun h s c hs hb => Classical.byContradiction (fun q => n2 h s c hs ⟨hb, q⟩)
    have zero2 : isL m C (b2 m nk cp C tp) (-1) → isL m C (b3 m C tp) (-1) → g2 10 = I 0 := fun h2 h3 => LM_zero t2 (fun k p ⟨s, c, x, y, z, w⟩ => by
      rcases w with ⟨_, w⟩ | ⟨_, w⟩
      · exact n2 h2 s c (by omega) w
      · exact n3 h3 s c (by omega) ((b3_r (n2 h2)).mpr w))
    have ev := fun (h2 : isL m C (b2 m nk cp C tp) (-1)) (h3 : isL m C (b3 m C tp) (-1)) => lookEvents_v R2 (zero2 h2 h3) (ok h2)
    rw [h10', if_pos z00, t1, Option.bind_some]
    show ∃ (g' : sG) (f' : sF), p_M_read_J35 g2 f = p_M_read_J46 g' f' ∧ g' 10 = I k ∧ (k ≠ 0 → g' 11 = I r) ∧ (k = 0 → g' 12 = I ((min (evk m C tp C).length 40 : Nat) : Int) ∧ TM m cp C op tp C f') ∧ (∀ x, x < 8 → g' x = g x) ∧ (∀ j, j < 17 → f' j = f j)
    unfold p_M_read_J35
    rcases hO with ⟨_, x, _⟩ | ⟨_, rfl, q, hl⟩ | ⟨_, h2, rfl, q, hl⟩ | ⟨_, h2, h3, rfl, q, hl⟩ | ⟨_, h2, h3, h4, rfl, q, hl⟩ | ⟨_, h2, h3, h4, rfl, q, hl⟩
    · exact absurd hF x
    · rcases hl with ⟨x, _⟩ | ⟨s, c, a1, a2, a3, a4, a5⟩
      · exact absurd x q
      · obtain ⟨e1, e2⟩ := LM_hit t2 (k := 2) (p := pl m C s c) ⟨s, c, Or.inl a1, a2, rfl, Or.inl ⟨rfl, a3⟩⟩ (fun k' p' ⟨s', c', x, y, z, w⟩ => by
          rcases w with ⟨w1, w2⟩ | ⟨w1, w2⟩
          · have := a5 s' c' (by omega) y w2; omega
          · omega)
        rw [e1, if_neg (by decide)]
        exact ⟨g2, f, rfl, e1, fun _ => by rw [e2, a4], fun x => by omega, fr2, fun _ _ => rfl⟩
    · rcases hl with ⟨x, _⟩ | ⟨s, c, a1, a2, a3, a4, a5⟩
      · exact absurd x q
      · obtain ⟨e1, e2⟩ := LM_hit t2 (k := 3) (p := pl m C s c) ⟨s, c, Or.inl a1, a2, rfl, Or.inr ⟨rfl, (b3_r (n2 h2)).mp a3⟩⟩ (fun k' p' ⟨s', c', x, y, z, w⟩ => by
          rcases w with ⟨w1, w2⟩ | ⟨w1, w2⟩
          · exact absurd w2 (n2 h2 s' c' (by omega))
          · have := a5 s' c' (by omega) y ((b3_r (n2 h2)).mpr w2); omega)
        rw [e1, if_neg (by decide)]
        exact ⟨g2, f, rfl, e1, fun _ => by rw [e2, a4], fun x => by omega, fr2, fun _ _ => rfl⟩
    · obtain ⟨g3, f3, l1, l2, l3, l4, l5, l6⟩ := ev h2 h3
      rw [zero2 h2 h3, if_pos z00, l1, Option.bind_some]
      rcases hl with ⟨x, _⟩ | ⟨c, a1, a2, a3, a5⟩
      · exact absurd x q
      · obtain ⟨e1, e2⟩ := LM_hit l2 (k := 4) (p := pl m C (low m C tp c) c) (Or.inl ⟨rfl, c, cl_lt (b4_ne a2), a2, rfl⟩) (fun k' p' w => by
          rcases w with ⟨w1, c', w2, w3, w4⟩ | ⟨w1, _⟩
          · have := a5 c' (by omega) w3; omega
          · omega)
        exact ⟨g3, f3, rfl, e1, fun _ => by rw [e2, a3], fun x => by omega, fun x hx => by rw [l5 x (by omega) (by omega) (by omega), fr2 x hx], l6⟩
    · obtain ⟨g3, f3, l1, l2, l3, l4, l5, l6⟩ := ev h2 h3
      rw [zero2 h2 h3, if_pos z00, l1, Option.bind_some]
      rcases hl with ⟨x, _⟩ | ⟨c, a1, a2, a3, a4⟩
      · exact absurd x q
      · obtain ⟨e1, e2⟩ := LM_hit l2 (k := 5) (p := pl m C (low m C tp c) c) (Or.inr ⟨rfl, c, a1, a2, a3, rfl⟩) (fun k' p' w => by
          rcases w with ⟨w1, c', w2, w3, w4⟩ | ⟨w1, c', w2, w3, w4, w5⟩
          · exact absurd w3 (isM_n1 h4 c' (by omega))
          · have : c' = c := by
              rcases Nat.lt_trichotomy c' c with z | z | z
              · have k1 := evk_le (m := m) (C := C) (tp := tp) (k := c' + 1) (k' := c) z
                have k2 : (evk m C tp (c' + 1)).length = (evk m C tp c').length + 1 := by rw [evk_s, if_neg w3, List.length_append, List.length_singleton]
                omega
              · exact z
              · have k1 := evk_le (m := m) (C := C) (tp := tp) (k := c + 1) (k' := c') z
                have k2 : (evk m C tp (c + 1)).length = (evk m C tp c).length + 1 := by rw [evk_s, if_neg a2, List.length_append, List.length_singleton]
                omega
            subst this
            omega)
        exact ⟨g3, f3, rfl, e1, fun _ => by rw [e2, a4], fun x => by omega, fun x hx => by rw [l5 x (by omega) (by omega) (by omega), fr2 x hx], l6⟩
    · obtain ⟨g3, f3, l1, l2, l3, l4, l5, l6⟩ := ev h2 h3
      rw [zero2 h2 h3, if_pos z00, l1, Option.bind_some]
      have z10 := LM_zero l2 (fun k p w => by
        rcases w with ⟨_, c', w2, w3, _⟩ | ⟨_, c', w2, w3, w4, _⟩
        · exact isM_n1 h4 c' (by omega) w3
        · rcases hl with ⟨_, x⟩ | ⟨c, _, _, _, x⟩
          · have k1 := evk_le (m := m) (C := C) (tp := tp) (k := c' + 1) (k' := C + 2) (by omega)
            have k2 : (evk m C tp (c' + 1)).length = (evk m C tp c').length + 1 := by rw [evk_s, if_neg w3, List.length_append, List.length_singleton]
            omega
          · omega)
      exact ⟨g3, f3, rfl, z10, fun x => absurd rfl x, fun _ => ⟨l3, l4⟩, fun x hx => by rw [l5 x (by omega) (by omega) (by omega), fr2 x hx], l6⟩
  · obtain ⟨h8, h9, ⟨h10, h11⟩, hfr⟩ := hs
    unfold p_M_read_J35
    rw [h10, if_neg n10, if_neg n10]
    have fr1 : ∀ x, x < 8 → g1 x = g x := fun x hx => by rw [hfr x (by omega) (by omega) (by omega) (by omega), fr0 x (by omega) (by omega)]
    rcases hO with ⟨rfl, x, y⟩ | ⟨x, _⟩ | ⟨x, _⟩ | ⟨x, _⟩ | ⟨x, _⟩ | ⟨x, _⟩
    · exact ⟨g1, f, rfl, h10, fun _ => by rw [h11, y, hF], fun q => by omega, fr1, fun _ _ => rfl⟩
    all_goals omega
end RD
