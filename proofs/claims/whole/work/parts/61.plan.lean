section PLN
variable {m nk cp ev : Nat} {op wt sz pt : Nat → Nat} {bd : Nat → Int} {g : sG} {f : sF}
theorem CH0 {t : Int × Nat} (hT : cT' m nk cp ev op wt sz pt bd = some t) {p : Nat} (h : CHs m nk cp ev op wt sz pt bd 0 (-1) p) : onn m nk cp ev op wt sz pt bd t.1 0 p ∧ ∀ q, cp < q → q < p → ¬ onn m nk cp ev op wt sz pt bd t.1 0 q := by
  obtain ⟨p1, p2, a, k, ha, hk, hf⟩ := h
  have hc : ∀ q, vv m nk cp ev op wt sz pt bd 0 (-1) q = cB m nk cp ev op wt sz pt bd 0 q := fun q => by unfold vv; rw [if_pos rfl]
  have : tS (cp + 1) (vv m nk cp ev op wt sz pt bd 0 (-1)) (nk - cp) = cT' m nk cp ev op wt sz pt bd := tS_congr (fun q _ _ => hc q)
  rw [this, hT] at ha
  cases ha
  rw [hc] at hk
  refine ⟨on_first.mpr ⟨k, hk⟩, fun q q1 q2 ho => ?_⟩
  obtain ⟨k', hk'⟩ := on_first.mp ho
  exact hf q q1 q2 k' (by rw [hc]; exact hk')
theorem CHS {t : Int × Nat} (hT : cT' m nk cp ev op wt sz pt bd = some t) {e b p : Nat} (he : e + 1 < ev) (b1 : cp < b) (b2 : b ≤ nk) (hb : onn m nk cp ev op wt sz pt bd t.1 e b) (h : CHs m nk cp ev op wt sz pt bd (e + 1) (b : Int) p) :
    (onn m nk cp ev op wt sz pt bd t.1 (e + 1) p ∧ gos m nk cp op wt sz pt bd e b p) ∧ ∀ q, cp < q → q < p → ¬ (onn m nk cp ev op wt sz pt bd t.1 (e + 1) q ∧ gos m nk cp op wt sz pt bd e b q) := by
  obtain ⟨p1, p2, a, k, ha, hk, hf⟩ := h
  obtain ⟨f0, r0, hf0, hr0, hs0⟩ := hb
  have hcv := cR_vv (m := m) (nk := nk) (cp := cp) (ev := ev) (op := op) (wt := wt) (sz := sz) (pt := pt) (bd := bd) (e := e + 1) (p := b)
  rw [if_pos he, if_pos (by omega), ha] at hcv
  have hr1 : cR m nk cp ev op wt sz pt bd (e + 1) b = some r0 := hr0
  rw [hr1] at hcv
  cases hcv
  have hc : ∀ q, vv m nk cp ev op wt sz pt bd (e + 1) (b : Int) q = tmul (some (mvv wt b q, 1)) (cB m nk cp ev op wt sz pt bd (e + 1) q) := fun q => by
    unfold vv
    rw [if_neg (by omega)]
    rfl
  have ch := fun q (h1 : cp + 1 ≤ q) (h2 : q < cp + 1 + (nk - cp)) => choice (p := q) hT he (show cp + 1 ≤ b by omega) (by omega) hf0 hr0 hs0 h1 h2
  refine ⟨?_, fun q q1 q2 hq => ?_⟩
  · refine (ch p (by omega) (by omega)).mpr ?_
    rw [hc] at hk
    cases hx : cB m nk cp ev op wt sz pt bd (e + 1) p with
    | none => rw [hx] at hk; cases hk
    | some x =>
      rw [hx] at hk
      exact ⟨x, hx, congrArg Prod.fst (Option.some.inj hk)⟩
  · obtain ⟨x, hx, hxe⟩ := (ch q (by omega) (by omega)).mp hq
    refine hf q q1 q2 (1 * x.2) ?_
    have hx' : cB m nk cp ev op wt sz pt bd (e + 1) q = some x := hx
    rw [hc, hx', tmul_s, ← hxe]
/-- what the reference asks of a position -/
def sel (m nk cp ev : Nat) (op wt sz pt : Nat → Nat) (bd : Nat → Int) (pos : Nat → Nat) (t : Int) (e q : Nat) : Prop := onn m nk cp ev op wt sz pt bd t e q ∧ (e = 0 ∨ gos m nk cp op wt sz pt bd (e - 1) (pos (e - 1)) q)
theorem sel_v {t : Int × Nat} (hT : cT' m nk cp ev op wt sz pt bd = some t) {pos : Nat → Nat} (hpos : ∀ e, e < ev → CHs m nk cp ev op wt sz pt bd e (bef pos e) (pos e)) : ∀ e, e < ev → sel m nk cp ev op wt sz pt bd pos t.1 e (pos e) ∧ ∀ q, cp < q → q < pos e → ¬ sel m nk cp ev op wt sz pt bd pos t.1 e q
  | 0, he => by
    have h := hpos 0 he
    obtain ⟨h1, h2⟩ := CH0 hT (show CHs m nk cp ev op wt sz pt bd 0 (-1) (pos 0) from h)
    exact ⟨⟨h1, Or.inl rfl⟩, fun q a b hq => h2 q a b hq.1⟩
  | e + 1, he => by
    obtain ⟨⟨i1, -⟩, -⟩ := sel_v hT hpos e (by omega)
    have h := hpos (e + 1) he
    have hb : bef pos (e + 1) = (pos e : Nat) := by unfold bef; rw [if_neg (by omega)]; rfl
    rw [hb] at h
    have h0 := hpos e (by omega)
    obtain ⟨⟨h1, h2⟩, h3⟩ := CHS hT he h0.1 h0.2.1 i1 h
    exact ⟨⟨h1, Or.inr h2⟩, fun q a b hq => h3 q a b ⟨hq.1, hq.2.resolve_left (by omega)⟩⟩
theorem plan58 (hB : Base m nk cp ev op wt sz pt bd) (hM : Mb m nk cp ev op wt sz pt bd g f) (hF : FA m nk cp ev op wt sz pt bd f) {t : Int} (hO : ∀ e q, e < ev → cp < q → q ≤ nk → MO m nk cp ev op wt sz pt bd t e q f) {pos : Nat → Nat} {e q : Nat} (hps : 0 < e → cp < pos (e - 1) ∧ pos (e - 1) ≤ nk) (he : e < ev) (q1 : cp < q) (q2 : q ≤ nk) (x1 : Int32) (K42 : (Int32 × Int32 × Int32 × sG × sF) → Option (Int32 × sG × sF)) (K : (Int32 × Int32 × Int32 × Int32 × sG × sF) → Option (Int32 × sG × sF)) :
    p_M_plan_L58 K42 K x1 (I (bef pos e)) (I e) (I q) g f = if cb (sel m nk cp ev op wt sz pt bd pos t e q) = true then p_M_plan_J97 K42 x1 (I e) (I q) g f else K (x1, I (bef pos e), I e, I ((q + 1 : Nat) : Int), g, f) := by
  obtain ⟨⟨b0, b1, b2, b3, b4⟩, bO, bW, bS, bP⟩ := id hB
  have f16 : f 16 (25 * e + q) = _ := hO e q he q1 q2
  have eq1 : (q : Int) + 1 = ((q + 1 : Nat) : Int) := by omega
  have n10 : ¬ I 1 = I 0 := by decide
  unfold p_M_plan_L58 p_M_at_
  simp (disch := omega) only [l_0, l_1, l_2, l_3, l_4, l_5, l_6, l_7, l_9, l_10, l_20, l_24, l_25, l_31, l_40, l_45, l_48, l_57, l_99, l_123, l_124, l_127, l_2000, l_far, l_999999, I_neg, Option.bind_some, I_mul, I_add, I_lt, I_nat, eq1, tn_25b, gdG, lt_, f16]
  by_cases o : onn m nk cp ev op wt sz pt bd t e q
  · rw [bI_t o, if_neg n10]
    by_cases z : e = 0
    · have hb : bef pos e = -1 := by unfold bef; rw [if_pos z]
      rw [hb, if_pos rfl, if_pos (cb_t.mpr ⟨o, Or.inl z⟩)]
    · have hb : bef pos e = (pos (e - 1) : Nat) := by unfold bef; rw [if_neg z]
      obtain ⟨w1, w2⟩ := hps (by omega)
      rw [hb, if_neg (by rw [I_eq (by omega) (by omega) (by omega) (by omega)]; omega), I_sub, show (e : Int) - 1 = ((e - 1 : Nat) : Int) by omega, goesOn_v hB hM hF (by omega) w1 w2 q1 q2, Option.bind_some]
      by_cases c : gos m nk cp op wt sz pt bd (e - 1) (pos (e - 1)) q
      · rw [bI_t c, if_neg n10, if_pos (cb_t.mpr ⟨o, Or.inr c⟩)]
      · rw [bI_f c, if_pos rfl, if_neg (fun x => by rcases cb_t.mp x with ⟨_, y | y⟩; exact z y; exact c y)]
  · rw [bI_f o, if_pos rfl, if_neg (fun x => o (cb_t.mp x).1)]
theorem TK.fr {e p : Nat} {f' : sF} (h : TK m nk cp op wt sz pt bd e p f) (h1 : f' 5 e = f 5 e ∧ f' 7 e = f 7 e ∧ f' 8 e = f 8 e) (h2 : ∀ i, i < 4 → f' 6 (4 * e + i) = f 6 (4 * e + i)) : TK m nk cp op wt sz pt bd e p f' := by
  obtain ⟨a, b, c, d⟩ := h
  refine ⟨by rw [h1.1]; exact a, by rw [h1.2.1]; exact b, by rw [h1.2.2]; exact c, fun i hi => by rw [h2 i hi]; exact d i hi⟩
theorem mplan_s (hB : Base m nk cp ev op wt sz pt bd) (hM : Mb m nk cp ev op wt sz pt bd g f) (hv : 0 < ev) {t : Int × Nat} (hT : cT' m nk cp ev op wt sz pt bd = some t) {pos : Nat → Nat} (hpos : ∀ e, e < ev → CHs m nk cp ev op wt sz pt bd e (bef pos e) (pos e)) :
    ∃ g' f', p_M_plan g f = some (I t.1, g', f') ∧ g' 4 = I 1 ∧ (∀ e, e < ev → TK m nk cp op wt sz pt bd e (pos e) f') ∧ (∀ x, x ≠ 4 → x ≠ 7 → g' x = g x) ∧ (∀ j, j < 5 ∨ j = 9 → f' j = f j) := by
  obtain ⟨⟨b0, b1, b2, b3, b4⟩, bO, bW, bS, bP⟩ := id hB
  have tb : 0 ≤ t.1 ∧ t.1 ≤ 200000 := by
    have hT2 : cT' m nk cp ev op wt sz pt bd = tS (cp + 1) (cF m nk cp op wt sz pt bd (ev - 1)) (nk - cp) := (tot hv).symm
    rw [hT] at hT2
    obtain ⟨q, k, q1, q2, hq⟩ := (tS_spec.2 t hT2.symm).2
    have : 0 ≤ t.1 ∧ t.1 ≤ 2480 * (((ev - 1 : Nat) : Int) + 1) := cF_bd hB (ev - 1) (by omega) q (t.1, k) (by omega) hq
    omega
  unfold p_M_plan
  rw [hM.1.2.2.2, if_neg (by rw [l_0, I_eq (by omega) (by omega) (by omega) (by omega)]; omega), lt_, l_0]
  have hM0 : Mb m nk cp ev op wt sz pt bd (upd g 4 (I 0)) f := hM.fr (fun x hx => upd_n _ _ (by omega)) (fun _ _ => rfl)
  obtain ⟨g1, f1, s1, s2, s3, s4⟩ := findSums_v hB hM0 hv
  rw [s1, Option.bind_some]
  dsimp only
  rw [hT, msum_s, if_neg (by rw [l_far, I_eq (by omega) (by omega) (by omega) (by omega)]; omega), lt_, l_1]
  have hM1 : Mb m nk cp ev op wt sz pt bd (upd g1 4 (I 1)) f1 := hM0.fr (fun x hx => by rw [upd_n _ _ (by omega)]; exact s3 x (by omega)) (fun j hj => s4 j (by omega))
  obtain ⟨f2, k1, k2, k3⟩ := markBack_v hB hM1 s2 hT ⟨tb.2, tb.1⟩
  have hM2 : Mb m nk cp ev op wt sz pt bd (upd g1 4 (I 1)) f2 := hM1.fr (fun _ _ => rfl) (fun j hj => k3 j (by omega))
  have hF2 : FA m nk cp ev op wt sz pt bd f2 := FA.fr s2 (fun j a b => k3 j (by omega))
  rw [k1, Option.bind_some]
  dsimp only
  generalize hG : upd g1 4 (I 1) = G at *
  have G4 : G 4 = I 1 := by rw [← hG]; exact upd_s _ _ _
  have Gx : ∀ x, x ≠ 4 → x ≠ 7 → G x = g x := fun x a b => by rw [← hG, upd_n _ _ a, s3 x b, upd_n _ _ a]
  have Fx : ∀ j, j < 5 ∨ j = 9 → f2 j = f j := fun j hj => by rw [k3 j (by omega), s4 j (by omega)]
  rw [I_neg, show I (-1) = I (bef pos 0) from rfl]
  refine itr_R (fun e z => ∃ (g' : sG) (f' : sF), z = (I t.1, I (bef pos e), I e, g', f') ∧ (∀ e', e' < e → TK m nk cp op wt sz pt bd e' (pos e') f') ∧ (∀ x, x ≠ 7 → g' x = G x) ∧ (∀ j, j < 5 ∨ j = 9 ∨ 11 < j → f' j = f2 j)) ev
    (fun o => ∃ (g' : sG) (f' : sF), o = some (I t.1, g', f') ∧ g' 4 = I 1 ∧ (∀ e, e < ev → TK m nk cp op wt sz pt bd e (pos e) f') ∧ (∀ x, x ≠ 4 → x ≠ 7 → g' x = g x) ∧ (∀ j, j < 5 ∨ j = 9 → f' j = f j)) ⟨G, f2, rfl, fun e' h => by omega, fun _ _ => rfl, fun _ _ => rfl⟩ (by omega) ?_ ?_
  · intro K e z he ⟨g', f', ez, h1, h2, h3⟩
    subst ez
    left
    have hM' : Mb m nk cp ev op wt sz pt bd g' f' := hM2.fr (fun x hx => h2 x (by omega)) (fun j hj => h3 j (by omega))
    have hF' : FA m nk cp ev op wt sz pt bd f' := hF2.fr (fun j a b => h3 j (by omega))
    have hO' : ∀ e q, e < ev → cp < q → q ≤ nk → MO m nk cp ev op wt sz pt bd t.1 e q f' := fun e q a b c => by unfold MO; rw [h3 16 (by omega)]; exact k2 e q a b c
    have hc := hpos e he
    have hsel := sel_v hT hpos e he
    have p1 := hc.1
    have p2 := hc.2.1
    have hps : 0 < e → cp < pos (e - 1) ∧ pos (e - 1) ≤ nk := fun _ => ⟨(hpos (e - 1) (by omega)).1, (hpos (e - 1) (by omega)).2.1⟩
    dsimp only
    unfold p_M_plan_L42
    rw [hM'.1.2.2.2, if_neg (by rw [I_le (by omega) (by omega) (by omega) (by omega)]; omega), hM'.1.2.2.1, l_1, I_add, lt_]
    refine itr_R (fun u z => z = (I t.1, I (bef pos e), I e, I ((cp + 1 + u : Nat) : Int), g', f')) (pos e - (cp + 1))
      (fun o => ∃ s', o = K s' ∧ ∃ (g' : sG) (f' : sF), s' = (I t.1, I (bef pos (e + 1)), I ((e + 1 : Nat) : Int), g', f') ∧ (∀ e', e' < e + 1 → TK m nk cp op wt sz pt bd e' (pos e') f') ∧ (∀ x, x ≠ 7 → g' x = G x) ∧ (∀ j, j < 5 ∨ j = 9 ∨ 11 < j → f' j = f2 j)) rfl (by omega) ?_ ?_
    · intro K2 u z hu ez
      subst ez
      left
      refine ⟨_, ?_, rfl⟩
      dsimp only
      rw [plan58 hB hM' hF' hO' hps he (show cp < cp + 1 + u by omega) (by omega), if_neg (fun x => hsel.2 (cp + 1 + u) (by omega) (by omega) (cb_t.mp x))]
      rfl
    · intro K2 z ez
      subst ez
      rw [show cp + 1 + (pos e - (cp + 1)) = pos e by omega]
      dsimp only
      rw [plan58 hB hM' hF' hO' hps he p1 p2, if_pos (cb_t.mpr hsel.1)]
      obtain ⟨g3, f3, t1, t2, t3, t4, t5, t6⟩ := takes_v hB hM' he p1 p2 (CHs_some hc).1 (hF' e (pos e) he p1 p2).2
      unfold p_M_plan_J97
      rw [t1, Option.bind_some, l_1, I_add, lt_]
      refine ⟨_, rfl, g3, f3, ?_, fun e' he' => ?_, fun x hx => by rw [t3 x hx, h2 x hx], fun j hj => by rw [t4 j hj, h3 j hj]⟩
      · have : bef pos (e + 1) = (pos e : Nat) := by unfold bef; rw [if_neg (by omega)]; rfl
        rw [this]
        rfl
      · by_cases q : e' = e
        · subst q; exact t2
        · exact (h1 e' (by omega)).fr (t5 e' q) (fun i hi => t6 _ (by omega))
  · intro K z ⟨g', f', ez, h1, h2, h3⟩
    subst ez
    dsimp only
    unfold p_M_plan_L42
    rw [show g' 3 = I ev by rw [h2 3 (by omega)]; exact hM2.1.2.2.2, if_pos (Int32.le_refl _)]
    exact ⟨g', f', rfl, by rw [h2 4 (by omega)]; exact G4, h1, fun x a b => by rw [h2 x b]; exact Gx x a b, fun j hj => by rw [h3 j (by omega)]; exact Fx j hj⟩
theorem mplan_n (hB : Base m nk cp ev op wt sz pt bd) (hM : Mb m nk cp ev op wt sz pt bd g f) (hv : 0 < ev) (hT : cT' m nk cp ev op wt sz pt bd = none) :
    ∃ g' f', p_M_plan g f = some (I (-1), g', f') ∧ g' 4 = I 0 ∧ (∀ x, x ≠ 4 → x ≠ 7 → g' x = g x) ∧ (∀ j, j < 10 → f' j = f j) := by
  obtain ⟨⟨b0, b1, b2, b3, b4⟩, bO, bW, bS, bP⟩ := id hB
  unfold p_M_plan
  rw [hM.1.2.2.2, if_neg (by rw [l_0, I_eq (by omega) (by omega) (by omega) (by omega)]; omega), lt_, l_0]
  have hM0 : Mb m nk cp ev op wt sz pt bd (upd g 4 (I 0)) f := hM.fr (fun x hx => upd_n _ _ (by omega)) (fun _ _ => rfl)
  obtain ⟨g1, f1, s1, s2, s3, s4⟩ := findSums_v hB hM0 hv
  rw [s1, Option.bind_some]
  dsimp only
  rw [hT, msum_n, if_pos l_far.symm]
  exact ⟨g1, f1, rfl, by rw [s3 4 (by omega)]; exact upd_s _ _ _, fun x a b => by rw [s3 x b, upd_n _ _ a], fun j hj => s4 j (by omega)⟩
theorem r_plan : Stw p_FH_plan p_M_plan := by
  intro gc fc gm fm hR
  obtain ⟨m, nk, cp, ev, tn, op, wt, sz, pt, tp, st, bd, fd, hB, hC, hM, ⟨T0, T1, T2, T3⟩, hFb, h14⟩ := id hR
  by_cases hv : ev = 0
  · subst hv
    refine ⟨I (-4), gc, fc, gm, fm, ?_, ?_, hR⟩
    · unfold p_FH_plan
      rw [hC.1.2.2.2, if_pos (show I ((0 : Nat) : Int) = (0 : Int32) from rfl)]; rfl
    · unfold p_M_plan
      rw [hM.1.2.2.2, if_pos (show I ((0 : Nat) : Int) = (0 : Int32) from rfl)]; rfl
  · obtain ⟨g1, f1, e1, a1, a2, a3, a4⟩ := cplan_v hB hC (by omega)
    cases hT : cT' m nk cp ev op wt sz pt bd with
    | none =>
      obtain ⟨g2, f2, e2, c1, c2, c3⟩ := mplan_n hB hM (by omega) hT
      rw [hT] at e1
      refine ⟨_, g1, f1, g2, f2, e1, e2, Rel_mk hB (hC.fr (fun x hx => a1 x (by omega)) (fun j hj => a2 j (by omega))) (hM.fr (fun x hx => c2 x (by omega) (by omega)) (fun j hj => c3 j (by omega))) ⟨T0, by rw [a1 12 (by omega)]; exact T1, by rw [c2 5 (by omega) (by omega)]; exact T2, fun i hi => by rw [a2 19 (by omega), c3 9 (by omega)]; exact T3 i hi⟩ (a3 hT) c1 (by rw [a1 14 (by omega), c2 6 (by omega) (by omega)]; exact h14)⟩
    | some t =>
      obtain ⟨k4, pos, hch⟩ := a4 (by rw [hT]; intro h; cases h)
      obtain ⟨g2, f2, e2, c1, c2, c3, c4⟩ := mplan_s hB hM (by omega) hT (fun e he => (hch e he).1)
      rw [hT] at e1
      refine ⟨_, g1, f1, g2, f2, e1, e2, m, nk, cp, ev, tn, op, wt, sz, pt, tp, fun k => pdg m (sz (k / 4)) (LSx m nk cp op wt sz pt bd (k / 4) (pos (k / 4))).2.2.2.2 (k % 4), bd, true, hB, hC.fr (fun x hx => a1 x (by omega)) (fun j hj => a2 j (by omega)), hM.fr (fun x hx => c3 x (by omega) (by omega)) (fun j hj => c4 j (by omega)), ⟨T0, by rw [a1 12 (by omega)]; exact T1, by rw [c3 5 (by omega) (by omega)]; exact T2, fun i hi => by rw [a2 19 (by omega), c4 9 (by omega)]; exact T3 i hi⟩, ⟨k4, by omega, c1, fun e he => ?_⟩, by rw [a1 14 (by omega), c3 6 (by omega) (by omega)]; exact h14⟩
      obtain ⟨hc, d1, d2, d3, d4⟩ := hch e he
      obtain ⟨x1, x2, x3, x4⟩ := c2 e he
      have hl0 := (CHs_some hc).1
      obtain ⟨u1, u2, -⟩ := lst_first (GC m nk cp op wt sz pt e (pos e)) _ hl0
      have hs := hB.2.2.2.1 e he
      have hm0 := GL_mpos hB he u1
      have cmem : (LSx m nk cp op wt sz pt bd e (pos e)).2.2.2.2 ∈ GL m nk cp op sz pt bd e (pos e) := by
        unfold LSx
        rw [← u2]
        exact getD_mem u1
      unfold GL LL at cmem
      have cgood := (gl_mem (List.mem_filter.mp cmem).1).2.2
      refine ⟨by rw [d1, x1], by rw [d3, x2], by rw [d4, x3], fun i hi => ?_, fun i h1 h2 => ?_⟩
      · have q1 : (4 * e + i) / 4 = e := by omega
        have q2 : (4 * e + i) % 4 = i := by omega
        dsimp only
        rw [q1, q2, d2, strIn hm0 hB.1.1 hs.2 hi, x4 i (by omega), if_pos hi]
        have ok := (cgood i hi).1.1
        have fo := frt_ok ok
        have fe : frt nk cp op (pdg m (sz e) (LSx m nk cp op wt sz pt bd e (pos e)).2.2.2.2 i) (eP pt e i) = (pt (4 * e + i) : Int) - op (pdg m (sz e) (LSx m nk cp op wt sz pt bd e (pos e)).2.2.2.2 i) := by
          unfold frt at ok ⊢
          split
          · rfl
          · rename_i h
            rw [if_neg h] at ok
            exact absurd rfl ok
        rw [fe] at fo
        exact ⟨pdg_lt hm0, by omega, by omega, rfl, rfl⟩
      · rw [x4 i h2, if_neg (by omega)]
end PLN
