section MW
variable {m nk cp ev : Nat} {op wt sz pt st : Nat → Nat} {bd : Nat → Int} {g g0 : sG} {f f0 : sF}
theorem mw140 {L : List Nat} (h : PM g0 f0 L g f) {e a w : Nat} (he : e < 40) (ha : a ≤ w) (hw : w ≤ 2) (hl : L.length + 2 ≤ 2000) {x1 : Int32} (K22 : (Int32 × sG × sF) → Option (Int32 × sG × sF)) (K34 : (Int32 × Int32 × sG × sF) → Option (Int32 × sG × sF)) :
    ∃ g' f', itr (fun K z => p_M_write_L140 K22 K34 K z.1 z.2.1 z.2.2.1 z.2.2.2.1 z.2.2.2.2.1 z.2.2.2.2.2) FUEL (x1, I e, I w, I a, g, f) = K34 (x1, I ((e + 1 : Nat) : Int), g', f') ∧ PM g0 f0 (L ++ List.replicate (w - a) 45) g' f' := by
  refine itr_R (fun t z => ∃ (g' : sG) (f' : sF), z = (x1, I e, I w, I ((a + t : Nat) : Int), g', f') ∧ PM g0 f0 (L ++ List.replicate t 45) g' f') (w - a) (fun o => ∃ (g' : sG) (f' : sF), o = K34 (x1, I ((e + 1 : Nat) : Int), g', f') ∧ PM g0 f0 (L ++ List.replicate (w - a) 45) g' f') ⟨g, f, rfl, by rw [List.replicate_zero, List.append_nil]; exact h⟩ (by omega) ?_ ?_
  · intro K t z ht ⟨g', f', ez, hp⟩
    subst ez
    left
    obtain ⟨g2, f2, c1, c2⟩ := mput hp (by rw [List.length_append, List.length_replicate]; omega) 45
    rw [List.append_assoc, ← rep_snoc] at c2
    have ea : ((a + t : Nat) : Int) + 1 = ((a + (t + 1) : Nat) : Int) := by omega
    have c1' : p_M_put (I 45) g' f' = some (g2, f2) := c1
    refine ⟨_, ?_, g2, f2, rfl, c2⟩
    dsimp only
    unfold p_M_write_L140
    simp (disch := omega) only [l_0, l_1, l_2, l_3, l_4, l_5, l_6, l_7, l_9, l_10, l_20, l_24, l_25, l_31, l_40, l_45, l_48, l_57, l_99, l_123, l_124, l_127, l_2000, l_far, l_999999, I_le, lt_, I_add, ea, c1', Option.bind_some]
    rw [if_neg (by omega)]
  · intro K z ⟨g', f', ez, hp⟩
    subst ez
    have ee : (e : Int) + 1 = ((e + 1 : Nat) : Int) := by omega
    refine ⟨g', f', ?_, hp⟩
    dsimp only
    unfold p_M_write_L140
    simp (disch := omega) only [l_0, l_1, l_2, l_3, l_4, l_5, l_6, l_7, l_9, l_10, l_20, l_24, l_25, l_31, l_40, l_45, l_48, l_57, l_99, l_123, l_124, l_127, l_2000, l_far, l_999999, I_le, lt_, I_add, ee]
    rw [if_pos (by omega)]
/-- the number and the dashes behind it -/
theorem mwNum {L : List Nat} (h : PM g0 f0 L g f) {e w : Nat} {v : Int} (he : e < 40) (h1 : -1 ≤ v) (h2 : v ≤ 24) (hvw : lenN v ≤ w) (hw : w ≤ 2) (hl : L.length + 4 ≤ 2000) {x1 : Int32} (K22 : (Int32 × sG × sF) → Option (Int32 × sG × sF)) (K34 : (Int32 × Int32 × sG × sF) → Option (Int32 × sG × sF)) :
    ∃ g' f', (if I v ≤ (9 : Int32) then p_M_write_J119 K22 K34 x1 (I e) (I w) (I v) (0 : Int32) g f else Option.bind (p_M_put ((48 : Int32) + (I v / (10 : Int32))) g f) (fun u3 => lt_ ((0 : Int32) + (1 : Int32)) (fun v4 => p_M_write_J119 K22 K34 x1 (I e) (I w) (I v) v4 u3.1 u3.2))) = K34 (x1, I ((e + 1 : Nat) : Int), g', f') ∧ PM g0 f0 (L ++ (digs v ++ List.replicate (w - lenN v) 45)) g' f' := by
  unfold p_M_write_J119
  by_cases q : v = -1
  · subst q
    rw [if_pos (show I (-1) ≤ (9 : Int32) by decide), if_pos (show I (-1) = (-1 : Int32) from rfl), l_0]
    obtain ⟨g', f', r1, r2⟩ := mw140 (x1 := x1) h he (Nat.zero_le w) hw (by omega) K22 K34
    exact ⟨g', f', r1, r2⟩
  · obtain ⟨n, rfl⟩ : ∃ n : Nat, v = n := ⟨v.toNat, by omega⟩
    have ed : I (n : Int) / (10 : Int32) = I ((n / 10 : Nat) : Int) := div_v (m := 10) (by omega) (by omega) (by omega)
    have er : I (n : Int) - I (n : Int) / (10 : Int32) * (10 : Int32) = I ((n % 10 : Nat) : Int) := rem_v (m := 10) rfl (by omega) (by omega) (by omega)
    have e1 : (48 : Int) + ((n / 10 : Nat) : Int) = ((48 + n / 10 : Nat) : Int) := by omega
    have e2 : (48 : Int) + ((n % 10 : Nat) : Int) = ((48 + n % 10 : Nat) : Int) := by omega
    have n1 : ¬ I (n : Int) = (-1 : Int32) := by
      rw [show (-1 : Int32) = I (-1) from rfl, I_eq (by omega) (by omega) (by omega) (by omega)]
      omega
    simp only [er, if_neg n1]
    simp only [ed]
    simp only [l_48, l_0, l_1, I_add, e1, e2, lt_, Int.reduceAdd]
    have hdg : digs (n : Int) = if 10 ≤ (n : Int) then [48 + n / 10, 48 + n % 10] else [48 + n % 10] := by
      unfold digs
      rw [if_neg q, Int.toNat_natCast]
    have hln : lenN (n : Int) = if 10 ≤ (n : Int) then 2 else 1 := by
      unfold lenN
      rw [if_neg q]
    by_cases w10 : 10 ≤ (n : Int)
    · rw [if_pos w10] at hdg hln
      rw [hln] at hvw
      rw [hdg, hln, if_neg (by rw [l_9, I_le (by omega) (by omega) (by omega) (by omega)]; omega)]
      obtain ⟨g1, f1, a1, a2⟩ := mput h (by omega) (48 + n / 10)
      obtain ⟨g2, f2, c1, c2⟩ := mput a2 (by rw [List.length_append, List.length_singleton]; omega) (48 + n % 10)
      rw [a1, Option.bind_some]
      dsimp only
      rw [c1, Option.bind_some]
      obtain ⟨g', f', r1, r2⟩ := mw140 (x1 := x1) c2 he hvw hw (by rw [List.length_append, List.length_append, List.length_singleton, List.length_singleton]; omega) K22 K34
      refine ⟨g', f', r1, ?_⟩
      rw [show L ++ ([48 + n / 10, 48 + n % 10] ++ List.replicate (w - 2) 45) = L ++ [48 + n / 10] ++ [48 + n % 10] ++ List.replicate (w - 2) 45 by simp only [List.append_assoc, List.singleton_append, List.cons_append, List.nil_append]]
      exact r2
    · rw [if_neg w10] at hdg hln
      rw [hln] at hvw
      rw [hdg, hln, if_pos (by rw [l_9, I_le (by omega) (by omega) (by omega) (by omega)]; omega)]
      obtain ⟨g2, f2, c1, c2⟩ := mput h (by omega) (48 + n % 10)
      rw [c1, Option.bind_some]
      obtain ⟨g', f', r1, r2⟩ := mw140 (x1 := x1) c2 he hvw hw (by rw [List.length_append, List.length_singleton]; omega) K22 K34
      refine ⟨g', f', r1, ?_⟩
      rw [← List.append_assoc]
      exact r2
theorem mw47 (hB : Base m nk cp ev op wt sz pt bd) (hS : Ws m nk cp ev op sz pt st) (hW : Wm m nk cp ev op wt sz pt st bd g0 f0) {L : List Nat} (h : PM g0 f0 L g f) (hl : L.length + 5 ≤ 2000) {e s : Nat} (he : e < ev) (hs : s < m) (K22 : (Int32 × sG × sF) → Option (Int32 × sG × sF)) (K34 : (Int32 × Int32 × sG × sF) → Option (Int32 × sG × sF)) :
    ∃ g' f', itr (fun K z => p_M_write_L47 K22 K34 K z.1 z.2.1 z.2.2.1 z.2.2.2.1 z.2.2.2.2.1 z.2.2.2.2.2) FUEL (I s, I e, I 1, I 0, g, f) = K34 (I s, I ((e + 1 : Nat) : Int), g', f') ∧ PM g0 f0 (L ++ cell m cp op sz pt st e s) g' f' := by
  have hv := hB.1.2.2.2.2
  have hm := hB.1.1
  have hn := hB.1.2.2.1
  have hW' := h.w hW
  refine itr_R (fun t z => z = (I s, I e, I (wdk cp op sz pt st e t), I t, g, f)) m (fun o => ∃ (g' : sG) (f' : sF), o = K34 (I s, I ((e + 1 : Nat) : Int), g', f') ∧ PM g0 f0 (L ++ cell m cp op sz pt st e s) g' f') rfl (by omega) ?_ ?_
  · intro K t z ht ez
    subst ez
    left
    refine ⟨_, ?_, rfl⟩
    have nbb := nb_bd hS he t
    have et : (t : Int) + 1 = ((t + 1 : Nat) : Int) := by omega
    have ew : wdk cp op sz pt st e (t + 1) = if 9 < nb cp op sz pt st e t then 2 else wdk cp op sz pt st e t := rfl
    dsimp only
    unfold p_M_write_L47
    rw [hW'.1.1.1, if_neg (by rw [I_le (by omega) (by omega) (by omega) (by omega)]; omega), numberOn_v hB hS hW' he ht, Option.bind_some, ew]
    simp (disch := omega) only [l_0, l_1, l_2, l_3, l_4, l_5, l_6, l_7, l_9, l_10, l_20, l_24, l_25, l_31, l_40, l_45, l_48, l_57, l_99, l_123, l_124, l_127, l_2000, l_far, l_999999, I_le, lt_, I_add, et]
    by_cases q : 9 < nb cp op sz pt st e t
    · rw [if_neg (by omega), if_pos q]
      rfl
    · rw [if_pos (by omega), if_neg q]
  · intro K z ez
    subst ez
    dsimp only
    unfold p_M_write_L47
    obtain ⟨g1, f1, a1, a2⟩ := mput h (by omega) 45
    have a1' : p_M_put (45 : Int32) g f = some (g1, f1) := a1
    have nbb := nb_bd hS he s
    have lle : lenN (nb cp op sz pt st e s) ≤ wdk cp op sz pt st e m := by
      rw [← lg_wd hB hS he]
      exact lgk_ge hs
    have lw := (wlk (cp := cp) (op := op) (sz := sz) (pt := pt) (st := st) (e := e) m).2.1
    obtain ⟨g', f', r1, r2⟩ := mwNum (x1 := I s) (v := nb cp op sz pt st e s) a2 (show e < 40 by omega) (by omega) (by omega) lle lw (by rw [List.length_append, List.length_singleton]; omega) K22 K34
    rw [hW'.1.1.1, if_pos (Int32.le_refl _), a1', Option.bind_some]
    dsimp only
    rw [numberOn_v hB hS (a2.w hW) he hs, Option.bind_some]
    refine ⟨g', f', r1, ?_⟩
    rw [List.append_assoc] at r2
    exact r2
theorem mwrite_v (hB : Base m nk cp ev op wt sz pt bd) (hS : Ws m nk cp ev op sz pt st) (hW : Wm m nk cp ev op wt sz pt st bd g f) (h4 : g 4 = I 1) :
    ∃ g' f', p_M_write g f = some (I (linesT m cp ev op sz pt st m).length, g', f') ∧ g' 5 = I (linesT m cp ev op sz pt st m).length ∧ (∀ i, i < (linesT m cp ev op sz pt st m).length → f' 9 i = I ((linesT m cp ev op sz pt st m).getD i 0)) ∧ (∀ x, x ≠ 5 → g' x = g x) ∧ (∀ j, j ≠ 9 → f' j = f j) := by
  have hv := hB.1.2.2.2.2
  have hm := hB.1.1
  have hn := hB.1.2.2.1
  have hW0 : Wm m nk cp ev op wt sz pt st bd (upd g 5 (I 0)) f := ⟨hW.1.fr (fun x hx => upd_n _ _ (by omega)) (fun j hj => rfl), hW.2⟩
  unfold p_M_write
  rw [h4, if_neg (by decide), l_0, lt_, hW0.1.1.1, l_1, I_sub, lt_]
  refine itr_R (fun k z => ∃ (g2 : sG) (f2 : sF), z = (I ((m : Int) - 1 - k), g2, f2) ∧ PM (upd g 5 (I 0)) f (linesT m cp ev op sz pt st k) g2 f2) m
    (fun o => ∃ (g' : sG) (f' : sF), o = some (I (linesT m cp ev op sz pt st m).length, g', f') ∧ g' 5 = I (linesT m cp ev op sz pt st m).length ∧ (∀ i, i < (linesT m cp ev op sz pt st m).length → f' 9 i = I ((linesT m cp ev op sz pt st m).getD i 0)) ∧ (∀ x, x ≠ 5 → g' x = g x) ∧ (∀ j, j ≠ 9 → f' j = f j)) ⟨upd g 5 (I 0), f, by rw [show ((0 : Nat) : Int) = 0 from rfl, Int.sub_zero], ⟨upd_s g 5 (I 0), fun i hi => absurd hi (Nat.not_lt_zero i), fun _ _ => rfl, fun _ _ => rfl⟩⟩ (by omega) ?_ ?_
  · intro K k z hk ⟨g2, f2, ez, hp⟩
    subst ez
    left
    have ek : (m : Int) - 1 - k = ((m - 1 - k : Nat) : Int) := by omega
    have ll := lines_len (m := m) (cp := cp) (op := op) (sz := sz) (pt := pt) (st := st) hv k
    rw [ek]
    dsimp only
    unfold p_M_write_L22
    obtain ⟨g3, f3, d1, d2⟩ := mput hp (by omega) 124
    have d1' : p_M_put (124 : Int32) g2 f2 = some (g3, f3) := d1
    rw [if_neg (by rw [l_0, I_lt (by omega) (by omega) (by omega) (by omega)]; omega), d1', Option.bind_some, l_0]
    refine itr_R (fun e z => ∃ (g' : sG) (f' : sF), z = (I ((m - 1 - k : Nat) : Int), I e, g', f') ∧ PM (upd g 5 (I 0)) f (linesT m cp ev op sz pt st k ++ [124] ++ cells m cp op sz pt st (m - 1 - k) e) g' f') ev (fun o => ∃ s', o = K s' ∧ ∃ (g2 : sG) (f2 : sF), s' = (I ((m : Int) - 1 - ((k + 1 : Nat) : Int)), g2, f2) ∧ PM (upd g 5 (I 0)) f (linesT m cp ev op sz pt st (k + 1)) g2 f2) ⟨g3, f3, rfl, by show PM _ f (linesT m cp ev op sz pt st k ++ [124] ++ []) g3 f3; rw [List.append_nil]; exact d2⟩ (by omega) ?_ ?_
    · intro K2 e z he ⟨g', f', ez, hq⟩
      subst ez
      left
      have cl := cells_len (m := m) (cp := cp) (op := op) (sz := sz) (pt := pt) (st := st) (s := m - 1 - k) e
      have lla : (linesT m cp ev op sz pt st k ++ [124] ++ cells m cp op sz pt st (m - 1 - k) e).length = (linesT m cp ev op sz pt st k).length + 1 + (cells m cp op sz pt st (m - 1 - k) e).length := by rw [List.length_append, List.length_append, List.length_singleton]
      obtain ⟨g4, f4, r1, r2⟩ := mw47 hB hS hW0 hq (by omega) he (show m - 1 - k < m by omega) K K2
      refine ⟨_, ?_, g4, f4, rfl, ?_⟩
      · dsimp only
        unfold p_M_write_L34
        rw [(hq.w hW0).1.1.2.2.2, if_neg (by rw [I_le (by omega) (by omega) (by omega) (by omega)]; omega), l_1, l_0]
        exact r1
      · rw [List.append_assoc] at r2
        exact r2
    · intro K2 z ⟨g', f', ez, hq⟩
      subst ez
      have cl := cells_len (m := m) (cp := cp) (op := op) (sz := sz) (pt := pt) (st := st) (s := m - 1 - k) ev
      have lla : (linesT m cp ev op sz pt st k ++ [124] ++ cells m cp op sz pt st (m - 1 - k) ev).length = (linesT m cp ev op sz pt st k).length + 1 + (cells m cp op sz pt st (m - 1 - k) ev).length := by rw [List.length_append, List.length_append, List.length_singleton]
      obtain ⟨g4, f4, c1, c2⟩ := mput hq (by omega) 45
      obtain ⟨g5, f5, e1, e2⟩ := mput c2 (by rw [List.length_append, List.length_singleton]; omega) 124
      obtain ⟨g6, f6, k1, k2⟩ := mput e2 (by rw [List.length_append, List.length_append, List.length_singleton, List.length_singleton]; omega) 10
      have c1' : p_M_put (45 : Int32) g' f' = some (g4, f4) := c1
      have e1' : p_M_put (124 : Int32) g4 f4 = some (g5, f5) := e1
      have k1' : p_M_put (10 : Int32) g5 f5 = some (g6, f6) := k1
      refine ⟨(I ((m : Int) - 1 - ((k + 1 : Nat) : Int)), g6, f6), ?_, g6, f6, rfl, ?_⟩
      · dsimp only
        unfold p_M_write_L34
        rw [(hq.w hW0).1.1.2.2.2, if_pos (Int32.le_refl _), c1', Option.bind_some]
        dsimp only
        rw [e1', Option.bind_some]
        dsimp only
        rw [k1', Option.bind_some, l_1, I_neg, I_add, lt_, show ((m - 1 - k : Nat) : Int) + -1 = (m : Int) - 1 - ((k + 1 : Nat) : Int) by omega]
      · have : linesT m cp ev op sz pt st (k + 1) = linesT m cp ev op sz pt st k ++ [124] ++ cells m cp op sz pt st (m - 1 - k) ev ++ [45] ++ [124] ++ [10] := by
          show linesT m cp ev op sz pt st k ++ (124 :: (cells m cp op sz pt st (m - 1 - k) ev ++ [45, 124, 10])) = _
          simp only [List.append_assoc, List.singleton_append, List.cons_append, List.nil_append]
        rw [this]
        exact k2
  · intro K z ⟨g2, f2, ez, hp⟩
    subst ez
    dsimp only
    unfold p_M_write_L22
    rw [if_pos (by rw [l_0, I_lt (by omega) (by omega) (by omega) (by omega)]; omega)]
    exact ⟨g2, f2, by rw [hp.1], hp.1, hp.2.1, fun x hx => by rw [hp.2.2.1 x hx, upd_n _ _ hx], hp.2.2.2⟩
theorem r_write : Stw p_FH_write p_M_write := by
  intro gc fc gm fm hR
  obtain ⟨m, nk, cp, ev, tn, op, wt, sz, pt, tp, st, bd, fd, hB, hC, hM, ⟨T0, T1, T2, T3⟩, hFb, h14⟩ := id hR
  cases fd with
  | false =>
    refine ⟨I (-4), gc, fc, gm, fm, ?_, ?_, hR⟩
    · unfold p_FH_write p_Pl_isFound
      rw [hFb.1, if_pos (show I 0 ≤ (0 : Int32) from Int32.le_refl _), Option.bind_some]
      rfl
    · unfold p_M_write
      rw [hFb.2, if_pos (show I 0 = (0 : Int32) from rfl)]
      rfl
  | true =>
    obtain ⟨k4, hv, n4, hE⟩ := id hFb
    have hS : Ws m nk cp ev op sz pt st := fun e he i hi => by
      obtain ⟨a, b, c, -⟩ := (hE e he).2.2.2.1 i hi
      exact ⟨a, b, c⟩
    have hWc : Wc m nk cp ev op wt sz pt st bd gc fc := ⟨hC, k4, fun e he i hi => ((hE e he).2.2.2.1 i hi).2.2.2.2⟩
    have hWm : Wm m nk cp ev op wt sz pt st bd gm fm := ⟨hM, fun e he i hi => ((hE e he).2.2.2.1 i hi).2.2.2.1⟩
    obtain ⟨g1, f1, a1, a2, a3, a4, a5⟩ := writeTab_v hB hS hWc
    obtain ⟨g2, f2, c1, c2, c3, c4, c5⟩ := mwrite_v hB hS hWm n4
    have hv40 := hB.1.2.2.2.2
    have hm7 := hB.1.1
    have ll := lines_len (m := m) (cp := cp) (op := op) (sz := sz) (pt := pt) (st := st) hv40 m
    refine ⟨_, g1, f1, g2, f2, ?_, c1, m, nk, cp, ev, (linesT m cp ev op sz pt st m).length, op, wt, sz, pt, fun i => (linesT m cp ev op sz pt st m).getD i 0, st, bd, true, hB, hC.fr (fun x hx => a4 x (by omega)) (fun j hj => a5 j (by omega) (by omega)), hM.fr (fun x hx => c4 x (by omega)) (fun j hj => c5 j (by omega)), ⟨by omega, a2, c2, fun i hi => ⟨a3 i hi, c3 i hi, ?_⟩⟩, Fb_any hFb (a4 4 (by omega)) (c4 4 (by omega)) (fun j hj => ⟨a5 j (by omega) (by omega), c5 j (by omega)⟩), by rw [a4 14 (by omega), c4 6 (by omega)]; exact h14⟩
    · unfold p_FH_write p_Pl_isFound
      rw [k4, if_neg (by rw [l_0, I_le (by omega) (by omega) (by omega) (by omega)]; omega), Option.bind_some, if_neg (by decide), a1, Option.bind_some]
      dsimp only
      rw [a2]
    · exact lines_bd hB hS m _ (getD_mem hi)
end MW
