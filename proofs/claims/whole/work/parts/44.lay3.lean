section LZ3
variable {m k nk cp : Nat} {op wt P : Nat → Nat} {Bd : Nat → Int}
theorem LPre.fr {i a U : Nat} {lo hi : Int} {f f' : sF} (h : LPre m nk cp op P Bd i a U lo hi f) (hf : ∀ j, j < i → f' 16 j = f 16 j) : LPre m nk cp op P Bd i a U lo hi f' := by
  obtain ⟨h1, h2, h3, h4, h5⟩ := h
  exact ⟨h1, h2, h3, fun j hj => by rw [hf j hj]; exact h4 j hj, h5⟩
theorem roww_bd {i a : Nat} (hm : 0 < m) (h7 : m ≤ 7) (hi : i ≤ 4) : 0 ≤ roww m i a ∧ roww m i a < 8 ^ i ∧ roww m i a ≤ 5000 := by
  have := sm8_bd (d := pdg m i a) (n := i) (fun j _ => by have := pdg_lt (i := i) (a := a) (j := j) hm; omega)
  unfold roww
  refine ⟨this.1, this.2, ?_⟩
  have h8 : (8 : Int) ^ i ≤ 4096 := by
    rcases (show i = 0 ∨ i = 1 ∨ i = 2 ∨ i = 3 ∨ i = 4 by omega) with rfl | rfl | rfl | rfl | rfl <;> decide
  omega
theorem roww_up {i a s : Nat} (hs : s < m) : roww m (i + 1) (a * m + s) = roww m i a + (s : Int) * 8 ^ i := by
  unfold roww
  show sm _ i + (pdg m (i + 1) (a * m + s) i : Int) * 8 ^ i = _
  rw [pdg_last hs, sm_congr (b := fun j => (pdg m i a j : Int) * 8 ^ j) (fun j hj => by rw [pdg_up hj hs])]
theorem with_v {i a s : Nat} {g : sG} {f : sF} (hm : m ≤ 7) (hi : i < 4) (hs : s < m) : p_SR_with (I (roww m i a)) (I i) (I s) g f = some (I (roww m (i + 1) (a * m + s))) := by
  unfold p_SR_with
  have b := roww_bd (i := i) (a := a) (show 0 < m by omega) hm (by omega)
  obtain ⟨r, hr⟩ : ∃ r : Nat, roww m i a = r := ⟨(roww m i a).toNat, by omega⟩
  have hr8 : r < 8 ^ i := by
    have := b.2.1
    rw [hr] at this
    exact_mod_cast this
  rw [roww_up hs, hr, l_3, l_31, bit4 i hi r hr8 s (by omega)]
  congr 2
theorem pow_2401 (hm : m ≤ 7) (hk : k ≤ 4) : m ^ k ≤ 2401 := by
  rcases Nat.eq_zero_or_pos m with z | z
  · subst z
    rcases Nat.eq_zero_or_pos k with y | y
    · subst y; decide
    · rw [Nat.zero_pow y]; omega
  · exact Nat.le_trans (Nat.pow_le_pow_left hm k) (Nat.le_trans (Nat.pow_le_pow_right (by omega) hk) (by decide))
theorem lay (hk1 : 1 ≤ k) : ∀ (d i a U : Nat) (lo hi : Int) (g : sG) (f : sF), k - i < d → i ≤ k → (a + 1) * m ^ (k - i) ≤ m ^ k → LEnv m k nk cp op wt P Bd g f → LPre m nk cp op P Bd i a U lo hi f → TS (CS m k nk cp op wt P) (roww m k) (LL m k nk cp op P Bd (a * m ^ (k - i))) g f →
    ∃ g' f', p_GF_layFrom d (I i) (I U) (I (roww m i a)) (I lo) (I hi) (I (sm (bcs cp wt (frw m nk cp op P i a)) i)) g f = some (g', f') ∧ TS (CS m k nk cp op wt P) (roww m k) (LL m k nk cp op P Bd ((a + 1) * m ^ (k - i))) g' f' ∧ Fr2 i g f g' f' := by
  intro d
  induction d with
  | zero => intro i a U lo hi g f h; omega
  | succ d ih =>
    intro i a U lo hi g f hd hik hle hE hP hT
    have key : ∀ (a1 a2 a3 a4 a5 a6 : Int32) (g : sG) (f : sF), p_GF_layFrom (d + 1) a1 a2 a3 a4 a5 a6 g f = p_GF_layFrom_B (p_GF_layFrom d) a1 a2 a3 a4 a5 a6 g f := fun _ _ _ _ _ _ _ _ => rfl
    rw [key]
    generalize p_GF_layFrom d = Rec at ih ⊢
    obtain ⟨⟨e0, e1, e2, e3⟩, ⟨g0, g1, g2, g5⟩, g6, eO, eW, eP⟩ := id hE
    obtain ⟨h1, h2, h3, h4, h5, h6, h7, h8⟩ := id hP
    have p24 := pow_2401 (m := m) (k := k) e0 e1
    have hbc := bcs_bd (k := i) e2 (fun i hi => (eW i hi).2) (fun j hj => good_fr h1 hj)
    have hle1 : a * m ^ (k - i) ≤ (a + 1) * m ^ (k - i) := Nat.mul_le_mul_right _ (by omega)
    unfold p_GF_layFrom_B
    simp (disch := omega) only [l_0, l_1, l_2, l_3, l_4, l_5, l_6, l_7, l_9, l_10, l_20, l_24, l_25, l_31, l_40, l_45, l_48, l_57, l_99, l_123, l_124, l_127, l_2000, l_far, l_999999, I_sub, I_le, I_lt, g5]
    by_cases hpr : hi - lo ≤ 3
    · rw [if_pos hpr]
      by_cases hik2 : i = k
      · -- a leaf
        subst hik2
        rw [if_pos (by omega)]
        rw [Nat.sub_self, Nat.pow_zero, Nat.mul_one, Nat.mul_one] at *
        have hm0 : 0 < m := by
          rcases Nat.eq_zero_or_pos m with z | z
          · subst z
            rw [Nat.zero_pow (by omega)] at hle
            omega
          · exact z
        have rb := roww_bd (i := i) (a := a) hm0 e0 e1
        obtain ⟨g', f', ev, tv, fv⟩ := tellPositions_v (cp := cp) (nk := nk) (k := i) (wt := wt) (φ := frw m nk cp op P i a) (cost := CS m i nk cp op wt P) (row := roww m i) (L := LL m i nk cp op P Bd a) (c := a) (lo := lo) (hi := hi) hT
          (fun p _ => Nat.le_trans LL_len (by omega)) (fun p _ => LL_cost e1 e2 (fun i hi => (eW i hi).2)) ⟨rb.1, rb.2.2⟩ g6 g2 g5 e1 e2 e3 (fun i hi => (eW i hi).2) (eW 2 (by omega)).1 h4 (fun j hj => good_fr h1 hj) (fun p _ => rfl) h5 h6 h7 h8
        unfold p_GF_layFrom_J23
        rw [ev, Option.bind_some]
        refine ⟨g', f', rfl, fun p hp => ?_, ⟨fv.1, fun j a b => fv.2 j a, fun j _ => by rw [fv.2 16 (by omega)]⟩⟩
        have := tv p hp
        have e : LL m i nk cp op P Bd (a + 1) p = if cb (isGr cp nk i (frw m nk cp op P i a) p) = true then LL m i nk cp op P Bd a p ++ [a] else LL m i nk cp op P Bd a p := by
          rw [LL_app (Nat.le_succ a), gl_one h1]
          by_cases q : cb (isGr cp nk i (frw m nk cp op P i a) p) = true
          · rw [if_pos q, List.filter_cons, if_pos q]
            rfl
          · rw [if_neg q, List.filter_cons, if_neg q]
            exact List.append_nil _
        rw [e]
        exact this
      · -- the strings one after the other
        have hlt : i < k := by omega
        have ek : k - i = (k - (i + 1)) + 1 := by omega
        have hpow : m ^ (k - i) = m ^ (k - (i + 1)) * m := by rw [ek, Nat.pow_succ]
        rw [if_neg (by omega), if_pos (by omega)]
        have hA : ∀ s, (a * m + s) * m ^ (k - (i + 1)) = a * m ^ (k - i) + s * m ^ (k - (i + 1)) := fun s => by
          rw [hpow, Nat.add_mul, Nat.mul_assoc, Nat.mul_comm m]
        refine itr_R (fun s z => ∃ g' f', z = (I i, I U, I (roww m i a), I lo, I hi, I (sm (bcs cp wt (frw m nk cp op P i a)) i), I s, g', f') ∧ TS (CS m k nk cp op wt P) (roww m k) (LL m k nk cp op P Bd ((a * m + s) * m ^ (k - (i + 1)))) g' f' ∧ Fr2 i g f g' f') m (fun o => ∃ g' f', o = some (g', f') ∧ TS (CS m k nk cp op wt P) (roww m k) (LL m k nk cp op P Bd ((a + 1) * m ^ (k - i))) g' f' ∧ Fr2 i g f g' f') ?_ (by omega) ?_ ?_
        · refine ⟨g, f, rfl, ?_, ⟨fun _ _ _ => rfl, fun _ _ _ => rfl, fun _ _ => rfl⟩⟩
          rw [hA 0, Nat.zero_mul, Nat.add_zero]
          exact hT
        · intro K s z hs ⟨g', f', ez, hT', hF'⟩
          subst ez
          left
          have hE' := hE.fr hF'
          obtain ⟨-, ⟨g0', g1', g2', g5'⟩, -, eO', eW', eP'⟩ := id hE'
          have hP' := hP.fr hF'.2.2
          have hs1 : (a * m + s) * m ^ (k - (i + 1)) ≤ (a * m + (s + 1)) * m ^ (k - (i + 1)) := Nat.mul_le_mul_right _ (by omega)
          have eint : (s : Int) + 1 = ((s + 1 : Nat) : Int) := by omega
          -- a string that is passed over
          have skip : ¬ (okd nk cp op P Bd s i ∧ U.testBit s = false) → TS (CS m k nk cp op wt P) (roww m k) (LL m k nk cp op P Bd ((a * m + (s + 1)) * m ^ (k - (i + 1)))) g' f' := by
            intro hno p hp
            rw [LL_same hs1 (fun c c1 c2 cg _ => hno ?_)]
            · exact hT' p hp
            · have hd := in_pre (k := k) (i := i + 1) c1 (by rw [Nat.add_assoc]; exact c2)
              have := good_pre (i := i + 1) (by omega) cg
              rw [hd] at this
              obtain ⟨-, q2, q3⟩ := (good_up hs).mp this
              refine ⟨q2, ?_⟩
              rcases hb : U.testBit s with _ | _
              · rfl
              · obtain ⟨j, hj, ej⟩ := (h3 s (by omega)).mp hb
                exact absurd ej (q3 j hj)
          have skipK : ¬ (okd nk cp op P Bd s i ∧ U.testBit s = false) → p_GF_layFrom_L38 Rec K (I i) (I U) (I (roww m i a)) (I lo) (I hi) (I (sm (bcs cp wt (frw m nk cp op P i a)) i)) (I s) g' f' = K (I i, I U, I (roww m i a), I lo, I hi, I (sm (bcs cp wt (frw m nk cp op P i a)) i), I ((s + 1 : Nat) : Int), g', f') → ∃ s', p_GF_layFrom_L38 Rec K (I i) (I U) (I (roww m i a)) (I lo) (I hi) (I (sm (bcs cp wt (frw m nk cp op P i a)) i)) (I s) g' f' = K s' ∧ ∃ g'' f'', s' = (I i, I U, I (roww m i a), I lo, I hi, I (sm (bcs cp wt (frw m nk cp op P i a)) i), I ((s + 1 : Nat) : Int), g'', f'') ∧ TS (CS m k nk cp op wt P) (roww m k) (LL m k nk cp op P Bd ((a * m + (s + 1)) * m ^ (k - (i + 1)))) g'' f'' ∧ Fr2 i g f g'' f'' :=
            fun hno e => ⟨_, e, g', f', rfl, skip hno, hF'⟩
          dsimp only
          have hJ111n : p_GF_layFrom_J111 Rec K (I i) (I U) (I (roww m i a)) (I lo) (I hi) (I (sm (bcs cp wt (frw m nk cp op P i a)) i)) (I s) (I (-1)) g' f' = K (I i, I U, I (roww m i a), I lo, I hi, I (sm (bcs cp wt (frw m nk cp op P i a)) i), I ((s + 1 : Nat) : Int), g', f') := by
            unfold p_GF_layFrom_J111
            simp only [l_0, l_1, l_2, l_3, l_4, l_5, l_6, l_7, l_9, l_10, l_20, l_24, l_25, l_31, l_40, l_45, l_48, l_57, l_99, l_123, l_124, l_127, l_2000, l_far, l_999999, I_neg, if_true, lt_, I_add, eint]
          have hJ84 : p_GF_layFrom_J84 Rec K (I i) (I U) (I (roww m i a)) (I lo) (I hi) (I (sm (bcs cp wt (frw m nk cp op P i a)) i)) (I s) g' f' = K (I i, I U, I (roww m i a), I lo, I hi, I (sm (bcs cp wt (frw m nk cp op P i a)) i), I ((s + 1 : Nat) : Int), g', f') := by
            unfold p_GF_layFrom_J84 p_GF_layFrom_J85
            simp only [l_0, l_1, l_2, l_3, l_4, l_5, l_6, l_7, l_9, l_10, l_20, l_24, l_25, l_31, l_40, l_45, l_48, l_57, l_99, l_123, l_124, l_127, l_2000, l_far, l_999999, I_neg, if_true]
            exact hJ111n
          obtain ⟨pv, pb, bv, bb1, bb2⟩ := eP' i hlt
          have hL38 : p_GF_layFrom_L38 Rec K (I i) (I U) (I (roww m i a)) (I lo) (I hi) (I (sm (bcs cp wt (frw m nk cp op P i a)) i)) (I s) g' f' = if U.testBit s = false ∧ (Bd i = -1 ∨ Bd i = s) then p_GF_layFrom_J80 Rec K (I i) (I U) (I (roww m i a)) (I lo) (I hi) (I (sm (bcs cp wt (frw m nk cp op P i a)) i)) (I s) g' f' else p_GF_layFrom_J84 Rec K (I i) (I U) (I (roww m i a)) (I lo) (I hi) (I (sm (bcs cp wt (frw m nk cp op P i a)) i)) (I s) g' f' := by
            unfold p_GF_layFrom_L38
            simp (disch := omega) only [l_0, l_1, l_2, l_3, l_4, l_5, l_6, l_7, l_9, l_10, l_20, l_24, l_25, l_31, l_40, l_45, l_48, l_57, l_99, l_123, l_124, l_127, l_2000, l_far, l_999999, g0', I_le, I_lt, I_nat, tn_n, gdG, bv, I_neg, I_eq]
            rw [if_neg (by omega)]
            by_cases hb : U.testBit s = false
            · rw [if_pos ((bit1 U h2 s (by omega)).mpr hb)]
              by_cases hb1 : Bd i = -1
              · rw [if_pos hb1, if_pos ⟨hb, Or.inl hb1⟩]
              · rw [if_neg hb1]
                by_cases hb2 : Bd i = s
                · rw [if_pos hb2, if_pos ⟨hb, Or.inr hb2⟩]
                · rw [if_neg hb2, if_neg (fun z => z.2.elim hb1 hb2)]
            · rw [if_neg (fun z => hb ((bit1 U h2 s (by omega)).mp z)), if_neg (fun z => hb z.1)]
          by_cases hbs : U.testBit s = false ∧ (Bd i = -1 ∨ Bd i = s)
          · have hJ80 : p_GF_layFrom_L38 Rec K (I i) (I U) (I (roww m i a)) (I lo) (I hi) (I (sm (bcs cp wt (frw m nk cp op P i a)) i)) (I s) g' f' = p_GF_layFrom_J111 Rec K (I i) (I U) (I (roww m i a)) (I lo) (I hi) (I (sm (bcs cp wt (frw m nk cp op P i a)) i)) (I s) (I (frt nk cp op s (P i))) g' f' := by
              rw [hL38, if_pos hbs]
              unfold p_GF_layFrom_J80 p_GF_layFrom_J85
              simp (disch := omega) only [l_0, l_1, l_2, l_3, l_4, l_5, l_6, l_7, l_9, l_10, l_20, l_24, l_25, l_31, l_40, l_45, l_48, l_57, l_99, l_123, l_124, l_127, l_2000, l_far, l_999999, I_eq, reduceIte, Int.reduceNeg, Int.reduceEq, Int.reduceLT, Int.reduceLE, Int.reduceAdd, Int.reduceSub, Int.reduceMul, Int.reduceToNat, I_lt, I_nat, tn_n, gdG, pv]
              rw [fretOf_w e0 e2 e3 g0' g1' g2' hs (eO' s hs).1 (eO' s hs).2 (by omega) (by omega), Option.bind_some]
            by_cases hfr : frt nk cp op s (P i) = -1
            · refine skipK (fun z => z.1.1 hfr) ?_
              rw [hJ80, hfr]
              exact hJ111n
            · have hok : okd nk cp op P Bd s i := ⟨hfr, hbs.2⟩
              have hfb := frt_ok hfr
              rw [hJ80]
              -- the longer prefix
              have hb1 : (a * m + s + 1) * m ^ (k - (i + 1)) ≤ (a + 1) * m ^ (k - i) := by
                have e9 : (a + 1) * m ^ (k - i) = a * m ^ (k - i) + m ^ (k - i) := by rw [Nat.add_mul, Nat.one_mul]
                rw [Nat.add_assoc, hA (s + 1), e9]
                refine Nat.add_le_add_left ?_ _
                rw [hpow, Nat.mul_comm]
                exact Nat.mul_le_mul_left _ (by omega)
              have ihs := fun lo' hi' hl hh => ih (i + 1) (a * m + s) (U ||| 2 ^ s) lo' hi' g' (up2 f' 16 i (I (frt nk cp op s (P i)))) (by omega) (by omega) (Nat.le_trans hb1 hle) (hE'.fr (i := i) ⟨fun _ _ _ => rfl, fun j _ hj => up2_n _ _ _ hj, fun j hj => by rw [up2_s, upd_n _ _ (by omega)]⟩) (hP'.up (lo' := lo') (hi' := hi') hs e0 e2 (by omega) hok hbs.1 hl hh) (fun p hp => by
                  have := hT' p hp
                  unfold TSp at this ⊢
                  rw [up2_n _ _ _ (by omega), up2_n _ _ _ (by omega), up2_n _ _ _ (by omega), up2_n _ _ _ (by omega), up2_n _ _ _ (by omega)]
                  exact this)
              have hcst : sm (bcs cp wt (frw m nk cp op P (i + 1) (a * m + s))) (i + 1) = sm (bcs cp wt (frw m nk cp op P i a)) i + (if frt nk cp op s (P i) = cp then (wt 3 : Int) else wt 1 * (frt nk cp op s (P i) - cp)) := by
                show sm _ i + _ = _
                congr 1
                · exact sm_congr (fun j hj => by unfold bcs; rw [frw_up hj hs])
                · unfold bcs
                  rw [frw_last hs]
              have fin : ∀ g'' f'', TS (CS m k nk cp op wt P) (roww m k) (LL m k nk cp op P Bd ((a * m + s + 1) * m ^ (k - (i + 1)))) g'' f'' → Fr2 (i + 1) g' (up2 f' 16 i (I (frt nk cp op s (P i)))) g'' f'' → ∃ g3 f3, (I (i : Int), I (U : Int), I (roww m i a), I lo, I hi, I (sm (bcs cp wt (frw m nk cp op P i a)) i), I ((s + 1 : Nat) : Int), g'', f'') = (I (i : Int), I (U : Int), I (roww m i a), I lo, I hi, I (sm (bcs cp wt (frw m nk cp op P i a)) i), I ((s + 1 : Nat) : Int), g3, f3) ∧ TS (CS m k nk cp op wt P) (roww m k) (LL m k nk cp op P Bd ((a * m + (s + 1)) * m ^ (k - (i + 1)))) g3 f3 ∧ Fr2 i g f g3 f3 := by
                intro g'' f'' a1 a2
                refine ⟨g'', f'', rfl, a1, hF'.tr ⟨a2.1, fun j x y => ?_, fun j x => ?_⟩⟩
                · rw [a2.2.1 j x y, up2_n _ _ _ y]
                · rw [a2.2.2 j (by omega), up2_s, upd_n _ _ (by omega)]
              unfold p_GF_layFrom_J111
              have w3 : up2 f' 16 i (I (frt nk cp op s (P i))) 0 (3 : Int32).toNatClampNeg = I (wt 3) := by rw [up2_n _ _ _ (by omega)]; exact (eW' 3 (by omega)).1
              have w1 : up2 f' 16 i (I (frt nk cp op s (P i))) 0 (1 : Int32).toNatClampNeg = I (wt 1) := by rw [up2_n _ _ _ (by omega)]; exact (eW' 1 (by omega)).1
              have wb1 := (eW' 1 (by omega)).2
              have hi4 : i < 4 := by omega
              simp (disch := omega) only [lt_, with_v (i := i) (a := a) e0 hi4 hs, Option.bind_some, I_nat, tn_n]
              rw [w3, w1, g2']
              simp (disch := omega) only [l_0, l_1, l_2, l_3, l_4, l_5, l_6, l_7, l_9, l_10, l_20, l_24, l_25, l_31, l_40, l_45, l_48, l_57, l_99, l_123, l_124, l_127, l_2000, l_far, l_999999, I_neg, I_eq, I_lt, I_nat, tn_n, gdG, I_add, I_sub, I_mul, bit2 U h2 s (by omega), eint]
              rw [if_neg hfr]
              have e5 : (i : Int) + 1 = ((i + 1 : Nat) : Int) := by omega
              by_cases hop : frt nk cp op s (P i) = cp
              · rw [if_pos hop, e5]
                obtain ⟨g'', f'', ev, tv, fv⟩ := ihs lo hi (by rw [if_pos hop]) (by rw [if_pos hop])
                rw [hcst, if_pos hop] at ev
                rw [ev, Option.bind_some]
                exact ⟨_, rfl, fin g'' f'' tv fv⟩
              · rw [if_neg hop, e5]
                obtain ⟨g'', f'', ev, tv, fv⟩ := ihs (if frt nk cp op s (P i) < lo then frt nk cp op s (P i) else lo) (if hi < frt nk cp op s (P i) then frt nk cp op s (P i) else hi) (by rw [if_neg hop]) (by rw [if_neg hop])
                rw [hcst, if_neg hop] at ev
                have m1 : (if frt nk cp op s (P i) < lo then I (frt nk cp op s (P i)) else I lo) = I (if frt nk cp op s (P i) < lo then frt nk cp op s (P i) else lo) := by split <;> rfl
                have m2 : (if hi < frt nk cp op s (P i) then I (frt nk cp op s (P i)) else I hi) = I (if hi < frt nk cp op s (P i) then frt nk cp op s (P i) else hi) := by split <;> rfl
                rw [m1, m2, ev, Option.bind_some]
                exact ⟨_, rfl, fin g'' f'' tv fv⟩
          · refine skipK (fun z => hbs ⟨z.2, z.1.2⟩) ?_
            rw [hL38, if_neg hbs]
            exact hJ84
        · intro K z ⟨g', f', ez, hT', hF'⟩
          subst ez
          dsimp only
          have hE' := hE.fr hF'
          unfold p_GF_layFrom_L38
          rw [hE'.2.1.1, if_pos (by rw [I_le (by omega) (by omega) (by omega) (by omega)]; omega)]
          refine ⟨g', f', rfl, ?_, hF'⟩
          have e : (a + 1) * m ^ (k - i) = (a * m + m) * m ^ (k - (i + 1)) := by
            rw [hA m, hpow, Nat.add_mul, Nat.one_mul, Nat.mul_comm m]
          rw [e]
          exact hT'
    · rw [if_neg hpr]
      refine ⟨g, f, rfl, fun p hp => ?_, ⟨fun _ _ _ => rfl, fun _ _ _ => rfl, fun _ _ => rfl⟩⟩
      rw [LL_same hle1 (fun c c1 c2 cg hg => hpr ?_)]
      · exact hT p hp
      · have hd := in_pre (k := k) (i := i) c1 c2
        obtain ⟨q1, q2, q3⟩ := hg
        have z1 : (p : Int) ≤ lo := (h5 p).mpr ⟨q2, fun j hj => by
          have := q3 j (by omega)
          rw [frw_pre hik hj, hd] at this
          exact this.imp id (fun z => z.1)⟩
        have z2 : hi ≤ (p : Int) + 3 := (h6 _).mpr ⟨by omega, fun j hj => by
          have := q3 j (by omega)
          rw [frw_pre hik hj, hd] at this
          exact this.imp id (fun z => z.2)⟩
        omega
end LZ3
