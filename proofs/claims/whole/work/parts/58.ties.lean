section TI
variable {m nk cp ev : Nat} {op wt sz pt : Nat → Nat} {bd : Nat → Int} {g : sG} {f : sF}
/-- how many least plans the sums so far tell of -/
def TN (T : Int) (x : tv) (N : Nat) : Prop := ((x = none ∨ ∃ a, x = some a ∧ T < a.1) ∧ N = 0) ∨ ∃ a, x = some a ∧ a.1 = T ∧ min N 999999 = min a.2 999999
theorem TN_n {T : Int} {x : tv} {N : Nat} (h : TN T x N) : TN T (tadd x none) N := by rw [tadd_n]; exact h
theorem TN_gt {T : Int} {x : tv} {N : Nat} (h : TN T x N) {c : Int × Nat} (hc : T < c.1) : TN T (tadd x (some c)) N := by
  rcases h with ⟨rfl | ⟨a, rfl, ha⟩, rfl⟩ | ⟨a, rfl, ha, hN⟩
  · exact Or.inl ⟨Or.inr ⟨c, rfl, hc⟩, rfl⟩
  · refine Or.inl ⟨Or.inr ?_, rfl⟩
    rcases Int.lt_trichotomy a.1 c.1 with w | w | w
    · exact ⟨a, tadd_lt w, ha⟩
    · exact ⟨_, tadd_eq w, ha⟩
    · exact ⟨c, tadd_gt w, hc⟩
  · exact Or.inr ⟨a, tadd_lt (by omega), ha, hN⟩
theorem TN_eq {T : Int} {x : tv} {N : Nat} (h : TN T x N) {c : Int × Nat} (hc : c.1 = T) : TN T (tadd x (some c)) (N + min c.2 999999) := by
  have k1 : min (0 + min c.2 999999) 999999 = min c.2 999999 := by omega
  rcases h with ⟨rfl | ⟨a, rfl, ha⟩, rfl⟩ | ⟨a, rfl, ha, hN⟩
  · exact Or.inr ⟨c, rfl, hc, k1⟩
  · exact Or.inr ⟨c, tadd_gt (by omega), hc, k1⟩
  · refine Or.inr ⟨_, tadd_eq (by omega), ha, ?_⟩
    show min (N + min c.2 999999) 999999 = min (a.2 + c.2) 999999
    omega
theorem mties_v (hB : Base m nk cp ev op wt sz pt bd) (hM : Mb m nk cp ev op wt sz pt bd g f) (hv : 0 < ev) :
    ∃ g' f', p_M_ties g f = some (I (ecnt (cT' m nk cp ev op wt sz pt bd)), g', f') ∧ (∀ x, x ≠ 7 → g' x = g x) ∧ (∀ j, j < 10 ∨ 15 < j → f' j = f j) := by
  obtain ⟨⟨b0, b1, b2, b3, b4⟩, bO, bW, bS, bP⟩ := id hB
  obtain ⟨g', f', s1, s2, s3, s4⟩ := findSums_v hB hM hv
  have hM' : Mb m nk cp ev op wt sz pt bd g' f' := hM.fr (fun x hx => s3 x (by omega)) (fun j hj => s4 j (by omega))
  refine ⟨g', f', ?_, s3, s4⟩
  unfold p_M_ties
  rw [hM.1.2.2.2, if_neg (by rw [l_0, I_eq (by omega) (by omega) (by omega) (by omega)]; omega), s1, Option.bind_some]
  dsimp only
  have hT : cT' m nk cp ev op wt sz pt bd = tS (cp + 1) (cF m nk cp op wt sz pt bd (ev - 1)) (nk - cp) := (tot hv).symm
  rw [hT, l_far]
  have g1 : g' 1 = I nk := hM'.1.2.1
  have g3 : g' 3 = I ev := hM'.1.2.2.2
  have bdd : ∀ t a, t ≤ nk - cp → tS (cp + 1) (cF m nk cp op wt sz pt bd (ev - 1)) t = some a → 0 ≤ a.1 ∧ a.1 ≤ 200000 := fun t a ht h => by
    obtain ⟨q, k, q1, q2, hq⟩ := (tS_spec.2 a h).2
    have : 0 ≤ a.1 ∧ a.1 ≤ 2480 * (((ev - 1 : Nat) : Int) + 1) := cF_bd hB (ev - 1) (by omega) q (a.1, k) (by omega) hq
    omega
  cases hx : tS (cp + 1) (cF m nk cp op wt sz pt bd (ev - 1)) (nk - cp) with
  | none => rw [msum_n, if_pos rfl, ecnt_0, l_0]
  | some T =>
    have tb := bdd _ T (Nat.le_refl _) hx
    have tle := (tS_spec.2 T hx).1
    rw [msum_s, if_neg (by rw [I_eq (by omega) (by omega) (by omega) (by omega)]; omega), hM'.1.2.2.1, l_1, I_add, lt_, show (0 : Int64) = Jl 0 from rfl]
    refine itr_R (fun t z => ∃ N : Nat, z = (I T.1, Jl N, I ((cp + 1 + t : Nat) : Int), g', f') ∧ N ≤ 999999 * t ∧ TN T.1 (tS (cp + 1) (cF m nk cp op wt sz pt bd (ev - 1)) t) N) (nk - cp)
      (fun o => o = some (I (ecnt (some T)), g', f')) ⟨0, rfl, by omega, Or.inl ⟨Or.inl rfl, rfl⟩⟩ (by omega) ?_ ?_
    · intro K t z ht ⟨N, ez, hN, htn⟩
      subst ez
      left
      obtain ⟨q, hq⟩ : ∃ q : Nat, q = cp + 1 + t := ⟨_, rfl⟩
      obtain ⟨f14, f15⟩ := (s2 (ev - 1) q (by omega) (by omega) (by omega)).1
      have hts : tS (cp + 1) (cF m nk cp op wt sz pt bd (ev - 1)) (t + 1) = tadd (tS (cp + 1) (cF m nk cp op wt sz pt bd (ev - 1)) t) (cF m nk cp op wt sz pt bd (ev - 1) q) := by rw [hq]; rfl
      have hq1 : (q : Int) + 1 = ((cp + 1 + (t + 1) : Nat) : Int) := by omega
      have ee : (ev : Int) - 1 = ((ev - 1 : Nat) : Int) := by omega
      have cfb := fun a => cF_bd hB (ev - 1) (show ev - 1 < ev by omega) q a (by omega)
      have cle := fun a h => tle q a (by omega) (by omega) h
      rw [hts, ← hq]
      have body : p_M_ties_L33 K (I T.1) (Jl N) (I q) g' f' = if I (msum (cF m nk cp op wt sz pt bd (ev - 1) q)) = I T.1 then K (I T.1, Jl N + (I (ecnt (cF m nk cp op wt sz pt bd (ev - 1) q))).toInt64, I ((cp + 1 + (t + 1) : Nat) : Int), g', f') else K (I T.1, Jl N + (0 : Int64), I ((cp + 1 + (t + 1) : Nat) : Int), g', f') := by
        unfold p_M_ties_L33 p_M_at_ p_M_ties_J86
        rw [g1, if_neg (by rw [I_lt (by omega) (by omega) (by omega) (by omega)]; omega), g3]
        simp (disch := omega) only [l_0, l_1, l_2, l_3, l_4, l_5, l_6, l_7, l_9, l_10, l_20, l_24, l_25, l_31, l_40, l_45, l_48, l_57, l_99, l_123, l_124, l_127, l_2000, l_far, l_999999, Option.bind_some, I_sub, I_mul, I_add, I_lt, I_nat, ee, tn_25b, gdG, lt_, f14, f15, hq1]
      dsimp only
      rw [body, show (0 : Int64) = Jl 0 from rfl]
      generalize cF m nk cp op wt sz pt bd (ev - 1) q = y at *
      have e0 : (N : Int) + 0 = N := Int.add_zero _
      cases y with
      | none =>
        rw [msum_n, if_neg (by rw [I_eq (by omega) (by omega) (by omega) (by omega)]; omega), J_add, e0]
        exact ⟨_, rfl, N, rfl, by omega, TN_n htn⟩
      | some c =>
        have cb := cfb c rfl
        have cl := cle c rfl
        rw [msum_s, ecnt_s]
        by_cases w : c.1 = T.1
        · have kb : min c.2 999999 ≤ 999999 := Nat.min_le_right _ _
          rw [w, if_pos rfl, I_64 (by omega) (by omega), J_add]
          exact ⟨_, rfl, N + min c.2 999999, rfl, by omega, TN_eq htn w⟩
        · rw [if_neg (by rw [I_eq (by omega) (by omega) (by omega) (by omega)]; omega), J_add, e0]
          exact ⟨_, rfl, N, rfl, by omega, TN_gt htn (by omega)⟩
    · intro K z ⟨N, ez, hN, htn⟩
      subst ez
      dsimp only
      unfold p_M_ties_L33
      rw [g1, if_pos (by rw [I_lt (by omega) (by omega) (by omega) (by omega)]; omega), few_v (by omega), Option.bind_some]
      rw [hx] at htn
      rcases htn with ⟨h | ⟨a, h, ha⟩, _⟩ | ⟨a, h, ha, hn⟩
      · cases h
      · cases h; omega
      · cases h
        rw [ecnt_s, hn]
theorem r_ties : Stw p_FH_ties p_M_ties := by
  intro gc fc gm fm hR
  obtain ⟨m, nk, cp, ev, tn, op, wt, sz, pt, tp, st, bd, fd, hB, hC, hM, _⟩ := id hR
  by_cases hv : ev = 0
  · subst hv
    refine ⟨I (-4), gc, fc, gm, fm, ?_, ?_, hR⟩
    · unfold p_FH_ties
      rw [hC.1.2.2.2, if_pos (show I ((0 : Nat) : Int) = (0 : Int32) from rfl)]; rfl
    · unfold p_M_ties
      rw [hM.1.2.2.2, if_pos (show I ((0 : Nat) : Int) = (0 : Int32) from rfl)]; rfl
  · obtain ⟨g1, f1, e1, a1, a2⟩ := cties_v hB hC (by omega)
    obtain ⟨g2, f2, e2, c1, c2⟩ := mties_v hB hM (by omega)
    exact ⟨_, g1, f1, g2, f2, e1, e2, Rel_fr hR (fun x hx => a1 x (by omega)) (fun j hj => a2 j (by omega)) (fun x hx => c1 x (by omega)) (fun j hj => c2 j (by omega))⟩
end TI
