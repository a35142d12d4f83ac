section MS
variable {m nk cp ev : Nat} {op wt sz pt : Nat → Nat} {bd : Nat → Int} {g : sG} {f : sF}
def FSs (m nk cp : Nat) (op wt sz pt : Nat → Nat) (bd : Nat → Int) (e p : Nat) (f : sF) : Prop := f 14 (25 * e + p) = I (msum (cF m nk cp op wt sz pt bd e p)) ∧ f 15 (25 * e + p) = I (ecnt (cF m nk cp op wt sz pt bd e p))
theorem cF_bd (hB : Base m nk cp ev op wt sz pt bd) : ∀ (e : Nat), e < ev → ∀ (p : Nat) (a : Int × Nat), p ≤ 24 → cF m nk cp op wt sz pt bd e p = some a → 0 ≤ a.1 ∧ a.1 ≤ 2480 * (e + 1)
  | 0, he, p, a, _, h => by
    have := DD_bd (e := 0) (p := p) hB he h
    omega
  | e + 1, he, p, a, hp, h => by
    have e1 : cF m nk cp op wt sz pt bd (e + 1) p = tmul (DD m nk cp op wt sz pt bd (e + 1) p) (tS (cp + 1) (fun q => tmul (some (mvv wt q p, 1)) (cF m nk cp op wt sz pt bd e q)) (nk - cp)) := rfl
    rw [e1] at h
    cases hD : DD m nk cp op wt sz pt bd (e + 1) p with
    | none => rw [hD] at h; cases h
    | some x =>
      cases hS : tS (cp + 1) (fun q => tmul (some (mvv wt q p, 1)) (cF m nk cp op wt sz pt bd e q)) (nk - cp) with
      | none => rw [hD, hS] at h; cases h
      | some y =>
        rw [hD, hS] at h
        have e2 : x.1 + y.1 = a.1 := congrArg Prod.fst (Option.some.inj h)
        obtain ⟨q, k, q1, q2, hq⟩ := (tS_spec.2 y hS).2
        have b2 := hB.1.2.2.1
        have mb := mvv_bd (wt := wt) (hB.2.2.1 0 (by omega)) (show q ≤ 24 by omega) hp
        cases hc : cF m nk cp op wt sz pt bd e q with
        | none => rw [hc] at hq; cases hq
        | some z =>
          rw [hc] at hq
          have e3 : mvv wt q p + z.1 = y.1 := congrArg Prod.fst (Option.some.inj hq)
          have i := cF_bd hB e (by omega) q z (by omega) hc
          have j := DD_bd hB he hD
          have e4 : ((e + 1 : Nat) : Int) = (e : Int) + 1 := by omega
          omega
theorem move_v (hB : Base m nk cp ev op wt sz pt bd) (hM : Mb m nk cp ev op wt sz pt bd g f) {p q : Nat} (hp : p ≤ 24) (hq : q ≤ 24) : p_M_move (I p) (I q) g f = some (I (mvv wt p q)) := by
  unfold p_M_move mvv
  rw [show f 1 (0 : Int32).toNatClampNeg = I (wt 0) from hM.2.2.1 0 (by omega)]
  simp (disch := omega) only [I_le, I_sub, I_mul]
  by_cases h : (p : Int) ≤ q
  · rw [if_pos h, if_pos h]
  · rw [if_neg h, if_neg h]
def AC (x : tv) (b : Int32) (n : Int64) : Prop := (x = none ∧ b = I 100000000 ∧ n = Jl 0) ∨ ∃ (a : Int × Nat) (N : Nat), x = some a ∧ b = I a.1 ∧ n = Jl N ∧ min N 999999 = min a.2 999999 ∧ N ≤ 30000000
theorem sums171 (hB : Base m nk cp ev op wt sz pt bd) {e p : Nat} (he : e < ev) (hp1 : cp < p) (hp2 : p ≤ nk) {x : tv} {b : Int32} {n : Int64} (hx : AC x b n) (hxb : ∀ a, x = some a → 0 ≤ a.1 ∧ a.1 ≤ 200000) (hf : FCs m nk cp op wt sz pt bd e p f) (K2 : (Int32 × sG × sF) → Option (Int32 × sG × sF)) (K22 : (Int32 × Int32 × sG × sF) → Option (Int32 × sG × sF)) :
    ∃ f', p_M_findSums_J171 K2 K22 (I e) (I p) b n g f = K22 (I e, I ((p + 1 : Nat) : Int), g, f') ∧ (f' 14 (25 * e + p) = I (msum (tmul (DD m nk cp op wt sz pt bd e p) x)) ∧ f' 15 (25 * e + p) = I (ecnt (tmul (DD m nk cp op wt sz pt bd e p) x))) ∧ (∀ j, j ≠ 14 → j ≠ 15 → f' j = f j) ∧ (∀ q, q ≠ 25 * e + p → f' 14 q = f 14 q ∧ f' 15 q = f 15 q) := by
  have b4 := hB.1.2.2.2.2
  have b2 := hB.1.2.2.1
  obtain ⟨f12, f13⟩ := hf
  have ep : (p : Int) + 1 = ((p + 1 : Nat) : Int) := by omega
  -- the way without a plan
  have no : ∀ y : tv, y = none → ∃ f', p_M_findSums_J198 K2 K22 (I e) (I p) b n (I 0) g f = K22 (I e, I ((p + 1 : Nat) : Int), g, f') ∧ (f' 14 (25 * e + p) = I (msum y) ∧ f' 15 (25 * e + p) = I (ecnt y)) ∧ (∀ j, j ≠ 14 → j ≠ 15 → f' j = f j) ∧ (∀ q, q ≠ 25 * e + p → f' 14 q = f 14 q ∧ f' 15 q = f 15 q) := by
    intro y hy
    subst hy
    unfold p_M_findSums_J198 p_M_findSums_J233 p_M_findSums_J275 p_M_at_
    simp (disch := omega) only [l_0, l_1, l_2, l_3, l_4, l_5, l_6, l_7, l_9, l_10, l_20, l_24, l_25, l_31, l_40, l_45, l_48, l_57, l_99, l_123, l_124, l_127, l_2000, l_far, l_999999, Option.bind_some, if_true, I_mul, I_add, I_lt, I_nat, tn_25b, gdG, lt_, ep]
    refine ⟨_, rfl, ⟨?_, ?_⟩, fun j a b => by rw [up2_n _ _ _ b, up2_n _ _ _ a], fun q hq => ⟨?_, ?_⟩⟩
    · rw [up2_n _ _ _ (by omega), up2_s, upd_s]; rfl
    · rw [up2_s, upd_s]; rfl
    · rw [up2_n _ _ _ (by omega), up2_s, upd_n _ _ hq]
    · rw [up2_s, upd_n _ _ hq, up2_n _ _ _ (by omega)]
  unfold p_M_findSums_J171 p_M_findSums_J197 p_M_at_
  rw [l_0]
  simp (disch := omega) only [l_25, l_far, Option.bind_some, I_mul, I_add, I_lt, I_nat, tn_25b, gdG, f12]
  cases hD : DD m nk cp op wt sz pt bd e p with
  | none =>
    rw [if_pos (show I 100000000 ≤ I (msum none) from Int32.le_refl _)]
    exact no _ rfl
  | some d =>
    obtain ⟨d1, d2, d3⟩ := DD_bd hB he hD
    rw [show msum (some d) = d.1 from rfl, if_neg (by rw [I_le (by omega) (by omega) (by omega) (by omega)]; omega)]
    rcases hx with ⟨rfl, rfl, rfl⟩ | ⟨a, N, rfl, rfl, rfl, hN, hNb⟩
    · rw [if_pos (Int32.le_refl _)]
      exact no _ rfl
    · obtain ⟨a1, a2⟩ := hxb a rfl
      rw [if_neg (by rw [I_le (by omega) (by omega) (by omega) (by omega)]; omega)]
      unfold p_M_findSums_J198 p_M_findSums_J233 p_M_findSums_J275 p_M_at_
      rw [hD] at f12 f13
      have q13 : ∀ y, up2 f 14 (25 * e + p) y 13 (25 * e + p) = I d.2 := fun y => by rw [up2_n _ _ _ (by omega)]; exact f13
      have hm := cap_mul d.2 a.2
      have hfew : ∀ (g : sG) (f : sF), p_M_few (Jl N) g f = some (I ((min N 999999 : Nat) : Int)) := fun g f => few_v (by omega)
      have mb : min a.2 999999 ≤ 999999 := by omega
      rw [hN] at hfew
      generalize min a.2 999999 = mm at *
      have hprod : d.2 * mm ≤ 2401 * 999999 := Nat.mul_le_mul d3 mb
      have hfew2 : ∀ (g : sG) (f : sF), p_M_few ((I (mm : Int)).toInt64 * (I (d.2 : Int)).toInt64) g f = some (I ((min (d.2 * mm) 999999 : Nat) : Int)) := fun g f => by
        rw [I_64 (by omega) (by omega), I_64 (by omega) (by omega), J_mul, show ((mm : Int) * (d.2 : Int)) = ((d.2 * mm : Nat) : Int) by rw [Int.mul_comm]; exact (Int.natCast_mul _ _).symm]
        exact few_v (by omega)
      simp (disch := omega) only [l_0, l_1, l_2, l_3, l_4, l_5, l_6, l_7, l_9, l_10, l_20, l_24, l_25, l_31, l_40, l_45, l_48, l_57, l_99, l_123, l_124, l_127, l_2000, l_far, l_999999, Option.bind_some, I_eq, I_mul, I_add, I_lt, I_nat, tn_25b, gdG, lt_, ep, f12, q13, hfew, hfew2, reduceIte, Int.reduceNeg, Int.reduceEq, Int.reduceLT, Int.reduceLE, Int.reduceAdd, Int.reduceSub, Int.reduceMul, Int.reduceToNat, show msum (some d) = d.1 from rfl]
      refine ⟨_, rfl, ⟨?_, ?_⟩, fun j a b => by rw [up2_n _ _ _ b, up2_n _ _ _ a], fun q hq => ⟨?_, ?_⟩⟩
      · rw [up2_n _ _ _ (by omega), up2_s, upd_s]
        show I (a.1 + d.1) = I (d.1 + a.1)
        rw [Int.add_comm]
      · rw [up2_s, upd_s, hm]
        rfl
      · rw [up2_n _ _ _ (by omega), up2_s, upd_n _ _ hq]
      · rw [up2_s, upd_n _ _ hq, up2_n _ _ _ (by omega)]
theorem ecnt_n (x : tv) : ∃ N : Nat, ecnt x = N ∧ N ≤ 999999 := ⟨(ecnt x).toNat, by have := ecnt_bd x; omega, by have := ecnt_bd x; omega⟩
theorem sums60 (hB : Base m nk cp ev op wt sz pt bd) (hM : Mb m nk cp ev op wt sz pt bd g f) {e p : Nat} (he : e + 1 < ev) (hp1 : cp < p) (hp2 : p ≤ nk) (hf : FCs m nk cp op wt sz pt bd (e + 1) p f) (hF : ∀ q, cp < q → q ≤ nk → FSs m nk cp op wt sz pt bd e q f) (K2 : (Int32 × sG × sF) → Option (Int32 × sG × sF)) (K22 : (Int32 × Int32 × sG × sF) → Option (Int32 × sG × sF)) :
    ∃ f', itr (fun K z => p_M_findSums_L60 K2 K22 K z.1 z.2.1 z.2.2.1 z.2.2.2.1 z.2.2.2.2.1 z.2.2.2.2.2.1 z.2.2.2.2.2.2) FUEL (I ((e + 1 : Nat) : Int), I p, I 100000000, Jl 0, I ((cp + 1 : Nat) : Int), g, f) = K22 (I ((e + 1 : Nat) : Int), I ((p + 1 : Nat) : Int), g, f') ∧ FSs m nk cp op wt sz pt bd (e + 1) p f' ∧ (∀ j, j ≠ 14 → j ≠ 15 → f' j = f j) ∧ (∀ q, q ≠ 25 * (e + 1) + p → f' 14 q = f 14 q ∧ f' 15 q = f 15 q) := by
  obtain ⟨⟨b0, b1, b2, b3, b4⟩, bO, bW, bS, bP⟩ := id hB
  refine itr_R (fun t z => ∃ (b : Int32) (n : Int64), z = (I ((e + 1 : Nat) : Int), I p, b, n, I ((cp + 1 + t : Nat) : Int), g, f) ∧ AC (tS (cp + 1) (fun q => tmul (some (mvv wt q p, 1)) (cF m nk cp op wt sz pt bd e q)) t) b n ∧ ∀ a N, tS (cp + 1) (fun q => tmul (some (mvv wt q p, 1)) (cF m nk cp op wt sz pt bd e q)) t = some a → n = Jl N → N ≤ 30000000 → N ≤ 999999 * t ∨ 9 < N) (nk - cp)
    (fun o => ∃ f', o = K22 (I ((e + 1 : Nat) : Int), I ((p + 1 : Nat) : Int), g, f') ∧ FSs m nk cp op wt sz pt bd (e + 1) p f' ∧ (∀ j, j ≠ 14 → j ≠ 15 → f' j = f j) ∧ (∀ q, q ≠ 25 * (e + 1) + p → f' 14 q = f 14 q ∧ f' 15 q = f 15 q)) ?_ (by omega) ?_ ?_
  · sorry
  · sorry
  · sorry
end MS
