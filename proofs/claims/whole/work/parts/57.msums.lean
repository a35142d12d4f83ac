section MS
variable {m nk cp ev : Nat} {op wt sz pt : Nat → Nat} {bd : Nat → Int} {g : sG} {f : sF}
def FSs (m nk cp : Nat) (op wt sz pt : Nat → Nat) (bd : Nat → Int) (e p : Nat) (f : sF) : Prop := f 14 (25 * e + p) = I (msum (cF m nk cp op wt sz pt bd e p)) ∧ f 15 (25 * e + p) = I (ecnt (cF m nk cp op wt sz pt bd e p))
theorem cF_bd (hB : Base m nk cp ev op wt sz pt bd) : ∀ (e : Nat), e < ev → ∀ (p : Nat) (a : Int × Nat), p ≤ 24 → cF m nk cp op wt sz pt bd e p = some a → 0 ≤ a.1 ∧ a.1 ≤ 2480 * (e + 1)
  | 0, he, p, a, _, h => by
    have := DD_bd (e := 0) (p := p) hB he h
    omega
  | e + 1, he, p, a, hp, h => by
    have e1 : cF m nk cp op wt sz pt bd (e + 1) p = tmul (DD m nk cp op wt sz pt bd (e + 1) p) (tS (cp + 1) (fun q => tmul (some (mvv wt q p, 1)) (cF m nk cp op wt sz pt bd e q)) (nk - cp)) := rfl
    rw [e1] at h
    cases hD : DD m nk cp op wt sz pt bd (e + 1) p with
    | none => rw [hD] at h; cases h
    | some x =>
      cases hS : tS (cp + 1) (fun q => tmul (some (mvv wt q p, 1)) (cF m nk cp op wt sz pt bd e q)) (nk - cp) with
      | none => rw [hD, hS] at h; cases h
      | some y =>
        rw [hD, hS] at h
        have e2 : x.1 + y.1 = a.1 := congrArg Prod.fst (Option.some.inj h)
        obtain ⟨q, k, q1, q2, hq⟩ := (tS_spec.2 y hS).2
        have b2 := hB.1.2.2.1
        have mb := mvv_bd (wt := wt) (hB.2.2.1 0 (by omega)) (show q ≤ 24 by omega) hp
        cases hc : cF m nk cp op wt sz pt bd e q with
        | none => rw [hc] at hq; cases hq
        | some z =>
          rw [hc] at hq
          have e3 : mvv wt q p + z.1 = y.1 := congrArg Prod.fst (Option.some.inj hq)
          have i := cF_bd hB e (by omega) q z (by omega) hc
          have j := DD_bd hB he hD
          have e4 : ((e + 1 : Nat) : Int) = (e : Int) + 1 := by omega
          omega
theorem move_v (hB : Base m nk cp ev op wt sz pt bd) (hM : Mb m nk cp ev op wt sz pt bd g f) {p q : Nat} (hp : p ≤ 24) (hq : q ≤ 24) : p_M_move (I p) (I q) g f = some (I (mvv wt p q)) := by
  unfold p_M_move mvv
  rw [show f 1 (0 : Int32).toNatClampNeg = I (wt 0) from hM.2.2.1 0 (by omega)]
  simp (disch := omega) only [I_le, I_sub, I_mul]
  by_cases h : (p : Int) ≤ q
  · rw [if_pos h, if_pos h]
  · rw [if_neg h, if_neg h]
def AC (B : Nat) (x : tv) (b : Int32) (n : Int64) : Prop := (x = none ∧ b = I 100000000 ∧ n = Jl 0) ∨ ∃ (a : Int × Nat) (N : Nat), x = some a ∧ b = I a.1 ∧ n = Jl N ∧ min N 999999 = min a.2 999999 ∧ N ≤ B
theorem msum_n : msum none = 100000000 := rfl
theorem msum_s (a : Int × Nat) : msum (some a) = a.1 := rfl
theorem ecnt_0 : ecnt none = 0 := rfl
theorem ecnt_s (a : Int × Nat) : ecnt (some a) = ((min a.2 999999 : Nat) : Int) := rfl
theorem tmul_s (a b : Int × Nat) : tmul (some a) (some b) = some (a.1 + b.1, a.2 * b.2) := rfl
def S171 (m nk cp : Nat) (op wt sz pt : Nat → Nat) (bd : Nat → Int) (e p : Nat) (x : tv) (f f' : sF) : Prop := (f' 14 (25 * e + p) = I (msum (tmul (DD m nk cp op wt sz pt bd e p) x)) ∧ f' 15 (25 * e + p) = I (ecnt (tmul (DD m nk cp op wt sz pt bd e p) x))) ∧ (∀ j, j ≠ 14 → j ≠ 15 → f' j = f j) ∧ (∀ q, q ≠ 25 * e + p → f' 14 q = f 14 q ∧ f' 15 q = f 15 q)
theorem sums198n (hB : Base m nk cp ev op wt sz pt bd) {e p : Nat} (he : e < ev) (hp2 : p ≤ nk) {x : tv} {b : Int32} {n : Int64} (hx : tmul (DD m nk cp op wt sz pt bd e p) x = none) (K2 : (Int32 × sG × sF) → Option (Int32 × sG × sF)) (K22 : (Int32 × Int32 × sG × sF) → Option (Int32 × sG × sF)) :
    ∃ f', p_M_findSums_J198 K2 K22 (I e) (I p) b n (I 0) g f = K22 (I e, I ((p + 1 : Nat) : Int), g, f') ∧ S171 m nk cp op wt sz pt bd e p x f f' := by
  have b4 := hB.1.2.2.2.2
  have b2 := hB.1.2.2.1
  have ep : (p : Int) + 1 = ((p + 1 : Nat) : Int) := by omega
  unfold S171
  rw [hx, msum_n, ecnt_0]
  unfold p_M_findSums_J198 p_M_findSums_J233 p_M_findSums_J275 p_M_at_
  simp (disch := omega) only [l_0, l_1, l_2, l_3, l_4, l_5, l_6, l_7, l_9, l_10, l_20, l_24, l_25, l_31, l_40, l_45, l_48, l_57, l_99, l_123, l_124, l_127, l_2000, l_far, l_999999, Option.bind_some, if_true, I_mul, I_add, I_lt, I_nat, tn_25b, gdG, lt_, ep]
  refine ⟨_, rfl, ⟨?_, ?_⟩, fun j a b => by rw [up2_n _ _ _ b, up2_n _ _ _ a], fun q hq => ⟨?_, ?_⟩⟩
  · rw [up2_n _ _ _ (by omega), up2_s, upd_s]
  · rw [up2_s, upd_s]
  · rw [up2_n _ _ _ (by omega), up2_s, upd_n _ _ hq]
  · rw [up2_s, upd_n _ _ hq, up2_n _ _ _ (by omega)]
theorem sums198s (hB : Base m nk cp ev op wt sz pt bd) {e p : Nat} (he : e < ev) (hp2 : p ≤ nk) {a d : Int × Nat} {N : Nat} (hN : min N 999999 = min a.2 999999) (hNb : N ≤ 30000000) (a1 : 0 ≤ a.1) (a2 : a.1 ≤ 200000) (hD : DD m nk cp op wt sz pt bd e p = some d) (hf : FCs m nk cp op wt sz pt bd e p f) (K2 : (Int32 × sG × sF) → Option (Int32 × sG × sF)) (K22 : (Int32 × Int32 × sG × sF) → Option (Int32 × sG × sF)) :
    ∃ f', p_M_findSums_J198 K2 K22 (I e) (I p) (I a.1) (Jl N) (I 1) g f = K22 (I e, I ((p + 1 : Nat) : Int), g, f') ∧ S171 m nk cp op wt sz pt bd e p (some a) f f' := by
  have b4 := hB.1.2.2.2.2
  have b2 := hB.1.2.2.1
  obtain ⟨d1, d2, d3⟩ := DD_bd hB he hD
  obtain ⟨f12, f13⟩ := hf
  have ep : (p : Int) + 1 = ((p + 1 : Nat) : Int) := by omega
  rw [hD] at f12 f13
  unfold S171
  rw [hD, tmul_s, msum_s, ecnt_s]
  rw [msum_s] at f12
  have q13 : ∀ y, up2 f 14 (25 * e + p) y 13 (25 * e + p) = I d.2 := fun y => by rw [up2_n _ _ _ (by omega)]; exact f13
  have hm := cap_mul d.2 a.2
  have hfew : ∀ (g : sG) (f : sF), p_M_few (Jl N) g f = some (I ((min N 999999 : Nat) : Int)) := fun g f => few_v (by omega)
  have mb : min a.2 999999 ≤ 999999 := Nat.min_le_right _ _
  rw [hN] at hfew
  show ∃ f' : sF, _ ∧ (f' 14 (25 * e + p) = I (d.1 + a.1) ∧ f' 15 (25 * e + p) = I ((min (d.2 * a.2) 999999 : Nat) : Int)) ∧ _ ∧ _
  rw [← hm]
  generalize min a.2 999999 = mm at *
  have hprod : d.2 * mm ≤ 2401 * 999999 := Nat.mul_le_mul d3 mb
  generalize hdm : d.2 * mm = dm at *
  have hfew2 : ∀ (g : sG) (f : sF), p_M_few ((I (mm : Int)).toInt64 * (I (d.2 : Int)).toInt64) g f = some (I ((min dm 999999 : Nat) : Int)) := fun g f => by
    rw [I_64 (by omega) (by omega), I_64 (by omega) (by omega), J_mul, show ((mm : Int) * (d.2 : Int)) = (dm : Int) by rw [Int.mul_comm, ← hdm]; exact (Int.natCast_mul _ _).symm]
    exact few_v (by omega)
  generalize min dm 999999 = md at *
  clear hprod hdm hm mb hN hNb d3
  unfold p_M_findSums_J198 p_M_findSums_J233 p_M_findSums_J275 p_M_at_
  have ne : ¬ I 1 = I 0 := by decide
  simp only [l_0, l_1, l_2, l_3, l_4, l_5, l_6, l_7, l_9, l_10, l_20, l_24, l_25, l_31, l_40, l_45, l_48, l_57, l_99, l_123, l_124, l_127, l_2000, l_far, l_999999, ne, if_false, Option.bind_some, I_mul]
  simp (disch := omega) only [I_add, I_lt, I_nat, tn_25b, gdG, f12]
  simp only [q13, lt_, hfew, Option.bind_some]
  simp only [hfew2, I_add, Option.bind_some, ep]
  refine ⟨_, rfl, ⟨?_, ?_⟩, fun j a b => by rw [up2_n _ _ _ b, up2_n _ _ _ a], fun q hq => ⟨?_, ?_⟩⟩
  · rw [up2_n _ _ _ (by omega), up2_s, upd_s, Int.add_comm]
  · rw [up2_s, upd_s]
  · rw [up2_n _ _ _ (by omega), up2_s, upd_n _ _ hq]
  · rw [up2_s, upd_n _ _ hq, up2_n _ _ _ (by omega)]
theorem sums171 (hB : Base m nk cp ev op wt sz pt bd) {e p : Nat} (he : e < ev) (hp2 : p ≤ nk) {B : Nat} (hBd : B ≤ 30000000) {x : tv} {b : Int32} {n : Int64} (hx : AC B x b n) (hxb : ∀ a, x = some a → 0 ≤ a.1 ∧ a.1 ≤ 200000) (hf : FCs m nk cp op wt sz pt bd e p f) (K2 : (Int32 × sG × sF) → Option (Int32 × sG × sF)) (K22 : (Int32 × Int32 × sG × sF) → Option (Int32 × sG × sF)) :
    ∃ f', p_M_findSums_J171 K2 K22 (I e) (I p) b n g f = K22 (I e, I ((p + 1 : Nat) : Int), g, f') ∧ S171 m nk cp op wt sz pt bd e p x f f' := by
  have b4 := hB.1.2.2.2.2
  have b2 := hB.1.2.2.1
  have f12 := hf.1
  unfold p_M_findSums_J171 p_M_findSums_J197 p_M_at_
  rw [l_0]
  simp (disch := omega) only [l_1, l_25, l_far, Option.bind_some, I_mul, I_add, I_lt, I_nat, tn_25b, gdG, f12]
  cases hD : DD m nk cp op wt sz pt bd e p with
  | none =>
    rw [msum_n, if_pos (Int32.le_refl _)]
    exact sums198n hB he hp2 (by rw [hD]; rfl) K2 K22
  | some d =>
    obtain ⟨d1, d2, d3⟩ := DD_bd hB he hD
    rw [msum_s, if_neg (by rw [I_le (by omega) (by omega) (by omega) (by omega)]; omega)]
    rcases hx with ⟨rfl, rfl, rfl⟩ | ⟨a, N, rfl, rfl, rfl, hN, hNb⟩
    · rw [if_pos (Int32.le_refl _)]
      exact sums198n hB he hp2 (tmul_n _) K2 K22
    · obtain ⟨a1, a2⟩ := hxb a rfl
      rw [if_neg (by rw [I_le (by omega) (by omega) (by omega) (by omega)]; omega)]
      exact sums198s hB he hp2 hN (by omega) a1 a2 hD hf K2 K22
theorem ecnt_n (x : tv) : ∃ N : Nat, ecnt x = N ∧ N ≤ 999999 := ⟨(ecnt x).toNat, by have := ecnt_bd x; omega, by have := ecnt_bd x; omega⟩
/-- what comes to p at event e + 1 -/
noncomputable def cG (m nk cp : Nat) (op wt sz pt : Nat → Nat) (bd : Nat → Int) (e p t : Nat) : tv := tS (cp + 1) (fun q => tmul (some (mvv wt q p, 1)) (cF m nk cp op wt sz pt bd e q)) t
theorem cG_s {e p t : Nat} : cG m nk cp op wt sz pt bd e p (t + 1) = tadd (cG m nk cp op wt sz pt bd e p t) (tmul (some (mvv wt (cp + 1 + t) p, 1)) (cF m nk cp op wt sz pt bd e (cp + 1 + t))) := rfl
theorem cG_bd (hB : Base m nk cp ev op wt sz pt bd) {e p t : Nat} (he : e < ev) (hp : p ≤ 24) (ht : t ≤ nk - cp) {a : Int × Nat} (h : cG m nk cp op wt sz pt bd e p t = some a) : 0 ≤ a.1 ∧ a.1 ≤ 200000 := by
  obtain ⟨q, k, q1, q2, hq⟩ := (tS_spec.2 a h).2
  have b2 := hB.1.2.2.1
  have b4 := hB.1.2.2.2.2
  have mb := mvv_bd (wt := wt) (hB.2.2.1 0 (by omega)) (show q ≤ 24 by omega) hp
  cases hc : cF m nk cp op wt sz pt bd e q with
  | none => rw [hc] at hq; cases hq
  | some z =>
    rw [hc] at hq
    have e3 : mvv wt q p + z.1 = a.1 := congrArg Prod.fst (Option.some.inj hq)
    have i := cF_bd hB e (by omega) q z (by omega) hc
    omega
theorem sums60 (hB : Base m nk cp ev op wt sz pt bd) (hM : Mb m nk cp ev op wt sz pt bd g f) {e p : Nat} (he : e + 1 < ev) (hp1 : cp < p) (hp2 : p ≤ nk) (hf : FCs m nk cp op wt sz pt bd (e + 1) p f) (hF : ∀ q, cp < q → q ≤ nk → FSs m nk cp op wt sz pt bd e q f) (K2 : (Int32 × sG × sF) → Option (Int32 × sG × sF)) (K22 : (Int32 × Int32 × sG × sF) → Option (Int32 × sG × sF)) :
    ∃ f', itr (fun K z => p_M_findSums_L60 K2 K22 K z.1 z.2.1 z.2.2.1 z.2.2.2.1 z.2.2.2.2.1 z.2.2.2.2.2.1 z.2.2.2.2.2.2) FUEL (I ((e + 1 : Nat) : Int), I p, I 100000000, Jl 0, I ((cp + 1 : Nat) : Int), g, f) = K22 (I ((e + 1 : Nat) : Int), I ((p + 1 : Nat) : Int), g, f') ∧ S171 m nk cp op wt sz pt bd (e + 1) p (cG m nk cp op wt sz pt bd e p (nk - cp)) f f' := by
  obtain ⟨⟨b0, b1, b2, b3, b4⟩, bO, bW, bS, bP⟩ := id hB
  have g1 : g 1 = I nk := hM.1.2.1
  refine itr_R (fun t z => ∃ (b : Int32) (n : Int64), z = (I ((e + 1 : Nat) : Int), I p, b, n, I ((cp + 1 + t : Nat) : Int), g, f) ∧ AC (999999 * t) (cG m nk cp op wt sz pt bd e p t) b n) (nk - cp)
    (fun o => ∃ f', o = K22 (I ((e + 1 : Nat) : Int), I ((p + 1 : Nat) : Int), g, f') ∧ S171 m nk cp op wt sz pt bd (e + 1) p (cG m nk cp op wt sz pt bd e p (nk - cp)) f f') ?_ (by omega) ?_ ?_
  · exact ⟨_, _, by rw [Nat.add_zero], Or.inl ⟨rfl, rfl, rfl⟩⟩
  · intro K t z ht ⟨b, n, ez, hac⟩
    subst ez
    left
    obtain ⟨q, hq⟩ : ∃ q : Nat, q = cp + 1 + t := ⟨_, rfl⟩
    have hq1 : (q : Int) + 1 = ((cp + 1 + (t + 1) : Nat) : Int) := by omega
    obtain ⟨f14, f15⟩ := hF q (by omega) (by omega)
    have mb := mvv_bd (wt := wt) (bW 0 (by omega)) (show q ≤ 24 by omega) (show p ≤ 24 by omega)
    have mvq := move_v (p := q) (q := p) hB hM (by omega) (by omega)
    have cgs := cG_s (m := m) (nk := nk) (cp := cp) (op := op) (wt := wt) (sz := sz) (pt := pt) (bd := bd) (e := e) (p := p) (t := t)
    have cgb := fun a => cG_bd (a := a) hB (show e < ev by omega) (show p ≤ 24 by omega) (show t ≤ nk - cp by omega)
    have cfb := fun a => cF_bd hB e (show e < ev by omega) q a (by omega)
    rw [← hq] at cgs ⊢
    have ee : ((e + 1 : Nat) : Int) - 1 = e := by omega
    have body : p_M_findSums_L60 K2 K22 K (I ((e + 1 : Nat) : Int)) (I p) b n (I q) g f = (if b ≤ I (msum (cF m nk cp op wt sz pt bd e q) + mvv wt q p) then (if I (msum (cF m nk cp op wt sz pt bd e q) + mvv wt q p) = b then p_M_findSums_J150 K2 K22 K (I ((e + 1 : Nat) : Int)) (I p) b (I q) (I (msum (cF m nk cp op wt sz pt bd e q) + mvv wt q p)) (n + (I (ecnt (cF m nk cp op wt sz pt bd e q))).toInt64) g f else p_M_findSums_J150 K2 K22 K (I ((e + 1 : Nat) : Int)) (I p) b (I q) (I (msum (cF m nk cp op wt sz pt bd e q) + mvv wt q p)) n g f) else p_M_findSums_J150 K2 K22 K (I ((e + 1 : Nat) : Int)) (I p) b (I q) (I (msum (cF m nk cp op wt sz pt bd e q) + mvv wt q p)) (I (ecnt (cF m nk cp op wt sz pt bd e q))).toInt64 g f) := by
      unfold p_M_findSums_L60 p_M_at_
      rw [g1, if_neg (by rw [I_lt (by omega) (by omega) (by omega) (by omega)]; omega), if_neg (by rw [l_0, I_le (by omega) (by omega) (by omega) (by omega)]; omega)]
      simp (disch := omega) only [l_0, l_1, l_2, l_3, l_4, l_5, l_6, l_7, l_9, l_10, l_20, l_24, l_25, l_31, l_40, l_45, l_48, l_57, l_99, l_123, l_124, l_127, l_2000, l_far, l_999999, Option.bind_some, I_sub, I_mul, I_add, I_lt, I_nat, ee, tn_25b, gdG, lt_, f14, f15, mvq]
    have j150 : ∀ b v y, p_M_findSums_J150 K2 K22 K (I ((e + 1 : Nat) : Int)) (I p) b (I q) v y g f = K (I ((e + 1 : Nat) : Int), I p, (if b ≤ v then b else v), y, I ((cp + 1 + (t + 1) : Nat) : Int), g, f) := fun b v y => by
      unfold p_M_findSums_J150
      simp only [l_0, l_1, l_2, l_3, l_4, l_5, l_6, l_7, l_9, l_10, l_20, l_24, l_25, l_31, l_40, l_45, l_48, l_57, l_99, l_123, l_124, l_127, l_2000, l_far, l_999999, I_add, hq1, lt_]
      split <;> rfl
    dsimp only
    rw [body]
    simp only [j150]
    rw [cgs]
    generalize cF m nk cp op wt sz pt bd e q = y at *
    generalize cG m nk cp op wt sz pt bd e p t = x at *
    generalize mvv wt q p = mv at *
    cases y with
    | none =>
      rw [tmul_n, tadd_n, msum_n, ecnt_0]
      rcases hac with ⟨rfl, rfl, rfl⟩ | ⟨a, N, rfl, rfl, rfl, hN, hNb⟩
      · rw [if_pos (show I 100000000 ≤ I (100000000 + mv) by rw [I_le (by omega) (by omega) (by omega) (by omega)]; omega)]
        rw [if_pos (show I 100000000 ≤ I (100000000 + mv) by rw [I_le (by omega) (by omega) (by omega) (by omega)]; omega)]
        refine ⟨_, ?_, _, _, rfl, Or.inl ⟨rfl, rfl, rfl⟩⟩
        rw [I_64 (by omega) (by omega), J_add]
        split <;> rfl
      · have := cgb a rfl
        rw [if_pos (show I a.1 ≤ I (100000000 + mv) by rw [I_le (by omega) (by omega) (by omega) (by omega)]; omega), if_pos (show I a.1 ≤ I (100000000 + mv) by rw [I_le (by omega) (by omega) (by omega) (by omega)]; omega), if_neg (show ¬ I (100000000 + mv) = I a.1 by rw [I_eq (by omega) (by omega) (by omega) (by omega)]; omega)]
        exact ⟨_, rfl, _, _, rfl, Or.inr ⟨a, N, rfl, rfl, rfl, hN, by omega⟩⟩
    | some c =>
      have cb := cfb c rfl
      rw [msum_s, ecnt_s, tmul_s]
      have kb : min c.2 999999 ≤ 999999 := Nat.min_le_right _ _
      have kk : min (1 * c.2) 999999 = min c.2 999999 := by rw [Nat.one_mul]
      have k1 : min (min c.2 999999) 999999 = min c.2 999999 := by omega
      rcases hac with ⟨rfl, rfl, rfl⟩ | ⟨a, N, rfl, rfl, rfl, hN, hNb⟩
      · rw [if_neg (show ¬ I 100000000 ≤ I (c.1 + mv) by rw [I_le (by omega) (by omega) (by omega) (by omega)]; omega), if_neg (show ¬ I 100000000 ≤ I (c.1 + mv) by rw [I_le (by omega) (by omega) (by omega) (by omega)]; omega), n_tadd]
        refine ⟨_, rfl, _, _, rfl, Or.inr ⟨_, min c.2 999999, rfl, ?_, ?_, ?_, by omega⟩⟩
        · rw [Int.add_comm]
        · rw [I_64 (by omega) (by omega)]
        · rw [k1]; exact kk.symm
      · have ab := cgb a rfl
        rcases Int.lt_trichotomy a.1 (mv + c.1) with h | h | h
        · rw [if_pos (show I a.1 ≤ I (c.1 + mv) by rw [I_le (by omega) (by omega) (by omega) (by omega)]; omega), if_pos (show I a.1 ≤ I (c.1 + mv) by rw [I_le (by omega) (by omega) (by omega) (by omega)]; omega), if_neg (show ¬ I (c.1 + mv) = I a.1 by rw [I_eq (by omega) (by omega) (by omega) (by omega)]; omega), tadd_lt h]
          exact ⟨_, rfl, _, _, rfl, Or.inr ⟨a, N, rfl, rfl, rfl, hN, by omega⟩⟩
        · rw [if_pos (show I a.1 ≤ I (c.1 + mv) by rw [I_le (by omega) (by omega) (by omega) (by omega)]; omega), if_pos (show I a.1 ≤ I (c.1 + mv) by rw [I_le (by omega) (by omega) (by omega) (by omega)]; omega), if_pos (show I (c.1 + mv) = I a.1 by rw [h, Int.add_comm]), tadd_eq h]
          refine ⟨_, rfl, _, _, rfl, Or.inr ⟨_, N + min c.2 999999, rfl, rfl, ?_, ?_, by omega⟩⟩
          · rw [I_64 (by omega) (by omega), J_add]; rfl
          · show min (N + min c.2 999999) 999999 = min (a.2 + 1 * c.2) 999999
            rw [Nat.one_mul]
            omega
        · rw [if_neg (show ¬ I a.1 ≤ I (c.1 + mv) by rw [I_le (by omega) (by omega) (by omega) (by omega)]; omega), if_neg (show ¬ I a.1 ≤ I (c.1 + mv) by rw [I_le (by omega) (by omega) (by omega) (by omega)]; omega), tadd_gt h]
          refine ⟨_, rfl, _, _, rfl, Or.inr ⟨_, min c.2 999999, rfl, ?_, ?_, ?_, by omega⟩⟩
          · rw [Int.add_comm]
          · rw [I_64 (by omega) (by omega)]
          · rw [k1]; exact kk.symm
  · intro K z ⟨b, n, ez, hac⟩
    subst ez
    dsimp only
    unfold p_M_findSums_L60
    rw [g1, if_pos (by rw [I_lt (by omega) (by omega) (by omega) (by omega)]; omega)]
    exact sums171 hB he hp2 (B := 999999 * (nk - cp)) (by omega) hac (fun a ha => cG_bd hB (show e < ev by omega) (show p ≤ 24 by omega) (Nat.le_refl _) ha) hf K2 K22
theorem sums50 (hB : Base m nk cp ev op wt sz pt bd) (hM : Mb m nk cp ev op wt sz pt bd g f) {e p : Nat} (he : e < ev) (hp1 : cp < p) (hp2 : p ≤ nk) (hf : FCs m nk cp op wt sz pt bd e p f) (hF : ∀ e' q, e' < e → cp < q → q ≤ nk → FSs m nk cp op wt sz pt bd e' q f) (K2 : (Int32 × sG × sF) → Option (Int32 × sG × sF)) (K22 : (Int32 × Int32 × sG × sF) → Option (Int32 × sG × sF)) :
    ∃ f', p_M_findSums_L22 K2 K22 (I e) (I p) g f = K22 (I e, I ((p + 1 : Nat) : Int), g, f') ∧ FSs m nk cp op wt sz pt bd e p f' ∧ (∀ j, j ≠ 14 → j ≠ 15 → f' j = f j) ∧ (∀ q, q ≠ 25 * e + p → f' 14 q = f 14 q ∧ f' 15 q = f 15 q) := by
  obtain ⟨⟨b0, b1, b2, b3, b4⟩, bO, bW, bS, bP⟩ := id hB
  have g1 : g 1 = I nk := hM.1.2.1
  have g2 : g 2 = I cp := hM.1.2.2.1
  unfold p_M_findSums_L22 p_M_findSums_J40 p_M_findSums_J50
  rw [g1, if_neg (by rw [I_lt (by omega) (by omega) (by omega) (by omega)]; omega), g2, l_1, I_add, lt_, lt_, l_0, l_far, show (0 : Int64) = Jl 0 from rfl, show (1 : Int64) = Jl 1 from rfl, show (cp : Int) + 1 = ((cp + 1 : Nat) : Int) by omega]
  cases e with
  | zero =>
    have e0 : ¬ I ((0 : Nat) : Int) = I 0 → False := fun h => h rfl
    rw [if_pos (show I ((0 : Nat) : Int) = I 0 from rfl), if_pos (show I ((0 : Nat) : Int) = I 0 from rfl)]
    have r := sums171 (g := g) (x := some (0, 1)) (b := I 0) (n := Jl 1) hB he hp2 (B := 1) (by omega) (Or.inr ⟨(0, 1), 1, rfl, rfl, rfl, rfl, by omega⟩) (fun a ha => by cases ha; exact ⟨by decide, by decide⟩) hf K2 K22
    obtain ⟨f', r1, r2, r3, r4⟩ := r
    rw [tmul_one] at r2
    refine ⟨f', ?_, r2, r3, r4⟩
    rw [← r1]
    refine itr_F _ _ 0 _ (fun n hn => ?_) (by omega)
    obtain ⟨n', rfl⟩ : ∃ n', n = n' + 1 := ⟨n - 1, by omega⟩
    rw [itr_s]
    dsimp only
    unfold p_M_findSums_L60
    rw [g1]
    rw [if_neg (show ¬ I nk < I ((cp + 1 : Nat) : Int) by rw [I_lt (by omega) (by omega) (by omega) (by omega)]; omega)]
    exact if_pos (show I ((0 : Nat) : Int) ≤ 0 from Int32.le_refl _)
  | succ e =>
    have ne : ¬ I ((e + 1 : Nat) : Int) = I 0 := by rw [I_eq (by omega) (by omega) (by omega) (by omega)]; omega
    rw [if_neg ne, if_neg ne]
    obtain ⟨f', h1, h2, h3, h4⟩ := sums60 hB hM he hp1 hp2 hf (fun q a b => hF e q (by omega) a b) K2 K22
    exact ⟨f', h1, h2, h3, h4⟩
/-- the sums of the events below e stand in the table -/
theorem sums22 (hB : Base m nk cp ev op wt sz pt bd) (hM : Mb m nk cp ev op wt sz pt bd g f) {e : Nat} (he : e < ev) (hf : ∀ p, cp < p → p ≤ nk → FCs m nk cp op wt sz pt bd e p f) (hF : ∀ e' q, e' < e → cp < q → q ≤ nk → FSs m nk cp op wt sz pt bd e' q f) (K2 : (Int32 × sG × sF) → Option (Int32 × sG × sF)) :
    ∃ f', itr (fun K z => p_M_findSums_L22 K2 K z.1 z.2.1 z.2.2.1 z.2.2.2) FUEL (I e, I ((cp + 1 : Nat) : Int), g, f) = K2 (I ((e + 1 : Nat) : Int), g, f') ∧ (∀ e' q, e' < e + 1 → cp < q → q ≤ nk → FSs m nk cp op wt sz pt bd e' q f') ∧ (∀ j, j ≠ 14 → j ≠ 15 → f' j = f j) := by
  obtain ⟨⟨b0, b1, b2, b3, b4⟩, bO, bW, bS, bP⟩ := id hB
  refine itr_R (fun t z => ∃ f', z = (I e, I ((cp + 1 + t : Nat) : Int), g, f') ∧ (∀ e' q, e' < e → cp < q → q ≤ nk → FSs m nk cp op wt sz pt bd e' q f') ∧ (∀ q, cp < q → q < cp + 1 + t → FSs m nk cp op wt sz pt bd e q f') ∧ (∀ j, j ≠ 14 → j ≠ 15 → f' j = f j)) (nk - cp)
    (fun o => ∃ f', o = K2 (I ((e + 1 : Nat) : Int), g, f') ∧ (∀ e' q, e' < e + 1 → cp < q → q ≤ nk → FSs m nk cp op wt sz pt bd e' q f') ∧ (∀ j, j ≠ 14 → j ≠ 15 → f' j = f j)) ⟨f, by rw [Nat.add_zero], hF, fun q a b => by omega, fun _ _ _ => rfl⟩ (by omega) ?_ ?_
  · intro K t z ht ⟨f', ez, h1, h2, h3⟩
    subst ez
    left
    have hM' : Mb m nk cp ev op wt sz pt bd g f' := hM.fr (fun _ _ => rfl) (fun j hj => h3 j (by omega) (by omega))
    obtain ⟨f2, r1, r2, r3, r4⟩ := sums50 (p := cp + 1 + t) hB hM' he (by omega) (by omega) (by unfold FCs; rw [h3 12 (by omega) (by omega), h3 13 (by omega) (by omega)]; exact hf _ (by omega) (by omega)) h1 K2 K
    refine ⟨_, r1, f2, rfl, fun e' q a b c => ?_, fun q a b => ?_, fun j a b => by rw [r3 j a b, h3 j a b]⟩
    · have := r4 (25 * e' + q) (by omega)
      unfold FSs
      rw [this.1, this.2]
      exact h1 e' q a b c
    · by_cases w : q = cp + 1 + t
      · subst w; exact r2
      · have := r4 (25 * e + q) (by omega)
        unfold FSs
        rw [this.1, this.2]
        exact h2 q a (by omega)
  · intro K z ⟨f', ez, h1, h2, h3⟩
    subst ez
    refine ⟨f', ?_, fun e' q a b c => ?_, h3⟩
    · dsimp only
      unfold p_M_findSums_L22
      rw [hM.1.2.1, if_pos (by rw [I_lt (by omega) (by omega) (by omega) (by omega)]; omega), l_1, I_add]
      rfl
    · by_cases w : e' = e
      · subst w; exact h2 q b (by omega)
      · exact h1 e' q (by omega) b c
theorem msum_add {x : tv} {v : Int} (b : Int32) (hb : b = I (msum x)) (hx : ∀ a, x = some a → 0 ≤ a.1 ∧ a.1 ≤ 200000) (y : tv) (hy : ∀ a, y = some a → 0 ≤ a.1 ∧ a.1 ≤ 200000) : (if b ≤ I (msum y) then b else I (msum y)) = I (msum (tadd x y)) := by
  subst hb
  cases x with
  | none =>
    cases y with
    | none => rw [n_tadd, if_pos (Int32.le_refl _)]
    | some a =>
      have := hy a rfl
      rw [n_tadd, msum_n, msum_s, if_neg (by rw [I_le (by omega) (by omega) (by omega) (by omega)]; omega)]
  | some a =>
    have ha := hx a rfl
    cases y with
    | none => rw [tadd_n, msum_n, msum_s, if_pos (by rw [I_le (by omega) (by omega) (by omega) (by omega)]; omega)]
    | some c =>
      have hc := hy c rfl
      rw [msum_s, msum_s]
      rcases Int.lt_trichotomy a.1 c.1 with h | h | h
      · rw [tadd_lt h, msum_s, if_pos (by rw [I_le (by omega) (by omega) (by omega) (by omega)]; omega)]
      · rw [tadd_eq h, msum_s, if_pos (by rw [I_le (by omega) (by omega) (by omega) (by omega)]; omega)]
      · rw [tadd_gt h, msum_s, if_neg (by rw [I_le (by omega) (by omega) (by omega) (by omega)]; omega)]
theorem sums298 (hB : Base m nk cp ev op wt sz pt bd) (hM : Mb m nk cp ev op wt sz pt bd g f) (hv : 0 < ev) (hF : ∀ e' q, e' < ev → cp < q → q ≤ nk → FSs m nk cp op wt sz pt bd e' q f) :
    itr (fun K z => p_M_findSums_L298 K z.1 z.2.1 z.2.2.1 z.2.2.2) FUEL (I 100000000, I ((cp + 1 : Nat) : Int), g, f) = some (I (msum (cT' m nk cp ev op wt sz pt bd)), g, f) := by
  obtain ⟨⟨b0, b1, b2, b3, b4⟩, bO, bW, bS, bP⟩ := id hB
  have hT : cT' m nk cp ev op wt sz pt bd = tS (cp + 1) (cF m nk cp op wt sz pt bd (ev - 1)) (nk - cp) := (tot hv).symm
  have g1 : g 1 = I nk := hM.1.2.1
  have g3 : g 3 = I ev := hM.1.2.2.2
  have bdd : ∀ t a, t ≤ nk - cp → tS (cp + 1) (cF m nk cp op wt sz pt bd (ev - 1)) t = some a → 0 ≤ a.1 ∧ a.1 ≤ 200000 := fun t a ht h => by
    obtain ⟨q, k, q1, q2, hq⟩ := (tS_spec.2 a h).2
    have : 0 ≤ a.1 ∧ a.1 ≤ 2480 * (((ev - 1 : Nat) : Int) + 1) := cF_bd hB (ev - 1) (by omega) q (a.1, k) (by omega) hq
    omega
  rw [hT]
  refine itr_R (fun t z => z = (I (msum (tS (cp + 1) (cF m nk cp op wt sz pt bd (ev - 1)) t)), I ((cp + 1 + t : Nat) : Int), g, f)) (nk - cp)
    (fun o => o = some (I (msum (tS (cp + 1) (cF m nk cp op wt sz pt bd (ev - 1)) (nk - cp))), g, f)) rfl (by omega) ?_ ?_
  · intro K t z ht ez
    subst ez
    left
    refine ⟨_, ?_, rfl⟩
    obtain ⟨q, hq⟩ : ∃ q : Nat, q = cp + 1 + t := ⟨_, rfl⟩
    have f14 := (hF (ev - 1) q (by omega) (by omega) (by omega)).1
    have hts : tS (cp + 1) (cF m nk cp op wt sz pt bd (ev - 1)) (t + 1) = tadd (tS (cp + 1) (cF m nk cp op wt sz pt bd (ev - 1)) t) (cF m nk cp op wt sz pt bd (ev - 1) q) := by rw [hq]; rfl
    have hq1 : (q : Int) + 1 = ((cp + 1 + (t + 1) : Nat) : Int) := by omega
    have ee : (ev : Int) - 1 = ((ev - 1 : Nat) : Int) := by omega
    rw [hts, ← hq, ← msum_add (v := 0) _ rfl (fun a h => bdd t a (by omega) h) _ (fun a h => by have := cF_bd hB (ev - 1) (by omega) q a (by omega) h; omega)]
    dsimp only
    unfold p_M_findSums_L298 p_M_at_
    rw [g1, if_neg (by rw [I_lt (by omega) (by omega) (by omega) (by omega)]; omega), g3]
    simp (disch := omega) only [l_0, l_1, l_2, l_3, l_4, l_5, l_6, l_7, l_9, l_10, l_20, l_24, l_25, l_31, l_40, l_45, l_48, l_57, l_99, l_123, l_124, l_127, l_2000, l_far, l_999999, Option.bind_some, I_sub, I_mul, I_add, I_lt, I_nat, ee, tn_25b, gdG, lt_, f14, hq1]
    split <;> rfl
  · intro K z ez
    subst ez
    dsimp only
    unfold p_M_findSums_L298
    rw [g1, if_pos (by rw [I_lt (by omega) (by omega) (by omega) (by omega)]; omega)]
theorem findSums_v (hB : Base m nk cp ev op wt sz pt bd) (hM : Mb m nk cp ev op wt sz pt bd g f) (hv : 0 < ev) :
    ∃ g' f', p_M_findSums g f = some (I (msum (cT' m nk cp ev op wt sz pt bd)), g', f') ∧ (∀ e q, e < ev → cp < q → q ≤ nk → FSs m nk cp op wt sz pt bd e q f' ∧ FCs m nk cp op wt sz pt bd e q f') ∧ (∀ x, x ≠ 7 → g' x = g x) ∧ (∀ j, j < 10 ∨ 15 < j → f' j = f j) := by
  obtain ⟨⟨b0, b1, b2, b3, b4⟩, bO, bW, bS, bP⟩ := id hB
  unfold p_M_findSums
  rw [l_0]
  refine itr_R (fun e z => ∃ (g' : sG) (f' : sF), z = (I e, g', f') ∧ (∀ e' q, e' < e → cp < q → q ≤ nk → FSs m nk cp op wt sz pt bd e' q f') ∧ (∀ e' q, e' < e → cp < q → q ≤ nk → FCs m nk cp op wt sz pt bd e' q f') ∧ (∀ x, x ≠ 7 → g' x = g x) ∧ (∀ j, j < 10 ∨ 15 < j → f' j = f j)) ev
    (fun o => ∃ (g' : sG) (f' : sF), o = some (I (msum (cT' m nk cp ev op wt sz pt bd)), g', f') ∧ (∀ e q, e < ev → cp < q → q ≤ nk → FSs m nk cp op wt sz pt bd e q f' ∧ FCs m nk cp op wt sz pt bd e q f') ∧ (∀ x, x ≠ 7 → g' x = g x) ∧ (∀ j, j < 10 ∨ 15 < j → f' j = f j)) ⟨g, f, rfl, fun e' q a => by omega, fun e' q a => by omega, fun _ _ => rfl, fun _ _ => rfl⟩ (by omega) ?_ ?_
  · intro K e z he ⟨g', f', ez, h1, h2, h3, h4⟩
    subst ez
    left
    have hM' : Mb m nk cp ev op wt sz pt bd g' f' := hM.fr (fun x hx => h3 x (by omega)) (fun j hj => h4 j (by omega))
    obtain ⟨g2, f2, c1, c2, c3, c4, c5⟩ := findCosts_v hB hM' he
    have hM2 : Mb m nk cp ev op wt sz pt bd g2 f2 := hM'.fr (fun x hx => c3 x (by omega)) (fun j hj => c4 j (by omega))
    obtain ⟨f3, s1, s2, s3⟩ := sums22 hB hM2 he c2 (fun e' q a b c => by unfold FSs; rw [c4 14 (by omega), c4 15 (by omega)]; exact h1 e' q a b c) K
    refine ⟨_, ?_, g2, f3, rfl, s2, fun e' q a b c => ?_, fun x hx => by rw [c3 x hx, h3 x hx], fun j hj => by rw [s3 j (by omega) (by omega), c4 j (by omega), h4 j hj]⟩
    · dsimp only
      unfold p_M_findSums_L2
      rw [hM'.1.2.2.2, if_neg (by rw [I_le (by omega) (by omega) (by omega) (by omega)]; omega), c1, Option.bind_some]
      dsimp only
      rw [hM2.1.2.2.1, l_1, I_add]
      exact s1
    · unfold FCs
      rw [s3 12 (by omega) (by omega), s3 13 (by omega) (by omega)]
      by_cases w : e' = e
      · subst w; exact c2 q b c
      · have := c5 (25 * e' + q) (by omega)
        rw [this.1, this.2]
        exact h2 e' q (by omega) b c
  · intro K z ⟨g', f', ez, h1, h2, h3, h4⟩
    subst ez
    have hM' : Mb m nk cp ev op wt sz pt bd g' f' := hM.fr (fun x hx => h3 x (by omega)) (fun j hj => h4 j (by omega))
    refine ⟨g', f', ?_, fun e q a b c => ⟨h1 e q a b c, h2 e q a b c⟩, h3, h4⟩
    dsimp only
    unfold p_M_findSums_L2
    rw [hM'.1.2.2.2, if_pos (Int32.le_refl _), hM'.1.2.2.1, l_1, I_add]
    exact sums298 hB hM' hv h1
end MS
