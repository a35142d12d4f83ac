/-! the class's search -/
def esum : tv → Int
  | none => -1
  | some a => a.1
def ecnt : tv → Int
  | none => 0
  | some a => (min a.2 999999 : Nat)
theorem cap_add (a b : Nat) : min (min a 999999 + min b 999999) 999999 = min (a + b) 999999 := by omega
theorem cap_mul (a b : Nat) : min (a * min b 999999) 999999 = min (a * b) 999999 := by
  rcases Nat.lt_or_ge b 999999 with h | h
  · have e : min b 999999 = b := by omega
    rw [e]
  · have e : min b 999999 = 999999 := by omega
    rw [e]
    rcases Nat.eq_zero_or_pos a with z | z
    · subst z; simp
    · have h1 : 999999 ≤ a * 999999 := Nat.le_mul_of_pos_left _ z
      have h2 : 999999 ≤ a * b := Nat.le_trans h (Nat.le_mul_of_pos_left _ z)
      omega
theorem ties_v {g : sG} {f : sF} {x : Nat} (h : x < 9000000000000000000) : p_Pr_atMostTies (Jl x) g f = some (I ((min x 999999 : Nat) : Int)) := by
  unfold p_Pr_atMostTies
  have e : (999999 : Int64) = Jl 999999 := rfl
  rw [e, l_0]
  simp (disch := omega) only [J_cmp2, J_32, l_999999]
  by_cases q : (x : Int) ≤ 999999
  · rw [if_pos q, Nat.min_eq_left (by omega)]
  · rw [if_neg q, Nat.min_eq_right (by omega)]
    rfl
section CPL
variable {m nk cp ev : Nat} {op wt sz pt : Nat → Nat} {bd : Nat → Int} {g : sG} {f : sF}
noncomputable def DD (m nk cp : Nat) (op wt sz pt : Nat → Nat) (bd : Nat → Int) (e p : Nat) : tv := if (GL m nk cp op sz pt bd e p).length = 0 then none else some ((lst (GC m nk cp op wt sz pt e p) (GL m nk cp op sz pt bd e p)).2.1, (lst (GC m nk cp op wt sz pt e p) (GL m nk cp op sz pt bd e p)).2.2.1)
def mvv (wt : Nat → Nat) (p q : Nat) : Int := wt 0 * (if (p : Int) ≤ q then (q : Int) - p else (p : Int) - q)
noncomputable def cB (m nk cp ev : Nat) (op wt sz pt : Nat → Nat) (bd : Nat → Int) : Nat → Nat → tv := Bt (cp + 1) (nk - cp) ev (DD m nk cp op wt sz pt bd) (mvv wt)
noncomputable def cR (m nk cp ev : Nat) (op wt sz pt : Nat → Nat) (bd : Nat → Int) : Nat → Nat → tv := Rt (cp + 1) (nk - cp) ev (DD m nk cp op wt sz pt bd) (mvv wt)
noncomputable def cT' (m nk cp ev : Nat) (op wt sz pt : Nat → Nat) (bd : Nat → Int) : tv := Tt (cp + 1) (nk - cp) ev (DD m nk cp op wt sz pt bd) (mvv wt)
theorem mvv_bd (hw : wt 0 ≤ 20) {p q : Nat} (hp : p ≤ 24) (hq : q ≤ 24) : 0 ≤ mvv wt p q ∧ mvv wt p q ≤ 480 := by
  unfold mvv
  have h : 0 ≤ (if (p : Int) ≤ q then (q : Int) - p else (p : Int) - q) ∧ (if (p : Int) ≤ q then (q : Int) - p else (p : Int) - q) ≤ 24 := by split <;> omega
  refine ⟨Int.mul_nonneg (by omega) h.1, ?_⟩
  have : (wt 0 : Int) * (if (p : Int) ≤ q then (q : Int) - p else (p : Int) - q) ≤ 20 * 24 := Int.mul_le_mul (by omega) h.2 h.1 (by omega)
  omega
theorem mvv_comm (p q : Nat) : mvv wt p q = mvv wt q p := by
  unfold mvv
  congr 1
  split <;> split <;> omega
theorem GL_cost (hB : Base m nk cp ev op wt sz pt bd) {e p : Nat} (he : e < ev) : ∀ c ∈ GL m nk cp op sz pt bd e p, 0 ≤ GC m nk cp op wt sz pt e p c ∧ GC m nk cp op wt sz pt e p c ≤ 2000 := LL_cost (hB.2.2.2.1 e he).2 hB.1.2.2.1 hB.2.2.1
theorem DD_bd (hB : Base m nk cp ev op wt sz pt bd) {e p : Nat} (he : e < ev) {a : Int × Nat} (h : DD m nk cp op wt sz pt bd e p = some a) : 0 ≤ a.1 ∧ a.1 ≤ 2000 ∧ a.2 ≤ 2401 := by
  unfold DD at h
  split at h
  · cases h
  · have := lst_bd _ _ (GL_cost (p := p) hB he)
    have l := GL_len (p := p) hB he
    cases h
    exact ⟨this.1, this.2.1, Nat.le_trans this.2.2.1 l⟩
theorem DD_out {e p : Nat} (h : ¬ (cp < p ∧ p ≤ nk)) : DD m nk cp op wt sz pt bd e p = none := by
  unfold DD
  rw [GL_out h]
  rfl
theorem Rr_bd (hB : Base m nk cp ev op wt sz pt bd) : ∀ (d : Nat), d ≤ ev → ∀ (p : Nat) (a : Int × Nat), p ≤ 24 → Rr (cp + 1) (nk - cp) ev (DD m nk cp op wt sz pt bd) (mvv wt) d p = some a → 0 ≤ a.1 ∧ a.1 ≤ 2480 * d
  | 0, _, p, a, _, h => by cases h; exact ⟨by decide, by decide⟩
  | d + 1, hd, p, a, hp, h => by
    obtain ⟨q, k, q1, q2, hq⟩ := (tS_spec.2 a h).2
    have b2 := hB.1.2.2.1
    have mb := mvv_bd (wt := wt) (hB.2.2.1 0 (by omega)) hp (show q ≤ 24 by omega)
    cases hD : DD m nk cp op wt sz pt bd (ev - 1 - d) q with
    | none => rw [hD] at hq; cases hq
    | some x =>
      cases hR : Rr (cp + 1) (nk - cp) ev (DD m nk cp op wt sz pt bd) (mvv wt) d q with
      | none => rw [hD, hR] at hq; cases hq
      | some y =>
        rw [hD, hR] at hq
        have e1 : mvv wt p q + (x.1 + y.1) = a.1 := congrArg Prod.fst (Option.some.inj hq)
        have i := Rr_bd hB d (by omega) q y (by omega) hR
        have j := DD_bd hB (by omega) hD
        have e2 : ((d + 1 : Nat) : Int) = (d : Int) + 1 := by omega
        omega
theorem cR_bd (hB : Base m nk cp ev op wt sz pt bd) {e p : Nat} {a : Int × Nat} (hp : p ≤ 24) (h : cR m nk cp ev op wt sz pt bd e p = some a) : 0 ≤ a.1 ∧ a.1 ≤ 99200 := by
  have := Rr_bd hB (ev - e) (by omega) p a hp h
  have b4 := hB.1.2.2.2.2
  omega
theorem cB_bd (hB : Base m nk cp ev op wt sz pt bd) {e p : Nat} {a : Int × Nat} (he : e < ev) (hp : p ≤ 24) (h : cB m nk cp ev op wt sz pt bd e p = some a) : 0 ≤ a.1 ∧ a.1 ≤ 101200 := by
  unfold cB Bt at h
  cases hD : DD m nk cp op wt sz pt bd e p with
  | none => rw [hD] at h; cases h
  | some x =>
    cases hR : Rt (cp + 1) (nk - cp) ev (DD m nk cp op wt sz pt bd) (mvv wt) (e + 1) p with
    | none => rw [hD, hR] at h; cases h
    | some y =>
      rw [hD, hR] at h
      have e1 : x.1 + y.1 = a.1 := congrArg Prod.fst (Option.some.inj h)
      have i := cR_bd hB hp hR
      have j := DD_bd hB he hD
      omega
theorem ecnt_bd (x : tv) : 0 ≤ ecnt x ∧ ecnt x ≤ 999999 := by
  cases x with
  | none => exact ⟨by decide, by decide⟩
  | some a => show (0 : Int) ≤ ((min a.2 999999 : Nat) : Int) ∧ ((min a.2 999999 : Nat) : Int) ≤ 999999; omega
/-- the sums of event e stand in the table -/
def SC (m nk cp ev : Nat) (op wt sz pt : Nat → Nat) (bd : Nat → Int) (e : Nat) (f : sF) : Prop := ∀ p, p < 25 → f 17 (25 * e + p) = I (esum (cB m nk cp ev op wt sz pt bd e p)) ∧ (cB m nk cp ev op wt sz pt bd e p ≠ none → f 18 (25 * e + p) = I (ecnt (cB m nk cp ev op wt sz pt bd e p)))
/-- what comes to event e at p, if the hand comes from b (-1: from nowhere) -/
noncomputable def vv (m nk cp ev : Nat) (op wt sz pt : Nat → Nat) (bd : Nat → Int) (e : Nat) (b : Int) (p : Nat) : tv := if b = -1 then cB m nk cp ev op wt sz pt bd e p else tmul (some (mvv wt b.toNat p, 1)) (cB m nk cp ev op wt sz pt bd e p)
theorem vv_cnt {e : Nat} {b : Int} {p : Nat} : ecnt (vv m nk cp ev op wt sz pt bd e b p) = ecnt (cB m nk cp ev op wt sz pt bd e p) := by
  unfold vv
  split
  · rfl
  · cases cB m nk cp ev op wt sz pt bd e p with
    | none => rfl
    | some a => show ((min (1 * a.2) 999999 : Nat) : Int) = _; rw [Nat.one_mul]; rfl
theorem vv_none {e : Nat} {b : Int} {p : Nat} : vv m nk cp ev op wt sz pt bd e b p = none ↔ cB m nk cp ev op wt sz pt bd e p = none := by
  unfold vv
  split
  · exact Iff.rfl
  · cases cB m nk cp ev op wt sz pt bd e p with
    | none => exact ⟨fun _ => rfl, fun _ => rfl⟩
    | some a => exact ⟨fun h => (by cases h), fun h => (by cases h)⟩
theorem vv_bd (hB : Base m nk cp ev op wt sz pt bd) {e p : Nat} {b : Int} {a : Int × Nat} (he : e < ev) (hp : p ≤ 24) (hb : b ≤ 24) (h : vv m nk cp ev op wt sz pt bd e b p = some a) : 0 ≤ a.1 ∧ a.1 ≤ 102000 := by
  unfold vv at h
  split at h
  · have := cB_bd hB he hp h; omega
  · cases hc : cB m nk cp ev op wt sz pt bd e p with
    | none => rw [hc] at h; cases h
    | some x =>
      rw [hc] at h
      have e1 : mvv wt b.toNat p + x.1 = a.1 := congrArg Prod.fst (Option.some.inj h)
      have i := cB_bd hB he hp hc
      have j := mvv_bd (wt := wt) (hB.2.2.1 0 (by omega)) (show b.toNat ≤ 24 by omega) hp
      omega
theorem isCell_v {e p : Nat} (he : e < 40) (hp : p < 25) : p_Pr_isCell (I e) (I p) g f = some (I 1) := by
  unfold p_Pr_isCell
  simp (disch := omega) only [l_0, l_1, l_2, l_3, l_4, l_5, l_6, l_7, l_9, l_10, l_20, l_24, l_25, l_31, l_40, l_45, l_48, l_57, l_99, l_123, l_124, l_127, l_2000, l_far, l_999999, I_lt, I_le]
  rw [if_neg (by omega), if_neg (by omega), if_neg (by omega), if_neg (by omega)]
theorem sumFrom_v (hB : Base m nk cp ev op wt sz pt bd) (hC : Cb m nk cp ev op wt sz pt bd g f) {e p : Nat} (he : e < ev) (hS : SC m nk cp ev op wt sz pt bd e f) (hp : p < 25) {b : Int} (b1 : -1 ≤ b) (b2 : b ≤ 24) : p_Pr_sumFrom (I e) (I b) (I p) g f = some (I (esum (vv m nk cp ev op wt sz pt bd e b p))) := by
  have b4 := hB.1.2.2.2.2
  unfold p_Pr_sumFrom
  rw [isCell_v (by omega) hp, Option.bind_some, if_neg (by decide)]
  have w0 : f 0 (0 : Int32).toNatClampNeg = I (wt 0) := hC.2.2.1 0 (by omega)
  simp (disch := omega) only [l_0, l_1, l_2, l_3, l_4, l_5, l_6, l_7, l_9, l_10, l_20, l_24, l_25, l_31, l_40, l_45, l_48, l_57, l_99, l_123, l_124, l_127, l_2000, l_far, l_999999, I_mul, I_add, I_lt, I_nat, tn_25, gdG, (hS p hp).1]
  unfold p_Pr_sumFrom_J23
  rw [w0]
  cases hc : cB m nk cp ev op wt sz pt bd e p with
  | none =>
    rw [vv_none.mpr hc]
    rfl
  | some a =>
    have ab := cB_bd hB he (by omega) hc
    unfold vv
    rw [hc]
    rw [show esum (some a) = a.1 from rfl]
    simp (disch := omega) only [l_0, l_1, l_2, l_3, l_4, l_5, l_6, l_7, l_9, l_10, l_20, l_24, l_25, l_31, l_40, l_45, l_48, l_57, l_99, l_123, l_124, l_127, l_2000, l_far, l_999999, I_neg, I_eq, I_sub, I_le]
    rw [if_neg (by omega)]
    by_cases q : b = -1
    · rw [if_pos q, if_pos q]
      rfl
    · rw [if_neg q, if_neg q]
      show some _ = some (I (mvv wt b.toNat p + a.1))
      unfold mvv
      by_cases q2 : 0 ≤ (p : Int) - b
      · rw [if_pos q2, if_pos (by omega), I_mul, I_add]
        congr 2
        rw [show (b.toNat : Int) = b by omega]
        omega
      · rw [if_neg q2, if_neg (by omega), I_mul, I_add]
        congr 2
        rw [show (b.toNat : Int) = b by omega, show (0 : Int) - ((p : Int) - b) = b - p by omega]
        omega
theorem waysAt_v (hB : Base m nk cp ev op wt sz pt bd) {e p : Nat} (he : e < ev) (hS : SC m nk cp ev op wt sz pt bd e f) (hp : p < 25) (hn : cB m nk cp ev op wt sz pt bd e p ≠ none) : p_Pr_waysAt (I e) (I p) g f = some (I (ecnt (cB m nk cp ev op wt sz pt bd e p))) := by
  have b4 := hB.1.2.2.2.2
  unfold p_Pr_waysAt
  rw [isCell_v (by omega) hp, Option.bind_some, if_neg (by decide)]
  simp (disch := omega) only [l_0, l_1, l_2, l_3, l_4, l_5, l_6, l_7, l_9, l_10, l_20, l_24, l_25, l_31, l_40, l_45, l_48, l_57, l_99, l_123, l_124, l_127, l_2000, l_far, l_999999, I_mul, I_add, I_lt, I_nat, tn_25, gdG, (hS p hp).2 hn]
def enc (x : tv) (g : sG) : Prop := g 10 = I (esum x) ∧ g 11 = I (ecnt x)
theorem weighRest_v (hB : Base m nk cp ev op wt sz pt bd) (hC : Cb m nk cp ev op wt sz pt bd g f) {e : Nat} (he : e ≤ ev) (hS : e < ev → SC m nk cp ev op wt sz pt bd e f) {b : Int} (b1 : -1 ≤ b) (b2 : b ≤ 24) :
    ∃ g', p_Pr_weighRest (I e) (I b) g f = some (g', f) ∧ enc (if e < ev then tS (cp + 1) (vv m nk cp ev op wt sz pt bd e b) (nk - cp) else some (0, 1)) g' ∧ ∀ x, x ≠ 10 → x ≠ 11 → g' x = g x := by
  obtain ⟨⟨c0, c1, c2, c3⟩, -⟩ := id hC
  obtain ⟨⟨k0, k1, k2, k3, k4⟩, -⟩ := id hB
  unfold p_Pr_weighRest
  rw [c3]
  by_cases hlt : e < ev
  · rw [if_pos (by rw [I_lt (by omega) (by omega) (by omega) (by omega)]; omega), if_pos hlt]
    simp only [lt_]
    have e2 : upd (upd g 10 (-1)) 11 0 2 = I cp := by rw [upd_n _ _ (by omega), upd_n _ _ (by omega)]; exact c2
    rw [e2, l_1, I_add]
    have SS := hS hlt
    refine itr_R (fun t z => ∃ g', z = (I e, I b, I ((cp + 1 + t : Nat) : Int), g', f) ∧ enc (tS (cp + 1) (vv m nk cp ev op wt sz pt bd e b) t) g' ∧ ∀ x, x ≠ 10 → x ≠ 11 → g' x = g x) (nk - cp) (fun o => ∃ g', o = some (g', f) ∧ enc (tS (cp + 1) (vv m nk cp ev op wt sz pt bd e b) (nk - cp)) g' ∧ ∀ x, x ≠ 10 → x ≠ 11 → g' x = g x) ?_ (by omega) ?_ ?_
    · refine ⟨upd (upd g 10 (-1)) 11 0, ?_, ⟨?_, ?_⟩, fun x a b => by rw [upd_n _ _ b, upd_n _ _ a]⟩
      · rw [Nat.add_zero]; rfl
      · rw [upd_n _ _ (by omega), upd_s]; rfl
      · rw [upd_s]; rfl
    · intro K t z ht ⟨g', ez, ⟨h10, h11⟩, ho⟩
      subst ez
      left
      have hC' : Cb m nk cp ev op wt sz pt bd g' f := hC.fr (fun x hx => ho x (by omega) (by omega)) (fun _ _ => rfl)
      obtain ⟨p, hp⟩ : ∃ p : Nat, p = cp + 1 + t := ⟨_, rfl⟩
      have hp1 : (p : Int) + 1 = ((cp + 1 + (t + 1) : Nat) : Int) := by omega
      have hts : tS (cp + 1) (vv m nk cp ev op wt sz pt bd e b) (t + 1) = tadd (tS (cp + 1) (vv m nk cp ev op wt sz pt bd e b) t) (vv m nk cp ev op wt sz pt bd e b p) := by rw [hp]; rfl
      rw [← hp]
      have sv := sumFrom_v hB hC' hlt SS (show p < 25 by omega) b1 b2
      dsimp only
      unfold p_Pr_weighRest_L42
      rw [hC'.1.2.1, if_neg (by rw [I_lt (by omega) (by omega) (by omega) (by omega)]; omega), sv, Option.bind_some, hts]
      have hvc := vv_cnt (m := m) (nk := nk) (cp := cp) (ev := ev) (op := op) (wt := wt) (sz := sz) (pt := pt) (bd := bd) (e := e) (b := b) (p := p)
      cases hv : vv m nk cp ev op wt sz pt bd e b p with
      | none =>
        rw [tadd_n]
        rw [if_pos (show I (esum none) = -1 from rfl)]
        simp only [lt_, l_0, l_1, l_2, l_3, l_4, l_5, l_6, l_7, l_9, l_10, l_20, l_24, l_25, l_31, l_40, l_45, l_48, l_57, l_99, l_123, l_124, l_127, l_2000, l_far, l_999999, I_add, hp1]
        exact ⟨_, rfl, g', rfl, ⟨h10, h11⟩, ho⟩
      | some v =>
        have vb := vv_bd hB hlt (show p ≤ 24 by omega) b2 hv
        have hne : cB m nk cp ev op wt sz pt bd e p ≠ none := fun z => by rw [vv_none.mpr z] at hv; cases hv
        rw [hv] at hvc
        have J88 : ∀ x : tv, tadd x (some v) = some v → ∃ s', p_Pr_weighRest_J88 K (I e) (I b) (I p) (I (esum (some v))) g' f = K s' ∧ ∃ g'', s' = (I e, I b, I ((cp + 1 + (t + 1) : Nat) : Int), g'', f) ∧ enc (tadd x (some v)) g'' ∧ ∀ x, x ≠ 10 → x ≠ 11 → g'' x = g x := by
          intro x hx
          unfold p_Pr_weighRest_J88
          simp only [lt_]
          rw [waysAt_v (g := upd g' 10 (I (esum (some v)))) hB hlt SS (by omega) hne]
          simp only [Option.bind_some, l_0, l_1, l_2, l_3, l_4, l_5, l_6, l_7, l_9, l_10, l_20, l_24, l_25, l_31, l_40, l_45, l_48, l_57, l_99, l_123, l_124, l_127, l_2000, l_far, l_999999, I_add, hp1]
          refine ⟨_, rfl, _, rfl, ?_, fun x a b => by rw [upd_n _ _ b, upd_n _ _ a]; exact ho x a b⟩
          rw [hx]
          exact ⟨by rw [upd_n _ _ (by omega), upd_s], by rw [upd_s, hvc]⟩
        have es : ∀ a : Int × Nat, esum (some a) = a.1 := fun _ => rfl
        rw [es] at *
        rw [if_neg (by rw [l_1, I_neg, I_eq (by omega) (by omega) (by omega) (by omega)]; omega), h10]
        cases hx : tS (cp + 1) (vv m nk cp ev op wt sz pt bd e b) t with
        | none =>
          rw [if_pos (show I (esum none) = -1 from rfl)]
          exact J88 none rfl
        | some a =>
          obtain ⟨q, k, q1, q2, hq⟩ := (tS_spec.2 a hx).2
          have ab := vv_bd hB hlt (show q ≤ 24 by omega) b2 hq
          have ab' : 0 ≤ a.1 ∧ a.1 ≤ 102000 := ab
          rw [es]
          rw [if_neg (by rw [l_1, I_neg, I_eq (by omega) (by omega) (by omega) (by omega)]; omega)]
          rcases Int.lt_trichotomy a.1 v.1 with w | w | w
          · rw [tadd_lt w]
            rw [if_pos (by rw [I_le (by omega) (by omega) (by omega) (by omega)]; omega), if_neg (by rw [I_eq (by omega) (by omega) (by omega) (by omega)]; omega)]
            simp only [lt_, l_0, l_1, l_2, l_3, l_4, l_5, l_6, l_7, l_9, l_10, l_20, l_24, l_25, l_31, l_40, l_45, l_48, l_57, l_99, l_123, l_124, l_127, l_2000, l_far, l_999999, I_add, hp1]
            rw [hx] at h10 h11
            exact ⟨_, rfl, g', rfl, ⟨h10, h11⟩, ho⟩
          · rw [tadd_eq w]
            rw [if_pos (by rw [I_le (by omega) (by omega) (by omega) (by omega)]; omega), if_pos (by rw [w]), waysAt_v hB hlt SS (by omega) hne, Option.bind_some, ← hvc, h11, hx]
            show ∃ s', Option.bind (p_Pr_atMostTies ((I ((min a.2 999999 : Nat) : Int)).toInt64 + (I ((min v.2 999999 : Nat) : Int)).toInt64) g' f) _ = K s' ∧ _
            have m1 : min a.2 999999 ≤ 999999 := by omega
            have m2 : min v.2 999999 ≤ 999999 := by omega
            have ec := cap_add a.2 v.2
            generalize min a.2 999999 = ma at *
            generalize min v.2 999999 = mb at *
            rw [I_64 (by omega) (by omega), I_64 (by omega) (by omega), J_add, show (ma : Int) + (mb : Int) = ((ma + mb : Nat) : Int) by omega, ties_v (by omega), Option.bind_some]
            simp only [lt_, l_0, l_1, l_2, l_3, l_4, l_5, l_6, l_7, l_9, l_10, l_20, l_24, l_25, l_31, l_40, l_45, l_48, l_57, l_99, l_123, l_124, l_127, l_2000, l_far, l_999999, I_add, hp1]
            refine ⟨_, rfl, _, rfl, ⟨?_, ?_⟩, fun x a b => by rw [upd_n _ _ b]; exact ho x a b⟩
            · rw [upd_n _ _ (by omega), h10, hx]; rfl
            · rw [upd_s, ec]; rfl
          · rw [if_neg (by rw [I_le (by omega) (by omega) (by omega) (by omega)]; omega)]
            exact J88 (some a) (tadd_gt w)
    · intro K z ⟨g', ez, hen, ho⟩
      subst ez
      dsimp only
      unfold p_Pr_weighRest_L42
      rw [show g' 1 = I nk by rw [ho 1 (by omega) (by omega)]; exact c1, if_pos (by rw [I_lt (by omega) (by omega) (by omega) (by omega)]; omega)]
      exact ⟨g', rfl, hen, ho⟩
  · rw [if_neg (by rw [I_lt (by omega) (by omega) (by omega) (by omega)]; omega), if_neg hlt]
    simp only [lt_]
    refine ⟨_, rfl, ⟨by rw [upd_n _ _ (by omega), upd_s]; rfl, by rw [upd_s]; rfl⟩, fun x a b => by rw [upd_n _ _ b, upd_n _ _ a]⟩
end CPL
