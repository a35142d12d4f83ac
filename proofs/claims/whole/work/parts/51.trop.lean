/-! least sums with the number of ways to reach them -/
abbrev tv : Type := Option (Int × Nat)
def tadd : tv → tv → tv
  | none, y => y
  | some a, none => some a
  | some a, some b => if a.1 < b.1 then some a else if b.1 < a.1 then some b else some (a.1, a.2 + b.2)
def tmul : tv → tv → tv
  | some a, some b => some (a.1 + b.1, a.2 * b.2)
  | _, _ => none
theorem tadd_n (x : tv) : tadd x none = x := by cases x <;> rfl
theorem n_tadd (x : tv) : tadd none x = x := rfl
theorem tadd_lt {a b : Int × Nat} (h : a.1 < b.1) : tadd (some a) (some b) = some a := if_pos h
theorem tadd_gt {a b : Int × Nat} (h : b.1 < a.1) : tadd (some a) (some b) = some b := by
  show (if _ then _ else _) = _
  rw [if_neg (by omega), if_pos h]
theorem tadd_eq {a b : Int × Nat} (h : a.1 = b.1) : tadd (some a) (some b) = some (a.1, a.2 + b.2) := by
  show (if _ then _ else _) = _
  rw [if_neg (by omega), if_neg (by omega)]
theorem tadd_comm (x y : tv) : tadd x y = tadd y x := by
  cases x with
  | none => rw [tadd_n]; rfl
  | some a =>
    cases y with
    | none => rfl
    | some b =>
      rcases Int.lt_trichotomy a.1 b.1 with h | h | h
      · rw [tadd_lt h, tadd_gt h]
      · rw [tadd_eq h, tadd_eq h.symm, h, Nat.add_comm]
      · rw [tadd_gt h, tadd_lt h]
theorem tadd_assoc (x y z : tv) : tadd (tadd x y) z = tadd x (tadd y z) := by
  cases x with
  | none => rfl
  | some a =>
    cases y with
    | none => rw [tadd_n, n_tadd]
    | some b =>
      cases z with
      | none => rw [tadd_n, tadd_n]
      | some c =>
        rcases Int.lt_trichotomy a.1 b.1 with h | h | h
        · rw [tadd_lt h]
          rcases Int.lt_trichotomy b.1 c.1 with h2 | h2 | h2
          · rw [tadd_lt h2, tadd_lt h, tadd_lt (by omega)]
          · rw [tadd_eq h2, tadd_lt (by omega), tadd_lt (by show a.1 < b.1; omega)]
          · rw [tadd_gt h2]
        · rw [tadd_eq h]
          rcases Int.lt_trichotomy b.1 c.1 with h2 | h2 | h2
          · rw [tadd_lt h2, tadd_eq h, tadd_lt (by show a.1 < c.1; omega)]
          · rw [tadd_eq h2, tadd_eq (by show a.1 = c.1; omega), tadd_eq (by show a.1 = b.1; omega), Nat.add_assoc]
          · rw [tadd_gt h2, tadd_gt (by show c.1 < a.1; omega), tadd_gt (by omega)]
        · rw [tadd_gt h]
          rcases Int.lt_trichotomy b.1 c.1 with h2 | h2 | h2
          · rw [tadd_lt h2, tadd_gt h]
          · rw [tadd_eq h2, tadd_gt (by show b.1 < a.1; omega)]
          · rw [tadd_gt h2, tadd_gt (by omega)]
theorem tmul_n (x : tv) : tmul x none = none := by cases x <;> rfl
theorem n_tmul (x : tv) : tmul none x = none := rfl
theorem tmul_comm (x y : tv) : tmul x y = tmul y x := by
  cases x with
  | none => rw [tmul_n]; rfl
  | some a =>
    cases y with
    | none => rfl
    | some b => show some _ = some _; rw [Int.add_comm, Nat.mul_comm]
theorem tmul_assoc (x y z : tv) : tmul (tmul x y) z = tmul x (tmul y z) := by
  cases x with
  | none => rfl
  | some a =>
    cases y with
    | none => rfl
    | some b =>
      cases z with
      | none => rfl
      | some c =>
        show some (a.1 + b.1 + c.1, a.2 * b.2 * c.2) = some (a.1 + (b.1 + c.1), a.2 * (b.2 * c.2))
        rw [Int.add_assoc, Nat.mul_assoc]
theorem tmul_add (x y z : tv) : tmul x (tadd y z) = tadd (tmul x y) (tmul x z) := by
  cases x with
  | none => rfl
  | some a =>
    cases y with
    | none => rfl
    | some b =>
      cases z with
      | none => rw [tadd_n, tmul_n, tadd_n]
      | some c =>
        have e : tmul (some a) (some b) = some (a.1 + b.1, a.2 * b.2) := rfl
        have e2 : tmul (some a) (some c) = some (a.1 + c.1, a.2 * c.2) := rfl
        rw [e, e2]
        rcases Int.lt_trichotomy b.1 c.1 with h | h | h
        · rw [tadd_lt h, tadd_lt (by show a.1 + b.1 < a.1 + c.1; omega)]; rfl
        · rw [tadd_eq h, tadd_eq (by show a.1 + b.1 = a.1 + c.1; omega)]
          show some (a.1 + b.1, a.2 * (b.2 + c.2)) = _
          rw [Nat.mul_add]
        · rw [tadd_gt h, tadd_gt (by show a.1 + c.1 < a.1 + b.1; omega)]; rfl
/-- over n places from lo on -/
def tS (lo : Nat) (v : Nat → tv) : Nat → tv
  | 0 => none
  | n + 1 => tadd (tS lo v n) (v (lo + n))
theorem tS_congr {lo : Nat} {u v : Nat → tv} : ∀ {n : Nat}, (∀ p, lo ≤ p → p < lo + n → u p = v p) → tS lo u n = tS lo v n
  | 0, _ => rfl
  | n + 1, h => by
    show tadd _ _ = tadd _ _
    rw [tS_congr (fun p a b => h p a (by omega)), h (lo + n) (by omega) (by omega)]
theorem tS_add {lo : Nat} (u v : Nat → tv) : ∀ n : Nat, tS lo (fun p => tadd (u p) (v p)) n = tadd (tS lo u n) (tS lo v n)
  | 0 => rfl
  | n + 1 => by
    show tadd (tS lo (fun p => tadd (u p) (v p)) n) (tadd (u (lo + n)) (v (lo + n))) = tadd (tadd (tS lo u n) (u (lo + n))) (tadd (tS lo v n) (v (lo + n)))
    rw [tS_add u v n, tadd_assoc, tadd_assoc]
    congr 1
    rw [← tadd_assoc, tadd_comm (tS lo v n), tadd_assoc]
theorem tS_mul {lo : Nat} (x : tv) (v : Nat → tv) : ∀ n : Nat, tmul x (tS lo v n) = tS lo (fun p => tmul x (v p)) n
  | 0 => tmul_n x
  | n + 1 => by
    show tmul x (tadd _ _) = tadd _ _
    rw [tmul_add, tS_mul x v n]
theorem tS_none {lo : Nat} : ∀ n : Nat, tS lo (fun _ => none) n = none
  | 0 => rfl
  | n + 1 => by
    show tadd (tS lo (fun _ => none) n) none = none
    rw [tS_none n]; rfl
theorem tS_swap {lo : Nat} (w : Nat → Nat → tv) (n : Nat) : ∀ k : Nat, tS lo (fun p => tS lo (fun q => w p q) n) k = tS lo (fun q => tS lo (fun p => w p q) k) n
  | 0 => (tS_none n).symm
  | k + 1 => by
    show tadd (tS lo (fun p => tS lo (fun q => w p q) n) k) (tS lo (fun q => w (lo + k) q) n) = tS lo (fun q => tadd (tS lo (fun p => w p q) k) (w (lo + k) q)) n
    rw [tS_swap w n k, ← tS_add]
theorem tS_spec {lo : Nat} {v : Nat → tv} : ∀ {n : Nat}, (tS lo v n = none → ∀ p, lo ≤ p → p < lo + n → v p = none) ∧ (∀ a, tS lo v n = some a → (∀ p b, lo ≤ p → p < lo + n → v p = some b → a.1 ≤ b.1) ∧ ∃ p k, lo ≤ p ∧ p < lo + n ∧ v p = some (a.1, k))
  | 0 => ⟨fun _ p a b => by omega, fun a h => by cases h⟩
  | n + 1 => by
    obtain ⟨i1, i2⟩ := tS_spec (lo := lo) (v := v) (n := n)
    have e : tS lo v (n + 1) = tadd (tS lo v n) (v (lo + n)) := rfl
    rw [e]
    cases hs : tS lo v n with
    | none =>
      have i := i1 hs
      rw [n_tadd]
      refine ⟨fun h p a b => ?_, fun a h => ⟨fun p b x y z => ?_, ?_⟩⟩
      · by_cases q : p = lo + n
        · rw [q]; exact h
        · exact i p a (by omega)
      · by_cases q : p = lo + n
        · rw [q, h] at z
          cases z
          exact Int.le_refl _
        · rw [i p x (by omega)] at z
          cases z
      · exact ⟨lo + n, a.2, by omega, by omega, h⟩
    | some c =>
      obtain ⟨j1, p0, k0, j2, j3, j4⟩ := i2 c hs
      cases hv : v (lo + n) with
      | none =>
        rw [tadd_n]
        refine ⟨fun h => (by cases h), fun a h => ?_⟩
        cases h
        refine ⟨fun p b x y z => ?_, p0, k0, j2, by omega, j4⟩
        by_cases q : p = lo + n
        · rw [q, hv] at z; cases z
        · exact j1 p b x (by omega) z
      | some d =>
        refine ⟨fun h => ?_, fun a h => ?_⟩
        · rcases Int.lt_trichotomy c.1 d.1 with w | w | w
          · rw [tadd_lt w] at h; cases h
          · rw [tadd_eq w] at h; cases h
          · rw [tadd_gt w] at h; cases h
        · rcases Int.lt_trichotomy c.1 d.1 with w | w | w
          · rw [tadd_lt w] at h
            cases h
            refine ⟨fun p b x y z => ?_, p0, k0, j2, by omega, j4⟩
            by_cases q : p = lo + n
            · rw [q, hv] at z; cases z; omega
            · exact j1 p b x (by omega) z
          · rw [tadd_eq w] at h
            cases h
            refine ⟨fun p b x y z => ?_, p0, k0, j2, by omega, j4⟩
            by_cases q : p = lo + n
            · rw [q, hv] at z; cases z; show c.1 ≤ _; omega
            · exact j1 p b x (by omega) z
          · rw [tadd_gt w] at h
            cases h
            refine ⟨fun p b x y z => ?_, lo + n, d.2, by omega, by omega, hv⟩
            by_cases q : p = lo + n
            · rw [q, hv] at z; cases z; exact Int.le_refl _
            · have := j1 p b x (by omega) z; omega
section TR
variable (lo n ev : Nat) (D : Nat → Nat → tv) (mv : Nat → Nat → Int)
/-- from behind: d events are left -/
def Rr : Nat → Nat → tv
  | 0, _ => some (0, 1)
  | d + 1, p => tS lo (fun q => tmul (some (mv p q, 1)) (tmul (D (ev - 1 - d) q) (Rr d q))) n
/-- the rest from event e on, if the hand comes from p; event e at p, and the rest -/
def Rt (e p : Nat) : tv := Rr lo n ev D mv (ev - e) p
def Bt (e p : Nat) : tv := tmul (D e p) (Rt lo n ev D mv (e + 1) p)
/-- from the front -/
def Ft : Nat → Nat → tv
  | 0, p => D 0 p
  | e + 1, p => tmul (D (e + 1) p) (tS lo (fun q => tmul (some (mv q p, 1)) (Ft e q)) n)
def Tt : tv := tS lo (fun q => Bt lo n ev D mv 0 q) n
end TR
section TS2
variable {lo n ev : Nat} {D : Nat → Nat → tv} {mv : Nat → Nat → Int}
theorem Rt_end {p : Nat} : Rt lo n ev D mv ev p = some (0, 1) := by unfold Rt; rw [Nat.sub_self]; rfl
theorem Rt_e {e p : Nat} (he : e < ev) : Rt lo n ev D mv e p = tS lo (fun q => tmul (some (mv p q, 1)) (Bt lo n ev D mv e q)) n := by
  unfold Rt Bt Rt
  have e1 : ev - e = (ev - (e + 1)) + 1 := by omega
  rw [e1]
  show tS lo (fun q => tmul (some (mv p q, 1)) (tmul (D (ev - 1 - (ev - (e + 1))) q) (Rr lo n ev D mv (ev - (e + 1)) q))) n = _
  rw [show ev - 1 - (ev - (e + 1)) = e by omega]
theorem tmul_one (x : tv) : tmul x (some (0, 1)) = x := by
  cases x with
  | none => rfl
  | some a => show some (a.1 + 0, a.2 * 1) = some a; rw [Int.add_zero, Nat.mul_one]
theorem tel {e : Nat} (he : e < ev) : tS lo (fun p => tmul (Ft lo n D mv e p) (Rt lo n ev D mv (e + 1) p)) n = Tt lo n ev D mv := by
  induction e with
  | zero => rfl
  | succ e ih =>
    rw [← ih (by omega)]
    have e1 : tS lo (fun p => tmul (Ft lo n D mv e p) (Rt lo n ev D mv (e + 1) p)) n = tS lo (fun p => tS lo (fun q => tmul (Ft lo n D mv e p) (tmul (some (mv p q, 1)) (Bt lo n ev D mv (e + 1) q))) n) n := tS_congr (fun p _ _ => by rw [Rt_e he, tS_mul])
    rw [e1, tS_swap]
    refine tS_congr (fun q _ _ => ?_)
    have e2 : tS lo (fun p => tmul (Ft lo n D mv e p) (tmul (some (mv p q, 1)) (Bt lo n ev D mv (e + 1) q))) n = tmul (Bt lo n ev D mv (e + 1) q) (tS lo (fun p => tmul (some (mv p q, 1)) (Ft lo n D mv e p)) n) := by
      rw [tS_mul]
      refine tS_congr (fun p _ _ => ?_)
      rw [← tmul_assoc, tmul_comm (Ft lo n D mv e p), tmul_comm]
    rw [e2]
    show tmul (tmul (D (e + 1) q) (tS lo (fun p => tmul (some (mv p q, 1)) (Ft lo n D mv e p)) n)) (Rt lo n ev D mv (e + 1 + 1) q) = tmul (tmul (D (e + 1) q) (Rt lo n ev D mv (e + 1 + 1) q)) _
    rw [tmul_assoc, tmul_assoc, tmul_comm (tS lo _ n)]
theorem tot (h : 0 < ev) : tS lo (fun p => Ft lo n D mv (ev - 1) p) n = Tt lo n ev D mv := by
  rw [← tel (e := ev - 1) (by omega)]
  refine tS_congr (fun p _ _ => ?_)
  rw [show ev - 1 + 1 = ev by omega, Rt_end, tmul_one]
end TS2
