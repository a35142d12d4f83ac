/-! ints of 32 bits as I n, n an integer: sums and products go through; comparisons within the bounds -/
def I (n : Int) : Int32 := Int32.ofInt n
def Jl (n : Int) : Int64 := Int64.ofInt n
theorem I_toInt (x : Int32) : I x.toInt = x := Int32.ofInt_toInt x
theorem I_add (a b : Int) : I a + I b = I (a + b) := (Int32.ofInt_add a b).symm
theorem I_sub (a b : Int) : I a - I b = I (a - b) := (Int32.ofInt_sub a b).symm
theorem I_mul (a b : Int) : I a * I b = I (a * b) := (Int32.ofInt_mul a b).symm
theorem I_neg (a : Int) : - I a = I (-a) := (Int32.ofInt_neg a).symm
theorem I_int {n : Int} (h1 : -2147483648 ≤ n) (h2 : n < 2147483648) : (I n).toInt = n := Int32.toInt_ofInt_of_le (by omega) (by omega)
theorem I_ex (x : Int32) : ∃ z : Int, x = I z ∧ -2147483648 ≤ z ∧ z < 2147483648 := ⟨x.toInt, (I_toInt x).symm, Int32.le_toInt x, Int32.toInt_lt x⟩
theorem I_lt {a b : Int} (h1 : -2147483648 ≤ a) (h2 : a < 2147483648) (h3 : -2147483648 ≤ b) (h4 : b < 2147483648) : (I a < I b) = (a < b) := by
  rw [Int32.lt_iff_toInt_lt, I_int h1 h2, I_int h3 h4]
theorem I_le {a b : Int} (h1 : -2147483648 ≤ a) (h2 : a < 2147483648) (h3 : -2147483648 ≤ b) (h4 : b < 2147483648) : (I a ≤ I b) = (a ≤ b) := by
  rw [Int32.le_iff_toInt_le, I_int h1 h2, I_int h3 h4]
theorem I_eq {a b : Int} (h1 : -2147483648 ≤ a) (h2 : a < 2147483648) (h3 : -2147483648 ≤ b) (h4 : b < 2147483648) : (I a = I b) = (a = b) := by
  rw [← Int32.toInt_inj, I_int h1 h2, I_int h3 h4]
theorem I_nat {a : Int} (h1 : -2147483648 ≤ a) (h2 : a < 2147483648) : (I a).toNatClampNeg = a.toNat := Int32.toNatClampNeg_ofInt_of_le (by omega) (by omega)
theorem I_div {a b : Int} (h1 : 0 ≤ a) (h2 : a < 2147483648) (h3 : 0 < b) (h4 : b < 2147483648) : I a / I b = I (a / b) := by
  rw [← Int32.toInt_inj, Int32.toInt_div_of_ne_right _ _ (by
    intro h
    have := congrArg Int32.toInt h
    rw [I_int (by omega) h4] at this
    have h5 : (-1 : Int32).toInt = -1 := by decide
    omega), I_int (by omega) h2, I_int (by omega) h4, I_int, Int.tdiv_eq_ediv_of_nonneg h1]
  · exact Int.le_trans (by decide) (Int.ediv_nonneg h1 (by omega))
  · exact Int.lt_of_le_of_lt (Int.ediv_le_self b h1) h2
theorem I_rem {a b : Int} (h1 : 0 ≤ a) (h2 : a < 2147483648) (h3 : 0 < b) (h4 : b < 2147483648) : I a - I a / I b * I b = I (a % b) := by
  rw [I_div h1 h2 h3 h4, I_mul, I_sub]
  congr 1
  rw [Int.emod_def, Int.mul_comm]
theorem l_0 : (0 : Int32) = I 0 := (rfl)
theorem l_1 : (1 : Int32) = I 1 := (rfl)
theorem l_2 : (2 : Int32) = I 2 := (rfl)
theorem l_3 : (3 : Int32) = I 3 := (rfl)
theorem l_4 : (4 : Int32) = I 4 := (rfl)
theorem l_5 : (5 : Int32) = I 5 := (rfl)
theorem l_6 : (6 : Int32) = I 6 := (rfl)
theorem l_7 : (7 : Int32) = I 7 := (rfl)
theorem l_9 : (9 : Int32) = I 9 := (rfl)
theorem l_10 : (10 : Int32) = I 10 := (rfl)
theorem l_20 : (20 : Int32) = I 20 := (rfl)
theorem l_24 : (24 : Int32) = I 24 := (rfl)
theorem l_25 : (25 : Int32) = I 25 := (rfl)
theorem l_31 : (31 : Int32) = I 31 := (rfl)
theorem l_40 : (40 : Int32) = I 40 := (rfl)
theorem l_45 : (45 : Int32) = I 45 := (rfl)
theorem l_48 : (48 : Int32) = I 48 := (rfl)
theorem l_57 : (57 : Int32) = I 57 := (rfl)
theorem l_99 : (99 : Int32) = I 99 := (rfl)
theorem l_123 : (123 : Int32) = I 123 := (rfl)
theorem l_124 : (124 : Int32) = I 124 := (rfl)
theorem l_127 : (127 : Int32) = I 127 := (rfl)
theorem l_2000 : (2000 : Int32) = I 2000 := (rfl)
theorem l_far : (100000000 : Int32) = I 100000000 := (rfl)
theorem l_999999 : (999999 : Int32) = I 999999 := (rfl)
theorem l_m1 : (-1 : Int32) = I (-1) := (rfl)
theorem l_m2 : (-2 : Int32) = I (-2) := (rfl)
theorem l_m3 : (-3 : Int32) = I (-3) := (rfl)
theorem l_m4 : (-4 : Int32) = I (-4) := (rfl)
theorem l_m5 : (-5 : Int32) = I (-5) := (rfl)
theorem l_m10 : (-10 : Int32) = I (-10) := (rfl)
theorem gdN {α : Type} {a : Int} {n : Nat} {X : Option α} {i : Decidable (a < 0 ∨ n ≤ a.toNat)} (h0 : 0 ≤ a) (h1 : a < n) : (@ite _ (a < 0 ∨ n ≤ a.toNat) i none X) = X := if_neg (by omega)
theorem gdI {α : Type} {a : Int} {n : Nat} {X : Option α} (h0 : 0 ≤ a) (h1 : a < n) (h2 : n ≤ 2147483648) : (if I a < 0 ∨ n ≤ (I a).toNatClampNeg then none else X) = X := by
  refine if_neg ?_
  rw [I_nat (by omega) (by omega), l_0, I_lt (by omega) (by omega) (by omega) (by omega)]
  omega
theorem bz {α : Type} {x : Int32} {X : Option α} (h : x = 0 ∨ x = 1) : (if ¬ x = 0 ∧ ¬ x = 1 then none else X) = X := if_neg (fun q => h.elim q.1 q.2)
theorem itr_s {σ ρ : Type} (B : (σ → Option ρ) → σ → Option ρ) (n : Nat) (s : σ) : itr B (n + 1) s = B (itr B n) s := rfl
theorem itr_F {σ ρ : Type} (B : (σ → Option ρ) → σ → Option ρ) (s : σ) (k : Nat) (r : Option ρ) (h : ∀ n, k < n → itr B n s = r) (hk : k < 6000) : itr B FUEL s = r := h FUEL (by rw [FUEL_eq]; exact hk)
theorem tn_n (n : Nat) : ((n : Int)).toNat = n := Int.toNat_natCast n
theorem tn_4 (e i : Nat) : ((4 : Int) * (e : Int) + (i : Int)).toNat = 4 * e + i := by omega
theorem tn_4b (e i : Nat) : ((e : Int) * 4 + (i : Int)).toNat = 4 * e + i := by omega
theorem tn_4c (e : Nat) : ((4 : Int) * (e : Int)).toNat = 4 * e := by omega
theorem tn_25 (e i : Nat) : ((e : Int) * 25 + (i : Int)).toNat = 25 * e + i := by omega
theorem tn_25b (e i : Nat) : ((25 : Int) * (e : Int) + (i : Int)).toNat = 25 * e + i := by omega
theorem upd_s (f : Nat → Int32) (k : Nat) (x : Int32) : upd f k x k = x := if_pos rfl
theorem upd_n (f : Nat → Int32) {k j : Nat} (x : Int32) (h : j ≠ k) : upd f k x j = f j := if_neg h
theorem up2_s (f : sF) (j k : Nat) (x : Int32) : up2 f j k x j = upd (f j) k x := if_pos rfl
theorem up2_n (f : sF) {j a : Nat} (k : Nat) (x : Int32) (h : a ≠ j) : up2 f j k x a = f a := if_neg h
theorem gdM {α : Type} {e n : Nat} {X : Option α} {i : Decidable ((e : Int) < 0 ∨ n ≤ e)} (h1 : e < n) : (@ite _ ((e : Int) < 0 ∨ n ≤ e) i none X) = X := if_neg (by omega)
theorem upd_e (f : Nat → Int32) (k j : Nat) (x : Int32) : upd f k x j = if j = k then x else f j := rfl
theorem up2_e (f : sF) (j k a b : Nat) (x : Int32) : up2 f j k x a b = if a = j ∧ b = k then x else f a b := by
  unfold up2 upd
  by_cases h : a = j
  · subst h
    by_cases h2 : b = k
    · rw [if_pos rfl, if_pos h2, if_pos ⟨rfl, h2⟩]
    · rw [if_pos rfl, if_neg h2, if_neg (fun q => h2 q.2)]
  · rw [if_neg h, if_neg (fun q => h q.1)]
theorem if01 {P : Prop} {d : Decidable P} : (@ite Int32 P d (I 1) (I 0) = I 0) = ¬ P := by
  by_cases h : P
  · rw [if_pos h]; exact propext ⟨fun q => absurd q (by decide), fun q => absurd h q⟩
  · rw [if_neg h]; exact propext ⟨fun _ => h, fun _ => rfl⟩
theorem gdG {α : Type} {a : Int} {n k : Nat} {X : Option α} {i : Decidable (a < 0 ∨ n ≤ k)} (h0 : 0 ≤ a) (h1 : k < n) : (@ite _ (a < 0 ∨ n ≤ k) i none X) = X := if_neg (by omega)
def nset (f : Nat → Nat) (k v : Nat) : Nat → Nat := fun i => if i = k then v else f i
theorem nset_e (f : Nat → Nat) (k v i : Nat) : nset f k v i = if i = k then v else f i := rfl
def zset (f : Nat → Int) (k : Nat) (v : Int) : Nat → Int := fun i => if i = k then v else f i
theorem zset_e (f : Nat → Int) (k : Nat) (v : Int) (i : Nat) : zset f k v i = if i = k then v else f i := rfl
theorem I_64 {n : Int} (h1 : -2147483648 ≤ n) (h2 : n < 2147483648) : (I n).toInt64 = Jl n := Int32.toInt64_ofInt (by show (-2147483648 : Int) ≤ n; exact h1) (by show n ≤ (2147483647 : Int); omega)
theorem J_sub (a b : Int) : Jl a - Jl b = Jl (a - b) := (Int64.ofInt_sub a b).symm
theorem J_add (a b : Int) : Jl a + Jl b = Jl (a + b) := (Int64.ofInt_add a b).symm
theorem J_mul (a b : Int) : Jl a * Jl b = Jl (a * b) := (Int64.ofInt_mul a b).symm
theorem J_32 (n : Int) : (Jl n).toInt32 = I n := Int64.toInt32_ofInt
theorem J_int {n : Int} (h1 : -9223372036854775808 ≤ n) (h2 : n < 9223372036854775808) : (Jl n).toInt = n := Int64.toInt_ofInt_of_le (by omega) (by omega)
theorem J_cmp {a b : Int} (h1 : -9223372036854775808 ≤ a) (h2 : a < 9223372036854775808) (h3 : -9223372036854775808 ≤ b) (h4 : b < 9223372036854775808) : lg_cmp (Jl a) (Jl b) = if b < a then I 1 else if a = b then I 0 else I (-1) := by
  unfold lg_cmp
  have e1 : (Jl a > Jl b) = (b < a) := by
    show (Jl b < Jl a) = _
    rw [Int64.lt_iff_toInt_lt, J_int h1 h2, J_int h3 h4]
  have e2 : (Jl a = Jl b) = (a = b) := by
    rw [← Int64.toInt_inj, J_int h1 h2, J_int h3 h4]
  by_cases q : b < a
  · rw [if_pos (e1.mpr q), if_pos q]; rfl
  · rw [if_neg (fun z => q (e1.mp z)), if_neg q]
    by_cases q2 : a = b
    · rw [if_pos (e2.mpr q2), if_pos q2]; rfl
    · rw [if_neg (fun z => q2 (e2.mp z)), if_neg q2]; rfl
theorem J_cmp0 {a b : Int} (h1 : -9223372036854775808 ≤ a) (h2 : a < 9223372036854775808) (h3 : -9223372036854775808 ≤ b) (h4 : b < 9223372036854775808) : (lg_cmp (Jl a) (Jl b) < I 0) = (a < b) := by
  rw [J_cmp h1 h2 h3 h4]
  by_cases q : b < a
  · rw [if_pos q]
    exact propext ⟨fun z => absurd z (by decide), fun z => by omega⟩
  · rw [if_neg q]
    by_cases q2 : a = b
    · rw [if_pos q2]
      exact propext ⟨fun z => absurd z (by decide), fun z => by omega⟩
    · rw [if_neg q2]
      exact propext ⟨fun _ => by omega, fun _ => by decide⟩
theorem J_cmp1 {a b : Int} (h1 : -9223372036854775808 ≤ a) (h2 : a < 9223372036854775808) (h3 : -9223372036854775808 ≤ b) (h4 : b < 9223372036854775808) : (I 0 < lg_cmp (Jl a) (Jl b)) = (b < a) := by
  rw [J_cmp h1 h2 h3 h4]
  by_cases q : b < a
  · rw [if_pos q]
    exact propext ⟨fun _ => q, fun _ => by decide⟩
  · rw [if_neg q]
    by_cases q2 : a = b
    · rw [if_pos q2]
      exact propext ⟨fun z => absurd z (by decide), fun z => by omega⟩
    · rw [if_neg q2]
      exact propext ⟨fun z => absurd z (by decide), fun z => by omega⟩
theorem J_cmp2 {a b : Int} (h1 : -9223372036854775808 ≤ a) (h2 : a < 9223372036854775808) (h3 : -9223372036854775808 ≤ b) (h4 : b < 9223372036854775808) : (lg_cmp (Jl a) (Jl b) ≤ I 0) = (a ≤ b) := by
  rw [J_cmp h1 h2 h3 h4]
  by_cases q : b < a
  · rw [if_pos q]
    exact propext ⟨fun z => absurd z (by decide), fun z => by omega⟩
  · rw [if_neg q]
    by_cases q2 : a = b
    · rw [if_pos q2]
      exact propext ⟨fun _ => by omega, fun _ => by decide⟩
    · rw [if_neg q2]
      exact propext ⟨fun _ => by omega, fun _ => by decide⟩
