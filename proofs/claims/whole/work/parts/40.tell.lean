/-! loops by a rule; the grips of one event: what the class keeps of those that it has told -/
theorem itr_rule {σ ρ : Type} {B : (σ → Option ρ) → σ → Option ρ} (Inv : Nat → σ → Prop) (N : Nat) (Post : Option ρ → Prop) (hs : ∀ K i s, i < N → Inv i s → (∃ s', B K s = K s' ∧ Inv (i + 1) s') ∨ Post (B K s)) (hx : ∀ K s, Inv N s → Post (B K s)) : ∀ n i s, i ≤ N → N - i < n → Inv i s → Post (itr B n s) := by
  intro n
  induction n with
  | zero => intro i s _ h; omega
  | succ n ih =>
    intro i s hi hn h
    rw [itr_s]
    by_cases q : i = N
    · subst q
      exact hx _ s h
    · rcases hs (itr B n) i s (by omega) h with ⟨s', e, h'⟩ | h'
      · rw [e]
        exact ih (i + 1) s' (by omega) (by omega) h'
      · exact h'
theorem itr_R {σ ρ : Type} {B : (σ → Option ρ) → σ → Option ρ} {s : σ} (Inv : Nat → σ → Prop) (N : Nat) (Post : Option ρ → Prop) (h0 : Inv 0 s) (hN : N < 6000) (hs : ∀ K i s, i < N → Inv i s → (∃ s', B K s = K s' ∧ Inv (i + 1) s') ∨ Post (B K s)) (hx : ∀ K s, Inv N s → Post (B K s)) : Post (itr B FUEL s) :=
  itr_rule Inv N Post hs hx FUEL 0 s (Nat.zero_le N) (by rw [FUEL_eq]; exact hN) h0
noncomputable def cb (P : Prop) : Bool := @decide P (Classical.propDecidable P)
theorem cb_t {P : Prop} : cb P = true ↔ P := @decide_eq_true_iff P (Classical.propDecidable P)
theorem cb_f {P : Prop} : cb P = false ↔ ¬ P := @decide_eq_false_iff_not P (Classical.propDecidable P)
/-- how many, the least cost, how often, at which place first, which one -/
def lstep (cost : Nat → Int) (s : Nat × Int × Nat × Nat × Nat) (c : Nat) : Nat × Int × Nat × Nat × Nat :=
  if s.1 = 0 ∨ cost c < s.2.1 then (s.1 + 1, cost c, 1, s.1, c) else if cost c = s.2.1 then (s.1 + 1, s.2.1, s.2.2.1 + 1, s.2.2.2.1, s.2.2.2.2) else (s.1 + 1, s.2.1, s.2.2.1, s.2.2.2.1, s.2.2.2.2)
def lst (cost : Nat → Int) (l : List Nat) : Nat × Int × Nat × Nat × Nat := l.foldl (lstep cost) (0, 0, 0, 0, 0)
theorem lst_snoc (cost : Nat → Int) (l : List Nat) (c : Nat) : lst cost (l ++ [c]) = lstep cost (lst cost l) c := by
  unfold lst
  rw [List.foldl_append]
  rfl
theorem lstep_1 (cost : Nat → Int) (s : Nat × Int × Nat × Nat × Nat) (c : Nat) : (lstep cost s c).1 = s.1 + 1 := by
  unfold lstep
  split
  · rfl
  · split <;> rfl
theorem lst_len (cost : Nat → Int) (l : List Nat) : (lst cost l).1 = l.length := by
  have : ∀ (l : List Nat) (s : Nat × Int × Nat × Nat × Nat), (l.foldl (lstep cost) s).1 = s.1 + l.length := by
    intro l
    induction l with
    | nil => intro s; rfl
    | cons c l ih => intro s; rw [List.foldl_cons, ih, lstep_1, List.length_cons]; omega
  unfold lst
  rw [this]
  simp
theorem snoc_ind {P : List Nat → Prop} (h0 : P []) (hs : ∀ l c, P l → P (l ++ [c])) (l : List Nat) : P l := by
  have : ∀ l : List Nat, P l.reverse := by
    intro l
    induction l with
    | nil => exact h0
    | cons c l ih => rw [List.reverse_cons]; exact hs _ _ ih
  have h := this l.reverse
  rwa [List.reverse_reverse] at h
/-- bounds of what lst tells, if all costs are bounded -/
theorem lst_bd (cost : Nat → Int) (l : List Nat) (h : ∀ c ∈ l, 0 ≤ cost c ∧ cost c ≤ 2000) : 0 ≤ (lst cost l).2.1 ∧ (lst cost l).2.1 ≤ 2000 ∧ (lst cost l).2.2.1 ≤ l.length ∧ (lst cost l).2.2.2.1 ≤ l.length := by
  induction l using snoc_ind with
  | h0 => exact ⟨Int.le_refl 0, by show (0 : Int) ≤ 2000; decide, Nat.le_refl 0, Nat.le_refl 0⟩
  | hs l c ih =>
    have i := ih (fun c hc => h c (List.mem_append_left _ hc))
    have j := h c (List.mem_append_right _ (List.mem_singleton.mpr rfl))
    have e := lst_len cost l
    rw [lst_snoc, List.length_append, List.length_singleton]
    unfold lstep
    split
    · exact ⟨j.1, j.2, by simp only; omega, by simp only; omega⟩
    · split
      · exact ⟨i.1, i.2.1, by simp only; omega, by simp only; omega⟩
      · exact ⟨i.1, i.2.1, by simp only; omega, by simp only; omega⟩
def TSp (cost : Nat → Int) (row : Nat → Int) (l : List Nat) (p : Nat) (g : sG) (f : sF) : Prop :=
  f 9 p = I (lst cost l).1 ∧ ((lst cost l).1 ≠ 0 → f 10 p = I (lst cost l).2.1 ∧ f 11 p = I (lst cost l).2.2.1 ∧ f 13 p = I (lst cost l).2.2.2.1 ∧ f 12 p = I (row (lst cost l).2.2.2.2)) ∧
  ∀ q, q < l.length → g 6 = I p → g 7 = I q → g 8 = I (row (l.getD q 0)) ∧ g 9 = I (cost (l.getD q 0))
def Fr (g : sG) (f : sF) (g' : sG) (f' : sF) : Prop := (∀ x, x ≠ 8 → x ≠ 9 → g' x = g x) ∧ (∀ j, j < 9 ∨ 13 < j → f' j = f j)
theorem Fr.rf {g : sG} {f : sF} : Fr g f g f := ⟨fun _ _ _ => rfl, fun _ _ => rfl⟩
theorem Fr.tr {g g' g'' : sG} {f f' f'' : sF} (h : Fr g f g' f') (h' : Fr g' f' g'' f'') : Fr g f g'' f'' := ⟨fun x a b => (h'.1 x a b).trans (h.1 x a b), fun j a => (h'.2 j a).trans (h.2 j a)⟩
theorem tell_v {cost : Nat → Int} {row : Nat → Int} {l : List Nat} {p c : Nat} {g : sG} {f : sF} (hp : p < 25) (hT : TSp cost row l p g f) (hl : l.length ≤ 5000) (hc : ∀ c ∈ l, 0 ≤ cost c ∧ cost c ≤ 2000) (h1 : 0 ≤ cost c ∧ cost c ≤ 2000) (hr : 0 ≤ row c ∧ row c ≤ 5000) (h6 : -1 ≤ (g 6).toInt ∧ (g 6).toInt ≤ 30) :
    ∃ g' f', p_GF_tell (I p) (I (row c)) (I (cost c)) g f = some (g', f') ∧ TSp cost row (l ++ [c]) p g' f' ∧ Fr g f g' f' ∧ (∀ j q, q ≠ p → f' j q = f j q) ∧ (∀ q, q ≠ p → q < 25 → g 6 = I q → g' = g) := by
  obtain ⟨t1, t2, t3⟩ := hT
  have e := lst_len cost l
  have bd := lst_bd cost l hc
  have hsn := lst_snoc cost l c
  generalize lst cost l = S at *
  obtain ⟨n, lc, lk, fp, fc⟩ := S
  dsimp only at *
  subst e
  -- the end of it: what is wanted
  have J96 : ∀ f2 : sF, f2 9 p = I ((l.length : Int) + 1) → ((lst cost (l ++ [c])).1 ≠ 0 → f2 10 p = I (lst cost (l ++ [c])).2.1 ∧ f2 11 p = I (lst cost (l ++ [c])).2.2.1 ∧ f2 13 p = I (lst cost (l ++ [c])).2.2.2.1 ∧ f2 12 p = I (row (lst cost (l ++ [c])).2.2.2.2)) → (∀ j, j < 9 ∨ 13 < j → f2 j = f j) → (∀ j q, q ≠ p → f2 j q = f j q) →
      ∃ g' f', p_GF_tell_J96 (I p) (I (row c)) (I (cost c)) (I l.length) g f2 = some (g', f') ∧ TSp cost row (l ++ [c]) p g' f' ∧ Fr g f g' f' ∧ (∀ j q, q ≠ p → f' j q = f j q) ∧ (∀ q, q ≠ p → q < 25 → g 6 = I q → g' = g) := by
    intro f2 a1 a2 a3 a4
    have el : (lst cost (l ++ [c])).1 = l.length + 1 := by rw [lst_len, List.length_append, List.length_singleton]
    have a0 : f2 9 p = I (lst cost (l ++ [c])).1 := by rw [el, a1]; rfl
    unfold p_GF_tell_J96
    by_cases w1 : I (p : Int) = g 6
    · rw [if_pos w1]
      by_cases w2 : I (l.length : Int) = g 7
      · rw [if_pos w2]
        refine ⟨_, _, rfl, ⟨a0, a2, fun q hq k6 k7 => ?_⟩, ⟨fun x y z => ?_, a3⟩, a4, fun q hq hq2 k6 => ?_⟩
        · have k7' : g 7 = I q := k7
          rw [← w2] at k7'
          have hqe : q = l.length := by
            rw [List.length_append, List.length_singleton] at hq
            rw [I_eq (by omega) (by omega) (by omega) (by omega)] at k7'
            omega
          subst hqe
          rw [List.getD_eq_getElem?_getD, List.getElem?_append_right (Nat.le_refl _), Nat.sub_self]
          exact ⟨rfl, rfl⟩
        · rw [upd_n _ _ z, upd_n _ _ y]
        · rw [← w1] at k6
          rw [I_eq (by omega) (by omega) (by omega) (by omega)] at k6
          omega
      · rw [if_neg w2]
        refine ⟨_, _, rfl, ⟨a0, a2, fun q hq k6 k7 => ?_⟩, ⟨fun x y z => rfl, a3⟩, a4, fun _ _ _ _ => rfl⟩
        rw [List.length_append, List.length_singleton] at hq
        have hq' : q < l.length := by
          rcases Nat.lt_or_ge q l.length with z | z
          · exact z
          · have : q = l.length := by omega
            subst this
            exact absurd k7.symm w2
        have := t3 q hq' k6 k7
        rw [List.getD_eq_getElem?_getD, List.getElem?_append_left hq', ← List.getD_eq_getElem?_getD]
        exact this
    · rw [if_neg w1]
      refine ⟨_, _, rfl, ⟨a0, a2, fun q hq k6 k7 => absurd k6.symm w1⟩, ⟨fun x y z => rfl, a3⟩, a4, fun _ _ _ _ => rfl⟩
  have J44 : ∀ f2 : sF, f2 9 p = I ((l.length : Int) + 1) → (lst cost (l ++ [c])) = (l.length + 1, cost c, 1, l.length, c) → (∀ j, j < 9 ∨ 13 < j → f2 j = f j) → (∀ j q, q ≠ p → f2 j q = f j q) →
      ∃ g' f', p_GF_tell_J44 (I p) (I (row c)) (I (cost c)) (I l.length) g f2 = some (g', f') ∧ TSp cost row (l ++ [c]) p g' f' ∧ Fr g f g' f' ∧ (∀ j q, q ≠ p → f' j q = f j q) ∧ (∀ q, q ≠ p → q < 25 → g 6 = I q → g' = g) := by
    intro f2 a1 a2 a3 a4
    unfold p_GF_tell_J44
    simp (disch := omega) only [l_0, l_1, l_2, l_3, l_4, l_5, l_6, l_7, l_9, l_10, l_20, l_24, l_25, l_31, l_40, l_45, l_48, l_57, l_99, l_123, l_124, l_127, l_2000, l_far, l_999999, lt_, I_lt, I_nat, tn_n, gdG]
    refine J96 _ ?_ (fun _ => ?_) ?_ ?_
    · rw [up2_n _ _ _ (by omega), up2_n _ _ _ (by omega), up2_n _ _ _ (by omega), up2_n _ _ _ (by omega)]
      exact a1
    · rw [a2]
      simp only [up2_e, and_self, and_true, true_and, if_true, and_false, false_and, if_false, Nat.reduceEqDiff, reduceIte]
      rfl
    · intro j hj
      rw [up2_n _ _ _ (by omega), up2_n _ _ _ (by omega), up2_n _ _ _ (by omega), up2_n _ _ _ (by omega)]
      exact a3 j hj
    · intro j q hq
      rw [up2_e, if_neg (by omega), up2_e, if_neg (by omega), up2_e, if_neg (by omega), up2_e, if_neg (by omega)]
      exact a4 j q hq
  unfold p_GF_tell
  simp (disch := omega) only [l_0, l_1, l_2, l_3, l_4, l_5, l_6, l_7, l_9, l_10, l_20, l_24, l_25, l_31, l_40, l_45, l_48, l_57, l_99, l_123, l_124, l_127, l_2000, l_far, l_999999, lt_, I_lt, I_le, I_eq, I_nat, I_add, tn_n, gdG, t1]
  rw [if_neg (by omega), if_pos (by omega)]
  have z1 : up2 f 9 p (I ((l.length : Int) + 1)) 9 p = I ((l.length : Int) + 1) := by rw [up2_s, upd_s]
  have z2 : ∀ j, j < 9 ∨ 13 < j → up2 f 9 p (I ((l.length : Int) + 1)) j = f j := fun j hj => up2_n _ _ _ (by omega)
  have z3 : ∀ j q, q ≠ p → up2 f 9 p (I ((l.length : Int) + 1)) j q = f j q := fun j q hq => by rw [up2_e, if_neg (by omega)]
  have z4 : ∀ j q, j ≠ 9 → up2 f 9 p (I ((l.length : Int) + 1)) j q = f j q := fun j q hq => by rw [up2_n _ _ _ hq]
  have sn : lst cost (l ++ [c]) = lstep cost (l.length, lc, lk, fp, fc) c := hsn
  unfold lstep at sn
  dsimp only at sn
  by_cases hn : (l.length : Int) = 0
  · rw [if_pos hn]
    rw [if_pos (Or.inl (by omega))] at sn
    exact J44 _ z1 sn z2 z3
  · rw [if_neg hn]
    obtain ⟨u10, u11, u13, u12⟩ := t2 (by omega)
    rw [z4 10 p (by omega), z4 11 p (by omega), u10, u11]
    simp (disch := omega) only [I_le, I_eq, I_add]
    by_cases hlt : cost c < lc
    · rw [if_pos (Or.inr hlt)] at sn
      rw [if_neg (by omega)]
      exact J44 _ z1 sn z2 z3
    · rw [if_neg (by omega)] at sn
      rw [if_pos (by omega)]
      by_cases heq : cost c = lc
      · rw [if_pos heq] at sn
        rw [if_pos heq]
        refine J96 _ ?_ (fun _ => ?_) ?_ ?_
        · rw [up2_n _ _ _ (by omega)]
          exact z1
        · rw [sn]
          simp only [up2_e, and_self, and_true, true_and, if_true, and_false, false_and, if_false, Nat.reduceEqDiff, reduceIte]
          exact ⟨u10, rfl, u13, u12⟩
        · intro j hj
          rw [up2_n _ _ _ (by omega)]
          exact z2 j hj
        · intro j q hq
          rw [up2_e, if_neg (by omega)]
          exact z3 j q hq
      · rw [if_neg heq] at sn
        rw [if_neg heq]
        refine J96 _ z1 (fun _ => ?_) z2 z3
        rw [sn, z4 _ _ (by omega), z4 _ _ (by omega), z4 _ _ (by omega), z4 _ _ (by omega)]
        exact ⟨u10, u11, u13, u12⟩
