/-! the tape as a tab -/
theorem least_ex {P : Nat → Prop} (h : ∃ n, P n) : ∃ n, P n ∧ ∀ j, j < n → ¬ P j := by
  obtain ⟨n, hn⟩ := h
  induction n using Nat.strongRecOn with
  | ind n ih =>
    by_cases q : ∃ j, j < n ∧ P j
    · obtain ⟨j, a, b⟩ := q
      exact ih j a b
    · exact ⟨n, hn, fun j a b => q ⟨j, a, b⟩⟩
def inn (x : Int) : Prop := x = 45 ∨ (48 ≤ x ∧ x ≤ 57)
def sgn (n : Nat) (tp : Nat → Nat) (i : Nat) : Int := if i < n then (tp i : Int) else -1
def fitc (C c : Nat) (x : Int) : Prop := if c = C + 2 then x = 10 else if c = 0 ∨ c = C + 1 then x = 124 else inn x
def IsC (n : Nat) (tp : Nat → Nat) (C : Nat) : Prop := (∀ j, j < C → inn (sgn n tp (1 + j))) ∧ ¬ inn (sgn n tp (1 + C))
def IsI (m n : Nat) (tp : Nat → Nat) (C i : Nat) : Prop := C + 3 ≤ i ∧ i ≤ m * (C + 3) ∧ (∀ j, C + 3 ≤ j → j < i → fitc C (j % (C + 3)) (sgn n tp j)) ∧ (i < m * (C + 3) → ¬ fitc C (i % (C + 3)) (sgn n tp i))
noncomputable def F1 (m n : Nat) (tp : Nat → Nat) (C i : Nat) : Int := if sgn n tp 0 = 124 then (if sgn n tp (1 + C) = 124 then (if sgn n tp (2 + C) = 10 then (if i < m * (C + 3) then i else if m * (C + 3) < n then (m * (C + 3) : Nat) else -1) else 2 + C) else 1 + C) else 0
theorem sgn_in {n : Nat} {tp : Nat → Nat} {i : Nat} (h : sgn n tp i ≠ -1) : i < n := by
  unfold sgn at h
  split at h
  · assumption
  · exact absurd rfl h
theorem sgn_bd {n : Nat} {tp : Nat → Nat} (ht : ∀ i, i < n → tp i ≤ 127) (i : Nat) : -1 ≤ sgn n tp i ∧ sgn n tp i ≤ 127 := by
  unfold sgn
  split
  · rename_i h; have := ht i h; omega
  · omega
theorem inn_in {n : Nat} {tp : Nat → Nat} {i : Nat} (h : inn (sgn n tp i)) : i < n := sgn_in (n := n) (tp := tp) (i := i) (fun e => by rw [e] at h; unfold inn at h; omega)
theorem isC_ex (n : Nat) (tp : Nat → Nat) : ∃ C, IsC n tp C ∧ C ≤ n := by
  obtain ⟨C, h1, h2⟩ := least_ex (P := fun C => ¬ inn (sgn n tp (1 + C))) ⟨n, fun h => by have := inn_in h; omega⟩
  refine ⟨C, ⟨fun j hj => Classical.byContradiction (fun q => h2 j hj q), h1⟩, ?_⟩
  rcases Nat.eq_zero_or_pos C with z | z
  · omega
  · have : inn (sgn n tp (1 + (C - 1))) := Classical.byContradiction (fun q => h2 (C - 1) (by omega) q)
    have := inn_in this
    omega
theorem isI_ex {m : Nat} (hm : 1 ≤ m) (n : Nat) (tp : Nat → Nat) (C : Nat) : ∃ i, IsI m n tp C i := by
  have hle : C + 3 ≤ m * (C + 3) := Nat.le_mul_of_pos_left _ hm
  obtain ⟨i, ⟨h1, h2⟩, h3⟩ := least_ex (P := fun i => C + 3 ≤ i ∧ (m * (C + 3) ≤ i ∨ ¬ fitc C (i % (C + 3)) (sgn n tp i))) ⟨m * (C + 3), hle, Or.inl (Nat.le_refl _)⟩
  have hi : i ≤ m * (C + 3) := by
    rcases Nat.lt_or_ge (m * (C + 3)) i with h | h
    · exact absurd ⟨hle, Or.inl (Nat.le_refl _)⟩ (h3 _ h)
    · exact h
  refine ⟨i, h1, hi, fun j a b => Classical.byContradiction (fun q => h3 j b ⟨a, Or.inr q⟩), fun hl => ?_⟩
  rcases h2 with h2 | h2
  · omega
  · exact h2
/-! places -/
def pl (m C s c : Nat) : Nat := (m - 1 - s) * (C + 3) + 1 + c
theorem line_lt {k m W c : Nat} (hk : k < m) (hc : c < W) : k * W + c < m * W := by
  have : (k + 1) * W ≤ m * W := Nat.mul_le_mul_right W hk
  rw [Nat.add_mul, Nat.one_mul] at this
  omega
theorem pl_lt {m C s c : Nat} (hs : s < m) (hc : c < C + 2) : pl m C s c < m * (C + 3) := by
  unfold pl
  have := line_lt (k := m - 1 - s) (m := m) (W := C + 3) (c := 1 + c) (by omega) (by omega)
  omega
theorem pl_s {m C s s' c c' : Nat} (h : s < s') (hs : s' < m) (hc : c' < C + 2) : pl m C s' c' < pl m C s c := by
  unfold pl
  have : (m - 1 - s' + 1) * (C + 3) ≤ (m - 1 - s) * (C + 3) := Nat.mul_le_mul_right _ (by omega)
  rw [Nat.add_mul, Nat.one_mul] at this
  omega
/-- the tape is one of m lines of C columns -/
def WF (m C n : Nat) (tp : Nat → Nat) : Prop := n = m * (C + 3) ∧ ∀ k, k < m → tp (k * (C + 3)) = 124 ∧ tp (k * (C + 3) + (1 + C)) = 124 ∧ tp (k * (C + 3) + (2 + C)) = 10
theorem F1_wf {m n C i : Nat} {tp : Nat → Nat} (hm : 1 ≤ m) (hC : IsC n tp C) (hI : IsI m n tp C i) (h : F1 m n tp C i = -1) : WF m C n tp := by
  unfold F1 at h
  by_cases h0 : sgn n tp 0 = 124
  · rw [if_pos h0] at h
    by_cases h1 : sgn n tp (1 + C) = 124
    · rw [if_pos h1] at h
      by_cases h2 : sgn n tp (2 + C) = 10
      · rw [if_pos h2] at h
        by_cases h3 : i < m * (C + 3)
        · rw [if_pos h3] at h; omega
        · rw [if_neg h3] at h
          by_cases h4 : m * (C + 3) < n
          · rw [if_pos h4] at h; omega
          · have all : ∀ k, k < m → ∀ c, c < C + 3 → fitc C c (sgn n tp (k * (C + 3) + c)) := by
              intro k hk c hc
              rcases Nat.eq_zero_or_pos k with z | z
              · subst z
                rw [Nat.zero_mul, Nat.zero_add]
                unfold fitc
                by_cases c2 : c = C + 2
                · rw [if_pos c2, c2, Nat.add_comm]; exact h2
                · rw [if_neg c2]
                  by_cases c1 : c = 0 ∨ c = C + 1
                  · rw [if_pos c1]
                    rcases c1 with c1 | c1
                    · rw [c1]; exact h0
                    · rw [c1, Nat.add_comm]; exact h1
                  · rw [if_neg c1]
                    have := hC.1 (c - 1) (by omega)
                    rw [show 1 + (c - 1) = c by omega] at this
                    exact this
              · have e := hI.2.2.1 (k * (C + 3) + c) (by have : 1 * (C + 3) ≤ k * (C + 3) := Nat.mul_le_mul_right _ z; omega) (by have := line_lt hk hc; have := hI.2.1; omega)
                rw [Nat.mul_comm k, Nat.mul_add_mod, Nat.mod_eq_of_lt hc, Nat.mul_comm _ k] at e
                exact e
            have ge : m * (C + 3) ≤ n := by
              have a := all (m - 1) (by omega) (C + 2) (by omega)
              unfold fitc at a
              rw [if_pos rfl] at a
              have b := sgn_in (n := n) (tp := tp) (i := (m - 1) * (C + 3) + (C + 2)) (by rw [a]; omega)
              have : m * (C + 3) = (m - 1) * (C + 3) + (C + 3) := by
                rw [← Nat.add_one_mul, show m - 1 + 1 = m by omega]
              omega
            refine ⟨by omega, fun k hk => ?_⟩
            have get : ∀ c, c < C + 3 → sgn n tp (k * (C + 3) + c) = tp (k * (C + 3) + c) := fun c hc => by
              unfold sgn
              rw [if_pos (by have := line_lt hk hc; omega)]
            have a0 := all k hk 0 (by omega)
            have a1 := all k hk (1 + C) (by omega)
            have a2 := all k hk (2 + C) (by omega)
            rw [get 0 (by omega)] at a0
            rw [get (1 + C) (by omega)] at a1
            rw [get (2 + C) (by omega)] at a2
            unfold fitc at a0 a1 a2
            rw [if_neg (by omega), if_pos (Or.inl rfl)] at a0
            rw [if_neg (by omega), if_pos (Or.inr (by omega))] at a1
            rw [if_pos (by omega)] at a2
            rw [Nat.add_zero] at a0
            exact ⟨by omega, by omega, by omega⟩
      · rw [if_neg h2] at h; omega
    · rw [if_neg h1] at h; omega
  · rw [if_neg h0] at h; omega
section TB
variable (m nk cp C : Nat) (op tp : Nat → Nat)
def dg (s c : Nat) : Prop := c < C ∧ 48 ≤ tp (pl m C s c) ∧ tp (pl m C s c) ≤ 57
def bg (s c : Nat) : Prop := dg m C tp s c ∧ ¬ (0 < c ∧ dg m C tp s (c - 1))
def v1 (s c : Nat) : Nat := tp (pl m C s c) - 48
noncomputable def vl (s c : Nat) : Nat := if cb (dg m C tp s (c + 1)) = true then v1 m C tp s c * 10 + v1 m C tp s (c + 1) else v1 m C tp s c
def okn (s c : Nat) : Prop := cp + vl m C tp s c ≤ nk ∧ (dg m C tp s (c + 1) → tp (pl m C s c) ≠ 48 ∧ ¬ dg m C tp s (c + 2))
def b2 (s c : Nat) : Prop := bg m C tp s c ∧ ¬ okn m nk cp C tp s c
def b3 (s c : Nat) : Prop := bg m C tp s c ∧ ∃ t, t < m ∧ dg m C tp t c ∧ ¬ bg m C tp t c
def b3r (s c : Nat) : Prop := bg m C tp s c ∧ ∃ t, t < m ∧ t ≠ s ∧ dg m C tp t c ∧ 0 < c ∧ bg m C tp t (c - 1)
end TB
section TB2
variable {m nk cp C n : Nat} {op tp : Nat → Nat}
theorem dg_bd {s c : Nat} (h : dg m C tp s c) : c < C ∧ v1 m C tp s c ≤ 9 ∧ tp (pl m C s c) = 48 + v1 m C tp s c := by
  unfold dg at h
  unfold v1
  omega
theorem vl_bd {s c : Nat} (h : dg m C tp s c) : vl m C tp s c ≤ 99 := by
  have a := dg_bd h
  unfold vl
  split
  · rename_i q
    have b := dg_bd (cb_t.mp q)
    omega
  · omega
/-- in front of a digit a number begins -/
theorem dg_start {s : Nat} : ∀ c, dg m C tp s c → ∃ c0, c0 ≤ c ∧ bg m C tp s c0 ∧ ∀ j, c0 ≤ j → j ≤ c → dg m C tp s j
  | 0, h => ⟨0, Nat.le_refl _, ⟨h, fun q => by omega⟩, fun j a b => by rw [show j = 0 by omega]; exact h⟩
  | c + 1, h => by
    by_cases q : dg m C tp s c
    · obtain ⟨c0, a, b, d⟩ := dg_start c q
      refine ⟨c0, by omega, b, fun j x y => ?_⟩
      by_cases w : j = c + 1
      · rw [w]; exact h
      · exact d j x (by omega)
    · refine ⟨c + 1, Nat.le_refl _, ⟨h, fun w => q w.2⟩, fun j a b => by rw [show j = c + 1 by omega]; exact h⟩
theorem b3_r (h2 : ∀ s c, s < m → ¬ b2 m nk cp C tp s c) {s c : Nat} : b3 m C tp s c ↔ b3r m C tp s c := by
  constructor
  · intro ⟨h, t, t1, t2, t3⟩
    have q : 0 < c ∧ dg m C tp t (c - 1) := Classical.byContradiction (fun q => t3 ⟨t2, q⟩)
    refine ⟨h, t, t1, fun e => ?_, t2, q.1, q.2, fun w => ?_⟩
    · subst e; exact t3 h
    · obtain ⟨c0, a, b, d⟩ := dg_start (c - 1 - 1) w.2
      refine h2 t c0 t1 ⟨b, fun o => ?_⟩
      have x1 : dg m C tp t (c0 + 1) := by
        by_cases z : c0 + 1 ≤ c - 1 - 1
        · exact d _ (by omega) z
        · rw [show c0 + 1 = c - 1 by omega]; exact q.2
      have x2 : dg m C tp t (c0 + 2) := by
        by_cases z : c0 + 2 ≤ c - 1 - 1
        · exact d _ (by omega) z
        · by_cases z2 : c0 + 2 = c - 1
          · rw [z2]; exact q.2
          · rw [show c0 + 2 = c by omega]; exact t2
      exact (o.2 x1).2 x2
  · intro ⟨h, t, t1, t2, t3, t4, t5⟩
    exact ⟨h, t, t1, t3, fun w => w.2 ⟨t4, t5.1⟩⟩
/-- the first place of all -/
def isL (m C : Nat) (Q : Nat → Nat → Prop) (r : Int) : Prop := (r = -1 ∧ ∀ s c, s < m → c < C → ¬ Q s c) ∨ ∃ s c, s < m ∧ c < C ∧ Q s c ∧ r = pl m C s c ∧ ∀ s' c', s' < m → c' < C → Q s' c' → pl m C s c ≤ pl m C s' c'
end TB2
