/-! the ways to lay an event's pitches: numbered by their strings, the first pitch's string counts most -/
def pdg (m i a j : Nat) : Nat := a / m ^ (i - 1 - j) % m
theorem pdg_lt {m i a j : Nat} (hm : 0 < m) : pdg m i a j < m := Nat.mod_lt _ hm
theorem pdg_up {m i a j s : Nat} (hj : j < i) (hs : s < m) : pdg m (i + 1) (a * m + s) j = pdg m i a j := by
  unfold pdg
  have e : i + 1 - 1 - j = (i - 1 - j) + 1 := by omega
  rw [e, Nat.pow_succ, Nat.mul_comm (m ^ _) m, ← Nat.div_div_eq_div_mul]
  rw [Nat.add_comm, Nat.add_mul_div_right _ _ (by omega), Nat.div_eq_of_lt hs, Nat.zero_add]
theorem pdg_last {m i a s : Nat} (hs : s < m) : pdg m (i + 1) (a * m + s) i = s := by
  unfold pdg
  have e : i + 1 - 1 - i = 0 := by omega
  rw [e, Nat.pow_zero, Nat.div_one, Nat.add_comm, Nat.add_mul_mod_self_right, Nat.mod_eq_of_lt hs]
theorem pdg_pre {m k i c j : Nat} (hi : i ≤ k) (hj : j < i) : pdg m k c j = pdg m i (c / m ^ (k - i)) j := by
  unfold pdg
  have e : k - 1 - j = (k - i) + (i - 1 - j) := by omega
  rw [e, Nat.pow_add, ← Nat.div_div_eq_div_mul]
section LY
variable (m k nk cp : Nat) (op wt P : Nat → Nat) (Bd : Nat → Int)
/-- the fret of pitch j on its string in way a of i pitches -/
def frw (i a j : Nat) : Int := frt nk cp op (pdg m i a j) (P j)
def okd (s j : Nat) : Prop := frt nk cp op s (P j) ≠ -1 ∧ (Bd j = -1 ∨ Bd j = s)
def goodw (i a : Nat) : Prop := ∀ j, j < i → okd nk cp op P Bd (pdg m i a j) j ∧ ∀ h, h < j → pdg m i a h ≠ pdg m i a j
noncomputable def gl (a b : Nat) : List Nat := (List.range' a (b - a)).filter (fun c => cb (goodw m nk cp op P Bd k c))
def roww (i a : Nat) : Int := sm (fun j => (pdg m i a j : Int) * 8 ^ j) i
end LY
section LZ
variable {m k nk cp : Nat} {op wt P : Nat → Nat} {Bd : Nat → Int}
theorem good_up {i a s : Nat} (hs : s < m) : goodw m nk cp op P Bd (i + 1) (a * m + s) ↔ goodw m nk cp op P Bd i a ∧ okd nk cp op P Bd s i ∧ ∀ h, h < i → pdg m i a h ≠ s := by
  constructor
  · intro h
    refine ⟨fun j hj => ?_, ?_, fun q hq => ?_⟩
    · have := h j (by omega)
      rw [pdg_up hj hs] at this
      refine ⟨this.1, fun q hq => ?_⟩
      have z := this.2 q hq
      rw [pdg_up (by omega) hs] at z
      exact z
    · have := h i (by omega)
      rw [pdg_last hs] at this
      exact this.1
    · have := (h i (by omega)).2 q hq
      rw [pdg_last hs, pdg_up hq hs] at this
      exact this
  · intro ⟨h1, h2, h3⟩ j hj
    by_cases q : j = i
    · subst q
      rw [pdg_last hs]
      refine ⟨h2, fun h hh => ?_⟩
      rw [pdg_up hh hs]
      exact h3 h hh
    · rw [pdg_up (by omega) hs]
      refine ⟨(h1 j (by omega)).1, fun h hh => ?_⟩
      rw [pdg_up (by omega) hs]
      exact (h1 j (by omega)).2 h hh
theorem good_pre {i c : Nat} (hi : i ≤ k) (h : goodw m nk cp op P Bd k c) : goodw m nk cp op P Bd i (c / m ^ (k - i)) := by
  intro j hj
  have := h j (by omega)
  rw [pdg_pre hi hj] at this
  refine ⟨this.1, fun q hq => ?_⟩
  have z := this.2 q hq
  rw [pdg_pre hi (by omega)] at z
  exact z
theorem gl_app {a b c : Nat} (h1 : a ≤ b) (h2 : b ≤ c) : gl m k nk cp op P Bd a b ++ gl m k nk cp op P Bd b c = gl m k nk cp op P Bd a c := by
  unfold gl
  rw [← List.filter_append]
  congr 1
  have e : c - a = (b - a) + (c - b) := by omega
  rw [e, ← List.range'_append_1]
  congr 2
  omega
theorem gl_nil {a b : Nat} (h : ∀ c, a ≤ c → c < b → ¬ goodw m nk cp op P Bd k c) : gl m k nk cp op P Bd a b = [] := by
  unfold gl
  rw [List.filter_eq_nil_iff]
  intro c hc
  rw [List.mem_range'_1] at hc
  rw [cb_t]
  exact h c hc.1 (by omega)
theorem gl_one {a : Nat} (h : goodw m nk cp op P Bd k a) : gl m k nk cp op P Bd a (a + 1) = [a] := by
  unfold gl
  rw [show a + 1 - a = 1 by omega]
  show List.filter _ [a] = [a]
  rw [List.filter_cons, if_pos (cb_t.mpr h)]
  rfl
theorem gl_len {a b : Nat} : (gl m k nk cp op P Bd a b).length ≤ b - a := by
  unfold gl
  exact Nat.le_trans (List.length_filter_le _ _) (by rw [List.length_range']; exact Nat.le_refl _)
theorem gl_mem {a b c : Nat} (h : c ∈ gl m k nk cp op P Bd a b) : a ≤ c ∧ c < b ∧ goodw m nk cp op P Bd k c := by
  unfold gl at h
  rw [List.mem_filter, List.mem_range'_1, cb_t] at h
  exact ⟨h.1.1, by omega, h.2⟩
/-- the codes below a prefix a of i pitches: a * m^(k-i) .. -/
theorem in_pre {i a c : Nat} (h1 : a * m ^ (k - i) ≤ c) (h2 : c < (a + 1) * m ^ (k - i)) : c / m ^ (k - i) = a := by
  have hpos : 0 < m ^ (k - i) := by
    rcases Nat.eq_zero_or_pos (m ^ (k - i)) with z | z
    · rw [z] at h2; omega
    · exact z
  exact (Nat.div_eq_iff hpos).mpr ⟨by omega, by rw [Nat.add_mul] at h2; omega⟩
end LZ
