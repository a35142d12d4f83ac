/-! the reference's ways -/
theorem Mb.fr {m nk cp ev : Nat} {op wt sz pt : Nat → Nat} {bd : Nat → Int} {g g' : sG} {f f' : sF} (h : Mb m nk cp ev op wt sz pt bd g f) (hg : ∀ x, x ≤ 3 → g' x = g x) (hf : ∀ j, j ≤ 4 → f' j = f j) : Mb m nk cp ev op wt sz pt bd g' f' := by
  obtain ⟨⟨c0, c1, c2, c3⟩, cO, cW, cS, cP⟩ := h
  refine ⟨⟨by rw [hg 0 (by omega)]; exact c0, by rw [hg 1 (by omega)]; exact c1, by rw [hg 2 (by omega)]; exact c2, by rw [hg 3 (by omega)]; exact c3⟩, fun i hi => by rw [hf 0 (by omega)]; exact cO i hi, fun i hi => by rw [hf 1 (by omega)]; exact cW i hi, fun e he => by rw [hf 2 (by omega)]; exact cS e he, fun e he i hi => by rw [hf 3 (by omega), hf 4 (by omega)]; exact cP e he i hi⟩
def distw (m k c : Nat) : Bool := (List.range k).all (fun j => (List.range j).all (fun h => !(pdg m k c h == pdg m k c j)))
theorem dist840 : ∀ m : Nat, m < 8 → ∀ k : Nat, k < 5 → ((List.range (m ^ k)).filter (distw m k)).length ≤ 840 := by decide +kernel
section WY
variable {m k nk cp : Nat} {op P : Nat → Nat} {Bd : Nat → Int}
theorem gl_840 {c : Nat} (hm : m ≤ 7) (hk : k ≤ 4) (hc : c ≤ m ^ k) : (gl m k nk cp op P Bd 0 c).length ≤ 840 := by
  have h1 : (gl m k nk cp op P Bd 0 c).length ≤ (gl m k nk cp op P Bd 0 (m ^ k)).length := by
    rw [← gl_app (Nat.zero_le c) hc, List.length_append]
    omega
  refine Nat.le_trans h1 (Nat.le_trans ?_ (dist840 m (by omega) k (by omega)))
  unfold gl
  rw [Nat.sub_zero, ← List.range_eq_range', ← List.countP_eq_length_filter, ← List.countP_eq_length_filter]
  refine List.countP_mono_left (fun x _ hx => ?_)
  rw [cb_t] at hx
  unfold distw
  rw [List.all_eq_true]
  intro j hj
  rw [List.all_eq_true]
  intro h hh
  rw [List.mem_range] at hj hh
  have := (hx j hj).2 h hh
  simp [this]
/-- the last t digits are good -/
def goodt (m k nk cp : Nat) (op P : Nat → Nat) (Bd : Nat → Int) (c t : Nat) : Prop := ∀ j, k - t ≤ j → j < k → okd nk cp op P Bd (pdg m k c j) j ∧ ∀ h, j < h → h < k → pdg m k c h ≠ pdg m k c j
theorem goodt_all {c : Nat} : goodt m k nk cp op P Bd c k ↔ goodw m nk cp op P Bd k c := by
  constructor
  · intro h j hj
    exact ⟨(h j (by omega) hj).1, fun q hq e => (h q (by omega) (by omega)).2 j hq hj e.symm⟩
  · intro h j _ hj
    exact ⟨(h j hj).1, fun q hq hk e => (h q hk).2 j hq e.symm⟩
theorem goodt_up {c t : Nat} (ht : t < k) : goodt m k nk cp op P Bd c (t + 1) ↔ goodt m k nk cp op P Bd c t ∧ okd nk cp op P Bd (pdg m k c (k - 1 - t)) (k - 1 - t) ∧ ∀ h, k - t ≤ h → h < k → pdg m k c h ≠ pdg m k c (k - 1 - t) := by
  constructor
  · intro h
    have := h (k - 1 - t) (by omega) (by omega)
    exact ⟨fun j a b => h j (by omega) b, this.1, fun q a b => this.2 q (by omega) b⟩
  · intro ⟨h1, h2, h3⟩ j a b
    by_cases q : j = k - 1 - t
    · subst q
      exact ⟨h2, fun h c d => h3 h (by omega) d⟩
    · exact h1 j (by omega) b
end WY
