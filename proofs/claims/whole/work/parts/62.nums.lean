/-! the number that a tab bears for an event on a string -/
section NB
variable (cp : Nat) (op sz pt st : Nat → Nat)
def nbk (e s : Nat) : Nat → Int
  | 0 => -1
  | k + 1 => if nbk e s k ≠ -1 then nbk e s k else if st (4 * e + k) = s then (pt (4 * e + k) : Int) - op s - cp else -1
def nb (e s : Nat) : Int := nbk cp op pt st e s (sz e)
end NB
def lenN (v : Int) : Nat := if v = -1 then 0 else if 10 ≤ v then 2 else 1
def digs (v : Int) : List Nat := if v = -1 then [] else if 10 ≤ v then [48 + v.toNat / 10, 48 + v.toNat % 10] else [48 + v.toNat % 10]
theorem digs_len (v : Int) : (digs v).length = lenN v := by
  unfold digs lenN
  split
  · rfl
  · split <;> rfl
theorem lenN_2 (v : Int) : lenN v ≤ 2 := by
  unfold lenN
  split
  · omega
  · split <;> omega
theorem digs_bd {v : Int} (h : v ≤ 24) : ∀ c ∈ digs v, c ≤ 127 := by
  unfold digs
  intro c hc
  split at hc
  · cases hc
  · split at hc
    · simp only [List.mem_cons, List.not_mem_nil, or_false] at hc
      omega
    · simp only [List.mem_cons, List.not_mem_nil, or_false] at hc
      omega
section NB2
variable {m nk cp ev : Nat} {op wt sz pt st : Nat → Nat} {bd : Nat → Int} {g : sG} {f : sF}
/-- a plan whose frets lie on the neck -/
def Ws (m nk cp ev : Nat) (op sz pt st : Nat → Nat) : Prop := ∀ e, e < ev → ∀ i, i < sz e → st (4 * e + i) < m ∧ cp + op (st (4 * e + i)) ≤ pt (4 * e + i) ∧ pt (4 * e + i) ≤ nk + op (st (4 * e + i))
theorem nbk_bd (hW : Ws m nk cp ev op sz pt st) {e : Nat} (he : e < ev) {s : Nat} : ∀ k, k ≤ sz e → -1 ≤ nbk cp op pt st e s k ∧ nbk cp op pt st e s k ≤ nk
  | 0, _ => ⟨by show (-1 : Int) ≤ -1; omega, by show (-1 : Int) ≤ nk; omega⟩
  | k + 1, hk => by
    have i := nbk_bd hW he (s := s) k (by omega)
    show -1 ≤ (if nbk cp op pt st e s k ≠ -1 then nbk cp op pt st e s k else if st (4 * e + k) = s then (pt (4 * e + k) : Int) - op s - cp else -1) ∧ (if nbk cp op pt st e s k ≠ -1 then nbk cp op pt st e s k else if st (4 * e + k) = s then (pt (4 * e + k) : Int) - op s - cp else -1) ≤ nk
    split
    · exact i
    · split
      · rename_i h
        obtain ⟨w1, w2, w3⟩ := hW e he k (by omega)
        rw [h] at w2 w3
        omega
      · omega
theorem nbk_keep {e s k : Nat} (h : nbk cp op pt st e s k ≠ -1) : ∀ d, nbk cp op pt st e s (k + d) = nbk cp op pt st e s k
  | 0 => rfl
  | d + 1 => by
    have i := nbk_keep h d
    show (if nbk cp op pt st e s (k + d) ≠ -1 then nbk cp op pt st e s (k + d) else _) = _
    rw [i, if_pos h]
theorem nbk_hit (hW : Ws m nk cp ev op sz pt st) {e : Nat} (he : e < ev) {s k : Nat} (hk : k < sz e) (h1 : nbk cp op pt st e s k = -1) (h2 : st (4 * e + k) = s) : nb cp op sz pt st e s = (pt (4 * e + k) : Int) - op s - cp := by
  have e1 : nbk cp op pt st e s (k + 1) = (pt (4 * e + k) : Int) - op s - cp := by
    show (if nbk cp op pt st e s k ≠ -1 then _ else if st (4 * e + k) = s then _ else _) = _
    rw [if_neg (fun h => h h1), if_pos h2]
  obtain ⟨w1, w2, w3⟩ := hW e he k hk
  rw [h2] at w2 w3
  have := nbk_keep (cp := cp) (op := op) (pt := pt) (st := st) (e := e) (s := s) (k := k + 1) (by rw [e1]; omega) (sz e - (k + 1))
  rw [show k + 1 + (sz e - (k + 1)) = sz e by omega, e1] at this
  exact this
theorem nbk_miss {e s k : Nat} (h1 : nbk cp op pt st e s k = -1) (h2 : ¬ st (4 * e + k) = s) : nbk cp op pt st e s (k + 1) = -1 := by
  show (if nbk cp op pt st e s k ≠ -1 then _ else if st (4 * e + k) = s then _ else _) = _
  rw [if_neg (fun h => h h1), if_neg h2]
theorem nb_bd (hW : Ws m nk cp ev op sz pt st) {e : Nat} (he : e < ev) (s : Nat) : -1 ≤ nb cp op sz pt st e s ∧ nb cp op sz pt st e s ≤ nk := nbk_bd hW he _ (Nat.le_refl _)
/-- how wide a column is -/
def wdk (cp : Nat) (op sz pt st : Nat → Nat) (e : Nat) : Nat → Nat
  | 0 => 1
  | s + 1 => if 9 < nb cp op sz pt st e s then 2 else wdk cp op sz pt st e s
def lgk (cp : Nat) (op sz pt st : Nat → Nat) (e : Nat) : Nat → Nat
  | 0 => 0
  | s + 1 => if lgk cp op sz pt st e s < lenN (nb cp op sz pt st e s) then lenN (nb cp op sz pt st e s) else lgk cp op sz pt st e s
theorem wlk {e : Nat} : ∀ k, 1 ≤ wdk cp op sz pt st e k ∧ wdk cp op sz pt st e k ≤ 2 ∧ lgk cp op sz pt st e k ≤ wdk cp op sz pt st e k ∧ (wdk cp op sz pt st e k = 2 → lgk cp op sz pt st e k = 2) ∧ ∀ s, s < k → nb cp op sz pt st e s ≠ -1 → 1 ≤ lgk cp op sz pt st e k
  | 0 => ⟨Nat.le_refl 1, by show 1 ≤ 2; omega, by show 0 ≤ 1; omega, fun h => (by cases h), fun s hs => by omega⟩
  | k + 1 => by
    obtain ⟨i1, i2, i3, i4, i5⟩ := wlk k
    have ew : wdk cp op sz pt st e (k + 1) = if 9 < nb cp op sz pt st e k then 2 else wdk cp op sz pt st e k := rfl
    have el : lgk cp op sz pt st e (k + 1) = if lgk cp op sz pt st e k < lenN (nb cp op sz pt st e k) then lenN (nb cp op sz pt st e k) else lgk cp op sz pt st e k := rfl
    have i6 : 1 ≤ lgk cp op sz pt st e k ∨ ∀ s, s < k → nb cp op sz pt st e s = -1 := by
      by_cases h : 1 ≤ lgk cp op sz pt st e k
      · exact Or.inl h
      · refine Or.inr (fun s hs => Classical.byContradiction (fun q => h (i5 s hs q)))
    have l2 := lenN_2 (nb cp op sz pt st e k)
    rw [ew, el]
    have hl : lenN (nb cp op sz pt st e k) = if nb cp op sz pt st e k = -1 then 0 else if 10 ≤ nb cp op sz pt st e k then 2 else 1 := rfl
    by_cases h9 : 9 < nb cp op sz pt st e k
    · rw [if_neg (by omega), if_pos (by omega)] at hl
      rw [if_pos h9, hl]
      by_cases q : lgk cp op sz pt st e k < 2
      · rw [if_pos q]; exact ⟨by omega, by omega, by omega, fun _ => rfl, fun _ _ _ => by omega⟩
      · rw [if_neg q]; exact ⟨by omega, by omega, by omega, fun _ => by omega, fun _ _ _ => by omega⟩
    · rw [if_neg h9]
      by_cases h0 : nb cp op sz pt st e k = -1
      · rw [if_pos h0] at hl
        rw [hl, if_neg (by omega)]
        refine ⟨i1, i2, i3, i4, fun s hs hn => ?_⟩
        by_cases q : s = k
        · subst q; exact absurd h0 hn
        · exact i5 s (by omega) hn
      · rw [if_neg h0, if_neg (by omega)] at hl
        rw [hl]
        by_cases q : lgk cp op sz pt st e k < 1
        · rw [if_pos q]
          exact ⟨i1, i2, by omega, fun h => by have := i4 h; omega, fun _ _ _ => by omega⟩
        · rw [if_neg q]
          exact ⟨i1, i2, i3, i4, fun _ _ _ => by omega⟩
theorem lgk_ge {e : Nat} : ∀ {k s : Nat}, s < k → lenN (nb cp op sz pt st e s) ≤ lgk cp op sz pt st e k
  | 0, s, h => by omega
  | k + 1, s, h => by
    have el : lgk cp op sz pt st e (k + 1) = if lgk cp op sz pt st e k < lenN (nb cp op sz pt st e k) then lenN (nb cp op sz pt st e k) else lgk cp op sz pt st e k := rfl
    rw [el]
    by_cases q : s = k
    · subst q
      split <;> omega
    · have := lgk_ge (e := e) (k := k) (s := s) (by omega)
      split <;> omega
theorem lg_wd (hB : Base m nk cp ev op wt sz pt bd) (hW : Ws m nk cp ev op sz pt st) {e : Nat} (he : e < ev) : lgk cp op sz pt st e m = wdk cp op sz pt st e m := by
  obtain ⟨i1, i2, i3, i4, i5⟩ := wlk (cp := cp) (op := op) (sz := sz) (pt := pt) (st := st) (e := e) m
  have hs := hB.2.2.2.1 e he
  obtain ⟨w1, w2, w3⟩ := hW e he 0 (by omega)
  have h := nbk_hit hW he (s := st (4 * e + 0)) (k := 0) (by omega) rfl rfl
  have := i5 _ w1 (by rw [h]; omega)
  omega
/-! the tab -/
def cell (m cp : Nat) (op sz pt st : Nat → Nat) (e s : Nat) : List Nat := 45 :: (digs (nb cp op sz pt st e s) ++ List.replicate (wdk cp op sz pt st e m - lenN (nb cp op sz pt st e s)) 45)
def cells (m cp : Nat) (op sz pt st : Nat → Nat) (s : Nat) : Nat → List Nat
  | 0 => []
  | n + 1 => cells m cp op sz pt st s n ++ cell m cp op sz pt st n s
def linesT (m cp ev : Nat) (op sz pt st : Nat → Nat) : Nat → List Nat
  | 0 => []
  | k + 1 => linesT m cp ev op sz pt st k ++ (124 :: (cells m cp op sz pt st (m - 1 - k) ev ++ [45, 124, 10]))
theorem cell_len {e s : Nat} : (cell m cp op sz pt st e s).length ≤ 3 := by
  unfold cell
  have := (wlk (cp := cp) (op := op) (sz := sz) (pt := pt) (st := st) (e := e) m).2.1
  have := lenN_2 (nb cp op sz pt st e s)
  rw [List.length_cons, List.length_append, List.length_replicate, digs_len]
  omega
theorem cells_len {s : Nat} : ∀ n, (cells m cp op sz pt st s n).length ≤ 3 * n
  | 0 => Nat.le_refl 0
  | n + 1 => by
    show (cells m cp op sz pt st s n ++ cell m cp op sz pt st n s).length ≤ _
    have := cells_len (s := s) n
    have := cell_len (m := m) (cp := cp) (op := op) (sz := sz) (pt := pt) (st := st) (e := n) (s := s)
    rw [List.length_append]
    omega
theorem lines_len (hv : ev ≤ 40) : ∀ k, (linesT m cp ev op sz pt st k).length ≤ 124 * k
  | 0 => Nat.le_refl 0
  | k + 1 => by
    show (linesT m cp ev op sz pt st k ++ (124 :: (cells m cp op sz pt st (m - 1 - k) ev ++ [45, 124, 10]))).length ≤ _
    have := lines_len hv k
    have := cells_len (m := m) (cp := cp) (op := op) (sz := sz) (pt := pt) (st := st) (s := m - 1 - k) ev
    rw [List.length_append, List.length_cons, List.length_append]
    show _ + (_ + 3 + 1) ≤ _
    omega
theorem cell_bd (hB : Base m nk cp ev op wt sz pt bd) (hW : Ws m nk cp ev op sz pt st) {e s : Nat} (he : e < ev) : ∀ c ∈ cell m cp op sz pt st e s, c ≤ 127 := by
  intro c hc
  have b2 := hB.1.2.2.1
  unfold cell at hc
  rcases List.mem_cons.mp hc with h | h
  · omega
  · rcases List.mem_append.mp h with h | h
    · exact digs_bd (by have := (nb_bd hW he s).2; omega) c h
    · have := List.eq_of_mem_replicate h; omega
theorem cells_bd (hB : Base m nk cp ev op wt sz pt bd) (hW : Ws m nk cp ev op sz pt st) {s : Nat} : ∀ n, n ≤ ev → ∀ c ∈ cells m cp op sz pt st s n, c ≤ 127
  | 0, _, c, hc => by cases hc
  | n + 1, hn, c, hc => by
    rcases List.mem_append.mp (show c ∈ cells m cp op sz pt st s n ++ cell m cp op sz pt st n s from hc) with h | h
    · exact cells_bd hB hW n (by omega) c h
    · exact cell_bd hB hW (by omega) c h
theorem lines_bd (hB : Base m nk cp ev op wt sz pt bd) (hW : Ws m nk cp ev op sz pt st) : ∀ k, ∀ c ∈ linesT m cp ev op sz pt st k, c ≤ 127
  | 0, c, hc => by cases hc
  | k + 1, c, hc => by
    rcases List.mem_append.mp (show c ∈ linesT m cp ev op sz pt st k ++ (124 :: (cells m cp op sz pt st (m - 1 - k) ev ++ [45, 124, 10])) from hc) with h | h
    · exact lines_bd hB hW k c h
    · rcases List.mem_cons.mp h with h | h
      · omega
      · rcases List.mem_append.mp h with h | h
        · exact cells_bd hB hW ev (Nat.le_refl _) c h
        · simp only [List.mem_cons, List.not_mem_nil, or_false] at h
          omega
end NB2
