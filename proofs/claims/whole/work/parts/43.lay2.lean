theorem bit1 : ∀ U : Nat, U < 128 → ∀ s : Nat, s < 7 → ((I U &&& (I 1 <<< (I s &&& I 31)) = I 0) ↔ U.testBit s = false) := by decide +kernel
theorem bit2 : ∀ U : Nat, U < 128 → ∀ s : Nat, s < 7 → I U ||| (I 1 <<< (I s &&& I 31)) = I ((U ||| 2 ^ s : Nat) : Int) := by decide +kernel
theorem bit3 : ∀ U : Nat, U < 128 → ∀ s : Nat, s < 7 → (((I U >>> (I s &&& I 31)) &&& I 1 = I 0) ↔ U.testBit s = false) := by decide +kernel
theorem bit4 : ∀ i : Nat, i < 4 → ∀ r : Nat, r < 8 ^ i → ∀ s : Nat, s < 7 → I r ||| (I s <<< ((I 3 * I i) &&& I 31)) = I ((r + s * 8 ^ i : Nat) : Int) := by decide +kernel
theorem or_lt {U s : Nat} (hU : U < 128) (hs : s < 7) : U ||| 2 ^ s < 128 := Nat.or_lt_two_pow (n := 7) hU (Nat.pow_lt_pow_right (by omega) hs)
theorem or_bit (U s t : Nat) : (U ||| 2 ^ s).testBit t = (U.testBit t || decide (s = t)) := by rw [Nat.testBit_or, Nat.testBit_two_pow]
theorem frt_ok {nk cp s : Nat} {op : Nat → Nat} {p : Int} (h : frt nk cp op s p ≠ -1) : (cp : Int) ≤ frt nk cp op s p ∧ frt nk cp op s p ≤ nk := by
  unfold frt at h ⊢
  split
  · assumption
  · rename_i q
    rw [if_neg q] at h
    exact absurd rfl h
theorem fretOf_w {m nk cp : Nat} {op : Nat → Nat} {g : sG} {f : sF} (b0 : m ≤ 7) (b2 : nk ≤ 24) (b3 : cp < nk) (c0 : g 0 = I m) (c1 : g 1 = I nk) (c2 : g 2 = I cp) {s : Nat} {p : Int} (hs : s < m) (cO : f 1 s = I (op s)) (ho : op s ≤ 99) (h1 : 0 ≤ p) (h2 : p < 2147483648) : p_In_fretOf (I s) (I p) g f = some (I (frt nk cp op s p)) := by
  unfold p_In_fretOf
  rw [hasString_v c0 b0 (by omega) (by omega), if_pos (by omega)]
  simp (disch := omega) only [l_0, l_1, l_2, l_3, l_4, l_5, l_6, l_7, l_9, l_10, l_20, l_24, l_25, l_31, l_40, l_45, l_48, l_57, l_99, l_123, l_124, l_127, l_2000, l_far, l_999999, Option.bind_some, I_nat, gdG, tn_n, lt_, I_eq, I_lt, reduceIte, Int.reduceNeg, Int.reduceEq, Int.reduceLT, Int.reduceLE, Int.reduceAdd, Int.reduceSub, Int.reduceMul, Int.reduceToNat, cO, c2, c1, I_sub]
  unfold frt
  by_cases h : (cp : Int) ≤ p - op s ∧ p - op s ≤ nk
  · rw [if_pos h, if_neg (by omega), if_neg (by omega)]
  · rw [if_neg h]
    split
    · rfl
    · rw [if_pos (by omega)]
      rfl
theorem sm8_bd {d : Nat → Nat} : ∀ {n : Nat}, (∀ j, j < n → d j ≤ 7) → 0 ≤ sm (fun j => (d j : Int) * 8 ^ j) n ∧ sm (fun j => (d j : Int) * 8 ^ j) n < 8 ^ n
  | 0, _ => ⟨Int.le_refl 0, by show (0 : Int) < 8 ^ 0; decide⟩
  | n + 1, h => by
    have i := sm8_bd (n := n) (fun j hj => h j (by omega))
    have j := h n (by omega)
    show 0 ≤ sm (fun j => (d j : Int) * 8 ^ j) n + (d n : Int) * 8 ^ n ∧ sm (fun j => (d j : Int) * 8 ^ j) n + (d n : Int) * 8 ^ n < 8 ^ (n + 1)
    rw [Int.pow_succ]
    have hp : (0 : Int) < 8 ^ n := Int.pow_pos (by decide)
    have h1 : (0 : Int) ≤ (d n : Int) * 8 ^ n := Int.mul_nonneg (by omega) (by omega)
    have h2 : (d n : Int) * 8 ^ n ≤ 7 * 8 ^ n := Int.mul_le_mul_of_nonneg_right (by omega) (by omega)
    generalize (8 : Int) ^ n = w at *
    omega
section LZ2
variable {m k nk cp : Nat} {op wt P : Nat → Nat} {Bd : Nat → Int}
def LEnv (m k nk cp : Nat) (op wt P : Nat → Nat) (Bd : Nat → Int) (g : sG) (f : sF) : Prop :=
  (m ≤ 7 ∧ k ≤ 4 ∧ nk ≤ 24 ∧ cp < nk) ∧ (g 0 = I m ∧ g 1 = I nk ∧ g 2 = I cp ∧ g 5 = I k) ∧ (-1 ≤ (g 6).toInt ∧ (g 6).toInt ≤ 30) ∧ (∀ s, s < m → f 1 s = I (op s) ∧ op s ≤ 99) ∧ (∀ i, i < 4 → f 0 i = I (wt i) ∧ wt i ≤ 20) ∧ (∀ j, j < k → f 14 j = I (P j) ∧ P j ≤ 123 ∧ f 15 j = I (Bd j) ∧ -1 ≤ Bd j ∧ Bd j < 7)
def LPre (m nk cp : Nat) (op P : Nat → Nat) (Bd : Nat → Int) (i a U : Nat) (lo hi : Int) (f : sF) : Prop :=
  goodw m nk cp op P Bd i a ∧ U < 128 ∧ (∀ s, s < 7 → (U.testBit s = true ↔ ∃ j, j < i ∧ pdg m i a j = s)) ∧ (∀ j, j < i → f 16 j = I (frw m nk cp op P i a j)) ∧
  (∀ p : Nat, (p : Int) ≤ lo ↔ p ≤ nk ∧ ∀ j, j < i → frw m nk cp op P i a j = cp ∨ (p : Int) ≤ frw m nk cp op P i a j) ∧ (∀ x : Int, hi ≤ x ↔ (cp : Int) ≤ x ∧ ∀ j, j < i → frw m nk cp op P i a j = cp ∨ frw m nk cp op P i a j ≤ x) ∧ (0 ≤ lo ∧ lo ≤ 24) ∧ (0 ≤ hi ∧ hi ≤ 24)
def Fr2 (i : Nat) (g : sG) (f : sF) (g' : sG) (f' : sF) : Prop := (∀ x, x ≠ 8 → x ≠ 9 → g' x = g x) ∧ (∀ j, j < 9 ∨ 13 < j → j ≠ 16 → f' j = f j) ∧ (∀ j, j < i → f' 16 j = f 16 j)
theorem Fr2.tr {i : Nat} {g g' g'' : sG} {f f' f'' : sF} (h : Fr2 i g f g' f') (h' : Fr2 i g' f' g'' f'') : Fr2 i g f g'' f'' := ⟨fun x a b => (h'.1 x a b).trans (h.1 x a b), fun j a b => (h'.2.1 j a b).trans (h.2.1 j a b), fun j a => (h'.2.2 j a).trans (h.2.2 j a)⟩
theorem LEnv.fr {i : Nat} {g g' : sG} {f f' : sF} (h : LEnv m k nk cp op wt P Bd g f) (h' : Fr2 i g f g' f') : LEnv m k nk cp op wt P Bd g' f' := by
  obtain ⟨a, ⟨b0, b1, b2, b3⟩, c, d, e, q⟩ := h
  obtain ⟨r1, r2, -⟩ := h'
  refine ⟨a, ⟨by rw [r1 0 (by omega) (by omega)]; exact b0, by rw [r1 1 (by omega) (by omega)]; exact b1, by rw [r1 2 (by omega) (by omega)]; exact b2, by rw [r1 5 (by omega) (by omega)]; exact b3⟩, by rw [r1 6 (by omega) (by omega)]; exact c, fun s hs => by rw [r2 1 (by omega) (by omega)]; exact d s hs, fun i hi => by rw [r2 0 (by omega) (by omega)]; exact e i hi, fun j hj => by rw [r2 14 (by omega) (by omega), r2 15 (by omega) (by omega)]; exact q j hj⟩
/-- what stands at each position once the codes below C are through -/
noncomputable def LL (m k nk cp : Nat) (op P : Nat → Nat) (Bd : Nat → Int) (C p : Nat) : List Nat := (gl m k nk cp op P Bd 0 C).filter (fun c => cb (isGr cp nk k (frw m nk cp op P k c) p))
def CS (m k nk cp : Nat) (op wt P : Nat → Nat) (p c : Nat) : Int := csf cp k wt (frw m nk cp op P k c) p
theorem good_fr {i a : Nat} (h : goodw m nk cp op P Bd i a) {j : Nat} (hj : j < i) : (cp : Int) ≤ frw m nk cp op P i a j ∧ frw m nk cp op P i a j ≤ nk := frt_ok (h j hj).1.1
theorem LL_len {C p : Nat} : (LL m k nk cp op P Bd C p).length ≤ C := by
  unfold LL
  exact Nat.le_trans (List.length_filter_le _ _) (Nat.le_trans gl_len (by omega))
theorem LL_cost {C p : Nat} (hk : k ≤ 4) (hn : nk ≤ 24) (hw : ∀ i, i < 4 → wt i ≤ 20) : ∀ c ∈ LL m k nk cp op P Bd C p, 0 ≤ CS m k nk cp op wt P p c ∧ CS m k nk cp op wt P p c ≤ 2000 := by
  intro c hc
  unfold LL at hc
  rw [List.mem_filter, cb_t] at hc
  exact csf_bd hn hk hc.2.1 hw (fun i hi => good_fr (gl_mem hc.1).2.2 hi)
theorem LL_app {C E p : Nat} (h : C ≤ E) : LL m k nk cp op P Bd E p = LL m k nk cp op P Bd C p ++ (gl m k nk cp op P Bd C E).filter (fun c => cb (isGr cp nk k (frw m nk cp op P k c) p)) := by
  unfold LL
  rw [← gl_app (Nat.zero_le C) h, List.filter_append]
theorem LL_same {C E p : Nat} (h : C ≤ E) (hn : ∀ c, C ≤ c → c < E → goodw m nk cp op P Bd k c → ¬ isGr cp nk k (frw m nk cp op P k c) p) : LL m k nk cp op P Bd E p = LL m k nk cp op P Bd C p := by
  rw [LL_app h]
  have : (gl m k nk cp op P Bd C E).filter (fun c => cb (isGr cp nk k (frw m nk cp op P k c) p)) = [] := by
    rw [List.filter_eq_nil_iff]
    intro c hc
    rw [cb_t]
    have := gl_mem hc
    exact hn c this.1 this.2.1 this.2.2
  rw [this, List.append_nil]
theorem frw_pre {i c j : Nat} (hi : i ≤ k) (hj : j < i) : frw m nk cp op P k c j = frw m nk cp op P i (c / m ^ (k - i)) j := by
  unfold frw
  rw [pdg_pre hi hj]
theorem frw_up {i a j s : Nat} (hj : j < i) (hs : s < m) : frw m nk cp op P (i + 1) (a * m + s) j = frw m nk cp op P i a j := by
  unfold frw
  rw [pdg_up hj hs]
theorem frw_last {i a s : Nat} (hs : s < m) : frw m nk cp op P (i + 1) (a * m + s) i = frt nk cp op s (P i) := by
  unfold frw
  rw [pdg_last hs]
/-- the step from a prefix to one that is longer by the string s -/
theorem LPre.up {i a U s : Nat} {lo hi : Int} {f : sF} (h : LPre m nk cp op P Bd i a U lo hi f) (hs : s < m) (hm : m ≤ 7) (hn : nk ≤ 24) (hi4 : i < 4) (hok : okd nk cp op P Bd s i) (hu : U.testBit s = false) {lo' hi' : Int}
    (hl : lo' = if frt nk cp op s (P i) = cp then lo else if frt nk cp op s (P i) < lo then frt nk cp op s (P i) else lo) (hh : hi' = if frt nk cp op s (P i) = cp then hi else if hi < frt nk cp op s (P i) then frt nk cp op s (P i) else hi) :
    LPre m nk cp op P Bd (i + 1) (a * m + s) (U ||| 2 ^ s) lo' hi' (up2 f 16 i (I (frt nk cp op s (P i)))) := by
  obtain ⟨h1, h2, h3, h4, h5, h6, h7, h8⟩ := h
  have hb := frt_ok hok.1
  refine ⟨(good_up hs).mpr ⟨h1, hok, fun j hj e => ?_⟩, or_lt h2 (by omega), fun t ht => ?_, fun j hj => ?_, fun p => ?_, fun x => ?_, ?_, ?_⟩
  · have := (h3 s (by omega)).mpr ⟨j, hj, e⟩
    rw [hu] at this
    exact absurd this (by decide)
  · rw [or_bit]
    constructor
    · intro z
      rcases Bool.or_eq_true _ _ |>.mp z with z | z
      · obtain ⟨j, hj, e⟩ := (h3 t ht).mp z
        exact ⟨j, by omega, by rw [pdg_up hj hs]; exact e⟩
      · exact ⟨i, by omega, by rw [pdg_last hs]; exact of_decide_eq_true z⟩
    · intro ⟨j, hj, e⟩
      by_cases q : j = i
      · subst q
        rw [pdg_last hs] at e
        rw [decide_eq_true e, Bool.or_true]
      · rw [pdg_up (by omega) hs] at e
        rw [(h3 t ht).mpr ⟨j, by omega, e⟩, Bool.true_or]
  · rw [up2_e]
    by_cases q : j = i
    · subst q
      rw [if_pos ⟨rfl, rfl⟩, frw_last hs]
    · rw [if_neg (fun z => q z.2), frw_up (by omega) hs]
      exact h4 j (by omega)
  · constructor
    · intro z
      have z1 : (p : Int) ≤ lo ∧ (frt nk cp op s (P i) = cp ∨ (p : Int) ≤ frt nk cp op s (P i)) := by
        rw [hl] at z
        by_cases q : frt nk cp op s (P i) = cp
        · rw [if_pos q] at z
          exact ⟨z, Or.inl q⟩
        · rw [if_neg q] at z
          split at z <;> exact ⟨by omega, Or.inr (by omega)⟩
      obtain ⟨a1, a2⟩ := (h5 p).mp z1.1
      refine ⟨a1, fun j hj => ?_⟩
      by_cases q : j = i
      · subst q
        rw [frw_last hs]
        exact z1.2
      · rw [frw_up (by omega) hs]
        exact a2 j (by omega)
    · intro ⟨a1, a2⟩
      have z1 : (p : Int) ≤ lo := (h5 p).mpr ⟨a1, fun j hj => by have := a2 j (by omega); rw [frw_up hj hs] at this; exact this⟩
      have z2 := a2 i (by omega)
      rw [frw_last hs] at z2
      rw [hl]
      by_cases q : frt nk cp op s (P i) = cp
      · rw [if_pos q]; exact z1
      · rw [if_neg q]
        split
        · omega
        · exact z1
  · constructor
    · intro z
      have z1 : hi ≤ x ∧ (frt nk cp op s (P i) = cp ∨ frt nk cp op s (P i) ≤ x) := by
        rw [hh] at z
        by_cases q : frt nk cp op s (P i) = cp
        · rw [if_pos q] at z
          exact ⟨z, Or.inl q⟩
        · rw [if_neg q] at z
          split at z <;> exact ⟨by omega, Or.inr (by omega)⟩
      obtain ⟨a1, a2⟩ := (h6 x).mp z1.1
      refine ⟨a1, fun j hj => ?_⟩
      by_cases q : j = i
      · subst q
        rw [frw_last hs]
        exact z1.2
      · rw [frw_up (by omega) hs]
        exact a2 j (by omega)
    · intro ⟨a1, a2⟩
      have z1 : hi ≤ x := (h6 x).mpr ⟨a1, fun j hj => by have := a2 j (by omega); rw [frw_up hj hs] at this; exact this⟩
      have z2 := a2 i (by omega)
      rw [frw_last hs] at z2
      rw [hh]
      by_cases q : frt nk cp op s (P i) = cp
      · rw [if_pos q]; exact z1
      · rw [if_neg q]
        split
        · omega
        · exact z1
  · rw [hl]
    split
    · exact h7
    · split <;> omega
  · rw [hh]
    split
    · exact h8
    · split <;> omega
end LZ2
