/-! the reference's plan: costs and sums -/
def msum : tv → Int
  | none => 100000000
  | some a => a.1
def mnum : tv → Int
  | none => 0
  | some a => a.2
theorem few_v {g : sG} {f : sF} {x : Nat} (h : x < 9000000000000000000) : p_M_few (Jl x) g f = some (I ((min x 999999 : Nat) : Int)) := ties_v (g := g) (f := f) h
section MP
variable {m nk cp ev : Nat} {op wt sz pt : Nat → Nat} {bd : Nat → Int} {g : sG} {f : sF}
noncomputable def cF (m nk cp : Nat) (op wt sz pt : Nat → Nat) (bd : Nat → Int) : Nat → Nat → tv := Ft (cp + 1) (nk - cp) (DD m nk cp op wt sz pt bd) (mvv wt)
/-- the best of a list of grips as the reference keeps it -/
noncomputable def bst (cost : Nat → Int) (l : List Nat) : tv := if l.length = 0 then none else some ((lst cost l).2.1, (lst cost l).2.2.1)
theorem DD_bst {e p : Nat} : DD m nk cp op wt sz pt bd e p = bst (GC m nk cp op wt sz pt e p) (GL m nk cp op sz pt bd e p) := rfl
theorem bst_snoc {cost : Nat → Int} {l : List Nat} {c : Nat} (hc : cost c ≤ 2000) : bst cost (l ++ [c]) = if cost c < msum (bst cost l) then some (cost c, 1) else if cost c = msum (bst cost l) then some (cost c, (mnum (bst cost l)).toNat + 1) else bst cost l := by
  have e := lst_len cost l
  have hsn := lst_snoc cost l c
  unfold bst
  rw [hsn, List.length_append, List.length_singleton, if_neg (by omega)]
  unfold lstep
  by_cases h : l.length = 0
  · rw [if_pos h, if_pos (show (lst cost l).1 = 0 ∨ cost c < (lst cost l).2.1 from Or.inl (by omega)), if_pos (show cost c < msum none by show cost c < 100000000; omega)]
  · rw [if_neg h]
    show _ = if cost c < (lst cost l).2.1 then _ else if cost c = (lst cost l).2.1 then _ else _
    by_cases h1 : cost c < (lst cost l).2.1
    · rw [if_pos (show (lst cost l).1 = 0 ∨ cost c < (lst cost l).2.1 from Or.inr h1), if_pos h1]
    · rw [if_neg (show ¬ ((lst cost l).1 = 0 ∨ cost c < (lst cost l).2.1) by omega), if_neg h1]
      by_cases h2 : cost c = (lst cost l).2.1
      · rw [if_pos h2, if_pos h2, h2]
        show some ((lst cost l).2.1, (lst cost l).2.2.1 + 1) = some ((lst cost l).2.1, ((lst cost l).2.2.1 : Int).toNat + 1)
        rw [Int.toNat_natCast]
      · rw [if_neg h2, if_neg h2]
theorem bst_bd {cost : Nat → Int} {l : List Nat} (h : ∀ c ∈ l, 0 ≤ cost c ∧ cost c ≤ 2000) : 0 ≤ msum (bst cost l) ∧ msum (bst cost l) ≤ 100000000 ∧ 0 ≤ mnum (bst cost l) ∧ mnum (bst cost l) ≤ l.length := by
  have b := lst_bd cost l h
  unfold bst
  split
  · exact ⟨by decide, by decide, by decide, by show (0 : Int) ≤ _; omega⟩
  · show 0 ≤ (lst cost l).2.1 ∧ (lst cost l).2.1 ≤ 100000000 ∧ 0 ≤ ((lst cost l).2.2.1 : Int) ∧ ((lst cost l).2.2.1 : Int) ≤ l.length
    omega
theorem GW_mem {e p w c : Nat} (h : c ∈ GW m nk cp op sz pt bd e p w) : c ∈ GL m nk cp op sz pt bd e p := by
  unfold GW at h
  rw [List.mem_filter] at h
  have := List.mem_of_mem_take h.1
  unfold GL LL
  rw [List.mem_filter]
  exact ⟨this, h.2⟩
theorem GW_len {e p w : Nat} (hB : Base m nk cp ev op wt sz pt bd) (he : e < ev) : (GW m nk cp op sz pt bd e p w).length ≤ 840 := by
  unfold GW
  refine Nat.le_trans (List.length_filter_le _ _) ?_
  rw [List.length_take]
  have := WC_len hB he
  omega
def FCs (m nk cp : Nat) (op wt sz pt : Nat → Nat) (bd : Nat → Int) (e p : Nat) (f : sF) : Prop := f 12 (25 * e + p) = I (msum (DD m nk cp op wt sz pt bd e p)) ∧ f 13 (25 * e + p) = I (mnum (DD m nk cp op wt sz pt bd e p))
theorem costs29 (hB : Base m nk cp ev op wt sz pt bd) (hM : Mb m nk cp ev op wt sz pt bd g f) {e p : Nat} (he : e < ev) (hp1 : cp < p) (hp2 : p ≤ nk) (hW : WS m (sz e) nk cp op (eP pt e) (eB bd e) (m ^ sz e) g f) (K12 : (Int32 × Int32 × sG × sF) → Option (sG × sF)) :
    ∃ f', itr (fun K z => p_M_findCosts_L29 K12 K z.1 z.2.1 z.2.2.1 z.2.2.2.1 z.2.2.2.2.1 z.2.2.2.2.2.1 z.2.2.2.2.2.2) FUEL (I e, I p, I 100000000, I 0, I 0, g, f) = K12 (I e, I ((p + 1 : Nat) : Int), g, f') ∧ FCs m nk cp op wt sz pt bd e p f' ∧ (∀ j, j ≠ 12 → j ≠ 13 → f' j = f j) ∧ (∀ q, q ≠ 25 * e + p → f' 12 q = f 12 q ∧ f' 13 q = f 13 q) := by
  obtain ⟨⟨b0, b1, b2, b3, b4⟩, bO, bW, bS, bP⟩ := id hB
  have hl := WC_len hB he
  have h7 : g 7 = I (WC m nk cp op sz pt bd e).length := hW.1
  refine itr_R (fun w z => z = (I e, I p, I (msum (bst (GC m nk cp op wt sz pt e p) (GW m nk cp op sz pt bd e p w))), I (mnum (bst (GC m nk cp op wt sz pt e p) (GW m nk cp op sz pt bd e p w))), I w, g, f)) (WC m nk cp op sz pt bd e).length
    (fun o => ∃ f', o = K12 (I e, I ((p + 1 : Nat) : Int), g, f') ∧ FCs m nk cp op wt sz pt bd e p f' ∧ (∀ j, j ≠ 12 → j ≠ 13 → f' j = f j) ∧ (∀ q, q ≠ 25 * e + p → f' 12 q = f 12 q ∧ f' 13 q = f 13 q)) (by rw [GW_0]; rfl) (by omega) ?_ ?_
  · intro K w z hw ez
    subst ez
    left
    have ew : (w : Int) + 1 = ((w + 1 : Nat) : Int) := by omega
    have gs := GW_s (m := m) (nk := nk) (cp := cp) (op := op) (sz := sz) (pt := pt) (bd := bd) (e := e) (p := p) hw
    have gwl := GW_len (p := p) (w := w) hB he
    have bb := bst_bd (cost := GC m nk cp op wt sz pt e p) (l := GW m nk cp op sz pt bd e p w) (fun c hc => GL_cost hB he c (GW_mem hc))
    unfold isg at gs
    refine ⟨_, ?_, rfl⟩
    dsimp only
    unfold p_M_findCosts_L29
    rw [h7, if_neg (by rw [I_le (by omega) (by omega) (by omega) (by omega)]; omega), isGrip_v hB hM he hW hw hp1 hp2, Option.bind_some, costOf_v hB hM he hW hw hp1 hp2, Option.bind_some]
    by_cases q : cb (isGr cp nk (sz e) (frw m nk cp op (eP pt e) (sz e) ((WC m nk cp op sz pt bd e).getD w 0)) p) = true
    · rw [if_pos q, if_neg (by decide)]
      rw [if_pos q] at gs
      rw [gs]
      have hcm : (WC m nk cp op sz pt bd e).getD w 0 ∈ GL m nk cp op sz pt bd e p := GW_mem (w := w + 1) (by rw [gs]; exact List.mem_append_right _ (List.mem_singleton.mpr rfl))
      have hc := GL_cost (wt := wt) hB he _ hcm
      rw [bst_snoc hc.2]
      generalize bst (GC m nk cp op wt sz pt e p) (GW m nk cp op sz pt bd e p w) = x at *
      generalize GC m nk cp op wt sz pt e p ((WC m nk cp op sz pt bd e).getD w 0) = c at *
      unfold p_M_findCosts_J84
      simp (disch := omega) only [l_0, l_1, l_2, l_3, l_4, l_5, l_6, l_7, l_9, l_10, l_20, l_24, l_25, l_31, l_40, l_45, l_48, l_57, l_99, l_123, l_124, l_127, l_2000, l_far, l_999999, I_le, I_eq, lt_, I_add, ew]
      rcases Int.lt_trichotomy c (msum x) with h | h | h
      · rw [if_neg (by omega), if_neg (by omega), if_pos h]
        rfl
      · rw [if_pos (by omega), if_pos h, if_pos (by omega), if_neg (by omega), if_pos h]
        show K (_, _, _, I (mnum x + 1), _, _, _) = K (_, _, I c, I (((mnum x).toNat + 1 : Nat) : Int), _, _, _)
        rw [h, show (((mnum x).toNat + 1 : Nat) : Int) = mnum x + 1 by omega]
      · rw [if_pos (by omega), if_neg (by omega), if_pos (by omega), if_neg (by omega), if_neg (by omega)]
    · rw [if_neg q, if_pos (show I 0 = (0 : Int32) from rfl)]
      rw [if_neg q, List.append_nil] at gs
      rw [gs]
      simp only [l_0, l_1, l_2, l_3, l_4, l_5, l_6, l_7, l_9, l_10, l_20, l_24, l_25, l_31, l_40, l_45, l_48, l_57, l_99, l_123, l_124, l_127, l_2000, l_far, l_999999, lt_, I_add, ew]
  · intro K z ez
    subst ez
    dsimp only
    unfold p_M_findCosts_L29 p_M_at_
    rw [h7, if_pos (Int32.le_refl _), GW_all, ← DD_bst]
    have ep : (p : Int) + 1 = ((p + 1 : Nat) : Int) := by omega
    simp (disch := omega) only [l_0, l_1, l_2, l_3, l_4, l_5, l_6, l_7, l_9, l_10, l_20, l_24, l_25, l_31, l_40, l_45, l_48, l_57, l_99, l_123, l_124, l_127, l_2000, l_far, l_999999, Option.bind_some, I_mul, I_add, I_lt, I_nat, tn_25b, gdG, lt_, ep]
    refine ⟨_, rfl, ⟨?_, ?_⟩, fun j a b => by rw [up2_n _ _ _ b, up2_n _ _ _ a], fun q hq => ⟨?_, ?_⟩⟩
    · rw [up2_n _ _ _ (by omega), up2_s, upd_s]
    · rw [up2_s, upd_s]
    · rw [up2_n _ _ _ (by omega), up2_s, upd_n _ _ hq]
    · rw [up2_s, upd_n _ _ hq, up2_n _ _ _ (by omega)]
theorem findCosts_v (hB : Base m nk cp ev op wt sz pt bd) (hM : Mb m nk cp ev op wt sz pt bd g f) {e : Nat} (he : e < ev) :
    ∃ g' f', p_M_findCosts (I e) g f = some (g', f') ∧ (∀ p, cp < p → p ≤ nk → FCs m nk cp op wt sz pt bd e p f') ∧ (∀ x, x ≠ 7 → g' x = g x) ∧ (∀ j, j < 10 ∨ 13 < j → f' j = f j) ∧ (∀ q, q < 25 * e → f' 12 q = f 12 q ∧ f' 13 q = f 13 q) := by
  obtain ⟨⟨b0, b1, b2, b3, b4⟩, bO, bW, bS, bP⟩ := id hB
  unfold p_M_findCosts
  obtain ⟨g1, f1, ev1, hW, hg, hf⟩ := findWays_v hB hM he
  have hM1 : Mb m nk cp ev op wt sz pt bd g1 f1 := hM.fr (fun x hx => hg x (by omega)) (fun j hj => hf j (by omega) (by omega))
  rw [ev1, Option.bind_some]
  simp only [lt_, hM1.1.2.2.1, l_0, l_1, l_2, l_3, l_4, l_5, l_6, l_7, l_9, l_10, l_20, l_24, l_25, l_31, l_40, l_45, l_48, l_57, l_99, l_123, l_124, l_127, l_2000, l_far, l_999999, I_add]
  refine itr_R (fun t z => ∃ f', z = (I e, I ((cp + 1 + t : Nat) : Int), g1, f') ∧ (∀ p, cp < p → p < cp + 1 + t → FCs m nk cp op wt sz pt bd e p f') ∧ (∀ j, j ≠ 12 → j ≠ 13 → f' j = f1 j) ∧ (∀ q, q < 25 * e → f' 12 q = f1 12 q ∧ f' 13 q = f1 13 q)) (nk - cp)
    (fun o => ∃ (g' : sG) (f' : sF), o = some (g', f') ∧ (∀ p, cp < p → p ≤ nk → FCs m nk cp op wt sz pt bd e p f') ∧ (∀ x, x ≠ 7 → g' x = g x) ∧ (∀ j, j < 10 ∨ 13 < j → f' j = f j) ∧ (∀ q, q < 25 * e → f' 12 q = f 12 q ∧ f' 13 q = f 13 q)) ⟨f1, by rw [Nat.add_zero]; rfl, fun p a b => by omega, fun _ _ _ => rfl, fun _ _ => ⟨rfl, rfl⟩⟩ (by omega) ?_ ?_
  · intro K t z ht ⟨f', ez, h1, h2, h3⟩
    subst ez
    left
    obtain ⟨p, hp⟩ : ∃ p : Nat, p = cp + 1 + t := ⟨_, rfl⟩
    rw [← hp]
    have hM' : Mb m nk cp ev op wt sz pt bd g1 f' := hM1.fr (fun _ _ => rfl) (fun j hj => h2 j (by omega) (by omega))
    have hW' : WS m (sz e) nk cp op (eP pt e) (eB bd e) (m ^ sz e) g1 f' := ⟨hW.1, fun w hw i hi => by rw [h2 10 (by omega) (by omega), h2 11 (by omega) (by omega)]; exact hW.2 w hw i hi⟩
    obtain ⟨f2, ev2, fc, fj, fq⟩ := costs29 (p := p) hB hM' he (by omega) (by omega) hW' K
    refine ⟨(I e, I ((p + 1 : Nat) : Int), g1, f2), ?_, f2, by rw [hp]; rfl, fun p' a b => ?_, fun j a b => by rw [fj j a b, h2 j a b], fun q hq => ?_⟩
    · dsimp only
      unfold p_M_findCosts_L12
      rw [hM1.1.2.1, if_neg (by rw [I_lt (by omega) (by omega) (by omega) (by omega)]; omega), l_far, l_0]
      exact ev2
    · by_cases q : p' = p
      · subst q; exact fc
      · have := fq (25 * e + p') (by omega)
        unfold FCs
        rw [this.1, this.2]
        exact h1 p' a (by omega)
    · have := fq q (by omega)
      rw [this.1, this.2]
      exact h3 q hq
  · intro K z ⟨f', ez, h1, h2, h3⟩
    subst ez
    dsimp only
    unfold p_M_findCosts_L12
    rw [hM1.1.2.1, if_pos (by rw [I_lt (by omega) (by omega) (by omega) (by omega)]; omega)]
    refine ⟨g1, f', rfl, fun p a b => h1 p a (by omega), hg, fun j hj => ?_, fun q hq => ?_⟩
    · rw [h2 j (by omega) (by omega), hf j (by omega) (by omega)]
    · rw [(h3 q hq).1, (h3 q hq).2, hf 12 (by omega) (by omega), hf 13 (by omega) (by omega)]
      exact ⟨rfl, rfl⟩
end MP
