section ME
variable {m nk cp n C : Nat} {op tp : Nat → Nat} {g : sG} {f : sF}
def tws (m cp C : Nat) (op tp : Nat → Nat) (c k : Nat) : Prop := ∃ s t, s < k ∧ t < s ∧ bg m C tp s c ∧ bg m C tp t c ∧ pch m cp C op tp s c = pch m cp C op tp t c
def SE (m cp C : Nat) (op tp : Nat → Nat) (c k p : Nat) : Prop := (k = 4 ∧ ∃ c', c' < c ∧ b4 m cp C op tp c' ∧ p = pl m C (low m C tp c') c') ∨ (k = 5 ∧ ∃ c', c' < c ∧ (cl m C tp c').length ≠ 0 ∧ (evk m C tp c').length = 40 ∧ p = pl m C (low m C tp c') c')
theorem mpch_bd (h : Rm m nk cp C n op tp g f) {s c : Nat} (hs : s < m) (hb : bg m C tp s c) : pch m cp C op tp s c ≤ 300 := by
  have := vl_bd hb.1
  have rb := h.2.2.2.2.1
  have ro := h.2.2.2.2.2 s hs
  unfold pch
  omega
/-- the strings below s with the same pitch -/
theorem ev90 (h : Rm m nk cp C n op tp g f) (hok : ∀ s c, s < m → bg m C tp s c → okn m nk cp C tp s c) {c s M E : Nat} (hc : c < C) (hs : s < m) (hb : bg m C tp s c) {P : Prop} {x1 x4 : Int32} (h12 : g 12 = I E) (hE : E ≤ 40) (hM : M ≤ 7) (K9 : (Int32 × Int32 × sG × sF) → Option (sG × sF)) (K28 : (Int32 × Int32 × Int32 × Int32 × Int32 × Int32 × sG × sF) → Option (sG × sF)) :
    ∃ f', itr (fun K z => p_M_lookEvents_L90 K9 K28 K z.1 z.2.1 z.2.2.1 z.2.2.2.1 z.2.2.2.2.1 z.2.2.2.2.2.1 z.2.2.2.2.2.2.1 z.2.2.2.2.2.2.2.1 z.2.2.2.2.2.2.2.2.1 z.2.2.2.2.2.2.2.2.2) FUEL (x1, I c, I M, x4, I (bI P), I s, I (pch m cp C op tp s c), I 0, g, f) = K28 (x1, I c, I ((M + 1 : Nat) : Int), x4, I (bI (P ∨ ∃ t, t < s ∧ bg m C tp t c ∧ pch m cp C op tp s c = pch m cp C op tp t c)), I ((s + 1 : Nat) : Int), g, f') ∧
      f' = if M < 4 ∧ E < 40 then up2 (up2 f 18 (4 * E + M) (I (pch m cp C op tp s c))) 19 (4 * E + M) (I s) else f := by
  have rb := h.2.2.2.2.1
  obtain ⟨r0, r1, r2, r3⟩ := h.2.2.1
  have ps := mpch_bd h hs hb
  refine itr_R (fun t z => z = (x1, I c, I M, x4, I (bI (P ∨ ∃ t', t' < t ∧ bg m C tp t' c ∧ pch m cp C op tp s c = pch m cp C op tp t' c)), I s, I (pch m cp C op tp s c), I t, g, f)) s
    (fun o => ∃ f' : sF, o = K28 (x1, I c, I ((M + 1 : Nat) : Int), x4, I (bI (P ∨ ∃ t, t < s ∧ bg m C tp t c ∧ pch m cp C op tp s c = pch m cp C op tp t c)), I ((s + 1 : Nat) : Int), g, f') ∧ f' = if M < 4 ∧ E < 40 then up2 (up2 f 18 (4 * E + M) (I (pch m cp C op tp s c))) 19 (4 * E + M) (I s) else f) (by rw [bI_congr (P := P ∨ _) (Q := P) ⟨fun q => q.elim id (fun ⟨t', a, _⟩ => by omega), Or.inl⟩]; rfl) (by omega) ?_ ?_
  · intro K t z ht ez
    subst ez
    left
    refine ⟨_, ?_, rfl⟩
    have et : (t : Int) + 1 = ((t + 1 : Nat) : Int) := by omega
    have pt := fun b => mpch_bd h (show t < m by omega) b (c := c)
    have ro := h.2.2.2.1 t (by omega)
    dsimp only
    unfold p_M_lookEvents_L90
    rw [if_neg (by rw [I_le (by omega) (by omega) (by omega) (by omega)]; omega)]
    by_cases a : P ∨ ∃ t', t' < t ∧ bg m C tp t' c ∧ pch m cp C op tp s c = pch m cp C op tp t' c
    · rw [bI_t a, if_neg n10, bI_t (a.elim Or.inl (fun ⟨t', x, y⟩ => Or.inr ⟨t', by omega, y⟩)), l_1, I_add, et]
      rfl
    · rw [bI_f a, if_pos z00, mbeginsN h (show t < m by omega) (by omega), Option.bind_some]
      have same : ¬ (bg m C tp t c ∧ pch m cp C op tp s c = pch m cp C op tp t c) → ¬ (P ∨ ∃ t', t' < t + 1 ∧ bg m C tp t' c ∧ pch m cp C op tp s c = pch m cp C op tp t' c) := fun q x => by
        rcases x with x | ⟨t', x, y⟩
        · exact a (Or.inl x)
        · by_cases w : t' = t
          · rw [w] at y; exact q y
          · exact a (Or.inr ⟨t', by omega, y⟩)
      by_cases b : bg m C tp t c
      · rw [bI_t b, if_neg n10, valueAt_v h (show t < m by omega) b.1 (fun d => ((hok t c (by omega) b).2 d).2), Option.bind_some]
        simp (disch := omega) only [l_0, l_1, l_2, l_3, l_4, l_5, l_6, l_7, l_9, l_10, l_20, l_24, l_25, l_31, l_40, l_45, l_48, l_57, l_99, l_123, l_124, l_127, l_2000, l_far, l_999999, I_lt, I_nat, tn_n, gdG, ro, r2, I_add, lt_, et]
        have ep : ((op t : Int) + (cp : Int) + (vl m C tp t c : Int)) = (pch m cp C op tp t c : Int) := by unfold pch; omega
        have pb := pt b
        rw [ep]
        by_cases e : pch m cp C op tp s c = pch m cp C op tp t c
        · rw [if_pos (by rw [e]), bI_t (Or.inr ⟨t, by omega, b, e⟩)]
        · rw [if_neg (by rw [I_eq (by omega) (by omega) (by omega) (by omega)]; omega), bI_f (same (fun q => e q.2))]
      · rw [bI_f b, if_pos z00, bI_f (same (fun q => b q.1)), l_0, l_1, I_add, et]
        rfl
  · intro K z ez
    subst ez
    have es : (s : Int) + 1 = ((s + 1 : Nat) : Int) := by omega
    have eM : (M : Int) + 1 = ((M + 1 : Nat) : Int) := by omega
    dsimp only
    unfold p_M_lookEvents_L90
    rw [if_pos (Int32.le_refl _), h12]
    by_cases q4 : M < 4
    · by_cases q40 : E < 40
      · rw [if_neg (show ¬ (4 : Int32) ≤ I M by rw [l_4, I_le (by omega) (by omega) (by omega) (by omega)]; omega), if_neg (show ¬ (40 : Int32) ≤ I E by rw [l_40, I_le (by omega) (by omega) (by omega) (by omega)]; omega)]
        simp (disch := omega) only [l_0, l_1, l_2, l_3, l_4, l_5, l_6, l_7, l_9, l_10, l_20, l_24, l_25, l_31, l_40, l_45, l_48, l_57, l_99, l_123, l_124, l_127, l_2000, l_far, l_999999, I_mul, I_add, I_lt, I_nat, tn_4, gdG, lt_, es, eM]
        exact ⟨_, rfl, by rw [if_pos ⟨q4, q40⟩]⟩
      · rw [if_neg (show ¬ (4 : Int32) ≤ I M by rw [l_4, I_le (by omega) (by omega) (by omega) (by omega)]; omega), if_pos (show (40 : Int32) ≤ I E by rw [l_40, I_le (by omega) (by omega) (by omega) (by omega)]; omega), l_1, I_add, I_add, es, eM]
        exact ⟨_, rfl, by rw [if_neg (fun q => q40 q.2)]⟩
    · rw [if_pos (show (4 : Int32) ≤ I M by rw [l_4, I_le (by omega) (by omega) (by omega) (by omega)]; omega), l_1, I_add, I_add, es, eM]
      exact ⟨_, rfl, by rw [if_neg (fun q => q4 q.1)]⟩
/-- what has been kept of the strings below s -/
def KP (m cp C : Nat) (op tp : Nat → Nat) (c E s : Nat) (f f' : sF) : Prop := (E < 40 → ∀ i, i < (clk m C tp c s).length → i < 4 → f' 18 (4 * E + i) = I (pch m cp C op tp ((clk m C tp c s).getD i 0) c) ∧ f' 19 (4 * E + i) = I ((clk m C tp c s).getD i 0)) ∧ (∀ j, j ≠ 18 → j ≠ 19 → f' j = f j) ∧ (∀ k, k < 4 * E → f' 18 k = f 18 k ∧ f' 19 k = f 19 k)
theorem clk_7 {c : Nat} : ∀ s, (clk m C tp c s).length ≤ s := fun s => by
  induction s with
  | zero => exact Nat.le_refl 0
  | succ s ih =>
    rw [clk_s, List.length_append]
    split
    · rw [List.length_singleton]; omega
    · show _ + 0 ≤ _; omega
noncomputable def plx (m C : Nat) (tp : Nat → Nat) (c L : Nat) : Int := if L = 0 then -1 else (pl m C (low m C tp c) c : Nat)
theorem ev28 (h : Rm m nk cp C n op tp g f) (hok : ∀ s c, s < m → bg m C tp s c → okn m nk cp C tp s c) {c E : Nat} (hc : c < C) {x1 : Int32} (h12 : g 12 = I E) (hE : E ≤ 40) (K9 : (Int32 × Int32 × sG × sF) → Option (sG × sF)) :
    ∃ f', itr (fun K z => p_M_lookEvents_L28 K9 K z.1 z.2.1 z.2.2.1 z.2.2.2.1 z.2.2.2.2.1 z.2.2.2.2.2.1 z.2.2.2.2.2.2.1 z.2.2.2.2.2.2.2) FUEL (x1, I c, I 0, I (-1), I 0, I 0, g, f) = (if cb (b4 m cp C op tp c) = true then p_M_lookEvents_J213 K9 x1 (I c) (I (cl m C tp c).length) (I (plx m C tp c (cl m C tp c).length)) g f' else p_M_lookEvents_J220 K9 x1 (I c) (I (cl m C tp c).length) (I (plx m C tp c (cl m C tp c).length)) g f') ∧ KP m cp C op tp c E m f f' := by
  have rb := h.2.2.2.2.1
  obtain ⟨r0, r1, r2, r3⟩ := h.2.2.1
  refine itr_R (fun s z => ∃ f' : sF, z = (x1, I c, I (clk m C tp c s).length, I (plx m C tp c (clk m C tp c s).length), I (bI (tws m cp C op tp c s)), I s, g, f') ∧ KP m cp C op tp c E s f f') m
    (fun o => ∃ f' : sF, o = (if cb (b4 m cp C op tp c) = true then p_M_lookEvents_J213 K9 x1 (I c) (I (cl m C tp c).length) (I (plx m C tp c (cl m C tp c).length)) g f' else p_M_lookEvents_J220 K9 x1 (I c) (I (cl m C tp c).length) (I (plx m C tp c (cl m C tp c).length)) g f') ∧ KP m cp C op tp c E m f f') ⟨f, by rw [bI_f (fun ⟨s, t, a, _⟩ => by omega)]; rfl, fun _ i q => absurd q (Nat.not_lt_zero i), fun _ _ _ => rfl, fun _ _ => ⟨rfl, rfl⟩⟩ (by omega) ?_ ?_
  · intro K s z hs ⟨f', ez, k1, k2, k3⟩
    subst ez
    left
    have es : (s : Int) + 1 = ((s + 1 : Nat) : Int) := by omega
    have cb7 := clk_7 (m := m) (C := C) (tp := tp) (c := c) s
    have h' : Rm m nk cp C n op tp g f' := h.fr (fun _ _ => rfl) ⟨k2 9 (by omega) (by omega), k2 0 (by omega) (by omega)⟩
    have ro := h'.2.2.2.1 s hs
    by_cases b : bg m C tp s c
    · have csn : clk m C tp c (s + 1) = clk m C tp c s ++ [s] := by rw [clk_s, if_pos (cb_t.mpr b)]
      have csl : (clk m C tp c (s + 1)).length = (clk m C tp c s).length + 1 := by rw [csn, List.length_append, List.length_singleton]
      obtain ⟨f2, a1, a2⟩ := ev90 (x1 := x1) (x4 := I (pl m C (low m C tp c) c)) (P := tws m cp C op tp c s) (M := (clk m C tp c s).length) h' hok hc hs b h12 hE (by omega) K9 K
      have ptw : (tws m cp C op tp c s ∨ ∃ t, t < s ∧ bg m C tp t c ∧ pch m cp C op tp s c = pch m cp C op tp t c) ↔ tws m cp C op tp c (s + 1) := by
        constructor
        · intro x
          rcases x with ⟨s', t, a, d⟩ | ⟨t, a, d, e⟩
          · exact ⟨s', t, by omega, d⟩
          · exact ⟨s, t, by omega, a, b, d, e⟩
        · intro ⟨s', t, a, d, e1, e2, e3⟩
          by_cases w : s' = s
          · subst w; exact Or.inr ⟨t, d, e2, e3⟩
          · exact Or.inl ⟨s', t, by omega, d, e1, e2, e3⟩
      have j63 : p_M_lookEvents_J63 K9 K x1 (I c) (I (clk m C tp c s).length) (I (bI (tws m cp C op tp c s))) (I s) (I (pl m C (low m C tp c) c)) g f' = K (x1, I c, I (((clk m C tp c s).length + 1 : Nat) : Int), I (pl m C (low m C tp c) c), I (bI (tws m cp C op tp c (s + 1))), I ((s + 1 : Nat) : Int), g, f2) := by
        unfold p_M_lookEvents_J63
        rw [valueAt_v h' hs b.1 (fun d => ((hok s c hs b).2 d).2), Option.bind_some, ← bI_congr ptw]
        simp (disch := omega) only [l_0, l_1, l_2, l_3, l_4, l_5, l_6, l_7, l_9, l_10, l_20, l_24, l_25, l_31, l_40, l_45, l_48, l_57, l_99, l_123, l_124, l_127, l_2000, l_far, l_999999, I_lt, I_nat, tn_n, gdG, ro, r2, I_add, lt_]
        rw [show ((op s : Int) + (cp : Int) + (vl m C tp s c : Int)) = (pch m cp C op tp s c : Int) by unfold pch; omega]
        exact a1
      refine ⟨_, ?_, f2, rfl, ?_, ?_, ?_⟩
      · dsimp only
        unfold p_M_lookEvents_L28
        rw [r0, if_neg (by rw [I_le (by omega) (by omega) (by omega) (by omega)]; omega), mbeginsN h' hs (by omega), Option.bind_some, bI_t b, if_neg n10, placeM h' hs, Option.bind_some, csl]
        have e9 : plx m C tp c ((clk m C tp c s).length + 1) = (pl m C (low m C tp c) c : Nat) := by unfold plx; rw [if_neg (by omega)]
        rw [e9]
        by_cases z : (clk m C tp c s).length = 0
        · have hlow := (low_hit hs z b).1
          rw [if_pos (by rw [z]; rfl)]
          rw [hlow] at j63 ⊢
          exact j63
        · rw [if_neg (by rw [l_0, I_eq (by omega) (by omega) (by omega) (by omega)]; omega)]
          have e8 : plx m C tp c (clk m C tp c s).length = (pl m C (low m C tp c) c : Nat) := by unfold plx; rw [if_neg z]
          rw [e8]
          exact j63
      · intro hE40 i hi h4
        rw [csl] at hi
        rw [a2, csn]
        by_cases w : i = (clk m C tp c s).length
        · subst w
          rw [if_pos ⟨h4, hE40⟩, getD_r, up2_s, upd_s, up2_n _ _ _ (by omega), up2_s, upd_s]
          exact ⟨rfl, rfl⟩
        · rw [getD_l (by omega)]
          have old := k1 hE40 i (by omega) h4
          split
          · rw [up2_n _ _ _ (by omega), up2_s, upd_n _ _ (by omega), up2_s, upd_n _ _ (by omega), up2_n _ _ _ (by omega)]
            exact old
          · exact old
      · intro j j1 j2
        rw [a2]
        split
        · rw [up2_n _ _ _ j2, up2_n _ _ _ j1]; exact k2 j j1 j2
        · exact k2 j j1 j2
      · intro k hk
        rw [a2]
        split
        · rw [up2_n _ _ _ (by omega), up2_s, upd_n _ _ (by omega), up2_s, upd_n _ _ (by omega), up2_n _ _ _ (by omega)]
          exact k3 k hk
        · exact k3 k hk
    · have csn : clk m C tp c (s + 1) = clk m C tp c s := by rw [clk_s, if_neg (fun q => b (cb_t.mp q)), List.append_nil]
      have ptw : tws m cp C op tp c s ↔ tws m cp C op tp c (s + 1) := by
        constructor
        · intro ⟨s', t, a, d⟩
          exact ⟨s', t, by omega, d⟩
        · intro ⟨s', t, a, d, e1, e2, e3⟩
          by_cases w : s' = s
          · subst w; exact absurd e1 b
          · exact ⟨s', t, by omega, d, e1, e2, e3⟩
      refine ⟨_, ?_, f', rfl, ?_, k2, k3⟩
      · dsimp only
        unfold p_M_lookEvents_L28
        rw [r0, if_neg (by rw [I_le (by omega) (by omega) (by omega) (by omega)]; omega), mbeginsN h' hs (by omega), Option.bind_some, bI_f b, if_pos z00, l_1, I_add, es, csn, bI_congr ptw]
        rfl
      · rw [csn]; exact k1
  · intro K z ⟨f', ez, k1, k2, k3⟩
    subst ez
    refine ⟨f', ?_, k1, k2, k3⟩
    have cb7 := clk_7 (m := m) (C := C) (tp := tp) (c := c) m
    have e0 : clk m C tp c m = cl m C tp c := rfl
    have e1 : tws m cp C op tp c m ↔ tw m cp C op tp c := Iff.rfl
    rw [e0] at cb7
    dsimp only
    unfold p_M_lookEvents_L28
    rw [r0, if_pos (Int32.le_refl _), e0, bI_congr e1]
    by_cases q4 : 4 < (cl m C tp c).length
    · rw [if_pos (by rw [l_4, I_lt (by omega) (by omega) (by omega) (by omega)]; omega), if_pos (cb_t.mpr (show b4 m cp C op tp c from Or.inl q4))]
    · rw [if_neg (by rw [l_4, I_lt (by omega) (by omega) (by omega) (by omega)]; omega)]
      by_cases qt : tw m cp C op tp c
      · rw [bI_t qt, if_neg n10, if_pos (cb_t.mpr (show b4 m cp C op tp c from Or.inr qt))]
      · rw [bI_f qt, if_pos z00, if_neg (fun q => (cb_t.mp q).elim q4 qt)]
/-- what the column adds -/
theorem ev220 {c E L : Nat} (hc : c < C) (hL : (evk m C tp c).length = L) (hE : E = min L 40) (h12 : g 12 = I E) (hcl : (cl m C tp c).length ≤ 7) (hpl : pl m C (low m C tp c) c < 2000) {S : Nat → Nat → Prop} (hlm : LM S g) (K9 : (Int32 × Int32 × sG × sF) → Option (sG × sF)) :
    ∃ g' f', p_M_lookEvents_J220 K9 (I (bI (40 < L))) (I c) (I (cl m C tp c).length) (I (plx m C tp c (cl m C tp c).length)) g f = K9 (I (bI (40 < (evk m C tp (c + 1)).length)), I ((c + 1 : Nat) : Int), g', f') ∧
      LM (fun k p => S k p ∨ (k = 5 ∧ (cl m C tp c).length ≠ 0 ∧ L = 40 ∧ p = pl m C (low m C tp c) c)) g' ∧ g' 12 = I ((min (evk m C tp (c + 1)).length 40 : Nat) : Int) ∧ (∀ x, x ≠ 10 → x ≠ 11 → x ≠ 12 → g' x = g x) ∧ f' = if (cl m C tp c).length ≠ 0 ∧ L < 40 then up2 f 17 E (I (cl m C tp c).length) else f := by
  have ec : (c : Int) + 1 = ((c + 1 : Nat) : Int) := by omega
  unfold p_M_lookEvents_J220
  by_cases z : (cl m C tp c).length = 0
  · have e1 : evk m C tp (c + 1) = evk m C tp c := by rw [evk_s, if_pos z, List.append_nil]
    unfold p_M_lookEvents_J246
    rw [z, if_pos (show I ((0 : Nat) : Int) ≤ (0 : Int32) from Int32.le_refl _), if_pos (show I ((0 : Nat) : Int) ≤ (0 : Int32) from Int32.le_refl _), e1, hL, l_1, I_add, ec]
    refine ⟨g, f, rfl, hlm.congr (fun k p => ⟨Or.inl, fun q => q.elim id (fun x => absurd rfl x.2.1)⟩), by rw [← hE]; exact h12, fun _ _ _ _ => rfl, by rw [if_neg (fun q => q.1 rfl)]⟩
  · have e1 : (evk m C tp (c + 1)).length = L + 1 := by rw [evk_s, if_neg z, List.length_append, List.length_singleton, hL]
    have nz : ¬ I ((cl m C tp c).length : Int) ≤ (0 : Int32) := by rw [l_0, I_le (by omega) (by omega) (by omega) (by omega)]; omega
    have e9 : plx m C tp c (cl m C tp c).length = (pl m C (low m C tp c) c : Nat) := by unfold plx; rw [if_neg z]
    rw [if_neg nz, h12, e1, e9]
    rcases Nat.lt_trichotomy L 40 with w | w | w
    · have eE : E = L := by omega
      subst eE
      rw [if_neg (by rw [l_40, I_eq (by omega) (by omega) (by omega) (by omega)]; omega), bI_f (by omega), bI_f (by omega)]
      unfold p_M_lookEvents_J246
      rw [if_neg nz, h12]
      have eE1 : (E : Int) + 1 = ((E + 1 : Nat) : Int) := by omega
      simp (disch := omega) only [l_0, l_1, l_2, l_3, l_4, l_5, l_6, l_7, l_9, l_10, l_20, l_24, l_25, l_31, l_40, l_45, l_48, l_57, l_99, l_123, l_124, l_127, l_2000, l_far, l_999999, I_le, I_lt, I_nat, tn_n, gdG, lt_, I_add, ec, eE1]
      rw [if_neg (by omega)]
      refine ⟨_, _, rfl, ?_, ?_, fun x a b d => upd_n _ _ d, by rw [if_pos ⟨z, w⟩]⟩
      · have : LM S (upd g 12 (I ((E + 1 : Nat) : Int))) := by
          rcases hlm with ⟨a, b⟩ | ⟨k, p, d1, d2, d3, d4, d5, d6⟩
          · exact Or.inl ⟨by rw [upd_n _ _ (by omega)]; exact a, b⟩
          · exact Or.inr ⟨k, p, d1, d2, d3, by rw [upd_n _ _ (by omega)]; exact d4, by rw [upd_n _ _ (by omega)]; exact d5, d6⟩
        exact this.congr (fun k p => ⟨Or.inl, fun q => q.elim id (fun x => by omega)⟩)
      · rw [upd_s]
        congr 1
        omega
    · have eE : E = 40 := by omega
      subst eE
      rw [if_pos (show I ((40 : Nat) : Int) = (40 : Int32) from rfl), bI_f (by omega), if_pos z00]
      obtain ⟨g2, f1, f2, f3⟩ := faults_v (f := f) hlm (k := 5) (p := pl m C (low m C tp c) c) (by omega) (by omega) (by omega)
      have f1' : p_M_faults (5 : Int32) (I (pl m C (low m C tp c) c)) g f = some (g2, f) := f1
      have g12 : g2 12 = I ((40 : Nat) : Int) := by rw [f3 12 (by omega) (by omega)]; exact h12
      rw [f1', Option.bind_some]
      dsimp only
      unfold p_M_lookEvents_J246
      rw [if_neg nz, g12, if_pos (show (40 : Int32) ≤ I ((40 : Nat) : Int) from Int32.le_refl _), bI_t (by omega), l_1, I_add, ec]
      refine ⟨g2, f, rfl, f2.congr (fun k p => ?_), by rw [g12]; congr 1; omega, fun x a b d => f3 x a b, by rw [if_neg (by omega)]⟩
      constructor
      · intro q
        rcases q with q | ⟨q1, q2⟩
        · exact Or.inl q
        · exact Or.inr ⟨q1, z, w, q2⟩
      · intro q
        rcases q with q | ⟨q1, q2, q3, q4⟩
        · exact Or.inl q
        · exact Or.inr ⟨q1, q4⟩
    · have eE : E = 40 := by omega
      subst eE
      rw [if_pos (show I ((40 : Nat) : Int) = (40 : Int32) from rfl), bI_t (by omega), if_neg n10]
      unfold p_M_lookEvents_J246
      rw [if_neg nz, h12, if_pos (show (40 : Int32) ≤ I ((40 : Nat) : Int) from Int32.le_refl _), bI_t (by omega), l_1, I_add, ec]
      refine ⟨g, f, rfl, hlm.congr (fun k p => ⟨Or.inl, fun q => q.elim id (fun x => by omega)⟩), by rw [h12]; congr 1; omega, fun _ _ _ _ => rfl, by rw [if_neg (by omega)]⟩
theorem SE_s {c L : Nat} (hL : (evk m C tp c).length = L) (k p : Nat) : ((SE m cp C op tp c k p ∨ (b4 m cp C op tp c ∧ k = 4 ∧ p = pl m C (low m C tp c) c)) ∨ (k = 5 ∧ (cl m C tp c).length ≠ 0 ∧ L = 40 ∧ p = pl m C (low m C tp c) c)) ↔ SE m cp C op tp (c + 1) k p := by
  constructor
  · intro q
    rcases q with ((⟨a, c', x, y⟩ | ⟨a, c', x, y⟩) | ⟨a, b, d⟩) | ⟨a, b, d, e⟩
    · exact Or.inl ⟨a, c', by omega, y⟩
    · exact Or.inr ⟨a, c', by omega, y⟩
    · exact Or.inl ⟨b, c, by omega, a, d⟩
    · exact Or.inr ⟨a, c, by omega, b, by omega, e⟩
  · intro q
    rcases q with ⟨a, c', x, y, y2⟩ | ⟨a, c', x, y, y2, y3⟩
    · by_cases w : c' = c
      · subst w; exact Or.inl (Or.inr ⟨y, a, y2⟩)
      · exact Or.inl (Or.inl (Or.inl ⟨a, c', by omega, y, y2⟩))
    · by_cases w : c' = c
      · subst w; exact Or.inr ⟨a, y, by omega, y3⟩
      · exact Or.inl (Or.inl (Or.inr ⟨a, c', by omega, y, y2, y3⟩))
def TM (m cp C : Nat) (op tp : Nat → Nat) (k : Nat) (f : sF) : Prop := ∀ e, e < (evk m C tp k).length → e < 40 → (cl m C tp ((evk m C tp k).getD e 0)).length ≤ 4 → EVc m cp C op tp 17 18 19 e ((evk m C tp k).getD e 0) f
theorem lookEvents_v (h : Rm m nk cp C n op tp g f) (h10 : g 10 = I 0) (hok : ∀ s c, s < m → bg m C tp s c → okn m nk cp C tp s c) :
    ∃ g' f', p_M_lookEvents g f = some (g', f') ∧ LM (SE m cp C op tp C) g' ∧ g' 12 = I ((min (evk m C tp C).length 40 : Nat) : Int) ∧ TM m cp C op tp C f' ∧ (∀ x, x ≠ 10 → x ≠ 11 → x ≠ 12 → g' x = g x) ∧ (∀ j, j < 17 → f' j = f j) := by
  have rb := h.2.2.2.2.1
  unfold p_M_lookEvents
  rw [l_0, lt_]
  refine itr_R (fun c z => ∃ (g' : sG) (f' : sF), z = (I (bI (40 < (evk m C tp c).length)), I c, g', f') ∧ LM (SE m cp C op tp c) g' ∧ g' 12 = I ((min (evk m C tp c).length 40 : Nat) : Int) ∧ TM m cp C op tp c f' ∧ (∀ x, x ≠ 10 → x ≠ 11 → x ≠ 12 → g' x = g x) ∧ (∀ j, j < 17 → f' j = f j)) C
    (fun o => ∃ (g' : sG) (f' : sF), o = some (g', f') ∧ LM (SE m cp C op tp C) g' ∧ g' 12 = I ((min (evk m C tp C).length 40 : Nat) : Int) ∧ TM m cp C op tp C f' ∧ (∀ x, x ≠ 10 → x ≠ 11 → x ≠ 12 → g' x = g x) ∧ (∀ j, j < 17 → f' j = f j)) ⟨_, f, by rw [bI_f (show ¬ 40 < (evk m C tp 0).length from Nat.not_lt_zero _ |> fun _ => by show ¬ 40 < 0; omega)]; rfl, Or.inl ⟨by rw [upd_n _ _ (by omega)]; exact h10, fun k p q => by rcases q with ⟨_, c', x, _⟩ | ⟨_, c', x, _⟩ <;> omega⟩, by rw [upd_s]; rfl, fun e q => absurd q (Nat.not_lt_zero e), fun x a b d => upd_n _ _ d, fun _ _ => rfl⟩ (by omega) ?_ ?_
  · intro K0 c z hc ⟨g', f', ez, hlm, h12, hT, hg, hf⟩
    subst ez
    left
    have h' : Rm m nk cp C n op tp g' f' := h.fr (fun x hx => hg x (by omega) (by omega) (by omega)) ⟨hf 9 (by omega), hf 0 (by omega)⟩
    obtain ⟨L, hL⟩ : ∃ L, (evk m C tp c).length = L := ⟨_, rfl⟩
    obtain ⟨E, hE⟩ : ∃ E, E = min L 40 := ⟨_, rfl⟩
    rw [hL, ← hE] at h12
    have hE40 : E ≤ 40 := by omega
    obtain ⟨f2, a1, k1, k2, k3⟩ := ev28 (x1 := I (bI (40 < L))) h' hok hc h12 hE40 K0
    have c7 : (cl m C tp c).length ≤ 7 := by have := clk_7 (m := m) (C := C) (tp := tp) (c := c) m; have e : cl m C tp c = clk m C tp c m := rfl; rw [e]; omega
    have body : p_M_lookEvents_L9 K0 (I (bI (40 < L))) (I c) g' f' = itr (fun K z => p_M_lookEvents_L28 K0 K z.1 z.2.1 z.2.2.1 z.2.2.2.1 z.2.2.2.2.1 z.2.2.2.2.2.1 z.2.2.2.2.2.2.1 z.2.2.2.2.2.2.2) FUEL (I (bI (40 < L)), I c, I 0, I (-1), I 0, I 0, g', f') := by
      unfold p_M_lookEvents_L9
      rw [h'.2.2.1.2.2.2, if_neg (by rw [I_le (by omega) (by omega) (by omega) (by omega)]; omega)]
      rfl
    have plb : pl m C (low m C tp c) c < 2000 := by
      by_cases z : (cl m C tp c).length = 0
      · have e : cl m C tp c = [] := List.eq_nil_of_length_eq_zero z
        have : low m C tp c = 0 := by unfold low; rw [e]; rfl
        rw [this]
        exact (h'.pb (show 0 < m by omega) (show c < C + 2 by omega)).1
      · exact (h'.pb (cl_low z).1 (show c < C + 2 by omega)).1
    have fin : ∀ (g1 : sG), LM (fun k p => SE m cp C op tp c k p ∨ (b4 m cp C op tp c ∧ k = 4 ∧ p = pl m C (low m C tp c) c)) g1 → (∀ x, x ≠ 10 → x ≠ 11 → g1 x = g' x) → ∃ s', p_M_lookEvents_J220 K0 (I (bI (40 < L))) (I c) (I (cl m C tp c).length) (I (plx m C tp c (cl m C tp c).length)) g1 f2 = K0 s' ∧ ∃ (g' : sG) (f' : sF), s' = (I (bI (40 < (evk m C tp (c + 1)).length)), I ((c + 1 : Nat) : Int), g', f') ∧ LM (SE m cp C op tp (c + 1)) g' ∧ g' 12 = I ((min (evk m C tp (c + 1)).length 40 : Nat) : Int) ∧ TM m cp C op tp (c + 1) f' ∧ (∀ x, x ≠ 10 → x ≠ 11 → x ≠ 12 → g' x = g x) ∧ (∀ j, j < 17 → f' j = f j) := fun g1 hl1 hg1 => by
      obtain ⟨g3, f3, b1, b2, b3, b4, b5⟩ := ev220 (f := f2) hc hL hE (by rw [hg1 12 (by omega) (by omega)]; exact h12) c7 plb hl1 K0
      refine ⟨_, b1, g3, f3, rfl, b2.congr (SE_s hL), b3, fun e he he40 hcl => ?_, fun x a b d => by rw [b4 x a b d, hg1 x a b, hg x a b d], fun j hj => ?_⟩
      · by_cases z : (cl m C tp c).length = 0
        · have e1 : evk m C tp (c + 1) = evk m C tp c := by rw [evk_s, if_pos z, List.append_nil]
          rw [e1] at he hcl ⊢
          obtain ⟨o1, o2⟩ := hT e he he40 hcl
          rw [if_neg (fun q => q.1 z)] at b5
          rw [b5]
          refine ⟨by rw [k2 17 (by omega) (by omega)]; exact o1, fun i hi => ?_⟩
          obtain ⟨x, y⟩ := k3 (4 * e + i) (by omega)
          rw [x, y]
          exact o2 i hi
        · have e1 : evk m C tp (c + 1) = evk m C tp c ++ [c] := by rw [evk_s, if_neg z]
          have e1l : (evk m C tp (c + 1)).length = L + 1 := by rw [e1, List.length_append, List.length_singleton, hL]
          rw [e1] at hcl ⊢
          by_cases w : e = L
          · subst w
            rw [← hL, getD_r] at hcl
            rw [← hL, getD_r, hL]
            have eE : E = e := by omega
            rw [if_pos ⟨z, he40⟩, eE] at b5
            rw [b5]
            refine ⟨by rw [up2_s, upd_s], fun i hi => ?_⟩
            rw [up2_n _ _ _ (by omega), up2_n _ _ _ (by omega)]
            have := k1 (by omega) i hi (by omega)
            rw [eE] at this
            exact this
          · rw [getD_l (by omega)] at hcl ⊢
            obtain ⟨o1, o2⟩ := hT e (by omega) he40 hcl
            have f17 : f3 17 e = f' 17 e := by
              rw [b5]
              split
              · rw [up2_s, upd_n _ _ (by omega), k2 17 (by omega) (by omega)]
              · rw [k2 17 (by omega) (by omega)]
            refine ⟨by rw [f17]; exact o1, fun i hi => ?_⟩
            obtain ⟨x, y⟩ := k3 (4 * e + i) (by omega)
            have f18 : f3 18 = f2 18 ∧ f3 19 = f2 19 := by
              rw [b5]
              split
              · exact ⟨up2_n _ _ _ (by omega), up2_n _ _ _ (by omega)⟩
              · exact ⟨rfl, rfl⟩
            rw [f18.1, f18.2, x, y]
            exact o2 i hi
      · rw [b5]
        split
        · rw [up2_n _ _ _ (by omega), k2 j (by omega) (by omega), hf j hj]
        · rw [k2 j (by omega) (by omega), hf j hj]
    dsimp only
    rw [hL, body, a1]
    by_cases q : b4 m cp C op tp c
    · have z := b4_ne q
      have e9 : plx m C tp c (cl m C tp c).length = (pl m C (low m C tp c) c : Nat) := by unfold plx; rw [if_neg z]
      obtain ⟨g1, x1, x2, x3⟩ := faults_v (f := f2) hlm (k := 4) (p := pl m C (low m C tp c) c) (by omega) (by omega) (by omega)
      have x1' : p_M_faults (4 : Int32) (I (plx m C tp c (cl m C tp c).length)) g' f2 = some (g1, f2) := by rw [e9]; exact x1
      unfold p_M_lookEvents_J213
      rw [if_pos (cb_t.mpr q), x1', Option.bind_some]
      exact fin g1 (x2.congr (fun k p => ⟨fun y => y.elim Or.inl (fun y => Or.inr ⟨q, y⟩), fun y => y.elim Or.inl (fun y => Or.inr y.2)⟩)) x3
    · rw [if_neg (fun y => q (cb_t.mp y))]
      exact fin g' (hlm.congr (fun k p => ⟨Or.inl, fun y => y.elim id (fun y => absurd y.1 q)⟩)) (fun _ _ _ => rfl)
  · intro K z ⟨g', f', ez, hlm, h12, hT, hg, hf⟩
    subst ez
    have h' : Rm m nk cp C n op tp g' f' := h.fr (fun x hx => hg x (by omega) (by omega) (by omega)) ⟨hf 9 (by omega), hf 0 (by omega)⟩
    refine ⟨g', f', ?_, hlm, h12, hT, hg, hf⟩
    dsimp only
    unfold p_M_lookEvents_L9
    rw [h'.2.2.1.2.2.2, if_pos (Int32.le_refl _)]
end ME
