section CP3
variable {m nk cp ev : Nat} {op wt sz pt : Nat → Nat} {bd : Nat → Int} {g : sG} {f : sF}
/-- the first position from which the rest is least -/
def CHs (m nk cp ev : Nat) (op wt sz pt : Nat → Nat) (bd : Nat → Int) (e : Nat) (b : Int) (p : Nat) : Prop := cp < p ∧ p ≤ nk ∧ ∃ a k, tS (cp + 1) (vv m nk cp ev op wt sz pt bd e b) (nk - cp) = some a ∧ vv m nk cp ev op wt sz pt bd e b p = some (a.1, k) ∧ ∀ q, cp < q → q < p → ∀ k, vv m nk cp ev op wt sz pt bd e b q ≠ some (a.1, k)
theorem CHs_uniq {e : Nat} {b : Int} {p p' : Nat} (h : CHs m nk cp ev op wt sz pt bd e b p) (h' : CHs m nk cp ev op wt sz pt bd e b p') : p = p' := by
  obtain ⟨a1, a2, a, k, ha, hk, hf⟩ := h
  obtain ⟨c1, c2, a', k', ha', hk', hf'⟩ := h'
  rw [ha] at ha'
  cases ha'
  rcases Nat.lt_trichotomy p p' with z | z | z
  · exact absurd hk (hf' p a1 z k)
  · exact z
  · exact absurd hk' (hf p' c1 z k')
theorem firstBest_v (hB : Base m nk cp ev op wt sz pt bd) (hC : Cb m nk cp ev op wt sz pt bd g f) {e : Nat} (he : e < ev) (hS : SC m nk cp ev op wt sz pt bd e f) {b : Int} (b1 : -1 ≤ b) (b2 : b ≤ 24) {a : Int × Nat} (ha : tS (cp + 1) (vv m nk cp ev op wt sz pt bd e b) (nk - cp) = some a) :
    ∃ p : Nat, p_Pr_firstBest (I e) (I b) g f = some (I p) ∧ CHs m nk cp ev op wt sz pt bd e b p := by
  obtain ⟨⟨c0, c1, c2, c3⟩, -⟩ := id hC
  obtain ⟨⟨k0, k1, k2, k3, k4⟩, -⟩ := id hB
  unfold p_Pr_firstBest
  rw [c2, l_1, I_add]
  simp only [lt_, l_0, l_1, l_2, l_3, l_4, l_5, l_6, l_7, l_9, l_10, l_20, l_24, l_25, l_31, l_40, l_45, l_48, l_57, l_99, l_123, l_124, l_127, l_2000, l_far, l_999999, I_neg]
  refine itr_R (fun t z => ∃ x s : Int, z = (I e, I b, I x, I s, I ((cp + 1 + t : Nat) : Int)) ∧ ((tS (cp + 1) (vv m nk cp ev op wt sz pt bd e b) t = none ∧ x = -1 ∧ s = -1) ∨ ∃ c k, ∃ p : Nat, tS (cp + 1) (vv m nk cp ev op wt sz pt bd e b) t = some c ∧ x = p ∧ s = c.1 ∧ cp < p ∧ p < cp + 1 + t ∧ vv m nk cp ev op wt sz pt bd e b p = some (c.1, k) ∧ ∀ q, cp < q → q < p → ∀ k, vv m nk cp ev op wt sz pt bd e b q ≠ some (c.1, k))) (nk - cp)
    (fun o => ∃ p : Nat, o = some (I p) ∧ CHs m nk cp ev op wt sz pt bd e b p) ⟨-1, -1, rfl, Or.inl ⟨rfl, rfl, rfl⟩⟩ (by omega) ?_ ?_
  · intro K t z ht ⟨x, s, ez, hxs⟩
    subst ez
    left
    obtain ⟨p, hp⟩ : ∃ p : Nat, p = cp + 1 + t := ⟨_, rfl⟩
    have hp1 : (p : Int) + 1 = ((cp + 1 + (t + 1) : Nat) : Int) := by omega
    have hts : tS (cp + 1) (vv m nk cp ev op wt sz pt bd e b) (t + 1) = tadd (tS (cp + 1) (vv m nk cp ev op wt sz pt bd e b) t) (vv m nk cp ev op wt sz pt bd e b p) := by rw [hp]; rfl
    rw [← hp]
    have sv := sumFrom_v hB hC he hS (show p < 25 by omega) b1 b2
    dsimp only
    unfold p_Pr_firstBest_L16
    rw [c1, if_neg (by rw [I_lt (by omega) (by omega) (by omega) (by omega)]; omega), sv, Option.bind_some, hts]
    cases hv : vv m nk cp ev op wt sz pt bd e b p with
    | none =>
      rw [tadd_n, if_pos (show I (esum none) = -1 from rfl)]
      simp only [lt_, l_0, l_1, l_2, l_3, l_4, l_5, l_6, l_7, l_9, l_10, l_20, l_24, l_25, l_31, l_40, l_45, l_48, l_57, l_99, l_123, l_124, l_127, l_2000, l_far, l_999999, I_add, hp1]
      refine ⟨_, rfl, x, s, rfl, ?_⟩
      rcases hxs with h | ⟨c, k, p0, h1, h2, h3, h4, h5, h6, h7⟩
      · exact Or.inl h
      · exact Or.inr ⟨c, k, p0, h1, h2, h3, h4, by omega, h6, h7⟩
    | some v =>
      have vb := vv_bd hB he (show p ≤ 24 by omega) b2 hv
      rw [show esum (some v) = v.1 from rfl, if_neg (by rw [l_1, I_neg, I_eq (by omega) (by omega) (by omega) (by omega)]; omega)]
      rcases hxs with ⟨h1, rfl, rfl⟩ | ⟨c, k, p0, h1, rfl, rfl, h4, h5, h6, h7⟩
      · rw [if_pos (show I (-1) = (-1 : Int32) from rfl), h1, n_tadd]
        simp only [lt_, l_0, l_1, l_2, l_3, l_4, l_5, l_6, l_7, l_9, l_10, l_20, l_24, l_25, l_31, l_40, l_45, l_48, l_57, l_99, l_123, l_124, l_127, l_2000, l_far, l_999999, I_add, hp1]
        refine ⟨_, rfl, _, _, rfl, Or.inr ⟨v, v.2, p, rfl, rfl, rfl, by omega, by omega, hv, fun q q1 q2 k hq => ?_⟩⟩
        have := tS_spec.1 h1 q (by omega) (by omega)
        rw [this] at hq
        cases hq
      · have cb : 0 ≤ c.1 ∧ c.1 ≤ 102000 := by
          have := vv_bd (a := (c.1, k)) hB he (show p0 ≤ 24 by omega) b2 h6
          exact this
        rw [if_neg (by rw [l_1, I_neg, I_eq (by omega) (by omega) (by omega) (by omega)]; omega), h1]
        by_cases w : c.1 ≤ v.1
        · rw [if_pos (by rw [I_le (by omega) (by omega) (by omega) (by omega)]; omega)]
          simp only [lt_, l_0, l_1, l_2, l_3, l_4, l_5, l_6, l_7, l_9, l_10, l_20, l_24, l_25, l_31, l_40, l_45, l_48, l_57, l_99, l_123, l_124, l_127, l_2000, l_far, l_999999, I_add, hp1]
          refine ⟨_, rfl, _, _, rfl, Or.inr ?_⟩
          rcases (show c.1 < v.1 ∨ c.1 = v.1 by omega) with u | u
          · rw [tadd_lt u]
            exact ⟨c, k, p0, rfl, rfl, rfl, h4, by omega, h6, h7⟩
          · rw [tadd_eq u]
            exact ⟨_, k, p0, rfl, rfl, rfl, h4, by omega, h6, h7⟩
        · rw [if_neg (by rw [I_le (by omega) (by omega) (by omega) (by omega)]; omega), tadd_gt (by omega)]
          simp only [lt_, l_0, l_1, l_2, l_3, l_4, l_5, l_6, l_7, l_9, l_10, l_20, l_24, l_25, l_31, l_40, l_45, l_48, l_57, l_99, l_123, l_124, l_127, l_2000, l_far, l_999999, I_add, hp1]
          refine ⟨_, rfl, _, _, rfl, Or.inr ⟨v, v.2, p, rfl, rfl, rfl, by omega, by omega, hv, fun q q1 q2 k hq => ?_⟩⟩
          have := (tS_spec.2 c h1).1 q (v.1, k) (by omega) (by omega) hq
          have : c.1 ≤ v.1 := this
          omega
  · intro K z ⟨x, s, ez, hxs⟩
    subst ez
    dsimp only
    unfold p_Pr_firstBest_L16
    rw [c1, if_pos (by rw [I_lt (by omega) (by omega) (by omega) (by omega)]; omega)]
    rcases hxs with ⟨h1, _⟩ | ⟨c, k, p0, h1, rfl, rfl, h4, h5, h6, h7⟩
    · rw [h1] at ha; cases ha
    · exact ⟨p0, rfl, h4, by omega, c, k, h1, h6, h7⟩
/-- what the plan holds of event e at position p -/
noncomputable def LSx (m nk cp : Nat) (op wt sz pt : Nat → Nat) (bd : Nat → Int) (e p : Nat) : Nat × Int × Nat × Nat × Nat := lst (GC m nk cp op wt sz pt e p) (GL m nk cp op sz pt bd e p)
def PA (m nk cp : Nat) (op wt sz pt : Nat → Nat) (bd : Nat → Int) (e p : Nat) (f : sF) : Prop := f 5 e = I p ∧ f 6 e = I (roww m (sz e) (LSx m nk cp op wt sz pt bd e p).2.2.2.2) ∧ f 7 e = I (LSx m nk cp op wt sz pt bd e p).2.1 ∧ f 8 e = I (cnb m nk cp op sz pt bd e p + (LSx m nk cp op wt sz pt bd e p).2.2.2.1)
theorem addFirst_v (hB : Base m nk cp ev op wt sz pt bd) {e p : Nat} (he : e < ev) (hp : p < 25) (hl : (GL m nk cp op sz pt bd e p).length ≠ 0) (hT : TS (GC m nk cp op wt sz pt e) (roww m (sz e)) (GL m nk cp op sz pt bd e) g f) (h4 : g 4 = I e) :
    ∃ f', p_Pl_addFirstLeast (I p) g f = some (upd g 4 (I ((e + 1 : Nat) : Int)), f') ∧ PA m nk cp op wt sz pt bd e p f' ∧ (∀ j, j < 5 ∨ 8 < j → f' j = f j) ∧ (∀ j e', e' ≠ e → f' j e' = f j e') := by
  have b4 := hB.1.2.2.2.2
  obtain ⟨-, t2, -⟩ := id (hT p hp)
  rw [lst_len] at t2
  obtain ⟨u10, u11, u13, u12⟩ := t2 hl
  unfold p_Pl_addFirstLeast
  rw [h4]
  have e1 : (e : Int) + 1 = ((e + 1 : Nat) : Int) := by omega
  simp (disch := omega) only [l_0, l_1, l_2, l_3, l_4, l_5, l_6, l_7, l_9, l_10, l_20, l_24, l_25, l_31, l_40, l_45, l_48, l_57, l_99, l_123, l_124, l_127, l_2000, l_far, l_999999, I_le, I_lt, I_nat, tn_n, gdG, lt_]
  rw [if_neg (by omega), if_neg (by omega), if_pos (by omega)]
  have z12 : up2 f 5 e (I p) 12 p = I (roww m (sz e) (LSx m nk cp op wt sz pt bd e p).2.2.2.2) := by rw [up2_n _ _ _ (by omega)]; exact u12
  rw [z12]
  have z10 : up2 (up2 f 5 e (I p)) 6 e (I (roww m (sz e) (LSx m nk cp op wt sz pt bd e p).2.2.2.2)) 10 p = I (LSx m nk cp op wt sz pt bd e p).2.1 := by rw [up2_n _ _ _ (by omega), up2_n _ _ _ (by omega)]; exact u10
  rw [z10]
  generalize hF : up2 (up2 (up2 f 5 e (I p)) 6 e (I (roww m (sz e) (LSx m nk cp op wt sz pt bd e p).2.2.2.2))) 7 e (I (LSx m nk cp op wt sz pt bd e p).2.1) = F
  have Fj : ∀ j, j < 5 ∨ 7 < j → F j = f j := fun j hj => by rw [← hF, up2_n _ _ _ (by omega), up2_n _ _ _ (by omega), up2_n _ _ _ (by omega)]
  have hT' : TS (GC m nk cp op wt sz pt e) (roww m (sz e)) (GL m nk cp op sz pt bd e) g F := fun q hq => by
    have := hT q hq
    unfold TSp at this ⊢
    rw [Fj 9 (by omega), Fj 10 (by omega), Fj 11 (by omega), Fj 12 (by omega), Fj 13 (by omega)]
    exact this
  have num : p_GF_numberOfFirstLeast (I p) g F = some (I (cnb m nk cp op sz pt bd e p + (LSx m nk cp op wt sz pt bd e p).2.2.2.1)) := by
    unfold p_GF_numberOfFirstLeast
    rw [countBelow_v hB he hT' (by omega)]
    have z13 : F 13 p = I (LSx m nk cp op wt sz pt bd e p).2.2.2.1 := by rw [Fj 13 (by omega)]; exact u13
    simp (disch := omega) only [l_0, l_1, l_2, l_3, l_4, l_5, l_6, l_7, l_9, l_10, l_20, l_24, l_25, l_31, l_40, l_45, l_48, l_57, l_99, l_123, l_124, l_127, l_2000, l_far, l_999999, I_lt, I_nat, tn_n, gdG, Option.bind_some, z13, I_add]
    rw [if_neg (by omega), if_pos (by omega)]
  rw [num, Option.bind_some, I_add, e1]
  refine ⟨_, rfl, ⟨?_, ?_, ?_, ?_⟩, fun j hj => by rw [up2_n _ _ _ (by omega)]; exact Fj j (by omega), fun j e' he' => ?_⟩
  · rw [← hF]; simp only [up2_e, and_self, and_true, true_and, if_true, and_false, false_and, if_false, Nat.reduceEqDiff, reduceIte]
  · rw [← hF]; simp only [up2_e, and_self, and_true, true_and, if_true, and_false, false_and, if_false, Nat.reduceEqDiff, reduceIte]
  · rw [← hF]; simp only [up2_e, and_self, and_true, true_and, if_true, and_false, false_and, if_false, Nat.reduceEqDiff, reduceIte]
  · rw [up2_s, upd_s]
  · rw [← hF]; simp only [up2_e, he', and_self, and_true, true_and, if_true, and_false, false_and, if_false, Nat.reduceEqDiff, reduceIte]
/-- where the hand comes from -/
def bef (pos : Nat → Nat) (e : Nat) : Int := if e = 0 then -1 else (pos (e - 1) : Nat)
theorem CHs_some {e p : Nat} {b : Int} (h : CHs m nk cp ev op wt sz pt bd e b p) : (GL m nk cp op sz pt bd e p).length ≠ 0 ∧ ∃ r, cR m nk cp ev op wt sz pt bd (e + 1) p = some r := by
  obtain ⟨-, -, a, k, -, hk, -⟩ := h
  have hn : cB m nk cp ev op wt sz pt bd e p ≠ none := fun z => by rw [vv_none.mpr z] at hk; cases hk
  have hcB : cB m nk cp ev op wt sz pt bd e p = tmul (DD m nk cp op wt sz pt bd e p) (cR m nk cp ev op wt sz pt bd (e + 1) p) := rfl
  refine ⟨fun z => hn ?_, ?_⟩
  · rw [hcB]; unfold DD; rw [if_pos z]; rfl
  · cases hr : cR m nk cp ev op wt sz pt bd (e + 1) p with
    | none => exact absurd (by rw [hcB, hr, tmul_n]) hn
    | some r => exact ⟨r, rfl⟩
theorem choose_v (hB : Base m nk cp ev op wt sz pt bd) (hC : Cb m nk cp ev op wt sz pt bd g f) (hv : 0 < ev) {t : Int × Nat} (hT : cT' m nk cp ev op wt sz pt bd = some t) (hS : ∀ e, e < ev → SC m nk cp ev op wt sz pt bd e f) (h4 : g 4 = I 0) :
    ∃ g' f' pos, p_Pr_choose g f = some (g', f') ∧ g' 4 = I ev ∧ (∀ e, e < ev → CHs m nk cp ev op wt sz pt bd e (bef pos e) (pos e) ∧ PA m nk cp op wt sz pt bd e (pos e) f') ∧ (∀ x, x ≠ 4 → x ≠ 5 → x ≠ 6 → x ≠ 8 → x ≠ 9 → g' x = g x) ∧ (∀ j, j < 5 ∨ 16 < j → f' j = f j) := by
  have b4 := hB.1.2.2.2.2
  unfold p_Pr_choose
  refine itr_R (fun e z => ∃ (pos : Nat → Nat) (g' : sG) (f' : sF), z = (I (bef pos e), I e, g', f') ∧ g' 4 = I e ∧ (∀ e', e' < e → CHs m nk cp ev op wt sz pt bd e' (bef pos e') (pos e') ∧ PA m nk cp op wt sz pt bd e' (pos e') f') ∧ (∀ x, x ≠ 4 → x ≠ 5 → x ≠ 6 → x ≠ 8 → x ≠ 9 → g' x = g x) ∧ (∀ j, j < 5 ∨ 16 < j → f' j = f j)) ev
    (fun o => ∃ (g' : sG) (f' : sF) (pos : Nat → Nat), o = some (g', f') ∧ g' 4 = I ev ∧ (∀ e, e < ev → CHs m nk cp ev op wt sz pt bd e (bef pos e) (pos e) ∧ PA m nk cp op wt sz pt bd e (pos e) f') ∧ (∀ x, x ≠ 4 → x ≠ 5 → x ≠ 6 → x ≠ 8 → x ≠ 9 → g' x = g x) ∧ (∀ j, j < 5 ∨ 16 < j → f' j = f j)) ⟨fun _ => 0, g, f, rfl, h4, fun e' h => by omega, fun _ _ _ _ _ _ => rfl, fun _ _ => rfl⟩ (by omega) ?_ ?_
  · intro K e z he ⟨pos, g', f', ez, k4, hch, hg, hf⟩
    subst ez
    left
    have hC' : Cb m nk cp ev op wt sz pt bd g' f' := hC.fr (fun x hx => hg x (by omega) (by omega) (by omega) (by omega) (by omega)) (fun j hj => hf j (by omega))
    have hS' : SC m nk cp ev op wt sz pt bd e f' := fun p hp => by rw [hf 17 (by omega), hf 18 (by omega)]; exact hS e he p hp
    have b2 := hB.1.2.2.1
    have hbb : -1 ≤ bef pos e ∧ bef pos e ≤ 24 := by
      unfold bef
      split
      · omega
      · have := (hch (e - 1) (by omega)).1
        have h1 := this.1
        have h2 := this.2.1
        omega
    obtain ⟨a, ha⟩ : ∃ a, tS (cp + 1) (vv m nk cp ev op wt sz pt bd e (bef pos e)) (nk - cp) = some a := by
      by_cases q : e = 0
      · subst q
        refine ⟨t, ?_⟩
        rw [← hT]
        unfold cT' Tt
        exact tS_congr (fun q _ _ => by unfold vv; rw [if_pos (show bef pos 0 = -1 from rfl)]; rfl)
      · have h := (hch (e - 1) (by omega)).1
        obtain ⟨-, r, hr⟩ := CHs_some h
        rw [show e - 1 + 1 = e by omega] at hr
        refine ⟨r, ?_⟩
        have := cR_vv (m := m) (nk := nk) (cp := cp) (ev := ev) (op := op) (wt := wt) (sz := sz) (pt := pt) (bd := bd) (e := e) (p := pos (e - 1))
        rw [if_pos he, if_pos (by omega), hr] at this
        unfold bef
        rw [if_neg q]
        exact this
    obtain ⟨p, evp, hcp⟩ := firstBest_v hB hC' he hS' hbb.1 hbb.2 ha
    obtain ⟨g2, f2, ev2, tv, gv, fv⟩ := survey_v hB hC' he
    have hp25 : p < 25 := by have := hcp.2.1; omega
    obtain ⟨f3, ev3, pa, fj, fe⟩ := addFirst_v (p := p) (g := g2) hB he hp25 (CHs_some hcp).1 tv (by rw [gv 4 (by omega) (by omega) (by omega) (by omega)]; exact k4)
    have e1 : (e : Int) + 1 = ((e + 1 : Nat) : Int) := by omega
    refine ⟨(I p, I ((e + 1 : Nat) : Int), upd g2 4 (I ((e + 1 : Nat) : Int)), f3), ?_, nset pos e p, upd g2 4 (I ((e + 1 : Nat) : Int)), f3, ?_, upd_s _ _ _, fun e' he' => ?_, fun x a b c d q => by rw [upd_n _ _ a, gv x b c d q, hg x a b c d q], fun j hj => by rw [fj j (by omega), fv j (by omega), hf j hj]⟩
    · dsimp only
      unfold p_Pr_choose_L4
      rw [hC'.1.2.2.2, if_neg (by rw [I_le (by omega) (by omega) (by omega) (by omega)]; omega), evp, Option.bind_some, ev2, Option.bind_some]
      dsimp only
      rw [ev3, Option.bind_some]
      simp only [lt_, l_0, l_1, l_2, l_3, l_4, l_5, l_6, l_7, l_9, l_10, l_20, l_24, l_25, l_31, l_40, l_45, l_48, l_57, l_99, l_123, l_124, l_127, l_2000, l_far, l_999999, I_add, e1]
    · unfold bef
      rw [if_neg (by omega), show e + 1 - 1 = e by omega, nset_e, if_pos rfl]
    · by_cases q : e' = e
      · subst q
        have hb : bef (nset pos e' p) e' = bef pos e' := by
          unfold bef
          split
          · rfl
          · rw [nset_e, if_neg (by omega)]
        rw [hb, nset_e, if_pos rfl]
        exact ⟨hcp, pa⟩
      · obtain ⟨x1, x2⟩ := hch e' (by omega)
        have hb : bef (nset pos e p) e' = bef pos e' := by
          unfold bef
          split
          · rfl
          · rw [nset_e, if_neg (by omega)]
        rw [hb, nset_e, if_neg q]
        refine ⟨x1, ?_⟩
        unfold PA at x2 ⊢
        rw [fe 5 e' q, fe 6 e' q, fe 7 e' q, fe 8 e' q]
        have hfv : ∀ j, j < 9 → f2 j = f' j := fun j hj => fv j (by omega)
        rw [hfv 5 (by omega), hfv 6 (by omega), hfv 7 (by omega), hfv 8 (by omega)]
        exact x2
  · intro K z ⟨pos, g', f', ez, k4, hch, hg, hf⟩
    subst ez
    dsimp only
    unfold p_Pr_choose_L4
    rw [show g' 3 = I ev by rw [hg 3 (by omega) (by omega) (by omega) (by omega) (by omega)]; exact hC.1.2.2.2, if_pos (Int32.le_refl _)]
    exact ⟨g', f', pos, rfl, k4, hch, hg, hf⟩
theorem cplan_v (hB : Base m nk cp ev op wt sz pt bd) (hC : Cb m nk cp ev op wt sz pt bd g f) (hv : 0 < ev) :
    ∃ g' f', p_FH_plan g f = some (I (esum (cT' m nk cp ev op wt sz pt bd)), g', f') ∧ (∀ x, x ≤ 3 ∨ x = 7 ∨ 11 < x → g' x = g x) ∧ (∀ j, j < 5 ∨ 18 < j → f' j = f j) ∧
      (cT' m nk cp ev op wt sz pt bd = none → g' 4 = I 0) ∧ (cT' m nk cp ev op wt sz pt bd ≠ none → g' 4 = I ev ∧ ∃ pos, ∀ e, e < ev → CHs m nk cp ev op wt sz pt bd e (bef pos e) (pos e) ∧ PA m nk cp op wt sz pt bd e (pos e) f') := by
  have b4 := hB.1.2.2.2.2
  unfold p_FH_plan p_Pl_forget
  rw [hC.1.2.2.2, if_neg (by rw [l_0, I_eq (by omega) (by omega) (by omega) (by omega)]; omega)]
  simp only [lt_, Option.bind_some]
  have hC0 : Cb m nk cp ev op wt sz pt bd (upd g 4 0) f := hC.fr (fun x hx => upd_n _ _ (by omega)) (fun _ _ => rfl)
  obtain ⟨g', f', e1, ⟨n0, n1⟩, hS, h2, h3⟩ := search_v hB hC0 hv
  rw [e1, Option.bind_some]
  simp only [n0]
  have h40 : g' 4 = I 0 := by rw [h2 4 (by omega), upd_s]; rfl
  cases hT : cT' m nk cp ev op wt sz pt bd with
  | none =>
    rw [if_pos (show I (esum none) = -1 from rfl)]
    exact ⟨g', f', rfl, fun x hx => by rw [h2 x (by omega), upd_n _ _ (by omega)], fun j hj => h3 j (by omega), fun _ => h40, fun z => absurd rfl z⟩
  | some t =>
    have tb : 0 ≤ t.1 ∧ t.1 ≤ 101200 := by
      obtain ⟨q, k, q1, q2, hq⟩ := (tS_spec.2 t hT).2
      have b2 := hB.1.2.2.1
      have := cB_bd (a := (t.1, k)) hB hv (show q ≤ 24 by omega) hq
      exact this
    rw [show esum (some t) = t.1 from rfl, if_neg (by rw [l_1, I_neg, I_eq (by omega) (by omega) (by omega) (by omega)]; omega)]
    have hC1 : Cb m nk cp ev op wt sz pt bd g' f' := hC0.fr (fun x hx => h2 x (by omega)) (fun j hj => h3 j (by omega))
    obtain ⟨g2, f2, pos, e2, k4, hch, hg, hf⟩ := choose_v hB hC1 hv hT hS h40
    rw [e2, Option.bind_some]
    refine ⟨g2, f2, ?_, fun x hx => by rw [hg x (by omega) (by omega) (by omega) (by omega) (by omega), h2 x (by omega), upd_n _ _ (by omega)], fun j hj => by rw [hf j (by omega), h3 j (by omega)], fun z => (by cases z), fun _ => ⟨k4, pos, hch⟩⟩
    show some (g2 10, g2, f2) = _
    rw [hg 10 (by omega) (by omega) (by omega) (by omega) (by omega), n0, hT]
    rfl
end CP3
