/-! grips and grip, the class -/
theorem I_nI (n : Nat) : I (n : Int) = nI n := Int32.ofInt_eq_ofNat
theorem dig8 {d : Nat → Nat} : ∀ {n i : Nat}, (∀ j, j < n → d j ≤ 7) → i < n → (sm (fun j => (d j : Int) * 8 ^ j) n).toNat / 8 ^ i % 8 = d i
  | 0, i, _, h => by omega
  | n + 1, i, h, hi => by
    have b := sm8_bd (d := d) (n := n) (fun j hj => h j (by omega))
    obtain ⟨r, hr⟩ : ∃ r : Nat, sm (fun j => (d j : Int) * 8 ^ j) n = r := ⟨(sm (fun j => (d j : Int) * 8 ^ j) n).toNat, by omega⟩
    have hr8 : r < 8 ^ n := by
      have := b.2
      rw [hr] at this
      exact_mod_cast this
    have e : sm (fun j => (d j : Int) * 8 ^ j) (n + 1) = ((r + d n * 8 ^ n : Nat) : Int) := by
      show sm (fun j => (d j : Int) * 8 ^ j) n + (d n : Int) * 8 ^ n = _
      rw [hr]
      push_cast
      rfl
    rw [e, Int.toNat_natCast]
    by_cases q : i = n
    · subst q
      rw [Nat.add_mul_div_right _ _ (Nat.pow_pos (by decide)), Nat.div_eq_of_lt hr8, Nat.zero_add]
      exact Nat.mod_eq_of_lt (by have := h i (by omega); omega)
    · have ih := dig8 (d := d) (n := n) (i := i) (fun j hj => h j (by omega)) (by omega)
      rw [hr, Int.toNat_natCast] at ih
      have e2 : d n * 8 ^ n = (d n * 8 ^ (n - i - 1) * 8) * 8 ^ i := by
        rw [Nat.mul_assoc, Nat.mul_assoc, ← Nat.pow_succ', ← Nat.pow_add]
        congr 2
        omega
      rw [e2, Nat.add_mul_div_right _ _ (Nat.pow_pos (by decide)), Nat.add_mul_mod_self_right]
      exact ih
theorem strIn {m k c i : Nat} (hm0 : 0 < m) (hm : m ≤ 7) (hk : k ≤ 4) (hi : i < k) : (I (roww m k c) >>> (I (3 * (i : Int)) &&& I 31)) &&& I 7 = I (pdg m k c i) := by
  have b := roww_bd (i := k) (a := c) hm0 hm hk
  obtain ⟨r, hr⟩ : ∃ r : Nat, roww m k c = r := ⟨(roww m k c).toNat, by omega⟩
  have dg := dig8 (d := pdg m k c) (n := k) (i := i) (fun j _ => by have := pdg_lt (i := k) (a := c) (j := j) hm0; omega) hi
  have hr' : sm (fun j => (pdg m k c j : Int) * 8 ^ j) k = r := hr
  rw [hr', Int.toNat_natCast] at dg
  rw [hr, I_nI, pk_shrN (by omega) _ (3 * i) (by rcases (show i = 0 ∨ i = 1 ∨ i = 2 ∨ i = 3 by omega) with rfl | rfl | rfl | rfl <;> decide), pk_andN (k := 3) (Nat.lt_of_le_of_lt (Nat.div_le_self _ _) (by omega)) (by decide), I_nI]
  have e8 : 2 ^ (3 * i) = 8 ^ i := by rw [Nat.pow_mul]
  rw [e8, show 2 ^ 3 = 8 from rfl, dg]
section GR
variable {m nk cp ev : Nat} {op wt sz pt : Nat → Nat} {bd : Nat → Int} {g : sG} {f : sF}
theorem findNumber_v (hB : Base m nk cp ev op wt sz pt bd) (hC : Cb m nk cp ev op wt sz pt bd g f) {e : Nat} (he : e < ev) {x : Int} (x1 : -2147483648 ≤ x) (x2 : x < 2147483648) :
    ∃ r g' f', p_GF_findNumber (I e) (I x) g f = some (r, g', f') ∧ (∀ y, y ≠ 5 → y ≠ 6 → y ≠ 7 → y ≠ 8 → y ≠ 9 → g' y = g y) ∧ (∀ j, j < 9 ∨ 16 < j → f' j = f j) ∧
      ((r = I 0 ∧ (x < 0 ∨ cnb m nk cp op sz pt bd e 25 ≤ x)) ∨ ∃ p q : Nat, p < 25 ∧ q < (GL m nk cp op sz pt bd e p).length ∧ x = cnb m nk cp op sz pt bd e p + q ∧ r = I 1 ∧ g' 6 = I p ∧ g' 8 = I (roww m (sz e) ((GL m nk cp op sz pt bd e p).getD q 0)) ∧ g' 9 = I (GC m nk cp op wt sz pt e p ((GL m nk cp op sz pt bd e p).getD q 0))) := by
  unfold p_GF_findNumber
  obtain ⟨g1, f1, ev1, tv, gv, fv⟩ := survey_v hB hC he
  rw [ev1, Option.bind_some, l_0]
  dsimp only
  have hC1 : Cb m nk cp ev op wt sz pt bd g1 f1 := hC.fr (fun y hy => gv y (by omega) (by omega) (by omega) (by omega)) (fun j hj => fv j (by omega))
  by_cases h0 : 0 ≤ x
  · rw [if_pos (by rw [I_le (by omega) (by omega) x1 x2]; exact h0)]
    refine itr_R (fun t z => z = (I e, I (x - cnb m nk cp op sz pt bd e t), I t, g1, f1) ∧ cnb m nk cp op sz pt bd e t ≤ x) 25 (fun o => ∃ (r : Int32) (g' : sG) (f' : sF), o = some (r, g', f') ∧ (∀ y, y ≠ 5 → y ≠ 6 → y ≠ 7 → y ≠ 8 → y ≠ 9 → g' y = g y) ∧ (∀ j, j < 9 ∨ 16 < j → f' j = f j) ∧
      ((r = I 0 ∧ (x < 0 ∨ cnb m nk cp op sz pt bd e 25 ≤ x)) ∨ ∃ p q : Nat, p < 25 ∧ q < (GL m nk cp op sz pt bd e p).length ∧ x = cnb m nk cp op sz pt bd e p + q ∧ r = I 1 ∧ g' 6 = I p ∧ g' 8 = I (roww m (sz e) ((GL m nk cp op sz pt bd e p).getD q 0)) ∧ g' 9 = I (GC m nk cp op wt sz pt e p ((GL m nk cp op sz pt bd e p).getD q 0)))) ⟨by show _ = (I e, I (x - 0), I 0, g1, f1); rw [Int.sub_zero], h0⟩ (by omega) ?_ ?_
    · intro K t z ht ⟨ez, hle⟩
      subst ez
      have b := cnb_bd (p := t) hB he
      have bl := GL_len (p := t) hB he
      have c := (tv t (by omega)).1
      rw [lst_len] at c
      have e1 : (t : Int) + 1 = ((t + 1 : Nat) : Int) := by omega
      have e2 : cnb m nk cp op sz pt bd e (t + 1) = cnb m nk cp op sz pt bd e t + (GL m nk cp op sz pt bd e t).length := rfl
      dsimp only
      unfold p_GF_findNumber_L16
      simp (disch := omega) only [l_0, l_1, l_2, l_3, l_4, l_5, l_6, l_7, l_9, l_10, l_20, l_24, l_25, l_31, l_40, l_45, l_48, l_57, l_99, l_123, l_124, l_127, l_2000, l_far, l_999999, I_le, I_lt, I_nat, tn_n, gdG, c, lt_, I_sub, I_add, e1]
      rw [if_neg (by omega)]
      by_cases hq : ((GL m nk cp op sz pt bd e t).length : Int) ≤ x - cnb m nk cp op sz pt bd e t
      · rw [if_pos hq]
        left
        refine ⟨_, rfl, ?_, by omega⟩
        rw [e2, show x - (cnb m nk cp op sz pt bd e t + (GL m nk cp op sz pt bd e t).length) = x - cnb m nk cp op sz pt bd e t - (GL m nk cp op sz pt bd e t).length by omega]
      · right
        rw [if_neg hq]
        obtain ⟨q, hqe⟩ : ∃ q : Nat, x - cnb m nk cp op sz pt bd e t = q := ⟨(x - cnb m nk cp op sz pt bd e t).toNat, by omega⟩
        rw [hqe]
        obtain ⟨g2, f2, ev2, tv2, fr2⟩ := goThrough_v (g := upd (upd g1 6 (I t)) 7 (I q)) hB (hC1.fr (fun y hy => by rw [upd_n _ _ (by omega), upd_n _ _ (by omega)]) (fun _ _ => rfl)) he (by rw [upd_n _ _ (by omega), upd_s, I_int (by omega) (by omega)]; omega)
        rw [ev2, Option.bind_some]
        have k6 : g2 6 = I t := by rw [fr2.1 6 (by omega) (by omega) (by omega), upd_n _ _ (by omega), upd_s]
        have k7 : g2 7 = I q := by rw [fr2.1 7 (by omega) (by omega) (by omega), upd_s]
        obtain ⟨k8, k9⟩ := (tv2 t (by omega)).2.2 q (by omega) k6 k7
        refine ⟨I 1, g2, f2, rfl, fun y a1 a2 a3 a4 a5 => ?_, fun j hj => ?_, Or.inr ⟨t, q, ht, by omega, by omega, rfl, k6, k8, k9⟩⟩
        · rw [fr2.1 y a1 a4 a5, upd_n _ _ a3, upd_n _ _ a2, gv y a1 a2 a4 a5]
        · rw [fr2.2 j hj, fv j hj]
    · intro K z ⟨ez, hle⟩
      subst ez
      dsimp only
      unfold p_GF_findNumber_L16
      rw [if_pos (by decide)]
      exact ⟨I 0, g1, f1, rfl, fun y a1 a2 _ a4 a5 => gv y a1 a2 a4 a5, fv, Or.inl ⟨rfl, Or.inr hle⟩⟩
  · rw [if_neg (by rw [I_le (by omega) (by omega) x1 x2]; exact h0)]
    exact ⟨I 0, g1, f1, rfl, fun y a1 a2 _ a4 a5 => gv y a1 a2 a4 a5, fv, Or.inl ⟨rfl, Or.inl (by omega)⟩⟩
/-- what a grip tells of itself -/
def gpart (m nk cp : Nat) (op wt sz pt : Nat → Nat) (e p c : Nat) (y : Int) : Int := if y = 0 then p else if y = 5 then GC m nk cp op wt sz pt e p c else if y - 1 < sz e then pdg m (sz e) c (y - 1).toNat else -1
theorem cgrips_v (hB : Base m nk cp ev op wt sz pt bd) (hC : Cb m nk cp ev op wt sz pt bd g f) {e : Nat} (he : e < ev) :
    ∃ g' f', p_FH_grips (I e) g f = some (I (cnb m nk cp op sz pt bd e 25), g', f') ∧ (∀ x, x ≠ 5 → x ≠ 6 → x ≠ 8 → x ≠ 9 → g' x = g x) ∧ (∀ j, j < 9 ∨ 16 < j → f' j = f j) := by
  unfold p_FH_grips
  have hv := hB.1.2.2.2.2
  obtain ⟨g1, f1, ev1, tv, gv, fv⟩ := survey_v hB hC he
  rw [hasEvent_v hC.1.2.2.2 hv (by omega) (by omega), if_pos (by omega), Option.bind_some, ev1, Option.bind_some, if_neg (by decide)]
  have := countBelow_v (x := 25) hB he tv (by omega)
  have t : p_GF_countBelow 25 g1 f1 = some (I (cnb m nk cp op sz pt bd e 25)) := this
  rw [t, Option.bind_some]
  exact ⟨g1, f1, rfl, gv, fv⟩
theorem GL_mpos {e p q : Nat} (hB : Base m nk cp ev op wt sz pt bd) (he : e < ev) (hq : q < (GL m nk cp op sz pt bd e p).length) : 0 < m := by
  rcases Nat.eq_zero_or_pos m with z | z
  · have h1 := LL_len (m := m) (k := sz e) (nk := nk) (cp := cp) (op := op) (P := eP pt e) (Bd := eB bd e) (C := m ^ sz e) (p := p)
    have : q < (LL m (sz e) nk cp op (eP pt e) (eB bd e) (m ^ sz e) p).length := hq
    subst z
    rw [Nat.zero_pow (by have := hB.2.2.2.1 e he; omega)] at h1 this
    omega
  · exact z
theorem cgrip_v (hB : Base m nk cp ev op wt sz pt bd) (hC : Cb m nk cp ev op wt sz pt bd g f) {e : Nat} (he : e < ev) {x y : Int} (x1 : -2147483648 ≤ x) (x2 : x < 2147483648) (y0 : 0 ≤ y) (y5 : y ≤ 5) :
    ∃ r g' f', p_FH_grip (I e) (I x) (I y) g f = some (r, g', f') ∧ (∀ z, z ≠ 5 → z ≠ 6 → z ≠ 7 → z ≠ 8 → z ≠ 9 → g' z = g z) ∧ (∀ j, j < 9 ∨ 16 < j → f' j = f j) ∧
      ((r = I (-1) ∧ (x < 0 ∨ cnb m nk cp op sz pt bd e 25 ≤ x)) ∨ ∃ p q : Nat, p < 25 ∧ q < (GL m nk cp op sz pt bd e p).length ∧ x = cnb m nk cp op sz pt bd e p + q ∧ r = I (gpart m nk cp op wt sz pt e p ((GL m nk cp op sz pt bd e p).getD q 0) y)) := by
  unfold p_FH_grip
  have hv := hB.1.2.2.2.2
  have hs := hB.2.2.2.1 e he
  obtain ⟨r, g1, f1, ev1, gv, fv, hr⟩ := findNumber_v hB hC he x1 x2
  rw [hasEvent_v hC.1.2.2.2 hv (by omega) (by omega), if_pos (by omega), Option.bind_some, if_neg (by decide), l_0, l_5, if_neg (by rw [I_lt (by omega) (by omega) (by omega) (by omega)]; omega), if_pos (by rw [I_le (by omega) (by omega) (by omega) (by omega)]; omega), ev1, Option.bind_some]
  dsimp only
  rcases hr with ⟨rfl, hx⟩ | ⟨p, q, hp, hq, hx, rfl, k6, k8, k9⟩
  · exact ⟨I (-1), g1, f1, rfl, gv, fv, Or.inl ⟨rfl, hx⟩⟩
  · rw [if_neg (by decide), k6, k8, k9]
    have hm0 := GL_mpos hB he hq
    have hC1 : Cb m nk cp ev op wt sz pt bd g1 f1 := hC.fr (fun y hy => gv y (by omega) (by omega) (by omega) (by omega) (by omega)) (fun j hj => fv j (by omega))
    have key : p_FH_partOf (I e) (I y) (I p) (I (roww m (sz e) ((GL m nk cp op sz pt bd e p).getD q 0))) (I (GC m nk cp op wt sz pt e p ((GL m nk cp op sz pt bd e p).getD q 0))) g1 f1 = some (I (gpart m nk cp op wt sz pt e p ((GL m nk cp op sz pt bd e p).getD q 0) y)) := by
      unfold p_FH_partOf gpart
      simp (disch := omega) only [l_0, l_1, l_2, l_3, l_4, l_5, l_6, l_7, l_9, l_10, l_20, l_24, l_25, l_31, l_40, l_45, l_48, l_57, l_99, l_123, l_124, l_127, l_2000, l_far, l_999999, I_eq, I_sub]
      by_cases h0 : y = 0
      · rw [if_pos h0, if_pos h0]
      · rw [if_neg h0, if_neg h0]
        by_cases h5 : y = 5
        · rw [if_pos h5, if_pos h5]
        · rw [if_neg h5, if_neg h5, hasPitch_v hB hC1 he (by omega) (by omega)]
          by_cases hi : y - 1 < sz e
          · obtain ⟨i, hie⟩ : ∃ i : Nat, y - 1 = i := ⟨(y - 1).toNat, by omega⟩
            rw [hie] at hi ⊢
            rw [if_pos (by omega), if_pos hi, Option.bind_some, if_neg (by decide), Int.toNat_natCast]
            unfold p_SR_stringIn
            rw [l_3, I_mul, l_31, l_7, strIn hm0 hB.1.1 hs.2 (by omega)]
            rfl
          · rw [if_neg (by omega), if_neg hi, Option.bind_some, if_pos rfl]
            rfl
    rw [key, Option.bind_some]
    exact ⟨_, g1, f1, rfl, gv, fv, Or.inr ⟨p, q, hp, hq, hx, rfl⟩⟩
end GR
