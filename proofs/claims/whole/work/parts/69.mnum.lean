section MN
variable {m nk cp n C : Nat} {op tp : Nat → Nat} {g : sG} {f : sF}
/-- the reference in front of a tape of m lines -/
def Rm (m nk cp C n : Nat) (op tp : Nat → Nat) (g : sG) (f : sF) : Prop := WF m C n tp ∧ (n ≤ 2000 ∧ ∀ j, j < n → f 9 j = I (tp j) ∧ tp j ≤ 127) ∧ (g 0 = I m ∧ g 1 = I nk ∧ g 2 = I cp ∧ g 9 = I C) ∧ (∀ s, s < m → f 0 s = I (op s)) ∧ (1 ≤ m ∧ m ≤ 7 ∧ nk ≤ 24 ∧ cp < nk ∧ C ≤ 2000) ∧ ∀ s, s < m → op s ≤ 99
theorem Rm.fr {g' : sG} {f' : sF} (h : Rm m nk cp C n op tp g f) (hg : ∀ x, x ≤ 2 ∨ x = 9 → g' x = g x) (hf : f' 9 = f 9 ∧ f' 0 = f 0) : Rm m nk cp C n op tp g' f' := by
  obtain ⟨a, b, ⟨c0, c1, c2, c3⟩, d, e⟩ := h
  exact ⟨a, by rw [hf.1]; exact b, ⟨by rw [hg 0 (by omega)]; exact c0, by rw [hg 1 (by omega)]; exact c1, by rw [hg 2 (by omega)]; exact c2, by rw [hg 9 (by omega)]; exact c3⟩, by rw [hf.2]; exact d, e⟩
theorem Rm.pb (h : Rm m nk cp C n op tp g f) {s c : Nat} (hs : s < m) (hc : c < C + 2) : pl m C s c < 2000 ∧ f 9 (pl m C s c) = I (tp (pl m C s c)) ∧ tp (pl m C s c) ≤ 127 := by
  have := pl_lt (m := m) (C := C) (s := s) (c := c) hs hc
  have h1 := h.1.1
  have h2 := h.2.1.1
  have h3 := h.2.1.2 (pl m C s c) (by omega)
  exact ⟨by omega, h3.1, h3.2⟩
theorem placeM (h : Rm m nk cp C n op tp g f) {s c : Nat} (hs : s < m) : p_M_placeOf (I s) (I c) g f = some (I (pl m C s c)) := by
  obtain ⟨r0, r1, r2, r3⟩ := h.2.2.1
  unfold p_M_placeOf pl
  rw [r0, r3, l_1, l_3, I_sub, I_sub, I_add, I_mul, I_add, I_add]
  congr 2
  rw [show (m : Int) - 1 - s = ((m - 1 - s : Nat) : Int) by omega, show (C : Int) + 3 = ((C + 3 : Nat) : Int) by omega, ← Int.natCast_mul]
  omega
theorem isFigureAt_v (h : Rm m nk cp C n op tp g f) {s : Nat} (hs : s < m) {z : Int} (z1 : -1 ≤ z) (z2 : z ≤ 5000) : p_M_isFigureAt (I s) (I z) g f = some (I (bI (0 ≤ z ∧ dg m C tp s z.toNat))) := by
  have rb := h.2.2.2.2.1
  obtain ⟨r0, r1, r2, r3⟩ := h.2.2.1
  unfold p_M_isFigureAt
  rw [r3, l_0, l_1, I_sub, within_v (by omega) (by omega) (by omega) (by omega) (by omega) (by omega), Option.bind_some]
  by_cases q : 0 ≤ z ∧ z ≤ (C : Int) - 1
  · obtain ⟨c, rfl⟩ : ∃ c : Nat, z = c := ⟨z.toNat, by omega⟩
    have pb := h.pb hs (show c < C + 2 by omega)
    rw [if_pos q, if_neg (by decide), placeM h hs, Option.bind_some, Int.toNat_natCast]
    simp (disch := omega) only [I_lt, I_nat, tn_n, gdG, pb.2.1]
    rw [isFigure_v (by omega) (by omega), Option.bind_some, bI_congr (dg_ch h.1 hs (by omega))]
    by_cases d : dg m C tp s c
    · rw [bI_t d, if_neg (by decide), bI_t ⟨by omega, d⟩]
    · rw [bI_f d, if_pos rfl, bI_f (fun x => d x.2)]
  · rw [if_neg q, if_pos rfl, bI_f (fun x => q ⟨x.1, by have := x.2.1; omega⟩)]
theorem mbegins_v (h : Rm m nk cp C n op tp g f) {s : Nat} (hs : s < m) {z : Int} (z1 : -1 ≤ z) (z2 : z ≤ 5000) : p_M_begins (I s) (I z) g f = some (I (bI (0 ≤ z ∧ bg m C tp s z.toNat))) := by
  unfold p_M_begins
  rw [isFigureAt_v h hs z1 z2, Option.bind_some]
  by_cases q : 0 ≤ z ∧ dg m C tp s z.toNat
  · rw [bI_t q, if_neg n10, l_1, I_sub, isFigureAt_v h hs (by omega) (by omega), Option.bind_some]
    have e1 : (z - 1).toNat = z.toNat - 1 := by omega
    rw [e1]
    by_cases p : 0 ≤ z - 1 ∧ dg m C tp s (z.toNat - 1)
    · rw [bI_t p, if_neg n10, bI_f (fun x => x.2.2 ⟨by omega, p.2⟩)]; rfl
    · rw [bI_f p, if_pos z00, bI_t ⟨q.1, q.2, fun x => p ⟨by omega, x.2⟩⟩]
  · rw [bI_f q, if_pos z00, bI_f (fun x => q ⟨x.1, x.2.1⟩)]; rfl
theorem mbeginsN (h : Rm m nk cp C n op tp g f) {s c : Nat} (hs : s < m) (hc : c ≤ 5000) : p_M_begins (I s) (I c) g f = some (I (bI (bg m C tp s c))) := by
  rw [mbegins_v h hs (by omega) (by omega), Int.toNat_natCast, bI_congr ⟨fun x => x.2, fun x => ⟨by omega, x⟩⟩]
theorem lengthAt_v (h : Rm m nk cp C n op tp g f) {s c : Nat} (hs : s < m) (hc : c ≤ C) : ∃ L : Nat, p_M_lengthAt (I s) (I c) g f = some (I L) ∧ (∀ j, j < L → dg m C tp s (c + j)) ∧ ¬ dg m C tp s (c + L) ∧ L ≤ C := by
  have rb := h.2.2.2.2.1
  obtain ⟨L, h1, h2⟩ := least_ex (P := fun L => ¬ dg m C tp s (c + L)) ⟨C, fun q => by have := q.1; omega⟩
  have hall : ∀ j, j < L → dg m C tp s (c + j) := fun j hj => Classical.byContradiction (fun q => h2 j hj q)
  have hLC : L ≤ C := by
    rcases Nat.eq_zero_or_pos L with z | z
    · omega
    · have := (hall (L - 1) (by omega)).1; omega
  refine ⟨L, ?_, hall, h1, hLC⟩
  unfold p_M_lengthAt
  rw [l_0]
  refine itr_R (fun j z => z = (I s, I c, I j)) L (fun o => o = some (I L)) rfl (by omega) ?_ ?_
  · intro K j z hj ez
    subst ez
    left
    refine ⟨_, ?_, rfl⟩
    dsimp only
    unfold p_M_lengthAt_L2
    rw [I_add, isFigureAt_v h hs (by omega) (by omega), Option.bind_some, show ((c : Int) + j).toNat = c + j by omega, bI_t ⟨by omega, hall j hj⟩, if_neg n10, l_1, I_add]
    rfl
  · intro K z ez
    subst ez
    dsimp only
    unfold p_M_lengthAt_L2
    rw [I_add, isFigureAt_v h hs (by omega) (by omega), Option.bind_some, show ((c : Int) + L).toNat = c + L by omega, bI_f (fun x => h1 x.2), if_pos z00]
theorem valueAt_v (h : Rm m nk cp C n op tp g f) {s c : Nat} (hs : s < m) (hd : dg m C tp s c) (h12 : dg m C tp s (c + 1) → ¬ dg m C tp s (c + 2)) : p_M_valueAt (I s) (I c) g f = some (I (vl m C tp s c)) := by
  have rb := h.2.2.2.2.1
  obtain ⟨a1, a2, a3⟩ := dg_bd hd
  have pb := h.pb hs (show c < C + 2 by omega)
  have pb1 := h.pb hs (show c + 1 < C + 2 by omega)
  obtain ⟨L, l1, l2, l3, l4⟩ := lengthAt_v h hs (show c ≤ C by omega)
  unfold p_M_valueAt vl
  have pm := fun c => placeM (c := c) h hs
  have ec : (c : Int) + 1 = ((c + 1 : Nat) : Int) := by omega
  rw [placeM h hs, Option.bind_some, l1, l_1, I_add, ec]
  simp (disch := omega) only [l_0, l_1, l_2, l_3, l_4, l_5, l_6, l_7, l_9, l_10, l_20, l_24, l_25, l_31, l_40, l_45, l_48, l_57, l_99, l_123, l_124, l_127, l_2000, l_far, l_999999, pm, Option.bind_some, I_lt, I_nat, tn_n, gdG, pb.2.1, pb1.2.1, lt_, I_sub, I_mul, I_add, I_eq]
  by_cases d : dg m C tp s (c + 1)
  · obtain ⟨e1, e2, e3⟩ := dg_bd d
    have hL : L = 2 := by
      rcases Nat.lt_trichotomy L 2 with x | x | x
      · exfalso
        rcases (show L = 0 ∨ L = 1 by omega) with y | y
        · rw [y] at l3; exact l3 hd
        · rw [y] at l3; exact l3 d
      · exact x
      · exact absurd (l2 2 x) (h12 d)
    rw [if_pos (by omega), if_pos (cb_t.mpr d)]
    congr 2
    omega
  · have hL : L = 1 := by
      rcases Nat.lt_trichotomy L 1 with x | x | x
      · exfalso
        rw [show L = 0 by omega] at l3
        exact l3 hd
      · exact x
      · exact absurd (l2 1 x) d
    rw [if_neg (by omega), if_neg (fun q => d (cb_t.mp q))]
    congr 2
    omega
/-! faults -/
def LM (S : Nat → Nat → Prop) (g : sG) : Prop := (g 10 = I 0 ∧ ∀ k p, ¬ S k p) ∨ ∃ k p : Nat, 1 ≤ k ∧ k ≤ 5 ∧ p < 100000 ∧ g 10 = I k ∧ g 11 = I p ∧ S k p ∧ ∀ k' p', S k' p' → k < k' ∨ (k = k' ∧ p ≤ p')
theorem LM.congr {S S' : Nat → Nat → Prop} (h : LM S g) (e : ∀ k p, S k p ↔ S' k p) : LM S' g := by
  have : S = S' := funext fun k => funext fun p => propext (e k p)
  rw [← this]
  exact h
theorem faults_v {S : Nat → Nat → Prop} (h : LM S g) {k p : Nat} (k1 : 1 ≤ k) (k5 : k ≤ 5) (hp : p < 100000) : ∃ g', p_M_faults (I k) (I p) g f = some (g', f) ∧ LM (fun k' p' => S k' p' ∨ (k' = k ∧ p' = p)) g' ∧ ∀ x, x ≠ 10 → x ≠ 11 → g' x = g x := by
  unfold p_M_faults p_M_faults_J31
  have set : ∀ (hS : ∀ k' p', S k' p' → k < k' ∨ (k = k' ∧ p ≤ p')), LM (fun k' p' => S k' p' ∨ (k' = k ∧ p' = p)) (upd (upd g 10 (I k)) 11 (I p)) := fun hS => by
    refine Or.inr ⟨k, p, k1, k5, hp, by rw [upd_n _ _ (by omega), upd_s], upd_s _ _ _, Or.inr ⟨rfl, rfl⟩, fun k' p' q => ?_⟩
    rcases q with q | ⟨q1, q2⟩
    · exact hS k' p' q
    · right; omega
  have keep : ∀ (hS : ∃ k0 p0, S k0 p0 ∧ (k0 < k ∨ (k0 = k ∧ p0 ≤ p)) ∧ 1 ≤ k0 ∧ k0 ≤ 5 ∧ p0 < 100000 ∧ g 10 = I k0 ∧ g 11 = I p0 ∧ ∀ k' p', S k' p' → k0 < k' ∨ (k0 = k' ∧ p0 ≤ p')), LM (fun k' p' => S k' p' ∨ (k' = k ∧ p' = p)) g := fun ⟨k0, p0, a, b, c1, c2, c3, c4, c5, c6⟩ => by
    refine Or.inr ⟨k0, p0, c1, c2, c3, c4, c5, Or.inl a, fun k' p' q => ?_⟩
    rcases q with q | ⟨q1, q2⟩
    · exact c6 k' p' q
    · omega
  rcases h with ⟨h1, h2⟩ | ⟨k0, p0, c1, c2, c3, c4, c5, c6, c7⟩
  · rw [h1, if_pos z00]
    exact ⟨_, rfl, set (fun k' p' q => absurd q (h2 k' p')), fun x a b => by rw [upd_n _ _ b, upd_n _ _ a]⟩
  · rw [c4, c5, l_0]
    simp (disch := omega) only [I_eq, I_lt, I_le, lt_]
    rw [if_neg (by omega)]
    by_cases q1 : k < k0
    · rw [if_pos (by omega)]
      exact ⟨_, rfl, set (fun k' p' q => by have := c7 k' p' q; omega), fun x a b => by rw [upd_n _ _ b, upd_n _ _ a]⟩
    · rw [if_neg (by omega)]
      by_cases q2 : k = k0
      · rw [if_pos (by omega)]
        by_cases q3 : p0 ≤ p
        · rw [if_pos (by omega)]
          exact ⟨g, rfl, keep ⟨k0, p0, c6, by omega, c1, c2, c3, c4, c5, c7⟩, fun _ _ _ => rfl⟩
        · rw [if_neg (by omega)]
          exact ⟨_, rfl, set (fun k' p' q => by have := c7 k' p' q; omega), fun x a b => by rw [upd_n _ _ b, upd_n _ _ a]⟩
      · rw [if_neg (by omega)]
        exact ⟨g, rfl, keep ⟨k0, p0, c6, by omega, c1, c2, c3, c4, c5, c7⟩, fun _ _ _ => rfl⟩
def SN (m nk cp C : Nat) (tp : Nat → Nat) (s0 c0 k p : Nat) : Prop := ∃ s c, (s < s0 ∨ (s = s0 ∧ c < c0)) ∧ c < C ∧ p = pl m C s c ∧ ((k = 2 ∧ b2 m nk cp C tp s c) ∨ (k = 3 ∧ b3r m C tp s c))
def SP (m nk cp C : Nat) (tp : Nat → Nat) (s c t k p : Nat) : Prop := (SN m nk cp C tp s c k p ∨ (k = 2 ∧ p = pl m C s c ∧ b2 m nk cp C tp s c)) ∨ (k = 3 ∧ p = pl m C s c ∧ ∃ t', t' < t ∧ t' ≠ s ∧ dg m C tp t' c ∧ 0 < c ∧ bg m C tp t' (c - 1))
theorem SN_b {s c : Nat} (hc : c < C) (hb : bg m C tp s c) (k p : Nat) : SP m nk cp C tp s c m k p ↔ SN m nk cp C tp s (c + 1) k p := by
  constructor
  · intro q
    rcases q with (⟨s', c', a, b, d⟩ | ⟨a, b, d⟩) | ⟨a, b, d⟩
    · exact ⟨s', c', by omega, b, d⟩
    · exact ⟨s, c, by omega, hc, b, Or.inl ⟨a, d⟩⟩
    · exact ⟨s, c, by omega, hc, b, Or.inr ⟨a, hb, d⟩⟩
  · intro ⟨s', c', a, b, d, e⟩
    by_cases w : s' = s ∧ c' = c
    · obtain ⟨rfl, rfl⟩ := w
      rcases e with ⟨e1, e2⟩ | ⟨e1, e2⟩
      · exact Or.inl (Or.inr ⟨e1, d, e2⟩)
      · exact Or.inr ⟨e1, d, e2.2⟩
    · exact Or.inl (Or.inl ⟨s', c', by omega, b, d, e⟩)
theorem SN_n {s c : Nat} (hb : ¬ bg m C tp s c) (k p : Nat) : SN m nk cp C tp s c k p ↔ SN m nk cp C tp s (c + 1) k p := by
  constructor
  · intro ⟨s', c', a, b, d⟩
    exact ⟨s', c', by omega, b, d⟩
  · intro ⟨s', c', a, b, d, e⟩
    by_cases w : s' = s ∧ c' = c
    · obtain ⟨rfl, rfl⟩ := w
      exfalso
      rcases e with ⟨e1, e2⟩ | ⟨e1, e2⟩
      · exact hb e2.1
      · exact hb e2.1
    · exact ⟨s', c', by omega, b, d, e⟩
theorem SN_l {s : Nat} (k p : Nat) : SN m nk cp C tp s C k p ↔ SN m nk cp C tp (s + 1) 0 k p := by
  constructor
  · intro ⟨s', c', a, b, d⟩
    exact ⟨s', c', by omega, b, d⟩
  · intro ⟨s', c', a, b, d⟩
    exact ⟨s', c', by omega, b, d⟩
theorem num106 (h : Rm m nk cp C n op tp g f) {s c : Nat} (hs : s < m) (hc : c < C) (hl : LM (SP m nk cp C tp s c 0) g) (K2 : (Int32 × sG × sF) → Option (sG × sF)) (K12 : (Int32 × Int32 × sG × sF) → Option (sG × sF)) :
    ∃ g', itr (fun K z => p_M_lookNumbers_L106 K2 K12 K z.1 z.2.1 z.2.2.1 z.2.2.2.1 z.2.2.2.2) FUEL (I s, I c, I 0, g, f) = K12 (I s, I ((c + 1 : Nat) : Int), g', f) ∧ LM (SP m nk cp C tp s c m) g' ∧ ∀ x, x ≠ 10 → x ≠ 11 → g' x = g x := by
  have rb := h.2.2.2.2.1
  refine itr_R (fun t z => ∃ g' : sG, z = (I s, I c, I t, g', f) ∧ LM (SP m nk cp C tp s c t) g' ∧ ∀ x, x ≠ 10 → x ≠ 11 → g' x = g x) m (fun o => ∃ g' : sG, o = K12 (I s, I ((c + 1 : Nat) : Int), g', f) ∧ LM (SP m nk cp C tp s c m) g' ∧ ∀ x, x ≠ 10 → x ≠ 11 → g' x = g x) ⟨g, rfl, hl, fun _ _ _ => rfl⟩ (by omega) ?_ ?_
  · intro K t z ht ⟨g', ez, hlm, hg⟩
    subst ez
    left
    have h' : Rm m nk cp C n op tp g' f := h.fr (fun x hx => hg x (by omega) (by omega)) ⟨rfl, rfl⟩
    have et : (t : Int) + 1 = ((t + 1 : Nat) : Int) := by omega
    have same : ¬ (t ≠ s ∧ dg m C tp t c ∧ 0 < c ∧ bg m C tp t (c - 1)) → ∀ k p, SP m nk cp C tp s c t k p ↔ SP m nk cp C tp s c (t + 1) k p := fun q k p => by
      constructor
      · intro x
        rcases x with x | ⟨x1, x2, t', y1, y2⟩
        · exact Or.inl x
        · exact Or.inr ⟨x1, x2, t', by omega, y2⟩
      · intro x
        rcases x with x | ⟨x1, x2, t', y1, y2⟩
        · exact Or.inl x
        · by_cases w : t' = t
          · rw [w] at y2; exact absurd y2 q
          · exact Or.inr ⟨x1, x2, t', by omega, y2⟩
    have pb := h.pb hs (show c < C + 2 by omega)
    dsimp only
    unfold p_M_lookNumbers_L106
    rw [h'.2.2.1.1, if_neg (by rw [I_le (by omega) (by omega) (by omega) (by omega)]; omega), isFigureAt_v h' ht (by omega) (by omega), Option.bind_some, Int.toNat_natCast, l_1, I_sub, mbegins_v h' ht (by omega) (by omega), Option.bind_some, placeM h' hs, Option.bind_some, I_add, et]
    simp only [lt_]
    by_cases w : t = s
    · rw [if_pos (by rw [w])]
      exact ⟨_, rfl, g', rfl, hlm.congr (same (fun q => q.1 w)), hg⟩
    · rw [if_neg (by rw [I_eq (by omega) (by omega) (by omega) (by omega)]; omega)]
      by_cases d : dg m C tp t c
      · rw [bI_t ⟨by omega, d⟩, if_neg n10]
        have e1 : ((c : Int) - 1).toNat = c - 1 := by omega
        rw [e1]
        by_cases b : 0 ≤ (c : Int) - 1 ∧ bg m C tp t (c - 1)
        · obtain ⟨g2, f1, f2, f3⟩ := faults_v (f := f) hlm (k := 3) (p := pl m C s c) (by omega) (by omega) (by omega)
          have f1' : p_M_faults (3 : Int32) (I (pl m C s c)) g' f = some (g2, f) := f1
          rw [bI_t b, if_neg n10, f1', Option.bind_some]
          refine ⟨_, rfl, g2, rfl, f2.congr (fun k p => ?_), fun x a b => by rw [f3 x a b, hg x a b]⟩
          constructor
          · intro x
            rcases x with (x | ⟨x1, x2, t', y1, y2⟩) | ⟨x1, x2⟩
            · exact Or.inl x
            · exact Or.inr ⟨x1, x2, t', by omega, y2⟩
            · exact Or.inr ⟨x1, x2, t, by omega, w, d, by omega, b.2⟩
          · intro x
            rcases x with x | ⟨x1, x2, t', y1, y2⟩
            · exact Or.inl (Or.inl x)
            · by_cases w2 : t' = t
              · exact Or.inr ⟨x1, x2⟩
              · exact Or.inl (Or.inr ⟨x1, x2, t', by omega, y2⟩)
        · rw [bI_f b, if_pos z00]
          exact ⟨_, rfl, g', rfl, hlm.congr (same (fun q => b ⟨by omega, q.2.2.2⟩)), hg⟩
      · rw [bI_f (fun q => d q.2), if_pos z00]
        exact ⟨_, rfl, g', rfl, hlm.congr (same (fun q => d q.2.1)), hg⟩
  · intro K z ⟨g', ez, hlm, hg⟩
    subst ez
    refine ⟨g', ?_, hlm, hg⟩
    have h' : Rm m nk cp C n op tp g' f := h.fr (fun x hx => hg x (by omega) (by omega)) ⟨rfl, rfl⟩
    dsimp only
    unfold p_M_lookNumbers_L106
    rw [h'.2.2.1.1, if_pos (Int32.le_refl _), l_1, I_add]
    rfl
theorem num12 (h : Rm m nk cp C n op tp g f) {s c : Nat} (hs : s < m) (hc : c < C) (hl : LM (SN m nk cp C tp s c) g) (K2 : (Int32 × sG × sF) → Option (sG × sF)) (K12 : (Int32 × Int32 × sG × sF) → Option (sG × sF)) :
    ∃ g', p_M_lookNumbers_L12 K2 K12 (I s) (I c) g f = K12 (I s, I ((c + 1 : Nat) : Int), g', f) ∧ LM (SN m nk cp C tp s (c + 1)) g' ∧ ∀ x, x ≠ 10 → x ≠ 11 → g' x = g x := by
  have rb := h.2.2.2.2.1
  obtain ⟨r0, r1, r2, r3⟩ := h.2.2.1
  have pb := h.pb hs (show c < C + 2 by omega)
  have ec : (c : Int) + 1 = ((c + 1 : Nat) : Int) := by omega
  by_cases b : bg m C tp s c
  · have bad : ¬ okn m nk cp C tp s c → ∃ g', p_M_lookNumbers_J92 K2 K12 (I s) (I c) g f = K12 (I s, I ((c + 1 : Nat) : Int), g', f) ∧ LM (SN m nk cp C tp s (c + 1)) g' ∧ ∀ x, x ≠ 10 → x ≠ 11 → g' x = g x := fun o => by
      unfold p_M_lookNumbers_J92
      obtain ⟨g2, f1, f2, f3⟩ := faults_v (f := f) hl (k := 2) (p := pl m C s c) (by omega) (by omega) (by omega)
      have f1' : p_M_faults (2 : Int32) (I (pl m C s c)) g f = some (g2, f) := f1
      rw [placeM h hs, Option.bind_some, f1', Option.bind_some, l_0]
      have h' : Rm m nk cp C n op tp g2 f := h.fr (fun x hx => f3 x (by omega) (by omega)) ⟨rfl, rfl⟩
      obtain ⟨g3, e1, e2, e3⟩ := num106 h' hs hc (f2.congr (fun k p => by
        constructor
        · intro x
          rcases x with x | ⟨x1, x2⟩
          · exact Or.inl (Or.inl x)
          · exact Or.inl (Or.inr ⟨x1, x2, b, o⟩)
        · intro x
          rcases x with (x | ⟨x1, x2, x3⟩) | ⟨_, _, t', y1, _⟩
          · exact Or.inl x
          · exact Or.inr ⟨x1, x2⟩
          · omega)) K2 K12
      exact ⟨g3, e1, e2.congr (SN_b hc b), fun x a b => by rw [e3 x a b, f3 x a b]⟩
    have good : okn m nk cp C tp s c → ∃ g', itr (fun K z => p_M_lookNumbers_L106 K2 K12 K z.1 z.2.1 z.2.2.1 z.2.2.2.1 z.2.2.2.2) FUEL (I s, I c, I 0, g, f) = K12 (I s, I ((c + 1 : Nat) : Int), g', f) ∧ LM (SN m nk cp C tp s (c + 1)) g' ∧ ∀ x, x ≠ 10 → x ≠ 11 → g' x = g x := fun o => by
      obtain ⟨g3, e1, e2, e3⟩ := num106 h hs hc (hl.congr (fun k p => by
        constructor
        · intro x
          exact Or.inl (Or.inl x)
        · intro x
          rcases x with (x | ⟨x1, x2, x3⟩) | ⟨_, _, t', y1, _⟩
          · exact x
          · exact absurd o x3.2
          · omega)) K2 K12
      exact ⟨g3, e1, e2.congr (SN_b hc b), e3⟩
    obtain ⟨L, l1, l2, l3, l4⟩ := lengthAt_v h hs (show c ≤ C by omega)
    have vb := vl_bd b.1
    have val : (dg m C tp s (c + 1) → ¬ dg m C tp s (c + 2)) → (dg m C tp s (c + 1) → tp (pl m C s c) ≠ 48) → ∃ g', p_M_lookNumbers_J66 K2 K12 (I s) (I c) g f = K12 (I s, I ((c + 1 : Nat) : Int), g', f) ∧ LM (SN m nk cp C tp s (c + 1)) g' ∧ ∀ x, x ≠ 10 → x ≠ 11 → g' x = g x := fun x y => by
      unfold p_M_lookNumbers_J66 p_M_lookNumbers_J67
      rw [if_pos rfl, valueAt_v h hs b.1 x, Option.bind_some, r1, r2, I_add, l_0]
      by_cases q : cp + vl m C tp s c ≤ nk
      · rw [if_pos (by rw [I_le (by omega) (by omega) (by omega) (by omega)]; omega)]
        exact good ⟨q, fun d => ⟨y d, x d⟩⟩
      · rw [if_neg (by rw [I_le (by omega) (by omega) (by omega) (by omega)]; omega)]
        exact bad (fun o => q o.1)
    have bad62 : ¬ okn m nk cp C tp s c → ∃ g', p_M_lookNumbers_J62 K2 K12 (I s) (I c) g f = K12 (I s, I ((c + 1 : Nat) : Int), g', f) ∧ LM (SN m nk cp C tp s (c + 1)) g' ∧ ∀ x, x ≠ 10 → x ≠ 11 → g' x = g x := fun o => by
      unfold p_M_lookNumbers_J62 p_M_lookNumbers_J67
      rw [if_neg (by decide)]
      exact bad o
    unfold p_M_lookNumbers_L12
    rw [r3, if_neg (by rw [I_le (by omega) (by omega) (by omega) (by omega)]; omega), mbeginsN h hs (by omega), Option.bind_some, bI_t b, if_neg n10, l1, Option.bind_some, placeM h hs, Option.bind_some]
    simp (disch := omega) only [l_0, l_1, l_2, l_3, l_4, l_5, l_6, l_7, l_9, l_10, l_20, l_24, l_25, l_31, l_40, l_45, l_48, l_57, l_99, l_123, l_124, l_127, l_2000, l_far, l_999999, I_lt, I_nat, tn_n, gdG, pb.2.1, I_eq]
    by_cases q1 : 2 < L
    · rw [if_pos (by omega)]
      refine bad62 (fun o => ?_)
      have d1 : dg m C tp s (c + 1) := l2 1 (by omega)
      exact (o.2 d1).2 (l2 2 q1)
    · rw [if_neg (by omega)]
      by_cases q2 : L = 2
      · rw [if_pos (by omega)]
        have d1 : dg m C tp s (c + 1) := l2 1 (by omega)
        by_cases z : tp (pl m C s c) = 48
        · rw [if_pos (by omega)]
          exact bad62 (fun o => (o.2 d1).1 z)
        · rw [if_neg (by omega)]
          exact val (fun _ => by rw [q2] at l3; exact l3) (fun _ => z)
      · rw [if_neg (by omega)]
        have hL : L = 1 := by
          rcases Nat.eq_zero_or_pos L with x | x
          · rw [x] at l3; exact absurd b.1 l3
          · omega
        rw [hL] at l3
        exact val (fun d => absurd d l3) (fun d => absurd d l3)
  · unfold p_M_lookNumbers_L12
    rw [r3, if_neg (by rw [I_le (by omega) (by omega) (by omega) (by omega)]; omega), mbeginsN h hs (by omega), Option.bind_some, bI_f b, if_pos z00, l_1, I_add, ec]
    exact ⟨g, rfl, hl.congr (SN_n b), fun _ _ _ => rfl⟩
theorem lookNumbers_v (h : Rm m nk cp C n op tp g f) (h10 : g 10 = I 0) : ∃ g', p_M_lookNumbers g f = some (g', f) ∧ LM (SN m nk cp C tp m 0) g' ∧ ∀ x, x ≠ 10 → x ≠ 11 → g' x = g x := by
  have rb := h.2.2.2.2.1
  unfold p_M_lookNumbers
  rw [l_0]
  refine itr_R (fun s z => ∃ g' : sG, z = (I s, g', f) ∧ LM (SN m nk cp C tp s 0) g' ∧ ∀ x, x ≠ 10 → x ≠ 11 → g' x = g x) m (fun o => ∃ g' : sG, o = some (g', f) ∧ LM (SN m nk cp C tp m 0) g' ∧ ∀ x, x ≠ 10 → x ≠ 11 → g' x = g x) ⟨g, rfl, Or.inl ⟨h10, fun k p ⟨s, c, a, _⟩ => by omega⟩, fun _ _ _ => rfl⟩ (by omega) ?_ ?_
  · intro K s z hs ⟨g', ez, hlm, hg⟩
    subst ez
    left
    have h' : Rm m nk cp C n op tp g' f := h.fr (fun x hx => hg x (by omega) (by omega)) ⟨rfl, rfl⟩
    dsimp only
    unfold p_M_lookNumbers_L2
    rw [h'.2.2.1.1, if_neg (by rw [I_le (by omega) (by omega) (by omega) (by omega)]; omega), l_0]
    refine itr_R (fun c z => ∃ g2 : sG, z = (I s, I c, g2, f) ∧ LM (SN m nk cp C tp s c) g2 ∧ ∀ x, x ≠ 10 → x ≠ 11 → g2 x = g x) C (fun o => ∃ s', o = K s' ∧ ∃ g' : sG, s' = (I ((s + 1 : Nat) : Int), g', f) ∧ LM (SN m nk cp C tp (s + 1) 0) g' ∧ ∀ x, x ≠ 10 → x ≠ 11 → g' x = g x) ⟨g', rfl, hlm, hg⟩ (by omega) ?_ ?_
    · intro K2 c z hc ⟨g2, ez, hlm2, hg2⟩
      subst ez
      left
      have h2 : Rm m nk cp C n op tp g2 f := h.fr (fun x hx => hg2 x (by omega) (by omega)) ⟨rfl, rfl⟩
      obtain ⟨g3, e1, e2, e3⟩ := num12 h2 hs hc hlm2 K K2
      exact ⟨_, e1, g3, rfl, e2, fun x a b => by rw [e3 x a b, hg2 x a b]⟩
    · intro K2 z ⟨g2, ez, hlm2, hg2⟩
      subst ez
      have h2 : Rm m nk cp C n op tp g2 f := h.fr (fun x hx => hg2 x (by omega) (by omega)) ⟨rfl, rfl⟩
      refine ⟨_, ?_, g2, rfl, hlm2.congr SN_l, hg2⟩
      dsimp only
      unfold p_M_lookNumbers_L12
      rw [h2.2.2.1.2.2.2, if_pos (Int32.le_refl _), l_1, I_add]
      rfl
  · intro K z ⟨g', ez, hlm, hg⟩
    subst ez
    have h' : Rm m nk cp C n op tp g' f := h.fr (fun x hx => hg x (by omega) (by omega)) ⟨rfl, rfl⟩
    refine ⟨g', ?_, hlm, hg⟩
    dsimp only
    unfold p_M_lookNumbers_L2
    rw [h'.2.2.1.1, if_pos (Int32.le_refl _)]
end MN
