section CN
variable {m nk cp n C : Nat} {op tp : Nat → Nat} {g : sG} {f : sF}
/-- the class in front of a tape of m lines -/
def Rc (m nk cp C n : Nat) (op tp : Nat → Nat) (g : sG) (f : sF) : Prop := WF m C n tp ∧ Xc n tp g f ∧ (g 0 = I m ∧ g 1 = I nk ∧ g 2 = I cp ∧ g 13 = I ((C + 3 : Nat) : Int)) ∧ (∀ s, s < m → f 1 s = I (op s)) ∧ (1 ≤ m ∧ m ≤ 7 ∧ nk ≤ 24 ∧ cp < nk ∧ C ≤ 2000) ∧ ∀ s, s < m → op s ≤ 99
theorem Rc.tb (h : Rc m nk cp C n op tp g f) {s k : Nat} (hs : s < m) (hk : k < C + 3) : (m - 1 - s) * (C + 3) + k < n ∧ (m - 1 - s) * (C + 3) + k < 2000 ∧ tp ((m - 1 - s) * (C + 3) + k) ≤ 127 := by
  obtain ⟨⟨w1, w2⟩, ⟨x1, x2, x3⟩, -⟩ := h
  have := line_lt (k := m - 1 - s) (m := m) (W := C + 3) (c := k) (by omega) hk
  exact ⟨by omega, by omega, (x3 _ (by omega)).2⟩
theorem signIn_v (h : Rc m nk cp C n op tp g f) {s k : Nat} (hs : s < m) (hk : k < C + 3) : p_TR_signIn (I s) (I k) g f = some (I (tp ((m - 1 - s) * (C + 3) + k))) := by
  have hb := h.tb hs hk
  obtain ⟨hW, hX, ⟨r0, r1, r2, r3⟩, -⟩ := h
  unfold p_TR_signIn
  rw [placeC r0 r3 hs, Option.bind_some, csign_v hX (by omega), Option.bind_some]
  unfold sgn
  rw [if_pos hb.1]
theorem pl_e {s c : Nat} : (m - 1 - s) * (C + 3) + (c + 1) = pl m C s c := by unfold pl; omega
theorem signP_v (h : Rc m nk cp C n op tp g f) {s c : Nat} (hs : s < m) (hc : c < C + 2) : p_TR_signIn (I s) (I ((c + 1 : Nat) : Int)) g f = some (I (tp (pl m C s c))) := by
  rw [signIn_v h hs (by omega), pl_e]
theorem Rc.pb (h : Rc m nk cp C n op tp g f) {s c : Nat} (hs : s < m) (hc : c < C + 2) : tp (pl m C s c) ≤ 127 ∧ pl m C s c < 2000 := by
  have := h.tb hs (show c + 1 < C + 3 by omega)
  rw [pl_e] at this
  exact ⟨this.2.2, this.2.1⟩
theorem dg_ch (hW : WF m C n tp) {s c : Nat} (hs : s < m) (hc : c < C + 2) : (48 ≤ (tp (pl m C s c) : Int) ∧ (tp (pl m C s c) : Int) ≤ 57) ↔ dg m C tp s c := by
  obtain ⟨w1, w2⟩ := hW
  obtain ⟨a, b, d⟩ := w2 (m - 1 - s) (by omega)
  unfold dg
  constructor
  · intro q
    refine ⟨?_, by omega, by omega⟩
    rcases (show c < C ∨ c = C ∨ c = C + 1 by omega) with x | x | x
    · exact x
    · exfalso
      subst x
      unfold pl at q
      rw [Nat.add_assoc, b] at q
      omega
    · exfalso
      subst x
      unfold pl at q
      rw [show (m - 1 - s) * (C + 3) + 1 + (C + 1) = (m - 1 - s) * (C + 3) + (2 + C) by omega, d] at q
      omega
  · intro q
    omega
theorem digitP_v (h : Rc m nk cp C n op tp g f) {s c : Nat} (hs : s < m) (hc : c < C + 2) : p_TR_isDigit (I (tp (pl m C s c))) g f = some (I (bI (dg m C tp s c))) := by
  have := h.pb hs hc
  rw [isDigit_v (by omega) (by omega), bI_congr (dg_ch h.1 hs hc)]
theorem begins_v (h : Rc m nk cp C n op tp g f) {s c : Nat} (hs : s < m) (hc : c < C + 2) : p_TR_beginsNumber (I s) (I ((c + 1 : Nat) : Int)) g f = some (I (bI (bg m C tp s c))) := by
  unfold p_TR_beginsNumber
  rw [signP_v h hs hc, Option.bind_some, digitP_v h hs hc, Option.bind_some, l_1, I_sub, show ((c + 1 : Nat) : Int) - 1 = (c : Int) by omega]
  by_cases d : dg m C tp s c
  · rw [bI_t d, if_neg n10]
    rcases Nat.eq_zero_or_pos c with z | z
    · subst z
      have h124 := (h.1.2 (m - 1 - s) (by have := h.2.2.2.2.1.1; omega)).1
      rw [signIn_v h hs (by omega), Option.bind_some, Nat.add_zero, h124, isDigit_v (by omega) (by omega), Option.bind_some, bI_f (by omega), if_pos z00, bI_t (show bg m C tp s 0 from ⟨d, fun q => by omega⟩)]
    · obtain ⟨c', rfl⟩ : ∃ c', c = c' + 1 := ⟨c - 1, by omega⟩
      rw [signP_v h hs (by omega), Option.bind_some, digitP_v h hs (by omega), Option.bind_some]
      by_cases d' : dg m C tp s c'
      · rw [bI_t d', if_neg n10, bI_f (show ¬ bg m C tp s (c' + 1) from fun q => q.2 ⟨z, d'⟩)]; rfl
      · rw [bI_f d', if_pos z00, bI_t (show bg m C tp s (c' + 1) from ⟨d, fun q => d' q.2⟩)]
  · rw [bI_f d, if_pos z00, bI_f (show ¬ bg m C tp s c from fun q => d q.1)]; rfl
theorem numberIn_v (h : Rc m nk cp C n op tp g f) {s c : Nat} (hs : s < m) (hd : dg m C tp s c) : p_TR_numberIn (I s) (I ((c + 1 : Nat) : Int)) g f = some (I (vl m C tp s c)) := by
  obtain ⟨a1, a2, a3⟩ := dg_bd hd
  unfold p_TR_numberIn vl
  rw [signP_v h hs (by omega), Option.bind_some, l_48, I_sub, lt_, l_1, I_add, show ((c + 1 : Nat) : Int) + 1 = ((c + 1 + 1 : Nat) : Int) by omega, signP_v h hs (by omega), Option.bind_some, digitP_v h hs (by omega), Option.bind_some, l_10, I_mul, I_add, I_sub]
  by_cases d : dg m C tp s (c + 1)
  · obtain ⟨e1, e2, e3⟩ := dg_bd d
    rw [bI_t d, if_neg n10, if_pos (cb_t.mpr d)]
    congr 2
    omega
  · rw [bI_f d, if_pos z00, if_neg (fun q => d (cb_t.mp q))]
    congr 2
    omega
theorem isFret_v (h : Rc m nk cp C n op tp g f) {s c : Nat} (hs : s < m) (hd : dg m C tp s c) : p_TR_isFretNumber (I s) (I ((c + 1 : Nat) : Int)) g f = some (I (bI (okn m nk cp C tp s c))) := by
  obtain ⟨a1, a2, a3⟩ := dg_bd hd
  have vb := vl_bd hd
  obtain ⟨r0, r1, r2, r3⟩ := h.2.2.1
  have rb := h.2.2.2.2.1
  have ch : tp (pl m C s c) ≤ 127 := (h.pb hs (by omega)).1
  unfold p_TR_isFretNumber
  rw [l_1, l_2, I_add, I_add, show ((c + 1 : Nat) : Int) + 1 = ((c + 1 + 1 : Nat) : Int) by omega, show ((c + 1 : Nat) : Int) + 2 = ((c + 2 + 1 : Nat) : Int) by omega, signP_v h hs (by omega), Option.bind_some, digitP_v h hs (by omega), Option.bind_some, signP_v h hs (by omega), Option.bind_some, signP_v h hs (by omega), Option.bind_some, digitP_v h hs (by omega), Option.bind_some, numberIn_v h hs hd, Option.bind_some, r1, r2, I_add]
  simp (disch := omega) only [l_0, l_1, l_2, l_3, l_4, l_5, l_6, l_7, l_9, l_10, l_20, l_24, l_25, l_31, l_40, l_45, l_48, l_57, l_99, l_123, l_124, l_127, l_2000, l_far, l_999999, I_lt]
  have fin : (if (nk : Int) < (cp : Int) + (vl m C tp s c : Int) then some (I 0) else some (I 1)) = some (I (bI (cp + vl m C tp s c ≤ nk))) := by
    by_cases q : cp + vl m C tp s c ≤ nk
    · rw [if_neg (by omega), bI_t q]
    · rw [if_pos (by omega), bI_f q]
  rw [fin]
  by_cases d : dg m C tp s (c + 1)
  · rw [bI_t d, if_neg (by decide)]
    simp (disch := omega) only [I_eq]
    by_cases z : (tp (pl m C s c) : Int) = 48
    · rw [if_pos z, bI_f (show ¬ okn m nk cp C tp s c from fun q => (q.2 d).1 (by omega))]
    · rw [if_neg z]
      by_cases d2 : dg m C tp s (c + 2)
      · rw [bI_t d2, if_neg (by decide), bI_f (show ¬ okn m nk cp C tp s c from fun q => (q.2 d).2 d2)]
      · rw [bI_f d2, if_pos rfl]
        congr 2
        exact bI_congr ⟨fun q => ⟨q, fun _ => ⟨by omega, d2⟩⟩, fun q => q.1⟩
  · rw [bI_f d, if_pos rfl]
    congr 2
    exact bI_congr ⟨fun q => ⟨q, fun x => absurd x d⟩, fun q => q.1⟩
theorem hasSecond_v (h : Rc m nk cp C n op tp g f) {c : Nat} (hc : c < C + 2) : p_TR_hasSecondDigit (I ((c + 1 : Nat) : Int)) g f = some (I (bI (∃ t, t < m ∧ dg m C tp t c ∧ ¬ bg m C tp t c))) := by
  obtain ⟨r0, r1, r2, r3⟩ := h.2.2.1
  have rb := h.2.2.2.2.1
  unfold p_TR_hasSecondDigit
  rw [l_0]
  refine itr_R (fun t z => z = (I ((c + 1 : Nat) : Int), I t) ∧ ∀ t', t' < t → ¬ (dg m C tp t' c ∧ ¬ bg m C tp t' c)) m (fun o => o = some (I (bI (∃ t, t < m ∧ dg m C tp t c ∧ ¬ bg m C tp t c)))) ⟨rfl, fun t' h => by omega⟩ (by omega) ?_ ?_
  · intro K t z ht ⟨ez, hno⟩
    subst ez
    have et : (t : Int) + 1 = ((t + 1 : Nat) : Int) := by omega
    dsimp only
    unfold p_TR_hasSecondDigit_L2
    rw [r0, if_neg (by rw [I_le (by omega) (by omega) (by omega) (by omega)]; omega), signP_v h ht hc, Option.bind_some, digitP_v h ht hc, Option.bind_some, begins_v h ht hc, Option.bind_some, l_1, I_add, et]
    simp only [lt_]
    have up : ¬ (dg m C tp t c ∧ ¬ bg m C tp t c) → ∀ t', t' < t + 1 → ¬ (dg m C tp t' c ∧ ¬ bg m C tp t' c) := fun q t' h' => by
      by_cases w : t' = t
      · rw [w]; exact q
      · exact hno t' (by omega)
    by_cases d : dg m C tp t c
    · rw [bI_t d, if_neg n10]
      by_cases b : bg m C tp t c
      · left
        rw [bI_t b, if_neg n10]
        exact ⟨_, rfl, rfl, up (fun q => q.2 b)⟩
      · right
        rw [bI_f b, if_pos z00, bI_t ⟨t, ht, d, b⟩]
    · left
      rw [bI_f d, if_pos z00]
      exact ⟨_, rfl, rfl, up (fun q => d q.1)⟩
  · intro K z ⟨ez, hno⟩
    subst ez
    dsimp only
    unfold p_TR_hasSecondDigit_L2
    rw [r0, if_pos (Int32.le_refl _), bI_f (fun ⟨t, a, b⟩ => hno t a b), l_0]
theorem isL_hit {Q : Nat → Nat → Prop} {s c : Nat} (hs : s < m) (hc : c < C) (hq : Q s c) (h1 : ∀ s' c', s < s' → s' < m → c' < C → ¬ Q s' c') (h2 : ∀ c', c' < c → ¬ Q s c') : isL m C Q (pl m C s c) := by
  refine Or.inr ⟨s, c, hs, hc, hq, rfl, fun s' c' a b q => ?_⟩
  rcases Nat.lt_trichotomy s s' with w | w | w
  · exact absurd q (h1 s' c' w a b)
  · subst w
    by_cases z : c' < c
    · exact absurd q (h2 c' z)
    · unfold pl; omega
  · have := pl_s (m := m) (C := C) (s := s') (s' := s) (c := c') (c' := c) w hs (by omega)
    omega
theorem wrongNumber16 (h : Rc m nk cp C n op tp g f) {s c : Nat} (hs : s < m) (hc : c < C + 2) (K10 : (Int32) → Option (Int32)) (K16 : (Int32 × Int32) → Option (Int32)) :
    p_TR_wrongNumber_L16 K10 K16 (I s) (I ((c + 1 : Nat) : Int)) g f = if cb (b2 m nk cp C tp s c) = true then some (I (pl m C s c)) else K16 (I s, I ((c + 1 + 1 : Nat) : Int)) := by
  obtain ⟨r0, r1, r2, r3⟩ := h.2.2.1
  have rb := h.2.2.2.2.1
  unfold p_TR_wrongNumber_L16
  rw [r3, if_neg (by rw [I_le (by omega) (by omega) (by omega) (by omega)]; omega), begins_v h hs hc, Option.bind_some, placeC r0 r3 hs, Option.bind_some, pl_e, l_1, I_add]
  simp only [lt_]
  by_cases b : bg m C tp s c
  · rw [bI_t b, if_neg n10, isFret_v h hs b.1, Option.bind_some]
    by_cases o : okn m nk cp C tp s c
    · rw [bI_t o, if_neg n10, if_neg (fun q => (cb_t.mp q).2 o)]; rfl
    · rw [bI_f o, if_pos z00, if_pos (cb_t.mpr ⟨b, o⟩)]
  · rw [bI_f b, if_pos z00, if_neg (fun q => b (cb_t.mp q).1)]
    rfl
theorem wrongNumber_v (h : Rc m nk cp C n op tp g f) : ∃ r, p_TR_wrongNumber g f = some (I r) ∧ isL m C (b2 m nk cp C tp) r := by
  obtain ⟨r0, r1, r2, r3⟩ := h.2.2.1
  have rb := h.2.2.2.2.1
  unfold p_TR_wrongNumber
  rw [r0, l_1, I_sub, lt_]
  refine itr_R (fun t z => z = I ((m : Int) - 1 - t) ∧ ∀ s' c', m ≤ s' + t → s' < m → c' < C → ¬ b2 m nk cp C tp s' c') m (fun o => ∃ r, o = some (I r) ∧ isL m C (b2 m nk cp C tp) r) ⟨by rw [show ((0 : Nat) : Int) = 0 from rfl, Int.sub_zero], fun s' c' a b => by omega⟩ (by omega) ?_ ?_
  · intro K t z ht ⟨ez, hno⟩
    subst ez
    obtain ⟨s, hs⟩ : ∃ s : Nat, s = m - 1 - t := ⟨_, rfl⟩
    have es : (m : Int) - 1 - t = s := by omega
    rw [es]
    unfold p_TR_wrongNumber_L10
    rw [if_neg (by rw [l_0, I_lt (by omega) (by omega) (by omega) (by omega)]; omega), show (1 : Int32) = I ((0 + 1 : Nat) : Int) from rfl]
    refine itr_R (fun c z => z = (I s, I ((c + 1 : Nat) : Int)) ∧ ∀ c', c' < c → ¬ b2 m nk cp C tp s c') (C + 2) (fun o => (∃ s', o = K s' ∧ s' = I ((m : Int) - 1 - ((t + 1 : Nat) : Int)) ∧ ∀ s' c', m ≤ s' + (t + 1) → s' < m → c' < C → ¬ b2 m nk cp C tp s' c') ∨ ∃ r, o = some (I r) ∧ isL m C (b2 m nk cp C tp) r) ⟨rfl, fun c' h => by omega⟩ (by omega) ?_ ?_
    · intro K2 c z hc ⟨ez, hno2⟩
      subst ez
      dsimp only
      rw [wrongNumber16 h (show s < m by omega) hc]
      by_cases q : b2 m nk cp C tp s c
      · right
        right
        rw [if_pos (cb_t.mpr q)]
        exact ⟨_, rfl, isL_hit (show s < m by omega) q.1.1.1 q (fun s' c' a b d => hno s' c' (by omega) b d) hno2⟩
      · left
        rw [if_neg (fun x => q (cb_t.mp x))]
        refine ⟨_, rfl, rfl, fun c' hc' => ?_⟩
        by_cases w : c' = c
        · rw [w]; exact q
        · exact hno2 c' (by omega)
    · intro K2 z ⟨ez, hno2⟩
      subst ez
      left
      dsimp only
      unfold p_TR_wrongNumber_L16
      rw [r3, if_pos (show I ((C + 3 : Nat) : Int) ≤ I ((C + 2 + 1 : Nat) : Int) from Int32.le_refl _), l_1, I_neg, I_add, lt_]
      refine ⟨_, rfl, by rw [show (s : Int) + -1 = (m : Int) - 1 - ((t + 1 : Nat) : Int) by omega], fun s' c' a b d => ?_⟩
      by_cases w : s' = s
      · rw [w]; exact hno2 c' (by omega)
      · exact hno s' c' (by omega) b d
  · intro K z ⟨ez, hno⟩
    subst ez
    unfold p_TR_wrongNumber_L10
    rw [if_pos (by rw [l_0, I_lt (by omega) (by omega) (by omega) (by omega)]; omega)]
    exact ⟨-1, by rw [l_1, I_neg], Or.inl ⟨rfl, fun s c a b => hno s c (by omega) a b⟩⟩
theorem shiftedNumber16 (h : Rc m nk cp C n op tp g f) {s c : Nat} (hs : s < m) (hc : c < C + 2) (K10 : (Int32) → Option (Int32)) (K16 : (Int32 × Int32) → Option (Int32)) :
    p_TR_shiftedNumber_L16 K10 K16 (I s) (I ((c + 1 : Nat) : Int)) g f = if cb (b3 m C tp s c) = true then some (I (pl m C s c)) else K16 (I s, I ((c + 1 + 1 : Nat) : Int)) := by
  obtain ⟨r0, r1, r2, r3⟩ := h.2.2.1
  have rb := h.2.2.2.2.1
  unfold p_TR_shiftedNumber_L16
  rw [r3, if_neg (by rw [I_le (by omega) (by omega) (by omega) (by omega)]; omega), begins_v h hs hc, Option.bind_some, placeC r0 r3 hs, Option.bind_some, pl_e, l_1, I_add]
  simp only [lt_]
  by_cases b : bg m C tp s c
  · rw [bI_t b, if_neg n10, hasSecond_v h hc, Option.bind_some]
    by_cases o : ∃ t, t < m ∧ dg m C tp t c ∧ ¬ bg m C tp t c
    · rw [bI_t o, if_neg n10, if_pos (cb_t.mpr ⟨b, o⟩)]
    · rw [bI_f o, if_pos z00, if_neg (fun q => o (cb_t.mp q).2)]; rfl
  · rw [bI_f b, if_pos z00, if_neg (fun q => b (cb_t.mp q).1)]
    rfl
theorem shiftedNumber_v (h : Rc m nk cp C n op tp g f) : ∃ r, p_TR_shiftedNumber g f = some (I r) ∧ isL m C (b3 m C tp) r := by
  obtain ⟨r0, r1, r2, r3⟩ := h.2.2.1
  have rb := h.2.2.2.2.1
  unfold p_TR_shiftedNumber
  rw [r0, l_1, I_sub, lt_]
  refine itr_R (fun t z => z = I ((m : Int) - 1 - t) ∧ ∀ s' c', m ≤ s' + t → s' < m → c' < C → ¬ b3 m C tp s' c') m (fun o => ∃ r, o = some (I r) ∧ isL m C (b3 m C tp) r) ⟨by rw [show ((0 : Nat) : Int) = 0 from rfl, Int.sub_zero], fun s' c' a b => by omega⟩ (by omega) ?_ ?_
  · intro K t z ht ⟨ez, hno⟩
    subst ez
    obtain ⟨s, hs⟩ : ∃ s : Nat, s = m - 1 - t := ⟨_, rfl⟩
    have es : (m : Int) - 1 - t = s := by omega
    rw [es]
    unfold p_TR_shiftedNumber_L10
    rw [if_neg (by rw [l_0, I_lt (by omega) (by omega) (by omega) (by omega)]; omega), show (1 : Int32) = I ((0 + 1 : Nat) : Int) from rfl]
    refine itr_R (fun c z => z = (I s, I ((c + 1 : Nat) : Int)) ∧ ∀ c', c' < c → ¬ b3 m C tp s c') (C + 2) (fun o => (∃ s', o = K s' ∧ s' = I ((m : Int) - 1 - ((t + 1 : Nat) : Int)) ∧ ∀ s' c', m ≤ s' + (t + 1) → s' < m → c' < C → ¬ b3 m C tp s' c') ∨ ∃ r, o = some (I r) ∧ isL m C (b3 m C tp) r) ⟨rfl, fun c' h => by omega⟩ (by omega) ?_ ?_
    · intro K2 c z hc ⟨ez, hno2⟩
      subst ez
      dsimp only
      rw [shiftedNumber16 h (show s < m by omega) hc]
      by_cases q : b3 m C tp s c
      · right
        right
        rw [if_pos (cb_t.mpr q)]
        exact ⟨_, rfl, isL_hit (show s < m by omega) q.1.1.1 q (fun s' c' a b d => hno s' c' (by omega) b d) hno2⟩
      · left
        rw [if_neg (fun x => q (cb_t.mp x))]
        refine ⟨_, rfl, rfl, fun c' hc' => ?_⟩
        by_cases w : c' = c
        · rw [w]; exact q
        · exact hno2 c' (by omega)
    · intro K2 z ⟨ez, hno2⟩
      subst ez
      left
      dsimp only
      unfold p_TR_shiftedNumber_L16
      rw [r3, if_pos (show I ((C + 3 : Nat) : Int) ≤ I ((C + 2 + 1 : Nat) : Int) from Int32.le_refl _), l_1, I_neg, I_add, lt_]
      refine ⟨_, rfl, by rw [show (s : Int) + -1 = (m : Int) - 1 - ((t + 1 : Nat) : Int) by omega], fun s' c' a b d => ?_⟩
      by_cases w : s' = s
      · rw [w]; exact hno2 c' (by omega)
      · exact hno s' c' (by omega) b d
  · intro K z ⟨ez, hno⟩
    subst ez
    unfold p_TR_shiftedNumber_L10
    rw [if_pos (by rw [l_0, I_lt (by omega) (by omega) (by omega) (by omega)]; omega)]
    exact ⟨-1, by rw [l_1, I_neg], Or.inl ⟨rfl, fun s c a b => hno s c (by omega) a b⟩⟩
end CN
