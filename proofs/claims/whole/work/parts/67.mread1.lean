section MR
variable {m nk cp ev n C i : Nat} {op wt sz pt tp : Nat → Nat} {bd : Nat → Int} {g g0 : sG} {f : sF}
/-- where the reference stands in the tape: with a fault's place or without, at a, with c columns -/
def Sr (g0 : sG) (fl : Option Nat) (a c : Nat) (g : sG) : Prop := g 8 = I a ∧ g 9 = I c ∧ (match fl with | none => g 10 = I 0 | some p => g 10 = I 1 ∧ g 11 = I p) ∧ ∀ x, x ≠ 8 → x ≠ 9 → x ≠ 10 → x ≠ 11 → g x = g0 x
theorem look_v (hn : n ≤ 2000) (h5 : g0 5 = I n) (hf : ∀ j, j < n → f 9 j = I (tp j) ∧ tp j ≤ 127) {fl : Option Nat} {a c : Nat} (h : Sr g0 fl a c g) (ha : a < 100000) : p_M_look g f = some (I (sgn n tp a)) := by
  have g5 : g 5 = I n := by rw [h.2.2.2 5 (by omega) (by omega) (by omega) (by omega)]; exact h5
  unfold p_M_look sgn
  rw [g5, h.1]
  by_cases q : a < n
  · rw [if_neg (by rw [I_le (by omega) (by omega) (by omega) (by omega)]; omega), if_pos q]
    simp (disch := omega) only [l_0, l_1, l_2, l_3, l_4, l_5, l_6, l_7, l_9, l_10, l_20, l_24, l_25, l_31, l_40, l_45, l_48, l_57, l_99, l_123, l_124, l_127, l_2000, l_far, l_999999, I_lt, I_nat, tn_n, gdG, (hf a q).1]
  · rw [if_pos (by rw [I_le (by omega) (by omega) (by omega) (by omega)]; omega), if_neg q]
    rfl
theorem wants_v {P : Prop} {a c : Nat} (h : Sr g0 none a c g) : ∃ g', p_M_wants (I (bI P)) g f = some (g', f) ∧ (P → Sr g0 none (a + 1) c g') ∧ (¬ P → Sr g0 (some a) (a + 1) c g') := by
  obtain ⟨h1, h2, h3, h4⟩ := h
  have h3' : g 10 = I 0 := h3
  have ea : (a : Int) + 1 = ((a + 1 : Nat) : Int) := by omega
  unfold p_M_wants p_M_wants_J20
  rw [h3', if_pos z00]
  by_cases p : P
  · rw [bI_t p, if_neg n10, h1, l_1, I_add, lt_, ea]
    exact ⟨_, rfl, fun _ => ⟨upd_s _ _ _, by rw [upd_n _ _ (by omega)]; exact h2, by show upd g 8 _ 10 = I 0; rw [upd_n _ _ (by omega)]; exact h3', fun x a b c d => by rw [upd_n _ _ a]; exact h4 x a b c d⟩, fun q => absurd p q⟩
  · unfold p_M_faults p_M_faults_J31
    rw [bI_f p, if_pos z00, h3', if_pos z00]
    simp only [lt_, Option.bind_some, l_1]
    refine ⟨_, rfl, fun q => absurd q p, fun _ => ⟨?_, ?_, ⟨?_, ?_⟩, fun x a b c d => ?_⟩⟩
    · rw [upd_s, upd_n _ _ (by omega), upd_n _ _ (by omega), h1, I_add, ea]
    · rw [upd_n _ _ (by omega), upd_n _ _ (by omega), upd_n _ _ (by omega)]; exact h2
    · rw [upd_n _ _ (by omega), upd_n _ _ (by omega), upd_s]
    · rw [upd_n _ _ (by omega), upd_s, h1]
    · rw [upd_n _ _ a, upd_n _ _ d, upd_n _ _ c]; exact h4 x a b c d
theorem fail146 {p a c : Nat} (h : Sr g0 (some p) a c g) (K12 : (Int32 × sG × sF) → Option (sG × sF)) (x1 : Int32) : p_M_readLines_J146 K12 x1 g f = K12 (x1 + 1, g, f) := by
  have h10 : g 10 = I 1 := h.2.2.1.1
  unfold p_M_readLines_J146 p_M_readLines_J171
  rw [h10, if_neg n10, if_neg n10]
  rfl
theorem fail12 {p a c : Nat} (h : Sr g0 (some p) a c g) (K12 : (Int32 × sG × sF) → Option (sG × sF)) (x1 : Int32) : p_M_readLines_L12 K12 x1 g f = some (g, f) := by
  have h10 : g 10 = I 1 := h.2.2.1.1
  unfold p_M_readLines_L12 p_M_readLines_J202
  rw [h10, if_neg n10, if_neg n10]
  split <;> rfl
theorem end146 (hn : n ≤ 2000) (h5 : g0 5 = I n) (hf : ∀ j, j < n → f 9 j = I (tp j) ∧ tp j ≤ 127) {a c t : Nat} (h : Sr g0 none a c g) (ha : a < 99000) (K12 : (Int32 × sG × sF) → Option (sG × sF)) :
    ∃ g', p_M_readLines_J146 K12 (I t) g f = K12 (I ((t + 1 : Nat) : Int), g', f) ∧ (sgn n tp a = 124 → sgn n tp (a + 1) = 10 → Sr g0 none (a + 2) c g') ∧ (sgn n tp a ≠ 124 → ∃ a', Sr g0 (some a) a' c g') ∧ (sgn n tp a = 124 → sgn n tp (a + 1) ≠ 10 → ∃ a', Sr g0 (some (a + 1)) a' c g') := by
  have sb := sgn_bd (n := n) (tp := tp) (fun j hj => (hf j hj).2)
  have s0 := sb a
  have s1 := sb (a + 1)
  have et : (t : Int) + 1 = ((t + 1 : Nat) : Int) := by omega
  have h10 : g 10 = I 0 := h.2.2.1
  unfold p_M_readLines_J146 p_M_readLines_J168
  rw [h10, if_pos z00, look_v hn h5 hf h (by omega), Option.bind_some]
  by_cases q : sgn n tp a = 124
  · obtain ⟨g1, w1, w2, w3⟩ := wants_v (f := f) (P := True) h
    have w1' : p_M_wants (1 : Int32) g f = some (g1, f) := by rw [bI_t trivial] at w1; exact w1
    have hs := w2 trivial
    rw [q, if_pos (show I 124 = (124 : Int32) from rfl), w1', Option.bind_some]
    dsimp only
    unfold p_M_readLines_J171 p_M_readLines_J193
    have h10' : g1 10 = I 0 := hs.2.2.1
    rw [h10', if_pos z00, look_v hn h5 hf hs (by omega), Option.bind_some]
    by_cases r : sgn n tp (a + 1) = 10
    · obtain ⟨g2, u1, u2, u3⟩ := wants_v (f := f) (P := True) hs
      have u1' : p_M_wants (1 : Int32) g1 f = some (g2, f) := by rw [bI_t trivial] at u1; exact u1
      rw [r, if_pos (show I 10 = (10 : Int32) from rfl), u1', Option.bind_some, l_1, I_add, lt_, et]
      exact ⟨g2, rfl, fun _ _ => u2 trivial, fun x => absurd rfl x, fun _ x => absurd rfl x⟩
    · obtain ⟨g2, u1, u2, u3⟩ := wants_v (f := f) (P := False) hs
      have u1' : p_M_wants (0 : Int32) g1 f = some (g2, f) := by rw [bI_f (fun x => x)] at u1; exact u1
      rw [if_neg (by rw [l_10, I_eq (by omega) (by omega) (by omega) (by omega)]; exact r), u1', Option.bind_some, l_1, I_add, lt_, et]
      exact ⟨g2, rfl, fun _ x => absurd x r, fun x => absurd rfl x, fun _ _ => ⟨_, u3 (fun x => x)⟩⟩
  · obtain ⟨g1, w1, w2, w3⟩ := wants_v (f := f) (P := False) h
    have w1' : p_M_wants (0 : Int32) g f = some (g1, f) := by rw [bI_f (fun x => x)] at w1; exact w1
    have hs := w3 (fun x => x)
    rw [if_neg (by rw [l_124, I_eq (by omega) (by omega) (by omega) (by omega)]; exact q), w1', Option.bind_some]
    dsimp only
    unfold p_M_readLines_J171
    have h10' : g1 10 = I 1 := hs.2.2.1.1
    rw [h10', if_neg n10, l_1, I_add, lt_, et]
    exact ⟨g1, rfl, fun x => absurd x q, fun _ => ⟨_, hs⟩, fun x => absurd x q⟩
theorem isFigure_v {x : Int} (h1 : -1 ≤ x) (h2 : x ≤ 127) : p_M_isFigure (I x) g f = some (I (bI (48 ≤ x ∧ x ≤ 57))) := by
  unfold p_M_isFigure
  rw [l_48, l_57, within_v (by omega) (by omega) (by omega) (by omega) (by omega) (by omega), Option.bind_some]
  by_cases q : 48 ≤ x ∧ x ≤ 57
  · rw [if_pos q, bI_t q]; rfl
  · rw [if_neg q, bI_f q]; rfl
theorem first49 (hn : n ≤ 2000) (h5 : g0 5 = I n) (hf : ∀ j, j < n → f 9 j = I (tp j) ∧ tp j ≤ 127) (hC : IsC n tp C) (hCn : C ≤ n) {fl : Option Nat} (h : Sr g0 fl 1 0 g) (K12 : (Int32 × sG × sF) → Option (sG × sF)) :
    ∃ g', itr (fun K z => p_M_readLines_L49 K12 K z.1 z.2.1 z.2.2) FUEL (I 0, g, f) = p_M_readLines_J146 K12 (I 0) g' f ∧ Sr g0 fl (1 + C) C g' := by
  have sb := sgn_bd (n := n) (tp := tp) (fun j hj => (hf j hj).2)
  refine itr_R (fun t z => ∃ g' : sG, z = (I 0, g', f) ∧ Sr g0 fl (1 + t) t g') C (fun o => ∃ g' : sG, o = p_M_readLines_J146 K12 (I 0) g' f ∧ Sr g0 fl (1 + C) C g') ⟨g, rfl, h⟩ (by omega) ?_ ?_
  · intro K t z ht ⟨g', ez, hs⟩
    subst ez
    left
    have st := sb (1 + t)
    have body : p_M_readLines_L49 K12 K (I 0) g' f = p_M_readLines_J68 K12 K (I 0) g' f := by
      unfold p_M_readLines_L49
      rw [look_v hn h5 hf hs (by omega), Option.bind_some, Option.bind_some, isFigure_v st.1 st.2, Option.bind_some]
      rcases hC.1 t ht with q | q
      · rw [q, if_pos (show I 45 = (45 : Int32) from rfl)]
      · rw [if_neg (by rw [l_45, I_eq (by omega) (by omega) (by omega) (by omega)]; omega), bI_t q, if_neg n10]
    obtain ⟨h1, h2, h3, h4⟩ := hs
    dsimp only
    rw [body]
    unfold p_M_readLines_J68
    rw [h2, l_1, I_add, lt_, upd_n _ _ (by omega), h1, I_add, lt_]
    refine ⟨_, rfl, _, rfl, ?_, ?_, ?_, fun x a b c d => by rw [upd_n _ _ a, upd_n _ _ b]; exact h4 x a b c d⟩
    · rw [upd_s]; rfl
    · rw [upd_n _ _ (by omega), upd_s]; rfl
    · cases fl with
      | none => show upd _ 8 _ 10 = _; rw [upd_n _ _ (by omega), upd_n _ _ (by omega)]; exact h3
      | some p => exact ⟨by rw [upd_n _ _ (by omega), upd_n _ _ (by omega)]; exact h3.1, by rw [upd_n _ _ (by omega), upd_n _ _ (by omega)]; exact h3.2⟩
  · intro K z ⟨g', ez, hs⟩
    subst ez
    refine ⟨g', ?_, hs⟩
    have st := sb (1 + C)
    have nq := hC.2
    unfold inn at nq
    dsimp only
    unfold p_M_readLines_L49
    rw [look_v hn h5 hf hs (by omega), Option.bind_some, Option.bind_some, isFigure_v st.1 st.2, Option.bind_some, if_neg (by rw [l_45, I_eq (by omega) (by omega) (by omega) (by omega)]; omega), bI_f (by omega), if_pos z00, l_0]
    refine itr_F _ _ 0 _ (fun n hn => ?_) (by omega)
    obtain ⟨n', rfl⟩ : ∃ n', n = n' + 1 := ⟨n - 1, by omega⟩
    rw [itr_s]
    dsimp only
    unfold p_M_readLines_L93
    rw [if_pos (show I 0 ≤ (0 : Int32) from Int32.le_refl _)]
    split <;> rfl
theorem line93 (hn : n ≤ 2000) (h5 : g0 5 = I n) (hf : ∀ j, j < n → f 9 j = I (tp j) ∧ tp j ≤ 127) (hCn : C ≤ n) (hm7 : m ≤ 7) (hI : IsI m n tp C i) {t : Nat} (ht1 : 1 ≤ t) (htm : t < m) (h : Sr g0 none (t * (C + 3) + 1) C g) (hti : t * (C + 3) + 1 ≤ i) (K12 : (Int32 × sG × sF) → Option (sG × sF)) :
    ∃ g', itr (fun K z => p_M_readLines_L93 K12 K z.1 z.2.1 z.2.2.1 z.2.2.2) FUEL (I t, I 0, g, f) = p_M_readLines_J146 K12 (I t) g' f ∧ ((Sr g0 none (t * (C + 3) + 1 + C) C g' ∧ t * (C + 3) + 1 + C ≤ i) ∨ ∃ a, Sr g0 (some i) a C g' ∧ i < m * (C + 3)) := by
  have sb := sgn_bd (n := n) (tp := tp) (fun j hj => (hf j hj).2)
  obtain ⟨i1, i2, i3, i4⟩ := hI
  have hW7 : m * (C + 3) ≤ 7 * (C + 3) := Nat.mul_le_mul_right _ hm7
  have hone : 1 * (C + 3) ≤ t * (C + 3) := Nat.mul_le_mul_right _ ht1
  refine itr_R (fun k z => ∃ g' : sG, z = (I t, I k, g', f) ∧ ((Sr g0 none (t * (C + 3) + 1 + k) C g' ∧ t * (C + 3) + 1 + k ≤ i) ∨ ∃ a, Sr g0 (some i) a C g' ∧ i < m * (C + 3))) C
    (fun o => ∃ g' : sG, o = p_M_readLines_J146 K12 (I t) g' f ∧ ((Sr g0 none (t * (C + 3) + 1 + C) C g' ∧ t * (C + 3) + 1 + C ≤ i) ∨ ∃ a, Sr g0 (some i) a C g' ∧ i < m * (C + 3))) ⟨g, rfl, Or.inl ⟨h, hti⟩⟩ (by omega) ?_ ?_
  · intro K k z hk ⟨g', ez, hz⟩
    subst ez
    have ek : (k : Int) + 1 = ((k + 1 : Nat) : Int) := by omega
    have hlt := line_lt (k := t) (m := m) (W := C + 3) (c := 1 + k) htm (by omega)
    rcases hz with ⟨hs, hle⟩ | ⟨a, hs, hlt2⟩
    · left
      have st := sb (t * (C + 3) + 1 + k)
      have h10 : g' 10 = I 0 := hs.2.2.1
      have emod : (t * (C + 3) + 1 + k) % (C + 3) = 1 + k := by rw [Nat.add_assoc, Nat.mul_comm, Nat.mul_add_mod, Nat.mod_eq_of_lt (by omega)]
      have efit : fitc C ((t * (C + 3) + 1 + k) % (C + 3)) (sgn n tp (t * (C + 3) + 1 + k)) ↔ inn (sgn n tp (t * (C + 3) + 1 + k)) := by
        rw [emod]
        unfold fitc
        rw [if_neg (by omega), if_neg (by omega)]
      obtain ⟨g2, u1, u2, u3⟩ := wants_v (f := f) (P := inn (sgn n tp (t * (C + 3) + 1 + k))) hs
      have body : p_M_readLines_L93 K12 K (I t) (I k) g' f = p_M_readLines_J137 K12 K (I t) (I k) (I (bI (inn (sgn n tp (t * (C + 3) + 1 + k))))) g' f := by
        unfold p_M_readLines_L93 p_M_readLines_J132
        rw [hs.2.1, if_neg (by rw [I_le (by omega) (by omega) (by omega) (by omega)]; omega), if_neg (by rw [l_0, I_le (by omega) (by omega) (by omega) (by omega)]; omega), h10, if_pos z00, look_v hn h5 hf hs (by omega), Option.bind_some, Option.bind_some, isFigure_v st.1 st.2, Option.bind_some]
        by_cases q : sgn n tp (t * (C + 3) + 1 + k) = 45
        · rw [bI_t (show inn (sgn n tp (t * (C + 3) + 1 + k)) from Or.inl q), q, if_pos (show I 45 = (45 : Int32) from rfl)]; rfl
        · rw [if_neg (by rw [l_45, I_eq (by omega) (by omega) (by omega) (by omega)]; omega)]
          by_cases r : 48 ≤ sgn n tp (t * (C + 3) + 1 + k) ∧ sgn n tp (t * (C + 3) + 1 + k) ≤ 57
          · rw [bI_t r, if_neg n10, bI_t (show inn (sgn n tp (t * (C + 3) + 1 + k)) from Or.inr r)]; rfl
          · rw [bI_f r, if_pos z00, bI_f (show ¬ inn (sgn n tp (t * (C + 3) + 1 + k)) from fun x => x.elim q r)]; rfl
      dsimp only
      rw [body]
      unfold p_M_readLines_J137
      rw [u1, Option.bind_some, l_1, I_add, lt_, ek]
      refine ⟨_, rfl, g2, rfl, ?_⟩
      by_cases w : t * (C + 3) + 1 + k = i
      · have nf := i4 (by omega)
        rw [← w] at nf
        have := u3 (fun x => nf (efit.mpr x))
        rw [w] at this
        exact Or.inr ⟨_, this, by omega⟩
      · have ff := i3 (t * (C + 3) + 1 + k) (by omega) (by omega)
        exact Or.inl ⟨u2 (efit.mp ff), by omega⟩
    · right
      refine ⟨g', ?_, Or.inr ⟨a, hs, hlt2⟩⟩
      have h10 : g' 10 = I 1 := hs.2.2.1.1
      dsimp only
      unfold p_M_readLines_L93
      rw [hs.2.1, if_neg (by rw [I_le (by omega) (by omega) (by omega) (by omega)]; omega), if_neg (by rw [l_0, I_le (by omega) (by omega) (by omega) (by omega)]; omega), h10, if_neg n10]
  · intro K z ⟨g', ez, hz⟩
    subst ez
    refine ⟨g', ?_, hz⟩
    have g9 : g' 9 = I C := by
      rcases hz with ⟨hs, _⟩ | ⟨a, hs, _⟩
      · exact hs.2.1
      · exact hs.2.1
    dsimp only
    unfold p_M_readLines_L93
    rw [g9, if_pos (Int32.le_refl _)]
theorem readLines_v (hm : 1 ≤ m) (hm7 : m ≤ 7) (hn : n ≤ 2000) (h0 : g0 0 = I m) (h5 : g0 5 = I n) (h10 : g0 10 = I 0) (hf : ∀ j, j < n → f 9 j = I (tp j) ∧ tp j ≤ 127) (hC : IsC n tp C) (hCn : C ≤ n) (hI : IsI m n tp C i) :
    ∃ g', p_M_readLines g0 f = some (g', f) ∧ ((F1 m n tp C i = -1 ∧ ∃ a, Sr g0 none a C g') ∨ ∃ p a c : Nat, F1 m n tp C i = p ∧ Sr g0 (some p) a c g') := by
  have sb := sgn_bd (n := n) (tp := tp) (fun j hj => (hf j hj).2)
  have hI0 := hI
  obtain ⟨i1, i2, i3, i4⟩ := hI
  have hW7 : m * (C + 3) ≤ 7 * (C + 3) := Nat.mul_le_mul_right _ hm7
  have s0 := sb 0
  unfold p_M_readLines
  rw [l_0, lt_, lt_]
  have hst : Sr g0 none 0 0 (upd (upd g0 8 (I 0)) 9 (I 0)) := ⟨by rw [upd_n _ _ (by omega), upd_s]; rfl, by rw [upd_s]; rfl, by show upd _ 9 _ 10 = I 0; rw [upd_n _ _ (by omega), upd_n _ _ (by omega)]; exact h10, fun x a b _ _ => by rw [upd_n _ _ b, upd_n _ _ a]⟩
  refine itr_R (fun t z => ∃ g' : sG, z = (I t, g', f) ∧ ((t = 0 ∧ Sr g0 none 0 0 g') ∨ (1 ≤ t ∧ Sr g0 none (t * (C + 3)) C g' ∧ sgn n tp 0 = 124 ∧ sgn n tp (1 + C) = 124 ∧ sgn n tp (2 + C) = 10 ∧ t * (C + 3) ≤ i) ∨ (1 ≤ t ∧ ∃ p a c : Nat, F1 m n tp C i = p ∧ Sr g0 (some p) a c g'))) m
    (fun o => ∃ g' : sG, o = some (g', f) ∧ ((F1 m n tp C i = -1 ∧ ∃ a, Sr g0 none a C g') ∨ ∃ p a c : Nat, F1 m n tp C i = p ∧ Sr g0 (some p) a c g')) ⟨_, rfl, Or.inl ⟨rfl, hst⟩⟩ (by omega) ?_ ?_
  · intro K0 t z ht ⟨g', ez, hz⟩
    subst ez
    have et : (t : Int) + 1 = ((t + 1 : Nat) : Int) := by omega
    rcases hz with ⟨rfl, hs⟩ | ⟨ht1, hs, q0, q1, q2, hti⟩ | ⟨ht1, p, a, c, hF, hs⟩
    · left
      have g10 : g' 10 = I 0 := hs.2.2.1
      have g00 : g' 0 = I m := by rw [hs.2.2.2 0 (by omega) (by omega) (by omega) (by omega)]; exact h0
      obtain ⟨g2, u1, u2, u3⟩ := wants_v (f := f) (P := sgn n tp 0 = 124) hs
      have body : p_M_readLines_L12 K0 (I ((0 : Nat) : Int)) g' f = itr (fun K z => p_M_readLines_L49 K0 K z.1 z.2.1 z.2.2) FUEL (I 0, g2, f) := by
        unfold p_M_readLines_L12 p_M_readLines_J42
        rw [g00, if_neg (by rw [I_le (by omega) (by omega) (by omega) (by omega)]; omega), g10, if_pos z00, look_v hn h5 hf hs (by omega), Option.bind_some]
        by_cases q : sgn n tp 0 = 124
        · rw [bI_t q] at u1
          have u1' : p_M_wants (1 : Int32) g' f = some (g2, f) := u1
          rw [q, if_pos (show I 124 = (124 : Int32) from rfl), u1', Option.bind_some, if_pos (show I ((0 : Nat) : Int) = (0 : Int32) from rfl)]
          rfl
        · rw [bI_f q] at u1
          have u1' : p_M_wants (0 : Int32) g' f = some (g2, f) := u1
          rw [if_neg (by rw [l_124, I_eq (by omega) (by omega) (by omega) (by omega)]; exact q), u1', Option.bind_some, if_pos (show I ((0 : Nat) : Int) = (0 : Int32) from rfl)]
          rfl
      dsimp only
      rw [body]
      by_cases q : sgn n tp 0 = 124
      · obtain ⟨g3, v1, v2⟩ := first49 hn h5 hf hC hCn (u2 q) K0
        obtain ⟨g4, w1, w2, w3, w4⟩ := end146 (t := 0) hn h5 hf v2 (by omega) K0
        rw [v1]
        refine ⟨_, w1, g4, rfl, ?_⟩
        by_cases q1 : sgn n tp (1 + C) = 124
        · by_cases q2 : sgn n tp (2 + C) = 10
          · right; left
            refine ⟨by omega, ?_, q, q1, q2, by omega⟩
            have := w2 q1 (by rw [show 1 + C + 1 = 2 + C by omega]; exact q2)
            rw [show 1 + C + 2 = (0 + 1) * (C + 3) by omega] at this
            exact this
          · right; right
            obtain ⟨a', ha⟩ := w4 q1 (by rw [show 1 + C + 1 = 2 + C by omega]; exact q2)
            refine ⟨by omega, _, _, _, ?_, ha⟩
            unfold F1
            rw [if_pos q, if_pos q1, if_neg q2]
            omega
        · right; right
          obtain ⟨a', ha⟩ := w3 q1
          refine ⟨by omega, _, _, _, ?_, ha⟩
          unfold F1
          rw [if_pos q, if_neg q1]
          omega
      · obtain ⟨g3, v1, v2⟩ := first49 hn h5 hf hC hCn (u3 q) K0
        rw [v1, fail146 v2]
        refine ⟨_, rfl, g3, rfl, Or.inr (Or.inr ⟨by omega, _, _, _, ?_, v2⟩)⟩
        unfold F1
        rw [if_neg q]
        rfl
    · left
      have hlt := line_lt (k := t) (m := m) (W := C + 3) (c := 0) ht (by omega)
      have hlt1 := line_lt (k := t) (m := m) (W := C + 3) (c := 1 + C) ht (by omega)
      have hlt2 := line_lt (k := t) (m := m) (W := C + 3) (c := 2 + C) ht (by omega)
      have hone : 1 * (C + 3) ≤ t * (C + 3) := Nat.mul_le_mul_right _ ht1
      have g10 : g' 10 = I 0 := hs.2.2.1
      have g00 : g' 0 = I m := by rw [hs.2.2.2 0 (by omega) (by omega) (by omega) (by omega)]; exact h0
      have FF : i < m * (C + 3) → F1 m n tp C i = i := fun hl => by
        unfold F1
        rw [if_pos q0, if_pos q1, if_pos q2, if_pos hl]
      have st := sb (t * (C + 3))
      have emod : ∀ c, c < C + 3 → (t * (C + 3) + c) % (C + 3) = c := fun c hc => by rw [Nat.mul_comm, Nat.mul_add_mod, Nat.mod_eq_of_lt hc]
      have fit0 : fitc C ((t * (C + 3)) % (C + 3)) (sgn n tp (t * (C + 3))) ↔ sgn n tp (t * (C + 3)) = 124 := by
        have := emod 0 (by omega)
        rw [Nat.add_zero] at this
        rw [this]
        unfold fitc
        rw [if_neg (by omega), if_pos (Or.inl rfl)]
      obtain ⟨g2, u1, u2, u3⟩ := wants_v (f := f) (P := sgn n tp (t * (C + 3)) = 124) hs
      have body : p_M_readLines_L12 K0 (I t) g' f = itr (fun K z => p_M_readLines_L93 K0 K z.1 z.2.1 z.2.2.1 z.2.2.2) FUEL (I t, I 0, g2, f) := by
        unfold p_M_readLines_L12 p_M_readLines_J42
        rw [g00, if_neg (by rw [I_le (by omega) (by omega) (by omega) (by omega)]; omega), g10, if_pos z00, look_v hn h5 hf hs (by omega), Option.bind_some]
        have nt : ¬ I (t : Int) = (0 : Int32) := by rw [l_0, I_eq (by omega) (by omega) (by omega) (by omega)]; omega
        by_cases q : sgn n tp (t * (C + 3)) = 124
        · rw [bI_t q] at u1
          have u1' : p_M_wants (1 : Int32) g' f = some (g2, f) := u1
          rw [q, if_pos (show I 124 = (124 : Int32) from rfl), u1', Option.bind_some, if_neg nt]
          rfl
        · rw [bI_f q] at u1
          have u1' : p_M_wants (0 : Int32) g' f = some (g2, f) := u1
          rw [if_neg (by rw [l_124, I_eq (by omega) (by omega) (by omega) (by omega)]; exact q), u1', Option.bind_some, if_neg nt]
          rfl
      dsimp only
      rw [body]
      by_cases w : t * (C + 3) = i
      · have nf := i4 (by omega)
        rw [← w] at nf
        have hb := u3 (fun x => nf (fit0.mpr x))
        have hb10 : g2 10 = I 1 := hb.2.2.1.1
        have one : itr (fun K z => p_M_readLines_L93 K0 K z.1 z.2.1 z.2.2.1 z.2.2.2) FUEL (I t, I 0, g2, f) = p_M_readLines_J146 K0 (I t) g2 f := by
          refine itr_F _ _ 0 _ (fun n hn => ?_) (by omega)
          obtain ⟨n', rfl⟩ : ∃ n', n = n' + 1 := ⟨n - 1, by omega⟩
          rw [itr_s]
          dsimp only
          unfold p_M_readLines_L93
          rw [hb10, if_neg n10]
          split
          · rfl
          · split <;> rfl
        rw [one, fail146 hb, l_1, I_add, et]
        refine ⟨_, rfl, g2, rfl, Or.inr (Or.inr ⟨by omega, _, _, _, ?_, hb⟩)⟩
        rw [FF (by omega)]
        omega
      · have ff := i3 (t * (C + 3)) (by omega) (by omega)
        obtain ⟨g3, v1, v2⟩ := line93 hn h5 hf hCn hm7 hI0 ht1 ht (u2 (fit0.mp ff)) (by omega) K0
        rw [v1]
        rcases v2 with ⟨v2, v3⟩ | ⟨a, v2, v3⟩
        · obtain ⟨g4, w1, w2, w3, w4⟩ := end146 (t := t) hn h5 hf v2 (by omega) K0
          have ea1 : t * (C + 3) + 1 + C = t * (C + 3) + (1 + C) := by omega
          have ea2 : t * (C + 3) + 1 + C + 1 = t * (C + 3) + (2 + C) := by omega
          have fit1 : fitc C ((t * (C + 3) + 1 + C) % (C + 3)) (sgn n tp (t * (C + 3) + 1 + C)) ↔ sgn n tp (t * (C + 3) + 1 + C) = 124 := by
            rw [ea1, emod (1 + C) (by omega)]
            unfold fitc
            rw [if_neg (by omega), if_pos (Or.inr (by omega))]
          have fit2 : fitc C ((t * (C + 3) + 1 + C + 1) % (C + 3)) (sgn n tp (t * (C + 3) + 1 + C + 1)) ↔ sgn n tp (t * (C + 3) + 1 + C + 1) = 10 := by
            rw [ea2, emod (2 + C) (by omega)]
            unfold fitc
            rw [if_pos (by omega)]
          refine ⟨_, w1, g4, rfl, ?_⟩
          by_cases x1 : t * (C + 3) + 1 + C = i
          · have nf := i4 (by omega)
            rw [← x1] at nf
            obtain ⟨a', ha⟩ := w3 (fun y => nf (fit1.mpr y))
            refine Or.inr (Or.inr ⟨by omega, _, _, _, ?_, ha⟩)
            rw [FF (by omega)]
            omega
          · have f1 := fit1.mp (i3 (t * (C + 3) + 1 + C) (by omega) (by omega))
            by_cases x2 : t * (C + 3) + 1 + C + 1 = i
            · have nf := i4 (by omega)
              rw [← x2] at nf
              obtain ⟨a', ha⟩ := w4 f1 (fun y => nf (fit2.mpr y))
              refine Or.inr (Or.inr ⟨by omega, _, _, _, ?_, ha⟩)
              rw [FF (by omega)]
              omega
            · have f2 := fit2.mp (i3 (t * (C + 3) + 1 + C + 1) (by omega) (by omega))
              have := w2 f1 f2
              have e9 : t * (C + 3) + 1 + C + 2 = (t + 1) * (C + 3) := by rw [Nat.add_mul, Nat.one_mul]; omega
              rw [e9] at this
              exact Or.inr (Or.inl ⟨by omega, this, q0, q1, q2, by omega⟩)
        · rw [fail146 v2, l_1, I_add, et]
          exact ⟨_, rfl, g3, rfl, Or.inr (Or.inr ⟨by omega, _, _, _, FF v3, v2⟩)⟩
    · right
      dsimp only
      rw [fail12 hs]
      exact ⟨g', rfl, Or.inr ⟨p, a, c, hF, hs⟩⟩
  · intro K z ⟨g', ez, hz⟩
    subst ez
    rcases hz with ⟨hm0, _⟩ | ⟨ht1, hs, q0, q1, q2, hti⟩ | ⟨ht1, p, a, c, hF, hs⟩
    · omega
    · have g10 : g' 10 = I 0 := hs.2.2.1
      have g00 : g' 0 = I m := by rw [hs.2.2.2 0 (by omega) (by omega) (by omega) (by omega)]; exact h0
      have g55 : g' 5 = I n := by rw [hs.2.2.2 5 (by omega) (by omega) (by omega) (by omega)]; exact h5
      have ge : m * (C + 3) ≤ n := by
        have e0 : m * (C + 3) = (m - 1) * (C + 3) + (C + 3) := by rw [← Nat.add_one_mul, show m - 1 + 1 = m by omega]
        by_cases m1 : m = 1
        · have := sgn_in (n := n) (tp := tp) (i := 2 + C) (by rw [q2]; omega)
          rw [m1]
          omega
        · have hone : 1 * (C + 3) ≤ (m - 1) * (C + 3) := Nat.mul_le_mul_right _ (by omega)
          have a := i3 ((m - 1) * (C + 3) + (C + 2)) (by omega) (by omega)
          rw [show ((m - 1) * (C + 3) + (C + 2)) % (C + 3) = C + 2 by rw [Nat.mul_comm, Nat.mul_add_mod, Nat.mod_eq_of_lt (by omega)]] at a
          unfold fitc at a
          rw [if_pos rfl] at a
          have b := sgn_in (n := n) (tp := tp) (i := (m - 1) * (C + 3) + (C + 2)) (by rw [a]; omega)
          omega
      obtain ⟨g2, u1, u2, u3⟩ := wants_v (f := f) (P := m * (C + 3) = n) hs
      have FF : F1 m n tp C i = if m * (C + 3) < n then ((m * (C + 3) : Nat) : Int) else -1 := by
        unfold F1
        rw [if_pos q0, if_pos q1, if_pos q2, if_neg (by omega)]
      dsimp only
      unfold p_M_readLines_L12 p_M_readLines_J202 p_M_readLines_J226
      rw [g00, if_pos (Int32.le_refl _), g10, if_pos z00, hs.1, g55]
      by_cases w : m * (C + 3) = n
      · rw [bI_t w] at u1
        have u1' : p_M_wants (1 : Int32) g' f = some (g2, f) := u1
        rw [w, if_pos rfl, u1', Option.bind_some]
        exact ⟨g2, rfl, Or.inl ⟨by rw [FF, if_neg (by omega)], _, u2 w⟩⟩
      · rw [bI_f w] at u1
        have u1' : p_M_wants (0 : Int32) g' f = some (g2, f) := u1
        rw [if_neg (by rw [I_eq (by omega) (by omega) (by omega) (by omega)]; omega), u1', Option.bind_some]
        exact ⟨g2, rfl, Or.inr ⟨_, _, _, by rw [FF, if_pos (by omega)], u3 w⟩⟩
    · dsimp only
      rw [fail12 hs]
      exact ⟨g', rfl, Or.inr ⟨p, a, c, hF, hs⟩⟩
end MR
