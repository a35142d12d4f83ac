/-! at a leaf: the positions at which a way to lay the pitches is a grip -/
def sm (h : Nat → Int) : Nat → Int
  | 0 => 0
  | n + 1 => sm h n + h n
theorem sm_congr {a b : Nat → Int} : ∀ {n : Nat}, (∀ i, i < n → a i = b i) → sm a n = sm b n
  | 0, _ => rfl
  | n + 1, h => by
    show sm a n + a n = sm b n + b n
    rw [sm_congr (fun i hi => h i (by omega)), h n (by omega)]
theorem sm_add (a b : Nat → Int) : ∀ n : Nat, sm (fun i => a i + b i) n = sm a n + sm b n
  | 0 => rfl
  | n + 1 => by
    show sm (fun i => a i + b i) n + (a n + b n) = (sm a n + a n) + (sm b n + b n)
    rw [sm_add a b n]; omega
theorem sm_mul (w : Int) (a : Nat → Int) : ∀ n : Nat, sm (fun i => w * a i) n = w * sm a n
  | 0 => by show (0 : Int) = w * 0; rw [Int.mul_zero]
  | n + 1 => by
    show sm (fun i => w * a i) n + w * a n = w * (sm a n + a n)
    rw [sm_mul w a n, Int.mul_add]
theorem sm_bd {a : Nat → Int} {lo hi : Int} : ∀ {n : Nat}, (∀ i, i < n → lo ≤ a i ∧ a i ≤ hi) → lo * n ≤ sm a n ∧ sm a n ≤ hi * n
  | 0, _ => ⟨by show lo * ((0 : Nat) : Int) ≤ 0; simp, by show (0 : Int) ≤ hi * ((0 : Nat) : Int); simp⟩
  | n + 1, h => by
    have i := sm_bd (n := n) (fun i hi => h i (by omega))
    have j := h n (by omega)
    show lo * ((n + 1 : Nat) : Int) ≤ sm a n + a n ∧ sm a n + a n ≤ hi * ((n + 1 : Nat) : Int)
    have e : ((n + 1 : Nat) : Int) = (n : Int) + 1 := by omega
    rw [e, Int.mul_add, Int.mul_add, Int.mul_one, Int.mul_one]
    omega
def isGr (cp nk k : Nat) (φ : Nat → Int) (p : Nat) : Prop := cp < p ∧ p ≤ nk ∧ ∀ i, i < k → φ i = cp ∨ ((p : Int) ≤ φ i ∧ φ i ≤ (p : Int) + 3)
def bcs (cp : Nat) (wt : Nat → Nat) (φ : Nat → Int) (i : Nat) : Int := if φ i = cp then (wt 3 : Int) else wt 1 * (φ i - cp)
def csf (cp k : Nat) (wt : Nat → Nat) (φ : Nat → Int) (p : Nat) : Int := sm (fun i => if φ i = cp then (wt 3 : Int) else wt 1 * (φ i - cp) + (if φ i = (p : Int) + 3 then (wt 2 : Int) else 0)) k
def rcf (k : Nat) (φ : Nat → Int) (x : Int) : Int := sm (fun i => if φ i = x then 1 else 0) k
theorem csf_e (cp k : Nat) (wt : Nat → Nat) (φ : Nat → Int) (p : Nat) (h : cp < p) : csf cp k wt φ p = sm (bcs cp wt φ) k + wt 2 * rcf k φ ((p : Int) + 3) := by
  unfold csf rcf
  rw [← sm_mul, ← sm_add]
  refine sm_congr (fun i _ => ?_)
  unfold bcs
  by_cases h1 : φ i = cp
  · rw [if_pos h1, if_pos h1, if_neg (by omega), Int.mul_zero, Int.add_zero]
  · rw [if_neg h1, if_neg h1]
    by_cases h2 : φ i = (p : Int) + 3
    · rw [if_pos h2, if_pos h2, Int.mul_one]
    · rw [if_neg h2, if_neg h2, Int.mul_zero]
theorem rcf_bd (k : Nat) (φ : Nat → Int) (x : Int) : 0 ≤ rcf k φ x ∧ rcf k φ x ≤ k := by
  have := sm_bd (a := fun i => if φ i = x then (1 : Int) else 0) (lo := 0) (hi := 1) (n := k) (fun i _ => by split <;> omega)
  unfold rcf
  omega
theorem bcs_bd {cp nk : Nat} {wt : Nat → Nat} {φ : Nat → Int} (hn : nk ≤ 24) (hw : ∀ i, i < 4 → wt i ≤ 20) {k : Nat} (h : ∀ i, i < k → (cp : Int) ≤ φ i ∧ φ i ≤ nk) : 0 ≤ sm (bcs cp wt φ) k ∧ sm (bcs cp wt φ) k ≤ 480 * k := by
  have := sm_bd (a := bcs cp wt φ) (lo := 0) (hi := 480) (n := k) (fun i hi => by
    have a := h i hi
    have w1 := hw 1 (by omega)
    have w3 := hw 3 (by omega)
    unfold bcs
    split
    · omega
    · refine ⟨Int.mul_nonneg (by omega) (by omega), ?_⟩
      have : (wt 1 : Int) * (φ i - cp) ≤ 20 * 24 := Int.mul_le_mul (by omega) (by omega) (by omega) (by omega)
      omega)
  omega
theorem csf_bd {cp nk k : Nat} {wt : Nat → Nat} {φ : Nat → Int} {p : Nat} (hn : nk ≤ 24) (hk : k ≤ 4) (hp : cp < p) (hw : ∀ i, i < 4 → wt i ≤ 20) (h : ∀ i, i < k → (cp : Int) ≤ φ i ∧ φ i ≤ nk) : 0 ≤ csf cp k wt φ p ∧ csf cp k wt φ p ≤ 2000 := by
  rw [csf_e cp k wt φ p hp]
  have a := bcs_bd hn hw h
  have b := rcf_bd k φ ((p : Int) + 3)
  have w2 := hw 2 (by omega)
  have c0 : 0 ≤ (wt 2 : Int) * rcf k φ ((p : Int) + 3) := Int.mul_nonneg (by omega) b.1
  have c1 : (wt 2 : Int) * rcf k φ ((p : Int) + 3) ≤ 20 * 4 := Int.mul_le_mul (by omega) (by omega) b.1 (by omega)
  omega
theorem pitchesAt_v {k : Nat} {φ : Nat → Int} {x : Int} {g : sG} {f : sF} (h5 : g 5 = I k) (hk : k ≤ 4) (hf : ∀ i, i < k → f 16 i = I (φ i)) (hb : ∀ i, i < k → 0 ≤ φ i ∧ φ i ≤ 24) (hx : 0 ≤ x ∧ x ≤ 1000) : p_GF_pitchesAt (I x) g f = some (I (rcf k φ x)) := by
  unfold p_GF_pitchesAt
  refine itr_R (fun i s => s = (I x, I (rcf i φ x), I i)) k (fun o => o = some (I (rcf k φ x))) rfl (by omega) ?_ ?_
  · intro K i s hi hs
    subst hs
    left
    refine ⟨(I x, I (rcf (i + 1) φ x), I ((i : Nat) + 1 : Nat)), ?_, rfl⟩
    dsimp only
    unfold p_GF_pitchesAt_L4
    have b := rcf_bd i φ x
    have b2 := hb i hi
    have e1 : ((i + 1 : Nat) : Int) = (i : Int) + 1 := by omega
    simp (disch := omega) only [l_0, l_1, l_2, l_3, l_4, l_5, l_6, l_7, l_9, l_10, l_20, l_24, l_25, l_31, l_40, l_45, l_48, l_57, l_99, l_123, l_124, l_127, l_2000, l_far, l_999999, h5, lt_, I_le, I_lt, I_eq, I_nat, tn_n, gdG, I_add, hf i hi]
    rw [if_neg (by omega), if_neg (by omega), e1]
    show _ = K (I x, I (rcf i φ x + if φ i = x then 1 else 0), I ((i : Int) + 1))
    by_cases q : φ i = x
    · rw [if_pos q, if_pos q]
    · rw [if_neg q, if_neg q, Int.add_zero]
  · intro K s hs
    subst hs
    dsimp only
    unfold p_GF_pitchesAt_L4
    simp (disch := omega) only [l_0, l_1, l_2, l_3, l_4, l_5, l_6, l_7, l_9, l_10, l_20, l_24, l_25, l_31, l_40, l_45, l_48, l_57, l_99, l_123, l_124, l_127, l_2000, l_far, l_999999, h5, I_le, Int.le_refl, if_true]
def TS (cost : Nat → Nat → Int) (row : Nat → Int) (L : Nat → List Nat) (g : sG) (f : sF) : Prop := ∀ p, p < 25 → TSp (cost p) row (L p) p g f
theorem tell_TS {cost : Nat → Nat → Int} {row : Nat → Int} {L : Nat → List Nat} {p c : Nat} {g : sG} {f : sF} (hp : p < 25) (hT : TS cost row L g f) (hl : (L p).length ≤ 5000) (hc : ∀ c ∈ L p, 0 ≤ cost p c ∧ cost p c ≤ 2000) (h1 : 0 ≤ cost p c ∧ cost p c ≤ 2000) (hr : 0 ≤ row c ∧ row c ≤ 5000) (h6 : -1 ≤ (g 6).toInt ∧ (g 6).toInt ≤ 30) :
    ∃ g' f', p_GF_tell (I p) (I (row c)) (I (cost p c)) g f = some (g', f') ∧ TS cost row (fun q => if q = p then L q ++ [c] else L q) g' f' ∧ Fr g f g' f' := by
  obtain ⟨g', f', e, t, fr, o, w⟩ := tell_v hp (hT p hp) hl hc h1 hr h6
  refine ⟨g', f', e, fun q hq => ?_, fr⟩
  show TSp (cost q) row (if q = p then L q ++ [c] else L q) q g' f'
  by_cases h : q = p
  · subst h
    rw [if_pos rfl]
    exact t
  · rw [if_neg h]
    obtain ⟨t1, t2, t3⟩ := hT q hq
    refine ⟨by rw [o _ _ h]; exact t1, fun z => by rw [o _ _ h, o _ _ h, o _ _ h, o _ _ h]; exact t2 z, fun x hx k6 k7 => ?_⟩
    rw [fr.1 6 (by omega) (by omega)] at k6
    rw [fr.1 7 (by omega) (by omega)] at k7
    rw [w q h hq k6]
    exact t3 x hx k6 k7
theorem tellPositions_v {cp nk k : Nat} {wt : Nat → Nat} {φ : Nat → Int} {cost : Nat → Nat → Int} {row : Nat → Int} {L : Nat → List Nat} {c : Nat} {lo hi : Int} {g : sG} {f : sF}
    (hT : TS cost row L g f) (hl : ∀ p, p < 25 → (L p).length ≤ 4000) (hc : ∀ p, p < 25 → ∀ c ∈ L p, 0 ≤ cost p c ∧ cost p c ≤ 2000) (hr : 0 ≤ row c ∧ row c ≤ 5000) (h6 : -1 ≤ (g 6).toInt ∧ (g 6).toInt ≤ 30)
    (h2 : g 2 = I cp) (h5 : g 5 = I k) (hk : k ≤ 4) (hn : nk ≤ 24) (hcn : cp < nk) (hw : ∀ i, i < 4 → wt i ≤ 20) (hw2 : f 0 2 = I (wt 2)) (hf : ∀ i, i < k → f 16 i = I (φ i)) (hb : ∀ i, i < k → (cp : Int) ≤ φ i ∧ φ i ≤ nk)
    (hco : ∀ p, cp < p → cost p c = csf cp k wt φ p) (hlo : ∀ p : Nat, (p : Int) ≤ lo ↔ p ≤ nk ∧ ∀ i, i < k → φ i = cp ∨ (p : Int) ≤ φ i) (hhi : ∀ x : Int, hi ≤ x ↔ (cp : Int) ≤ x ∧ ∀ i, i < k → φ i = cp ∨ φ i ≤ x) (lb : 0 ≤ lo ∧ lo ≤ 24) (hbd : 0 ≤ hi ∧ hi ≤ 24) :
    ∃ g' f', p_GF_tellPositions (I (row c)) (I lo) (I hi) (I (sm (bcs cp wt φ) k)) g f = some (g', f') ∧ TS cost row (fun p => if cb (isGr cp nk k φ p) = true then L p ++ [c] else L p) g' f' ∧ Fr g f g' f' := by
  have bb := bcs_bd hn hw hb
  have w2 := hw 2 (by omega)
  unfold p_GF_tellPositions
  -- the first position
  obtain ⟨fr, hfr⟩ : ∃ fr : Nat, (if (I (cp : Int) + I 1) < (I hi - I 3) then (I hi - I 3) else (I (cp : Int) + I 1)) = I fr ∧ cp < fr ∧ hi ≤ (fr : Int) + 3 ∧ ∀ p : Nat, cp < p → hi ≤ (p : Int) + 3 → fr ≤ p := by
    simp (disch := omega) only [I_add, I_sub, I_lt]
    by_cases q : (cp : Int) + 1 < hi - 3
    · refine ⟨(hi - 3).toNat, ?_, by omega, by omega, fun p _ _ => by omega⟩
      rw [if_pos q]
      congr 1
      omega
    · refine ⟨cp + 1, ?_, by omega, by omega, fun p _ _ => by omega⟩
      rw [if_neg q]
      rfl
  obtain ⟨e1, f1, f2, f3⟩ := hfr
  have f4 : fr ≤ 30 := f3 30 (by omega) (by omega)
  simp only [l_0, l_1, l_2, l_3, l_4, l_5, l_6, l_7, l_9, l_10, l_20, l_24, l_25, l_31, l_40, l_45, l_48, l_57, l_99, l_123, l_124, l_127, l_2000, l_far, l_999999, h2, lt_]
  rw [e1]
  have key : ∀ p : Nat, isGr cp nk k φ p ↔ fr ≤ p ∧ (p : Int) ≤ lo := by
    intro p
    constructor
    · intro ⟨a, b, d⟩
      refine ⟨f3 p a ((hhi _).mpr ⟨by omega, fun i hi => ?_⟩), (hlo p).mpr ⟨b, fun i hi => ?_⟩⟩
      · rcases d i hi with z | z
        · exact Or.inl z
        · exact Or.inr z.2
      · rcases d i hi with z | z
        · exact Or.inl z
        · exact Or.inr z.1
    · intro ⟨a, b⟩
      obtain ⟨b1, b2⟩ := (hlo p).mp b
      obtain ⟨d1, d2⟩ := (hhi ((p : Int) + 3)).mp (by omega)
      refine ⟨by omega, b1, fun i hi => ?_⟩
      rcases b2 i hi with z | z
      · exact Or.inl z
      · rcases d2 i hi with y | y
        · exact Or.inl y
        · exact Or.inr ⟨z, y⟩
  refine itr_R (fun t s => ∃ g' f', s = (I (row c), I lo, I (sm (bcs cp wt φ) k), I ((fr + t : Nat) : Int), g', f') ∧ TS cost row (fun p => if fr ≤ p ∧ p < fr + t then L p ++ [c] else L p) g' f' ∧ Fr g f g' f') (lo + 1 - fr).toNat (fun o => ∃ g' f', o = some (g', f') ∧ TS cost row (fun p => if cb (isGr cp nk k φ p) = true then L p ++ [c] else L p) g' f' ∧ Fr g f g' f') ?_ (by omega) ?_ ?_
  · refine ⟨g, f, rfl, fun p hp => ?_, Fr.rf⟩
    show TSp (cost p) row (if fr ≤ p ∧ p < fr + 0 then L p ++ [c] else L p) p g f
    rw [if_neg (by omega)]
    exact hT p hp
  · intro K t s ht ⟨g1, f1', es, hT1, F1⟩
    subst es
    left
    have hp25 : fr + t < 25 := by omega
    have q5 : g1 5 = I k := by rw [F1.1 5 (by omega) (by omega)]; exact h5
    have q16 : ∀ i, i < k → f1' 16 i = I (φ i) := fun i hi => by rw [F1.2 16 (by omega)]; exact hf i hi
    have q0 : f1' 0 2 = I (wt 2) := by rw [F1.2 0 (by omega)]; exact hw2
    have rb := rcf_bd k φ (((fr + t : Nat) : Int) + 3)
    have pv := pitchesAt_v (x := ((fr + t : Nat) : Int) + 3) q5 hk q16 (fun i hi => by have := hb i hi; omega) (by omega)
    have hc1 := csf_bd (p := fr + t) hn hk (by omega) hw hb
    have ce := csf_e cp k wt φ (fr + t) (by omega)
    have hco1 := hco (fr + t) (by omega)
    have tT := tell_TS (c := c) (p := fr + t) hp25 hT1 (by rw [if_neg (by omega)]; have := hl (fr + t) hp25; omega) (by rw [if_neg (by omega)]; exact hc (fr + t) hp25) (by rw [hco1]; exact hc1) hr (by rw [F1.1 6 (by omega) (by omega)]; exact h6)
    obtain ⟨g2, f2', et, hT2, F2⟩ := tT
    refine ⟨(I (row c), I lo, I (sm (bcs cp wt φ) k), I ((fr + (t + 1) : Nat) : Int), g2, f2'), ?_, g2, f2', rfl, fun p hp => ?_, F1.tr F2⟩
    · dsimp only
      unfold p_GF_tellPositions_L21
      have e3 : ((fr + t : Nat) : Int) + 1 = ((fr + (t + 1) : Nat) : Int) := by omega
      have e4 : ((2 : Int32).toNatClampNeg) = 2 := by decide
      rw [e4, q0]
      simp (disch := omega) only [l_0, l_1, l_2, l_3, l_4, l_5, l_6, l_7, l_9, l_10, l_20, l_24, l_25, l_31, l_40, l_45, l_48, l_57, l_99, l_123, l_124, l_127, l_2000, l_far, l_999999, I_lt, I_add, pv, Option.bind_some, I_mul, lt_]
      rw [if_neg (by omega), ← ce, ← hco1, et, Option.bind_some, e3]
    · have h := hT2 p hp
      dsimp only at h ⊢
      by_cases q : p = fr + t
      · subst q
        rw [if_pos rfl, if_neg (by omega)] at h
        rw [if_pos (by omega)]
        exact h
      · rw [if_neg q] at h
        by_cases q2 : fr ≤ p ∧ p < fr + t
        · rw [if_pos q2] at h
          rw [if_pos (by omega)]
          exact h
        · rw [if_neg q2] at h
          rw [if_neg (by omega)]
          exact h
  · intro K s ⟨g1, f1', es, hT1, F1⟩
    subst es
    dsimp only
    unfold p_GF_tellPositions_L21
    simp (disch := omega) only [I_lt]
    rw [if_pos (by omega)]
    refine ⟨g1, f1', rfl, fun p hp => ?_, F1⟩
    have h := hT1 p hp
    dsimp only at h ⊢
    by_cases q : isGr cp nk k φ p
    · have := (key p).mp q
      rw [if_pos (by omega)] at h
      rw [if_pos (cb_t.mpr q)]
      exact h
    · have : ¬ (fr ≤ p ∧ (p : Int) ≤ lo) := fun z => q ((key p).mpr z)
      rw [if_neg (by omega)] at h
      rw [if_neg (fun z => q (cb_t.mp z))]
      exact h
