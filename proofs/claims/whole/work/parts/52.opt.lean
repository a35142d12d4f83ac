section OP
variable {lo n ev : Nat} {D : Nat → Nat → tv} {mv : Nat → Nat → Int}
def onp (lo n ev : Nat) (D : Nat → Nat → tv) (mv : Nat → Nat → Int) (t : Int) (e p : Nat) : Prop := ∃ f r, Ft lo n D mv e p = some f ∧ Rt lo n ev D mv (e + 1) p = some r ∧ f.1 + r.1 = t
def goes (lo n : Nat) (D : Nat → Nat → tv) (mv : Nat → Nat → Int) (e p q : Nat) : Prop := ∃ f f' d, Ft lo n D mv e p = some f ∧ Ft lo n D mv (e + 1) q = some f' ∧ D (e + 1) q = some d ∧ f.1 + mv p q + d.1 = f'.1
theorem opt_le {t : Int × Nat} (hT : Tt lo n ev D mv = some t) {e p : Nat} (he : e < ev) (h1 : lo ≤ p) (h2 : p < lo + n) {f r : Int × Nat} (hf : Ft lo n D mv e p = some f) (hr : Rt lo n ev D mv (e + 1) p = some r) : t.1 ≤ f.1 + r.1 := by
  rw [← tel he] at hT
  have := (tS_spec.2 t hT).1 p (f.1 + r.1, f.2 * r.2) h1 h2 (by rw [hf, hr]; rfl)
  exact this
/-- a step forward costs no less than what stands there -/
theorem Ft_le {e p q : Nat} (h1 : lo ≤ p) (h2 : p < lo + n) {f d : Int × Nat} (hf : Ft lo n D mv e p = some f) (hd : D (e + 1) q = some d) : ∃ f', Ft lo n D mv (e + 1) q = some f' ∧ f'.1 ≤ f.1 + mv p q + d.1 := by
  have e1 : Ft lo n D mv (e + 1) q = tmul (D (e + 1) q) (tS lo (fun q' => tmul (some (mv q' q, 1)) (Ft lo n D mv e q')) n) := rfl
  rw [e1, hd]
  cases hs : tS lo (fun q' => tmul (some (mv q' q, 1)) (Ft lo n D mv e q')) n with
  | none =>
    have := tS_spec.1 hs p h1 h2
    rw [hf] at this
    cases this
  | some a =>
    have := (tS_spec.2 a hs).1 p (mv p q + f.1, 1 * f.2) h1 h2 (by rw [hf]; rfl)
    have h3 : a.1 ≤ mv p q + f.1 := this
    exact ⟨_, rfl, by show d.1 + a.1 ≤ _; omega⟩
/-- what lies on a least plan goes on to what lies on one -/
theorem on_step {t : Int × Nat} (hT : Tt lo n ev D mv = some t) {e p : Nat} (he : e + 1 < ev) (h1 : lo ≤ p) (h2 : p < lo + n) : onp lo n ev D mv t.1 e p ↔ ∃ q, lo ≤ q ∧ q < lo + n ∧ onp lo n ev D mv t.1 (e + 1) q ∧ goes lo n D mv e p q := by
  constructor
  · intro ⟨f, r, hf, hr, hs⟩
    have hr' := hr
    rw [Rt_e he] at hr'
    obtain ⟨q, k, q1, q2, hq⟩ := (tS_spec.2 r hr').2
    cases hb : Bt lo n ev D mv (e + 1) q with
    | none => rw [hb] at hq; cases hq
    | some b =>
      rw [hb] at hq
      have hqe : mv p q + b.1 = r.1 := congrArg Prod.fst (Option.some.inj hq)
      unfold Bt at hb
      cases hd : D (e + 1) q with
      | none => rw [hd] at hb; cases hb
      | some d =>
        cases hr2 : Rt lo n ev D mv (e + 1 + 1) q with
        | none => rw [hd, hr2] at hb; cases hb
        | some r2 =>
          rw [hd, hr2] at hb
          have hbe : d.1 + r2.1 = b.1 := by cases hb; rfl
          obtain ⟨f', hf', hle⟩ := Ft_le h1 h2 hf hd
          have hge := opt_le hT he q1 q2 hf' hr2
          exact ⟨q, q1, q2, ⟨f', r2, hf', hr2, by omega⟩, f, f', d, hf, hf', hd, by omega⟩
  · intro ⟨q, q1, q2, ⟨f', r2, hf', hr2, hs⟩, f, f'', d, hf, hf'', hd, hg⟩
    rw [hf'] at hf''
    cases hf''
    cases hr : Rt lo n ev D mv (e + 1) p with
    | none =>
      have hr' := hr
      rw [Rt_e he] at hr'
      have := tS_spec.1 hr' q q1 q2
      unfold Bt at this
      rw [hd, hr2] at this
      cases this
    | some r =>
      have hr' := hr
      rw [Rt_e he] at hr'
      have := (tS_spec.2 r hr').1 q (mv p q + (d.1 + r2.1), 1 * (d.2 * r2.2)) q1 q2 (by unfold Bt; rw [hd, hr2]; rfl)
      have h3 : r.1 ≤ mv p q + (d.1 + r2.1) := this
      have hge := opt_le hT (e := e) (by omega) h1 h2 hf hr
      exact ⟨f, r, hf, hr, by omega⟩
theorem on_last {t : Int × Nat} (hv : 0 < ev) {p : Nat} : onp lo n ev D mv t.1 (ev - 1) p ↔ ∃ k, Ft lo n D mv (ev - 1) p = some (t.1, k) := by
  unfold onp
  rw [show ev - 1 + 1 = ev by omega, Rt_end]
  constructor
  · intro ⟨f, r, hf, hr, hs⟩
    cases hr
    refine ⟨f.2, ?_⟩
    rw [hf]
    have : f.1 = t.1 := by rw [← hs]; exact (Int.add_zero _).symm
    rw [← this]
  · intro ⟨k, hk⟩
    exact ⟨_, _, hk, rfl, Int.add_zero _⟩
theorem on_first {t : Int × Nat} {p : Nat} : onp lo n ev D mv t.1 0 p ↔ ∃ k, Bt lo n ev D mv 0 p = some (t.1, k) := by
  unfold onp Bt
  show (∃ f r, D 0 p = some f ∧ Rt lo n ev D mv 1 p = some r ∧ f.1 + r.1 = t.1) ↔ ∃ k, tmul (D 0 p) (Rt lo n ev D mv 1 p) = some (t.1, k)
  constructor
  · intro ⟨f, r, hf, hr, hs⟩
    rw [hf, hr]
    exact ⟨f.2 * r.2, by show some (f.1 + r.1, f.2 * r.2) = _; rw [hs]⟩
  · intro ⟨k, hk⟩
    cases hd : D 0 p with
    | none => rw [hd] at hk; cases hk
    | some d =>
      cases hr : Rt lo n ev D mv 1 p with
      | none => rw [hd, hr] at hk; cases hk
      | some r =>
        rw [hd, hr] at hk
        exact ⟨d, r, rfl, rfl, congrArg Prod.fst (Option.some.inj hk)⟩
/-- behind b, which lies on a least plan: what the reference takes is what the class takes -/
theorem choice {t : Int × Nat} (hT : Tt lo n ev D mv = some t) {e b : Nat} (he : e + 1 < ev) (b1 : lo ≤ b) (b2 : b < lo + n) {f0 r0 : Int × Nat} (hf0 : Ft lo n D mv e b = some f0) (hr0 : Rt lo n ev D mv (e + 1) b = some r0) (hs0 : f0.1 + r0.1 = t.1) {p : Nat} (h1 : lo ≤ p) (h2 : p < lo + n) :
    (onp lo n ev D mv t.1 (e + 1) p ∧ goes lo n D mv e b p) ↔ ∃ x, Bt lo n ev D mv (e + 1) p = some x ∧ mv b p + x.1 = r0.1 := by
  constructor
  · intro ⟨⟨f', r2, hf', hr2, hs⟩, f, f'', d, hf, hf'', hd, hg⟩
    rw [hf0] at hf
    cases hf
    rw [hf'] at hf''
    cases hf''
    refine ⟨(d.1 + r2.1, d.2 * r2.2), by unfold Bt; rw [hd, hr2]; rfl, ?_⟩
    show mv b p + (d.1 + r2.1) = r0.1
    omega
  · intro ⟨x, hx, hxe⟩
    unfold Bt at hx
    cases hd : D (e + 1) p with
    | none => rw [hd] at hx; cases hx
    | some d =>
      cases hr2 : Rt lo n ev D mv (e + 1 + 1) p with
      | none => rw [hd, hr2] at hx; cases hx
      | some r2 =>
        rw [hd, hr2] at hx
        have hxb : d.1 + r2.1 = x.1 := by cases hx; rfl
        obtain ⟨f', hf', hle⟩ := Ft_le b1 b2 hf0 hd
        have hge := opt_le hT he h1 h2 hf' hr2
        exact ⟨⟨f', r2, hf', hr2, by omega⟩, f0, f', d, hf0, hf', hd, by omega⟩
end OP
