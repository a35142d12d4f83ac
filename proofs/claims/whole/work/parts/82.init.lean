theorem w4_1 : ∀ i : Nat, i < 4 → w4 i = I 1 := by decide
theorem Rel_init : Rel gI fI gJ fJ := by
  refine Rel_mk (m := 0) (nk := 12) (cp := 0) (ev := 0) (tn := 0) (op := fun _ => 0) (wt := fun _ => 1) (sz := fun _ => 0) (pt := fun _ => 0) (tp := fun _ => 0) (bd := fun _ => 0) ?_ ?_ ?_ ?_ rfl rfl rfl
  · exact ⟨⟨by omega, by omega, by omega, by omega, by omega⟩, fun i h => by omega, fun i h => by show 1 ≤ 20; omega, fun e h => by omega, fun e h => by omega⟩
  · exact ⟨⟨rfl, rfl, rfl, rfl⟩, fun i h => by omega, fun i h => w4_1 i h, fun e h => by omega, fun e h => by omega⟩
  · exact ⟨⟨rfl, rfl, rfl, rfl⟩, fun i h => by omega, fun i h => w4_1 i h, fun e h => by omega, fun e h => by omega⟩
  · exact ⟨by omega, rfl, rfl, fun i h => by omega⟩
