/-! the RECORD -/
def RTape (g h : Mem) : Prop := (0 ≤ h 0 45 ∧ h 0 45 ≤ 64) ∧ g 44 1 = h 0 45 ∧ (∀ j, j < 64 → g 45 j = h 34 j) ∧ ∀ j, j < 64 → -80 ≤ h 34 j ∧ h 34 j ≤ 80
theorem record_e {g h : Mem} {a : Int} (hR : RTape g h) (ha : -2147483648 ≤ a ∧ a < 2147483648) : ∃ (r r2 : Int) (g1 h1 : Mem), fX11_record a g = some (r, g1) ∧ fX12_record a h = some (r2, h1) ∧ r = r2 ∧ RTape g1 h1 := by
  obtain ⟨h1, h2, h3, h4⟩ := hR
  unfold fX11_record fX12_record
  rw [within_e ha (by omega) (by omega), in_e ha (by omega) (by omega)]
  simp only [bd_s]
  by_cases hc : -80 ≤ a ∧ a ≤ 80
  · simp (disch := omega) only [if_pos hc, wr_id, if_neg, fX8_addNumber, h2]
    by_cases hd : h 0 45 = 64
    · simp (disch := omega) only [if_pos hd, if_neg, bd2_s]
      exact ⟨_, _, _, _, rfl, rfl, rfl, h1, h2, h3, h4⟩
    · simp (disch := omega) only [if_neg hd, if_pos, gd_i, wr_id, bnd_e, bd2_s]
      refine ⟨_, _, _, _, rfl, rfl, ?_, ?_, ?_, ?_, ?_⟩
      · simp [up, h2]
      · simp [up]; omega
      · simp [up, h2]
      · intro j hj; simp [up]; by_cases hq : j = (h 0 45).toNat <;> simp [hq]; exact h3 j hj
      · intro j hj; simp [up]; by_cases hq : j = (h 0 45).toNat <;> simp [hq]; · omega
        · exact h4 j hj
  · simp (disch := omega) only [if_neg hc, wr_id, if_pos]
    exact ⟨_, _, _, _, rfl, rfl, rfl, h1, h2, h3, h4⟩
