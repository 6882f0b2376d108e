theorem S_tried : Sim_tried RR := by
  intro n g h a0 a1 hn R h0 h1
  have keep : RR (n + 1) g h := RR_mono n (n + 1) g h (by omega) R
  unfold IR at h0 h1
  have hS := R.2.2.2.2.2.1.2.2.2
  unfold fX11_tried fX12_tried
  rw [within_e h0 (by omega) (by omega), in_e h0 (by omega) (by omega), within_e h1 (by omega) (by omega), in_e h1 (by omega) (by omega), bd_s, bd_s, bd_s, bd_s]
  by_cases c : 0 ≤ a0 ∧ a0 ≤ 120
  · by_cases d : 0 ≤ a1 ∧ a1 ≤ 2
    · obtain ⟨m, rfl⟩ : ∃ m : Nat, a0 = m := ⟨a0.toNat, by omega⟩
      have d1 : ∀ k : Option (Int × Mem), gd 1 2 k = k := fun k => gd_i (by decide) (by decide) (by decide)
      have w1 : (wr 1).toNat = 1 := by decide
      obtain ⟨g', h', w, e1, e2, e3, e4, e5, e6, e7⟩ := tries_e keep (m := m) (by omega) (out := h 0 25) hS.2
      simp only [if_pos c, if_pos d, if_neg (show ¬ wr 1 = 0 by decide), hS.1, e1, e2, bd_s, bd2_s, d1, w1, wr_id h1.1 h1.2]
      by_cases z0 : a1 = 0
      · rw [if_pos z0, if_pos z0]; exact ⟨_, _, _, _, rfl, rfl, by rw [e3], e7⟩
      · rw [if_neg z0, if_neg z0]
        by_cases z1 : a1 = 1
        · rw [if_pos z1, if_pos z1]; exact ⟨_, _, _, _, rfl, rfl, by rw [e5], e7⟩
        · rw [if_neg z1, if_neg z1]; exact ⟨_, _, _, _, rfl, rfl, by rw [e6], e7⟩
    · simp only [if_pos c, if_neg d, if_neg (show ¬ wr 1 = 0 by decide), if_pos (show wr 0 = 0 by decide)]
      exact ⟨_, _, _, _, rfl, rfl, rfl, keep⟩
  · simp only [if_neg c, if_pos (show wr 0 = 0 by decide)]
    exact ⟨_, _, _, _, rfl, rfl, rfl, keep⟩
theorem still_loop {n m : Nat} (hm : m ≤ 120) : ∀ (k N N2 i : Nat) (y2 y3 : Int) (g h : Mem), i + k = 10 → k < N → k < N2 → (0 ≤ y3 ∧ y3 ≤ 81) → RR n g h → ∃ (g' h' : Mem) (r : Int), fX11_still_L24 N m y2 y3 i g = some (r, g') ∧ fX12_still_L20 N2 m y2 y3 i h = some (r, h') ∧ RR n g' h' := by
  intro k
  induction k with
  | zero =>
    intro N N2 i y2 y3 g h hi hN hN2 hy R
    obtain ⟨N, rfl⟩ : ∃ x, N = x + 1 := ⟨N - 1, by omega⟩
    obtain ⟨N2, rfl⟩ : ∃ x, N2 = x + 1 := ⟨N2 - 1, by omega⟩
    have wa : 9 < wr (i : Int) := by rw [wr_id (by omega) (by omega)]; omega
    have wb : 10 ≤ wr (i : Int) := by rw [wr_id (by omega) (by omega)]; omega
    rw [fX11_still_L24, fX12_still_L20, if_pos wa, if_pos wb]
    exact ⟨g, h, y2, rfl, rfl, R⟩
  | succ k ih =>
    intro N N2 i y2 y3 g h hi hN hN2 hy R
    obtain ⟨N, rfl⟩ : ∃ x, N = x + 1 := ⟨N - 1, by omega⟩
    obtain ⟨N2, rfl⟩ : ∃ x, N2 = x + 1 := ⟨N2 - 1, by omega⟩
    obtain ⟨g', h', w, e1, e2, e3, e4, e5, e6, e7⟩ := tries_e R (m := m) hm (out := (i : Int)) (by omega)
    have wa : ¬ 9 < wr (i : Int) := by rw [wr_id (by omega) (by omega)]; omega
    have wb : ¬ 10 ≤ wr (i : Int) := by rw [wr_id (by omega) (by omega)]; omega
    have r3 : IR y3 := by unfold IR; omega
    have rw_ : IR w := by unfold IR; omega
    rw [fX11_still_L24, fX12_still_L20, if_neg wa, if_neg wb, e1, e2, bd2_s, bd_s, e3, jn_e, jn_e, wr_id r3.1 r3.2, wr_id rw_.1 rw_.2]
    clear wa wb
    by_cases c : y3 ≤ w
    · rw [if_pos c, if_neg (by omega)]
      exact ih N N2 (i + 1) y2 y3 g' h' (by omega) (by omega) (by omega) hy e7
    · rw [if_neg c, if_pos (by omega)]
      exact ih N N2 (i + 1) (i : Int) w g' h' (by omega) (by omega) (by omega) (by omega) e7
theorem S_still : Sim_still RR := by
  intro n g h a0 hn R h0
  have keep : RR (n + 1) g h := RR_mono n (n + 1) g h (by omega) R
  unfold IR at h0
  unfold fX11_still fX12_still
  rw [within_e h0 (by omega) (by omega), in_e h0 (by omega) (by omega), bd_s, bd_s]
  by_cases c : 0 ≤ a0 ∧ a0 ≤ 120
  · obtain ⟨m, rfl⟩ : ∃ m : Nat, a0 = m := ⟨a0.toNat, by omega⟩
    obtain ⟨F, hF, hF2⟩ := fuel_g
    simp only [if_pos c, if_neg (show ¬ wr 1 = 0 by decide)]
    obtain ⟨g', h', w, e1, e2, e3, e4, e5, e6, e7⟩ := tries_e keep (m := m) (by omega) (out := 0) (by omega)
    obtain ⟨F, rfl⟩ : ∃ x, F = x + 1 := ⟨F - 1, by omega⟩
    obtain ⟨g2, h2, r, f1, f2, f3⟩ := still_loop (m := m) (by omega) 9 (F + 1) F 1 0 w g' h' (by omega) (by omega) (by omega) (by omega) e7
    have rw_ : IR w := by unfold IR; omega
    have i81 : IR 81 := by unfold IR; omega
    rw [hF, e1, bd2_s, fX12_still_L20, if_neg (show ¬ 10 ≤ wr 0 by decide), e2, bd_s, e3, jn_e, wr_id rw_.1 rw_.2, wr_id i81.1 i81.2, if_pos (show w < 81 by omega)]
    refine ⟨r, r, g2, h2, f1, ?_, rfl, f3⟩
    exact f2
  · simp only [if_neg c, if_pos (show wr 0 = 0 by decide)]
    exact ⟨_, _, _, _, rfl, rfl, rfl, keep⟩
