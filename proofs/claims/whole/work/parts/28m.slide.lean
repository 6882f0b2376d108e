/-! GOODS that slide -/
theorem slide_step {b lot : Nat} (hb : b + 1 ≠ 8 ∧ b + 1 ≠ 9 ∧ b + 1 ≠ 12) (hlot : lot < 2) {Wn s : Int} {M Z L : Nat → Int} (hW : 0 ≤ Wn ∧ Wn ≤ 12) (hM : ∀ j : Nat, (j : Int) < Wn → (Z j = 0 ∧ 1 ≤ M j ∧ M j ≤ 500) ∨ (Z j = 1 ∧ M j = 0)) (hL : ∀ j, -1 ≤ L j ∧ L j ≤ 80) (hs : -80 ≤ s ∧ s ≤ 80) :
    ∀ (k N N2 i : Nat) (g h : Mem), i + k = Wn.toNat → k < N → k < N2 → g 8 8 = Wn → g 9 = M → g 12 = L → h 0 4 = Wn → h 8 = Z → h 7 = L → h 19 lot = s → (∀ j, j < 12 → g (b + 1) j = h 18 (12 * lot + j)) → PlB h lot →
    ∃ g' h', fX1_slide_L2 (b + 1) N s i g = some g' ∧ fX12_slides_L2 N2 lot i h = some h' ∧ (∀ j, j < 12 → g' (b + 1) j = h' 18 (12 * lot + j)) ∧ PlB h' lot ∧ (∀ a, a ≠ b + 1 → g' a = g a) ∧ (∀ a, a ≠ 18 → h' a = h a) ∧ (∀ j, j < 12 * lot ∨ 12 * lot + 12 ≤ j → h' 18 j = h 18 j) := by
  intro k
  induction k with
  | zero =>
    intro N N2 i g h hi hN hN2 g8 g9 g12 h4 h8 h7 h19 hp hP
    obtain ⟨N, rfl⟩ : ∃ m, N = m + 1 := ⟨N - 1, by omega⟩
    obtain ⟨N2, rfl⟩ : ∃ m, N2 = m + 1 := ⟨N2 - 1, by omega⟩
    rw [fX1_slide_L2, fX12_slides_L2, g8, h4]
    have e1 : wr Wn ≤ wr (i : Int) := by rw [wr_id (by omega) (by omega), wr_id (by omega) (by omega)]; omega
    rw [if_pos e1, if_pos e1]
    exact ⟨g, h, rfl, rfl, hp, hP, fun _ _ => rfl, fun _ _ => rfl, fun _ _ => rfl⟩
  | succ k ih =>
    intro N N2 i g h hi hN hN2 g8 g9 g12 h4 h8 h7 h19 hp hP
    obtain ⟨N, rfl⟩ : ∃ m, N = m + 1 := ⟨N - 1, by omega⟩
    obtain ⟨N2, rfl⟩ : ∃ m, N2 = m + 1 := ⟨N2 - 1, by omega⟩
    have keep := ih N N2 (i + 1) g h (by omega) (by omega) (by omega) g8 g9 g12 h4 h8 h7 h19 hp hP
    have put : ∀ v : Int, -19 ≤ v ∧ v ≤ 19 → ∃ g' h', fX1_slide_L2 (b + 1) N s ((i + 1 : Nat) : Int) (up g (b + 1) i v) = some g' ∧ fX12_slides_L2 N2 lot ((i + 1 : Nat) : Int) (up h 18 (12 * lot + i) v) = some h' ∧ (∀ j, j < 12 → g' (b + 1) j = h' 18 (12 * lot + j)) ∧ PlB h' lot ∧ (∀ a, a ≠ b + 1 → g' a = g a) ∧ (∀ a, a ≠ 18 → h' a = h a) ∧ (∀ j, j < 12 * lot ∨ 12 * lot + 12 ≤ j → h' 18 j = h 18 j) := by
      intro v hv
      obtain ⟨g', h', p1, p2, p3, p4, p5, p6, p7⟩ := ih N N2 (i + 1) (up g (b + 1) i v) (up h 18 (12 * lot + i) v) (by omega) (by omega) (by omega) (by rw [up_ne (by omega)]; exact g8) (by rw [up_ne (by omega)]; exact g9) (by rw [up_ne (by omega)]; exact g12) h4 h8 h7 h19 (fun j hj => by
        rw [up_row, up_row]
        by_cases c : j = i
        · rw [if_pos c, if_pos (by omega)]
        · rw [if_neg c, if_neg (by omega)]; exact hp j hj) (fun j hj => by
        rw [up_row]
        by_cases c : j = i
        · rw [if_pos (by omega)]; exact hv
        · rw [if_neg (by omega)]; exact hP j hj)
      refine ⟨g', h', p1, p2, p3, p4, fun a ha => by rw [p5 a ha, up_ne ha], fun a ha => by rw [p6 a ha, up_ne ha], fun j hj => ?_⟩
      rw [p7 j hj, up_row, if_neg (by omega)]
    have hi12 : i < 12 := by omega
    have m := hM i (by omega)
    have l := hL i
    have p := hp i hi12
    have q := hP i hi12
    have d12 : ∀ k : Option Mem, gd (i : Int) 12 k = k := fun k => gd_i (by omega) (by omega) (by omega)
    have d2 : ∀ k : Option Mem, gd (lot : Int) 2 k = k := fun k => gd_i (by omega) (by omega) (by omega)
    have d24 : ∀ k : Option Mem, gd ((12 * lot + i : Nat) : Int) 24 k = k := fun k => gd_i (by omega) (by omega) (by omega)
    have n1 : ¬ Wn ≤ (i : Int) := by omega
    have n2 : ¬ 12 ≤ (i : Int) := by omega
    have e19 : ∀ v, up h 18 (12 * lot + i) v 19 lot = s := fun _ => h19
    have e7 : ∀ v, up h 18 (12 * lot + i) v 7 = L := fun _ => h7
    have r1 : -2147483648 ≤ ((12 * lot + i : Nat) : Int) ∧ ((12 * lot + i : Nat) : Int) < 2147483648 := by omega
    have r2 : 12 * (lot : Int) + (i : Int) = ((12 * lot + i : Nat) : Int) := by omega
    have ri : IR (i : Int) := by unfold IR; omega
    have rL : IR (L i) := by unfold IR; omega
    have rs : IR s := by unfold IR; omega
    have rM : IR (M i) := by unfold IR; omega
    have rZ : IR (Z i) := by unfold IR; omega
    have rN : IR (-(L i)) := by unfold IR; omega
    have rP : IR (h 18 (12 * lot + i)) := by unfold IR; omega
    have rW : IR Wn := by unfold IR; omega
    have rl : IR (lot : Int) := by unfold IR; omega
    rw [fX1_slide_L2, fX12_slides_L2]
    simp only [g8, g9, g12, h4, h8, h7, h19, wr_id ri.1 ri.2, wr_id rL.1 rL.2, wr_id rs.1 rs.2, wr_id rM.1 rM.2, wr_id rZ.1 rZ.2, wr_id rN.1 rN.2, wr_id rP.1 rP.2, wr_id r1.1 r1.2, r2, wr_id rW.1 rW.2, wr_id rl.1 rl.2, d12, d2, d24, p, bnd_e, jn_e, ncs, Int.toNat_natCast, if_neg n1, if_neg n2, e19, e7]
    clear d12 d2 d24 e19 e7
    rcases m with ⟨z, m1⟩ | ⟨z, m1⟩
    · rw [if_neg (show ¬ M i ≤ 0 by omega), if_pos z]
      by_cases c1 : L i = -1
      · rw [if_pos c1, if_pos c1]; exact keep
      · rw [if_neg c1, if_neg c1]
        by_cases c2 : s ≤ L i
        · rw [if_pos c2, if_pos c2]
          by_cases c3 : -(L i) ≤ s
          · rw [if_pos c3, if_pos c3]; exact keep
          · rw [if_neg c3, if_neg c3]
            by_cases c4 : h 18 (12 * lot + i) ≤ -19
            · rw [if_pos c4, if_pos c4]; exact keep
            · rw [if_neg c4, if_neg c4]; exact put _ (by omega)
        · rw [if_neg c2, if_neg c2]
          by_cases c4 : 19 ≤ h 18 (12 * lot + i)
          · rw [if_pos c4, if_pos c4, if_pos (show -(L i) ≤ s by omega), if_pos (show -(L i) ≤ s by omega)]; exact keep
          · rw [if_neg c4, if_neg c4, if_pos (show -(L i) ≤ s by omega)]; exact put _ (by omega)
    · rw [if_pos (show M i ≤ 0 by omega), if_neg (show ¬ Z i = 0 by omega)]; exact keep
theorem slide_e {b lot : Nat} (hb : (b = 24 ∧ lot = 0) ∨ (b = 28 ∧ lot = 1)) {g h : Mem} (R : RCargo g h) {s : Int} (hs : -80 ≤ s ∧ s ≤ 80) (h19 : h 19 lot = s) (hp : ∀ j, j < 12 → g (b + 1) j = h 18 (12 * lot + j)) (hP : PlB h lot) : ∃ g' h', fX1_slide (b + 1) s g = some g' ∧ fX12_slides lot h = some h' ∧ (∀ j, j < 12 → g' (b + 1) j = h' 18 (12 * lot + j)) ∧ PlB h' lot ∧ (∀ a, a ≠ b + 1 → g' a = g a) ∧ (∀ a, a ≠ 18 → h' a = h a) ∧ (∀ j, j < 12 * lot ∨ 12 * lot + 12 ≤ j → h' 18 j = h 18 j) := by
  obtain ⟨B, r1, r2, r3, r4, r5, r6, r7, r8, r9, r10, r11⟩ := R
  obtain ⟨b1, b2, b3, b4, b5, b6, b7, b8, b9, b10, b11, b12, b13, b14⟩ := B
  obtain ⟨F, hF, hF2⟩ := fuel_g
  have := slide_step (b := b) (lot := lot) (by omega) (by omega) (Wn := h 0 4) (s := s) (M := g 9) (Z := h 8) (L := h 7) b1 (fun j hj => by
    rw [r10 j]; unfold hv1
    rcases b3 j with z | z
    · rw [if_pos z]; exact .inl ⟨z, b12 j hj, (b4 j).2⟩
    · rw [if_neg (by omega)]; exact .inr ⟨z, rfl⟩) b7 hs (h 0 4).toNat F F 0 g h (by omega) (by omega) (by omega) r1 rfl r5 rfl rfl rfl h19 hp hP
  unfold fX1_slide fX12_slides
  rw [hF]
  exact this
