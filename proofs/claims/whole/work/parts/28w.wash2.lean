/-! the wash of a body, and what keeps a body -/
theorem RBody_fr {b lot : Nat} {T : Int} {g h g' h' : Mem} (R : RBody b lot T g h) (e : ∀ c, (c = 4 ∨ c = 5 ∨ c = 7 ∨ c = 8 ∨ c = 9 ∨ c = 10) → g' b c = g b c) (e1 : g' (b + 1) = g (b + 1)) (f15 : h' 0 15 = h 0 15) (f18 : h' 18 = h 18) (f19 : h' 19 lot = h 19 lot) (f20 : h' 20 lot = h 20 lot) (f21 : h' 21 lot = h 21 lot) (f22 : h' 22 lot = h 22 lot) (f23 : h' 23 lot = h 23 lot) (f24 : h' 24 = h 24) : RBody b lot T g' h' := by
  unfold RBody PlB WT
  rw [e 4 (by omega), e 5 (by omega), e 7 (by omega), e 8 (by omega), e 9 (by omega), e 10 (by omega), e1, f15, f18, f19, f20, f21, f22, f23, f24]
  exact R
theorem WT_sm (h : Mem) (lot : Nat) : WT h lot = sm (fun m => tw m * h 24 (6 * lot + m)) 0 6 := by
  rw [sm6]
  have t0 : tw 0 = 1 := rfl
  have t1 : tw 1 = 2 := rfl
  have t2 : tw 2 = 4 := rfl
  have t3 : tw 3 = 8 := rfl
  have t4 : tw 4 = 16 := rfl
  have t5 : tw 5 = 32 := rfl
  rw [t0, t1, t2, t3, t4, t5, show 6 * lot + 0 = 6 * lot from rfl]
  unfold WT; omega
theorem WT_bits {h : Mem} {lot : Nat} (hw : ∀ m, m < 6 → h 24 (6 * lot + m) = 0 ∨ h 24 (6 * lot + m) = 1) : ∃ w0 : Nat, WT h lot = (w0 : Int) ∧ w0 < 64 ∧ ∀ m, m < 6 → h 24 (6 * lot + m) = ((w0 / 2 ^ m % 2 : Nat) : Int) := by
  have a0 := hw 0 (by omega)
  have a1 := hw 1 (by omega)
  have a2 := hw 2 (by omega)
  have a3 := hw 3 (by omega)
  have a4 := hw 4 (by omega)
  have a5 := hw 5 (by omega)
  rw [show 6 * lot + 0 = 6 * lot from rfl] at a0
  refine ⟨(WT h lot).toNat, ?_, ?_, ?_⟩
  · unfold WT; omega
  · unfold WT; omega
  · intro m hm
    unfold WT
    match m, hm with
    | 0, _ => rw [show 6 * lot + 0 = 6 * lot from rfl, show 2 ^ 0 = 1 from rfl]; omega
    | 1, _ => rw [show 2 ^ 1 = 2 from rfl]; omega
    | 2, _ => rw [show 2 ^ 2 = 4 from rfl]; omega
    | 3, _ => rw [show 2 ^ 3 = 8 from rfl]; omega
    | 4, _ => rw [show 2 ^ 4 = 16 from rfl]; omega
    | 5, _ => rw [show 2 ^ 5 = 32 from rfl]; omega
theorem wash_e {b lot : Nat} (hb : (b = 24 ∧ lot = 0) ∨ (b = 28 ∧ lot = 1)) {T lv : Int} {g h : Mem} (hM : RMarks g h) (RB : RBody b lot T g h) (hl : -2000 ≤ lv ∧ lv ≤ 4000) : ∃ g' h', fX0_wash b lv g = some g' ∧ fX12_goesOn_L363 fuel lot lv 0 h = some (1, h') ∧ RBody b lot T g' h' ∧ (∀ a, a ≠ b → a ≠ b + 2 → g' a = g a) ∧ (∀ c, c ≠ 9 → g' b c = g b c) ∧ (∀ a, a ≠ 24 → a ≠ 25 → h' a = h a) ∧ (∀ j, j < 6 * lot ∨ 6 * lot + 6 ≤ j → h' 24 j = h 24 j ∧ h' 25 j = h 25 j) ∧ ((∀ j, j < 6 → g (b + 2) j = h 25 (6 * lot + j)) → ∀ j, j < 6 → g' (b + 2) j = h' 25 (6 * lot + j)) := by
  obtain ⟨q1, q2, q3, q4, q5, q6, q7, q8, q9, q10, q11, q12, q13, q14⟩ := id RB
  obtain ⟨m1, m2, m3, m4, m5, m6⟩ := id hM
  obtain ⟨w0, hw1, hw2, hw3⟩ := WT_bits q12
  obtain ⟨F, hF, hF2⟩ := fuel_g
  obtain ⟨g', h', p1, p2, p3, p4, p5, p6, p7⟩ := wash_step hb m1 q1 hl m5 m6 hw2 (fun (z_15 : Int) (g_16 : Mem) => some (up g_16 b 9 z_15)) (h 0 15).toNat F F 0 0 g h (by omega) (by omega) (by omega) (by omega) (by decide) m2 m3 m4 q2 (by rw [q14, hw1]) rfl rfl rfl rfl (fun m _ hm => hw3 m hm)
  have nb01 : ∀ m, nb (h 19 lot) lv (h 13) (h 14) m = 0 ∨ nb (h 19 lot) lv (h 13) (h 14) m = 1 := fun m => by unfold nb; split <;> simp
  have beyond : ∀ m : Nat, m < 6 → h 0 15 ≤ (m : Int) → h' 24 (6 * lot + m) = 0 := fun m hm hm2 => by
    rw [(p4 (6 * lot + m) (fun m' z1 z2 => by omega)).1]; exact q13 m hm hm2
  have eW : WT h' lot = 0 + sm (fun m => tw m * nb (h 19 lot) lv (h 13) (h 14) m) 0 (h 0 15).toNat := by
    rw [WT_sm]
    have := sm_split (fun m => tw m * h' 24 (6 * lot + m)) 0 (h 0 15).toNat (6 - (h 0 15).toNat)
    rw [show (h 0 15).toNat + (6 - (h 0 15).toNat) = 6 by omega] at this
    rw [this, sm_congr (f := fun m => tw m * h' 24 (6 * lot + m)) (f' := fun _ => 0) (i := 0 + (h 0 15).toNat) (k := 6 - (h 0 15).toNat) (fun j h1 h2 => by
      show tw j * h' 24 (6 * lot + j) = 0
      rw [beyond j (by omega) (by omega), Int.mul_zero]), sm_zero]
    rw [sm_congr (f := fun m => tw m * h' 24 (6 * lot + m)) (f' := fun m => tw m * nb (h 19 lot) lv (h 13) (h 14) m) (i := 0) (k := (h 0 15).toNat) (fun j h1 h2 => by
      show tw j * h' 24 (6 * lot + j) = _
      rw [p3 j (by omega) (by omega)])]
    omega
  have nbb : b ≠ b + 2 ∧ b + 1 ≠ b + 2 ∧ b + 1 ≠ b ∧ b + 2 ≠ b := by omega
  refine ⟨up g' b 9 (0 + sm (fun m => tw m * nb (h 19 lot) lv (h 13) (h 14) m) 0 (h 0 15).toNat), h', ?_, ?_, ?_, ?_, ?_, p7, ?_, ?_⟩
  · unfold fX0_wash
    simp only [bnd_e, hF]
    exact p1
  · rw [hF]; exact p2
  · refine ⟨?_, ?_, ?_, ?_, ?_, ?_, ?_, ?_, ?_, ?_, ?_, ?_, ?_, ?_⟩
    · rw [p7 19 (by omega) (by omega)]; exact q1
    · rw [p7 19 (by omega) (by omega), up_row, if_neg (by omega), p6 b nbb.1]; exact q2
    · rw [p7 20 (by omega) (by omega)]; exact q3
    · rw [p7 20 (by omega) (by omega), up_row, if_neg (by omega), p6 b nbb.1]; exact q4
    · rw [p7 21 (by omega) (by omega)]; exact q5
    · rw [p7 21 (by omega) (by omega), up_row, if_neg (by omega), p6 b nbb.1]; exact q6
    · rw [p7 22 (by omega) (by omega), up_row, if_neg (by omega), p6 b nbb.1]; exact q7
    · rw [p7 23 (by omega) (by omega)]; exact q8
    · rw [p7 23 (by omega) (by omega), up_row, if_neg (by omega), p6 b nbb.1]; exact q9
    · rw [p7 18 (by omega) (by omega), up_ne nbb.2.2.1, p6 (b + 1) nbb.2.1]; exact q10
    · unfold PlB; rw [p7 18 (by omega) (by omega)]; exact q11
    · intro m hm
      by_cases z : (m : Int) < h 0 15
      · rw [p3 m (by omega) z]; exact nb01 m
      · exact .inl (beyond m hm (by omega))
    · rw [p7 0 (by omega) (by omega)]; exact beyond
    · rw [up_row, if_pos rfl, eW]
  · intro a z1 z2
    rw [up_ne z1, p6 a z2]
  · intro c hc
    rw [up_row, if_neg hc, p6 b nbb.1]
  · intro j hj
    exact p4 j (fun m z1 z2 => by omega)
  · intro z j hj
    rw [up_ne nbb.2.2.2]; exact p5 z j hj
