/-! MARKS washed -/
def tw (m : Nat) : Int := ((2 ^ m : Nat) : Int)
theorem bit_test (w i : Nat) (hw : w < 64) (hi : i < 6) : (wr (iAnd (w : Int) (iShl 1 (i : Int))) = 0) ↔ w / 2 ^ i % 2 = 0 := by
  have : ∀ w : Fin 64, ∀ i : Fin 6, (wr (iAnd ((w.val : Nat) : Int) (iShl 1 ((i.val : Nat) : Int))) = 0) ↔ w.val / 2 ^ i.val % 2 = 0 := by decide +kernel
  exact this ⟨w, hw⟩ ⟨i, hi⟩
theorem bit_or (y i : Nat) (hi : i < 6) (hy : y < 2 ^ i) : iOr (y : Int) (iShl 1 (i : Int)) = (y : Int) + tw i := by
  have : ∀ y : Fin 64, ∀ i : Fin 6, y.val < 2 ^ i.val → iOr ((y.val : Nat) : Int) (iShl 1 ((i.val : Nat) : Int)) = ((y.val : Nat) : Int) + tw i.val := by decide +kernel
  have h64 : 2 ^ i ≤ 64 := by
    have : ∀ i : Fin 6, 2 ^ i.val ≤ 64 := by decide
    exact this ⟨i, hi⟩
  exact this ⟨y, by omega⟩ ⟨i, hi⟩ hy
theorem bit_cnt (w : Nat) (hw : w < 64) : fJ6_bitCount_0f7a4 (w : Int) = some ((w % 2 + w / 2 % 2 + w / 4 % 2 + w / 8 % 2 + w / 16 % 2 + w / 32 % 2 : Nat) : Int) := by
  have : ∀ w : Fin 64, fJ6_bitCount_0f7a4 ((w.val : Nat) : Int) = some ((w.val % 2 + w.val / 2 % 2 + w.val / 4 % 2 + w.val / 8 % 2 + w.val / 16 % 2 + w.val / 32 % 2 : Nat) : Int) := by decide +kernel
  exact this ⟨w, hw⟩
def nb (s lv : Int) (P Q : Nat → Int) (m : Nat) : Int := if lv + s * P m < 100 * Q m then 0 else 1
theorem isWet_e {g : Mem} {i : Nat} {Mk s lv : Int} {P Q : Nat → Int} (hM : 0 ≤ Mk ∧ Mk ≤ 6) (hi : (i : Int) < Mk) (g17 : g 17 2 = Mk) (g18 : g 18 = P) (g19 : g 19 = Q) (hs : -80 ≤ s ∧ s ≤ 80) (hl : -2000 ≤ lv ∧ lv ≤ 4000) (hP : ∀ j, -19 ≤ P j ∧ P j ≤ 19) (hQ : ∀ j, 0 ≤ Q j ∧ Q j ≤ 40) : fX4_isWet i s lv g = some (nb s lv P Q i) := by
  unfold fX4_isWet nb
  have p := hP i
  have q := hQ i
  have m := mb (x := s) (y := P i) (A := 80) (B := 19) hs.1 hs.2 p.1 p.2
  rw [g17, g18, g19]
  by_cases c : lv + s * P i < 100 * Q i
  · simp (disch := omega) only [if_true, if_false, if_pos, if_neg, wr_0, wr_id, gd_i, bnd_e, bd_s, bd2_s, jn_e, Int.toNat_natCast, if_pos c]
  · simp (disch := omega) only [if_true, if_false, if_pos, if_neg, wr_0, wr_id, gd_i, bnd_e, bd_s, bd2_s, jn_e, Int.toNat_natCast, if_neg c]
theorem tw_lt {y : Int} {i : Nat} {b : Int} (h0 : 0 ≤ y) (h : y < tw i) (hb : b = 0 ∨ b = 1) : 0 ≤ y + tw i * b ∧ y + tw i * b < tw (i + 1) := by
  have e : tw (i + 1) = 2 * tw i := by unfold tw; rw [Nat.pow_succ]; omega
  have p : 0 < tw i := by unfold tw; have := Nat.two_pow_pos i; omega
  rw [e]
  rcases hb with rfl | rfl <;> omega
theorem wash_step {b lot : Nat} (hb : (b = 24 ∧ lot = 0) ∨ (b = 28 ∧ lot = 1)) {Mk s lv : Int} {P Q : Nat → Int} (hM : 0 ≤ Mk ∧ Mk ≤ 6) (hs : -80 ≤ s ∧ s ≤ 80) (hl : -2000 ≤ lv ∧ lv ≤ 4000) (hP : ∀ j, -19 ≤ P j ∧ P j ≤ 19) (hQ : ∀ j, 0 ≤ Q j ∧ Q j ≤ 40) {w0 : Nat} (hw : w0 < 64) (K : Int → Mem → Option Mem) :
    ∀ (k N N2 i : Nat) (y : Int) (g h : Mem), i + k = Mk.toNat → k < N → k < N2 → 0 ≤ y → y < tw i → g 17 2 = Mk → g 18 = P → g 19 = Q → g b 4 = s → g b 9 = (w0 : Int) → h 0 15 = Mk → h 13 = P → h 14 = Q → h 19 lot = s → (∀ m, i ≤ m → m < 6 → h 24 (6 * lot + m) = ((w0 / 2 ^ m % 2 : Nat) : Int)) →
    ∃ g' h', fX0_wash_L5 b N lv y i g K = K (y + sm (fun m => tw m * nb s lv P Q m) i k) g' ∧ fX12_goesOn_L363 N2 lot lv i h = some (1, h') ∧ (∀ m, i ≤ m → (m : Int) < Mk → h' 24 (6 * lot + m) = nb s lv P Q m) ∧ (∀ j, (∀ m : Nat, i ≤ m → (m : Int) < Mk → j ≠ 6 * lot + m) → h' 24 j = h 24 j ∧ h' 25 j = h 25 j) ∧ ((∀ j, j < 6 → g (b + 2) j = h 25 (6 * lot + j)) → ∀ j, j < 6 → g' (b + 2) j = h' 25 (6 * lot + j)) ∧ (∀ a, a ≠ b + 2 → g' a = g a) ∧ (∀ a, a ≠ 24 → a ≠ 25 → h' a = h a) := by
  intro k
  induction k with
  | zero =>
    intro N N2 i y g h hi hN hN2 hy0 hy g17 g18 g19 g4 g9 h15 h13 h14 h19 ho
    obtain ⟨N, rfl⟩ : ∃ m, N = m + 1 := ⟨N - 1, by omega⟩
    obtain ⟨N2, rfl⟩ : ∃ m, N2 = m + 1 := ⟨N2 - 1, by omega⟩
    rw [fX0_wash_L5, fX12_goesOn_L363, g17, h15]
    have e1 : wr Mk ≤ wr (i : Int) := by rw [wr_id (by omega) (by omega), wr_id (by omega) (by omega)]; omega
    rw [if_pos e1, if_pos e1]
    exact ⟨g, h, by simp [sm], rfl, fun m h1 h2 => by omega, fun _ _ => ⟨rfl, rfl⟩, fun z => z, fun _ _ => rfl, fun _ _ _ => rfl⟩
  | succ k ih =>
    intro N N2 i y g h hi hN hN2 hy0 hy g17 g18 g19 g4 g9 h15 h13 h14 h19 ho
    obtain ⟨N, rfl⟩ : ∃ m, N = m + 1 := ⟨N - 1, by omega⟩
    obtain ⟨N2, rfl⟩ : ∃ m, N2 = m + 1 := ⟨N2 - 1, by omega⟩
    have hi6 : i < 6 := by omega
    have hlot : lot < 2 := by omega
    have hb2 : b ≠ b + 2 ∧ b + 2 ≠ 17 ∧ b + 2 ≠ 18 ∧ b + 2 ≠ 19 := by omega
    have ob := ho i (by omega) hi6
    have hnb : nb s lv P Q i = 0 ∨ nb s lv P Q i = 1 := by unfold nb; split <;> omega
    have hyb := tw_lt hy0 hy hnb
    have bt := bit_test w0 i hw hi6
    have iw := isWet_e (g := g) (i := i) hM (by omega) g17 g18 g19 hs hl hP hQ
    /- after this mark -/
    have fin : ∀ (g1 h1 : Mem) (v : Int), v = nb s lv P Q i → (∀ a, a ≠ b + 2 → g1 a = g a) → (∀ a, a ≠ 25 → h1 a = h a) → (∀ j, j ≠ 6 * lot + i → h1 25 j = h 25 j) → ((∀ j, j < 6 → g (b + 2) j = h 25 (6 * lot + j)) → ∀ j, j < 6 → g1 (b + 2) j = h1 25 (6 * lot + j)) →
      ∃ g' h', fX0_wash_L5 b N lv (y + tw i * v) ((i + 1 : Nat) : Int) g1 K = K (y + sm (fun m => tw m * nb s lv P Q m) i (k + 1)) g' ∧ fX12_goesOn_L363 N2 lot lv ((i + 1 : Nat) : Int) (up h1 24 (6 * lot + i) v) = some (1, h') ∧ (∀ m, i ≤ m → (m : Int) < Mk → h' 24 (6 * lot + m) = nb s lv P Q m) ∧ (∀ j, (∀ m : Nat, i ≤ m → (m : Int) < Mk → j ≠ 6 * lot + m) → h' 24 j = h 24 j ∧ h' 25 j = h 25 j) ∧ ((∀ j, j < 6 → g (b + 2) j = h 25 (6 * lot + j)) → ∀ j, j < 6 → g' (b + 2) j = h' 25 (6 * lot + j)) ∧ (∀ a, a ≠ b + 2 → g' a = g a) ∧ (∀ a, a ≠ 24 → a ≠ 25 → h' a = h a) := by
      intro g1 h1 v hv G1 H1 H25 W1
      subst hv
      obtain ⟨g', h', p1, p2, p3, p4, p5, p6, p7⟩ := ih N N2 (i + 1) (y + tw i * nb s lv P Q i) g1 (up h1 24 (6 * lot + i) (nb s lv P Q i)) (by omega) (by omega) (by omega) hyb.1 hyb.2 (by rw [G1 17 (by omega)]; exact g17) (by rw [G1 18 (by omega)]; exact g18) (by rw [G1 19 (by omega)]; exact g19) (by rw [G1 b (by omega)]; exact g4) (by rw [G1 b (by omega)]; exact g9) (by rw [up_ne (by omega), H1 0 (by omega)]; exact h15) (by rw [up_ne (by omega), H1 13 (by omega)]; exact h13) (by rw [up_ne (by omega), H1 14 (by omega)]; exact h14) (by rw [up_ne (by omega), H1 19 (by omega)]; exact h19) (fun m hm hm6 => by rw [up_row, if_neg (by omega), H1 24 (by omega)]; exact ho m (by omega) hm6)
      refine ⟨g', h', ?_, p2, fun m hm hm2 => ?_, fun j hj => ?_, fun z j hj => p5 (fun j hj => by rw [up_ne (show (25 : Nat) ≠ 24 by omega)]; exact W1 z j hj) j hj, fun a ha => by rw [p6 a ha, G1 a ha], fun a h1 h2 => by rw [p7 a h1 h2, up_ne h1, H1 a h2]⟩
      · rw [p1, show sm (fun m => tw m * nb s lv P Q m) i (k + 1) = tw i * nb s lv P Q i + sm (fun m => tw m * nb s lv P Q m) (i + 1) k from rfl, Int.add_assoc]
      · by_cases c : m = i
        · subst c
          rw [(p4 (6 * lot + m) (fun m' h1 h2 => by omega)).1, up_row, if_pos rfl]
        · exact p3 m (by omega) hm2
      · have hne : j ≠ 6 * lot + i := hj i (by omega) (by omega)
        have := p4 j (fun m h1 h2 => hj m (by omega) h2)
        rw [this.1, this.2, up_row, if_neg hne, H1 24 (by omega), up_ne (show (25 : Nat) ≠ 24 by omega), H25 j hne]; exact ⟨rfl, rfl⟩
    have d6 : ∀ k : Option Mem, gd (i : Int) 6 k = k := fun k => gd_i (by omega) (by omega) (by omega)
    have d6m : ∀ k : Option (Int × Mem), gd (i : Int) 6 k = k := fun k => gd_i (by omega) (by omega) (by omega)
    have d2 : ∀ k : Option (Int × Mem), gd (lot : Int) 2 k = k := fun k => gd_i (by omega) (by omega) (by omega)
    have d12 : ∀ k : Option (Int × Mem), gd ((6 * lot + i : Nat) : Int) 12 k = k := fun k => gd_i (by omega) (by omega) (by omega)
    have n1 : ¬ Mk ≤ (i : Int) := by omega
    have n2 : ¬ 6 ≤ (i : Int) := by omega
    have r2 : 6 * (lot : Int) + (i : Int) = ((6 * lot + i : Nat) : Int) := by omega
    have ri : IR (i : Int) := by unfold IR; omega
    have rm : IR ((6 * lot + i : Nat) : Int) := by unfold IR; omega
    have rM : IR Mk := by unfold IR; omega
    have rl : IR (lot : Int) := by unfold IR; omega
    have nv : ¬ lv = -2147483648 := by omega
    have rv : IR lv := by unfold IR; omega
    have pi := hP i
    have qi := hQ i
    have mm := mb (x := s) (y := P i) (A := 80) (B := 19) hs.1 hs.2 pi.1 pi.2
    have ra : IR (lv + s * P i) := by unfold IR; omega
    have rb : IR (100 * Q i) := by unfold IR; omega
    have gc0 : ∀ k : Option (Int × Mem), gc ((0 : Int) = 0 ∨ (0 : Int) = 1) k = k := fun k => gc_of (by omega)
    have gc1 : ∀ k : Option (Int × Mem), gc ((1 : Int) = 0 ∨ (1 : Int) = 1) k = k := fun k => gc_of (by omega)
    rw [fX0_wash_L5, fX12_goesOn_L363, g4, iw]
    simp only [g17, h15, h13, h14, h19, r2, wr_id ri.1 ri.2, wr_id rm.1 rm.2, wr_id rM.1 rM.2, wr_id rl.1 rl.2, wr_id rv.1 rv.2, wr_id ra.1 ra.2, wr_id rb.1 rb.2, d6, d6m, d2, d12, bnd_e, jn_e, bd_s, ncs, Int.toNat_natCast, if_neg n1, if_neg n2, if_neg nv, gc0, gc1, g9, ob]
    clear d6 d6m d2 d12 gc0 gc1
    have cz : ∀ n : Nat, (wr ((n % 2 : Nat) : Int) = 0) ↔ n % 2 = 0 := fun n => by rw [wr_id (by omega) (by omega)]; omega
    by_cases c : lv + s * P i < 100 * Q i
    · have e0 : nb s lv P Q i = 0 := if_pos c
      rw [e0, if_pos c, if_pos (show wr 0 = 0 from rfl), if_pos (show wr 0 = 0 from rfl)]
      have := fin g h 0 e0.symm (fun _ _ => rfl) (fun _ _ => rfl) (fun _ _ => rfl) (fun z => z)
      rw [show y + tw i * 0 = y by omega] at this
      exact this
    · have e1 : nb s lv P Q i = 1 := if_neg c
      have eo : iOr y (iShl 1 (i : Int)) = y + tw i * 1 := by
        have := bit_or y.toNat i hi6 (by unfold tw at hy; omega)
        rw [show ((y.toNat : Nat) : Int) = y by omega] at this
        rw [this]; omega
      rw [e1, if_neg c, if_neg (show ¬ wr 1 = 0 by decide), if_neg (show ¬ wr 1 = 0 by decide), eo]
      by_cases d : w0 / 2 ^ i % 2 = 0
      · rw [if_pos (bt.2 d), if_pos ((cz _).2 d)]
        refine fin (up g (b + 2) i (g (b + 2) i + 1)) (up h 25 (6 * lot + i) (h 25 (6 * lot + i) + 1)) 1 e1.symm (fun a ha => up_ne ha) (fun a ha => up_ne ha) (fun j hj => by rw [up_row, if_neg hj]) (fun z j hj => ?_)
        rw [up_row, up_row]
        by_cases x : j = i
        · rw [if_pos x, if_pos (by omega), z i hi6]
        · rw [if_neg x, if_neg (by omega)]; exact z j hj
      · rw [if_neg (fun z => d (bt.1 z)), if_neg (fun z => d ((cz _).1 z))]
        exact fin g h 1 e1.symm (fun _ _ => rfl) (fun _ _ => rfl) (fun _ _ => rfl) (fun z => z)
