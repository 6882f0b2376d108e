/-! a CLAUSE held against a body, on both sides -/
theorem sr_ne {g : Mem} {k a : Nat} {f : Nat → Int} (h : a ≠ k) : sr g k f a = g a := by funext b; simp [sr, h]
theorem up_sr (g : Mem) (k j : Nat) (v : Int) : up g k j v = sr g k (fun b => if b = j then v else g k b) := by
  funext a b; unfold up sr
  by_cases c : a = k
  · simp [c]
  · simp [c]
def mv1 (h : Mem) (lot w : Nat) : Int := if h 8 w = 0 ∧ ¬ h 18 (12 * lot + w) = h 5 w then 1 else 0
def MV (h : Mem) (lot : Nat) : Int := sm (mv1 h lot) 0 (h 0 4).toNat
theorem moved1_e {g h : Mem} (R : RCargo g h) {q lot : Nat} (hq : ∀ j, j < 12 → g q j = h 18 (12 * lot + j)) (P : PlB h lot) : ∀ (k N i : Nat) (y : Int), i + k = (h 0 4).toNat → k < N → fX1_countMoved_L4 q N y i g = some (y + sm (mv1 h lot) i k) := by
  obtain ⟨B, r1, r2, r3, r4, r5, r6, r7, r8, r9, r10, r11⟩ := R
  obtain ⟨b1, b2, b3, b4, b5, b6, b7, b8, b9, b10, b11, b12, -⟩ := B
  intro k
  induction k with
  | zero =>
    intro N i y hi hN
    obtain ⟨N, rfl⟩ : ∃ m, N = m + 1 := ⟨N - 1, by omega⟩
    rw [fX1_countMoved_L4]
    simp (disch := omega) only [if_true, if_false, if_pos, if_neg, wr_0, wr_id, gd_i, bnd_e, bd_s, bd2_s, jn_e, Int.toNat_natCast, r1]
    simp [sm]
  | succ k ih =>
    intro N i y hi hN
    obtain ⟨N, rfl⟩ : ∃ m, N = m + 1 := ⟨N - 1, by omega⟩
    rw [fX1_countMoved_L4, show sm (mv1 h lot) i (k + 1) = mv1 h lot i + sm (mv1 h lot) (i + 1) k from rfl]
    have e1 := hq i (by omega)
    have p := P i (by omega)
    have x3 := b3 i
    have x4 := b4 i
    have x5 := b5 i
    have x12 := b12 i (by omega)
    have x10 := r10 i
    by_cases d : h 8 i = 0
    · rw [show hv1 h i = h 4 i from if_pos d] at x10
      by_cases f : h 18 (12 * lot + i) = h 5 i
      · rw [show mv1 h lot i = 0 from if_neg (fun z => z.2 f)]
        simp (disch := omega) only [if_true, if_false, if_pos, if_neg, wr_0, wr_id, gd_i, bnd_e, bd_s, bd2_s, jn_e, Int.toNat_natCast, r1, r3, x10, e1, f, ncs]
        rw [ih N (i + 1) _ (by omega) (by omega)]; congr 1; omega
      · rw [show mv1 h lot i = 1 from if_pos ⟨d, f⟩]
        simp (disch := omega) only [if_true, if_false, if_pos, if_neg, wr_0, wr_id, gd_i, bnd_e, bd_s, bd2_s, jn_e, Int.toNat_natCast, r1, r3, x10, e1, ncs]
        rw [ih N (i + 1) _ (by omega) (by omega)]; congr 1; omega
    · rw [show hv1 h i = 0 from if_neg d] at x10
      rw [show mv1 h lot i = 0 from if_neg (fun z => d z.1)]
      simp (disch := omega) only [if_true, if_false, if_pos, if_neg, wr_0, wr_id, gd_i, bnd_e, bd_s, bd2_s, jn_e, Int.toNat_natCast, r1, x10, ncs]
      rw [ih N (i + 1) _ (by omega) (by omega)]; congr 1; omega
theorem moved_e {g h : Mem} (R : RCargo g h) {q lot : Nat} (hq : ∀ j, j < 12 → g q j = h 18 (12 * lot + j)) (P : PlB h lot) : fX1_countMoved q g = some (MV h lot) := by
  have b1 := R.1.1
  unfold fX1_countMoved
  obtain ⟨F, hF, hF2⟩ := fuel_g
  rw [hF, show (0 : Int) = ((0 : Nat) : Int) from rfl, moved1_e R hq P (h 0 4).toNat F 0 _ (by omega) (by omega)]
  unfold MV; congr 1; omega
theorem MV_bd {h : Mem} (B : CB h) (lot : Nat) : 0 ≤ MV h lot ∧ MV h lot ≤ 12 := by
  have b1 := B.1
  have := sm_bd (f := mv1 h lot) (lo := 0) (hi := 1) (i := 0) (k := (h 0 4).toNat) (fun j _ _ => by unfold mv1; split <;> omega)
  unfold MV; omega
theorem so131_e {h : Mem} (B : CB h) {lot : Nat} (hlot : lot < 2) (P : PlB h lot) (c : Int) (K : Int → Mem → Option (Int × Mem)) : ∀ (k N i : Nat) (f : Nat → Int), i + k = (h 0 4).toNat → k < N → fX12_isSo_L131 N c lot i (sr h 47 f) K = K c (sr h 47 (fun b => if b = 6 then f 6 + sm (mv1 h lot) i k else f b)) := by
  obtain ⟨b1, b2, b3, b4, b5, -⟩ := id B
  intro k
  induction k with
  | zero =>
    intro N i f hi hN
    obtain ⟨N, rfl⟩ : ∃ m, N = m + 1 := ⟨N - 1, by omega⟩
    rw [fX12_isSo_L131]
    have u : sr h 47 f 0 4 = h 0 4 := rfl
    simp (disch := omega) only [if_true, if_false, if_pos, if_neg, wr_0, wr_id, gd_i, bnd_e, bd_s, bd2_s, jn_e, Int.toNat_natCast, u]
    congr 2
    funext b; by_cases z : b = 6
    · rw [if_pos z, z]; simp [sm]
    · rw [if_neg z]
  | succ k ih =>
    intro N i f hi hN
    obtain ⟨N, rfl⟩ : ∃ m, N = m + 1 := ⟨N - 1, by omega⟩
    rw [fX12_isSo_L131, show sm (mv1 h lot) i (k + 1) = mv1 h lot i + sm (mv1 h lot) (i + 1) k from rfl]
    have u1 : sr h 47 f 0 4 = h 0 4 := rfl
    have u2 : sr h 47 f 8 i = h 8 i := rfl
    have u3 : sr h 47 f 18 (12 * lot + i) = h 18 (12 * lot + i) := rfl
    have u4 : sr h 47 f 5 i = h 5 i := rfl
    have e2 : (12 * (lot : Int) + (i : Int)).toNat = 12 * lot + i := by omega
    have p := P i (by omega)
    have x3 := b3 i
    have x5 := b5 i
    have t6 : Int.toNat 6 = 6 := rfl
    have fin : ∀ v : Int, v = mv1 h lot i → fX12_isSo_L131 N c lot ((i + 1 : Nat) : Int) (sr h 47 (fun b => if b = 6 then f 6 + v else f b)) K = K c (sr h 47 (fun b => if b = 6 then f 6 + (mv1 h lot i + sm (mv1 h lot) (i + 1) k) else f b)) := by
      intro v hv
      subst hv
      rw [ih N (i + 1) _ (by omega) (by omega)]
      congr 2
      funext b; by_cases z : b = 6
      · rw [if_pos z, if_pos z]; simp; omega
      · rw [if_neg z, if_neg z, if_neg z]
    by_cases d : h 8 i = 0
    · by_cases q : h 18 (12 * lot + i) = h 5 i
      · simp (disch := omega) only [if_true, if_false, if_pos, if_neg, wr_0, wr_id, gd_i, bnd_e, bd_s, bd2_s, jn_e, Int.toNat_natCast, u1, u2, u3, u4, e2, d, q, ncs, sr_up, sr_at, t6]
        exact fin 0 (show 0 = mv1 h lot i from (if_neg (fun z => z.2 q)).symm)
      · simp (disch := omega) only [if_true, if_false, if_pos, if_neg, wr_0, wr_id, gd_i, bnd_e, bd_s, bd2_s, jn_e, Int.toNat_natCast, u1, u2, u3, u4, e2, d, ncs, sr_up, sr_at, t6]
        exact fin 1 (show 1 = mv1 h lot i from (if_pos ⟨d, q⟩).symm)
    · simp (disch := omega) only [if_true, if_false, if_pos, if_neg, wr_0, wr_id, gd_i, bnd_e, bd_s, bd2_s, jn_e, Int.toNat_natCast, u1, u2, u3, u4, e2, ncs, sr_up, sr_at, t6]
      exact fin 0 (show 0 = mv1 h lot i from (if_neg (fun z => d z.1)).symm)
theorem so84_e {h : Mem} {Mk : Int} (hM : 0 ≤ Mk ∧ Mk ≤ 6) (h15 : h 0 15 = Mk) {lot : Nat} (hlot : lot < 2) (hw : ∀ m, m < 6 → h 24 (6 * lot + m) = 0 ∨ h 24 (6 * lot + m) = 1) (c : Int) (K : Int → Int → Mem → Option (Int × Mem)) : ∀ (k N i : Nat) (f : Nat → Int), i + k = Mk.toNat → k < N → fX12_isSo_L84 N c lot i (sr h 47 f) K = K c lot (sr h 47 (fun b => if b = 5 then f 5 + sm (fun m => h 24 (6 * lot + m)) i k else f b)) := by
  intro k
  induction k with
  | zero =>
    intro N i f hi hN
    obtain ⟨N, rfl⟩ : ∃ m, N = m + 1 := ⟨N - 1, by omega⟩
    rw [fX12_isSo_L84]
    have u : sr h 47 f 0 15 = Mk := h15
    simp (disch := omega) only [if_true, if_false, if_pos, if_neg, wr_0, wr_id, gd_i, bnd_e, bd_s, bd2_s, jn_e, Int.toNat_natCast, u]
    congr 2
    funext b; by_cases z : b = 5
    · rw [if_pos z, z]; simp [sm]
    · rw [if_neg z]
  | succ k ih =>
    intro N i f hi hN
    obtain ⟨N, rfl⟩ : ∃ m, N = m + 1 := ⟨N - 1, by omega⟩
    rw [fX12_isSo_L84, show sm (fun m => h 24 (6 * lot + m)) i (k + 1) = h 24 (6 * lot + i) + sm (fun m => h 24 (6 * lot + m)) (i + 1) k from rfl]
    have u1 : sr h 47 f 0 15 = Mk := h15
    have u2 : sr h 47 f 24 (6 * lot + i) = h 24 (6 * lot + i) := rfl
    have e2 : (6 * (lot : Int) + (i : Int)).toNat = 6 * lot + i := by omega
    have t5 : Int.toNat 5 = 5 := rfl
    have w := hw i (by omega)
    have fin : ∀ v : Int, v = h 24 (6 * lot + i) → fX12_isSo_L84 N c lot ((i + 1 : Nat) : Int) (sr h 47 (fun b => if b = 5 then f 5 + v else f b)) K = K c lot (sr h 47 (fun b => if b = 5 then f 5 + (h 24 (6 * lot + i) + sm (fun m => h 24 (6 * lot + m)) (i + 1) k) else f b)) := by
      intro v hv
      subst hv
      rw [ih N (i + 1) _ (by omega) (by omega)]
      congr 2
      funext b; by_cases z : b = 5
      · rw [if_pos z, if_pos z]; simp; omega
      · rw [if_neg z, if_neg z, if_neg z]
    rcases w with z | z
    · simp (disch := omega) only [if_true, if_false, if_pos, if_neg, wr_0, wr_id, gd_i, bnd_e, bd_s, bd2_s, jn_e, Int.toNat_natCast, u1, u2, e2, z, ncs, sr_up, sr_at, t5]
      have := fin 0 z.symm
      rw [z] at this; exact this
    · simp (disch := omega) only [if_true, if_false, if_pos, if_neg, wr_0, wr_id, gd_i, bnd_e, bd_s, bd2_s, jn_e, Int.toNat_natCast, u1, u2, e2, z, ncs, sr_up, sr_at, t5]
      have := fin 1 z.symm
      rw [z] at this; exact this
theorem sm6 (f : Nat → Int) : sm f 0 6 = f 0 + f 1 + f 2 + f 3 + f 4 + f 5 := by simp [sm]; omega
theorem wet_cnt {g h : Mem} {b lot : Nat} {Mk : Int} (hM : 0 ≤ Mk ∧ Mk ≤ 6) (hw : ∀ m, m < 6 → h 24 (6 * lot + m) = 0 ∨ h 24 (6 * lot + m) = 1) (hz : ∀ m : Nat, m < 6 → Mk ≤ (m : Int) → h 24 (6 * lot + m) = 0) (h9 : g b 9 = WT h lot) : fJ6_bitCount_0f7a4 (g b 9) = some (sm (fun m => h 24 (6 * lot + m)) 0 Mk.toNat) ∧ 0 ≤ sm (fun m => h 24 (6 * lot + m)) 0 Mk.toNat ∧ sm (fun m => h 24 (6 * lot + m)) 0 Mk.toNat ≤ 6 := by
  have e6 : sm (fun m => h 24 (6 * lot + m)) 0 Mk.toNat = sm (fun m => h 24 (6 * lot + m)) 0 6 := by
    have := sm_split (fun m => h 24 (6 * lot + m)) 0 Mk.toNat (6 - Mk.toNat)
    rw [show Mk.toNat + (6 - Mk.toNat) = 6 by omega] at this
    rw [this, sm_congr (f := fun m => h 24 (6 * lot + m)) (f' := fun _ => 0) (i := 0 + Mk.toNat) (k := 6 - Mk.toNat) (fun j h1 h2 => hz j (by omega) (by omega)), sm_zero]; omega
  rw [e6, sm6, h9]
  have a0 := hw 0 (by omega)
  have a1 := hw 1 (by omega)
  have a2 := hw 2 (by omega)
  have a3 := hw 3 (by omega)
  have a4 := hw 4 (by omega)
  have a5 := hw 5 (by omega)
  unfold WT
  rw [show 6 * lot + 0 = 6 * lot from rfl] at a0 ⊢
  generalize h 24 (6 * lot) = x0 at *
  generalize h 24 (6 * lot + 1) = x1 at *
  generalize h 24 (6 * lot + 2) = x2 at *
  generalize h 24 (6 * lot + 3) = x3 at *
  generalize h 24 (6 * lot + 4) = x4 at *
  generalize h 24 (6 * lot + 5) = x5 at *
  refine ⟨?_, by omega⟩
  obtain ⟨w, hw'⟩ : ∃ w : Nat, x0 + 2 * x1 + 4 * x2 + 8 * x3 + 16 * x4 + 32 * x5 = w := ⟨(x0 + 2 * x1 + 4 * x2 + 8 * x3 + 16 * x4 + 32 * x5).toNat, by omega⟩
  rw [hw', bit_cnt w (by omega)]
  congr 1; omega
