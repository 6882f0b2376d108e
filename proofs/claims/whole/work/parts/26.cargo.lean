/-! WEIGHTS and TANKS -/
def hv1 (h : Mem) (w : Nat) : Int := if h 8 w = 0 then h 4 w else 0
def HV (h : Mem) : Int := sm (hv1 h) 0 (h 0 4).toNat + sm (h 12) 0 (h 0 10).toNat
def CB (h : Mem) : Prop := (0 ≤ h 0 4 ∧ h 0 4 ≤ 12) ∧ (0 ≤ h 0 10 ∧ h 0 10 ≤ 4) ∧ (∀ j, h 8 j = 0 ∨ h 8 j = 1) ∧ (∀ j, 0 ≤ h 4 j ∧ h 4 j ≤ 500) ∧ (∀ j, -19 ≤ h 5 j ∧ h 5 j ≤ 19) ∧ (∀ j, 0 ≤ h 6 j ∧ h 6 j ≤ 40) ∧ (∀ j, -1 ≤ h 7 j ∧ h 7 j ≤ 80) ∧ (∀ j, 0 ≤ h 9 j ∧ h 9 j ≤ 9) ∧ (∀ j, 0 ≤ h 10 j ∧ h 10 j ≤ 40) ∧ (∀ j, 0 ≤ h 11 j ∧ h 11 j ≤ 300) ∧ (∀ j, 0 ≤ h 12 j ∧ h 12 j ≤ 300) ∧ (∀ j : Nat, (j : Int) < h 0 4 → 1 ≤ h 4 j) ∧ (∀ j : Nat, h 0 4 ≤ (j : Int) → h 8 j = 0) ∧ (∀ j : Nat, h 0 10 ≤ (j : Int) → h 12 j = 0)
theorem HV_bd {h : Mem} (B : CB h) : 0 ≤ HV h ∧ HV h ≤ 7200 := by
  obtain ⟨b1, b2, b3, b4, b5, b6, b7, b8, b9, b10, b11, -⟩ := B
  have e1 := sm_bd (f := hv1 h) (lo := 0) (hi := 500) (i := 0) (k := (h 0 4).toNat) (fun j _ _ => by have := b4 j; unfold hv1; split <;> omega)
  have e2 := sm_bd (f := h 12) (lo := 0) (hi := 300) (i := 0) (k := (h 0 10).toNat) (fun j _ _ => b11 j)
  unfold HV; omega
theorem heavy1_e {h : Mem} (B : CB h) (K : Int → Option Int) : ∀ (k n i : Nat) (y : Int), i + k = (h 0 4).toNat → k < n → fX12_heavy_L4 n y i h K = K (y + sm (hv1 h) i k) := by
  obtain ⟨b1, b2, b3, b4, -⟩ := B
  intro k
  induction k with
  | zero =>
    intro n i y hi hn
    obtain ⟨n, rfl⟩ : ∃ m, n = m + 1 := ⟨n - 1, by omega⟩
    unfold fX12_heavy_L4
    simp (disch := omega) only [if_true, if_false, if_pos, if_neg, wr_0, wr_id, gd_i, bnd_e, bd_s, bd2_s, jn_e, Int.toNat_natCast]
    simp [sm]
  | succ k ih =>
    intro n i y hi hn
    obtain ⟨n, rfl⟩ : ∃ m, n = m + 1 := ⟨n - 1, by omega⟩
    unfold fX12_heavy_L4
    have := b3 i
    have := b4 i
    simp (disch := omega) only [if_true, if_false, if_pos, if_neg, wr_0, wr_id, gd_i, bnd_e, bd_s, bd2_s, jn_e, Int.toNat_natCast]
    rw [show sm (hv1 h) i (k + 1) = hv1 h i + sm (hv1 h) (i + 1) k from rfl]
    by_cases c : h 8 i = 0
    · simp (disch := omega) only [if_true, if_false, if_pos, if_neg, wr_0, wr_id, gd_i, bnd_e, bd_s, bd2_s, jn_e, Int.toNat_natCast, c, ncs]
      rw [ih n (i + 1) _ (by omega) (by omega)]
      rw [show hv1 h i = h 4 i from if_pos c]; congr 1; omega
    · simp (disch := omega) only [if_true, if_false, if_pos, if_neg, wr_0, wr_id, gd_i, bnd_e, bd_s, bd2_s, jn_e, Int.toNat_natCast, ncs]
      rw [ih n (i + 1) _ (by omega) (by omega)]
      rw [show hv1 h i = 0 from if_neg c]; congr 1; omega
theorem heavy2_e {h : Mem} (B : CB h) : ∀ (k n i : Nat) (y : Int), i + k = (h 0 10).toNat → k < n → fX12_heavy_L42 n y i h = some (y + sm (h 12) i k) := by
  obtain ⟨b1, b2, b3, b4, -⟩ := B
  intro k
  induction k with
  | zero =>
    intro n i y hi hn
    obtain ⟨n, rfl⟩ : ∃ m, n = m + 1 := ⟨n - 1, by omega⟩
    unfold fX12_heavy_L42
    simp (disch := omega) only [if_true, if_false, if_pos, if_neg, wr_0, wr_id, gd_i, bnd_e, bd_s, bd2_s, jn_e, Int.toNat_natCast]
    simp [sm]
  | succ k ih =>
    intro n i y hi hn
    obtain ⟨n, rfl⟩ : ∃ m, n = m + 1 := ⟨n - 1, by omega⟩
    unfold fX12_heavy_L42
    simp (disch := omega) only [if_true, if_false, if_pos, if_neg, wr_0, wr_id, gd_i, bnd_e, bd_s, bd2_s, jn_e, Int.toNat_natCast, ncs]
    rw [show sm (h 12) i (k + 1) = h 12 i + sm (h 12) (i + 1) k from rfl]
    rw [ih n (i + 1) _ (by omega) (by omega)]
    congr 1; omega
theorem heavy_e {h : Mem} (B : CB h) : fX12_heavy h = some (HV h) := by
  have b1 := B.1
  have b2 := B.2.1
  unfold fX12_heavy
  rw [show (0 : Int) = ((0 : Nat) : Int) from rfl, heavy1_e B _ (h 0 4).toNat fuel 0 _ (by omega) (by rw [fuel_s]; omega), heavy2_e B (h 0 10).toNat fuel 0 _ (by omega) (by rw [fuel_s]; omega)]
  unfold HV; congr 1; omega
def RCargo (g h : Mem) : Prop := CB h ∧ g 8 8 = h 0 4 ∧ g 8 9 = h 0 10 ∧ g 10 = h 5 ∧ g 11 = h 6 ∧ g 12 = h 7 ∧ g 13 = h 9 ∧ g 14 = h 10 ∧ g 15 = h 11 ∧ g 16 = h 12 ∧ (∀ j, g 9 j = hv1 h j) ∧ g 8 10 = HV h
def pl (h : Mem) (s : Int) (t : Nat) : Int := if 0 < h 12 t ∧ h 12 t < h 11 t then (s * h 9 t).tdiv 100 else 0
def mw1 (h : Mem) (lot : Nat) (s : Int) (w : Nat) : Int := if h 8 w = 0 then h 4 w * (100 * h 18 (12 * lot + w) + s * h 6 w) else 0
def mw2 (h : Mem) (s : Int) (t : Nat) : Int := h 12 t * (100 * pl h s t + s * h 10 t)
def MW (h : Mem) (lot : Nat) (s : Int) : Int := sm (mw1 h lot s) 0 (h 0 4).toNat + sm (mw2 h s) 0 (h 0 10).toNat
def PlB (h : Mem) (lot : Nat) : Prop := ∀ j, j < 12 → -19 ≤ h 18 (12 * lot + j) ∧ h 18 (12 * lot + j) ≤ 19
theorem pl_bd {h : Mem} (B : CB h) {s : Int} (hs : -80 ≤ s ∧ s ≤ 80) (t : Nat) : -7 ≤ pl h s t ∧ pl h s t ≤ 7 := by
  obtain ⟨b1, b2, b3, b4, b5, b6, b7, b8, -⟩ := B
  have := b8 t
  have m := mb (x := s) (y := h 9 t) (A := 80) (B := 9) hs.1 hs.2 (by omega) (by omega)
  unfold pl; rw [tdiv_c]; split
  · split <;> omega
  · omega
theorem mw_bd {h : Mem} (B : CB h) {lot : Nat} (P : PlB h lot) {s : Int} (hs : -80 ≤ s ∧ s ≤ 80) : -40000000 ≤ MW h lot s ∧ MW h lot s ≤ 40000000 := by
  obtain ⟨b1, b2, b3, b4, b5, b6, b7, b8, b9, b10, b11, -⟩ := id B
  have e1 := sm_bd (f := mw1 h lot s) (lo := -2550000) (hi := 2550000) (i := 0) (k := (h 0 4).toNat) (fun j _ h2 => by
    have p := P j (by omega)
    have := b6 j
    have := b4 j
    have m1 := mb (x := s) (y := h 6 j) (A := 80) (B := 40) hs.1 hs.2 (by omega) (by omega)
    have m2 := mb (x := h 4 j) (y := 100 * h 18 (12 * lot + j) + s * h 6 j) (A := 500) (B := 5100) (by omega) (by omega) (by omega) (by omega)
    unfold mw1; split <;> omega)
  have e2 := sm_bd (f := mw2 h s) (lo := -1170000) (hi := 1170000) (i := 0) (k := (h 0 10).toNat) (fun j _ h2 => by
    have p := pl_bd B hs j
    have := b9 j
    have := b11 j
    have m1 := mb (x := s) (y := h 10 j) (A := 80) (B := 40) hs.1 hs.2 (by omega) (by omega)
    have m2 := mb (x := h 12 j) (y := 100 * pl h s j + s * h 10 j) (A := 300) (B := 3900) (by omega) (by omega) (by omega) (by omega)
    unfold mw2; omega)
  unfold MW; omega
theorem arm1_e {h : Mem} (B : CB h) {lot : Nat} (hlot : lot < 2) (P : PlB h lot) {s : Int} (hs : -80 ≤ s ∧ s ≤ 80) (K : Int → Int → Option Int) : ∀ (k n i : Nat) (y : Int), i + k = (h 0 4).toNat → k < n → fX12_armAt_L22 n lot s y i h K = K s (y - sm (mw1 h lot s) i k) := by
  obtain ⟨b1, b2, b3, b4, b5, b6, b7, b8, b9, b10, b11, -⟩ := id B
  intro k
  induction k with
  | zero =>
    intro n i y hi hn
    obtain ⟨n, rfl⟩ : ∃ m, n = m + 1 := ⟨n - 1, by omega⟩
    unfold fX12_armAt_L22
    simp (disch := omega) only [if_true, if_false, if_pos, if_neg, wr_0, wr_id, gd_i, bnd_e, bd_s, bd2_s, jn_e, Int.toNat_natCast]
    simp [sm]
  | succ k ih =>
    intro n i y hi hn
    obtain ⟨n, rfl⟩ : ∃ m, n = m + 1 := ⟨n - 1, by omega⟩
    unfold fX12_armAt_L22
    have p := P i (by omega)
    have := b3 i
    have := b6 i
    have := b4 i
    have m1 := mb (x := s) (y := h 6 i) (A := 80) (B := 40) hs.1 hs.2 (by omega) (by omega)
    have e2 : (12 * (lot : Int) + (i : Int)).toNat = 12 * lot + i := by omega
    rw [show sm (mw1 h lot s) i (k + 1) = mw1 h lot s i + sm (mw1 h lot s) (i + 1) k from rfl]
    by_cases c : h 8 i = 0
    · rw [show mw1 h lot s i = h 4 i * (100 * h 18 (12 * lot + i) + s * h 6 i) from if_pos c]
      simp (disch := omega) only [if_true, if_false, if_pos, if_neg, wr_0, wr_id, gd_i, bnd_e, bd_s, bd2_s, jn_e, Int.toNat_natCast, c, ncs, e2]
      rw [ih n (i + 1) _ (by omega) (by omega)]
      congr 1; omega
    · rw [show mw1 h lot s i = 0 from if_neg c]
      simp (disch := omega) only [if_true, if_false, if_pos, if_neg, wr_0, wr_id, gd_i, bnd_e, bd_s, bd2_s, jn_e, Int.toNat_natCast, ncs]
      rw [ih n (i + 1) _ (by omega) (by omega)]
      congr 1; omega
theorem arm2_e {h : Mem} (B : CB h) {s : Int} (hs : -80 ≤ s ∧ s ≤ 80) : ∀ (k n i : Nat) (y : Int), i + k = (h 0 10).toNat → k < n → fX12_armAt_L92 n s y i h = some (y - sm (mw2 h s) i k) := by
  obtain ⟨b1, b2, b3, b4, b5, b6, b7, b8, b9, b10, b11, -⟩ := id B
  intro k
  induction k with
  | zero =>
    intro n i y hi hn
    obtain ⟨n, rfl⟩ : ∃ m, n = m + 1 := ⟨n - 1, by omega⟩
    unfold fX12_armAt_L92
    simp (disch := omega) only [if_true, if_false, if_pos, if_neg, wr_0, wr_id, gd_i, bnd_e, bd_s, bd2_s, jn_e, Int.toNat_natCast]
    simp [sm]
  | succ k ih =>
    intro n i y hi hn
    obtain ⟨n, rfl⟩ : ∃ m, n = m + 1 := ⟨n - 1, by omega⟩
    unfold fX12_armAt_L92
    have p := pl_bd B hs i
    have := b8 i
    have := b9 i
    have := b10 i
    have := b11 i
    have m1 := mb (x := s) (y := h 10 i) (A := 80) (B := 40) hs.1 hs.2 (by omega) (by omega)
    have m2 := mb (x := s) (y := h 9 i) (A := 80) (B := 9) hs.1 hs.2 (by omega) (by omega)
    rw [show sm (mw2 h s) i (k + 1) = mw2 h s i + sm (mw2 h s) (i + 1) k from rfl]
    rw [show mw2 h s i = h 12 i * (100 * pl h s i + s * h 10 i) from rfl]
    by_cases c : 0 < h 12 i
    · by_cases d : h 12 i < h 11 i
      · have ep : pl h s i = (s * h 9 i).tdiv 100 := if_pos ⟨c, d⟩
        rw [ep] at p ⊢
        simp (disch := omega) only [if_true, if_false, if_pos, if_neg, wr_0, wr_id, gd_i, bnd_e, bd_s, bd2_s, jn_e, Int.toNat_natCast, ncs]
        rw [ih n (i + 1) _ (by omega) (by omega)]
        congr 1; omega
      · have ep : pl h s i = 0 := if_neg (fun z => d z.2)
        rw [ep] at p ⊢
        simp (disch := omega) only [if_true, if_false, if_pos, if_neg, wr_0, wr_id, gd_i, bnd_e, bd_s, bd2_s, jn_e, Int.toNat_natCast, ncs]
        rw [ih n (i + 1) _ (by omega) (by omega)]
        congr 1; omega
    · have ep : pl h s i = 0 := if_neg (fun z => c z.1)
      rw [ep] at p ⊢
      simp (disch := omega) only [if_true, if_false, if_pos, if_neg, wr_0, wr_id, gd_i, bnd_e, bd_s, bd2_s, jn_e, Int.toNat_natCast, ncs]
      rw [ih n (i + 1) _ (by omega) (by omega)]
      congr 1; omega
theorem mom1_e {g h : Mem} (R : RCargo g h) {q lot : Nat} (hq : ∀ j, j < 12 → g q j = h 18 (12 * lot + j)) {s : Int} (K : Int → Int → Option Int) : ∀ (k n i : Nat) (y : Int), i + k = (h 0 4).toNat → k < n → fX1_momentAt_L5 q n s y i g K = K s (y + sm (mw1 h lot s) i k) := by
  obtain ⟨B, r1, r2, r3, r4, r5, r6, r7, r8, r9, r10, r11⟩ := R
  have b1 := B.1
  intro k
  induction k with
  | zero =>
    intro n i y hi hn
    obtain ⟨n, rfl⟩ : ∃ m, n = m + 1 := ⟨n - 1, by omega⟩
    unfold fX1_momentAt_L5
    simp (disch := omega) only [if_true, if_false, if_pos, if_neg, wr_0, wr_id, gd_i, bnd_e, bd_s, bd2_s, jn_e, Int.toNat_natCast, r1]
    simp [sm]
  | succ k ih =>
    intro n i y hi hn
    obtain ⟨n, rfl⟩ : ∃ m, n = m + 1 := ⟨n - 1, by omega⟩
    unfold fX1_momentAt_L5
    rw [show sm (mw1 h lot s) i (k + 1) = mw1 h lot s i + sm (mw1 h lot s) (i + 1) k from rfl]
    simp (disch := omega) only [if_true, if_false, if_pos, if_neg, wr_0, wr_id, gd_i, bnd_e, bd_s, bd2_s, jn_e, Int.toNat_natCast, r1, ncs]
    rw [ih n (i + 1) _ (by omega) (by omega), hq i (by omega), r10, r4]
    congr 1
    by_cases c : h 8 i = 0
    · rw [show mw1 h lot s i = h 4 i * (100 * h 18 (12 * lot + i) + s * h 6 i) from if_pos c, show hv1 h i = h 4 i from if_pos c]; omega
    · rw [show mw1 h lot s i = 0 from if_neg c, show hv1 h i = 0 from if_neg c, Int.zero_mul]; omega
theorem mom2_e {g h : Mem} (R : RCargo g h) {q : Nat} {s : Int} (hs : -80 ≤ s ∧ s ≤ 80) : ∀ (k n i : Nat) (y : Int), i + k = (h 0 10).toNat → k < n → fX1_momentAt_L58 q n s y i g = some (y + sm (mw2 h s) i k) := by
  obtain ⟨B, r1, r2, r3, r4, r5, r6, r7, r8, r9, r10, r11⟩ := R
  obtain ⟨b1, b2, b3, b4, b5, b6, b7, b8, b9, b10, b11, -⟩ := id B
  intro k
  induction k with
  | zero =>
    intro n i y hi hn
    obtain ⟨n, rfl⟩ : ∃ m, n = m + 1 := ⟨n - 1, by omega⟩
    unfold fX1_momentAt_L58
    simp (disch := omega) only [if_true, if_false, if_pos, if_neg, wr_0, wr_id, gd_i, bnd_e, bd_s, bd2_s, jn_e, Int.toNat_natCast, r2]
    simp [sm]
  | succ k ih =>
    intro n i y hi hn
    obtain ⟨n, rfl⟩ : ∃ m, n = m + 1 := ⟨n - 1, by omega⟩
    unfold fX1_momentAt_L58
    have := b8 i
    have := b10 i
    have := b11 i
    have m2 := mb (x := s) (y := h 9 i) (A := 80) (B := 9) hs.1 hs.2 (by omega) (by omega)
    rw [show sm (mw2 h s) i (k + 1) = mw2 h s i + sm (mw2 h s) (i + 1) k from rfl, r6, r7, r8, r9]
    rw [show mw2 h s i = h 12 i * (100 * pl h s i + s * h 10 i) from rfl]
    by_cases c : 0 < h 12 i
    · by_cases d : h 12 i < h 11 i
      · have ep : pl h s i = (s * h 9 i).tdiv 100 := if_pos ⟨c, d⟩
        rw [ep]
        simp (disch := omega) only [if_true, if_false, if_pos, if_neg, wr_0, wr_id, gd_i, bnd_e, bd_s, bd2_s, jn_e, Int.toNat_natCast, r2, ncs]
        rw [ih n (i + 1) _ (by omega) (by omega)]
        congr 1; omega
      · have ep : pl h s i = 0 := if_neg (fun z => d z.2)
        rw [ep]
        simp (disch := omega) only [if_true, if_false, if_pos, if_neg, wr_0, wr_id, gd_i, bnd_e, bd_s, bd2_s, jn_e, Int.toNat_natCast, r2, ncs]
        rw [ih n (i + 1) _ (by omega) (by omega)]
        congr 1; omega
    · have ep : pl h s i = 0 := if_neg (fun z => c z.1)
      rw [ep]
      simp (disch := omega) only [if_true, if_false, if_pos, if_neg, wr_0, wr_id, gd_i, bnd_e, bd_s, bd2_s, jn_e, Int.toNat_natCast, r2, ncs]
      rw [ih n (i + 1) _ (by omega) (by omega)]
      congr 1; omega
theorem moment_e {g h : Mem} (R : RCargo g h) {q lot : Nat} (hq : ∀ j, j < 12 → g q j = h 18 (12 * lot + j)) {s : Int} (hs : -80 ≤ s ∧ s ≤ 80) : fX1_momentAt q s g = some (MW h lot s) := by
  have b1 := R.1.1
  have b2 := R.1.2.1
  unfold fX1_momentAt
  rw [show (0 : Int) = ((0 : Nat) : Int) from rfl, mom1_e R hq _ (h 0 4).toNat fuel 0 _ (by omega) (by rw [fuel_s]; omega), mom2_e R hs (h 0 10).toNat fuel 0 _ (by omega) (by rw [fuel_s]; omega)]
  unfold MW; congr 1; omega
