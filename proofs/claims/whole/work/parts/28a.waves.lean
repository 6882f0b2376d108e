/-! WAVES and what is read from the RECORD -/
theorem iAnd15 {a : Int} (h : 0 ≤ a ∧ a < 2147483648) : iAnd a 15 = a % 16 := by
  obtain ⟨n, rfl⟩ : ∃ n : Nat, a = n := ⟨a.toNat, by omega⟩
  have e : (Int32.ofInt (n : Int) &&& Int32.ofInt 15).toBitVec = BitVec.ofNat 32 (n % 16) := by
    apply BitVec.eq_of_toNat_eq
    rw [Int32.toBitVec_and, BitVec.toNat_and, BitVec.toNat_ofNat]
    show (BitVec.ofInt 32 (n : Int)).toNat &&& (BitVec.ofInt 32 15).toNat = _
    rw [BitVec.toNat_ofInt, BitVec.toNat_ofInt]
    rw [show ((n : Int) % ((2 ^ 32 : Nat) : Int)).toNat = n by omega, show ((15 : Int) % ((2 ^ 32 : Nat) : Int)).toNat = 2 ^ 4 - 1 by decide, Nat.and_two_pow_sub_one_eq_mod]
    omega
  unfold iAnd
  rw [← Int32.toInt_toBitVec, e, BitVec.toInt_eq_toNat_bmod, BitVec.toNat_ofNat]
  rw [Int.bmod_def]; omega
theorem sine_bd (j : Nat) (h : j < 16) : -1000 ≤ sineF j ∧ sineF j ≤ 1000 := by
  have : ∀ j : Fin 16, -1000 ≤ sineF j.val ∧ sineF j.val ≤ 1000 := by decide
  exact this ⟨j, h⟩
def sn (per ph : Int) (t : Nat) : Int := sineF (((t : Int) * 16 / per + ph) % 16).toNat
theorem sn_bd (per ph : Int) (t : Nat) : -1000 ≤ sn per ph t ∧ sn per ph t ≤ 1000 := sine_bd _ (by omega)
theorem phase_bd {per ph : Int} {t : Nat} (hp : 4 ≤ per ∧ per ≤ 64) (hh : 0 ≤ ph ∧ ph ≤ 15) (ht : t < 1000) : 0 ≤ (t : Int) * 16 / per + ph ∧ (t : Int) * 16 / per + ph ≤ 16015 := by
  have h1 : 0 ≤ (t : Int) * 16 / per := Int.ediv_nonneg (by omega) (by omega)
  have h2 : (t : Int) * 16 / per ≤ (t : Int) * 16 := Int.ediv_le_self _ (by omega)
  omega
theorem sineX_e {g : Mem} {per ph : Int} {t : Nat} (hp : 4 ≤ per ∧ per ≤ 64) (hh : 0 ≤ ph ∧ ph ≤ 15) (ht : t < 1000) : fX10_sineOf per ph t g = some (sn per ph t) := by
  have b := phase_bd hp hh ht
  unfold fX10_sineOf sn
  rw [wr_id (z := per) (by omega) (by omega), wr_id (z := (t : Int) * 16) (by omega) (by omega), Int.tdiv_eq_ediv_of_nonneg (by omega), iAnd15 (by omega), gc_of (by omega)]
  simp (disch := omega) only [if_true, if_false, if_pos, if_neg, wr_0, wr_id, gd_i, bnd_e, bd_s, bd2_s, jn_e, Int.toNat_natCast]
def RWaves (g h : Mem) : Prop := (0 ≤ h 0 18 ∧ h 0 18 ≤ 8) ∧ g 20 3 = h 0 18 ∧ g 21 = h 16 ∧ g 22 = h 17 ∧ (∀ j : Nat, (j : Int) < h 0 18 → (1 ≤ h 15 j ∧ h 15 j ≤ 60) ∧ (4 ≤ h 16 j ∧ h 16 j ≤ 64) ∧ (0 ≤ h 17 j ∧ h 17 j ≤ 15)) ∧ (∀ j, j < 16 → h 1 j = sineF j) ∧ (∀ t : Nat, t < 600 → g 23 t = sm (fun w => (h 15 w * sn (h 16 w) (h 17 w) t).tdiv 1000) 0 (h 0 18).toNat)
theorem sineM_e {g h : Mem} (R : RWaves g h) {w t : Nat} (hw : (w : Int) < h 0 18) (ht : t < 1000) : fX12_sineOf w t h = some (sn (h 16 w) (h 17 w) t) := by
  obtain ⟨r1, r2, r3, r4, r5, r6, r7⟩ := R
  obtain ⟨a1, a2, a3⟩ := r5 w hw
  have b := phase_bd a2 a3 ht
  unfold fX12_sineOf sn
  simp (disch := omega) only [if_true, if_false, if_pos, if_neg, wr_0, wr_id, gd_i, bnd_e, bd_s, bd2_s, jn_e, Int.toNat_natCast]
  rw [Int.tdiv_eq_ediv_of_nonneg (by omega), Int.mul_comm 16 (t : Int), wr_id (z := (t : Int) * 16 / h 16 w + h 17 w) (by omega) (by omega), Int.tmod_eq_emod_of_nonneg (by omega), gc_of (by omega)]
  simp (disch := omega) only [if_true, if_false, if_pos, if_neg, wr_0, wr_id, gd_i, bnd_e, bd_s, bd2_s, jn_e, Int.toNat_natCast]
  rw [r6 _ (by omega)]
def sea1 (h : Mem) (t w : Nat) : Int := (h 15 w * sn (h 16 w) (h 17 w) t).tdiv 1000
def SEA (h : Mem) (t : Nat) : Int := sm (sea1 h t) 0 (h 0 18).toNat
theorem sea1_bd {g h : Mem} (R : RWaves g h) {w : Nat} (hw : (w : Int) < h 0 18) (t : Nat) : (-60000 ≤ h 15 w * sn (h 16 w) (h 17 w) t ∧ h 15 w * sn (h 16 w) (h 17 w) t ≤ 60000) ∧ -60 ≤ sea1 h t w ∧ sea1 h t w ≤ 60 := by
  obtain ⟨a1, a2, a3⟩ := R.2.2.2.2.1 w hw
  have b := sn_bd (h 16 w) (h 17 w) t
  have m := mb (x := h 15 w) (y := sn (h 16 w) (h 17 w) t) (A := 60) (B := 1000) (by omega) (by omega) (by omega) (by omega)
  unfold sea1; rw [tdiv_c]; refine ⟨by omega, ?_⟩
  split <;> omega
theorem SEA_bd {g h : Mem} (R : RWaves g h) (t : Nat) : -480 ≤ SEA h t ∧ SEA h t ≤ 480 := by
  have r1 := R.1
  have := sm_bd (f := sea1 h t) (lo := -60) (hi := 60) (i := 0) (k := (h 0 18).toNat) (fun j _ hj => (sea1_bd R (by omega) t).2)
  unfold SEA; omega
theorem seaIn1_e {g h : Mem} (R : RWaves g h) {t : Nat} (ht : t < 1000) : ∀ (k n i : Nat) (y : Int), i + k = (h 0 18).toNat → k < n → fX12_seaIn_L4 n t y i h = some (y + sm (sea1 h t) i k) := by
  have r1 := R.1
  intro k
  induction k with
  | zero =>
    intro n i y hi hn
    obtain ⟨n, rfl⟩ : ∃ m, n = m + 1 := ⟨n - 1, by omega⟩
    unfold fX12_seaIn_L4
    simp (disch := omega) only [if_true, if_false, if_pos, if_neg, wr_0, wr_id, gd_i, bnd_e, bd_s, bd2_s, jn_e, Int.toNat_natCast]
    simp [sm]
  | succ k ih =>
    intro n i y hi hn
    obtain ⟨n, rfl⟩ : ∃ m, n = m + 1 := ⟨n - 1, by omega⟩
    unfold fX12_seaIn_L4
    have b := sea1_bd R (w := i) (by omega) t
    rw [sineM_e R (by omega) ht]
    simp (disch := omega) only [if_true, if_false, if_pos, if_neg, wr_0, wr_id, gd_i, bnd_e, bd_s, bd2_s, jn_e, Int.toNat_natCast, ncs]
    rw [show sm (sea1 h t) i (k + 1) = sea1 h t i + sm (sea1 h t) (i + 1) k from rfl]
    rw [ih n (i + 1) _ (by omega) (by omega)]
    unfold sea1
    congr 1; omega
theorem seaIn_e {g h : Mem} (R : RWaves g h) {t : Nat} (ht : t < 1000) : fX12_seaIn t h = some (SEA h t) := by
  have r1 := R.1
  unfold fX12_seaIn
  obtain ⟨F, hF, hF2⟩ := fuel_g
  rw [hF, show (0 : Int) = ((0 : Nat) : Int) from rfl, seaIn1_e R ht (h 0 18).toNat F 0 _ (by omega) (by omega)]
  unfold SEA; congr 1; omega
theorem pushX_e {g h : Mem} (R : RWaves g h) {t : Nat} (ht : t < 600) : fX10_pushIn t g = some (SEA h t) := by
  unfold fX10_pushIn
  simp (disch := omega) only [if_true, if_false, if_pos, if_neg, wr_0, wr_id, gd_i, bnd_e, bd_s, bd2_s, jn_e, Int.toNat_natCast]
  rw [R.2.2.2.2.2.2 t ht]; rfl
theorem sea_e {g h : Mem} (R : RWaves g h) {a : Int} (ha : IR a) : ∃ r r2, fX11_sea a g = some r ∧ fX12_sea a h = some r2 ∧ r = r2 := by
  unfold IR at ha
  unfold fX11_sea fX12_sea
  rw [within_e ha (by omega) (by omega), in_e ha (by omega) (by omega)]
  simp only [bd_s]
  by_cases c : 0 ≤ a ∧ a ≤ 599
  · obtain ⟨t, rfl⟩ : ∃ t : Nat, a = t := ⟨a.toNat, by omega⟩
    simp (disch := omega) only [if_true, if_false, if_pos, if_neg, wr_0, wr_id, gd_i, bnd_e, bd_s, bd2_s, jn_e, Int.toNat_natCast, if_pos c]
    rw [pushX_e R (by omega), seaIn_e R (by omega)]
    exact ⟨_, _, rfl, rfl, rfl⟩
  · simp (disch := omega) only [if_true, if_false, if_pos, if_neg, wr_0, wr_id, gd_i, bnd_e, bd_s, bd2_s, jn_e, Int.toNat_natCast, if_neg c]
    exact ⟨_, _, rfl, rfl, rfl⟩
def al1 (h : Mem) (w i : Nat) : Int := h 34 i * sn (h 16 w) (h 17 w) i
def AL (h : Mem) (w : Nat) : Int := sm (al1 h w) 0 (h 0 45).toNat
theorem AL_bd {g h : Mem} (R : RTape g h) (w : Nat) : -5120000 ≤ AL h w ∧ AL h w ≤ 5120000 := by
  obtain ⟨h1, h2, h3, h4⟩ := R
  have := sm_bd (f := al1 h w) (lo := -80000) (hi := 80000) (i := 0) (k := (h 0 45).toNat) (fun j _ hj => by
    have b := sn_bd (h 16 w) (h 17 w) j
    have c := h4 j (by omega)
    have m := mb (x := h 34 j) (y := sn (h 16 w) (h 17 w) j) (A := 80) (B := 1000) (by omega) (by omega) (by omega) (by omega)
    unfold al1; omega)
  unfold AL; omega
theorem goes1_e {g h : Mem} (R : RWaves g h) (T : RTape g h) {w : Nat} (hw : (w : Int) < h 0 18) : ∀ (k n i : Nat) (y : Int), i + k = (h 0 45).toNat → k < n → fX12_goesWith_L4 n w y i h = some (y + sm (al1 h w) i k) := by
  have r1 := R.1
  obtain ⟨h1, h2, h3, h4⟩ := T
  intro k
  induction k with
  | zero =>
    intro n i y hi hn
    obtain ⟨n, rfl⟩ : ∃ m, n = m + 1 := ⟨n - 1, by omega⟩
    unfold fX12_goesWith_L4
    simp (disch := omega) only [if_true, if_false, if_pos, if_neg, wr_0, wr_id, gd_i, bnd_e, bd_s, bd2_s, jn_e, Int.toNat_natCast]
    simp [sm]
  | succ k ih =>
    intro n i y hi hn
    obtain ⟨n, rfl⟩ : ∃ m, n = m + 1 := ⟨n - 1, by omega⟩
    unfold fX12_goesWith_L4
    rw [sineM_e R hw (by omega)]
    simp (disch := omega) only [if_true, if_false, if_pos, if_neg, wr_0, wr_id, gd_i, bnd_e, bd_s, bd2_s, jn_e, Int.toNat_natCast, ncs]
    rw [show sm (al1 h w) i (k + 1) = h 34 i * sn (h 16 w) (h 17 w) i + sm (al1 h w) (i + 1) k from rfl]
    rw [ih n (i + 1) _ (by omega) (by omega)]
    congr 1; omega
theorem goesWith_e {g h : Mem} (R : RWaves g h) (T : RTape g h) {w : Nat} (hw : (w : Int) < h 0 18) : fX12_goesWith w h = some (AL h w) := by
  have r1 := T.1
  unfold fX12_goesWith
  obtain ⟨F, hF, hF2⟩ := fuel_g
  rw [hF, show (0 : Int) = ((0 : Nat) : Int) from rfl, goes1_e R T hw (h 0 45).toNat F 0 _ (by omega) (by omega)]
  unfold AL; congr 1; omega
theorem along1_e {g h : Mem} (R : RWaves g h) (T : RTape g h) {w : Nat} (hw : (w : Int) < h 0 18) : ∀ (k n i : Nat) (y : Int), i + k = (h 0 45).toNat → k < n → fX10_along_L19 n w y i g = some (y + sm (al1 h w) i k) := by
  obtain ⟨r1, r2, r3, r4, r5, r6, r7⟩ := R
  obtain ⟨h1, h2, h3, h4⟩ := T
  obtain ⟨a1, a2, a3⟩ := r5 w hw
  intro k
  induction k with
  | zero =>
    intro n i y hi hn
    obtain ⟨n, rfl⟩ : ∃ m, n = m + 1 := ⟨n - 1, by omega⟩
    unfold fX10_along_L19
    simp (disch := omega) only [if_true, if_false, if_pos, if_neg, wr_0, wr_id, gd_i, bnd_e, bd_s, bd2_s, jn_e, Int.toNat_natCast, h2]
    simp [sm]
  | succ k ih =>
    intro n i y hi hn
    obtain ⟨n, rfl⟩ : ∃ m, n = m + 1 := ⟨n - 1, by omega⟩
    unfold fX10_along_L19
    rw [r3, r4]
    simp (disch := omega) only [if_true, if_false, if_pos, if_neg, wr_0, wr_id, gd_i, bnd_e, bd_s, bd2_s, jn_e, Int.toNat_natCast, ncs, h2]
    rw [sineX_e a2 a3 (by omega)]
    simp (disch := omega) only [if_true, if_false, if_pos, if_neg, wr_0, wr_id, gd_i, bnd_e, bd_s, bd2_s, jn_e, Int.toNat_natCast, ncs, h2]
    rw [show sm (al1 h w) i (k + 1) = h 34 i * sn (h 16 w) (h 17 w) i + sm (al1 h w) (i + 1) k from rfl]
    rw [ih n (i + 1) _ (by omega) (by omega), h3 i (by omega)]
    congr 1; omega
theorem along_e {g h : Mem} (R : RWaves g h) (T : RTape g h) {w : Nat} (hw : (w : Int) < h 0 18) : fX10_along w g = some (AL h w) := by
  have r1 := T.1
  have r2 := R.1
  have r3 := R.2.1
  unfold fX10_along
  obtain ⟨F, hF, hF2⟩ := fuel_g
  simp (disch := omega) only [if_true, if_false, if_pos, if_neg, wr_0, wr_id, gd_i, bnd_e, bd_s, bd2_s, jn_e, Int.toNat_natCast, r3]
  rw [hF, show (0 : Int) = ((0 : Nat) : Int) from rfl, along1_e R T hw (h 0 45).toNat F 0 _ (by omega) (by omega)]
  unfold AL; congr 1; omega
theorem goes_e {g h : Mem} (R : RWaves g h) (T : RTape g h) {a : Int} (ha : IR a) : ∃ r r2, fX11_goes a g = some r ∧ fX12_goes a h = some r2 ∧ r = r2 := by
  unfold IR at ha
  have r2 := R.1
  unfold fX11_goes fX12_goes
  rw [R.2.1, within_e ha (by omega) (by omega), in_e ha (by omega) (by omega)]
  simp only [bd_s]
  by_cases c : 0 ≤ a ∧ a ≤ h 0 18 - 1
  · obtain ⟨t, rfl⟩ : ∃ t : Nat, a = t := ⟨a.toNat, by omega⟩
    simp (disch := omega) only [if_true, if_false, if_pos, if_neg, wr_0, wr_id, gd_i, bnd_e, bd_s, bd2_s, jn_e, Int.toNat_natCast, if_pos c]
    rw [along_e R T (by omega), goesWith_e R T (by omega)]
    exact ⟨_, _, rfl, rfl, rfl⟩
  · simp (disch := omega) only [if_true, if_false, if_pos, if_neg, wr_0, wr_id, gd_i, bnd_e, bd_s, bd2_s, jn_e, Int.toNat_natCast, if_neg c]
    exact ⟨_, _, rfl, rfl, rfl⟩
def rt (h : Mem) (t : Nat) : Int := if 0 < t ∧ 0 ≤ h 34 t ∧ h 34 (t - 1) < 0 then 1 else 0
def gm (h : Mem) : Nat → Nat → Int → Int
  | _, 0, y => y
  | i, k + 1, y => gm h (i + 1) k (if y < (h 34 i).natAbs then (h 34 i).natAbs else y)
theorem riseX_e {g h : Mem} (T : RTape g h) : ∀ (k n i : Nat) (y : Int), 0 < i → i + k = (h 0 45).toNat → k < n → fX8_rises_L4 n y i g = some (y + sm (rt h) i k) := by
  obtain ⟨h1, h2, h3, h4⟩ := T
  intro k
  induction k with
  | zero =>
    intro n i y h0 hi hn
    obtain ⟨n, rfl⟩ : ∃ m, n = m + 1 := ⟨n - 1, by omega⟩
    unfold fX8_rises_L4
    simp (disch := omega) only [if_true, if_false, if_pos, if_neg, wr_0, wr_id, gd_i, bnd_e, bd_s, bd2_s, jn_e, Int.toNat_natCast, h2]
    simp [sm]
  | succ k ih =>
    intro n i y h0 hi hn
    obtain ⟨n, rfl⟩ : ∃ m, n = m + 1 := ⟨n - 1, by omega⟩
    unfold fX8_rises_L4
    have a1 := h3 i (by omega)
    have a2 := h3 (i - 1) (by omega)
    have b1 := h4 i (by omega)
    have b2 := h4 (i - 1) (by omega)
    have e : ((i : Int) - 1).toNat = i - 1 := by omega
    rw [show sm (rt h) i (k + 1) = rt h i + sm (rt h) (i + 1) k from rfl]
    by_cases c : h 34 i < 0
    · rw [show rt h i = 0 from if_neg (by omega)]
      simp (disch := omega) only [if_true, if_false, if_pos, if_neg, wr_0, wr_id, gd_i, bnd_e, bd_s, bd2_s, jn_e, Int.toNat_natCast, ncs, h2, e, a1, a2]
      rw [ih n (i + 1) _ (by omega) (by omega) (by omega)]
      congr 1; omega
    · by_cases d : 0 ≤ h 34 (i - 1)
      · rw [show rt h i = 0 from if_neg (by omega)]
        simp (disch := omega) only [if_true, if_false, if_pos, if_neg, wr_0, wr_id, gd_i, bnd_e, bd_s, bd2_s, jn_e, Int.toNat_natCast, ncs, h2, e, a1, a2]
        rw [ih n (i + 1) _ (by omega) (by omega) (by omega)]
        congr 1; omega
      · rw [show rt h i = 1 from if_pos (by omega)]
        simp (disch := omega) only [if_true, if_false, if_pos, if_neg, wr_0, wr_id, gd_i, bnd_e, bd_s, bd2_s, jn_e, Int.toNat_natCast, ncs, h2, e, a1, a2]
        rw [ih n (i + 1) _ (by omega) (by omega) (by omega)]
        congr 1; omega
theorem squX_e {g h : Mem} (T : RTape g h) : ∀ (k n i : Nat) (y : Int), i + k = (h 0 45).toNat → k < n → fX8_squares_L4 n y i g = some (y + sm (fun t => h 34 t * h 34 t) i k) := by
  obtain ⟨h1, h2, h3, h4⟩ := T
  intro k
  induction k with
  | zero =>
    intro n i y hi hn
    obtain ⟨n, rfl⟩ : ∃ m, n = m + 1 := ⟨n - 1, by omega⟩
    unfold fX8_squares_L4
    simp (disch := omega) only [if_true, if_false, if_pos, if_neg, wr_0, wr_id, gd_i, bnd_e, bd_s, bd2_s, jn_e, Int.toNat_natCast, h2]
    simp [sm]
  | succ k ih =>
    intro n i y hi hn
    obtain ⟨n, rfl⟩ : ∃ m, n = m + 1 := ⟨n - 1, by omega⟩
    unfold fX8_squares_L4
    have a1 := h3 i (by omega)
    rw [show sm (fun t => h 34 t * h 34 t) i (k + 1) = h 34 i * h 34 i + sm (fun t => h 34 t * h 34 t) (i + 1) k from rfl]
    simp (disch := omega) only [if_true, if_false, if_pos, if_neg, wr_0, wr_id, gd_i, bnd_e, bd_s, bd2_s, jn_e, Int.toNat_natCast, ncs, h2, a1]
    rw [ih n (i + 1) _ (by omega) (by omega)]
    congr 1; omega
theorem greX_e {g h : Mem} (T : RTape g h) : ∀ (k n i : Nat) (y : Int), 0 ≤ y → y ≤ 80 → i + k = (h 0 45).toNat → k < n → fX8_greatest_L4 n y i g = some (gm h i k y) := by
  obtain ⟨h1, h2, h3, h4⟩ := T
  intro k
  induction k with
  | zero =>
    intro n i y hy1 hy2 hi hn
    obtain ⟨n, rfl⟩ : ∃ m, n = m + 1 := ⟨n - 1, by omega⟩
    unfold fX8_greatest_L4
    simp (disch := omega) only [if_true, if_false, if_pos, if_neg, wr_0, wr_id, gd_i, bnd_e, bd_s, bd2_s, jn_e, Int.toNat_natCast, h2]
    rfl
  | succ k ih =>
    intro n i y hy1 hy2 hi hn
    obtain ⟨n, rfl⟩ : ∃ m, n = m + 1 := ⟨n - 1, by omega⟩
    unfold fX8_greatest_L4
    have a1 := h3 i (by omega)
    have b1 := h4 i (by omega)
    simp (disch := omega) only [if_true, if_false, if_pos, if_neg, wr_0, wr_id, gd_i, bnd_e, bd_s, bd2_s, jn_e, Int.toNat_natCast, ncs, h2, a1, mAbs_e, mMax_e]
    rw [ih n (i + 1) _ (by split <;> omega) (by split <;> omega) (by omega) (by omega)]
    rfl
theorem readM1_e {g h : Mem} (T : RTape g h) : ∀ (k n i : Nat) (y : Int), i + k = (h 0 45).toNat → k < n → fX12_read_L77 n 1 y i h = some (y + sm (rt h) i k) := by
  obtain ⟨h1, h2, h3, h4⟩ := T
  intro k
  induction k with
  | zero =>
    intro n i y hi hn
    obtain ⟨n, rfl⟩ : ∃ m, n = m + 1 := ⟨n - 1, by omega⟩
    unfold fX12_read_L77
    simp (disch := omega) only [if_true, if_false, if_pos, if_neg, wr_0, wr_id, gd_i, bnd_e, bd_s, bd2_s, jn_e, Int.toNat_natCast]
    simp [sm]
  | succ k ih =>
    intro n i y hi hn
    obtain ⟨n, rfl⟩ : ∃ m, n = m + 1 := ⟨n - 1, by omega⟩
    unfold fX12_read_L77
    have b1 := h4 i (by omega)
    have b2 := h4 (i - 1) (by omega)
    rw [show sm (rt h) i (k + 1) = rt h i + sm (rt h) (i + 1) k from rfl]
    by_cases z : i = 0
    · rw [show rt h i = 0 from if_neg (by omega)]
      simp (disch := omega) only [if_true, if_false, if_pos, if_neg, wr_0, wr_id, gd_i, bnd_e, bd_s, bd2_s, jn_e, Int.toNat_natCast, ncs]
      rw [ih n (i + 1) _ (by omega) (by omega)]
      congr 1; omega
    have e : ((i : Int) - 1).toNat = i - 1 := by omega
    by_cases c : h 34 i < 0
    · rw [show rt h i = 0 from if_neg (by omega)]
      simp (disch := omega) only [if_true, if_false, if_pos, if_neg, wr_0, wr_id, gd_i, bnd_e, bd_s, bd2_s, jn_e, Int.toNat_natCast, ncs, e]
      rw [ih n (i + 1) _ (by omega) (by omega)]
      congr 1; omega
    · by_cases d : 0 ≤ h 34 (i - 1)
      · rw [show rt h i = 0 from if_neg (by omega)]
        simp (disch := omega) only [if_true, if_false, if_pos, if_neg, wr_0, wr_id, gd_i, bnd_e, bd_s, bd2_s, jn_e, Int.toNat_natCast, ncs, e]
        rw [ih n (i + 1) _ (by omega) (by omega)]
        congr 1; omega
      · rw [show rt h i = 1 from if_pos (by omega)]
        simp (disch := omega) only [if_true, if_false, if_pos, if_neg, wr_0, wr_id, gd_i, bnd_e, bd_s, bd2_s, jn_e, Int.toNat_natCast, ncs, e]
        rw [ih n (i + 1) _ (by omega) (by omega)]
        congr 1; omega
theorem readM2_e {g h : Mem} (T : RTape g h) : ∀ (k n i : Nat) (y : Int), i + k = (h 0 45).toNat → k < n → fX12_read_L77 n 2 y i h = some (y + sm (fun t => h 34 t * h 34 t) i k) := by
  obtain ⟨h1, h2, h3, h4⟩ := T
  intro k
  induction k with
  | zero =>
    intro n i y hi hn
    obtain ⟨n, rfl⟩ : ∃ m, n = m + 1 := ⟨n - 1, by omega⟩
    unfold fX12_read_L77
    simp (disch := omega) only [if_true, if_false, if_pos, if_neg, wr_0, wr_id, gd_i, bnd_e, bd_s, bd2_s, jn_e, Int.toNat_natCast]
    simp [sm]
  | succ k ih =>
    intro n i y hi hn
    obtain ⟨n, rfl⟩ : ∃ m, n = m + 1 := ⟨n - 1, by omega⟩
    unfold fX12_read_L77
    rw [show sm (fun t => h 34 t * h 34 t) i (k + 1) = h 34 i * h 34 i + sm (fun t => h 34 t * h 34 t) (i + 1) k from rfl]
    simp (disch := omega) only [if_true, if_false, if_pos, if_neg, wr_0, wr_id, gd_i, bnd_e, bd_s, bd2_s, jn_e, Int.toNat_natCast, ncs]
    rw [ih n (i + 1) _ (by omega) (by omega)]
    congr 1; omega
theorem far_e {a : Int} (h : -2147483647 ≤ a ∧ a < 2147483648) : fX12_far a = some (a.natAbs : Int) := by
  unfold fX12_far; rw [wr_id (by omega) (by omega)]; split <;> congr 1 <;> omega
theorem readM3_e {g h : Mem} (T : RTape g h) : ∀ (k n i : Nat) (y : Int), 0 ≤ y → y ≤ 80 → i + k = (h 0 45).toNat → k < n → fX12_read_L77 n 3 y i h = some (gm h i k y) := by
  obtain ⟨h1, h2, h3, h4⟩ := T
  intro k
  induction k with
  | zero =>
    intro n i y hy1 hy2 hi hn
    obtain ⟨n, rfl⟩ : ∃ m, n = m + 1 := ⟨n - 1, by omega⟩
    unfold fX12_read_L77
    simp (disch := omega) only [if_true, if_false, if_pos, if_neg, wr_0, wr_id, gd_i, bnd_e, bd_s, bd2_s, jn_e, Int.toNat_natCast]
    rfl
  | succ k ih =>
    intro n i y hy1 hy2 hi hn
    obtain ⟨n, rfl⟩ : ∃ m, n = m + 1 := ⟨n - 1, by omega⟩
    unfold fX12_read_L77
    have b1 := h4 i (by omega)
    rw [show gm h i (k + 1) y = gm h (i + 1) k (if y < (h 34 i).natAbs then (h 34 i).natAbs else y) from rfl]
    by_cases c : y < (h 34 i).natAbs
    · simp (disch := omega) only [if_true, if_false, if_pos, if_neg, wr_0, wr_id, gd_i, bnd_e, bd_s, bd2_s, jn_e, Int.toNat_natCast, ncs, far_e, if_pos c]
      rw [ih n (i + 1) _ (by omega) (by omega) (by omega) (by omega)]
    · simp (disch := omega) only [if_true, if_false, if_pos, if_neg, wr_0, wr_id, gd_i, bnd_e, bd_s, bd2_s, jn_e, Int.toNat_natCast, ncs, far_e, if_neg c]
      rw [ih n (i + 1) _ (by omega) (by omega) (by omega) (by omega)]
def sk (h : Mem) : Nat → Nat → Nat → Nat
  | _, 0, y => y
  | i, k + 1, y => sk h (i + 1) k (if (AL h y).natAbs < (AL h i).natAbs then i else y)
theorem seenX_e {g h : Mem} (R : RWaves g h) (T : RTape g h) : ∀ (k n i y : Nat), (y : Int) < h 0 18 → i + k = (h 0 18).toNat → k < n → fX11_findSeen_L18 n y (AL h y).natAbs i g = some (sk h i k y : Int) := by
  have r1 := R.1
  have r2 := R.2.1
  intro k
  induction k with
  | zero =>
    intro n i y hy hi hn
    obtain ⟨n, rfl⟩ : ∃ m, n = m + 1 := ⟨n - 1, by omega⟩
    unfold fX11_findSeen_L18
    simp (disch := omega) only [if_true, if_false, if_pos, if_neg, wr_0, wr_id, gd_i, bnd_e, bd_s, bd2_s, jn_e, Int.toNat_natCast, r2]
    rfl
  | succ k ih =>
    intro n i y hy hi hn
    obtain ⟨n, rfl⟩ : ∃ m, n = m + 1 := ⟨n - 1, by omega⟩
    unfold fX11_findSeen_L18
    have b1 := AL_bd T i
    have b2 := AL_bd T y
    rw [along_e R T (by omega)]
    rw [show sk h i (k + 1) y = sk h (i + 1) k (if (AL h y).natAbs < (AL h i).natAbs then i else y) from rfl]
    by_cases c : (AL h y).natAbs < (AL h i).natAbs
    · simp (disch := omega) only [if_true, if_false, if_pos, if_neg, wr_0, wr_id, gd_i, bnd_e, bd_s, bd2_s, jn_e, Int.toNat_natCast, ncs, r2, mAbs_e, if_pos c]
      rw [ih n (i + 1) _ (by omega) (by omega) (by omega)]
    · simp (disch := omega) only [if_true, if_false, if_pos, if_neg, wr_0, wr_id, gd_i, bnd_e, bd_s, bd2_s, jn_e, Int.toNat_natCast, ncs, r2, mAbs_e, if_neg c]
      rw [ih n (i + 1) _ (by omega) (by omega) (by omega)]
theorem seenM_e {g h : Mem} (R : RWaves g h) (T : RTape g h) (K : Int → Option Int) : ∀ (k n i y : Nat), (y : Int) < h 0 18 → i + k = (h 0 18).toNat → k < n → fX12_read_L20 n y i h K = K (sk h i k y : Int) := by
  have r1 := R.1
  intro k
  induction k with
  | zero =>
    intro n i y hy hi hn
    obtain ⟨n, rfl⟩ : ∃ m, n = m + 1 := ⟨n - 1, by omega⟩
    unfold fX12_read_L20
    simp (disch := omega) only [if_true, if_false, if_pos, if_neg, wr_0, wr_id, gd_i, bnd_e, bd_s, bd2_s, jn_e, Int.toNat_natCast]
    rfl
  | succ k ih =>
    intro n i y hy hi hn
    obtain ⟨n, rfl⟩ : ∃ m, n = m + 1 := ⟨n - 1, by omega⟩
    unfold fX12_read_L20
    have b1 := AL_bd T i
    have b2 := AL_bd T y
    rw [goesWith_e R T (w := i) (by omega), goesWith_e R T (w := y) (by omega)]
    rw [show sk h i (k + 1) y = sk h (i + 1) k (if (AL h y).natAbs < (AL h i).natAbs then i else y) from rfl]
    by_cases c : (AL h y).natAbs < (AL h i).natAbs
    · simp (disch := omega) only [if_true, if_false, if_pos, if_neg, wr_0, wr_id, gd_i, bnd_e, bd_s, bd2_s, jn_e, Int.toNat_natCast, ncs, far_e, if_pos c]
      rw [ih n (i + 1) _ (by omega) (by omega) (by omega)]
    · simp (disch := omega) only [if_true, if_false, if_pos, if_neg, wr_0, wr_id, gd_i, bnd_e, bd_s, bd2_s, jn_e, Int.toNat_natCast, ncs, far_e, if_neg c]
      rw [ih n (i + 1) _ (by omega) (by omega) (by omega)]
theorem read_e {g h : Mem} (R : RWaves g h) (T : RTape g h) {a : Int} (ha : IR a) : ∃ r r2, fX11_read a g = some r ∧ fX12_read a h = some r2 ∧ r = r2 := by
  unfold IR at ha
  have r1 := R.1
  have r2 := R.2.1
  have t1 := T.1
  have t2 := T.2.1
  obtain ⟨F, hF, hF2⟩ := fuel_g
  unfold fX11_read fX12_read
  rw [in_e ha (by omega) (by omega), wr_id ha.1 ha.2, bd_s]
  by_cases c0 : a = 0
  · subst c0
    simp (disch := omega) only [if_true, if_false, if_pos, if_neg, wr_0, wr_id, gd_i, bnd_e, bd_s, bd2_s, jn_e, Int.toNat_natCast]
    unfold fX11_findSeen
    rw [hF, t2]
    by_cases z : h 0 18 = 0
    · obtain ⟨F, rfl⟩ : ∃ m, F = m + 1 := ⟨F - 1, by omega⟩
      unfold fX11_findSeen_L18 fX12_read_L20
      by_cases y : h 0 45 = 0
      · simp (disch := omega) only [if_true, if_false, if_pos, if_neg, wr_0, wr_id, gd_i, bnd_e, bd_s, bd2_s, jn_e, Int.toNat_natCast, r2, z, y]
        exact ⟨_, _, rfl, rfl, rfl⟩
      · simp (disch := omega) only [if_true, if_false, if_pos, if_neg, wr_0, wr_id, gd_i, bnd_e, bd_s, bd2_s, jn_e, Int.toNat_natCast, r2, z]
        exact ⟨_, _, rfl, rfl, rfl⟩
    · rw [show (0 : Int) = ((0 : Nat) : Int) from rfl, show (1 : Int) = ((1 : Nat) : Int) from rfl, seenM_e R T _ ((h 0 18).toNat - 1) F 1 0 (by omega) (by omega) (by omega)]
      by_cases y : h 0 45 = 0
      · simp (disch := omega) only [if_true, if_false, if_pos, if_neg, wr_0, wr_id, gd_i, bnd_e, bd_s, bd2_s, jn_e, Int.toNat_natCast, y]
        exact ⟨_, _, rfl, rfl, rfl⟩
      · obtain ⟨F, rfl⟩ : ∃ m, F = m + 1 := ⟨F - 1, by omega⟩
        unfold fX11_findSeen_L18
        have b1 := AL_bd T 0
        rw [along_e R T (by omega)]
        simp (disch := omega) only [if_true, if_false, if_pos, if_neg, wr_0, wr_id, gd_i, bnd_e, bd_s, bd2_s, jn_e, Int.toNat_natCast, r2, mAbs_e, ncs]
        rw [seenX_e R T ((h 0 18).toNat - 1) F 1 0 (by omega) (by omega) (by omega)]
        exact ⟨_, _, rfl, rfl, rfl⟩
  by_cases c1 : a = 1
  · subst c1
    simp (disch := omega) only [if_true, if_false, if_pos, if_neg, wr_0, wr_id, gd_i, bnd_e, bd_s, bd2_s, jn_e, Int.toNat_natCast]
    unfold fX8_rises
    rw [hF, show (0 : Int) = ((0 : Nat) : Int) from rfl, show (1 : Int) = ((1 : Nat) : Int) from rfl]
    have e2 := readM1_e T (h 0 45).toNat F 0 0 (by omega) (by omega)
    by_cases z : h 0 45 = 0
    · obtain ⟨F, rfl⟩ : ∃ m, F = m + 1 := ⟨F - 1, by omega⟩
      unfold fX8_rises_L4
      refine ⟨0, _, ?_, e2, ?_⟩
      · simp (disch := omega) only [if_true, if_false, if_pos, if_neg, wr_0, wr_id, gd_i, bnd_e, bd_s, bd2_s, jn_e, Int.toNat_natCast, t2, z]
        rfl
      · rw [z]; rfl
    · rw [riseX_e T ((h 0 45).toNat - 1) F 1 _ (by omega) (by omega) (by omega)]
      refine ⟨_, _, rfl, e2, ?_⟩
      obtain ⟨k, hk⟩ : ∃ k, (h 0 45).toNat = k + 1 := ⟨(h 0 45).toNat - 1, by omega⟩
      rw [hk, show sm (rt h) 0 (k + 1) = rt h 0 + sm (rt h) 1 k from rfl, show rt h 0 = 0 from if_neg (by omega)]
      simp
  by_cases c2 : a = 2
  · subst c2
    simp (disch := omega) only [if_true, if_false, if_pos, if_neg, wr_0, wr_id, gd_i, bnd_e, bd_s, bd2_s, jn_e, Int.toNat_natCast]
    unfold fX8_squares
    rw [hF, show (0 : Int) = ((0 : Nat) : Int) from rfl, squX_e T (h 0 45).toNat F 0 _ (by omega) (by omega)]
    exact ⟨_, _, rfl, readM2_e T (h 0 45).toNat F 0 _ (by omega) (by omega), rfl⟩
  by_cases c3 : a = 3
  · subst c3
    simp (disch := omega) only [if_true, if_false, if_pos, if_neg, wr_0, wr_id, gd_i, bnd_e, bd_s, bd2_s, jn_e, Int.toNat_natCast]
    unfold fX8_greatest
    rw [hF, show (0 : Int) = ((0 : Nat) : Int) from rfl, greX_e T (h 0 45).toNat F 0 _ (by omega) (by omega) (by omega) (by omega)]
    exact ⟨_, _, rfl, readM3_e T (h 0 45).toNat F 0 _ (by omega) (by omega) (by omega) (by omega), rfl⟩
  simp (disch := omega) only [if_true, if_false, if_pos, if_neg, wr_0, wr_id, gd_i, bnd_e, bd_s, bd2_s, jn_e, Int.toNat_natCast]
  exact ⟨_, _, rfl, rfl, rfl⟩
