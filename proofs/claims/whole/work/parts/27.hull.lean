/-! THE HULL: boxes row by row against sums of columns -/
def ix (hf : Int) (i : Nat) : Int := if -hf ≤ (i : Int) - 9 ∧ (i : Int) - 9 < hf then 1 else 0
def lx (hf : Int) (i : Nat) : Int := if -hf ≤ (i : Int) - 9 ∧ (i : Int) - 9 < hf then 2 * ((i : Int) - 9) + 1 else 0
def cn (hf : Int) (c : Nat) : Int := sm (ix hf) c (19 - c)
def cl (hf : Int) (c : Nat) : Int := sm (lx hf) c (19 - c)
def wx (s lv : Int) (z : Nat) (hf : Int) (i : Nat) : Int := if (-hf ≤ (i : Int) - 9 ∧ (i : Int) - 9 < hf) ∧ 100 * (2 * (z : Int) + 1) ≤ lv + s * (2 * ((i : Int) - 9) + 1) then 1 else 0
def qx (s lv : Int) (z : Nat) (hf : Int) (i : Nat) : Int := if (-hf ≤ (i : Int) - 9 ∧ (i : Int) - 9 < hf) ∧ 100 * (2 * (z : Int) + 1) ≤ lv + s * (2 * ((i : Int) - 9) + 1) then 100 * (2 * ((i : Int) - 9) + 1) + s * (2 * (z : Int) + 1) else 0
def rc (s lv : Int) (z : Nat) (hf : Int) : Int := sm (wx s lv z hf) 0 18
def rq (s lv : Int) (z : Nat) (hf : Int) : Int := sm (qx s lv z hf) 0 18
theorem cn_w {hf : Int} (h : hf ≤ 9) {c : Nat} (hc : c ≤ 18) : cn hf c = sm (fun i => if c ≤ i then ix hf i else 0) 0 18 := by
  unfold cn
  rw [sm_win (ix hf) (a := c) (k := 19 - c) (N := 18 + 1) (by omega), sm_last]
  rw [show (if c ≤ 0 + 18 ∧ 0 + 18 < c + (19 - c) then ix hf (0 + 18) else 0) = 0 by unfold ix; split <;> (try split) <;> omega, Int.add_zero]
  exact sm_congr (fun j h1 h2 => by by_cases d : c ≤ j <;> simp [d]; omega)
theorem cl_w {hf : Int} (h : hf ≤ 9) {c : Nat} (hc : c ≤ 18) : cl hf c = sm (fun i => if c ≤ i then lx hf i else 0) 0 18 := by
  unfold cl
  rw [sm_win (lx hf) (a := c) (k := 19 - c) (N := 18 + 1) (by omega), sm_last]
  rw [show (if c ≤ 0 + 18 ∧ 0 + 18 < c + (19 - c) then lx hf (0 + 18) else 0) = 0 by unfold lx; split <;> (try split) <;> omega, Int.add_zero]
  exact sm_congr (fun j h1 h2 => by by_cases d : c ≤ j <;> simp [d]; omega)
theorem rc_cn {s lv hf : Int} {z c : Nat} (h : hf ≤ 9) (hc : c ≤ 18) (hw : ∀ i : Nat, i < 18 → (100 * (2 * (z : Int) + 1) ≤ lv + s * (2 * ((i : Int) - 9) + 1) ↔ c ≤ i)) : rc s lv z hf = cn hf c := by
  rw [cn_w h hc]; unfold rc
  refine sm_congr (fun j h1 h2 => ?_)
  have := hw j (by omega)
  unfold wx ix; simp only [this]
  by_cases d : c ≤ j <;> simp [d]
theorem rq_cl {s lv hf : Int} {z c : Nat} (h : hf ≤ 9) (hc : c ≤ 18) (hw : ∀ i : Nat, i < 18 → (100 * (2 * (z : Int) + 1) ≤ lv + s * (2 * ((i : Int) - 9) + 1) ↔ c ≤ i)) : rq s lv z hf = 100 * cl hf c + s * (2 * (z : Int) + 1) * cn hf c := by
  rw [cn_w h hc, cl_w h hc, ← sm_mul, ← sm_mul, ← sm_add]; unfold rq
  refine sm_congr (fun j h1 h2 => ?_)
  have := hw j (by omega)
  unfold qx ix lx; simp only [this]
  by_cases d : c ≤ j <;> simp [d]
  by_cases e : -hf ≤ (j : Int) - 9 ∧ (j : Int) - 9 < hf <;> simp [e]
theorem rc_neg (t lv : Int) (z : Nat) (hf : Int) : rc (-t) lv z hf = rc t lv z hf := by
  unfold rc; rw [sm_mirror]
  refine sm_congr (fun j h1 h2 => ?_)
  unfold wx
  have e : -t * (2 * (((17 - j : Nat) : Int) - 9) + 1) = t * (2 * ((j : Int) - 9) + 1) := by
    rw [show (((17 - j : Nat) : Int)) = 17 - (j : Int) by omega, Int.neg_mul, ← Int.mul_neg]; congr 1; omega
  rw [e]
  have e2 : (-hf ≤ ((17 - j : Nat) : Int) - 9 ∧ ((17 - j : Nat) : Int) - 9 < hf) ↔ (-hf ≤ (j : Int) - 9 ∧ (j : Int) - 9 < hf) := by omega
  simp only [e2]
theorem rq_neg (t lv : Int) (z : Nat) (hf : Int) : rq (-t) lv z hf = -rq t lv z hf := by
  unfold rq
  rw [sm_mirror, show -sm (qx t lv z hf) 0 18 = (-1) * sm (qx t lv z hf) 0 18 by omega, ← sm_mul]
  refine sm_congr (fun j h1 h2 => ?_)
  unfold qx
  have e : -t * (2 * (((17 - j : Nat) : Int) - 9) + 1) = t * (2 * ((j : Int) - 9) + 1) := by
    rw [show (((17 - j : Nat) : Int)) = 17 - (j : Int) by omega, Int.neg_mul, ← Int.mul_neg]; congr 1; omega
  rw [e]
  have e2 : (-hf ≤ ((17 - j : Nat) : Int) - 9 ∧ ((17 - j : Nat) : Int) - 9 < hf) ↔ (-hf ≤ (j : Int) - 9 ∧ (j : Int) - 9 < hf) := by omega
  simp only [e2, Int.neg_mul]
  split <;> omega
theorem rc_bd (s lv : Int) (z : Nat) (hf : Int) : 0 ≤ rc s lv z hf ∧ rc s lv z hf ≤ 18 := by
  have := sm_bd (f := wx s lv z hf) (lo := 0) (hi := 1) (i := 0) (k := 18) (fun j _ _ => by unfold wx; split <;> omega)
  unfold rc; omega
theorem sm_nn {f : Nat → Int} {i k : Nat} (h : ∀ j, i ≤ j → j < i + k → 0 ≤ f j) : 0 ≤ sm f i k := by
  induction k generalizing i with
  | zero => exact Int.le_refl 0
  | succ k ih =>
    have a := h i (by omega) (by omega)
    have b := ih (i := i + 1) (fun j h1 h2 => h j (by omega) (by omega))
    show 0 ≤ f i + sm f (i + 1) k
    omega
theorem rq_bd {s : Int} (lv : Int) {z : Nat} (hf : Int) (hs : -80 ≤ s ∧ s ≤ 80) (hz : z < 10) : -(3320 * rc s lv z hf) ≤ rq s lv z hf ∧ rq s lv z hf ≤ 3320 * rc s lv z hf := by
  have key : ∀ j : Nat, j < 18 → 0 ≤ 3320 * wx s lv z hf j + qx s lv z hf j ∧ 0 ≤ 3320 * wx s lv z hf j + (-1) * qx s lv z hf j := by
    intro j hj
    have := mb (x := s) (y := 2 * (z : Int) + 1) (A := 80) (B := 19) hs.1 hs.2 (by omega) (by omega)
    unfold wx qx
    by_cases d : (-hf ≤ (j : Int) - 9 ∧ (j : Int) - 9 < hf) ∧ 100 * (2 * (z : Int) + 1) ≤ lv + s * (2 * ((j : Int) - 9) + 1)
    · rw [if_pos d, if_pos d]; omega
    · rw [if_neg d, if_neg d]; omega
  have h1 := sm_nn (f := fun j => 3320 * wx s lv z hf j + qx s lv z hf j) (i := 0) (k := 18) (fun j _ h => (key j (by omega)).1)
  have h2 := sm_nn (f := fun j => 3320 * wx s lv z hf j + (-1) * qx s lv z hf j) (i := 0) (k := 18) (fun j _ h => (key j (by omega)).2)
  rw [sm_add, sm_mul] at h1 h2
  rw [sm_mul] at h2
  unfold rc rq; omega
def fw (z : Nat) (t lv : Int) : Nat := if t ≤ 0 then (if 0 < 100 * (2 * (z : Int) + 1) - lv then 18 else 0) else (max 0 (min 18 ((-((-(100 * (2 * (z : Int) + 1) - lv)) / t)) / 2 + 9))).toNat
theorem fw_le (z : Nat) (t lv : Int) : fw z t lv ≤ 18 := by
  unfold fw; split
  · split <;> omega
  · omega
theorem firstWet_e {z : Nat} {t lv : Int} (hz : z < 10) (ht : 0 ≤ t ∧ t ≤ 80) (hl : -2000 ≤ lv ∧ lv ≤ 4000) : fX3_firstWet (z : Int) t lv = some ((fw z t lv : Nat) : Int) := by
  unfold fX3_firstWet fw
  rw [bnd_e, wr_id (z := t) (by omega) (by omega)]
  by_cases c : t ≤ 0
  · rw [if_neg (by omega), if_pos c, wr_id (by omega) (by omega)]
    by_cases d : 0 < 100 * (2 * (z : Int) + 1) - lv
    · rw [if_neg (by omega), if_pos d]; rfl
    · rw [if_pos (by omega), if_neg d]; rfl
  · have hb : -6000 ≤ -(100 * (2 * (z : Int) + 1) - lv) ∧ -(100 * (2 * (z : Int) + 1) - lv) ≤ 6000 := by omega
    rw [if_pos (by omega), if_neg c, fdiv_e (by omega) (by omega), bd_s, bnd_e]
    generalize -(100 * (2 * (z : Int) + 1) - lv) = u at hb
    have h1 : -6000 ≤ u / t := (Int.le_ediv_iff_mul_le (by omega)).2 (by have := mb (x := 1) (y := t) (A := 1) (B := 80) (by omega) (by omega) (by omega) (by omega); omega)
    have h2 : u / t < 6001 := (Int.ediv_lt_iff_lt_mul (by omega)).2 (by omega)
    rw [fdiv_e (by omega) (by omega), bd_s, bnd_e, mMin_e (by omega) (by omega)]
    rw [mMax_e (by omega) (by split <;> omega)]
    congr 1
    split <;> split <;> omega
theorem fw_wet {z : Nat} {t lv : Int} (ht : 0 ≤ t) (i : Nat) (hi : i < 18) : 100 * (2 * (z : Int) + 1) ≤ lv + t * (2 * ((i : Int) - 9) + 1) ↔ fw z t lv ≤ i := by
  unfold fw
  by_cases c : t ≤ 0
  · have e : t = 0 := by omega
    subst e
    rw [if_pos c, Int.zero_mul]; split <;> omega
  · rw [if_neg c]
    have h := Int.le_ediv_iff_mul_le (a := -(2 * ((i : Int) - 9) + 1)) (b := -(100 * (2 * (z : Int) + 1) - lv)) (c := t) (by omega)
    rw [Int.neg_mul, Int.mul_comm (2 * ((i : Int) - 9) + 1) t] at h
    omega
def PC (g : Mem) (t lv : Int) : Int := sm (fun z => g 2 (z * 19 + fw z t lv)) 0 10
def QC (g : Mem) (t lv : Int) : Int := sm (fun z => 100 * g 3 (z * 19 + fw z t lv) + t * (2 * (z : Int) + 1) * g 2 (z * 19 + fw z t lv)) 0 10
theorem pushIn1_e {g : Mem} {t lv : Int} (ht : 0 ≤ t ∧ t ≤ 80) (hl : -2000 ≤ lv ∧ lv ≤ 4000) : ∀ (k n z : Nat) (y : Int), z + k = 10 → k < n → fX3_pushIn_L5 n t lv y z g = some (y + sm (fun z => g 2 (z * 19 + fw z t lv)) z k) := by
  intro k
  induction k with
  | zero =>
    intro n z y hi hn
    obtain ⟨n, rfl⟩ : ∃ m, n = m + 1 := ⟨n - 1, by omega⟩
    unfold fX3_pushIn_L5
    simp (disch := omega) only [if_true, if_false, if_pos, if_neg, wr_0, wr_id, gd_i, bnd_e, bd_s, bd2_s, jn_e, Int.toNat_natCast]
    simp [sm]
  | succ k ih =>
    intro n z y hi hn
    obtain ⟨n, rfl⟩ : ∃ m, n = m + 1 := ⟨n - 1, by omega⟩
    unfold fX3_pushIn_L5
    have e := fw_le z t lv
    have hfw := firstWet_e (z := z) (t := t) (lv := lv) (by omega) ht hl
    rw [show sm (fun z => g 2 (z * 19 + fw z t lv)) z (k + 1) = g 2 (z * 19 + fw z t lv) + sm (fun z => g 2 (z * 19 + fw z t lv)) (z + 1) k from rfl]
    generalize fw z t lv = w at *
    have e2 : ((z : Int) * 19 + (w : Int)).toNat = z * 19 + w := by omega
    rw [hfw]
    simp (disch := omega) only [if_true, if_false, if_pos, if_neg, wr_0, wr_id, gd_i, bnd_e, bd_s, bd2_s, jn_e, Int.toNat_natCast, ncs, e2]
    rw [ih n (z + 1) _ (by omega) (by omega)]
    congr 1; omega
theorem pushIn_e {g : Mem} {t lv : Int} (ht : 0 ≤ t ∧ t ≤ 80) (hl : -2000 ≤ lv ∧ lv ≤ 4000) : fX3_pushIn t lv g = some (PC g t lv) := by
  unfold fX3_pushIn PC
  obtain ⟨F, hF, hF2⟩ := fuel_g
  rw [hF, show (0 : Int) = ((0 : Nat) : Int) from rfl, pushIn1_e ht hl 10 F 0 _ rfl (by omega)]
  congr 1; omega
theorem weigh1_e {g : Mem} {t lv : Int} (ht : 0 ≤ t ∧ t ≤ 80) (hl : -2000 ≤ lv ∧ lv ≤ 4000) (K : Int → Int → Int → Mem → Option Mem) : ∀ (k n z : Nat) (y y2 : Int), z + k = 10 → k < n → fX3_weighAt_L8 n t lv y y2 z g K = K t (y + sm (fun z => g 2 (z * 19 + fw z t lv)) z k) (y2 + sm (fun z => 100 * g 3 (z * 19 + fw z t lv) + t * (2 * (z : Int) + 1) * g 2 (z * 19 + fw z t lv)) z k) g := by
  intro k
  induction k with
  | zero =>
    intro n z y y2 hi hn
    obtain ⟨n, rfl⟩ : ∃ m, n = m + 1 := ⟨n - 1, by omega⟩
    unfold fX3_weighAt_L8
    simp (disch := omega) only [if_true, if_false, if_pos, if_neg, wr_0, wr_id, gd_i, bnd_e, bd_s, bd2_s, jn_e, Int.toNat_natCast]
    simp [sm]
  | succ k ih =>
    intro n z y y2 hi hn
    obtain ⟨n, rfl⟩ : ∃ m, n = m + 1 := ⟨n - 1, by omega⟩
    unfold fX3_weighAt_L8
    have e := fw_le z t lv
    have hfw := firstWet_e (z := z) (t := t) (lv := lv) (by omega) ht hl
    rw [show sm (fun z => g 2 (z * 19 + fw z t lv)) z (k + 1) = g 2 (z * 19 + fw z t lv) + sm (fun z => g 2 (z * 19 + fw z t lv)) (z + 1) k from rfl]
    rw [show sm (fun z => 100 * g 3 (z * 19 + fw z t lv) + t * (2 * (z : Int) + 1) * g 2 (z * 19 + fw z t lv)) z (k + 1) = (100 * g 3 (z * 19 + fw z t lv) + t * (2 * (z : Int) + 1) * g 2 (z * 19 + fw z t lv)) + sm (fun z => 100 * g 3 (z * 19 + fw z t lv) + t * (2 * (z : Int) + 1) * g 2 (z * 19 + fw z t lv)) (z + 1) k from rfl]
    generalize fw z t lv = w at *
    have e2 : ((z : Int) * 19 + (w : Int)).toNat = z * 19 + w := by omega
    rw [hfw]
    simp (disch := omega) only [if_true, if_false, if_pos, if_neg, wr_0, wr_id, gd_i, bnd_e, bd_s, bd2_s, jn_e, Int.toNat_natCast, ncs, e2]
    rw [ih n (z + 1) _ _ (by omega) (by omega)]
    congr 1 <;> omega
theorem weighAt_e {g : Mem} {t lv : Int} (ht : 0 ≤ t ∧ t ≤ 80) (hl : -2000 ≤ lv ∧ lv ≤ 4000) : fX3_weighAt t lv g = some (up (up g 5 t.toNat (PC g t lv)) 6 t.toNat (QC g t lv)) := by
  unfold fX3_weighAt
  obtain ⟨F, hF, hF2⟩ := fuel_g
  rw [hF, show (0 : Int) = ((0 : Nat) : Int) from rfl, weigh1_e ht hl _ 10 F 0 _ _ rfl (by omega)]
  simp (disch := omega) only [if_true, if_false, if_pos, if_neg, wr_0, wr_id, gd_i, bnd_e, bd_s, bd2_s, jn_e, Int.toNat_natCast]
  simp only [PC, QC, Int.natCast_zero, Int.zero_add]
