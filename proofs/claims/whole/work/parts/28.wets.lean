/-! THE HULL: the reference's boxes -/
def wm (h : Mem) (p q : Int) : Mem := up (up h 0 66 p) 0 67 q
theorem wm_up (h : Mem) (p q v w : Int) : up (up (wm h p q) 0 66 v) 0 67 w = wm h v w := by
  funext a b; unfold wm up; by_cases c : a = 0 ∧ b = 67 <;> by_cases d : a = 0 ∧ b = 66 <;> simp [c, d]
theorem wm_wm (h : Mem) (p q v w : Int) : wm (wm h p q) v w = wm h v w := wm_up h p q v w
def HB (h : Mem) : Prop := (0 ≤ h 0 1 ∧ h 0 1 ≤ 6) ∧ (∀ j, 0 ≤ h 2 j ∧ h 2 j ≤ 20) ∧ (∀ j, 0 ≤ h 3 j ∧ h 3 j ≤ 9)
def PR (h : Mem) (s lv : Int) : Int := sm (fun k => sm (fun z => h 2 k * rc s lv z (h 3 (10 * k + z))) 0 10) 0 (h 0 1).toNat
def QR (h : Mem) (s lv : Int) : Int := sm (fun k => sm (fun z => h 2 k * rq s lv z (h 3 (10 * k + z))) 0 10) 0 (h 0 1).toNat
theorem wets1_e {h : Mem} (B : HB h) {s lv : Int} (hs : -80 ≤ s ∧ s ≤ 80) (hl : -2000 ≤ lv ∧ lv ≤ 4000) {k z : Nat} (hk : k < 6) (hz : z < 10) {hf : Int} (hf9 : 0 ≤ hf ∧ hf ≤ 9) (K : Int → Int → Int → Int → Mem → Option Mem) : ∀ (r n i : Nat) (p q : Int), (i : Int) + r = 9 + hf → 9 - hf ≤ (i : Int) → r < n → fX12_wets_L57 n s lv k z (2 * (z : Int) + 1) hf ((i : Int) - 9) (wm h p q) K = K s lv k z (wm h (p + h 2 k * sm (wx s lv z hf) i r) (q + h 2 k * sm (qx s lv z hf) i r)) := by
  intro r
  induction r with
  | zero =>
    intro n i p q hi hi2 hn
    obtain ⟨n, rfl⟩ : ∃ m, n = m + 1 := ⟨n - 1, by omega⟩
    unfold fX12_wets_L57
    simp (disch := omega) only [if_true, if_false, if_pos, if_neg, wr_0, wr_id, gd_i, bnd_e, bd_s, bd2_s, jn_e, Int.toNat_natCast]
    simp [sm]
  | succ r ih =>
    intro n i p q hi hi2 hn
    obtain ⟨n, rfl⟩ : ∃ m, n = m + 1 := ⟨n - 1, by omega⟩
    unfold fX12_wets_L57
    have b2 := B.2.1 k
    have m1 := mb (x := s) (y := 2 * ((i : Int) - 9) + 1) (A := 80) (B := 17) hs.1 hs.2 (by omega) (by omega)
    have m2 := mb (x := s) (y := 2 * (z : Int) + 1) (A := 80) (B := 19) hs.1 hs.2 (by omega) (by omega)
    rw [show sm (wx s lv z hf) i (r + 1) = wx s lv z hf i + sm (wx s lv z hf) (i + 1) r from rfl, show sm (qx s lv z hf) i (r + 1) = qx s lv z hf i + sm (qx s lv z hf) (i + 1) r from rfl]
    have e3 : (i : Int) - 9 + 1 = ((i + 1 : Nat) : Int) - 9 := by omega
    have e4 : wm h p q 2 k = h 2 k := rfl
    have e5 : wm h p q 0 66 = p := rfl
    have e6 : ∀ v, up (wm h p q) 0 66 v 0 67 = q := fun _ => rfl
    have e7 : ∀ v, up (wm h p q) 0 66 v 2 k = h 2 k := fun _ => rfl
    by_cases c : 100 * (2 * (z : Int) + 1) ≤ lv + s * (2 * ((i : Int) - 9) + 1)
    · simp (disch := omega) only [if_true, if_false, if_pos, if_neg, wr_0, wr_id, gd_i, bnd_e, bd_s, bd2_s, jn_e, Int.toNat_natCast, e3, e4, e5, e6, e7, wm_up]
      rw [ih n (i + 1) _ _ (by omega) (by omega) (by omega)]
      rw [show wx s lv z hf i = 1 from if_pos ⟨by omega, c⟩, show qx s lv z hf i = 100 * (2 * ((i : Int) - 9) + 1) + s * (2 * (z : Int) + 1) from if_pos ⟨by omega, c⟩, Int.mul_add (h 2 k) 1, Int.mul_add (h 2 k) (100 * (2 * ((i : Int) - 9) + 1) + s * (2 * (z : Int) + 1)), Int.mul_one]
      congr 2 <;> omega
    · simp (disch := omega) only [if_true, if_false, if_pos, if_neg, wr_0, wr_id, gd_i, bnd_e, bd_s, bd2_s, jn_e, Int.toNat_natCast, e3]
      rw [ih n (i + 1) _ _ (by omega) (by omega) (by omega)]
      rw [show wx s lv z hf i = 0 from if_neg (fun z => c z.2), show qx s lv z hf i = 0 from if_neg (fun z => c z.2), Int.zero_add, Int.zero_add]
theorem wets2_e {h : Mem} (B : HB h) {s lv : Int} (hs : -80 ≤ s ∧ s ≤ 80) (hl : -2000 ≤ lv ∧ lv ≤ 4000) {k : Nat} (hk : k < 6) (K : Int → Int → Int → Mem → Option Mem) : ∀ (r n z : Nat) (p q : Int), z + r = 10 → r < n → fX12_wets_L23 n s lv k z (wm h p q) K = K s lv k (wm h (p + sm (fun z => h 2 k * rc s lv z (h 3 (10 * k + z))) z r) (q + sm (fun z => h 2 k * rq s lv z (h 3 (10 * k + z))) z r)) := by
  intro r
  induction r with
  | zero =>
    intro n i p q hi hn
    obtain ⟨n, rfl⟩ : ∃ m, n = m + 1 := ⟨n - 1, by omega⟩
    unfold fX12_wets_L23
    simp (disch := omega) only [if_true, if_false, if_pos, if_neg, wr_0, wr_id, gd_i, bnd_e, bd_s, bd2_s, jn_e, Int.toNat_natCast]
    simp [sm]
  | succ r ih =>
    intro n z p q hi hn
    obtain ⟨n, rfl⟩ : ∃ m, n = m + 1 := ⟨n - 1, by omega⟩
    unfold fX12_wets_L23
    have b3 := B.2.2 (10 * k + z)
    have e2 : (10 * (k : Int) + (z : Int)).toNat = 10 * k + z := by omega
    have e3 : wm h p q 3 (10 * k + z) = h 3 (10 * k + z) := rfl
    simp (disch := omega) only [if_true, if_false, if_pos, if_neg, wr_0, wr_id, gd_i, bnd_e, bd_s, bd2_s, jn_e, Int.toNat_natCast, e2, e3]
    generalize hh : h 3 (10 * k + z) = hf at b3
    have e4 : -hf = ((9 - hf.toNat : Nat) : Int) - 9 := by omega
    rw [e4, wets1_e B hs hl hk (by omega) b3 _ (2 * hf.toNat) fuel (9 - hf.toNat) _ _ (by omega) (by omega) (by rw [fuel_s]; omega)]
    simp (disch := omega) only [if_true, if_false, if_pos, if_neg, wr_0, wr_id, gd_i, bnd_e, bd_s, bd2_s, jn_e, Int.toNat_natCast, ncs]
    rw [ih n (z + 1) _ _ (by omega) (by omega)]
    show _ = K s lv k (wm h (p + (h 2 k * rc s lv z (h 3 (10 * k + z)) + sm _ (z + 1) r)) (q + (h 2 k * rq s lv z (h 3 (10 * k + z)) + sm _ (z + 1) r)))
    rw [hh]
    have w1 : sm (wx s lv z hf) (9 - hf.toNat) (2 * hf.toNat) = rc s lv z hf := by
      rw [sm_win _ (N := 18) (by omega)]; unfold rc
      refine sm_congr (fun j _ h2 => ?_)
      by_cases d : 9 - hf.toNat ≤ j ∧ j < 9 - hf.toNat + 2 * hf.toNat
      · rw [if_pos d]
      · rw [if_neg d]; unfold wx; rw [if_neg (fun z => d (by omega))]
    have w2 : sm (qx s lv z hf) (9 - hf.toNat) (2 * hf.toNat) = rq s lv z hf := by
      rw [sm_win _ (N := 18) (by omega)]; unfold rq
      refine sm_congr (fun j _ h2 => ?_)
      by_cases d : 9 - hf.toNat ≤ j ∧ j < 9 - hf.toNat + 2 * hf.toNat
      · rw [if_pos d]
      · rw [if_neg d]; unfold qx; rw [if_neg (fun z => d (by omega))]
    rw [w1, w2]
    congr 2 <;> omega
theorem wets3_e {h : Mem} (B : HB h) {s lv : Int} (hs : -80 ≤ s ∧ s ≤ 80) (hl : -2000 ≤ lv ∧ lv ≤ 4000) : ∀ (r n k : Nat) (p q : Int), k + r = (h 0 1).toNat → r < n → fX12_wets_L12 n s lv k (wm h p q) = some (wm h (p + sm (fun k => sm (fun z => h 2 k * rc s lv z (h 3 (10 * k + z))) 0 10) k r) (q + sm (fun k => sm (fun z => h 2 k * rq s lv z (h 3 (10 * k + z))) 0 10) k r)) := by
  have b1 := B.1
  intro r
  induction r with
  | zero =>
    intro n k p q hi hn
    obtain ⟨n, rfl⟩ : ∃ m, n = m + 1 := ⟨n - 1, by omega⟩
    unfold fX12_wets_L12
    have e1 : wm h p q 0 1 = h 0 1 := rfl
    simp (disch := omega) only [if_true, if_false, if_pos, if_neg, wr_0, wr_id, gd_i, bnd_e, bd_s, bd2_s, jn_e, Int.toNat_natCast, e1]
    simp [sm]
  | succ r ih =>
    intro n k p q hi hn
    obtain ⟨n, rfl⟩ : ∃ m, n = m + 1 := ⟨n - 1, by omega⟩
    unfold fX12_wets_L12
    have e1 : wm h p q 0 1 = h 0 1 := rfl
    simp (disch := omega) only [if_true, if_false, if_pos, if_neg, wr_0, wr_id, gd_i, bnd_e, bd_s, bd2_s, jn_e, Int.toNat_natCast, e1]
    rw [show (0 : Int) = ((0 : Nat) : Int) from rfl, wets2_e B hs hl (by omega) _ 10 fuel 0 _ _ (by omega) (by rw [fuel_s]; omega)]
    simp (disch := omega) only [if_true, if_false, if_pos, if_neg, wr_0, wr_id, gd_i, bnd_e, bd_s, bd2_s, jn_e, Int.toNat_natCast, ncs]
    rw [ih n (k + 1) _ _ (by omega) (by omega)]
    show _ = some (wm h (p + (sm _ 0 10 + sm _ (k + 1) r)) (q + (sm _ 0 10 + sm _ (k + 1) r)))
    congr 2 <;> omega
theorem wets_e {h : Mem} (B : HB h) {s lv : Int} (hs : -80 ≤ s ∧ s ≤ 80) (hl : -2000 ≤ lv ∧ lv ≤ 4000) : fX12_wets s lv h = some (wm h (PR h s lv) (QR h s lv)) := by
  have b1 := B.1
  unfold fX12_wets
  simp (disch := omega) only [if_true, if_false, if_pos, if_neg, wr_0, wr_id, gd_i, bnd_e, bd_s, bd2_s, jn_e, Int.toNat_natCast]
  have := wets3_e B hs hl (h 0 1).toNat fuel 0 0 0 (by omega) (by rw [fuel_s]; omega)
  rw [Int.zero_add, Int.zero_add] at this
  exact this
theorem PR_neg (h : Mem) (t lv : Int) : PR h (-t) lv = PR h t lv := by
  unfold PR; simp only [rc_neg]
theorem sm_neg (f : Nat → Int) (i k : Nat) : sm (fun j => -f j) i k = -sm f i k := by
  have := sm_mul f (-1) i k
  rw [show (fun j => -1 * f j) = fun j => -f j from funext fun j => by omega] at this
  omega
theorem QR_neg (h : Mem) (t lv : Int) : QR h (-t) lv = -QR h t lv := by
  unfold QR; simp only [rq_neg, Int.mul_neg, sm_neg]
theorem PR_bd {h : Mem} (B : HB h) (s lv : Int) : 0 ≤ PR h s lv ∧ PR h s lv ≤ 21600 := by
  have b1 := B.1
  have e1 : ∀ k z : Nat, 0 ≤ h 2 k * rc s lv z (h 3 (10 * k + z)) ∧ h 2 k * rc s lv z (h 3 (10 * k + z)) ≤ 360 := fun k z => by
    have a := B.2.1 k
    have b := rc_bd s lv z (h 3 (10 * k + z))
    have := mb (x := h 2 k) (y := rc s lv z (h 3 (10 * k + z))) (A := 20) (B := 18) (by omega) (by omega) (by omega) (by omega)
    exact ⟨Int.mul_nonneg a.1 b.1, by omega⟩
  have e2 := sm_bd (f := fun k => sm (fun z => h 2 k * rc s lv z (h 3 (10 * k + z))) 0 10) (lo := 0) (hi := 3600) (i := 0) (k := (h 0 1).toNat) (fun k _ _ => by
    have := sm_bd (f := fun z => h 2 k * rc s lv z (h 3 (10 * k + z))) (lo := 0) (hi := 360) (i := 0) (k := 10) (fun z _ _ => e1 k z)
    omega)
  unfold PR; omega
theorem QR_bd {h : Mem} (B : HB h) {s : Int} (lv : Int) (hs : -80 ≤ s ∧ s ≤ 80) : -(3320 * PR h s lv) ≤ QR h s lv ∧ QR h s lv ≤ 3320 * PR h s lv := by
  have e1 : ∀ k z : Nat, z < 10 → 0 ≤ 3320 * (h 2 k * rc s lv z (h 3 (10 * k + z))) + h 2 k * rq s lv z (h 3 (10 * k + z)) ∧ 0 ≤ 3320 * (h 2 k * rc s lv z (h 3 (10 * k + z))) + (-1) * (h 2 k * rq s lv z (h 3 (10 * k + z))) := fun k z hz => by
    have a := B.2.1 k
    have b := rq_bd lv (h 3 (10 * k + z)) hs hz
    generalize rc s lv z (h 3 (10 * k + z)) = u at b
    generalize rq s lv z (h 3 (10 * k + z)) = v at b
    have m1 := Int.mul_nonneg a.1 (show 0 ≤ 3320 * u + v by omega)
    have m2 := Int.mul_nonneg a.1 (show 0 ≤ 3320 * u - v by omega)
    rw [Int.mul_add, Int.mul_left_comm] at m1
    rw [Int.mul_sub, Int.mul_left_comm] at m2
    omega
  have f1 := sm_nn (f := fun k => sm (fun z => 3320 * (h 2 k * rc s lv z (h 3 (10 * k + z))) + h 2 k * rq s lv z (h 3 (10 * k + z))) 0 10) (i := 0) (k := (h 0 1).toNat) (fun k _ _ => sm_nn (fun z _ hz => (e1 k z (by omega)).1))
  have f2 := sm_nn (f := fun k => sm (fun z => 3320 * (h 2 k * rc s lv z (h 3 (10 * k + z))) + (-1) * (h 2 k * rq s lv z (h 3 (10 * k + z)))) 0 10) (i := 0) (k := (h 0 1).toNat) (fun k _ _ => sm_nn (fun z _ hz => (e1 k z (by omega)).2))
  simp only [sm_add, sm_mul] at f1 f2
  unfold PR QR
  simp only [sm_mul]
  omega
