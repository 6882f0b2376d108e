/-! THE ROUTE: the same table on both sides -/
def sr (g : Mem) (k : Nat) (f : Nat → Int) : Mem := fun a b => if a = k then f b else g a b
theorem sr_up (g : Mem) (k j : Nat) (f : Nat → Int) (v : Int) : up (sr g k f) k j v = sr g k (fun b => if b = j then v else f b) := by
  funext a b; unfold up sr
  by_cases c : a = k
  · simp [c]
  · simp [c]
theorem sr_self (g : Mem) (k : Nat) : sr g k (g k) = g := by
  funext a b; unfold sr; by_cases c : a = k
  · simp [c]
  · simp [c]
theorem sr_at (g : Mem) (k : Nat) (f : Nat → Int) : sr g k f k = f := by funext b; simp [sr]
def fs (t q b : Int) : Int := if t = -1 then b else if b = -1 ∨ t + q < b then t + q else b
def cv (x : Int) : Int := if x = -1 then 100000000 else x
def lq (q : Nat → Nat → Int) (n : Nat) : Nat → Nat → Int
  | 0, m => if m = 0 then 0 else -1
  | r + 1, m => fs (lq q n r (m - 3)) (q (n - 1 - r) 3) (fs (lq q n r (m - 2)) (q (n - 1 - r) 2) (fs (lq q n r (m - 1)) (q (n - 1 - r) 1) (fs (lq q n r (m - 0)) (q (n - 1 - r) 0) (-1))))
def QB (q : Nat → Nat → Int) : Prop := ∀ a v, 0 ≤ q a v ∧ q a v ≤ 3840
theorem fs_bd {t q b A : Int} (hA : 0 ≤ A) (ht : t = -1 ∨ (0 ≤ t ∧ t ≤ A)) (hq : 0 ≤ q ∧ q ≤ 3840) (hb : b = -1 ∨ (0 ≤ b ∧ b ≤ A + 3840)) : fs t q b = -1 ∨ (0 ≤ fs t q b ∧ fs t q b ≤ A + 3840) := by
  unfold fs; split
  · exact hb
  · split <;> omega
theorem lq_bd {q : Nat → Nat → Int} (hq : QB q) (n : Nat) : ∀ r m, lq q n r m = -1 ∨ (0 ≤ lq q n r m ∧ lq q n r m ≤ 3840 * (r : Int)) := by
  intro r
  induction r with
  | zero => intro m; unfold lq; split <;> omega
  | succ r ih =>
    intro m
    unfold lq
    rw [show 3840 * ((r + 1 : Nat) : Int) = 3840 * (r : Int) + 3840 by omega]
    have hA : (0 : Int) ≤ 3840 * (r : Int) := by omega
    exact fs_bd hA (ih _) (hq _ _) (fs_bd hA (ih _) (hq _ _) (fs_bd hA (ih _) (hq _ _) (fs_bd hA (ih _) (hq _ _) (.inl rfl))))
theorem fs_min {t q b A : Int} (hA : 0 ≤ A ∧ A ≤ 60000) (ht : t = -1 ∨ (0 ≤ t ∧ t ≤ A)) (hq : 0 ≤ q ∧ q ≤ 3840) (hb : b = -1 ∨ (0 ≤ b ∧ b ≤ A + 3840)) : mMin (cv b) (q + cv t) = cv (fs t q b) := by
  have e1 : -1 ≤ cv b ∧ cv b ≤ 100000000 := by unfold cv; split <;> omega
  have e2 : -1 ≤ cv t ∧ cv t ≤ 100000000 := by unfold cv; split <;> omega
  rw [mMin_e (by omega) (by omega)]
  unfold fs cv at *
  clear e1 e2
  repeat' split
  all_goals omega
def TB (q : Nat → Nat → Int) (n : Nat) (c : Int → Int) (f : Nat → Int) (a : Nat) : Prop := ∀ m, m < 37 → f (a * 37 + m) = c (lq q n (n - a) m)
theorem qby_e {g : Mem} {q : Nat → Nat → Int} {n : Nat} (hn : n ≤ 12) (hq : ∀ a v, a < n → v < 4 → g 42 (a * 4 + v) = q a v) (f : Nat → Int) {a m v : Nat} (ha : a < n) (hm : m < 37) (hv : v < 4) (T : TB q n cv f (a + 1)) : fX6_queasyBy a m v (sr g 43 f) = some (q a v + cv (lq q n (n - (a + 1)) (m - v))) := by
  unfold fX6_queasyBy
  have e1 : mMax 0 ((m : Int) - (v : Int)) = ((m - v : Nat) : Int) := by rw [mMax_e (by omega) (by omega)]; split <;> omega
  rw [e1]
  have e2 : ((a : Int) * 4 + (v : Int)).toNat = a * 4 + v := by omega
  have e3 : (((a : Int) + 1) * 37 + ((m - v : Nat) : Int)).toNat = (a + 1) * 37 + (m - v) := by omega
  simp (disch := omega) only [if_true, if_false, if_pos, if_neg, wr_0, wr_id, gd_i, bnd_e, bd_s, bd2_s, jn_e, Int.toNat_natCast, e2, e3]
  rw [show sr g 43 f 42 = g 42 from rfl, sr_at, hq a v ha hv, T (m - v) (by omega)]
theorem solve71_e {g : Mem} {q : Nat → Nat → Int} (Q : QB q) {n : Nat} (hn : n ≤ 12) (hq : ∀ a v, a < n → v < 4 → g 42 (a * 4 + v) = q a v) (f : Nat → Int) {a m : Nat} (ha : a < n) (hm : m < 37) (T : TB q n cv f (a + 1)) (K : Int → Int → Int → Mem → Option Mem) : fX6_solve_L71 fuel a m 100000000 0 (sr g 43 f) K = K a m (cv (lq q n (n - a) m)) (sr g 43 f) := by
  have step : ∀ (N v : Nat) (b : Int), v < 4 → (b = -1 ∨ (0 ≤ b ∧ b ≤ 3840 * ((n - (a + 1) : Nat) : Int) + 3840)) → fX6_solve_L71 (N + 1) a m (cv b) (v : Int) (sr g 43 f) K = fX6_solve_L71 N a m (cv (fs (lq q n (n - (a + 1)) (m - v)) (q a v) b)) ((v + 1 : Nat) : Int) (sr g 43 f) K := by
    intro N v b hv hb
    rw [fX6_solve_L71, qby_e hn hq f ha hm hv T]
    simp (disch := omega) only [if_true, if_false, if_pos, if_neg, wr_0, wr_id, gd_i, bnd_e, bd_s, bd2_s, jn_e, Int.toNat_natCast]
    rw [fs_min (A := 3840 * ((n - (a + 1) : Nat) : Int)) (by omega) (lq_bd Q n _ _) (Q _ _) hb]
    rfl
  obtain ⟨F, hF, hF2⟩ := fuel_g
  obtain ⟨F, rfl⟩ : ∃ m, F = m + 1 + 1 + 1 + 1 + 1 := ⟨F - 5, by omega⟩
  have hA : (0 : Int) ≤ 3840 * ((n - (a + 1) : Nat) : Int) := by omega
  have b0 := fs_bd hA (lq_bd Q n (n - (a + 1)) (m - 0)) (Q a 0) (.inl (rfl : (-1 : Int) = -1))
  have b1 := fs_bd hA (lq_bd Q n (n - (a + 1)) (m - 1)) (Q a 1) b0
  have b2 := fs_bd hA (lq_bd Q n (n - (a + 1)) (m - 2)) (Q a 2) b1
  rw [hF, show (0 : Int) = ((0 : Nat) : Int) from rfl, show (100000000 : Int) = cv (-1) from rfl, step _ 0 _ (by omega) (.inl rfl), step _ 1 _ (by omega) b0, step _ 2 _ (by omega) b1, step _ 3 _ (by omega) b2]
  rw [fX6_solve_L71]
  simp (disch := omega) only [if_true, if_false, if_pos, if_neg, wr_0, wr_id, gd_i, bnd_e, bd_s, bd2_s, jn_e, Int.toNat_natCast]
  obtain ⟨r, hr⟩ : ∃ r, n - a = r + 1 := ⟨n - a - 1, by omega⟩
  rw [hr, show n - (a + 1) = r by omega]
  rw [show lq q n (r + 1) m = fs (lq q n r (m - 3)) (q (n - 1 - r) 3) (fs (lq q n r (m - 2)) (q (n - 1 - r) 2) (fs (lq q n r (m - 1)) (q (n - 1 - r) 1) (fs (lq q n r (m - 0)) (q (n - 1 - r) 0) (-1)))) from rfl, show n - 1 - r = a by omega]
theorem solve59_e {g : Mem} {q : Nat → Nat → Int} (Q : QB q) {n : Nat} (hn : n ≤ 12) (hq : ∀ a v, a < n → v < 4 → g 42 (a * 4 + v) = q a v) {a : Nat} (ha : a < n) (K : Int → Mem → Option Mem) : ∀ (k N i : Nat) (f : Nat → Int), i + k = 37 → k < N → TB q n cv f (a + 1) → ∃ f', fX6_solve_L59 N a i (sr g 43 f) K = K a (sr g 43 f') ∧ (∀ m, i ≤ m → m < 37 → f' (a * 37 + m) = cv (lq q n (n - a) m)) ∧ (∀ j, j < a * 37 + i ∨ a * 37 + 37 ≤ j → f' j = f j) := by
  intro k
  induction k with
  | zero =>
    intro N i f hi hN T
    obtain ⟨N, rfl⟩ : ∃ m, N = m + 1 := ⟨N - 1, by omega⟩
    rw [fX6_solve_L59]
    simp (disch := omega) only [if_true, if_false, if_pos, if_neg, wr_0, wr_id, gd_i, bnd_e, bd_s, bd2_s, jn_e, Int.toNat_natCast]
    exact ⟨f, rfl, fun m h1 h2 => by omega, fun j _ => rfl⟩
  | succ k ih =>
    intro N i f hi hN T
    obtain ⟨N, rfl⟩ : ∃ m, N = m + 1 := ⟨N - 1, by omega⟩
    rw [fX6_solve_L59, solve71_e Q hn hq f ha (by omega) T]
    have e2 : ((a : Int) * 37 + (i : Int)).toNat = a * 37 + i := by omega
    simp (disch := omega) only [if_true, if_false, if_pos, if_neg, wr_0, wr_id, gd_i, bnd_e, bd_s, bd2_s, jn_e, Int.toNat_natCast, e2, ncs, sr_up]
    obtain ⟨f', h1, h2, h3⟩ := ih N (i + 1) (fun b => if b = a * 37 + i then cv (lq q n (n - a) i) else f b) (by omega) (by omega) (fun m hm => by
      show (if _ then _ else _) = _
      rw [if_neg (by omega)]; exact T m hm)
    refine ⟨f', h1, fun m hm hm2 => ?_, fun j hj => ?_⟩
    · by_cases c : m = i
      · subst c
        rw [h3 _ (by omega)]; exact if_pos rfl
      · exact h2 m (by omega) hm2
    · rw [h3 j (by omega)]; exact if_neg (by omega)
theorem solve53_e {g : Mem} {q : Nat → Nat → Int} (Q : QB q) {n : Nat} (hn : n ≤ 12) (hq : ∀ a v, a < n → v < 4 → g 42 (a * 4 + v) = q a v) (K : Mem → Option Mem) : ∀ (a N : Nat) (f : Nat → Int), a ≤ n → a < N → (∀ a', a ≤ a' → a' ≤ n → TB q n cv f a') → ∃ f', fX6_solve_L53 N ((a : Int) - 1) (sr g 43 f) K = K (sr g 43 f') ∧ (∀ a', a' ≤ n → TB q n cv f' a') := by
  intro a
  induction a with
  | zero =>
    intro N f ha hN T
    obtain ⟨N, rfl⟩ : ∃ m, N = m + 1 := ⟨N - 1, by omega⟩
    rw [fX6_solve_L53]
    simp (disch := omega) only [if_true, if_false, if_pos, if_neg, wr_0, wr_id, gd_i, bnd_e, bd_s, bd2_s, jn_e, Int.toNat_natCast]
    exact ⟨f, rfl, fun a' h => T a' (by omega) h⟩
  | succ a ih =>
    intro N f ha hN T
    obtain ⟨N, rfl⟩ : ∃ m, N = m + 1 := ⟨N - 1, by omega⟩
    rw [fX6_solve_L53]
    rw [show ((a + 1 : Nat) : Int) - 1 = (a : Int) by omega]
    simp (disch := omega) only [if_true, if_false, if_pos, if_neg, wr_0, wr_id, gd_i, bnd_e, bd_s, bd2_s, jn_e, Int.toNat_natCast]
    obtain ⟨F, hF, hF2⟩ := fuel_g
    rw [hF, show (0 : Int) = ((0 : Nat) : Int) from rfl]
    obtain ⟨f1, h1, h2, h3⟩ := solve59_e Q hn hq (by omega) (fun (z_24 : Int) (g_25 : Mem) => fX6_solve_L53 N (z_24 + (-1)) g_25 K) 37 F 0 f (by omega) (by omega) (T (a + 1) (by omega) (by omega))
    rw [h1]
    rw [show (a : Int) + -1 = (a : Int) - 1 by omega]
    refine ih N f1 (by omega) (by omega) (fun a' h4 h5 m hm => ?_)
    by_cases c : a' = a
    · subst c; exact h2 m (by omega) hm
    · rw [h3 _ (by omega)]; exact T a' (by omega) h5 m hm
theorem solve10_e {g : Mem} {n : Nat} (hn : n ≤ 12) (hg : g 41 2 = (n : Int)) (q : Nat → Nat → Int) (K : Mem → Option Mem) : ∀ (k N i : Nat) (f : Nat → Int), i + k = 37 → k < N → ∃ f', fX6_solve_L10 N i (sr g 43 f) K = K (sr g 43 f') ∧ (∀ m, i ≤ m → m < 37 → f' (n * 37 + m) = cv (lq q n 0 m)) ∧ (∀ j, j < n * 37 + i → f' j = f j) := by
  intro k
  induction k with
  | zero =>
    intro N i f hi hN
    obtain ⟨N, rfl⟩ : ∃ m, N = m + 1 := ⟨N - 1, by omega⟩
    rw [fX6_solve_L10]
    simp (disch := omega) only [if_true, if_false, if_pos, if_neg, wr_0, wr_id, gd_i, bnd_e, bd_s, bd2_s, jn_e, Int.toNat_natCast]
    exact ⟨f, rfl, fun m h1 h2 => by omega, fun j _ => rfl⟩
  | succ k ih =>
    intro N i f hi hN
    obtain ⟨N, rfl⟩ : ∃ m, N = m + 1 := ⟨N - 1, by omega⟩
    rw [fX6_solve_L10]
    have eg : sr g 43 f 41 2 = (n : Int) := hg
    have e2 : ((n : Int) * 37 + (i : Int)).toNat = n * 37 + i := by omega
    have key : ∀ v : Int, v = cv (lq q n 0 i) → ∃ f', fX6_solve_L10 N ((i + 1 : Nat) : Int) (sr g 43 (fun b => if b = n * 37 + i then v else f b)) K = K (sr g 43 f') ∧ (∀ m, i ≤ m → m < 37 → f' (n * 37 + m) = cv (lq q n 0 m)) ∧ (∀ j, j < n * 37 + i → f' j = f j) := by
      intro v hv
      obtain ⟨f', h1, h2, h3⟩ := ih N (i + 1) (fun b => if b = n * 37 + i then v else f b) (by omega) (by omega)
      refine ⟨f', h1, fun m hm hm2 => ?_, fun j hj => ?_⟩
      · by_cases c : m = i
        · subst c
          rw [h3 _ (by omega)]; show (if _ then _ else _) = _; rw [if_pos rfl, hv]
        · exact h2 m (by omega) hm2
      · rw [h3 j (by omega)]; exact if_neg (by omega)
    by_cases c : i = 0
    · subst c
      simp (disch := omega) only [if_true, if_false, if_pos, if_neg, wr_0, wr_id, gd_i, bnd_e, bd_s, bd2_s, jn_e, Int.toNat_natCast, eg, e2, ncs, sr_up]
      exact key 0 rfl
    · simp (disch := omega) only [if_true, if_false, if_pos, if_neg, wr_0, wr_id, gd_i, bnd_e, bd_s, bd2_s, jn_e, Int.toNat_natCast, eg, e2, ncs, sr_up]
      exact key _ (by unfold lq; rw [if_neg c]; rfl)
theorem solve_e {g : Mem} {q : Nat → Nat → Int} (Q : QB q) {n : Nat} (hn : n ≤ 12) (hg : g 41 2 = (n : Int)) (hq : ∀ a v, a < n → v < 4 → g 42 (a * 4 + v) = q a v) (hs : g 41 4 = 0 ∨ (g 41 4 = 1 ∧ ∀ a, a ≤ n → TB q n cv (g 43) a)) : ∃ g', fX6_solve g = some g' ∧ (∀ a, a ≠ 41 → a ≠ 43 → g' a = g a) ∧ (∀ b, b ≠ 4 → g' 41 b = g 41 b) ∧ g' 41 4 = 1 ∧ (∀ a, a ≤ n → TB q n cv (g' 43) a) := by
  unfold fX6_solve
  rcases hs with hs | ⟨hs, T⟩
  · obtain ⟨F, hF, hF2⟩ := fuel_g
    simp (disch := omega) only [if_true, if_false, if_pos, if_neg, wr_0, wr_id, gd_i, bnd_e, bd_s, bd2_s, jn_e, Int.toNat_natCast, hs]
    rw [hF, show (0 : Int) = ((0 : Nat) : Int) from rfl]
    obtain ⟨f1, h1, h2, h3⟩ := solve10_e (g := g) hn hg q (fun (g_8 : Mem) => fX6_solve_L53 F ((g_8 41 2) - 1) g_8 (fun (g_27 : Mem) => some (up g_27 41 4 1))) 37 F 0 (g 43) (by omega) (by omega)
    rw [sr_self] at h1
    rw [h1, show sr g 43 f1 41 2 = (n : Int) from hg]
    obtain ⟨f2, h4, h5⟩ := solve53_e (g := g) Q hn hq (fun (g_27 : Mem) => some (up g_27 41 4 1)) n F f1 (by omega) (by omega) (fun a' h4 h5 m hm => by rw [show a' = n by omega, show n - n = 0 by omega]; exact h2 m (by omega) hm)
    rw [h4]
    refine ⟨_, rfl, fun a h6 h7 => ?_, fun b hb => ?_, ?_, fun a ha m hm => ?_⟩
    · funext b; simp [up, sr, h6, h7]
    · simp [up, sr, hb]
    · simp [up]
    · have := h5 a ha m hm
      simpa [up, sr] using this
  · simp (disch := omega) only [if_true, if_false, if_pos, if_neg, wr_0, wr_id, gd_i, bnd_e, bd_s, bd2_s, jn_e, Int.toNat_natCast, hs]
    exact ⟨g, rfl, fun _ _ _ => rfl, fun _ _ => rfl, hs, T⟩
/-- the reference's table -/
def QS (h : Mem) (a v : Nat) : Int := (64 * h 32 a).tdiv (1 + (h 33 a - (v : Int) - h 0 44) * (h 33 a - (v : Int) - h 0 44))
def RtB (h : Mem) : Prop := (0 ≤ h 0 41 ∧ h 0 41 ≤ 12) ∧ (4 ≤ h 0 44 ∧ h 0 44 ≤ 64) ∧ (∀ j, 0 ≤ h 32 j ∧ h 32 j ≤ 60) ∧ (∀ j, 0 ≤ h 33 j ∧ h 33 j ≤ 64)
theorem sq_nn (d : Int) : 0 ≤ d * d := by
  rcases Int.le_total 0 d with h | h
  · exact Int.mul_nonneg h h
  · have := Int.mul_nonneg (show 0 ≤ -d by omega) (show 0 ≤ -d by omega)
    rw [Int.neg_mul_neg] at this; exact this
def qs (h : Mem) (a v : Nat) : Int := if v < 4 then QS h a v else 0
theorem QS_bd {h : Mem} (B : RtB h) : QB (qs h) := by
  intro a v
  unfold qs
  by_cases c : v < 4
  · rw [if_pos c]
    have b := B.2.2.1 a
    unfold QS
    have s := sq_nn (h 33 a - (v : Int) - h 0 44)
    rw [Int.tdiv_eq_ediv_of_nonneg (by omega)]
    have h1 : 0 ≤ 64 * h 32 a / (1 + (h 33 a - (v : Int) - h 0 44) * (h 33 a - (v : Int) - h 0 44)) := Int.ediv_nonneg (by omega) (by omega)
    have h2 : 64 * h 32 a / (1 + (h 33 a - (v : Int) - h 0 44) * (h 33 a - (v : Int) - h 0 44)) ≤ 64 * h 32 a := Int.ediv_le_self _ (by omega)
    omega
  · rw [if_neg c]; omega
theorem queasy_e {h : Mem} (B : RtB h) {a v : Nat} (ha : a < 12) (hv : v < 4) (f : Nat → Int) : fX12_queasy a v (sr h 49 f) = some (qs h a v) := by
  unfold fX12_queasy qs QS
  have b1 := B.2.1
  have b2 := B.2.2.1 a
  have b3 := B.2.2.2 a
  have e1 : sr h 49 f 33 a = h 33 a := rfl
  have e2 : sr h 49 f 32 a = h 32 a := rfl
  have e3 : sr h 49 f 0 44 = h 0 44 := rfl
  have s := sq_nn (h 33 a - (v : Int) - h 0 44)
  have m := mb (x := h 33 a - (v : Int) - h 0 44) (y := h 33 a - (v : Int) - h 0 44) (A := 70) (B := 70) (by omega) (by omega) (by omega) (by omega)
  simp (disch := omega) only [if_true, if_false, if_pos, if_neg, wr_0, wr_id, gd_i, bnd_e, bd_s, bd2_s, jn_e, Int.toNat_natCast, e1, e2, e3]
  rw [gc_of (by omega)]
theorem restBy_e {q : Nat → Nat → Int} {n : Nat} (hn : n ≤ 12) {h : Mem} (f : Nat → Int) {a m v : Nat} (ha : a < n) (hm : m < 37) (hv : v < 4) (T : TB q n id f (a + 1)) : fX12_restBy a m v (sr h 49 f) = some (lq q n (n - (a + 1)) (m - v)) := by
  unfold fX12_restBy
  have := T (m - v) (by omega)
  by_cases c : v ≤ m
  · have e3 : (37 * ((a : Int) + 1) + ((m : Int) - (v : Int))).toNat = (a + 1) * 37 + (m - v) := by omega
    simp (disch := omega) only [if_true, if_false, if_pos, if_neg, wr_0, wr_id, gd_i, bnd_e, bd_s, bd2_s, jn_e, Int.toNat_natCast, e3]
    rw [sr_at, this]; rfl
  · have e3 : (37 * ((a : Int) + 1) + 0).toNat = (a + 1) * 37 + (m - v) := by omega
    simp (disch := omega) only [if_true, if_false, if_pos, if_neg, wr_0, wr_id, gd_i, bnd_e, bd_s, bd2_s, jn_e, Int.toNat_natCast, e3]
    rw [sr_at, this]; rfl
theorem best94_e {h : Mem} (B : RtB h) {n : Nat} (hn : n ≤ 12) (f : Nat → Int) {a m : Nat} (ha : a < n) (hm : m < 37) (T : TB (qs h) n id f (a + 1)) (y1 y2 : Int) (K : Int → Int → Int → Int → Int → Mem → Option (Int × Mem)) : fX12_best_L94 fuel y1 y2 a m (-1) 0 (sr h 49 f) K = K y1 y2 a m (lq (qs h) n (n - a) m) (sr h 49 f) := by
  have Q := QS_bd B
  have step : ∀ (N v : Nat) (b : Int), v < 4 → (b = -1 ∨ (0 ≤ b ∧ b ≤ 3840 * ((n - (a + 1) : Nat) : Int) + 3840)) → fX12_best_L94 (N + 1) y1 y2 a m b (v : Int) (sr h 49 f) K = fX12_best_L94 N y1 y2 a m (fs (lq (qs h) n (n - (a + 1)) (m - v)) (qs h a v) b) ((v + 1 : Nat) : Int) (sr h 49 f) K := by
    intro N v b hv hb
    have t := lq_bd Q n (n - (a + 1)) (m - v)
    have qb := Q a v
    rw [fX12_best_L94, restBy_e hn f ha hm hv T, queasy_e B (by omega) hv]
    generalize lq (qs h) n (n - (a + 1)) (m - v) = T at *
    generalize qs h a v = q0 at *
    unfold fs
    by_cases c1 : T = -1
    · simp (disch := omega) only [if_true, if_false, if_pos, if_neg, wr_0, wr_id, gd_i, bnd_e, bd_s, bd2_s, jn_e, Int.toNat_natCast, c1, ncs]
    · by_cases c2 : b = -1
      · simp (disch := omega) only [if_true, if_false, if_pos, if_neg, wr_0, wr_id, gd_i, bnd_e, bd_s, bd2_s, jn_e, Int.toNat_natCast, if_neg c1, c2, ncs]
        simp
      · by_cases c3 : T + q0 < b
        · simp (disch := omega) only [if_true, if_false, if_pos, if_neg, wr_0, wr_id, gd_i, bnd_e, bd_s, bd2_s, jn_e, Int.toNat_natCast, ncs]
        · simp (disch := omega) only [if_true, if_false, if_pos, if_neg, wr_0, wr_id, gd_i, bnd_e, bd_s, bd2_s, jn_e, Int.toNat_natCast, ncs]
  obtain ⟨F, hF, hF2⟩ := fuel_g
  obtain ⟨F, rfl⟩ : ∃ m, F = m + 1 + 1 + 1 + 1 + 1 := ⟨F - 5, by omega⟩
  have hA : (0 : Int) ≤ 3840 * ((n - (a + 1) : Nat) : Int) := by omega
  have b0 := fs_bd hA (lq_bd Q n (n - (a + 1)) (m - 0)) (Q a 0) (.inl (rfl : (-1 : Int) = -1))
  have b1 := fs_bd hA (lq_bd Q n (n - (a + 1)) (m - 1)) (Q a 1) b0
  have b2 := fs_bd hA (lq_bd Q n (n - (a + 1)) (m - 2)) (Q a 2) b1
  rw [hF, show (0 : Int) = ((0 : Nat) : Int) from rfl, step _ 0 _ (by omega) (.inl rfl), step _ 1 _ (by omega) b0, step _ 2 _ (by omega) b1, step _ 3 _ (by omega) b2]
  rw [fX12_best_L94]
  simp (disch := omega) only [if_true, if_false, if_pos, if_neg, wr_0, wr_id, gd_i, bnd_e, bd_s, bd2_s, jn_e, Int.toNat_natCast]
  obtain ⟨r, hr⟩ : ∃ r, n - a = r + 1 := ⟨n - a - 1, by omega⟩
  rw [hr, show n - (a + 1) = r by omega]
  rw [show lq (qs h) n (r + 1) m = fs (lq (qs h) n r (m - 3)) (qs h (n - 1 - r) 3) (fs (lq (qs h) n r (m - 2)) (qs h (n - 1 - r) 2) (fs (lq (qs h) n r (m - 1)) (qs h (n - 1 - r) 1) (fs (lq (qs h) n r (m - 0)) (qs h (n - 1 - r) 0) (-1)))) from rfl, show n - 1 - r = a by omega]
theorem best81_e {h : Mem} (B : RtB h) {n : Nat} (hn : n ≤ 12) {a : Nat} (ha : a < n) (y1 y2 : Int) (K : Int → Int → Int → Mem → Option (Int × Mem)) : ∀ (k N i : Nat) (f : Nat → Int), i + k = 37 → k < N → TB (qs h) n id f (a + 1) → ∃ f', fX12_best_L81 N y1 y2 a i (sr h 49 f) K = K y1 y2 a (sr h 49 f') ∧ (∀ m, i ≤ m → m < 37 → f' (a * 37 + m) = lq (qs h) n (n - a) m) ∧ (∀ j, j < a * 37 + i ∨ a * 37 + 37 ≤ j → f' j = f j) := by
  intro k
  induction k with
  | zero =>
    intro N i f hi hN T
    obtain ⟨N, rfl⟩ : ∃ m, N = m + 1 := ⟨N - 1, by omega⟩
    rw [fX12_best_L81]
    simp (disch := omega) only [if_true, if_false, if_pos, if_neg, wr_0, wr_id, gd_i, bnd_e, bd_s, bd2_s, jn_e, Int.toNat_natCast]
    exact ⟨f, rfl, fun m h1 h2 => by omega, fun j _ => rfl⟩
  | succ k ih =>
    intro N i f hi hN T
    obtain ⟨N, rfl⟩ : ∃ m, N = m + 1 := ⟨N - 1, by omega⟩
    rw [fX12_best_L81, best94_e B hn f ha (by omega) T]
    have e2 : (37 * (a : Int) + (i : Int)).toNat = a * 37 + i := by omega
    simp (disch := omega) only [if_true, if_false, if_pos, if_neg, wr_0, wr_id, gd_i, bnd_e, bd_s, bd2_s, jn_e, Int.toNat_natCast, e2, ncs, sr_up]
    obtain ⟨f', h1, h2, h3⟩ := ih N (i + 1) (fun b => if b = a * 37 + i then lq (qs h) n (n - a) i else f b) (by omega) (by omega) (fun m hm => by
      show (if _ then _ else _) = _
      rw [if_neg (by omega)]; exact T m hm)
    refine ⟨f', h1, fun m hm hm2 => ?_, fun j hj => ?_⟩
    · by_cases c : m = i
      · subst c
        rw [h3 _ (by omega)]; exact if_pos rfl
      · exact h2 m (by omega) hm2
    · rw [h3 j (by omega)]; exact if_neg (by omega)
theorem best74_e {h : Mem} (B : RtB h) {n : Nat} (hn : n ≤ 12) (y1 y2 : Int) (K : Int → Int → Mem → Option (Int × Mem)) : ∀ (a N : Nat) (f : Nat → Int), a ≤ n → a < N → (∀ a', a ≤ a' → a' ≤ n → TB (qs h) n id f a') → ∃ f', fX12_best_L74 N y1 y2 ((a : Int) - 1) (sr h 49 f) K = K y1 y2 (sr h 49 f') ∧ (∀ a', a' ≤ n → TB (qs h) n id f' a') := by
  intro a
  induction a with
  | zero =>
    intro N f ha hN T
    obtain ⟨N, rfl⟩ : ∃ m, N = m + 1 := ⟨N - 1, by omega⟩
    rw [fX12_best_L74]
    simp (disch := omega) only [if_true, if_false, if_pos, if_neg, wr_0, wr_id, gd_i, bnd_e, bd_s, bd2_s, jn_e, Int.toNat_natCast]
    exact ⟨f, rfl, fun a' h => T a' (by omega) h⟩
  | succ a ih =>
    intro N f ha hN T
    obtain ⟨N, rfl⟩ : ∃ m, N = m + 1 := ⟨N - 1, by omega⟩
    rw [fX12_best_L74]
    rw [show ((a + 1 : Nat) : Int) - 1 = (a : Int) by omega]
    simp (disch := omega) only [if_true, if_false, if_pos, if_neg, wr_0, wr_id, gd_i, bnd_e, bd_s, bd2_s, jn_e, Int.toNat_natCast]
    obtain ⟨F, hF, hF2⟩ := fuel_g
    rw [hF, show (0 : Int) = ((0 : Nat) : Int) from rfl]
    obtain ⟨f1, h1, h2, h3⟩ := best81_e B hn (a := a) (by omega) y1 y2 (fun (z_41 : Int) (z_42 : Int) (z_43 : Int) (g_44 : Mem) => fX12_best_L74 N z_41 z_42 (z_43 + (-1)) g_44 K) 37 F 0 f (by omega) (by omega) (T (a + 1) (by omega) (by omega))
    rw [h1]
    rw [show (a : Int) + -1 = (a : Int) - 1 by omega]
    refine ih N f1 (by omega) (by omega) (fun a' h4 h5 m hm => ?_)
    by_cases c : a' = a
    · subst c; exact h2 m (by omega) hm
    · rw [h3 _ (by omega)]; exact T a' (by omega) h5 m hm
theorem best32_e {h : Mem} {n : Nat} (hn : n ≤ 12) (hg : h 0 41 = (n : Int)) (q : Nat → Nat → Int) (y1 y2 : Int) (K : Int → Int → Mem → Option (Int × Mem)) : ∀ (k N i : Nat) (f : Nat → Int), i + k = 37 → k < N → ∃ f', fX12_best_L32 N y1 y2 i (sr h 49 f) K = K y1 y2 (sr h 49 f') ∧ (∀ m, i ≤ m → m < 37 → f' (n * 37 + m) = lq q n 0 m) ∧ (∀ j, j < n * 37 + i → f' j = f j) := by
  intro k
  induction k with
  | zero =>
    intro N i f hi hN
    obtain ⟨N, rfl⟩ : ∃ m, N = m + 1 := ⟨N - 1, by omega⟩
    rw [fX12_best_L32]
    simp (disch := omega) only [if_true, if_false, if_pos, if_neg, wr_0, wr_id, gd_i, bnd_e, bd_s, bd2_s, jn_e, Int.toNat_natCast]
    exact ⟨f, rfl, fun m h1 h2 => by omega, fun j _ => rfl⟩
  | succ k ih =>
    intro N i f hi hN
    obtain ⟨N, rfl⟩ : ∃ m, N = m + 1 := ⟨N - 1, by omega⟩
    rw [fX12_best_L32]
    have eg : sr h 49 f 0 41 = (n : Int) := hg
    have e2 : (37 * (n : Int) + (i : Int)).toNat = n * 37 + i := by omega
    have key : ∀ v : Int, v = lq q n 0 i → ∃ f', fX12_best_L32 N y1 y2 ((i + 1 : Nat) : Int) (sr h 49 (fun b => if b = n * 37 + i then v else f b)) K = K y1 y2 (sr h 49 f') ∧ (∀ m, i ≤ m → m < 37 → f' (n * 37 + m) = lq q n 0 m) ∧ (∀ j, j < n * 37 + i → f' j = f j) := by
      intro v hv
      obtain ⟨f', h1, h2, h3⟩ := ih N (i + 1) (fun b => if b = n * 37 + i then v else f b) (by omega) (by omega)
      refine ⟨f', h1, fun m hm hm2 => ?_, fun j hj => ?_⟩
      · by_cases c : m = i
        · subst c
          rw [h3 _ (by omega)]; show (if _ then _ else _) = _; rw [if_pos rfl, hv]
        · exact h2 m (by omega) hm2
      · rw [h3 j (by omega)]; exact if_neg (by omega)
    by_cases c : i = 0
    · subst c
      simp (disch := omega) only [if_true, if_false, if_pos, if_neg, wr_0, wr_id, gd_i, bnd_e, bd_s, bd2_s, jn_e, Int.toNat_natCast, eg, e2, ncs, sr_up]
      exact key 0 rfl
    · simp (disch := omega) only [if_true, if_false, if_pos, if_neg, wr_0, wr_id, gd_i, bnd_e, bd_s, bd2_s, jn_e, Int.toNat_natCast, eg, e2, ncs, sr_up]
      exact key _ (by unfold lq; rw [if_neg c])
