/-! THE ROUTE: the way found -/
def okv (q : Nat → Nat → Int) (n a m v : Nat) : Prop := ¬ lq q n (n - (a + 1)) (m - v) = -1 ∧ lq q n (n - (a + 1)) (m - v) + q a v = lq q n (n - a) m
theorem lq_pick {q : Nat → Nat → Int} {n a m : Nat} (ha : a < n) (h : ¬ lq q n (n - a) m = -1) : okv q n a m 0 ∨ okv q n a m 1 ∨ okv q n a m 2 ∨ okv q n a m 3 := by
  unfold okv
  obtain ⟨r, hr⟩ : ∃ r, n - a = r + 1 := ⟨n - a - 1, by omega⟩
  have e1 : n - (a + 1) = r := by omega
  have e2 : n - 1 - r = a := by omega
  rw [hr] at h ⊢
  rw [e1]
  rw [show lq q n (r + 1) m = fs (lq q n r (m - 3)) (q (n - 1 - r) 3) (fs (lq q n r (m - 2)) (q (n - 1 - r) 2) (fs (lq q n r (m - 1)) (q (n - 1 - r) 1) (fs (lq q n r (m - 0)) (q (n - 1 - r) 0) (-1)))) from rfl, e2] at h ⊢
  clear e1 e2 hr ha
  generalize lq q n r (m - 0) = t0 at *
  generalize lq q n r (m - 1) = t1 at *
  generalize lq q n r (m - 2) = t2 at *
  generalize lq q n r (m - 3) = t3 at *
  generalize q a 0 = q0 at *
  generalize q a 1 = q1 at *
  generalize q a 2 = q2 at *
  generalize q a 3 = q3 at *
  have f0 : ∀ t q b, (fs t q b = b ∧ (t = -1 ∨ ¬ b = -1)) ∨ (fs t q b = t + q ∧ ¬ t = -1) := by
    intro t q b; unfold fs; split
    · exact .inl ⟨rfl, .inl (by assumption)⟩
    · split
      · exact .inr ⟨rfl, by assumption⟩
      · exact .inl ⟨rfl, .inr (by omega)⟩
  have g3 := f0 t3 q3 (fs t2 q2 (fs t1 q1 (fs t0 q0 (-1))))
  have g2 := f0 t2 q2 (fs t1 q1 (fs t0 q0 (-1)))
  have g1 := f0 t1 q1 (fs t0 q0 (-1))
  have g0 := f0 t0 q0 (-1)
  generalize fs t3 q3 (fs t2 q2 (fs t1 q1 (fs t0 q0 (-1)))) = u3 at *
  generalize fs t2 q2 (fs t1 q1 (fs t0 q0 (-1))) = u2 at *
  generalize fs t1 q1 (fs t0 q0 (-1)) = u1 at *
  generalize fs t0 q0 (-1) = u0 at *
  clear f0
  omega
theorem okv_d (q : Nat → Nat → Int) (n a m v : Nat) : okv q n a m v ∨ ¬ okv q n a m v := Classical.em _
/-- from v on, the first choice that does it -/
theorem mile41_e {g : Mem} {q : Nat → Nat → Int} (Q : QB q) {n : Nat} (hn : n ≤ 12) (hq : ∀ a v, a < n → v < 4 → g 42 (a * 4 + v) = q a v) {a m : Nat} (ha : a < n) (hm : m < 37) (T0 : TB q n cv (g 43) a) (T : TB q n cv (g 43) (a + 1)) (hl : ¬ lq q n (n - a) m = -1) (y1 : Int) (K : Int → Int → Int → Int → Option Int) : ∀ (k N v : Nat), v + k = 3 → k < N → (∀ w, w < v → ¬ okv q n a m w) → ∃ w, w < 4 ∧ okv q n a m w ∧ (∀ w', w' < w → ¬ okv q n a m w') ∧ fX6_milesIn_L41 N y1 m v a g K = K y1 m w a := by
  intro k
  have hp := lq_pick ha hl
  induction k with
  | zero =>
    intro N v hi hN hno
    obtain ⟨N, rfl⟩ : ∃ m, N = m + 1 := ⟨N - 1, by omega⟩
    have hv : v = 3 := by omega
    subst hv
    rw [fX6_milesIn_L41]
    refine ⟨3, by omega, ?_, hno, ?_⟩
    · rcases hp with z | z | z | z
      · exact absurd z (hno 0 (by omega))
      · exact absurd z (hno 1 (by omega))
      · exact absurd z (hno 2 (by omega))
      · exact z
    · simp (disch := omega) only [if_true, if_false, if_pos, if_neg, wr_0, wr_id, gd_i, bnd_e, bd_s, bd2_s, jn_e, Int.toNat_natCast]
  | succ k ih =>
    intro N v hi hN hno
    obtain ⟨N, rfl⟩ : ∃ m, N = m + 1 := ⟨N - 1, by omega⟩
    rw [fX6_milesIn_L41]
    have e := qby_e hn hq (g 43) ha hm (v := v) (by omega) T
    rw [sr_self] at e
    have e2 : ((a : Int) * 37 + (m : Int)).toNat = a * 37 + m := by omega
    have t := lq_bd Q n (n - (a + 1)) (m - v)
    have t2 := lq_bd Q n (n - a) m
    have qb := Q a v
    have cb : -1 ≤ cv (lq q n (n - (a + 1)) (m - v)) ∧ cv (lq q n (n - (a + 1)) (m - v)) ≤ 100000000 := by unfold cv; split <;> omega
    have ec : cv (lq q n (n - a) m) = lq q n (n - a) m := if_neg hl
    rw [e]
    simp (disch := omega) only [if_true, if_false, if_pos, if_neg, wr_0, wr_id, gd_i, bnd_e, bd_s, bd2_s, jn_e, Int.toNat_natCast, e2, T0 m hm, ec, ncs]
    by_cases c : okv q n a m v
    · rw [if_pos (by have c1 := c.1; have c2 := c.2; unfold cv; rw [if_neg c1]; omega)]
      exact ⟨v, by omega, c, hno, rfl⟩
    · rw [if_neg (fun z => c (by
        unfold okv
        unfold cv at z
        split at z
        · omega
        · exact ⟨by assumption, by omega⟩))]
      exact ih N (v + 1) (by omega) (by omega) (fun w hw => by
        by_cases d : w = v
        · subst d; exact c
        · exact hno w (by omega))
theorem best211_e {h : Mem} (B : RtB h) {n : Nat} (hn : n ≤ 12) (f : Nat → Int) {a m : Nat} (ha : a < n) (hm : m < 37) (T0 : TB (qs h) n id f a) (T : TB (qs h) n id f (a + 1)) (hl : ¬ lq (qs h) n (n - a) m = -1) (y1 : Int) (K : Int → Int → Int → Int → Mem → Option (Int × Mem)) : ∀ (k N v : Nat), v + k = 3 → k < N → (∀ w, w < v → ¬ okv (qs h) n a m w) → ∃ w, w < 4 ∧ okv (qs h) n a m w ∧ (∀ w', w' < w → ¬ okv (qs h) n a m w') ∧ fX12_best_L211 N y1 m v a (sr h 49 f) K = K y1 m w a (sr h 49 f) := by
  intro k
  have Q := QS_bd B
  have hp := lq_pick ha hl
  induction k with
  | zero =>
    intro N v hi hN hno
    obtain ⟨N, rfl⟩ : ∃ m, N = m + 1 := ⟨N - 1, by omega⟩
    have hv : v = 3 := by omega
    subst hv
    rw [fX12_best_L211]
    refine ⟨3, by omega, ?_, hno, ?_⟩
    · rcases hp with z | z | z | z
      · exact absurd z (hno 0 (by omega))
      · exact absurd z (hno 1 (by omega))
      · exact absurd z (hno 2 (by omega))
      · exact z
    · simp (disch := omega) only [if_true, if_false, if_pos, if_neg, wr_0, wr_id, gd_i, bnd_e, bd_s, bd2_s, jn_e, Int.toNat_natCast]
  | succ k ih =>
    intro N v hi hN hno
    obtain ⟨N, rfl⟩ : ∃ m, N = m + 1 := ⟨N - 1, by omega⟩
    rw [fX12_best_L211, restBy_e hn f ha hm (by omega) T, queasy_e B (by omega) (by omega)]
    have e2 : (37 * (a : Int) + (m : Int)).toNat = a * 37 + m := by omega
    have t := lq_bd Q n (n - (a + 1)) (m - v)
    have t2 := lq_bd Q n (n - a) m
    have qb := Q a v
    have et : f (a * 37 + m) = lq (qs h) n (n - a) m := T0 m hm
    have step := ih N (v + 1) (by omega) (by omega)
    simp (disch := omega) only [if_true, if_false, if_pos, if_neg, wr_0, wr_id, gd_i, bnd_e, bd_s, bd2_s, jn_e, Int.toNat_natCast, e2, ncs, sr_at, et]
    by_cases c : okv (qs h) n a m v
    · rw [if_neg c.1, if_pos c.2]
      exact ⟨v, by omega, c, hno, rfl⟩
    · have nx := step (fun w hw => by
        by_cases d : w = v
        · subst d; exact c
        · exact hno w (by omega))
      by_cases c1 : lq (qs h) n (n - (a + 1)) (m - v) = -1
      · rw [if_pos c1]; exact nx
      · rw [if_neg c1, if_neg (fun z => c ⟨c1, z⟩)]; exact nx
theorem okv_one {q : Nat → Nat → Int} {n a m w w2 : Nat} (h1 : okv q n a m w) (h2 : ∀ w', w' < w → ¬ okv q n a m w') (h3 : okv q n a m w2) (h4 : ∀ w', w' < w2 → ¬ okv q n a m w') : w = w2 := by
  rcases Nat.lt_trichotomy w w2 with z | z | z
  · exact absurd h1 (h4 w z)
  · exact z
  · exact absurd h3 (h2 w2 z)
theorem mile_e {g h : Mem} (B : RtB h) {n : Nat} (hn : n ≤ 12) (hq : ∀ a v, a < n → v < 4 → g 42 (a * 4 + v) = qs h a v) (T : ∀ a, a ≤ n → TB (qs h) n cv (g 43) a) (f : Nat → Int) (T2 : ∀ a, a ≤ n → TB (qs h) n id f a) {b : Nat} (hb : b < n) : ∀ (k N N2 a m v : Nat), a + k = b + 1 → k < N → k < N2 → m < 37 → (a < n → ¬ lq (qs h) n (n - a) m = -1) → ∃ w : Nat, fX6_milesIn_L32 N b m v a g = some (w : Int) ∧ fX12_best_L202 N2 b m v a (sr h 49 f) = some ((w : Int), sr h 49 f) := by
  have Q := QS_bd B
  intro k
  induction k with
  | zero =>
    intro N N2 a m v hi hN hN2 hm hl
    obtain ⟨N, rfl⟩ : ∃ m, N = m + 1 := ⟨N - 1, by omega⟩
    obtain ⟨N2, rfl⟩ : ∃ m, N2 = m + 1 := ⟨N2 - 1, by omega⟩
    rw [fX6_milesIn_L32, fX12_best_L202]
    simp (disch := omega) only [if_true, if_false, if_pos, if_neg, wr_0, wr_id, gd_i, bnd_e, bd_s, bd2_s, jn_e, Int.toNat_natCast]
    exact ⟨v, rfl, rfl⟩
  | succ k ih =>
    intro N N2 a m v hi hN hN2 hm hl
    obtain ⟨N, rfl⟩ : ∃ m, N = m + 1 := ⟨N - 1, by omega⟩
    obtain ⟨N2, rfl⟩ : ∃ m, N2 = m + 1 := ⟨N2 - 1, by omega⟩
    rw [fX6_milesIn_L32, fX12_best_L202]
    obtain ⟨F, hF, hF2⟩ := fuel_g
    simp (disch := omega) only [if_true, if_false, if_pos, if_neg, wr_0, wr_id, gd_i, bnd_e, bd_s, bd2_s, jn_e, Int.toNat_natCast]
    rw [hF, show (0 : Int) = ((0 : Nat) : Int) from rfl]
    have hl' := hl (by omega)
    obtain ⟨w, hw, o1, o2, e1⟩ := mile41_e Q hn hq (a := a) (by omega) hm (T a (by omega)) (T (a + 1) (by omega)) hl' b (fun (z_12 : Int) (z_13 : Int) (z_14 : Int) (z_15 : Int) => fX6_milesIn_L32 N z_12 (mMax ((0 : Nat) : Int) (z_13 - z_14)) z_14 (z_15 + 1) g) 3 F 0 (by omega) (by omega) (fun w hw => by omega)
    obtain ⟨w2, hw2, p1, p2, e2⟩ := best211_e B hn f (a := a) (by omega) hm (T2 a (by omega)) (T2 (a + 1) (by omega)) hl' b (fun (z_62 : Int) (z_63 : Int) (z_64 : Int) (z_65 : Int) (g_66 : Mem) => if wr z_64 ≤ wr z_63 then fX12_best_L202 N2 z_62 (z_63 - z_64) z_64 (z_65 + 1) g_66 else fX12_best_L202 N2 z_62 ((0 : Nat) : Int) z_64 (z_65 + 1) g_66) 3 F 0 (by omega) (by omega) (fun w hw => by omega)
    have ew := okv_one o1 o2 p1 p2
    subst ew
    rw [e1, e2]
    have em : mMax ((0 : Nat) : Int) ((m : Int) - (w : Int)) = ((m - w : Nat) : Int) := by rw [mMax_e (by omega) (by omega)]; split <;> omega
    have nx := ih N N2 (a + 1) (m - w) w (by omega) (by omega) (by omega) (by omega) (fun _ => o1.1)
    rw [em, ncs]
    by_cases c : w ≤ m
    · rw [if_pos (by rw [wr_id (by omega) (by omega), wr_id (by omega) (by omega)]; omega), show (m : Int) - (w : Int) = ((m - w : Nat) : Int) by omega]
      exact nx
    · rw [if_neg (by rw [wr_id (by omega) (by omega), wr_id (by omega) (by omega)]; omega), show ((0 : Nat) : Int) = ((m - w : Nat) : Int) by omega]
      exact nx
theorem lq_far {q : Nat → Nat → Int} (n : Nat) : ∀ r m, 3 * r < m → lq q n r m = -1 := by
  intro r
  induction r with
  | zero => intro m h; unfold lq; rw [if_neg (by omega)]
  | succ r ih =>
    intro m h
    unfold lq
    rw [ih (m - 3) (by omega), ih (m - 2) (by omega), ih (m - 1) (by omega), ih (m - 0) (by omega)]
    rfl
theorem fs_ok {t q b : Int} (h : ¬ t = -1) (hq : 0 ≤ q) (ht : 0 ≤ t) : ¬ fs t q b = -1 := by
  unfold fs; rw [if_neg h]; split <;> omega
theorem fs_keep {t q b : Int} (h : ¬ b = -1) (hq : 0 ≤ q) (ht : t = -1 ∨ 0 ≤ t) : ¬ fs t q b = -1 := by
  unfold fs; split
  · exact h
  · split <;> omega
theorem lq_near {q : Nat → Nat → Int} (Q : QB q) (n : Nat) : ∀ r m, m ≤ 3 * r → ¬ lq q n r m = -1 := by
  intro r
  induction r with
  | zero => intro m h; unfold lq; rw [if_pos (by omega)]; omega
  | succ r ih =>
    intro m h
    unfold lq
    have a := ih (m - 3) (by omega)
    have b := lq_bd Q n r (m - 3)
    exact fs_ok a (Q _ _).1 (by omega)
def RRoute (g h : Mem) : Prop := RtB h ∧ g 41 2 = h 0 41 ∧ g 41 3 = h 0 44 ∧ (∀ a v : Nat, (a : Int) < h 0 41 → v < 4 → g 42 (a * 4 + v) = qs h a v) ∧ (g 41 4 = 0 ∨ (g 41 4 = 1 ∧ ∀ a, a ≤ (h 0 41).toNat → TB (qs h) (h 0 41).toNat cv (g 43) a))
theorem best_e {g h : Mem} (R : RRoute g h) {a0 a1 : Int} (h0 : IR a0) (h1 : IR a1) : ∃ r r2 g' h', fX11_best a0 a1 g = some (r, g') ∧ fX12_best a0 a1 h = some (r2, h') ∧ r = r2 ∧ RRoute g' h' ∧ (∀ a, a ≠ 41 → a ≠ 43 → g' a = g a) ∧ (∀ a, a ≠ 49 → h' a = h a) := by
  obtain ⟨B, r1, r2, r3, r4⟩ := id R
  have Q := QS_bd B
  obtain ⟨b1, b2, b3, b4⟩ := id B
  unfold IR at h0 h1
  obtain ⟨n, hn⟩ : ∃ n, n = (h 0 41).toNat := ⟨_, rfl⟩
  have hn2 : h 0 41 = (n : Int) := by omega
  have hq : ∀ a v, a < n → v < 4 → g 42 (a * 4 + v) = qs h a v := fun a v ha hv => r3 a v (by omega) hv
  rw [← hn] at r4
  obtain ⟨F, hF, hF2⟩ := fuel_g
  unfold fX11_best fX12_best
  rw [within_e h0 (by omega) (by omega), in_e h0 (by omega) (by omega), in_e h1 (by omega) (by omega)]
  simp only [bd_s]
  by_cases c : 0 ≤ a0 ∧ a0 ≤ 36
  · obtain ⟨m, rfl⟩ : ∃ m : Nat, a0 = m := ⟨a0.toNat, by omega⟩
    obtain ⟨g', s1, s2, s3, s4, s5⟩ := solve_e Q (by omega) (by omega) hq r4
    have RG : RRoute g' h := ⟨B, by rw [s3 2 (by omega)]; exact r1, by rw [s3 3 (by omega)]; exact r2, by rw [s2 42 (by omega) (by omega)]; exact r3, .inr ⟨s4, by rw [← hn]; exact s5⟩⟩
    have hq' : ∀ a v, a < n → v < 4 → g' 42 (a * 4 + v) = qs h a v := by rw [s2 42 (by omega) (by omega)]; exact hq
    have hG : g' 41 2 = (n : Int) := by rw [s3 2 (by omega)]; omega
    have t0 : g' 43 m = cv (lq (qs h) n n m) := by have := s5 0 (by omega) m (by omega); simpa using this
    have lb := lq_bd Q n n m
    have cb : -1 ≤ cv (lq (qs h) n n m) ∧ cv (lq (qs h) n n m) ≤ 100000000 := by unfold cv; split <;> omega
    simp (disch := omega) only [if_true, if_false, if_pos, if_neg, wr_0, wr_id, gd_i, bnd_e, bd_s, bd2_s, jn_e, Int.toNat_natCast, if_pos c]
    rw [s1]
    unfold fX6_leastQueasy
    simp (disch := omega) only [if_true, if_false, if_pos, if_neg, wr_0, wr_id, gd_i, bnd_e, bd_s, bd2_s, jn_e, Int.toNat_natCast, t0]
    by_cases d : (m : Int) ≤ 3 * h 0 41
    · have nm := lq_near Q n n m (by omega)
      rw [show cv (lq (qs h) n n m) = lq (qs h) n n m from if_neg nm]
      by_cases e : -1 ≤ a1 ∧ a1 ≤ h 0 41 - 1
      · simp (disch := omega) only [if_true, if_false, if_pos, if_neg, wr_0, wr_id, gd_i, bnd_e, bd_s, bd2_s, jn_e, Int.toNat_natCast, if_pos e]
        rw [hF, show (0 : Int) = ((0 : Nat) : Int) from rfl]
        obtain ⟨f1, p1, p2, p3⟩ := best32_e (h := h) (n := n) (by omega) hn2 (qs h) m a1 (fun (z_13 : Int) (z_14 : Int) (g_15 : Mem) => fX12_best_L74 F z_13 z_14 ((g_15 0 41) - 1) g_15 (fun (z_46 : Int) (z_47 : Int) (g_48 : Mem) => if wr z_47 = (-1) then gd z_46 481 (some (g_48 49 (wr z_46).toNat, g_48)) else fX12_best_L202 F z_47 z_46 ((0 : Nat) : Int) ((0 : Nat) : Int) g_48)) 37 F 0 (h 49) (by omega) (by omega)
        rw [sr_self] at p1
        rw [p1, show sr h 49 f1 0 41 = (n : Int) from hn2]
        obtain ⟨f2, p4, p5⟩ := best74_e B (n := n) (by omega) m a1 (fun (z_46 : Int) (z_47 : Int) (g_48 : Mem) => if wr z_47 = (-1) then gd z_46 481 (some (g_48 49 (wr z_46).toNat, g_48)) else fX12_best_L202 F z_47 z_46 ((0 : Nat) : Int) ((0 : Nat) : Int) g_48) n F f1 (by omega) (by omega) (fun a' h4 h5 m hm => by rw [show a' = n by omega, show n - n = 0 by omega]; exact p2 m (by omega) hm)
        rw [p4]
        have RH : RRoute g' (sr h 49 f2) := RG
        have t2 : f2 m = lq (qs h) n n m := by have := p5 0 (by omega) m (by omega); simpa using this
        by_cases k : a1 = -1
        · subst k
          simp (disch := omega) only [if_true, if_false, if_pos, if_neg, wr_0, wr_id, gd_i, bnd_e, bd_s, bd2_s, jn_e, Int.toNat_natCast, sr_at, t2]
          exact ⟨_, _, _, _, rfl, rfl, rfl, RH, s2, fun a ha => by funext b; simp [sr, ha]⟩
        · obtain ⟨b, rfl⟩ : ∃ b : Nat, a1 = b := ⟨a1.toNat, by omega⟩
          unfold fX6_milesIn
          simp (disch := omega) only [if_true, if_false, if_pos, if_neg, wr_0, wr_id, gd_i, bnd_e, bd_s, bd2_s, jn_e, Int.toNat_natCast, hG]
          rw [hF, show (0 : Int) = ((0 : Nat) : Int) from rfl]
          obtain ⟨w, w1, w2⟩ := mile_e B (n := n) (by omega) hq' s5 f2 p5 (b := b) (by omega) (b + 1) F F 0 m 0 (by omega) (by omega) (by omega) (by omega) (fun _ => by rw [Nat.sub_zero]; exact nm)
          rw [w1, w2]
          exact ⟨_, _, _, _, rfl, rfl, rfl, RH, s2, fun a ha => by funext b; simp [sr, ha]⟩
      · unfold fX6_milesIn
        simp (disch := omega) only [if_true, if_false, if_pos, if_neg, wr_0, wr_id, gd_i, bnd_e, bd_s, bd2_s, jn_e, Int.toNat_natCast, if_neg e, hG]
        by_cases k : a1 < 0
        · simp (disch := omega) only [if_true, if_false, if_pos, if_neg, wr_0, wr_id, gd_i, bnd_e, bd_s, bd2_s, jn_e, Int.toNat_natCast]
          exact ⟨_, _, _, _, rfl, rfl, rfl, RG, s2, fun _ _ => rfl⟩
        · simp (disch := omega) only [if_true, if_false, if_pos, if_neg, wr_0, wr_id, gd_i, bnd_e, bd_s, bd2_s, jn_e, Int.toNat_natCast]
          exact ⟨_, _, _, _, rfl, rfl, rfl, RG, s2, fun _ _ => rfl⟩
    · have nm := lq_far (q := qs h) n n m (by omega)
      rw [show cv (lq (qs h) n n m) = 100000000 from if_pos nm]
      simp (disch := omega) only [if_true, if_false, if_pos, if_neg, wr_0, wr_id, gd_i, bnd_e, bd_s, bd2_s, jn_e, Int.toNat_natCast]
      exact ⟨_, _, _, _, rfl, rfl, rfl, RG, s2, fun _ _ => rfl⟩
  · simp (disch := omega) only [if_true, if_false, if_pos, if_neg, wr_0, wr_id, gd_i, bnd_e, bd_s, bd2_s, jn_e, Int.toNat_natCast, if_neg c]
    exact ⟨_, _, _, _, rfl, rfl, rfl, R, fun _ _ _ => rfl, fun _ _ => rfl⟩
