/-! still more calls -/
theorem wave14_e {g : Mem} {a per ph : Int} (ha : 1 ≤ a ∧ a ≤ 60) (hp : 4 ≤ per ∧ per ≤ 64) (hh : 0 ≤ ph ∧ ph ≤ 15) (K : Int → Int → Mem → Option (Int × Mem)) : ∀ (k N i : Nat) (f : Nat → Int), i + k = 600 → k < N → ∃ f', fX10_addWave_L14 N a per ph i (sr g 23 f) K = K per ph (sr g 23 f') ∧ (∀ t, i ≤ t → t < 600 → f' t = f t + (a * sn per ph t).tdiv 1000) ∧ (∀ t, t < i ∨ 600 ≤ t → f' t = f t) := by
  intro k
  induction k with
  | zero =>
    intro N i f hi hN
    obtain ⟨N, rfl⟩ : ∃ m, N = m + 1 := ⟨N - 1, by omega⟩
    rw [fX10_addWave_L14]
    simp (disch := omega) only [if_true, if_false, if_pos, if_neg, wr_0, wr_id, gd_i, bnd_e, bd_s, bd2_s, jn_e, Int.toNat_natCast]
    exact ⟨f, rfl, fun t h1 h2 => by omega, fun _ _ => rfl⟩
  | succ k ih =>
    intro N i f hi hN
    obtain ⟨N, rfl⟩ : ∃ m, N = m + 1 := ⟨N - 1, by omega⟩
    rw [fX10_addWave_L14, sineX_e hp hh (by omega)]
    have b := sn_bd per ph i
    have m := mb (x := a) (y := sn per ph i) (A := 60) (B := 1000) (by omega) (by omega) (by omega) (by omega)
    simp (disch := omega) only [if_true, if_false, if_pos, if_neg, wr_0, wr_id, gd_i, bnd_e, bd_s, bd2_s, jn_e, Int.toNat_natCast, ncs, sr_up, sr_at]
    obtain ⟨f', h1, h2, h3⟩ := ih N (i + 1) (fun b => if b = i then f i + (a * sn per ph i).tdiv 1000 else f b) (by omega) (by omega)
    refine ⟨f', h1, fun t ht ht2 => ?_, fun t ht => ?_⟩
    · by_cases c : t = i
      · subst c
        rw [h3 _ (by omega)]; exact if_pos rfl
      · rw [h2 t (by omega) ht2]
        show (if t = i then _ else f t) + _ = _
        rw [if_neg c]
    · rw [h3 t (by omega)]; exact if_neg (by omega)
theorem S_wave : Sim_wave RR := by
  intro n g h a0 a1 a2 hn R h0 h1 h2
  obtain ⟨hC, hM, hH, ⟨hR, hv⟩, hW, hS, hB, hD, hT, hU, hO, hP⟩ := id R
  have keep : RR (n + 1) g h := RR_mono n (n + 1) g h (by omega) R
  obtain ⟨r1, r2, r3, r4, r5, r6, r7⟩ := id hW
  unfold IR at h0 h1 h2
  unfold fX11_wave fX12_wave
  rw [within_e h0 (by omega) (by omega), in_e h0 (by omega) (by omega), within_e h1 (by omega) (by omega), in_e h1 (by omega) (by omega), within_e h2 (by omega) (by omega), in_e h2 (by omega) (by omega)]
  simp only [bd_s]
  unfold fX10_addWave
  by_cases c : (1 ≤ a0 ∧ a0 ≤ 60) ∧ (4 ≤ a1 ∧ a1 ≤ 64) ∧ (0 ≤ a2 ∧ a2 ≤ 15)
  · obtain ⟨x0, x1, x2⟩ := c
    by_cases e : h 0 18 = 8
    · simp (disch := omega) only [if_true, if_false, if_pos, if_neg, wr_0, wr_id, gd_i, bnd_e, bd_s, bd2_s, jn_e, Int.toNat_natCast, if_pos x0, if_pos x1, if_pos x2, r2]
      exact ⟨_, _, _, _, rfl, rfl, rfl, keep⟩
    · obtain ⟨F, hF, hF2⟩ := fuel_g
      have v1 : ∀ v, up h 15 (h 0 18).toNat v 0 18 = h 0 18 := fun _ => rfl
      have v2 : ∀ v w, up (up h 15 (h 0 18).toNat v) 16 (h 0 18).toNat w 0 18 = h 0 18 := fun _ _ => rfl
      have v3 : ∀ v w x, up (up (up h 15 (h 0 18).toNat v) 16 (h 0 18).toNat w) 17 (h 0 18).toNat x 0 18 = h 0 18 := fun _ _ _ => rfl
      simp (disch := omega) only [if_true, if_false, if_pos, if_neg, wr_0, wr_id, gd_i, bnd_e, bd_s, bd2_s, jn_e, Int.toNat_natCast, if_pos x0, if_pos x1, if_pos x2, r2, v1, v2, v3]
      obtain ⟨f', p1, p2, p3⟩ := wave14_e (g := g) x0 x1 x2 (fun (z_9 : Int) (z_10 : Int) (g_11 : Mem) => gd (g_11 20 3) 8 (gd (up g_11 21 (wr (g_11 20 3)).toNat z_9 20 3) 8 (some (up (up g_11 21 (wr (g_11 20 3)).toNat z_9) 22 (wr (up g_11 21 (wr (g_11 20 3)).toNat z_9 20 3)).toNat z_10 20 3, up (up (up g_11 21 (wr (g_11 20 3)).toNat z_9) 22 (wr (up g_11 21 (wr (g_11 20 3)).toNat z_9 20 3)).toNat z_10) 20 3 (up (up g_11 21 (wr (g_11 20 3)).toNat z_9) 22 (wr (up g_11 21 (wr (g_11 20 3)).toNat z_9 20 3)).toNat z_10 20 3 + 1))))) 600 F 0 (g 23) (by omega) (by omega)
      rw [sr_self] at p1
      rw [hF, show (0 : Int) = ((0 : Nat) : Int) from rfl, p1]
      have u0 : sr g 23 f' 20 3 = h 0 18 := r2
      have u1 : ∀ v, up (sr g 23 f') 21 (h 0 18).toNat v 20 3 = h 0 18 := fun _ => r2
      have u2 : ∀ v w, up (up (sr g 23 f') 21 (h 0 18).toNat v) 22 (h 0 18).toNat w 20 3 = h 0 18 := fun _ _ => r2
      simp (disch := omega) only [if_true, if_false, if_pos, if_neg, wr_0, wr_id, gd_i, bnd_e, bd_s, bd2_s, jn_e, Int.toNat_natCast, u0, u1, u2]
      generalize hw : (h 0 18).toNat = w
      refine ⟨_, _, _, _, rfl, rfl, ?_, hC, hM, hH, ⟨hR, ?_⟩, ⟨?_, ?_, ?_, ?_, ?_, r6, ?_⟩, hS, hB, hD, hT, hU, hO, hP⟩
      · congr 1; simp [up]
      · show g 1 6 ≤ _; omega
      · simp [up]; omega
      · simp [up]
      · show up (sr g 23 f') 21 w a1 21 = up h 16 w a1 16
        exact up_eq r3
      · show up (sr g 23 f') 22 w a2 22 = up h 17 w a2 17
        exact up_eq r4
      · intro j hj
        simp [up] at hj
        by_cases cj : j = w
        · subst cj; simp [up]; omega
        · have := r5 j (by omega); simpa [up, cj] using this
      · intro t ht
        show f' t = sm _ 0 (h 0 18 + 1).toNat
        rw [p2 t (by omega) ht, r7 t ht, show (h 0 18 + 1).toNat = w + 1 by omega, sm_last, hw]
        congr 1
        · refine sm_congr (fun j _ hj => ?_)
          have : j ≠ w := by omega
          simp [up, this]
        · simp [up]
  · have : ¬ (1 ≤ a0 ∧ a0 ≤ 60) ∨ ((1 ≤ a0 ∧ a0 ≤ 60) ∧ ¬ (4 ≤ a1 ∧ a1 ≤ 64)) ∨ ((1 ≤ a0 ∧ a0 ≤ 60) ∧ (4 ≤ a1 ∧ a1 ≤ 64) ∧ ¬ (0 ≤ a2 ∧ a2 ≤ 15)) := by omega
    rcases this with z | ⟨z, z2⟩ | ⟨z, z2, z3⟩
    · simp (disch := omega) only [if_true, if_false, if_pos, if_neg, wr_0, wr_id, gd_i, bnd_e, bd_s, bd2_s, jn_e, Int.toNat_natCast, if_neg z]
      exact ⟨_, _, _, _, rfl, rfl, rfl, keep⟩
    · simp (disch := omega) only [if_true, if_false, if_pos, if_neg, wr_0, wr_id, gd_i, bnd_e, bd_s, bd2_s, jn_e, Int.toNat_natCast, if_pos z, if_neg z2]
      exact ⟨_, _, _, _, rfl, rfl, rfl, keep⟩
    · simp (disch := omega) only [if_true, if_false, if_pos, if_neg, wr_0, wr_id, gd_i, bnd_e, bd_s, bd2_s, jn_e, Int.toNat_natCast, if_pos z, if_pos z2, if_neg z3]
      exact ⟨_, _, _, _, rfl, rfl, rfl, keep⟩
theorem S_sea : Sim_sea RR := by
  intro n g h a0 hn R h0
  obtain ⟨r, r2, e1, e2, e3⟩ := sea_e R.2.2.2.2.1 h0
  exact ⟨r, r2, e1, e2, by rw [e3], RR_mono n (n + 1) g h (by omega) R⟩
theorem S_goes : Sim_goes RR := by
  intro n g h a0 hn R h0
  obtain ⟨r, r2, e1, e2, e3⟩ := goes_e R.2.2.2.2.1 R.2.2.2.2.2.2.2.2.2.2.2 h0
  exact ⟨r, r2, e1, e2, by rw [e3], RR_mono n (n + 1) g h (by omega) R⟩
theorem S_read : Sim_read RR := by
  intro n g h a0 hn R h0
  obtain ⟨r, r2, e1, e2, e3⟩ := read_e R.2.2.2.2.1 R.2.2.2.2.2.2.2.2.2.2.2 h0
  exact ⟨r, r2, e1, e2, by rw [e3], RR_mono n (n + 1) g h (by omega) R⟩
theorem S_set : Sim_set RR := by
  intro n g h a0 a1 hn R h0 h1
  obtain ⟨hC, hM, hH, ⟨hR, hv⟩, hW, hS, hB, hD, hT, hU, hO, hP⟩ := id R
  have keep : RR (n + 1) g h := RR_mono n (n + 1) g h (by omega) R
  obtain ⟨s1, s2, s3, s4⟩ := id hS
  unfold IR at h0 h1
  unfold fX11_set fX12_set
  rw [within_e h1 (by omega) (by omega), in_e h0 (by omega) (by omega), within_e h1 (by omega) (by omega), within_e h1 (by omega) (by omega), within_e h1 (by omega) (by omega), wr_id h0.1 h0.2]
  have hv' : g 1 6 ≤ ((n + 1 : Nat) : Int) + 1 := by omega
  by_cases c0 : a0 = 0
  · subst c0
    simp (disch := omega) only [if_true, if_false, if_pos, if_neg, wr_0, wr_id, gd_i, bnd_e, bd_s, bd2_s, jn_e, Int.toNat_natCast]
    rw [in_e h1 (by omega) (by omega)]
    by_cases d : 1 ≤ a1 ∧ a1 ≤ 1000000
    · simp (disch := omega) only [if_true, if_false, if_pos, if_neg, wr_0, wr_id, gd_i, bnd_e, bd_s, bd2_s, jn_e, Int.toNat_natCast, if_pos d]
      exact ⟨_, _, _, _, rfl, rfl, rfl, hC, hM, hH, ⟨hR, hv'⟩, hW, ⟨⟨rfl, d⟩, s2, s3, s4⟩, hB, hD, hT, hU, hO, hP⟩
    · simp (disch := omega) only [if_true, if_false, if_pos, if_neg, wr_0, wr_id, gd_i, bnd_e, bd_s, bd2_s, jn_e, Int.toNat_natCast, if_neg d]
      exact ⟨_, _, _, _, rfl, rfl, rfl, keep⟩
  by_cases c1 : a0 = 1
  · subst c1
    simp (disch := omega) only [if_true, if_false, if_pos, if_neg, wr_0, wr_id, gd_i, bnd_e, bd_s, bd2_s, jn_e, Int.toNat_natCast]
    rw [in_e h1 (by omega) (by omega)]
    by_cases d : 0 ≤ a1 ∧ a1 ≤ 50
    · simp (disch := omega) only [if_true, if_false, if_pos, if_neg, wr_0, wr_id, gd_i, bnd_e, bd_s, bd2_s, jn_e, Int.toNat_natCast, if_pos d]
      exact ⟨_, _, _, _, rfl, rfl, rfl, hC, hM, hH, ⟨hR, hv'⟩, hW, ⟨s1, ⟨rfl, d⟩, s3, s4⟩, hB, hD, hT, hU, hO, hP⟩
    · simp (disch := omega) only [if_true, if_false, if_pos, if_neg, wr_0, wr_id, gd_i, bnd_e, bd_s, bd2_s, jn_e, Int.toNat_natCast, if_neg d]
      exact ⟨_, _, _, _, rfl, rfl, rfl, keep⟩
  by_cases c2 : a0 = 2
  · subst c2
    simp (disch := omega) only [if_true, if_false, if_pos, if_neg, wr_0, wr_id, gd_i, bnd_e, bd_s, bd2_s, jn_e, Int.toNat_natCast]
    rw [in_e h1 (by omega) (by omega)]
    by_cases d : 1 ≤ a1 ∧ a1 ≤ 50
    · simp (disch := omega) only [if_true, if_false, if_pos, if_neg, wr_0, wr_id, gd_i, bnd_e, bd_s, bd2_s, jn_e, Int.toNat_natCast, if_pos d]
      exact ⟨_, _, _, _, rfl, rfl, rfl, hC, hM, hH, ⟨hR, hv'⟩, hW, ⟨s1, s2, ⟨rfl, d⟩, s4⟩, hB, hD, hT, hU, hO, hP⟩
    · simp (disch := omega) only [if_true, if_false, if_pos, if_neg, wr_0, wr_id, gd_i, bnd_e, bd_s, bd2_s, jn_e, Int.toNat_natCast, if_neg d]
      exact ⟨_, _, _, _, rfl, rfl, rfl, keep⟩
  by_cases c3 : a0 = 3
  · subst c3
    simp (disch := omega) only [if_true, if_false, if_pos, if_neg, wr_0, wr_id, gd_i, bnd_e, bd_s, bd2_s, jn_e, Int.toNat_natCast]
    rw [in_e h1 (by omega) (by omega)]
    by_cases d : 0 ≤ a1 ∧ a1 ≤ 9
    · simp (disch := omega) only [if_true, if_false, if_pos, if_neg, wr_0, wr_id, gd_i, bnd_e, bd_s, bd2_s, jn_e, Int.toNat_natCast, if_pos d]
      exact ⟨_, _, _, _, rfl, rfl, rfl, hC, hM, hH, ⟨hR, hv'⟩, hW, ⟨s1, s2, s3, ⟨rfl, d⟩⟩, hB, hD, hT, hU, hO, hP⟩
    · simp (disch := omega) only [if_true, if_false, if_pos, if_neg, wr_0, wr_id, gd_i, bnd_e, bd_s, bd2_s, jn_e, Int.toNat_natCast, if_neg d]
      exact ⟨_, _, _, _, rfl, rfl, rfl, keep⟩
  simp (disch := omega) only [if_true, if_false, if_pos, if_neg, wr_0, wr_id, gd_i, bnd_e, bd_s, bd2_s, jn_e, Int.toNat_natCast]
  exact ⟨_, _, _, _, rfl, rfl, rfl, keep⟩
theorem S_record : Sim_record RR := by
  intro n g h a0 hn R h0
  obtain ⟨hC, hM, hH, ⟨hR, hv⟩, hW, hS, hB, hD, hT, hU, hO, hP⟩ := id R
  have keep : RR (n + 1) g h := RR_mono n (n + 1) g h (by omega) R
  obtain ⟨h1, h2, h3, h4⟩ := id hP
  unfold IR at h0
  unfold fX11_record fX12_record
  rw [within_e h0 (by omega) (by omega), in_e h0 (by omega) (by omega)]
  simp only [bd_s]
  by_cases hc : -80 ≤ a0 ∧ a0 ≤ 80
  · simp (disch := omega) only [if_true, if_false, if_pos, if_neg, wr_0, wr_id, gd_i, bnd_e, bd_s, bd2_s, jn_e, Int.toNat_natCast, if_pos hc, fX8_addNumber, h2]
    by_cases hd : h 0 45 = 64
    · simp (disch := omega) only [if_true, if_false, if_pos, if_neg, wr_0, wr_id, gd_i, bnd_e, bd_s, bd2_s, jn_e, Int.toNat_natCast, if_pos hd]
      exact ⟨_, _, _, _, rfl, rfl, rfl, keep⟩
    · have u1 : ∀ v, up g 45 (h 0 45).toNat v 44 1 = h 0 45 := fun _ => h2
      have u2 : ∀ v, up h 34 (h 0 45).toNat v 0 45 = h 0 45 := fun _ => rfl
      simp (disch := omega) only [if_true, if_false, if_pos, if_neg, wr_0, wr_id, gd_i, bnd_e, bd_s, bd2_s, jn_e, Int.toNat_natCast, if_neg hd, u1, u2]
      refine ⟨_, _, _, _, rfl, rfl, ?_, hC, hM, hH, ⟨hR, ?_⟩, hW, hS, hB, hD, hT, hU, hO, ⟨?_, ?_, ?_, ?_⟩⟩
      · congr 1
      · show g 1 6 ≤ _; omega
      · simp [up]; omega
      · simp [up]
      · intro j hj; simp [up]; by_cases hq : j = (h 0 45).toNat <;> simp [hq]; exact h3 j hj
      · intro j hj; simp [up]; by_cases hq : j = (h 0 45).toNat <;> simp [hq]; · omega
        · exact h4 j hj
  · simp (disch := omega) only [if_true, if_false, if_pos, if_neg, wr_0, wr_id, gd_i, bnd_e, bd_s, bd2_s, jn_e, Int.toNat_natCast, if_neg hc]
    exact ⟨_, _, _, _, rfl, rfl, rfl, keep⟩
theorem S_clear : Sim_clear RR := by
  intro n g h hn R
  obtain ⟨hC, hM, hH, ⟨hR, hv⟩, hW, hS, hB, hD, hT, hU, hO, hP⟩ := id R
  obtain ⟨h1, h2, h3, h4⟩ := id hP
  refine ⟨_, _, _, _, rfl, rfl, ?_, hC, hM, hH, ⟨hR, ?_⟩, hW, hS, hB, hD, hT, hU, hO, ⟨?_, ?_, h3, h4⟩⟩
  · rw [h2]
  · show g 1 6 ≤ _; omega
  · simp [up]
  · simp [up]
theorem S_begin : Sim_begin RR := by
  intro n g h a0 hn R h0
  obtain ⟨hC, hM, hH, ⟨hR, hv⟩, hW, hS, hB, hD, hT, hU, hO, hP⟩ := id R
  have keep : RR (n + 1) g h := RR_mono n (n + 1) g h (by omega) R
  obtain ⟨⟨q1, q2, q3, q4⟩, r1, r2, r3, r4⟩ := id hO
  unfold IR at h0
  unfold fX11_begin fX12_begin fX6_restart
  rw [within_e h0 (by omega) (by omega), in_e h0 (by omega) (by omega)]
  simp only [bd_s]
  by_cases hc : 4 ≤ a0 ∧ a0 ≤ 64
  · simp (disch := omega) only [if_true, if_false, if_pos, if_neg, wr_0, wr_id, gd_i, bnd_e, bd_s, bd2_s, jn_e, Int.toNat_natCast, if_pos hc]
    refine ⟨_, _, _, _, rfl, rfl, ?_, hC, hM, hH, ⟨hR, ?_⟩, hW, hS, hB, hD, hT, hU, ⟨⟨?_, ?_, q3, q4⟩, ?_, ?_, ?_, ?_⟩, hP⟩
    · rw [r1]
    · show g 1 6 ≤ _; omega
    · simp [up]
    · simp [up]; exact hc
    · simp [up]
    · simp [up]
    · intro a v ha hv2; simp [up] at ha; omega
    · simp [up]
  · simp (disch := omega) only [if_true, if_false, if_pos, if_neg, wr_0, wr_id, gd_i, bnd_e, bd_s, bd2_s, jn_e, Int.toNat_natCast, if_neg hc]
    exact ⟨_, _, _, _, rfl, rfl, rfl, keep⟩
theorem S_best : Sim_best RR := by
  intro n g h a0 a1 hn R h0 h1
  obtain ⟨hC, hM, hH, ⟨hR, hv⟩, hW, hS, hB, hD, hT, hU, hO, hP⟩ := id R
  obtain ⟨r, r2, g', h', e1, e2, e3, hO', f1, f2⟩ := best_e hO h0 h1
  have k0 := f2 0 (by omega)
  have gg : ∀ a, a ≠ 41 → a ≠ 43 → g' a = g a := f1
  have eg : ∀ a, (a ≠ 41 ∧ a ≠ 43) → g' a = g a := fun a z => f1 a z.1 z.2
  refine ⟨r, r2, g', h', e1, e2, by rw [e3], ?_, ?_, ?_, ⟨?_, ?_⟩, ?_, ?_, ?_, ?_, ?_, ?_, hO', ?_⟩
  · unfold RCargo CB HV hv1
    rw [eg 8 (by omega), eg 9 (by omega), eg 10 (by omega), eg 11 (by omega), eg 12 (by omega), eg 13 (by omega), eg 14 (by omega), eg 15 (by omega), eg 16 (by omega), k0, f2 4 (by omega), f2 5 (by omega), f2 6 (by omega), f2 7 (by omega), f2 8 (by omega), f2 9 (by omega), f2 10 (by omega), f2 11 (by omega), f2 12 (by omega)]
    exact hC
  · unfold RMarks; rw [eg 17 (by omega), eg 18 (by omega), eg 19 (by omega), k0, f2 13 (by omega), f2 14 (by omega)]; exact hM
  · unfold RHull HB; rw [eg 1 (by omega), eg 2 (by omega), eg 3 (by omega), k0, f2 2 (by omega), f2 3 (by omega)]; exact hH
  · unfold RC LV PR QR HV hv1
    rw [eg 1 (by omega), eg 4 (by omega), eg 5 (by omega), eg 6 (by omega), eg 7 (by omega), k0, f2 2 (by omega), f2 3 (by omega), f2 4 (by omega), f2 8 (by omega), f2 12 (by omega)]
    exact hR
  · rw [eg 1 (by omega)]; omega
  · unfold RWaves; rw [eg 20 (by omega), eg 21 (by omega), eg 22 (by omega), eg 23 (by omega), k0, f2 1 (by omega), f2 15 (by omega), f2 16 (by omega), f2 17 (by omega)]; exact hW
  · unfold RSet; rw [eg 0 (by omega), k0]; exact hS
  · unfold RShip RBody PlB WT; rw [eg 24 (by omega), eg (24 + 1) (by omega), eg 26 (by omega), eg 27 (by omega), k0, f2 18 (by omega), f2 19 (by omega), f2 20 (by omega), f2 21 (by omega), f2 22 (by omega), f2 23 (by omega), f2 24 (by omega), f2 25 (by omega), f2 26 (by omega)]; exact hB
  · unfold RDiary; rw [eg 33 (by omega), eg 34 (by omega), eg 35 (by omega), eg 36 (by omega), k0, f2 27 (by omega), f2 28 (by omega), f2 29 (by omega), f2 30 (by omega), f2 31 (by omega)]; exact hD
  · unfold RText; rw [eg 37 (by omega), eg 38 (by omega), k0, f2 35 (by omega)]; exact hT
  · unfold RRules RCl; rw [eg 0 (by omega), eg (47 + 1) (by omega), eg (47 + 3) (by omega), eg (47 + 4) (by omega), eg (52 + 1) (by omega), eg (52 + 3) (by omega), eg (52 + 4) (by omega), f2 41 (by omega), f2 42 (by omega), f2 43 (by omega), f2 44 (by omega)]; exact hU
  · unfold RTape; rw [eg 44 (by omega), eg 45 (by omega), k0, f2 34 (by omega)]; exact hP
