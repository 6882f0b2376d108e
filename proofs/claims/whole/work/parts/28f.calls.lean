/-! more calls -/
theorem carry_fr {g g' h : Mem} (c3 : ∀ a, a ≠ 1 → g' a = g a) (c4 : ∀ b, b ≠ 6 → b ≠ 9 → g' 1 b = g 1 b) (F : RMarks g h ∧ RHull g h ∧ RWaves g h ∧ RSet g h ∧ RShip g h ∧ RDiary g h ∧ RText g h ∧ RRules g h ∧ RRoute g h ∧ RTape g h) : RMarks g' h ∧ RHull g' h ∧ RWaves g' h ∧ RSet g' h ∧ RShip g' h ∧ RDiary g' h ∧ RText g' h ∧ RRules g' h ∧ RRoute g' h ∧ RTape g' h := by
  obtain ⟨hM, hH, hW, hS, hB, hD, hT, hU, hO, hP⟩ := F
  refine ⟨?_, ?_, ?_, ?_, ?_, ?_, ?_, ?_, ?_, ?_⟩
  · unfold RMarks; rw [c3 17 (by omega), c3 18 (by omega), c3 19 (by omega)]; exact hM
  · unfold RHull; rw [c4 7 (by omega) (by omega), c4 8 (by omega) (by omega), c3 2 (by omega), c3 3 (by omega)]; exact hH
  · unfold RWaves; rw [c3 20 (by omega), c3 21 (by omega), c3 22 (by omega), c3 23 (by omega)]; exact hW
  · unfold RSet; rw [c3 0 (by omega)]; exact hS
  · unfold RShip RBody; rw [c3 24 (by omega), c3 (24 + 1) (by omega), c3 26 (by omega), c3 27 (by omega)]; exact hB
  · unfold RDiary; rw [c3 33 (by omega), c3 34 (by omega), c3 35 (by omega), c3 36 (by omega)]; exact hD
  · unfold RText; rw [c3 37 (by omega), c3 38 (by omega)]; exact hT
  · unfold RRules RCl; rw [c3 0 (by omega), c3 (47 + 1) (by omega), c3 (47 + 3) (by omega), c3 (47 + 4) (by omega), c3 (52 + 1) (by omega), c3 (52 + 3) (by omega), c3 (52 + 4) (by omega)]; exact hU
  · unfold RRoute; rw [c3 41 (by omega), c3 42 (by omega), c3 43 (by omega)]; exact hO
  · unfold RTape; rw [c3 44 (by omega), c3 45 (by omega)]; exact hP
theorem carry_RCargo {g g' h : Mem} (c3 : ∀ a, a ≠ 1 → g' a = g a) (F : RCargo g h) : RCargo g' h := by
  unfold RCargo; rw [c3 8 (by omega), c3 9 (by omega), c3 10 (by omega), c3 11 (by omega), c3 12 (by omega), c3 13 (by omega), c3 14 (by omega), c3 15 (by omega), c3 16 (by omega)]; exact F
theorem S_tank : Sim_tank RR := by
  intro n g h a0 a1 a2 hn R h0 h1 h2
  obtain ⟨hC, hM, hH, ⟨hR, hv⟩, hW, hS, hB, hD, hT, hU, hO, hP⟩ := id R
  have keep : RR (n + 1) g h := RR_mono n (n + 1) g h (by omega) R
  obtain ⟨B, r1, r2, r3, r4, r5, r6, r7, r8, r9, r10, r11⟩ := id hC
  obtain ⟨b1, b2, b3, b4, b5, b6, b7, b8, b9, b10, b11, b12, b13, b14⟩ := id B
  unfold IR at h0 h1 h2
  unfold fX11_tank fX12_tank
  rw [within_e h0 (by omega) (by omega), in_e h0 (by omega) (by omega), within_e h1 (by omega) (by omega), in_e h1 (by omega) (by omega), within_e h2 (by omega) (by omega), in_e h2 (by omega) (by omega)]
  simp only [bd_s]
  unfold fX1_addTank
  by_cases c : (1 ≤ a0 ∧ a0 ≤ 9) ∧ (0 ≤ a1 ∧ a1 ≤ 40) ∧ (1 ≤ a2 ∧ a2 ≤ 300)
  · obtain ⟨x0, x1, x2⟩ := c
    by_cases e : h 0 10 = 4
    · simp (disch := omega) only [if_true, if_false, if_pos, if_neg, wr_0, wr_id, gd_i, bnd_e, bd_s, bd2_s, jn_e, Int.toNat_natCast, if_pos x0, if_pos x1, if_pos x2, r2]
      exact ⟨_, _, _, _, rfl, rfl, rfl, keep⟩
    · simp (disch := omega) only [if_true, if_false, if_pos, if_neg, wr_0, wr_id, gd_i, bnd_e, bd_s, bd2_s, jn_e, Int.toNat_natCast, if_pos x0, if_pos x1, if_pos x2, r2]
      have u1 : ∀ v, up g 13 (h 0 10).toNat v 8 9 = h 0 10 := fun _ => r2
      have u2 : ∀ v w, up (up g 13 (h 0 10).toNat v) 14 (h 0 10).toNat w 8 9 = h 0 10 := fun _ _ => r2
      have u3 : ∀ v w x, up (up (up g 13 (h 0 10).toNat v) 14 (h 0 10).toNat w) 15 (h 0 10).toNat x 8 9 = h 0 10 := fun _ _ _ => r2
      have v1 : ∀ v, up h 9 (h 0 10).toNat v 0 10 = h 0 10 := fun _ => rfl
      have v2 : ∀ v w, up (up h 9 (h 0 10).toNat v) 10 (h 0 10).toNat w 0 10 = h 0 10 := fun _ _ => rfl
      have v3 : ∀ v w x, up (up (up h 9 (h 0 10).toNat v) 10 (h 0 10).toNat w) 11 (h 0 10).toNat x 0 10 = h 0 10 := fun _ _ _ => rfl
      simp (disch := omega) only [if_true, if_false, if_pos, if_neg, wr_0, wr_id, gd_i, bnd_e, bd_s, bd2_s, jn_e, Int.toNat_natCast, u1, u2, u3, v1, v2, v3]
      refine ⟨_, _, _, _, rfl, rfl, ?_, ?_, hM, hH, ⟨?_, ?_⟩, hW, hS, hB, hD, hT, hU, hO, hP⟩
      · congr 1; simp [up]
      · refine ⟨⟨b1, ?_, b3, b4, b5, b6, b7, up_bd b8 (by omega), up_bd b9 x1, up_bd b10 (by omega), b11, b12, b13, ?_⟩, r1, ?_, r3, r4, r5, up_eq r6, up_eq r7, up_eq r8, r9, r10, ?_⟩
        · simp [up]; omega
        · intro j hj; exact b14 j (by simp [up] at hj; omega)
        · simp [up]
        · show g 8 10 = _
          rw [r11]; unfold HV
          have : ∀ x y z, (up (up (up (up h 9 (h 0 10).toNat x) 10 (h 0 10).toNat y) 11 (h 0 10).toNat z) 0 10 (h 0 10 + 1)) 0 10 = h 0 10 + 1 := fun _ _ _ => rfl
          rw [this]
          show _ = sm (hv1 h) 0 (h 0 4).toNat + sm (h 12) 0 (h 0 10 + 1).toNat
          rw [show (h 0 10 + 1).toNat = (h 0 10).toNat + 1 by omega, sm_last, b14 (0 + (h 0 10).toNat) (by omega)]; omega
      · obtain ⟨c1, c2, c3, c4⟩ := hR
        have hHV : HV (up (up (up (up h 9 (h 0 10).toNat a0) 10 (h 0 10).toNat a1) 11 (h 0 10).toNat a2) 0 10 (h 0 10 + 1)) = HV h := by
          unfold HV
          show sm (hv1 h) 0 (h 0 4).toNat + sm (h 12) 0 (h 0 10 + 1).toNat = _
          rw [show (h 0 10 + 1).toNat = (h 0 10).toNat + 1 by omega, sm_last, b14 (0 + (h 0 10).toNat) (by omega)]; omega
        refine ⟨by rw [hHV]; exact c1, ?_, c3, c4⟩
        have eL : LV (up (up (up (up h 9 (h 0 10).toNat a0) 10 (h 0 10).toNat a1) 11 (h 0 10).toNat a2) 0 10 (h 0 10 + 1)) = LV h := LV_c rfl hHV
        rw [eL]; exact c2
      · show g 1 6 ≤ _; omega
  · have : ¬ (1 ≤ a0 ∧ a0 ≤ 9) ∨ ((1 ≤ a0 ∧ a0 ≤ 9) ∧ ¬ (0 ≤ a1 ∧ a1 ≤ 40)) ∨ ((1 ≤ a0 ∧ a0 ≤ 9) ∧ (0 ≤ a1 ∧ a1 ≤ 40) ∧ ¬ (1 ≤ a2 ∧ a2 ≤ 300)) := by omega
    rcases this with z | ⟨z, z2⟩ | ⟨z, z2, z3⟩
    · simp (disch := omega) only [if_true, if_false, if_pos, if_neg, wr_0, wr_id, gd_i, bnd_e, bd_s, bd2_s, jn_e, Int.toNat_natCast, if_neg z]
      exact ⟨_, _, _, _, rfl, rfl, rfl, keep⟩
    · simp (disch := omega) only [if_true, if_false, if_pos, if_neg, wr_0, wr_id, gd_i, bnd_e, bd_s, bd2_s, jn_e, Int.toNat_natCast, if_pos z, if_neg z2]
      exact ⟨_, _, _, _, rfl, rfl, rfl, keep⟩
    · simp (disch := omega) only [if_true, if_false, if_pos, if_neg, wr_0, wr_id, gd_i, bnd_e, bd_s, bd2_s, jn_e, Int.toNat_natCast, if_pos z, if_pos z2, if_neg z3]
      exact ⟨_, _, _, _, rfl, rfl, rfl, keep⟩
theorem S_fill : Sim_fill RR := by
  intro n g h a0 a1 hn R h0 h1
  obtain ⟨hC, hM, hH, ⟨hR, hv⟩, hW, hS, hB, hD, hT, hU, hO, hP⟩ := id R
  have keep : RR (n + 1) g h := RR_mono n (n + 1) g h (by omega) R
  obtain ⟨B, r1, r2, r3, r4, r5, r6, r7, r8, r9, r10, r11⟩ := id hC
  obtain ⟨b1, b2, b3, b4, b5, b6, b7, b8, b9, b10, b11, b12, b13, b14⟩ := id B
  unfold IR at h0 h1
  unfold fX11_fill fX12_fill fX1_fillTank
  rw [in_e h0 (by omega) (by omega), bd_s]
  by_cases c : 0 ≤ a0 ∧ a0 ≤ h 0 10 - 1
  · obtain ⟨w, rfl⟩ : ∃ w : Nat, a0 = w := ⟨a0.toNat, by omega⟩
    have x10 := b10 w
    have x11 := b11 w
    simp (disch := omega) only [if_true, if_false, if_pos, if_neg, wr_0, wr_id, gd_i, bnd_e, bd_s, bd2_s, jn_e, Int.toNat_natCast, if_pos c, r2, r8]
    rw [in_e h1 (by omega) (by omega)]
    by_cases d : 0 ≤ a1 ∧ a1 ≤ h 11 w
    · simp (disch := omega) only [if_true, if_false, if_pos, if_neg, wr_0, wr_id, gd_i, bnd_e, bd_s, bd2_s, jn_e, Int.toNat_natCast, if_pos d]
      have eH : HV (up h 12 w a1) = HV h + (a1 - h 12 w) := by
        unfold HV
        have := sm_upd (f := h 12) (f' := up h 12 w a1 12) (i := 0) (k := (h 0 10).toNat) (j := w) (fun x hx => by simp [up, hx]) (by omega) (by omega)
        rw [show up h 12 w a1 12 w = a1 by simp [up]] at this
        show sm (hv1 h) 0 (h 0 4).toNat + sm (up h 12 w a1 12) 0 (h 0 10).toNat = _
        omega
      have CB' : CB (up h 12 w a1) := ⟨b1, b2, b3, b4, b5, b6, b7, b8, b9, b10, up_bd b11 (by omega), b12, b13, fun j hj => by
        have : j ≠ w := by intro z; subst z; exact absurd hj (by show ¬ h 0 10 ≤ _; omega)
        simpa [up, this] using b14 j hj⟩
      have e10 : up (up g 8 10 (g 8 10 + (a1 - g 16 w))) 16 w a1 8 10 = HV (up h 12 w a1) := by
        rw [eH, ← r11, ← r9]; rfl
      obtain ⟨g', c1, c2, c3, c4, c5⟩ := carry_e (g := up (up g 8 10 (g 8 10 + (a1 - g 16 w))) 16 w a1) (h' := up h 12 w a1) hR rfl rfl rfl rfl rfl rfl rfl rfl e10 CB' (by have := HV_bd B; omega) (by omega)
      rw [c1]
      obtain ⟨f1, f2, f3, f4, f5, f6, f7, f8, f9, f10⟩ := carry_fr (g := up (up g 8 10 (g 8 10 + (a1 - g 16 w))) 16 w a1) (h := up h 12 w a1) c3 c4 ⟨hM, hH, hW, hS, hB, hD, hT, hU, hO, hP⟩
      refine ⟨_, _, _, _, rfl, rfl, rfl, carry_RCargo c3 ?_, f1, f2, ⟨c2, by omega⟩, f3, f4, f5, f6, f7, f8, f9, f10⟩
      exact ⟨CB', r1, r2, r3, r4, r5, r6, r7, r8, up_eq r9, r10, e10⟩
    · by_cases d2 : a1 < 0
      · simp (disch := omega) only [if_true, if_false, if_pos, if_neg, wr_0, wr_id, gd_i, bnd_e, bd_s, bd2_s, jn_e, Int.toNat_natCast, if_neg d]
        exact ⟨_, _, _, _, rfl, rfl, rfl, keep⟩
      · simp (disch := omega) only [if_true, if_false, if_pos, if_neg, wr_0, wr_id, gd_i, bnd_e, bd_s, bd2_s, jn_e, Int.toNat_natCast, if_neg d]
        exact ⟨_, _, _, _, rfl, rfl, rfl, keep⟩
  · by_cases d2 : a0 < 0
    · simp (disch := omega) only [if_true, if_false, if_pos, if_neg, wr_0, wr_id, gd_i, bnd_e, bd_s, bd2_s, jn_e, Int.toNat_natCast, if_neg c, r2]
      exact ⟨_, _, _, _, rfl, rfl, rfl, keep⟩
    · simp (disch := omega) only [if_true, if_false, if_pos, if_neg, wr_0, wr_id, gd_i, bnd_e, bd_s, bd2_s, jn_e, Int.toNat_natCast, if_neg c, r2]
      exact ⟨_, _, _, _, rfl, rfl, rfl, keep⟩
theorem S_weight : Sim_weight RR := by
  intro n g h a0 a1 a2 a3 hn R h0 h1 h2 h3
  obtain ⟨hC, hM, hH, ⟨hR, hv⟩, hW, hS, hB, hD, hT, hU, hO, hP⟩ := id R
  have keep : RR (n + 1) g h := RR_mono n (n + 1) g h (by omega) R
  obtain ⟨B, r1, r2, r3, r4, r5, r6, r7, r8, r9, r10, r11⟩ := id hC
  obtain ⟨b1, b2, b3, b4, b5, b6, b7, b8, b9, b10, b11, b12, b13, b14⟩ := id B
  unfold fX11_weight fX12_weight
  rw [isPoint_e h1 h2]
  unfold IR at h0 h1 h2 h3
  rw [within_e h0 (by omega) (by omega), in_e h0 (by omega) (by omega), in_e h1 (by omega) (by omega), in_e h2 (by omega) (by omega), in_e h3 (by omega) (by omega), within_e h3 (by omega) (by omega)]
  simp only [bd_s]
  by_cases x0 : 1 ≤ a0 ∧ a0 ≤ 500
  · by_cases x1 : -19 ≤ a1 ∧ a1 ≤ 19
    · by_cases x2 : 0 ≤ a2 ∧ a2 ≤ 40
      · by_cases x3 : -1 ≤ a3 ∧ a3 ≤ 80
        · have main : ∃ r r2 g' h', (bd2 (fX1_addWeight a0 a1 a2 a3 g) fun r_7 g_9 => if wr r_7 = (-1) then (some (r_7, g_9)) else (bd (fX0_putWeight 24 r_7 a1 g_9) fun g_13 => bd (fX3_carry (g_13 8 10) g_13) fun g_16 => some (r_7, g_16))) = some (r, g') ∧ (if h 0 4 = 12 then some ((-1), h) else some (h 0 4, up (up (up (up (up (up h 4 (h 0 4).toNat a0) 5 (h 0 4).toNat a1) 18 (h 0 4).toNat a1) 6 (h 0 4).toNat a2) 7 (h 0 4).toNat a3) 0 4 (h 0 4 + 1))) = some (r2, h') ∧ wr r = wr r2 ∧ RR (n + 1) g' h' := by
            unfold fX1_addWeight
            by_cases e : h 0 4 = 12
            · simp (disch := omega) only [if_true, if_false, if_pos, if_neg, wr_0, wr_id, gd_i, bnd_e, bd_s, bd2_s, jn_e, Int.toNat_natCast, r1, e]
              exact ⟨_, _, _, _, rfl, rfl, rfl, keep⟩
            · have u1 : ∀ v, up g 9 (h 0 4).toNat v 8 8 = h 0 4 := fun _ => r1
              have u2 : ∀ v w, up (up g 9 (h 0 4).toNat v) 10 (h 0 4).toNat w 8 8 = h 0 4 := fun _ _ => r1
              have u3 : ∀ v w x, up (up (up g 9 (h 0 4).toNat v) 10 (h 0 4).toNat w) 11 (h 0 4).toNat x 8 8 = h 0 4 := fun _ _ _ => r1
              have u4 : ∀ v w x y, up (up (up (up g 9 (h 0 4).toNat v) 10 (h 0 4).toNat w) 11 (h 0 4).toNat x) 12 (h 0 4).toNat y 8 10 = g 8 10 := fun _ _ _ _ => rfl
              have u5 : ∀ v w x y z, up (up (up (up (up g 9 (h 0 4).toNat v) 10 (h 0 4).toNat w) 11 (h 0 4).toNat x) 12 (h 0 4).toNat y) 8 10 z 8 8 = h 0 4 := fun _ _ _ _ _ => r1
              unfold fX0_putWeight
              simp (disch := omega) only [if_true, if_false, if_pos, if_neg, wr_0, wr_id, gd_i, bnd_e, bd_s, bd2_s, jn_e, Int.toNat_natCast, r1, u1, u2, u3, u4, u5]
              generalize hw : (h 0 4).toNat = w
              have hw2 : h 0 4 = (w : Int) := by omega
              have hl8 : h 8 w = 0 := b13 w (by omega)
              generalize hh' : up (up (up (up (up (up h 4 w a0) 5 w a1) 18 w a1) 6 w a2) 7 w a3) 0 4 (h 0 4 + 1) = h'
              generalize hg' : up (up (up (up (up (up (up g 9 w a0) 10 w a1) 11 w a2) 12 w a3) 8 10 (g 8 10 + a0)) 8 8 (h 0 4 + 1)) (24 + 1) w a1 = g1
              have e04 : h' 0 4 = h 0 4 + 1 := by rw [← hh']; rfl
              have eH : HV h' = HV h + a0 := by
                unfold HV
                rw [e04]
                have e12 : h' 12 = h 12 := by rw [← hh']; rfl
                have e010 : h' 0 10 = h 0 10 := by rw [← hh']; rfl
                rw [e12, e010, show (h 0 4 + 1).toNat = w + 1 by omega, sm_last, hw]
                have ea : sm (hv1 h') 0 w = sm (hv1 h) 0 w := sm_congr (fun j _ hj => by
                  have : j ≠ w := by omega
                  rw [← hh']; simp [hv1, up, this])
                have eb : hv1 h' (0 + w) = a0 := by
                  rw [← hh']; simp [hv1, up, hl8]
                rw [ea, eb]; omega
              have CB' : CB h' := by
                rw [← hh']
                refine ⟨?_, b2, b3, up_bd b4 (by omega), up_bd b5 x1, up_bd b6 x2, up_bd b7 x3, b8, b9, b10, b11, ?_, ?_, b14⟩
                · simp [up]; omega
                · intro j hj
                  simp [up] at hj
                  by_cases c : j = w
                  · simp [up, c]; omega
                  · have := b12 j (by omega); simpa [up, c] using this
                · intro j hj
                  simp [up] at hj
                  exact b13 j (by omega)
              have e10 : g1 8 10 = HV h' := by rw [eH, ← r11, ← hg']; rfl
              obtain ⟨g', c1, c2, c3, c4, c5⟩ := carry_e (g := g1) (h' := h') hR (by rw [← hg']; rfl) (by rw [← hg']; rfl) (by rw [← hg']; rfl) (by rw [← hg']; rfl) (by rw [← hg']; rfl) (by rw [← hg']; rfl) (by rw [← hh']; rfl) (by rw [← hh']; rfl) e10 CB' (by have := HV_bd B; omega) (by omega)
              rw [c1]
              have F : RMarks g1 h' ∧ RHull g1 h' ∧ RWaves g1 h' ∧ RSet g1 h' ∧ RShip g1 h' ∧ RDiary g1 h' ∧ RText g1 h' ∧ RRules g1 h' ∧ RRoute g1 h' ∧ RTape g1 h' := by
                rw [← hg', ← hh']
                refine ⟨hM, hH, hW, hS, ?_, hD, hT, hU, hO, hP⟩
                obtain ⟨s1, s2, ⟨q1, q2, q3, q4, q5, q6, q7, q8, q9, q10, q11, q12, q13, q14⟩, s4, s5⟩ := hB
                refine ⟨s1, s2, ⟨q1, q2, q3, q4, q5, q6, q7, q8, q9, ?_, PlB_up q11 x1, q12, q13, q14⟩, s4, s5⟩
                intro j hj
                by_cases c : j = w
                · simp [up, c]
                · have := q10 j hj; simpa [up, c] using this
              obtain ⟨f1, f2, f3, f4, f5, f6, f7, f8, f9, f10⟩ := carry_fr (g := g1) (h := h') c3 c4 F
              refine ⟨_, _, _, _, rfl, rfl, rfl, carry_RCargo c3 ?_, f1, f2, ⟨c2, by omega⟩, f3, f4, f5, f6, f7, f8, f9, f10⟩
              refine ⟨CB', ?_, ?_, ?_, ?_, ?_, ?_, ?_, ?_, ?_, ?_, e10⟩
              · rw [← hg', e04]; rfl
              · rw [← hg', ← hh']; exact r2
              · rw [← hg', ← hh']; exact up_eq r3
              · rw [← hg', ← hh']; exact up_eq r4
              · rw [← hg', ← hh']; exact up_eq r5
              · rw [← hg', ← hh']; exact r6
              · rw [← hg', ← hh']; exact r7
              · rw [← hg', ← hh']; exact r8
              · rw [← hg', ← hh']; exact r9
              · intro j
                rw [← hg', ← hh']
                by_cases c : j = w
                · simp [up, hv1, c, hl8]
                · have := r10 j; simpa [up, hv1, c] using this
          have v1 : ∀ v, up h 4 (h 0 4).toNat v 0 4 = h 0 4 := fun _ => rfl
          have v2 : ∀ v w, up (up h 4 (h 0 4).toNat v) 5 (h 0 4).toNat w 0 4 = h 0 4 := fun _ _ => rfl
          have v3 : ∀ v w x, up (up (up h 4 (h 0 4).toNat v) 5 (h 0 4).toNat w) 18 (h 0 4).toNat x 0 4 = h 0 4 := fun _ _ _ => rfl
          have v4 : ∀ v w x y, up (up (up (up h 4 (h 0 4).toNat v) 5 (h 0 4).toNat w) 18 (h 0 4).toNat x) 6 (h 0 4).toNat y 0 4 = h 0 4 := fun _ _ _ _ => rfl
          have v5 : ∀ v w x y z, up (up (up (up (up h 4 (h 0 4).toNat v) 5 (h 0 4).toNat w) 18 (h 0 4).toNat x) 6 (h 0 4).toNat y) 7 (h 0 4).toNat z 0 4 = h 0 4 := fun _ _ _ _ _ => rfl
          have v6 : ∀ v w x y z u, up (up (up (up (up (up h 4 (h 0 4).toNat v) 5 (h 0 4).toNat w) 18 (h 0 4).toNat x) 6 (h 0 4).toNat y) 7 (h 0 4).toNat z) 0 4 u 0 4 = u := fun _ _ _ _ _ _ => rfl
          by_cases k : a3 = -1
          · simp (disch := omega) only [if_true, if_false, if_pos, if_neg, wr_0, wr_id, gd_i, bnd_e, bd_s, bd2_s, jn_e, Int.toNat_natCast, if_pos x0, if_pos x1, if_pos x2, if_pos x3, v1, v2, v3, v4, v5, v6]
            rw [show h 0 4 + 1 - 1 = h 0 4 by omega]
            exact main
          · have x3' : 0 ≤ a3 ∧ a3 ≤ 80 := by omega
            simp (disch := omega) only [if_true, if_false, if_pos, if_neg, wr_0, wr_id, gd_i, bnd_e, bd_s, bd2_s, jn_e, Int.toNat_natCast, if_pos x0, if_pos x1, if_pos x2, if_pos x3, if_pos x3', v1, v2, v3, v4, v5, v6]
            rw [show h 0 4 + 1 - 1 = h 0 4 by omega]
            exact main
        · have x3' : ¬ (0 ≤ a3 ∧ a3 ≤ 80) := by omega
          simp (disch := omega) only [if_true, if_false, if_pos, if_neg, wr_0, wr_id, gd_i, bnd_e, bd_s, bd2_s, jn_e, Int.toNat_natCast, if_pos x0, if_pos x1, if_pos x2, if_neg x3, if_neg x3']
          exact ⟨_, _, _, _, rfl, rfl, rfl, keep⟩
      · simp (disch := omega) only [if_true, if_false, if_pos, if_neg, wr_0, wr_id, gd_i, bnd_e, bd_s, bd2_s, jn_e, Int.toNat_natCast, if_pos x0, if_pos x1, if_neg x2]
        exact ⟨_, _, _, _, rfl, rfl, rfl, keep⟩
    · simp (disch := omega) only [if_true, if_false, if_pos, if_neg, wr_0, wr_id, gd_i, bnd_e, bd_s, bd2_s, jn_e, Int.toNat_natCast, if_pos x0, if_neg x1]
      exact ⟨_, _, _, _, rfl, rfl, rfl, keep⟩
  · simp (disch := omega) only [if_true, if_false, if_pos, if_neg, wr_0, wr_id, gd_i, bnd_e, bd_s, bd2_s, jn_e, Int.toNat_natCast, if_neg x0]
    exact ⟨_, _, _, _, rfl, rfl, rfl, keep⟩
