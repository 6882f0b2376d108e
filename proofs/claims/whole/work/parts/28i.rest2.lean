/-! REST and STAYS simulated; small calls -/
theorem restM75_no {H : Mem} (hH : ∀ j : Nat, j < 161 → H 46 j = 0) (y1 y2 : Int) (hy : IR y1) (K : Int → Int → Mem → Option (Int × Mem)) : ∀ (k N i : Nat) (left : Int), i + k = 160 → k < N → fX12_restOf_L75 N y1 y2 left i H K = some (-2147483648, H) := by
  unfold IR at hy
  intro k
  induction k with
  | zero =>
    intro N i left hi hN
    obtain ⟨N, rfl⟩ : ∃ m, N = m + 1 := ⟨N - 1, by omega⟩
    rw [fX12_restOf_L75]
    simp (disch := omega) only [if_true, if_false, if_pos, if_neg, wr_0, wr_id, gd_i, bnd_e, bd_s, bd2_s, jn_e, Int.toNat_natCast]
  | succ k ih =>
    intro N i left hi hN
    obtain ⟨N, rfl⟩ : ∃ m, N = m + 1 := ⟨N - 1, by omega⟩
    rw [fX12_restOf_L75]
    by_cases c : y1 < 0
    · simp (disch := omega) only [if_true, if_false, if_pos, if_neg, wr_0, wr_id, gd_i, bnd_e, bd_s, bd2_s, jn_e, Int.toNat_natCast]
    · simp (disch := omega) only [if_true, if_false, if_pos, if_neg, wr_0, wr_id, gd_i, bnd_e, bd_s, bd2_s, jn_e, Int.toNat_natCast, hH i (by omega), ncs]
      exact ih N (i + 1) left (by omega) (by omega)
theorem restM75_neg {H : Mem} (y1 y2 : Int) (hy : IR y1) (hn : y1 < 0) (K : Int → Int → Mem → Option (Int × Mem)) (N : Nat) (left : Int) (hN : 0 < N) : fX12_restOf_L75 N y1 y2 left 0 H K = some (-2147483648, H) := by
  unfold IR at hy
  obtain ⟨N, rfl⟩ : ∃ m, N = m + 1 := ⟨N - 1, by omega⟩
  rw [fX12_restOf_L75]
  simp (disch := omega) only [if_true, if_false, if_pos, if_neg, wr_0, wr_id, gd_i, bnd_e, bd_s, bd2_s, jn_e, Int.toNat_natCast]
theorem restOf_e {n : Nat} {g h : Mem} (R : RR n g h) {a y : Int} (ha : IR a) (hy : y = 0 ∨ y = 1) : ∃ h', Sm h h' ∧ ((0 ≤ a ∧ Fl h 0 ∧ fX12_restOf a y h = some (if fr h 160 (-80) a = -2147483648 then -2147483648 else if y = 0 then (if 0 < ARM h 0 (fr h 160 (-80) a) then 0 else 1) else fr h 160 (-80) a, h')) ∨ (¬ (0 ≤ a ∧ Fl h 0) ∧ fX12_restOf a y h = some (-2147483648, h'))) := by
  obtain ⟨hC, hM, hH, ⟨hR, hv⟩, hW, hS, hB, hD, hT, hU, hO, hP⟩ := id R
  obtain ⟨t1, t2, ⟨q1, q2, q3, q4, q5, q6, q7, q8, q9, q10, q11, q12, q13, q14⟩, t4, t5⟩ := hB
  have C := hC.1
  have B := hH.1
  obtain ⟨F, hF, hF2⟩ := fuel_g
  unfold fX12_restOf
  rw [hF]
  obtain ⟨H, p1, p2, p3, p4⟩ := restM3_e B C q11 (fun s h1 h2 => ⟨fun z => Fl_s hH (by omega) (by omega) z, fun z => Fl_s hH (by omega) (by omega) z⟩) a y (fun (z_18 : Int) (z_19 : Int) (g_20 : Mem) => fX12_restOf_L75 F z_18 z_19 z_18 0 g_20 (fun (z_38 : Int) (z_39 : Int) (g_40 : Mem) => if wr z_38 = 0 then (gd z_39 161 <| if wr (lCmp (g_40 45 (wr z_39).toNat) 0) ≤ 0 then (some (1, g_40)) else (some (0, g_40))) else (some (z_39 - 80, g_40)))) 161 F 0 h (by omega) (by omega) (Sm_refl h)
  rw [show ((0 : Nat) : Int) - 80 = -80 from rfl] at p1
  rw [p1]
  by_cases c : 0 ≤ a
  · by_cases f : Fl h 0
    · refine ⟨H, p2, .inl ⟨c, f, ?_⟩⟩
      have ha2 := ha
      unfold IR at ha2
      have hFl : ∀ s, -80 ≤ s → s ≤ 80 → Fl h s := fun s h1 h2 => Fl_s hH (by omega) ⟨h1, h2⟩ f
      have hH2 : ∀ j : Nat, j < 161 → H 46 j = 1 ∧ H 45 j = ARM h 0 ((j : Int) - 80) := fun j hj => (p4 j (by omega) hj).1 f
      have := restM75_e B C q11 hFl hH2 a y (by omega) (fun (z_38 : Int) (z_39 : Int) (g_40 : Mem) => if wr z_38 = 0 then (gd z_39 161 <| if wr (lCmp (g_40 45 (wr z_39).toNat) 0) ≤ 0 then (some (1, g_40)) else (some (0, g_40))) else (some (z_39 - 80, g_40))) 160 F 0 a (by omega) (by omega) c (by omega)
      rw [show ((0 : Nat) : Int) - 80 = -80 from rfl, show ((0 : Nat) : Int) = 0 from rfl] at this
      rw [this]
      have fb := fr_bd h 160 (-80) a
      clear this p1
      generalize fr h 160 (-80) a = v at *
      by_cases d : v = -2147483648
      · rw [if_pos d, if_pos d]
      · rw [if_neg d, if_neg d]
        rcases hy with rfl | rfl
        · obtain ⟨j, hj⟩ : ∃ j : Nat, v + 80 = j := ⟨(v + 80).toNat, by omega⟩
          have e45 := (hH2 j (by omega)).2
          rw [show (j : Int) - 80 = v by omega] at e45
          have ba := ARM_bd B C q11 (s := v) (by omega) (hFl v (by omega) (by omega))
          rw [hj]
          simp (disch := omega) only [if_true, if_false, if_pos, if_neg, wr_0, wr_id, gd_i, bnd_e, bd_s, bd2_s, jn_e, Int.toNat_natCast, e45]
          rw [lCmp_e (by omega) (by omega)]
          by_cases z : 0 < ARM h 0 v
          · rw [if_neg (by rw [if_pos z]; omega), if_pos z]
          · rw [if_pos (by rw [if_neg z]; split <;> omega), if_neg z]
        · simp (disch := omega) only [if_true, if_false, if_pos, if_neg, wr_0, wr_id, gd_i, bnd_e, bd_s, bd2_s, jn_e, Int.toNat_natCast]
          rw [show v + 80 - 80 = v by omega]
    · refine ⟨H, p2, .inr ⟨fun z => f z.2, ?_⟩⟩
      rw [show (0 : Int) = ((0 : Nat) : Int) from rfl]
      exact restM75_no (fun j hj => (p4 j (by omega) hj).2 f) a y ha _ 160 F 0 a (by omega) (by omega)
  · refine ⟨H, p2, .inr ⟨fun z => c z.1, ?_⟩⟩
    exact restM75_neg a y ha (by omega) _ F a (by omega)
theorem S_rest : Sim_rest RR := by
  intro n g h a0 hn R h0
  have keep : RR (n + 1) g h := RR_mono n (n + 1) g h (by omega) R
  obtain ⟨g', x1, x2, x3⟩ := findRest_e R h0
  obtain ⟨h', y1, y2⟩ := restOf_e R h0 (y := 1) (.inr rfl)
  have fin : RR (n + 1) g' h' := RR_settle keep x2 y1 x1
  unfold fX11_rest fX12_rest
  rcases x3 with ⟨c, f, e1, -⟩ | ⟨nf, e1⟩
  · rcases y2 with ⟨-, -, e2⟩ | ⟨nf, e2⟩
    · rw [e1, e2]
      simp only [bd2_s]
      refine ⟨_, _, _, _, rfl, rfl, ?_, fin⟩
      by_cases d : fr h 160 (-80) a0 = -2147483648
      · rw [if_pos d, d]
      · rw [if_neg d, if_neg (by omega)]
    · exact absurd ⟨c, f⟩ nf
  · rcases y2 with ⟨c, f, e2⟩ | ⟨-, e2⟩
    · exact absurd ⟨c, f⟩ nf
    · rw [e1, e2]
      simp only [bd2_s]
      exact ⟨_, _, _, _, rfl, rfl, rfl, fin⟩
theorem S_stays : Sim_stays RR := by
  intro n g h a0 hn R h0
  have keep : RR (n + 1) g h := RR_mono n (n + 1) g h (by omega) R
  obtain ⟨hC, hM, hH, ⟨hR, hv⟩, hW, hS, hB, hD, hT, hU, hO, hP⟩ := id R
  obtain ⟨t1, t2, ⟨q1, q2, q3, q4, q5, q6, q7, q8, q9, q10, q11, q12, q13, q14⟩, t4, t5⟩ := hB
  obtain ⟨g', x1, x2, x3⟩ := findRest_e R h0
  obtain ⟨h', y1, y2⟩ := restOf_e R h0 (y := 0) (.inl rfl)
  have fin : RR (n + 1) g' h' := RR_settle keep x2 y1 x1
  unfold fX11_stays fX12_stays
  rcases x3 with ⟨c, f, e1, h7⟩ | ⟨nf, e1⟩
  · rcases y2 with ⟨-, -, e2⟩ | ⟨nf, e2⟩
    · rw [e1, e2]
      have fb := fr_bd h 160 (-80) a0
      generalize fr h 160 (-80) a0 = v at *
      by_cases d : v = -2147483648
      · simp (disch := omega) only [if_true, if_false, if_pos, if_neg, wr_0, wr_id, gd_i, bnd_e, bd_s, bd2_s, jn_e, Int.toNat_natCast, if_pos d, d]
        exact ⟨_, _, _, _, rfl, rfl, rfl, fin⟩
      · have hs : -80 ≤ v ∧ v ≤ 80 := by omega
        have ff : Fl h v := Fl_s hH (by omega) hs f
        have ba := ARM_bd hH.1 hC.1 q11 hs ff
        obtain ⟨g2, s1, s2, s3, s4, s5, s6, s7, s8, s9⟩ := settle_e hC.1 (hull_fr x2 hH) x1 hs
        have eg : g2 = g' := by
          have hc := h7 d
          have x7 := x1.2.2.1 v.natAbs
          have x6 := x1.2.2.2
          unfold fX3_settle at s1
          rw [mAbs_e (by omega)] at s1
          simp (disch := omega) only [if_true, if_false, if_pos, if_neg, wr_0, wr_id, gd_i, bnd_e, bd_s, bd2_s, jn_e, Int.toNat_natCast]  at s1
          exact (Option.some.inj s1).symm
        subst eg
        have ea := armX_e (q := 24 + 1) (lot := 0) hC.1 (hull_fr x2 hH) x1 (cargo_fr x2 hC) (by rw [x2 (24 + 1) (by omega)]; exact q10) q11 hs ff s5 s6 s7
        simp (disch := omega) only [if_true, if_false, if_pos, if_neg, wr_0, wr_id, gd_i, bnd_e, bd_s, bd2_s, jn_e, Int.toNat_natCast, if_neg d, ea]
        by_cases z : 0 < ARM h 0 v
        · simp (disch := omega) only [if_true, if_false, if_pos, if_neg, wr_0, wr_id, gd_i, bnd_e, bd_s, bd2_s, jn_e, Int.toNat_natCast, if_pos z]
          exact ⟨_, _, _, _, rfl, rfl, rfl, fin⟩
        · simp (disch := omega) only [if_true, if_false, if_pos, if_neg, wr_0, wr_id, gd_i, bnd_e, bd_s, bd2_s, jn_e, Int.toNat_natCast, if_neg z]
          exact ⟨_, _, _, _, rfl, rfl, rfl, fin⟩
    · exact absurd ⟨c, f⟩ nf
  · rcases y2 with ⟨c, f, e2⟩ | ⟨-, e2⟩
    · exact absurd ⟨c, f⟩ nf
    · rw [e1, e2]
      simp (disch := omega) only [if_true, if_false, if_pos, if_neg, wr_0, wr_id, gd_i, bnd_e, bd_s, bd2_s, jn_e, Int.toNat_natCast]
      exact ⟨_, _, _, _, rfl, rfl, rfl, fin⟩
theorem S_lead : Sim_lead RR := by
  intro n g h a0 hn R h0
  have keep : RR (n + 1) g h := RR_mono n (n + 1) g h (by omega) R
  obtain ⟨hC, hM, hH, ⟨hR, hv⟩, hW, hS, hB, hD, hT, hU, hO, hP⟩ := id R
  obtain ⟨t1, t2, t3, t4, t5⟩ := hB
  unfold IR at h0
  unfold fX11_lead fX12_lead
  rw [within_e h0 (by omega) (by omega), in_e h0 (by omega) (by omega)]
  simp only [bd_s]
  by_cases c : 0 ≤ a0 ∧ a0 ≤ 3
  · simp (disch := omega) only [if_true, if_false, if_pos, if_neg, wr_0, wr_id, gd_i, bnd_e, bd_s, bd2_s, jn_e, Int.toNat_natCast, if_pos c]
    exact ⟨_, _, rfl, rfl, by rw [← t5 a0.toNat (by omega)], keep⟩
  · simp (disch := omega) only [if_true, if_false, if_pos, if_neg, wr_0, wr_id, gd_i, bnd_e, bd_s, bd2_s, jn_e, Int.toNat_natCast, if_neg c]
    exact ⟨_, _, rfl, rfl, rfl, keep⟩
theorem S_kept : Sim_kept RR := by
  intro n g h a0 a1 hn R h0 h1
  have keep : RR (n + 1) g h := RR_mono n (n + 1) g h (by omega) R
  obtain ⟨hC, hM, hH, ⟨hR, hv⟩, hW, hS, hB, hD, hT, hU, hO, hP⟩ := id R
  obtain ⟨t1, t2, t3, t4, t5⟩ := hB
  unfold IR at h0 h1
  unfold fX11_kept fX12_kept fX2_valueOf
  rw [t2, within_e h0 (by omega) (by omega), in_e h0 (by omega) (by omega), in_e h1 (by omega) (by omega)]
  simp only [bd_s]
  by_cases c : 0 ≤ a0 ∧ a0 ≤ h 0 26 - 1
  · obtain ⟨d1, d2, d3, -⟩ := hD.1 a0.toNat (by omega)
    by_cases e0 : a1 = 0
    · subst e0
      simp (disch := omega) only [if_true, if_false, if_pos, if_neg, wr_0, wr_id, gd_i, bnd_e, bd_s, bd2_s, jn_e, Int.toNat_natCast, if_pos c, and_self, Int.reduceLE]
      exact ⟨_, _, rfl, rfl, by rw [d1], keep⟩
    by_cases e1 : a1 = 1
    · subst e1
      simp (disch := omega) only [if_true, if_false, if_pos, if_neg, wr_0, wr_id, gd_i, bnd_e, bd_s, bd2_s, jn_e, Int.toNat_natCast, if_pos c, and_self, Int.reduceLE]
      exact ⟨_, _, rfl, rfl, by rw [d2], keep⟩
    by_cases e2 : a1 = 2
    · subst e2
      simp (disch := omega) only [if_true, if_false, if_pos, if_neg, wr_0, wr_id, gd_i, bnd_e, bd_s, bd2_s, jn_e, Int.toNat_natCast, if_pos c, and_self, Int.reduceLE]
      exact ⟨_, _, rfl, rfl, by rw [d3], keep⟩
    simp (disch := omega) only [if_true, if_false, if_pos, if_neg, wr_0, wr_id, gd_i, bnd_e, bd_s, bd2_s, jn_e, Int.toNat_natCast, if_pos c]
    exact ⟨_, _, rfl, rfl, rfl, keep⟩
  · simp (disch := omega) only [if_true, if_false, if_pos, if_neg, wr_0, wr_id, gd_i, bnd_e, bd_s, bd2_s, jn_e, Int.toNat_natCast, if_neg c]
    exact ⟨_, _, rfl, rfl, rfl, keep⟩
theorem S_place : Sim_place RR := by
  intro n g h a0 hn R h0
  have keep : RR (n + 1) g h := RR_mono n (n + 1) g h (by omega) R
  obtain ⟨hC, hM, hH, ⟨hR, hv⟩, hW, hS, hB, hD, hT, hU, hO, hP⟩ := id R
  obtain ⟨t1, t2, ⟨q1, q2, q3, q4, q5, q6, q7, q8, q9, q10, q11, q12, q13, q14⟩, t4, t5⟩ := hB
  have b1 := hC.1.1
  unfold fX11_place fX12_place
  rcases isWeight_e hC h0 with ⟨w, rfl, hw, h8, e1, e2⟩ | ⟨e1, e2⟩
  · rw [e1, e2]
    simp (disch := omega) only [if_true, if_false, if_pos, if_neg, wr_0, wr_id, gd_i, bnd_e, bd_s, bd2_s, jn_e, Int.toNat_natCast]
    refine ⟨_, _, rfl, rfl, ?_, keep⟩
    have := q10 w (by omega)
    rw [this]; simp
  · rw [e1, e2]
    simp (disch := omega) only [if_true, if_false, if_pos, if_neg, wr_0, wr_id, gd_i, bnd_e, bd_s, bd2_s, jn_e, Int.toNat_natCast]
    exact ⟨_, _, rfl, rfl, rfl, keep⟩
theorem S_wetted : Sim_wetted RR := by
  intro n g h a0 hn R h0
  have keep : RR (n + 1) g h := RR_mono n (n + 1) g h (by omega) R
  obtain ⟨hC, hM, hH, ⟨hR, hv⟩, hW, hS, hB, hD, hT, hU, hO, hP⟩ := id R
  obtain ⟨t1, t2, t3, t4, t5⟩ := hB
  have m1 := hM.1
  unfold IR at h0
  unfold fX11_wetted fX12_wetted
  rw [hM.2.1, within_e h0 (by omega) (by omega), in_e h0 (by omega) (by omega)]
  simp only [bd_s]
  by_cases c : 0 ≤ a0 ∧ a0 ≤ h 0 15 - 1
  · simp (disch := omega) only [if_true, if_false, if_pos, if_neg, wr_0, wr_id, gd_i, bnd_e, bd_s, bd2_s, jn_e, Int.toNat_natCast, if_pos c]
    exact ⟨_, _, rfl, rfl, by rw [← t4 a0.toNat (by omega)], keep⟩
  · simp (disch := omega) only [if_true, if_false, if_pos, if_neg, wr_0, wr_id, gd_i, bnd_e, bd_s, bd2_s, jn_e, Int.toNat_natCast, if_neg c]
    exact ⟨_, _, rfl, rfl, rfl, keep⟩
theorem S_end : Sim_end RR := by
  intro n g h a0 hn R h0
  have keep : RR (n + 1) g h := RR_mono n (n + 1) g h (by omega) R
  obtain ⟨hC, hM, hH, ⟨hR, hv⟩, hW, hS, hB, hD, hT, hU, hO, hP⟩ := id R
  obtain ⟨t1, t2, t3, t4⟩ := hT
  unfold IR at h0
  unfold fX11_end fX12_end
  rw [t2, within_e h0 (by omega) (by omega), in_e h0 (by omega) (by omega)]
  simp only [bd_s]
  by_cases c : 0 ≤ a0 ∧ a0 ≤ h 0 48
  · simp (disch := omega) only [if_true, if_false, if_pos, if_neg, wr_0, wr_id, gd_i, bnd_e, bd_s, bd2_s, jn_e, Int.toNat_natCast, if_pos c]
    refine ⟨_, _, _, _, rfl, rfl, rfl, hC, hM, hH, ⟨hR, ?_⟩, hW, hS, hB, hD, ⟨?_, ?_, t3, t4⟩, hU, hO, hP⟩
    · show g 1 6 ≤ _; omega
    · show 0 ≤ a0 ∧ a0 ≤ 300; omega
    · rfl
  · simp (disch := omega) only [if_true, if_false, if_pos, if_neg, wr_0, wr_id, gd_i, bnd_e, bd_s, bd2_s, jn_e, Int.toNat_natCast, if_neg c]
    exact ⟨_, _, _, _, rfl, rfl, rfl, keep⟩
theorem S_count : Sim_count RR := by
  intro n g h a0 hn R h0
  have keep : RR (n + 1) g h := RR_mono n (n + 1) g h (by omega) R
  obtain ⟨hC, hM, hH, ⟨hR, hv⟩, hW, hS, hB, hD, hT, hU, hO, hP⟩ := id R
  obtain ⟨t1, t2, ⟨q1, q2, q3, q4, q5, q6, q7, q8, q9, q10, q11, q12, q13, q14⟩, t4, t5⟩ := hB
  unfold IR at h0
  unfold fX11_count fX12_count
  rw [wr_id h0.1 h0.2, heavy_e hC.1]
  have fin : ∀ x y : Int, x = y → ∃ r r2, some x = some r ∧ some y = some r2 ∧ wr r = wr r2 ∧ RR (n + 1) g h := fun x y e => ⟨x, y, rfl, rfl, by rw [e], keep⟩
  by_cases c0 : a0 = 0
  · rw [if_pos c0, if_pos c0]; exact fin _ _ t2
  rw [if_neg c0, if_neg c0]
  by_cases c1 : a0 = 1
  · rw [if_pos c1, if_pos c1]; exact fin _ _ hH.2.1
  rw [if_neg c1, if_neg c1]
  by_cases c2 : a0 = 2
  · rw [if_pos c2, if_pos c2]; exact fin _ _ hC.2.1
  rw [if_neg c2, if_neg c2]
  by_cases c3 : a0 = 3
  · rw [if_pos c3, if_pos c3]; exact fin _ _ hC.2.2.1
  rw [if_neg c3, if_neg c3]
  by_cases c4 : a0 = 4
  · rw [if_pos c4, if_pos c4]; exact fin _ _ hW.2.1
  rw [if_neg c4, if_neg c4]
  by_cases c5 : a0 = 5
  · rw [if_pos c5, if_pos c5]; exact fin _ _ hM.2.1
  rw [if_neg c5, if_neg c5]
  by_cases c6 : a0 = 6
  · rw [if_pos c6, if_pos c6]; exact fin _ _ hT.2.1
  rw [if_neg c6, if_neg c6]
  by_cases c7 : a0 = 7
  · rw [if_pos c7, if_pos c7]; simp (disch := omega) only [if_true, if_false, if_pos, if_neg, wr_0, wr_id, gd_i, bnd_e, bd_s, bd2_s, jn_e, Int.toNat_natCast]; exact fin _ _ q6
  rw [if_neg c7, if_neg c7]
  by_cases c8 : a0 = 8
  · rw [if_pos c8, if_pos c8]; simp (disch := omega) only [if_true, if_false, if_pos, if_neg, wr_0, wr_id, gd_i, bnd_e, bd_s, bd2_s, jn_e, Int.toNat_natCast]; exact fin _ _ q7
  rw [if_neg c8, if_neg c8]
  by_cases c9 : a0 = 9
  · rw [if_pos c9, if_pos c9, q9]
    rcases q8 with z | z
    · rw [z]; simp (disch := omega) only [if_true, if_false, if_pos, if_neg, wr_0, wr_id, gd_i, bnd_e, bd_s, bd2_s, jn_e, Int.toNat_natCast, show Int.toNat 0 = 0 from rfl, z]; exact fin _ _ rfl
    · rw [z]; simp (disch := omega) only [if_true, if_false, if_pos, if_neg, wr_0, wr_id, gd_i, bnd_e, bd_s, bd2_s, jn_e, Int.toNat_natCast, show Int.toNat 0 = 0 from rfl, z]; exact fin _ _ rfl
  rw [if_neg c9, if_neg c9]
  by_cases c10 : a0 = 10
  · rw [if_pos c10, if_pos c10]; exact fin _ _ hO.2.1
  rw [if_neg c10, if_neg c10]
  by_cases c11 : a0 = 11
  · rw [if_pos c11, if_pos c11]; exact fin _ _ hP.2.1
  rw [if_neg c11, if_neg c11]
  by_cases c12 : a0 = 12
  · rw [if_pos c12, if_pos c12, bd_s]; exact fin _ _ hC.2.2.2.2.2.2.2.2.2.2.2
  rw [if_neg c12, if_neg c12]
  exact fin _ _ rfl
