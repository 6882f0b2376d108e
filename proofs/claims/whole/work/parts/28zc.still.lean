/-! TRIED and STILL simulated -/
theorem tries2_e (y1 y2 : Int) (K : Int → Int → Mem → Option Mem) : ∀ (k N i : Nat) (H : Mem), i + k = 12 → k < N → ∃ H', fX12_tries_L2 N y1 y2 i H K = K y1 y2 H' ∧ (∀ j, i ≤ j → j < 12 → H' 18 (12 + j) = H 18 j) ∧ (∀ j, j < 12 + i → H' 18 j = H 18 j) ∧ (∀ a, a ≠ 18 → H' a = H a) := by
  intro k
  induction k with
  | zero =>
    intro N i H hi hN
    obtain ⟨N, rfl⟩ : ∃ x, N = x + 1 := ⟨N - 1, by omega⟩
    rw [fX12_tries_L2]
    simp (disch := omega) only [if_true, if_false, if_pos, if_neg, wr_0, wr_id, gd_i, bnd_e, bd_s, bd2_s, jn_e, Int.toNat_natCast]
    exact ⟨H, rfl, fun j h1 h2 => by omega, fun _ _ => rfl, fun _ _ => rfl⟩
  | succ k ih =>
    intro N i H hi hN
    obtain ⟨N, rfl⟩ : ∃ x, N = x + 1 := ⟨N - 1, by omega⟩
    rw [fX12_tries_L2]
    have e2 : (12 + (i : Int)).toNat = 12 + i := by omega
    simp (disch := omega) only [if_true, if_false, if_pos, if_neg, wr_0, wr_id, gd_i, bnd_e, bd_s, bd2_s, jn_e, Int.toNat_natCast, e2, ncs]
    obtain ⟨H', p1, p2, p3, p4⟩ := ih N (i + 1) (up H 18 (12 + i) (H 18 i)) (by omega) (by omega)
    refine ⟨H', p1, fun j h1 h2 => ?_, fun j hj => ?_, fun a ha => by rw [p4 a ha, up_ne ha]⟩
    · by_cases c : j = i
      · subst c; rw [p3 (12 + j) (by omega), up_row, if_pos rfl]
      · rw [p2 j (by omega) h2, up_row, if_neg (by omega)]
    · rw [p3 j (by omega), up_row, if_neg (by omega)]
theorem tries31_e (y1 y2 : Int) (K : Int → Int → Mem → Option Mem) : ∀ (k N i : Nat) (H : Mem), i + k = 6 → k < N → (∀ j, j < 6 → H 24 j = 0 ∨ H 24 j = 1) → ∃ H', fX12_tries_L31 N y1 y2 i H K = K y1 y2 H' ∧ (∀ j, i ≤ j → j < 6 → H' 24 (6 + j) = H 24 j) ∧ (∀ j, j < 6 + i → H' 24 j = H 24 j) ∧ (∀ a, a ≠ 24 → H' a = H a) := by
  intro k
  induction k with
  | zero =>
    intro N i H hi hN hb
    obtain ⟨N, rfl⟩ : ∃ x, N = x + 1 := ⟨N - 1, by omega⟩
    rw [fX12_tries_L31]
    simp (disch := omega) only [if_true, if_false, if_pos, if_neg, wr_0, wr_id, gd_i, bnd_e, bd_s, bd2_s, jn_e, Int.toNat_natCast]
    exact ⟨H, rfl, fun j h1 h2 => by omega, fun _ _ => rfl, fun _ _ => rfl⟩
  | succ k ih =>
    intro N i H hi hN hb
    obtain ⟨N, rfl⟩ : ∃ x, N = x + 1 := ⟨N - 1, by omega⟩
    rw [fX12_tries_L31]
    have e2 : (6 + (i : Int)).toNat = 6 + i := by omega
    have hbi := hb i (by omega)
    have ec : ∀ k : Option Mem, gc (H 24 i = 0 ∨ H 24 i = 1) k = k := fun k => gc_of hbi
    simp (disch := omega) only [if_true, if_false, if_pos, if_neg, wr_0, wr_id, gd_i, bnd_e, bd_s, bd2_s, jn_e, Int.toNat_natCast, e2, ncs, ec]
    obtain ⟨H', p1, p2, p3, p4⟩ := ih N (i + 1) (up H 24 (6 + i) (H 24 i)) (by omega) (by omega) (fun j hj => by rw [up_row, if_neg (by omega)]; exact hb j hj)
    refine ⟨H', p1, fun j h1 h2 => ?_, fun j hj => ?_, fun a ha => by rw [p4 a ha, up_ne ha]⟩
    · by_cases c : j = i
      · subst c; rw [p3 (6 + j) (by omega), up_row, if_pos rfl]
      · rw [p2 j (by omega) h2, up_row, if_neg (by omega)]
    · rw [p3 j (by omega), up_row, if_neg (by omega)]
theorem RR_trial {n : Nat} {g h g' h' : Mem} (R : RR n g h) (S : St g' h') (G : ∀ a, (a < 4 ∨ (7 < a ∧ a ≠ 28 ∧ a ≠ 29 ∧ a ≠ 30 ∧ a ≠ 31 ∧ a ≠ 46 ∧ a ≠ 49 ∧ a ≠ 54)) → g' a = g a) (X : XK h h') : RR n g' h' := by
  obtain ⟨hC, hM, hH, ⟨hR, hv⟩, hW, hS, hB, hD, hT, hU, hO, hP⟩ := R
  obtain ⟨t1, t2, ⟨q1, q2, q3, q4, q5, q6, q7, q8, q9, q10, q11, q12, q13, q14⟩, t4, t5⟩ := hB
  obtain ⟨x1, x2, x3, ⟨x4, x5, x6, x7, x8⟩, x9, x10⟩ := X
  refine ⟨S.1, S.2.1, S.2.2.1, ⟨S.2.2.2.1, by rw [G 1 (by omega)]; exact hv⟩, S.2.2.2.2.1, S.2.2.2.2.2.1, ⟨?_, ?_, ⟨?_, ?_, ?_, ?_, ?_, ?_, ?_, ?_, ?_, ?_, ?_, ?_, ?_, ?_⟩, ?_, ?_⟩, ?_, ?_, S.2.2.2.2.2.2, ?_, ?_⟩
  · rw [x2 26 (by omega)]; exact t1
  · rw [x2 26 (by omega), G 24 (by omega)]; exact t2
  · rw [x4]; exact q1
  · rw [x4, G 24 (by omega)]; exact q2
  · rw [x5]; exact q3
  · rw [x5, G 24 (by omega)]; exact q4
  · rw [x6, x2 26 (by omega)]; exact q5
  · rw [x6, G 24 (by omega)]; exact q6
  · rw [x7, G 24 (by omega)]; exact q7
  · rw [x8]; exact q8
  · rw [x8, G 24 (by omega)]; exact q9
  · intro j hj; rw [x3 (12 * 0 + j) (by omega), G (24 + 1) (by omega)]; exact q10 j hj
  · intro j hj; rw [x3 (12 * 0 + j) (by omega)]; exact q11 j hj
  · intro m hm; rw [(x9 (6 * 0 + m) (by omega)).1]; exact q12 m hm
  · intro m hm; rw [(x9 (6 * 0 + m) (by omega)).1, x2 15 (by omega)]; exact q13 m hm
  · rw [G 24 (by omega), q14]; unfold WT; rw [(x9 (6 * 0) (by omega)).1, (x9 (6 * 0 + 1) (by omega)).1, (x9 (6 * 0 + 2) (by omega)).1, (x9 (6 * 0 + 3) (by omega)).1, (x9 (6 * 0 + 4) (by omega)).1, (x9 (6 * 0 + 5) (by omega)).1]
  · intro j hj; rw [(x9 j hj).2, G 26 (by omega)]; exact t4 j hj
  · intro j hj; rw [x10 j hj, G 27 (by omega)]; exact t5 j hj
  · unfold RDiary; rw [G 33 (by omega), G 34 (by omega), G 35 (by omega), G 36 (by omega), x2 26 (by omega), x1 27 (by omega), x1 28 (by omega), x1 29 (by omega), x1 30 (by omega), x1 31 (by omega)]; exact hD
  · unfold RText; rw [G 37 (by omega), G 38 (by omega), x2 48 (by omega), x1 35 (by omega)]; exact hT
  · unfold RRoute RtB qs QS; rw [G 41 (by omega), G 42 (by omega), G 43 (by omega), x2 41 (by omega), x2 44 (by omega), x1 32 (by omega), x1 33 (by omega)]; exact hO
  · unfold RTape; rw [G 44 (by omega), G 45 (by omega), x2 45 (by omega), x1 34 (by omega)]; exact hP
def Kt (z_15 z_16 : Int) (g_17 : Mem) : Option Mem :=
      gd 0 2 <|
      gd 1 2 <|
      bnd (up g_17 19 (wr 1).toNat (g_17 19 (wr 0).toNat)) fun g_20 =>
      gd 0 2 <|
      gd 1 2 <|
      bnd (up g_20 20 (wr 1).toNat (g_20 20 (wr 0).toNat)) fun g_23 =>
      gd 0 2 <|
      gd 1 2 <|
      bnd (up g_23 21 (wr 1).toNat (g_23 21 (wr 0).toNat)) fun g_26 =>
      gd 0 2 <|
      gd 1 2 <|
      bnd (up g_26 22 (wr 1).toNat (g_26 22 (wr 0).toNat)) fun g_29 =>
      gd 0 2 <|
      gd 1 2 <|
      gc (g_29 23 (wr 0).toNat = 0 ∨ g_29 23 (wr 0).toNat = 1) <|
      bnd (up g_29 23 (wr 1).toNat (g_29 23 (wr 0).toNat)) fun g_33 =>
      bnd (g_33 0 70) fun x_34 =>
      bnd (up g_33 0 73 0) fun g_35 =>
      fX12_tries_L131 fuel z_15 z_16 x_34 0 g_35
      (fun (z_55 : Int) (g_56 : Mem) =>
        bnd (up g_56 0 70 z_55) fun g_57 =>
        some g_57
      )
theorem tries_def (a0 a1 : Int) (g : Mem) : fX12_tries a0 a1 g = fX12_tries_L2 fuel a0 a1 0 g (fun (z_6 : Int) (z_7 : Int) (g_8 : Mem) => fX12_tries_L31 fuel z_6 z_7 0 g_8 Kt) := (rfl)
theorem Kt_e {m out : Int} {H : Mem} (h01 : H 23 0 = 0 ∨ H 23 0 = 1) : Kt m out H = fX12_tries_L131 fuel m out (H 0 70) 0 (up (up (up (up (up (up H 19 1 (H 19 0)) 20 1 (H 20 0)) 21 1 (H 21 0)) 22 1 (H 22 0)) 23 1 (H 23 0)) 0 73 0) (fun (z_55 : Int) (g_56 : Mem) => some (up g_56 0 70 z_55)) := by
  have dz : ∀ k : Option Mem, gd 0 2 k = k := fun k => gd_i (by decide) (by decide) (by decide)
  have d1 : ∀ k : Option Mem, gd 1 2 k = k := fun k => gd_i (by decide) (by decide) (by decide)
  have w0 : (wr 0).toNat = 0 := by decide
  have w1 : (wr 1).toNat = 1 := by decide
  unfold Kt
  rw [w0, w1]
  simp only [dz, d1, bnd_e]
  refine Eq.trans (gc_of ?_) ?_
  · exact h01
  · rfl
theorem tries_e {n : Nat} {g h : Mem} (R : RR n g h) {m : Nat} (hm : m ≤ 120) {out : Int} (hout : 0 ≤ out ∧ out ≤ 9) : ∃ (g' h' : Mem) (w : Int), fX11_tryOut m out g = some (w, g') ∧ fX12_tries m out h = some h' ∧ h' 0 73 = w ∧ (0 ≤ w ∧ w ≤ 80) ∧ g' 28 7 = h' 21 1 ∧ g' 28 8 = h' 22 1 ∧ RR n g' h' := by
  obtain ⟨hC, hM, hH, ⟨hR, hv⟩, hW, hS, hB, hD, hT, hU, hO, hP⟩ := id R
  obtain ⟨t1, t2, ⟨q1, q2, q3, q4, q5, q6, q7, q8, q9, q10, q11, q12, q13, q14⟩, t4, t5⟩ := id hB
  obtain ⟨F, hF, hF2⟩ := fuel_g
  /- the class's copy -/
  obtain ⟨G0, hG0, c3, c4, c5, c7, c8, c9, c10, cp, cr⟩ : ∃ G0, fX0_copyFrom g = some G0 ∧ G0 28 3 = g 24 3 ∧ G0 28 4 = g 24 4 ∧ G0 28 5 = g 24 5 ∧ G0 28 7 = g 24 7 ∧ G0 28 8 = g 24 8 ∧ G0 28 9 = g 24 9 ∧ G0 28 10 = g 24 10 ∧ (∀ j, j < 12 → G0 (28 + 1) j = g 25 j) ∧ (∀ a, a ≠ 28 → a ≠ 29 → G0 a = g a) := by
    unfold fX0_copyFrom
    simp only [bnd_e]
    rw [gc_of (show _ ∨ _ from by show g 24 10 = 0 ∨ g 24 10 = 1; rw [q9]; exact q8)]
    refine ⟨_, rfl, rfl, rfl, rfl, rfl, rfl, rfl, rfl, fun j hj => ?_, fun a z1 z2 => ?_⟩
    · show cpy g 25 29 12 29 j = _
      simp [cpy, hj]
    · rw [up_ne z1, up_ne z1, up_ne z1, up_ne z1, up_ne z1, up_ne z1, up_ne z1, up_ne z1]
      funext j; simp [cpy, z2]
  /- the reference's copy -/
  obtain ⟨H0, was, hH0, k19, k20, k21, k22, k23, kp, kw, k73, kx⟩ : ∃ (H0 : Mem) (was : Int), fX12_tries m out h = fX12_tries_L131 fuel m out was 0 H0 (fun (z_55 : Int) (g_56 : Mem) => some (up g_56 0 70 z_55)) ∧ H0 19 1 = h 19 0 ∧ H0 20 1 = h 20 0 ∧ H0 21 1 = h 21 0 ∧ H0 22 1 = h 22 0 ∧ H0 23 1 = h 23 0 ∧ (∀ j, j < 12 → H0 18 (12 * 1 + j) = h 18 j) ∧ (∀ j, j < 6 → H0 24 (6 * 1 + j) = h 24 j) ∧ H0 0 73 = 0 ∧ XK h H0 := by
    obtain ⟨H1, a1, a2, a3, a4⟩ := tries2_e m out (fun (z_6 : Int) (z_7 : Int) (g_8 : Mem) => fX12_tries_L31 F z_6 z_7 0 g_8 Kt) 12 F 0 h (by omega) (by omega)
    obtain ⟨H2, b1, b2, b3, b4⟩ := tries31_e m out Kt 6 F 0 H1 (by omega) (by omega) (fun j hj => by
      rw [a4 24 (by omega)]; have := q12 j hj; rw [show 6 * 0 + j = j by omega] at this; exact this)
    have H2r : ∀ a, a ≠ 18 → a ≠ 24 → H2 a = h a := fun a z1 z2 => by rw [b4 a z2, a4 a z1]
    have h18 : H2 18 = H1 18 := b4 18 (by omega)
    have h23 : H2 23 = h 23 := H2r 23 (by omega) (by omega)
    refine ⟨up (up (up (up (up (up H2 19 1 (h 19 0)) 20 1 (h 20 0)) 21 1 (h 21 0)) 22 1 (h 22 0)) 23 1 (h 23 0)) 0 73 0, H2 0 70, ?_, rfl, rfl, rfl, rfl, rfl, fun j hj => ?_, fun j hj => ?_, rfl, ?_⟩
    · rw [tries_def, hF]
      rw [show ((0 : Nat) : Int) = 0 from rfl] at a1 b1
      rw [a1, b1, Kt_e (by rw [h23]; exact q8)]
      rw [show (H2 19 0) = h 19 0 by rw [H2r 19 (by omega) (by omega)], show (H2 20 0) = h 20 0 by rw [H2r 20 (by omega) (by omega)], show (H2 21 0) = h 21 0 by rw [H2r 21 (by omega) (by omega)], show (H2 22 0) = h 22 0 by rw [H2r 22 (by omega) (by omega)], show (H2 23 0) = h 23 0 by rw [h23], hF]
    · show H2 18 (12 * 1 + j) = _
      rw [h18, show 12 * 1 + j = 12 + j by omega, a2 j (by omega) hj]
    · show H2 24 (6 * 1 + j) = _
      rw [show 6 * 1 + j = 6 + j by omega, b2 j (by omega) hj, a4 24 (by omega)]
    · refine ⟨fun a z => ?_, fun b z => ?_, fun j z => ?_, ⟨?_, ?_, ?_, ?_, ?_⟩, fun j z => ⟨?_, ?_⟩, fun j z => ?_⟩
      · rw [up_ne (by omega), up_ne (by omega), up_ne (by omega), up_ne (by omega), up_ne (by omega), up_ne (by omega), H2r a (by omega) (by omega)]
      · rw [up_row, if_neg z.2.2.2]; show H2 0 b = _; rw [H2r 0 (by omega) (by omega)]
      · show H2 18 j = _; rw [h18, a3 j (by omega)]
      · show H2 19 0 = _; rw [H2r 19 (by omega) (by omega)]
      · show H2 20 0 = _; rw [H2r 20 (by omega) (by omega)]
      · show H2 21 0 = _; rw [H2r 21 (by omega) (by omega)]
      · show H2 22 0 = _; rw [H2r 22 (by omega) (by omega)]
      · show H2 23 0 = _; rw [H2r 23 (by omega) (by omega)]
      · show H2 24 j = _; rw [b3 j (by omega), a4 24 (by omega)]
      · show H2 25 j = _; rw [H2r 25 (by omega) (by omega)]
      · show H2 26 j = _; rw [H2r 26 (by omega) (by omega)]
  have S0 : St G0 H0 := by
    have := St_fr (g' := G0) (h' := up H0 0 73 (h 0 73)) ⟨hC, hM, hH, hR, hW, hS, hU⟩ (fun a z => cr a (by omega) (by omega)) ⟨fun a z => by rw [up_ne (by omega)]; exact kx.1 a z, fun b z => by
      rw [up_row]
      by_cases c : b = 73
      · rw [if_pos c, c]
      · rw [if_neg c]; exact kx.2.1 b ⟨z.1, z.2.1, z.2.2, c⟩⟩ (RC_fr hR (cr 1 (by omega) (by omega)) (cr 4 (by omega) (by omega)) (cr 5 (by omega) (by omega)) (cr 6 (by omega) (by omega)) (cr 7 (by omega) (by omega)))
    exact this
  have e26 : H0 0 26 = h 0 26 := kx.2.1 26 (by omega)
  have e15 : H0 0 15 = h 0 15 := kx.2.1 15 (by omega)
  have R0 : RBody 28 1 (h 0 26 + ((0 : Nat) : Int)) G0 H0 := by
    refine ⟨?_, ?_, ?_, ?_, ?_, ?_, ?_, ?_, ?_, ?_, ?_, ?_, ?_, ?_⟩
    · rw [k19]; exact q1
    · rw [k19, c4]; exact q2
    · rw [k20]; exact q3
    · rw [k20, c5]; exact q4
    · rw [k21]; omega
    · rw [k21, c7]; exact q6
    · rw [k22, c8]; exact q7
    · rw [k23]; exact q8
    · rw [k23, c10]; exact q9
    · intro j hj; rw [cp j hj, kp j hj]; have := q10 j hj; rw [show 12 * 0 + j = j by omega] at this; exact this
    · intro j hj; rw [kp j hj]; have := q11 j hj; rw [show 12 * 0 + j = j by omega] at this; exact this
    · intro j hj; rw [kw j hj]; have := q12 j hj; rw [show 6 * 0 + j = j by omega] at this; exact this
    · intro j hj; rw [kw j hj, e15]; have := q13 j hj; rw [show 6 * 0 + j = j by omega] at this; exact this
    · rw [c9, q14]; unfold WT
      have z0 := kw 0 (by omega)
      rw [show 6 * 1 + 0 = 6 * 1 from rfl] at z0
      rw [z0, kw 1 (by omega), kw 2 (by omega), kw 3 (by omega), kw 4 (by omega), kw 5 (by omega)]
  obtain ⟨g', h', w, f1, f2, f3, f4, f5, f6, f7, f8, f9⟩ := try_loop hm (out := out) (was := was) (now := h 0 26) hout t1 (fun (z_55 : Int) (g_56 : Mem) => some (up g_56 0 70 z_55)) m F F 0 G0 H0 (mx (H0 0 73) (H0 19 1)) (by omega) (by omega) (by omega) e26 (by omega) S0 R0 (by rw [c3, t2]; omega) (by rw [k73]; omega) rfl
  refine ⟨g', up h' 0 70 was, w, ?_, ?_, f3, f4, f6, f7, ?_⟩
  · unfold fX11_tryOut
    rw [hG0, bd_s, bnd_e, c4, q2, mAbs_e (by omega), hF]
    rw [show mx (H0 0 73) (H0 19 1) = ((h 19 0).natAbs : Int) by rw [k73, k19]; unfold mx; split <;> omega] at f1
    exact f1
  · rw [hH0, hF]; exact f2
  · refine RR_trial R (show St g' (up h' 0 70 was) from f5) (fun a z => by rw [f8 a (by omega), cr a (by omega) (by omega)]) (XK_trans kx (XK_trans f9 (XK_rows (fun a z => up_ne z) (fun b z _ => by rw [up_row, if_neg z]))))
