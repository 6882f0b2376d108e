/-! A TICK's pushes on both sides: body 24, lot 0 -/
theorem pushJ_24 {t : Nat} {out s A : Int} {g2 h2 : Mem} (S : St g2 h2) (RB : RBody 24 0 t g2 h2) (ht : t < 600) (hnow : g2 24 3 = (t : Int)) (hout : 0 ≤ out ∧ out ≤ 9) (hs : h2 19 0 = s) (hA : fX11_armAt (24 + 1) s g2 = some A) (bA : -64000000 ≤ A ∧ A ≤ 64000000) :
    ∃ (g5 h5 : Mem) (v vw F Sea sp sl st : Int), fX11_pushOn 24 out g2 = some (up (up g5 (24 + 3) 3 vw) 24 6 F) ∧ h2 0 22 = st ∧ (¬ wl (wr st) = 0) ∧ fX12_seaIn t (up h2 26 0 (Int.tdiv (wl (-A)) (wl (wr st)))) = some Sea ∧ h2 20 0 = sp ∧ h2 0 23 = sl ∧ fX12_isSo 1 0 t (up (up (up h2 26 0 (Int.tdiv (wl (-A)) (wl (wr st)))) 26 1 Sea) 26 2 (Int.tdiv (wr ((-sp) * sl)) 10)) = some (v, h5) ∧ (if wr v = 0 then 0 else Int.tdiv (wr ((-sp) * out)) 4) = vw ∧ h5 26 0 = Int.tdiv (wl (-A)) (wl (wr st)) ∧ h5 26 1 = Sea ∧ h5 26 2 = Int.tdiv (wr ((-sp) * sl)) 10 ∧ fX12_bounded (wr (Int.tdiv (wl (-A)) (wl (wr st))) + wr Sea + wr (Int.tdiv (wr ((-sp) * sl)) 10) + wr vw) 1000 = some F ∧ (-1000 ≤ F ∧ F ≤ 1000) ∧ (∀ a, a ≠ 24 + 3 → a ≠ 46 → a ≠ 49 → a ≠ 54 → g5 a = g2 a) ∧ (∀ a, a ≠ 26 → a ≠ 47 → a ≠ 48 → h5 a = h2 a) ∧ (∀ j, j < 0 ∨ 3 < j → h5 26 j = h2 26 j) ∧ (∀ j, j < 4 → up g5 (24 + 3) 3 vw (24 + 3) j = up h5 26 3 vw 26 (0 + j)) := by
  obtain ⟨hC, hM, hH, hR, hW, hS, hU⟩ := id S
  obtain ⟨q1, q2, q3, q4, q5, q6, q7, q8, q9, q10, q11, q12, q13, q14⟩ := id RB
  obtain ⟨⟨k1, k2, k3⟩, ⟨k4, k5, k6⟩, ⟨k7, k8, k9⟩, ⟨k10, k11, k12⟩⟩ := hS
  have eX0 : Int.tdiv (wl (-A)) (wl (wr (h2 0 22))) = -(Int.tdiv A (h2 0 22)) := by
    rw [wr_id (z := h2 0 22) (by omega) (by omega), wl_id (by omega) (by omega), wl_id (by omega) (by omega), Int.neg_tdiv]
  have msl := mb (x := h2 20 0) (y := h2 0 23) (A := 30) (B := 50) (by omega) (by omega) (by omega) (by omega)
  have mso := mb (x := h2 20 0) (y := out) (A := 30) (B := 9) (by omega) (by omega) (by omega) (by omega)
  have eX2 : Int.tdiv (wr ((-(h2 20 0)) * h2 0 23)) 10 = -(Int.tdiv (h2 20 0 * h2 0 23) 10) := by
    rw [Int.neg_mul, wr_id (by omega) (by omega), Int.neg_tdiv]
  have eX3 : Int.tdiv (wr ((-(h2 20 0)) * out)) 4 = -(Int.tdiv (h2 20 0 * out) 4) := by
    rw [Int.neg_mul, wr_id (by omega) (by omega), Int.neg_tdiv]
  have hst : ¬ wl (wr (h2 0 22)) = 0 := by
    rw [wr_id (z := h2 0 22) (by omega) (by omega), wl_id (by omega) (by omega)]; omega
  have c1 : fX11_cut A (h2 0 22) = some (Int.tdiv A (h2 0 22)) := by
    unfold fX11_cut
    rw [wr_id (z := h2 0 22) (by omega) (by omega), wr_id (z := A) (by omega) (by omega), if_neg (by omega), gc_of (by omega)]
  have c2 : fX11_cut (h2 20 0 * h2 0 23) 10 = some (Int.tdiv (h2 20 0 * h2 0 23) 10) := by
    unfold fX11_cut
    rw [wr_id (z := (10 : Int)) (by omega) (by omega), wr_id (z := h2 20 0 * h2 0 23) (by omega) (by omega), if_neg (by omega), gc_of (by omega)]
  have c3 : fX11_cut (h2 20 0 * out) 4 = some (Int.tdiv (h2 20 0 * out) 4) := by
    unfold fX11_cut
    rw [wr_id (z := (4 : Int)) (by omega) (by omega), wr_id (z := h2 20 0 * out) (by omega) (by omega), if_neg (by omega), gc_of (by omega)]
  generalize hx0 : -(Int.tdiv A (h2 0 22)) = X0 at *
  generalize hx2 : -(Int.tdiv (h2 20 0 * h2 0 23) 10) = X2 at *
  have px : fX10_pushIn t (up g2 (24 + 3) 0 X0) = some (SEA h2 t) := pushX_e (show RWaves (up g2 (24 + 3) 0 X0) h2 from hW) ht
  have pm : fX12_seaIn t (up h2 26 0 X0) = some (SEA h2 t) := seaIn_e (show RWaves g2 (up h2 26 0 X0) from hW) (by omega)
  obtain ⟨g5, h5, v, w1, w2, w3, w4, w5⟩ := clause_e (b := 24) (lot := 0) (c := 1) (t := t) (by omega) (by omega) ht (T := t) (by omega) (g := up (up (up g2 (24 + 3) 0 X0) (24 + 3) 1 (SEA h2 t)) (24 + 3) 2 X2) (h := up (up (up h2 26 0 X0) 26 1 (SEA h2 t)) 26 2 X2) hC hM hW hU RB hnow
  have r20 : g5 24 5 = h2 20 0 := by rw [w4 24 (by omega) (by omega) (by omega)]; exact q4
  have m0 : g5 (24 + 3) 0 = X0 := by rw [w4 (24 + 3) (by omega) (by omega) (by omega)]; rfl
  have m1 : g5 (24 + 3) 1 = SEA h2 t := by rw [w4 (24 + 3) (by omega) (by omega) (by omega)]; rfl
  have m2 : g5 (24 + 3) 2 = X2 := by rw [w4 (24 + 3) (by omega) (by omega) (by omega)]; rfl
  have n0 : h5 26 0 = X0 := by rw [w5 26 (by omega) (by omega)]; rfl
  have n1 : h5 26 1 = SEA h2 t := by rw [w5 26 (by omega) (by omega)]; rfl
  have n2 : h5 26 2 = X2 := by rw [w5 26 (by omega) (by omega)]; rfl
  obtain ⟨vw, hvw⟩ : ∃ vw, (if wr v = 0 then 0 else Int.tdiv (wr ((-(h2 20 0)) * out)) 4) = vw := ⟨_, rfl⟩
  have hvw2 := hvw
  rw [eX3] at hvw2
  have rr : -9223372036854775808 ≤ wr X0 + wr (SEA h2 t) + wr X2 + wr vw ∧ wr X0 + wr (SEA h2 t) + wr X2 + wr vw < 9223372036854775808 := by
    have a1 := wr_rng X0
    have a2 := wr_rng (SEA h2 t)
    have a3 := wr_rng X2
    have a4 := wr_rng vw
    generalize wr X0 = y0 at *
    generalize wr (SEA h2 t) = y1 at *
    generalize wr X2 = y2 at *
    generalize wr vw = y3 at *
    clear hvw hvw2 w1 w2 px pm
    omega
  have bF := clp_bd (a := wr X0 + wr (SEA h2 t) + wr X2 + wr vw) (m := 1000) (by decide)
  refine ⟨g5, h5, v, vw, clp (wr X0 + wr (SEA h2 t) + wr X2 + wr vw) 1000, SEA h2 t, h2 20 0, h2 0 23, h2 0 22, ?_, rfl, hst, ?_, rfl, rfl, ?_, hvw, ?_, n1, ?_, ?_, bF, ?_, ?_, ?_, ?_⟩
  · refine pushX_yes24 (s := s) (sp := h2 20 0) (st := h2 0 22) (sl := h2 0 23) (A := A) (Sea := SEA h2 t) (v := v) (t := t) (by rw [q2]; exact hs) hA k1 c1 hnow (by rw [hx0]; exact px) q4 k4 c2 ?_ r20 c3 hvw2 (by rw [hx0]; exact m0) m1 (by rw [hx2]; exact m2) ?_
    · rw [hx0, hx2]; exact w1
    · rw [hx0, hx2]; exact bring_e rr (by decide)
  · rw [eX0]; exact pm
  · rw [eX0, eX2]; exact w2
  · rw [eX0]; exact n0
  · rw [eX2]; exact n2
  · rw [eX0, eX2]; exact bounded_e rr (by decide)
  · intro a z1 z2 z3 z4
    rw [w4 a z2 z3 z4, up_ne z1, up_ne z1, up_ne z1]
  · intro a z1 z2 z3
    rw [w5 a z2 z3, up_ne z1, up_ne z1, up_ne z1]
  · intro j hj
    rw [w5 26 (by omega) (by omega), up_row, if_neg (by omega), up_row, if_neg (by omega), up_row, if_neg (by omega)]
  · intro j hj
    match j, hj with
    | 0, _ => exact m0.trans n0.symm
    | 1, _ => exact m1.trans n1.symm
    | 2, _ => exact m2.trans n2.symm
    | 3, _ => rfl

/-! A TICK's pushes on both sides: body 28, lot 1 -/
theorem pushJ_28 {t : Nat} {out s A : Int} {g2 h2 : Mem} (S : St g2 h2) (RB : RBody 28 1 t g2 h2) (ht : t < 600) (hnow : g2 28 3 = (t : Int)) (hout : 0 ≤ out ∧ out ≤ 9) (hs : h2 19 1 = s) (hA : fX11_armAt (28 + 1) s g2 = some A) (bA : -64000000 ≤ A ∧ A ≤ 64000000) :
    ∃ (g5 h5 : Mem) (v vw F Sea sp sl st : Int), fX11_pushOn 28 out g2 = some (up (up g5 (28 + 3) 3 vw) 28 6 F) ∧ h2 0 22 = st ∧ (¬ wl (wr st) = 0) ∧ fX12_seaIn t (up h2 26 4 (Int.tdiv (wl (-A)) (wl (wr st)))) = some Sea ∧ h2 20 1 = sp ∧ h2 0 23 = sl ∧ fX12_isSo 1 1 t (up (up (up h2 26 4 (Int.tdiv (wl (-A)) (wl (wr st)))) 26 5 Sea) 26 6 (Int.tdiv (wr ((-sp) * sl)) 10)) = some (v, h5) ∧ (if wr v = 0 then 0 else Int.tdiv (wr ((-sp) * out)) 4) = vw ∧ h5 26 4 = Int.tdiv (wl (-A)) (wl (wr st)) ∧ h5 26 5 = Sea ∧ h5 26 6 = Int.tdiv (wr ((-sp) * sl)) 10 ∧ fX12_bounded (wr (Int.tdiv (wl (-A)) (wl (wr st))) + wr Sea + wr (Int.tdiv (wr ((-sp) * sl)) 10) + wr vw) 1000 = some F ∧ (-1000 ≤ F ∧ F ≤ 1000) ∧ (∀ a, a ≠ 28 + 3 → a ≠ 46 → a ≠ 49 → a ≠ 54 → g5 a = g2 a) ∧ (∀ a, a ≠ 26 → a ≠ 47 → a ≠ 48 → h5 a = h2 a) ∧ (∀ j, j < 4 ∨ 7 < j → h5 26 j = h2 26 j) ∧ (∀ j, j < 4 → up g5 (28 + 3) 3 vw (28 + 3) j = up h5 26 7 vw 26 (4 + j)) := by
  obtain ⟨hC, hM, hH, hR, hW, hS, hU⟩ := id S
  obtain ⟨q1, q2, q3, q4, q5, q6, q7, q8, q9, q10, q11, q12, q13, q14⟩ := id RB
  obtain ⟨⟨k1, k2, k3⟩, ⟨k4, k5, k6⟩, ⟨k7, k8, k9⟩, ⟨k10, k11, k12⟩⟩ := hS
  have eX0 : Int.tdiv (wl (-A)) (wl (wr (h2 0 22))) = -(Int.tdiv A (h2 0 22)) := by
    rw [wr_id (z := h2 0 22) (by omega) (by omega), wl_id (by omega) (by omega), wl_id (by omega) (by omega), Int.neg_tdiv]
  have msl := mb (x := h2 20 1) (y := h2 0 23) (A := 30) (B := 50) (by omega) (by omega) (by omega) (by omega)
  have mso := mb (x := h2 20 1) (y := out) (A := 30) (B := 9) (by omega) (by omega) (by omega) (by omega)
  have eX2 : Int.tdiv (wr ((-(h2 20 1)) * h2 0 23)) 10 = -(Int.tdiv (h2 20 1 * h2 0 23) 10) := by
    rw [Int.neg_mul, wr_id (by omega) (by omega), Int.neg_tdiv]
  have eX3 : Int.tdiv (wr ((-(h2 20 1)) * out)) 4 = -(Int.tdiv (h2 20 1 * out) 4) := by
    rw [Int.neg_mul, wr_id (by omega) (by omega), Int.neg_tdiv]
  have hst : ¬ wl (wr (h2 0 22)) = 0 := by
    rw [wr_id (z := h2 0 22) (by omega) (by omega), wl_id (by omega) (by omega)]; omega
  have c1 : fX11_cut A (h2 0 22) = some (Int.tdiv A (h2 0 22)) := by
    unfold fX11_cut
    rw [wr_id (z := h2 0 22) (by omega) (by omega), wr_id (z := A) (by omega) (by omega), if_neg (by omega), gc_of (by omega)]
  have c2 : fX11_cut (h2 20 1 * h2 0 23) 10 = some (Int.tdiv (h2 20 1 * h2 0 23) 10) := by
    unfold fX11_cut
    rw [wr_id (z := (10 : Int)) (by omega) (by omega), wr_id (z := h2 20 1 * h2 0 23) (by omega) (by omega), if_neg (by omega), gc_of (by omega)]
  have c3 : fX11_cut (h2 20 1 * out) 4 = some (Int.tdiv (h2 20 1 * out) 4) := by
    unfold fX11_cut
    rw [wr_id (z := (4 : Int)) (by omega) (by omega), wr_id (z := h2 20 1 * out) (by omega) (by omega), if_neg (by omega), gc_of (by omega)]
  generalize hx0 : -(Int.tdiv A (h2 0 22)) = X0 at *
  generalize hx2 : -(Int.tdiv (h2 20 1 * h2 0 23) 10) = X2 at *
  have px : fX10_pushIn t (up g2 (28 + 3) 0 X0) = some (SEA h2 t) := pushX_e (show RWaves (up g2 (28 + 3) 0 X0) h2 from hW) ht
  have pm : fX12_seaIn t (up h2 26 4 X0) = some (SEA h2 t) := seaIn_e (show RWaves g2 (up h2 26 4 X0) from hW) (by omega)
  obtain ⟨g5, h5, v, w1, w2, w3, w4, w5⟩ := clause_e (b := 28) (lot := 1) (c := 1) (t := t) (by omega) (by omega) ht (T := t) (by omega) (g := up (up (up g2 (28 + 3) 0 X0) (28 + 3) 1 (SEA h2 t)) (28 + 3) 2 X2) (h := up (up (up h2 26 4 X0) 26 5 (SEA h2 t)) 26 6 X2) hC hM hW hU RB hnow
  have r20 : g5 28 5 = h2 20 1 := by rw [w4 28 (by omega) (by omega) (by omega)]; exact q4
  have m0 : g5 (28 + 3) 0 = X0 := by rw [w4 (28 + 3) (by omega) (by omega) (by omega)]; rfl
  have m1 : g5 (28 + 3) 1 = SEA h2 t := by rw [w4 (28 + 3) (by omega) (by omega) (by omega)]; rfl
  have m2 : g5 (28 + 3) 2 = X2 := by rw [w4 (28 + 3) (by omega) (by omega) (by omega)]; rfl
  have n0 : h5 26 4 = X0 := by rw [w5 26 (by omega) (by omega)]; rfl
  have n1 : h5 26 5 = SEA h2 t := by rw [w5 26 (by omega) (by omega)]; rfl
  have n2 : h5 26 6 = X2 := by rw [w5 26 (by omega) (by omega)]; rfl
  obtain ⟨vw, hvw⟩ : ∃ vw, (if wr v = 0 then 0 else Int.tdiv (wr ((-(h2 20 1)) * out)) 4) = vw := ⟨_, rfl⟩
  have hvw2 := hvw
  rw [eX3] at hvw2
  have rr : -9223372036854775808 ≤ wr X0 + wr (SEA h2 t) + wr X2 + wr vw ∧ wr X0 + wr (SEA h2 t) + wr X2 + wr vw < 9223372036854775808 := by
    have a1 := wr_rng X0
    have a2 := wr_rng (SEA h2 t)
    have a3 := wr_rng X2
    have a4 := wr_rng vw
    generalize wr X0 = y0 at *
    generalize wr (SEA h2 t) = y1 at *
    generalize wr X2 = y2 at *
    generalize wr vw = y3 at *
    clear hvw hvw2 w1 w2 px pm
    omega
  have bF := clp_bd (a := wr X0 + wr (SEA h2 t) + wr X2 + wr vw) (m := 1000) (by decide)
  refine ⟨g5, h5, v, vw, clp (wr X0 + wr (SEA h2 t) + wr X2 + wr vw) 1000, SEA h2 t, h2 20 1, h2 0 23, h2 0 22, ?_, rfl, hst, ?_, rfl, rfl, ?_, hvw, ?_, n1, ?_, ?_, bF, ?_, ?_, ?_, ?_⟩
  · refine pushX_yes28 (s := s) (sp := h2 20 1) (st := h2 0 22) (sl := h2 0 23) (A := A) (Sea := SEA h2 t) (v := v) (t := t) (by rw [q2]; exact hs) hA k1 c1 hnow (by rw [hx0]; exact px) q4 k4 c2 ?_ r20 c3 hvw2 (by rw [hx0]; exact m0) m1 (by rw [hx2]; exact m2) ?_
    · rw [hx0, hx2]; exact w1
    · rw [hx0, hx2]; exact bring_e rr (by decide)
  · rw [eX0]; exact pm
  · rw [eX0, eX2]; exact w2
  · rw [eX0]; exact n0
  · rw [eX2]; exact n2
  · rw [eX0, eX2]; exact bounded_e rr (by decide)
  · intro a z1 z2 z3 z4
    rw [w4 a z2 z3 z4, up_ne z1, up_ne z1, up_ne z1]
  · intro a z1 z2 z3
    rw [w5 a z2 z3, up_ne z1, up_ne z1, up_ne z1]
  · intro j hj
    rw [w5 26 (by omega) (by omega), up_row, if_neg (by omega), up_row, if_neg (by omega), up_row, if_neg (by omega)]
  · intro j hj
    match j, hj with
    | 0, _ => exact m0.trans n0.symm
    | 1, _ => exact m1.trans n1.symm
    | 2, _ => exact m2.trans n2.symm
    | 3, _ => rfl
