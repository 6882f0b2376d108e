/-! A TICK evaluated, its parts given: body 24, lot 0 -/
theorem goesM_over0 {t : Nat} {out : Int} {h : Mem} (a0 : h 23 0 = 1) : fX12_goesOn 0 t out h = some (0, up h 0 70 0) := by
  have dl : ∀ k : Option (Int × Mem), gd 0 2 k = k := fun k => gd_i (by decide) (by decide) (by decide)
  have wL : (wr 0).toNat = 0 := by decide
  unfold fX12_goesOn
  rw [bnd_e, dl, wL, if_neg (show ¬ wr (up h 0 70 0 23 0) = 0 from by rw [show up h 0 70 0 23 0 = h 23 0 from rfl, a0]; decide)]
theorem goesM_no0 {t : Nat} {out s : Int} {h h1 h2 : Mem} (a0 : h 23 0 = 0) (a1 : fX12_slides 0 (up h 0 70 0) = some h1) (a2 : h1 19 0 = s) (a3 : fX12_levelAt s h1 = some (-2147483648, h2)) : fX12_goesOn 0 t out h = some (0, up h2 23 0 1) := by
  have dl : ∀ k : Option (Int × Mem), gd 0 2 k = k := fun k => gd_i (by decide) (by decide) (by decide)
  have wL : (wr 0).toNat = 0 := by decide
  unfold fX12_goesOn
  rw [bnd_e, dl, wL, if_pos (show wr (up h 0 70 0 23 0) = 0 from by rw [show up h 0 70 0 23 0 = h 23 0 from rfl, a0]; rfl), a1, bd_s, dl, a2, a3, bd2_s, if_pos (show wr (-2147483648) = -2147483648 by decide), dl, bnd_e]
theorem swayX_no24 {out s : Int} {g g1 : Mem} (b0 : g 24 4 = s) (b1 : fX1_slide (24 + 1) s (up g 24 6 0) = some g1) (b2 : fX3_floats g1 = some 0) : fX11_sway 24 out g = some (up (up g1 24 10 1) 24 3 (up g1 24 10 1 24 3 + 1)) := by
  unfold fX11_sway
  rw [bnd_e, show up g 24 6 0 24 4 = s from b0, b1, bd_s, b2, bd_s, jn_e, if_pos (show wr 0 = 0 by decide), bnd_e]
  rfl
theorem swayX_yes24 {out s s1 inr v0 lv1 : Int} {g g1 g2 g3 g4 g5 g6 g7 g8 g9 : Mem} (b0 : g 24 4 = s) (b1 : fX1_slide (24 + 1) s (up g 24 6 0) = some g1) (b2 : fX3_floats g1 = some 1) (b3 : g1 24 4 = s) (b4 : fX3_settle s g1 = some g2) (b5 : fX11_pushOn 24 out g2 = some g3) (b6 : g3 0 16 = inr) (b7 : fX0_turn 24 inr g3 = some g4) (b8 : fX0_sicken 24 g4 = some g5) (b9 : fX11_clauseHolds 24 0 g5 = some (v0, g6)) (b10 : (if wr v0 = 0 then g6 else up g6 24 8 (g6 24 8 + 1)) = g7) (b11 : g7 24 4 = s1) (b12 : fX3_settle s1 g7 = some g8) (b13 : g8 24 4 = s1) (b14 : fX3_levelAt s1 g8 = some lv1) (b15 : fX0_wash 24 lv1 g8 = some g9) : fX11_sway 24 out g = some (up g9 24 3 (g9 24 3 + 1)) := by
  unfold fX11_sway
  rw [bnd_e, show up g 24 6 0 24 4 = s from b0, b1, bd_s, b2, bd_s, jn_e, if_neg (show ¬ wr 1 = 0 by decide), b3, b4, bd_s, b5, bd_s, b6, b7, bd_s, b8, bd_s, b9, bd2_s, jn_e]
  by_cases c : wr v0 = 0
  · rw [if_pos c] at b10 ⊢
    subst b10
    dsimp only
    rw [b11, b12, bd_s, b13, b14, bd_s, b15, bd_s, bnd_e]
  · rw [if_neg c] at b10 ⊢
    rw [bnd_e, b10]
    dsimp only
    rw [b11, b12, bd_s, b13, b14, bd_s, b15, bd_s, bnd_e]
theorem pushX_yes24 {out s sp st sl A Sea v F vw : Int} {t : Nat} {g2 g5 : Mem} (b0 : g2 24 4 = s) (b1 : fX11_armAt (24 + 1) s g2 = some A) (b2 : g2 0 14 = st) (b3 : fX11_cut A st = some (Int.tdiv A st)) (b4 : g2 24 3 = (t : Int)) (b5 : fX10_pushIn t (up g2 (24 + 3) 0 (-(Int.tdiv A st))) = some Sea) (b6 : g2 24 5 = sp) (b7 : g2 0 15 = sl) (b8 : fX11_cut (sp * sl) 10 = some (Int.tdiv (sp * sl) 10)) (b9 : fX11_clauseHolds 24 1 (up (up (up g2 (24 + 3) 0 (-(Int.tdiv A st))) (24 + 3) 1 Sea) (24 + 3) 2 (-(Int.tdiv (sp * sl) 10))) = some (v, g5)) (b10 : g5 24 5 = sp) (b11 : fX11_cut (sp * out) 4 = some (Int.tdiv (sp * out) 4)) (hvw : (if wr v = 0 then 0 else -(Int.tdiv (sp * out) 4)) = vw) (e0 : g5 (24 + 3) 0 = -(Int.tdiv A st)) (e1 : g5 (24 + 3) 1 = Sea) (e2 : g5 (24 + 3) 2 = -(Int.tdiv (sp * sl) 10)) (b12 : fX11_bring (wr (-(Int.tdiv A st)) + wr Sea + wr (-(Int.tdiv (sp * sl) 10)) + wr vw) 1000 = some F) : fX11_pushOn 24 out g2 = some (up (up g5 (24 + 3) 3 vw) 24 6 F) := by
  have d0 : ∀ k : Option Mem, gd 0 4 k = k := fun k => gd_i (by decide) (by decide) (by decide)
  have d1 : ∀ k : Option Mem, gd 1 4 k = k := fun k => gd_i (by decide) (by decide) (by decide)
  have d2 : ∀ k : Option Mem, gd 2 4 k = k := fun k => gd_i (by decide) (by decide) (by decide)
  have d3 : ∀ k : Option Mem, gd 3 4 k = k := fun k => gd_i (by decide) (by decide) (by decide)
  have w0 : (wr 0).toNat = 0 := by decide
  have w1 : (wr 1).toNat = 1 := by decide
  have w2 : (wr 2).toNat = 2 := by decide
  have w3 : (wr 3).toNat = 3 := by decide
  unfold fX11_pushOn
  rw [b0, b1, bd_s, b2, b3, bd_s, d0, w0, bnd_e, show up g2 (24 + 3) 0 (-(Int.tdiv A st)) 24 3 = (t : Int) from b4, b5, bd_s, d1, w1, bnd_e, show up (up g2 (24 + 3) 0 (-(Int.tdiv A st))) (24 + 3) 1 Sea 24 5 = sp from b6, show up (up g2 (24 + 3) 0 (-(Int.tdiv A st))) (24 + 3) 1 Sea 0 15 = sl from b7, b8, bd_s, d2, w2, bnd_e, b9, bd2_s, jn_e]
  have tail : ∀ x : Int, x = vw → (gd 3 4 <|
    bnd (up g5 (24 + 3) (wr 3).toNat x) fun g_20 =>
    gd 0 4 <|
    gd 1 4 <|
    gd 2 4 <|
    gd 3 4 <|
    bd (fX11_bring ((((wr (g_20 (24 + 3) 0)) + (wr (g_20 (24 + 3) 1))) + (wr (g_20 (24 + 3) 2))) + (wr (g_20 (24 + 3) (wr 3).toNat))) 1000) fun r_25 =>
    bnd (up g_20 24 6 r_25) fun g_27 =>
    some g_27) = some (up (up g5 (24 + 3) 3 vw) 24 6 F) := by
    intro x hx
    subst hx
    rw [d3, w3, bnd_e, d0, d1, d2, d3, show up g5 (24 + 3) 3 x (24 + 3) 0 = -(Int.tdiv A st) from e0, show up g5 (24 + 3) 3 x (24 + 3) 1 = Sea from e1, show up g5 (24 + 3) 3 x (24 + 3) 2 = -(Int.tdiv (sp * sl) 10) from e2, show up g5 (24 + 3) 3 x (24 + 3) 3 = x from rfl, b12, bd_s, bnd_e]
  by_cases c : wr v = 0
  · rw [if_pos c] at hvw ⊢; exact tail 0 hvw
  · rw [if_neg c] at hvw ⊢; rw [b10, b11, bd_s]; exact tail _ hvw
theorem turnX_24 {g : Mem} {s sp F inr sp1 s1 ov : Int} (b0 : g 24 4 = s) (b1 : g 24 5 = sp) (b2 : g 24 6 = F) (b3 : fX0_nextSpeed sp F inr = some sp1) (b4 : fX11_bring (wr (s + sp1)) 80 = some s1) (hov : (if wr (s + sp1) = wr s1 then 0 else 1) = ov) : fX0_turn 24 inr g = some (up (up (up g 24 5 sp1) 24 4 s1) 24 10 ov) := by
  unfold fX0_turn
  rw [b1, b2, b3, bd_s, bnd_e, show up g 24 5 sp1 24 4 = s from b0, show up g 24 5 sp1 24 5 = sp1 from rfl, bnd_e, b4, bd_s, bnd_e, jn_e, show up (up g 24 5 sp1) 24 4 s1 24 4 = s1 from rfl]
  by_cases c : wr (s + sp1) = wr s1
  · rw [if_pos c] at hov ⊢; subst hov; exact gc_of (.inl rfl)
  · rw [if_neg c] at hov ⊢; subst hov; exact gc_of (.inr rfl)

/-! A TICK evaluated, its parts given: body 28, lot 1 -/
theorem goesM_over1 {t : Nat} {out : Int} {h : Mem} (a0 : h 23 1 = 1) : fX12_goesOn 1 t out h = some (0, up h 0 70 0) := by
  have dl : ∀ k : Option (Int × Mem), gd 1 2 k = k := fun k => gd_i (by decide) (by decide) (by decide)
  have wL : (wr 1).toNat = 1 := by decide
  unfold fX12_goesOn
  rw [bnd_e, dl, wL, if_neg (show ¬ wr (up h 0 70 0 23 1) = 0 from by rw [show up h 0 70 0 23 1 = h 23 1 from rfl, a0]; decide)]
theorem goesM_no1 {t : Nat} {out s : Int} {h h1 h2 : Mem} (a0 : h 23 1 = 0) (a1 : fX12_slides 1 (up h 0 70 0) = some h1) (a2 : h1 19 1 = s) (a3 : fX12_levelAt s h1 = some (-2147483648, h2)) : fX12_goesOn 1 t out h = some (0, up h2 23 1 1) := by
  have dl : ∀ k : Option (Int × Mem), gd 1 2 k = k := fun k => gd_i (by decide) (by decide) (by decide)
  have wL : (wr 1).toNat = 1 := by decide
  unfold fX12_goesOn
  rw [bnd_e, dl, wL, if_pos (show wr (up h 0 70 0 23 1) = 0 from by rw [show up h 0 70 0 23 1 = h 23 1 from rfl, a0]; rfl), a1, bd_s, dl, a2, a3, bd2_s, if_pos (show wr (-2147483648) = -2147483648 by decide), dl, bnd_e]
theorem swayX_no28 {out s : Int} {g g1 : Mem} (b0 : g 28 4 = s) (b1 : fX1_slide (28 + 1) s (up g 28 6 0) = some g1) (b2 : fX3_floats g1 = some 0) : fX11_sway 28 out g = some (up (up g1 28 10 1) 28 3 (up g1 28 10 1 28 3 + 1)) := by
  unfold fX11_sway
  rw [bnd_e, show up g 28 6 0 28 4 = s from b0, b1, bd_s, b2, bd_s, jn_e, if_pos (show wr 0 = 0 by decide), bnd_e]
  rfl
theorem swayX_yes28 {out s s1 inr v0 lv1 : Int} {g g1 g2 g3 g4 g5 g6 g7 g8 g9 : Mem} (b0 : g 28 4 = s) (b1 : fX1_slide (28 + 1) s (up g 28 6 0) = some g1) (b2 : fX3_floats g1 = some 1) (b3 : g1 28 4 = s) (b4 : fX3_settle s g1 = some g2) (b5 : fX11_pushOn 28 out g2 = some g3) (b6 : g3 0 16 = inr) (b7 : fX0_turn 28 inr g3 = some g4) (b8 : fX0_sicken 28 g4 = some g5) (b9 : fX11_clauseHolds 28 0 g5 = some (v0, g6)) (b10 : (if wr v0 = 0 then g6 else up g6 28 8 (g6 28 8 + 1)) = g7) (b11 : g7 28 4 = s1) (b12 : fX3_settle s1 g7 = some g8) (b13 : g8 28 4 = s1) (b14 : fX3_levelAt s1 g8 = some lv1) (b15 : fX0_wash 28 lv1 g8 = some g9) : fX11_sway 28 out g = some (up g9 28 3 (g9 28 3 + 1)) := by
  unfold fX11_sway
  rw [bnd_e, show up g 28 6 0 28 4 = s from b0, b1, bd_s, b2, bd_s, jn_e, if_neg (show ¬ wr 1 = 0 by decide), b3, b4, bd_s, b5, bd_s, b6, b7, bd_s, b8, bd_s, b9, bd2_s, jn_e]
  by_cases c : wr v0 = 0
  · rw [if_pos c] at b10 ⊢
    subst b10
    dsimp only
    rw [b11, b12, bd_s, b13, b14, bd_s, b15, bd_s, bnd_e]
  · rw [if_neg c] at b10 ⊢
    rw [bnd_e, b10]
    dsimp only
    rw [b11, b12, bd_s, b13, b14, bd_s, b15, bd_s, bnd_e]
theorem pushX_yes28 {out s sp st sl A Sea v F vw : Int} {t : Nat} {g2 g5 : Mem} (b0 : g2 28 4 = s) (b1 : fX11_armAt (28 + 1) s g2 = some A) (b2 : g2 0 14 = st) (b3 : fX11_cut A st = some (Int.tdiv A st)) (b4 : g2 28 3 = (t : Int)) (b5 : fX10_pushIn t (up g2 (28 + 3) 0 (-(Int.tdiv A st))) = some Sea) (b6 : g2 28 5 = sp) (b7 : g2 0 15 = sl) (b8 : fX11_cut (sp * sl) 10 = some (Int.tdiv (sp * sl) 10)) (b9 : fX11_clauseHolds 28 1 (up (up (up g2 (28 + 3) 0 (-(Int.tdiv A st))) (28 + 3) 1 Sea) (28 + 3) 2 (-(Int.tdiv (sp * sl) 10))) = some (v, g5)) (b10 : g5 28 5 = sp) (b11 : fX11_cut (sp * out) 4 = some (Int.tdiv (sp * out) 4)) (hvw : (if wr v = 0 then 0 else -(Int.tdiv (sp * out) 4)) = vw) (e0 : g5 (28 + 3) 0 = -(Int.tdiv A st)) (e1 : g5 (28 + 3) 1 = Sea) (e2 : g5 (28 + 3) 2 = -(Int.tdiv (sp * sl) 10)) (b12 : fX11_bring (wr (-(Int.tdiv A st)) + wr Sea + wr (-(Int.tdiv (sp * sl) 10)) + wr vw) 1000 = some F) : fX11_pushOn 28 out g2 = some (up (up g5 (28 + 3) 3 vw) 28 6 F) := by
  have d0 : ∀ k : Option Mem, gd 0 4 k = k := fun k => gd_i (by decide) (by decide) (by decide)
  have d1 : ∀ k : Option Mem, gd 1 4 k = k := fun k => gd_i (by decide) (by decide) (by decide)
  have d2 : ∀ k : Option Mem, gd 2 4 k = k := fun k => gd_i (by decide) (by decide) (by decide)
  have d3 : ∀ k : Option Mem, gd 3 4 k = k := fun k => gd_i (by decide) (by decide) (by decide)
  have w0 : (wr 0).toNat = 0 := by decide
  have w1 : (wr 1).toNat = 1 := by decide
  have w2 : (wr 2).toNat = 2 := by decide
  have w3 : (wr 3).toNat = 3 := by decide
  unfold fX11_pushOn
  rw [b0, b1, bd_s, b2, b3, bd_s, d0, w0, bnd_e, show up g2 (28 + 3) 0 (-(Int.tdiv A st)) 28 3 = (t : Int) from b4, b5, bd_s, d1, w1, bnd_e, show up (up g2 (28 + 3) 0 (-(Int.tdiv A st))) (28 + 3) 1 Sea 28 5 = sp from b6, show up (up g2 (28 + 3) 0 (-(Int.tdiv A st))) (28 + 3) 1 Sea 0 15 = sl from b7, b8, bd_s, d2, w2, bnd_e, b9, bd2_s, jn_e]
  have tail : ∀ x : Int, x = vw → (gd 3 4 <|
    bnd (up g5 (28 + 3) (wr 3).toNat x) fun g_20 =>
    gd 0 4 <|
    gd 1 4 <|
    gd 2 4 <|
    gd 3 4 <|
    bd (fX11_bring ((((wr (g_20 (28 + 3) 0)) + (wr (g_20 (28 + 3) 1))) + (wr (g_20 (28 + 3) 2))) + (wr (g_20 (28 + 3) (wr 3).toNat))) 1000) fun r_25 =>
    bnd (up g_20 28 6 r_25) fun g_27 =>
    some g_27) = some (up (up g5 (28 + 3) 3 vw) 28 6 F) := by
    intro x hx
    subst hx
    rw [d3, w3, bnd_e, d0, d1, d2, d3, show up g5 (28 + 3) 3 x (28 + 3) 0 = -(Int.tdiv A st) from e0, show up g5 (28 + 3) 3 x (28 + 3) 1 = Sea from e1, show up g5 (28 + 3) 3 x (28 + 3) 2 = -(Int.tdiv (sp * sl) 10) from e2, show up g5 (28 + 3) 3 x (28 + 3) 3 = x from rfl, b12, bd_s, bnd_e]
  by_cases c : wr v = 0
  · rw [if_pos c] at hvw ⊢; exact tail 0 hvw
  · rw [if_neg c] at hvw ⊢; rw [b10, b11, bd_s]; exact tail _ hvw
theorem turnX_28 {g : Mem} {s sp F inr sp1 s1 ov : Int} (b0 : g 28 4 = s) (b1 : g 28 5 = sp) (b2 : g 28 6 = F) (b3 : fX0_nextSpeed sp F inr = some sp1) (b4 : fX11_bring (wr (s + sp1)) 80 = some s1) (hov : (if wr (s + sp1) = wr s1 then 0 else 1) = ov) : fX0_turn 28 inr g = some (up (up (up g 28 5 sp1) 28 4 s1) 28 10 ov) := by
  unfold fX0_turn
  rw [b1, b2, b3, bd_s, bnd_e, show up g 28 5 sp1 28 4 = s from b0, show up g 28 5 sp1 28 5 = sp1 from rfl, bnd_e, b4, bd_s, bnd_e, jn_e, show up (up g 28 5 sp1) 28 4 s1 28 4 = s1 from rfl]
  by_cases c : wr (s + sp1) = wr s1
  · rw [if_pos c] at hov ⊢; subst hov; exact gc_of (.inl rfl)
  · rw [if_neg c] at hov ⊢; subst hov; exact gc_of (.inr rfl)
