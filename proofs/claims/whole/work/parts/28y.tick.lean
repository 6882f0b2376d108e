/-! A TICK on both sides, whole: body 24, lot 0 -/
def BK_24 (g g' : Mem) : Prop := ∀ a, (a < 4 ∨ (7 < a ∧ a ≠ 24 ∧ a ≠ 24 + 1 ∧ a ≠ 24 + 2 ∧ a ≠ 24 + 3 ∧ a ≠ 46 ∧ a ≠ 49 ∧ a ≠ 54)) → g' a = g a
theorem tick_24 {t : Nat} {out : Int} {g h : Mem} (S : St g h) (RB : RBody 24 0 t g h) (ht : t < 600) (hnow : g 24 3 = (t : Int)) (h23 : h 23 0 = 0) (hout : 0 ≤ out ∧ out ≤ 9) : ∃ (g' h' : Mem) (r : Int), fX11_sway 24 out g = some g' ∧ fX12_goesOn 0 t out h = some (r, h') ∧ St g' h' ∧ RBody 24 0 ((t : Int) + 1) g' h' ∧ g' 24 3 = (t : Int) + 1 ∧ g' 24 6 = h' 0 70 ∧ (-1000 ≤ h' 0 70 ∧ h' 0 70 ≤ 1000) ∧ ((r = 1 ∧ Fl h 0) ∨ (r = 0 ∧ ¬ Fl h 0)) ∧ BK_24 g g' ∧ LK_0 h h' ∧ ((∀ j, j < 6 → g (24 + 2) j = h 25 (6 * 0 + j)) → ∀ j, j < 6 → g' (24 + 2) j = h' 25 (6 * 0 + j)) ∧ ((∀ j, j < 4 → g (24 + 3) j = h 26 (0 + j)) → ∀ j, j < 4 → g' (24 + 3) j = h' 26 (0 + j)) := by
  obtain ⟨g1, h1, b1, a1, S1, R1, G1, G1B, g16, lk1, h170, H1⟩ := slideJ_24 S RB
  obtain ⟨q1, q2, q3, q4, q5, q6, q7, q8, q9, q10, q11, q12, q13, q14⟩ := id RB
  obtain ⟨p1, p2, p3, p4, p5, p6, p7, p8, p9, p10, p11, p12, p13, p14⟩ := id R1
  have e19 : h1 19 0 = h 19 0 := by rw [H1 19 (by omega) (by omega)]
  have hFl : Fl h1 (h 19 0) ↔ Fl h 0 := by
    rw [HK_Fl lk1.1]; exact ⟨fun z => Fl_s S.2.2.1 q1 (by omega) z, fun z => Fl_s S.2.2.1 (by omega) q1 z⟩
  rcases floats_e S1.1.1 S1.2.2.1 S1.2.2.2.1 q1 with ⟨f1, f2⟩ | ⟨f1, f2⟩
  · have f0 : Fl h 0 := hFl.1 f1
    obtain ⟨g2, s1, s2, s3, s4, s5, s6, s7, -⟩ := settle_e S1.1.1 S1.2.2.1 S1.2.2.2.1 q1
    have ly := level_yes S1.2.2.1.1 S1.1.1 q1 f1
    have lb := LV_bd h1 (h 19 0)
    have aX := armX_e (q := 24 + 1) (lot := 0) S1.1.1 (hull_fr s3 S1.2.2.1) s2 (cargo_fr s3 S1.1) (by rw [s3 (24 + 1) (by omega)]; exact p10) p11 q1 f1 s5 s6 s7
    have aM := armM_e (lot := 0) S1.2.2.1.1 S1.1.1 (by omega) p11 q1 f1
    have bA := ARM_bd S1.2.2.1.1 S1.1.1 p11 q1 f1
    have lkw : LK_0 h1 (wm h1 (PR h1 (h 19 0) (LV h1 (h 19 0))) (QR h1 (h 19 0) (LV h1 (h 19 0)))) := LK_rows0 (fun a z _ _ => by unfold wm; rw [up_ne z, up_ne z]) (fun b z => by unfold wm; rw [up_row, if_neg z.2.1, up_row, if_neg z.1])
    have hw70 : wm h1 (PR h1 (h 19 0) (LV h1 (h 19 0))) (QR h1 (h 19 0) (LV h1 (h 19 0))) 0 70 = h1 0 70 := rfl
    have H2 : ∀ a, a ≠ 0 → wm h1 (PR h1 (h 19 0) (LV h1 (h 19 0))) (QR h1 (h 19 0) (LV h1 (h 19 0))) a = h1 a := fun a z => by unfold wm; rw [up_ne z, up_ne z]
    generalize hh2 : wm h1 (PR h1 (h 19 0) (LV h1 (h 19 0))) (QR h1 (h 19 0) (LV h1 (h 19 0))) = h2 at *
    have S2 : St g2 h2 := St_fr S1 (fun a z => s3 a (by omega)) lkw.1 s2
    have g2B : g2 24 = g1 24 := s3 24 (by omega)
    have R2 : RBody 24 0 t g2 h2 := RBody_fr R1 (fun c _ => by rw [g2B]) (s3 (24 + 1) (by omega)) (lkw.1.2 15 (by omega)) (H2 18 (by omega)) (by rw [H2 19 (by omega)]) (by rw [H2 20 (by omega)]) (by rw [H2 21 (by omega)]) (by rw [H2 22 (by omega)]) (by rw [H2 23 (by omega)]) (H2 24 (by omega))
    have e2 : h2 19 0 = h 19 0 := by rw [H2 19 (by omega)]; exact e19
    have n2 : g2 24 3 = (t : Int) := by rw [g2B, G1B 3 (by omega)]; exact hnow
    obtain ⟨g5, h5, v, vw, F, Sea, sp, sl, st, c1, c2, c3, c4, c5, c6, c7, c8, c9, c10, c11, c12, c13, c14, c15, c16, c17⟩ := pushJ_24 S2 R2 ht n2 hout e2 aX bA
    obtain ⟨y1, y2, y3, y4, y5, y6, y7, y8, y9, y10, y11, y12, y13, y14⟩ := id R2
    have hS := S2.2.2.2.2.2.1
    obtain ⟨⟨k1, k2, k3⟩, ⟨k4, k5, k6⟩, ⟨k7, k8, k9⟩, ⟨k10, k11, k12⟩⟩ := hS
    have hsp : -30 ≤ sp ∧ sp ≤ 30 := by rw [← c5]; exact y3
    /- turn -/
    have tF : -1000 ≤ Int.tdiv F (h2 0 24) ∧ Int.tdiv F (h2 0 24) ≤ 1000 := by
      have : (Int.tdiv F (h2 0 24)).natAbs ≤ F.natAbs := by rw [Int.natAbs_tdiv]; exact Nat.div_le_self _ _
      omega
    have wF : wr F = F := wr_id (by omega) (by omega)
    obtain ⟨sp1, hsp1⟩ : ∃ sp1, clp (sp + Int.tdiv F (h2 0 24)) 30 = sp1 := ⟨_, rfl⟩
    have bsp1 : -30 ≤ sp1 ∧ sp1 ≤ 30 := by rw [← hsp1]; exact clp_bd (by decide)
    obtain ⟨s1', hs1⟩ : ∃ s1', clp (h 19 0 + sp1) 80 = s1' := ⟨_, rfl⟩
    have bs1 : -80 ≤ s1' ∧ s1' ≤ 80 := by rw [← hs1]; exact clp_bd (by decide)
    obtain ⟨ov, hov⟩ : ∃ ov : Int, (if wr (h 19 0 + sp1) = wr s1' then 0 else 1) = ov := ⟨_, rfl⟩
    have bov : ov = 0 ∨ ov = 1 := by
      rw [← hov]; split
      · exact .inl rfl
      · exact .inr rfl
    obtain ⟨add, hadd⟩ : ∃ add : Int, (if 4 < (sp1.natAbs : Int) then (sp1.natAbs : Int) - 4 else 0) = add := ⟨_, rfl⟩
    have badd : 0 ≤ add ∧ add ≤ 26 := by rw [← hadd]; split <;> omega
    have w24 : wr (h2 0 24) = h2 0 24 := wr_id (by clear wF hov; omega) (by clear wF hov; omega)
    have wT : wr (Int.tdiv F (h2 0 24)) = Int.tdiv F (h2 0 24) := wr_id (by clear wF hov w24; omega) (by clear wF hov w24; omega)
    have nsp : fX0_nextSpeed sp F (h2 0 24) = some sp1 := by rw [speed_e hsp ⟨k8, k9⟩, wF, wT, hsp1]
    have bsp : fX12_bounded (wr (sp + Int.tdiv (wr F) (wr (h2 0 24)))) 30 = some sp1 := by
      rw [wF, w24]
      clear wF w24 wT hov nsp
      rw [wr_id (by omega) (by omega), bounded_e (by omega) (by omega), hsp1]
    have w19 : wr (h 19 0 + sp1) = h 19 0 + sp1 := wr_id (by clear wF w24 wT hov nsp bsp; omega) (by clear wF w24 wT hov nsp bsp; omega)
    have rs1 : -9223372036854775808 ≤ h 19 0 + sp1 ∧ h 19 0 + sp1 < 9223372036854775808 := by clear wF w24 wT hov nsp bsp w19; omega
    have xs1 : fX11_bring (wr (h 19 0 + sp1)) 80 = some s1' := by rw [w19, bring_e rs1 (by decide), hs1]
    have ms1 : fX12_bounded (wr (h 19 0 + sp1)) 80 = some s1' := by rw [w19, bounded_e rs1 (by decide), hs1]
    have addM : (if wr (if 0 ≤ wr sp1 then sp1 else -sp1) ≤ 4 then 0 else (if 0 ≤ wr sp1 then sp1 else -sp1) - 4) = add := by
      clear wF w24 wT hov nsp bsp w19 xs1 ms1
      rw [wr_id (z := sp1) (by omega) (by omega), ← hadd]
      by_cases z : 0 ≤ sp1
      · rw [if_pos z, wr_id (by omega) (by omega)]
        by_cases d : sp1 ≤ 4
        · rw [if_pos d, if_neg (by omega)]
        · rw [if_neg d, if_pos (by omega)]; omega
      · rw [if_neg z, wr_id (by omega) (by omega)]
        by_cases d : -sp1 ≤ 4
        · rw [if_pos d, if_neg (by omega)]
        · rw [if_neg d, if_pos (by omega)]; omega
    have addX : mMax 0 (mAbs sp1 - 4) = add := by
      clear wF w24 wT hov nsp bsp w19 xs1 ms1 addM
      rw [mAbs_e (by omega), mMax_e (by omega) (by omega), ← hadd]
      by_cases d : 0 < (sp1.natAbs : Int) - 4
      · rw [if_pos d, if_pos (by omega)]
      · rw [if_neg d, if_neg (by omega)]
    /- the memories then -/
    have G5 : ∀ a, (a ≠ 24 + 3 ∧ a ≠ 46 ∧ a ≠ 49 ∧ a ≠ 54) → g5 a = g2 a := fun a z => c14 a z.1 z.2.1 z.2.2.1 z.2.2.2
    have H5 : ∀ a, (a ≠ 26 ∧ a ≠ 47 ∧ a ≠ 48) → h5 a = h2 a := fun a z => c15 a z.1 z.2.1 z.2.2
    generalize hg5 : up (up (up (up (up (up g5 (24 + 3) 3 vw) 24 6 F) 24 5 sp1) 24 4 s1') 24 10 ov) 24 7 (g2 24 7 + add) = g8
    generalize hh6 : up (up (up (up (up (up h5 26 3 vw) 0 70 F) 20 0 sp1) 19 0 s1') 23 0 ov) 21 0 (h2 21 0 + add) = h6
    have G8 : ∀ a, (a ≠ 24 ∧ a ≠ 24 + 3 ∧ a ≠ 46 ∧ a ≠ 49 ∧ a ≠ 54) → g8 a = g2 a := fun a z => by
      rw [← hg5, up_ne z.1, up_ne z.1, up_ne z.1, up_ne z.1, up_ne z.1, up_ne z.2.1, G5 a z.2]
    have g8p : g8 (24 + 3) = up g5 (24 + 3) 3 vw (24 + 3) := by rw [← hg5]; rfl
    have h6p : h6 26 = up h5 26 3 vw 26 := by rw [← hh6]; rfl
    have lk6 : LK_0 h2 h6 := by
      rw [← hh6]
      refine ⟨⟨fun a z => ?_, fun b z => ?_⟩, fun j z => ?_, fun j z => ?_, fun j z => ?_, fun j z => ?_⟩
      · rw [up_ne (by omega), up_ne (by omega), up_ne (by omega), up_ne (by omega), up_ne (by omega), up_ne (by omega), H5 a (by omega)]
      · show up (up h5 26 3 vw) 0 70 F 0 b = _
        rw [up_row, if_neg z.2.2, up_ne (by omega), H5 0 (by omega)]
      · show h5 18 j = _
        rw [H5 18 (by omega)]
      · refine ⟨?_, ?_, ?_, ?_, ?_⟩
        · show up h5 19 0 s1' 19 j = _; rw [up_row, if_neg z, H5 19 (by omega)]
        · show up h5 20 0 sp1 20 j = _; rw [up_row, if_neg z, H5 20 (by omega)]
        · show up h5 21 0 (h2 21 0 + add) 21 j = _; rw [up_row, if_neg z, H5 21 (by omega)]
        · show h5 22 j = _; rw [H5 22 (by omega)]
        · show up h5 23 0 ov 23 j = _; rw [up_row, if_neg z, H5 23 (by omega)]
      · show h5 24 j = _ ∧ h5 25 j = _
        rw [H5 24 (by omega), H5 25 (by omega)]; exact ⟨rfl, rfl⟩
      · show up h5 26 3 vw 26 j = _
        rw [up_row, if_neg (by omega), c16 j (by omega)]
    have S6 : St g8 h6 := St_fr S2 (fun a z => G8 a (by omega)) lk6.1 (RC_fr S2.2.2.2.1 (G8 1 (by omega)) (G8 4 (by omega)) (G8 5 (by omega)) (G8 6 (by omega)) (G8 7 (by omega)))
    have g5B : g5 24 = g2 24 := G5 24 (by omega)
    have R6 : RBody 24 0 ((t : Int) + 1) g8 h6 := by
      have e23 : h6 23 0 = ov := by rw [← hh6]; rfl
      have e21 : h6 21 0 = h2 21 0 + add := by rw [← hh6]; rfl
      have e20 : h6 20 0 = sp1 := by rw [← hh6]; rfl
      have e19b : h6 19 0 = s1' := by rw [← hh6]; rfl
      have e22 : h6 22 = h2 22 := by rw [← hh6, ← H5 22 (by omega)]; rfl
      have e18 : h6 18 = h2 18 := by rw [← hh6, ← H5 18 (by omega)]; rfl
      have e24 : h6 24 = h2 24 := by rw [← hh6, ← H5 24 (by omega)]; rfl
      refine ⟨?_, ?_, ?_, ?_, ?_, ?_, ?_, ?_, ?_, ?_, ?_, ?_, ?_, ?_⟩
      · rw [e19b]; exact bs1
      · rw [e19b, ← hg5]; rfl
      · rw [e20]; exact bsp1
      · rw [e20, ← hg5]; rfl
      · rw [e21]; clear wF w24 wT hov nsp bsp w19 xs1 ms1 addM addX hg5 hh6; omega
      · rw [e21, ← hg5, ← y6]; rfl
      · rw [e22, ← y7, ← g5B, ← hg5]; rfl
      · rw [e23]; exact bov
      · rw [e23, ← hg5]; rfl
      · rw [e18, G8 (24 + 1) (by omega)]; exact y10
      · unfold PlB; rw [e18]; exact y11
      · rw [e24]; exact y12
      · rw [e24, lk6.1.2 15 (by omega)]; exact y13
      · unfold WT; rw [e24, ← hg5, show up (up (up (up (up (up g5 (24 + 3) 3 vw) 24 6 F) 24 5 sp1) 24 4 s1') 24 10 ov) 24 7 (g2 24 7 + add) 24 9 = g5 24 9 from rfl, g5B]; exact y14
    have n8 : g8 24 3 = (t : Int) := by rw [← n2, ← g5B, ← hg5]; rfl
    have f6 : Fl h6 0 := by rw [HK_Fl lk6.1, HK_Fl lkw.1, HK_Fl lk1.1]; exact f0
    have e196 : h6 19 0 = s1' := by rw [← hh6]; rfl
    obtain ⟨g9, g10, g11, g12, h7, h8, h9, h10, v0, lv1, t1, t2, t3, t4, t5, t6, t7, t8, t9, t10, t11, t12, t13, t14, t15, t16, t17, t18, t19, t20, t21⟩ := tailJ_24 (t := t) (T := (t : Int) + 1) (by clear wF w24 wT hov nsp bsp w19 xs1 ms1 addM addX hg5 hh6; omega) ht S6 R6 n8 f6
    rw [e196] at t3 t4 t5 t6 t10 t11
    have rX : fX11_sway 24 out g = some (up g12 24 3 (g12 24 3 + 1)) := by
      refine swayX_yes24 (s := h 19 0) (s1 := s1') (inr := h2 0 24) (g3 := up (up g5 (24 + 3) 3 vw) 24 6 F) (g4 := up (up (up (up (up g5 (24 + 3) 3 vw) 24 6 F) 24 5 sp1) 24 4 s1') 24 10 ov) (g5 := g8) q2 b1 f2 (by rw [p2]; exact e19) s1 c1 ?_ ?_ ?_ t1 t2 t3 t4 t5 t6 t7
      · show g5 0 16 = h2 0 24
        rw [G5 0 (by omega)]; exact k7
      · exact turnX_24 (s := h 19 0) (sp := sp) (F := F) (by show g5 24 4 = _; rw [g5B, y2]; exact e2) (by show g5 24 5 = _; rw [g5B, y4]; exact c5) rfl nsp xs1 hov
      · unfold fX0_sicken
        rw [bnd_e, show up (up (up (up (up g5 (24 + 3) 3 vw) 24 6 F) 24 5 sp1) 24 4 s1') 24 10 ov 24 5 = sp1 from rfl, addX, show up (up (up (up (up g5 (24 + 3) 3 vw) 24 6 F) 24 5 sp1) 24 4 s1') 24 10 ov 24 7 = g5 24 7 from rfl, g5B, hg5]
    have rM : fX12_goesOn 0 t out h = some (1, h10) := by
      refine goesM_yes0 (s := h 19 0) (lv := LV h1 (h 19 0)) (A := ARM h1 0 (h 19 0)) (Sea := Sea) (F := F) (sp := sp) (sl := sl) (st := st) (sp1 := sp1) (s1 := s1') (ov := ov) (sk := h2 21 0) (inr := h2 0 24) (vw := vw) (v := v) (v0 := v0) (lv1 := lv1) (h1 := h1) (h2 := h2) (h5 := h5) (h7 := h7) (h8 := h8) (h9 := h9) h23 a1 e19 ly ?_ e2 aM c2 c3 c4 c5 c6 c7 ?_ c8 c9 c10 c11 c12 ?_ ?_ bsp ?_ ms1 hov ?_ ?_ t9 t10 t11 t12
      · rw [wr_id (by omega) (by omega)]; omega
      · rw [H5 20 (by omega)]; exact c5
      · rw [H5 0 (by omega)]
      · rw [w24]; clear wF w24 wT hov nsp bsp w19 xs1 ms1 addM addX hg5 hh6; omega
      · rw [H5 19 (by omega)]; exact e2
      · rw [H5 21 (by omega)]
      · rw [addM, hh6]; exact t8
    have m70 : h10 0 70 = F := by rw [t17, ← hh6]; rfl
    refine ⟨up g12 24 3 (g12 24 3 + 1), h10, 1, rX, rM, ?_, t14, ?_, ?_, ?_, .inl ⟨rfl, f0⟩, ?_, ?_, ?_, ?_⟩
    · exact t13
    · rw [up_row, if_pos rfl, t15]
    · rw [up_row, if_neg (by decide), t16, m70, ← hg5]; rfl
    · rw [m70]; exact c13
    · intro a z
      rw [up_ne (by omega), t18 a (by omega), G8 a (by omega), s3 a (by omega), G1 a (by omega) (by omega)]
    · exact LK_trans0 lk1 (LK_trans0 lkw (LK_trans0 lk6 t19))
    · intro z j hj
      rw [up_ne (show 24 + 2 ≠ 24 by omega)]
      refine t21 (fun j hj => ?_) j hj
      rw [G8 (24 + 2) (by omega), s3 (24 + 2) (by omega), G1 (24 + 2) (by omega) (by omega), show h6 25 = h5 25 by rw [← hh6]; rfl, H5 25 (by omega), H2 25 (by omega), H1 25 (by omega) (by omega)]; exact z j hj
    · intro _ j hj
      rw [up_ne (show 24 + 3 ≠ 24 by omega), t18 (24 + 3) (by omega), t20, g8p, h6p]; exact c17 j hj
  · have f0 : ¬ Fl h 0 := fun z => f1 (hFl.2 z)
    obtain ⟨h2, l1, l2⟩ := level_no S1.2.2.1.1 S1.1.1 q1 f1
    have lk2 : LK_0 h1 h2 ∧ h2 0 70 = h1 0 70 ∧ (∀ a, a ≠ 0 → h2 a = h1 a) := by
      rcases l2 with rfl | ⟨p, q, rfl⟩
      · exact ⟨LK_rows0 (fun _ _ _ _ => rfl) (fun _ _ => rfl), rfl, fun _ _ => rfl⟩
      · exact ⟨LK_rows0 (fun a z _ _ => by unfold wm; rw [up_ne z, up_ne z]) (fun b z => by unfold wm; rw [up_row, if_neg z.2.1, up_row, if_neg z.1]), rfl, fun a z => by unfold wm; rw [up_ne z, up_ne z]⟩
    obtain ⟨lk2a, lk2b, lk2c⟩ := lk2
    have lk3 : LK_0 h2 (up h2 23 0 1) := by
      refine ⟨⟨fun a z => up_ne (by omega), fun b z => by rw [up_ne (by omega)]⟩, fun j z => by rw [up_ne (by omega)], fun j z => ⟨rfl, rfl, rfl, rfl, by rw [up_row, if_neg z]⟩, fun j z => ⟨rfl, rfl⟩, fun j z => rfl⟩
    have lkk : LK_0 h1 (up h2 23 0 1) := LK_trans0 lk2a lk3
    refine ⟨_, _, 0, swayX_no24 (s := h 19 0) q2 b1 f2, goesM_no0 h23 a1 e19 l1, ?_, ?_, ?_, ?_, ?_, .inr ⟨rfl, f0⟩, ?_, LK_trans0 lk1 lkk, ?_, ?_⟩
    · exact St_fr S1 (fun a z => by rw [up_ne (by omega), up_ne (by omega)]) lkk.1 S1.2.2.2.1
    · refine ⟨?_, ?_, ?_, ?_, ?_, ?_, ?_, .inr rfl, rfl, ?_, ?_, ?_, ?_, ?_⟩
      · show -80 ≤ h2 19 0 ∧ h2 19 0 ≤ 80; rw [lk2c 19 (by omega)]; exact p1
      · show g1 24 4 = h2 19 0; rw [lk2c 19 (by omega)]; exact p2
      · show -30 ≤ h2 20 0 ∧ h2 20 0 ≤ 30; rw [lk2c 20 (by omega)]; exact p3
      · show g1 24 5 = h2 20 0; rw [lk2c 20 (by omega)]; exact p4
      · show 0 ≤ h2 21 0 ∧ h2 21 0 ≤ _; rw [lk2c 21 (by omega)]; omega
      · show g1 24 7 = h2 21 0; rw [lk2c 21 (by omega)]; exact p6
      · show g1 24 8 = h2 22 0; rw [lk2c 22 (by omega)]; exact p7
      · show ∀ j, j < 12 → g1 (24 + 1) j = h2 18 (12 * 0 + j); rw [lk2c 18 (by omega)]; exact p10
      · show PlB h2 0; unfold PlB; rw [lk2c 18 (by omega)]; exact p11
      · show ∀ m, m < 6 → h2 24 (6 * 0 + m) = 0 ∨ h2 24 (6 * 0 + m) = 1; rw [lk2c 24 (by omega)]; exact p12
      · show ∀ m : Nat, m < 6 → h2 0 15 ≤ (m : Int) → h2 24 (6 * 0 + m) = 0; rw [lk2c 24 (by omega), lk2a.1.2 15 (by omega)]; exact p13
      · show g1 24 9 = WT h2 0; unfold WT; rw [lk2c 24 (by omega)]; exact p14
    · show g1 24 3 + 1 = _; rw [G1B 3 (by omega), hnow]
    · show g1 24 6 = h2 0 70; rw [g16, lk2b, h170]
    · show -1000 ≤ h2 0 70 ∧ h2 0 70 ≤ 1000; rw [lk2b, h170]; omega
    · intro a z
      rw [up_ne (by omega), up_ne (by omega), G1 a (by omega) (by omega)]
    · intro z j hj
      show g1 (24 + 2) j = h2 25 (6 * 0 + j)
      rw [G1 (24 + 2) (by omega) (by omega), lk2c 25 (by omega), H1 25 (by omega) (by omega)]; exact z j hj
    · intro z j hj
      show g1 (24 + 3) j = h2 26 (0 + j)
      rw [G1 (24 + 3) (by omega) (by omega), lk2c 26 (by omega), H1 26 (by omega) (by omega)]; exact z j hj

/-! A TICK on both sides, whole: body 28, lot 1 -/
def BK_28 (g g' : Mem) : Prop := ∀ a, (a < 4 ∨ (7 < a ∧ a ≠ 28 ∧ a ≠ 28 + 1 ∧ a ≠ 28 + 2 ∧ a ≠ 28 + 3 ∧ a ≠ 46 ∧ a ≠ 49 ∧ a ≠ 54)) → g' a = g a
theorem tick_28 {t : Nat} {out : Int} {g h : Mem} (S : St g h) (RB : RBody 28 1 t g h) (ht : t < 600) (hnow : g 28 3 = (t : Int)) (h23 : h 23 1 = 0) (hout : 0 ≤ out ∧ out ≤ 9) : ∃ (g' h' : Mem) (r : Int), fX11_sway 28 out g = some g' ∧ fX12_goesOn 1 t out h = some (r, h') ∧ St g' h' ∧ RBody 28 1 ((t : Int) + 1) g' h' ∧ g' 28 3 = (t : Int) + 1 ∧ g' 28 6 = h' 0 70 ∧ (-1000 ≤ h' 0 70 ∧ h' 0 70 ≤ 1000) ∧ ((r = 1 ∧ Fl h 0) ∨ (r = 0 ∧ ¬ Fl h 0)) ∧ BK_28 g g' ∧ LK_1 h h' ∧ ((∀ j, j < 6 → g (28 + 2) j = h 25 (6 * 1 + j)) → ∀ j, j < 6 → g' (28 + 2) j = h' 25 (6 * 1 + j)) ∧ ((∀ j, j < 4 → g (28 + 3) j = h 26 (4 + j)) → ∀ j, j < 4 → g' (28 + 3) j = h' 26 (4 + j)) := by
  obtain ⟨g1, h1, b1, a1, S1, R1, G1, G1B, g16, lk1, h170, H1⟩ := slideJ_28 S RB
  obtain ⟨q1, q2, q3, q4, q5, q6, q7, q8, q9, q10, q11, q12, q13, q14⟩ := id RB
  obtain ⟨p1, p2, p3, p4, p5, p6, p7, p8, p9, p10, p11, p12, p13, p14⟩ := id R1
  have e19 : h1 19 1 = h 19 1 := by rw [H1 19 (by omega) (by omega)]
  have hFl : Fl h1 (h 19 1) ↔ Fl h 0 := by
    rw [HK_Fl lk1.1]; exact ⟨fun z => Fl_s S.2.2.1 q1 (by omega) z, fun z => Fl_s S.2.2.1 (by omega) q1 z⟩
  rcases floats_e S1.1.1 S1.2.2.1 S1.2.2.2.1 q1 with ⟨f1, f2⟩ | ⟨f1, f2⟩
  · have f0 : Fl h 0 := hFl.1 f1
    obtain ⟨g2, s1, s2, s3, s4, s5, s6, s7, -⟩ := settle_e S1.1.1 S1.2.2.1 S1.2.2.2.1 q1
    have ly := level_yes S1.2.2.1.1 S1.1.1 q1 f1
    have lb := LV_bd h1 (h 19 1)
    have aX := armX_e (q := 28 + 1) (lot := 1) S1.1.1 (hull_fr s3 S1.2.2.1) s2 (cargo_fr s3 S1.1) (by rw [s3 (28 + 1) (by omega)]; exact p10) p11 q1 f1 s5 s6 s7
    have aM := armM_e (lot := 1) S1.2.2.1.1 S1.1.1 (by omega) p11 q1 f1
    have bA := ARM_bd S1.2.2.1.1 S1.1.1 p11 q1 f1
    have lkw : LK_1 h1 (wm h1 (PR h1 (h 19 1) (LV h1 (h 19 1))) (QR h1 (h 19 1) (LV h1 (h 19 1)))) := LK_rows1 (fun a z _ _ => by unfold wm; rw [up_ne z, up_ne z]) (fun b z => by unfold wm; rw [up_row, if_neg z.2.1, up_row, if_neg z.1])
    have hw70 : wm h1 (PR h1 (h 19 1) (LV h1 (h 19 1))) (QR h1 (h 19 1) (LV h1 (h 19 1))) 0 70 = h1 0 70 := rfl
    have H2 : ∀ a, a ≠ 0 → wm h1 (PR h1 (h 19 1) (LV h1 (h 19 1))) (QR h1 (h 19 1) (LV h1 (h 19 1))) a = h1 a := fun a z => by unfold wm; rw [up_ne z, up_ne z]
    generalize hh2 : wm h1 (PR h1 (h 19 1) (LV h1 (h 19 1))) (QR h1 (h 19 1) (LV h1 (h 19 1))) = h2 at *
    have S2 : St g2 h2 := St_fr S1 (fun a z => s3 a (by omega)) lkw.1 s2
    have g2B : g2 28 = g1 28 := s3 28 (by omega)
    have R2 : RBody 28 1 t g2 h2 := RBody_fr R1 (fun c _ => by rw [g2B]) (s3 (28 + 1) (by omega)) (lkw.1.2 15 (by omega)) (H2 18 (by omega)) (by rw [H2 19 (by omega)]) (by rw [H2 20 (by omega)]) (by rw [H2 21 (by omega)]) (by rw [H2 22 (by omega)]) (by rw [H2 23 (by omega)]) (H2 24 (by omega))
    have e2 : h2 19 1 = h 19 1 := by rw [H2 19 (by omega)]; exact e19
    have n2 : g2 28 3 = (t : Int) := by rw [g2B, G1B 3 (by omega)]; exact hnow
    obtain ⟨g5, h5, v, vw, F, Sea, sp, sl, st, c1, c2, c3, c4, c5, c6, c7, c8, c9, c10, c11, c12, c13, c14, c15, c16, c17⟩ := pushJ_28 S2 R2 ht n2 hout e2 aX bA
    obtain ⟨y1, y2, y3, y4, y5, y6, y7, y8, y9, y10, y11, y12, y13, y14⟩ := id R2
    have hS := S2.2.2.2.2.2.1
    obtain ⟨⟨k1, k2, k3⟩, ⟨k4, k5, k6⟩, ⟨k7, k8, k9⟩, ⟨k10, k11, k12⟩⟩ := hS
    have hsp : -30 ≤ sp ∧ sp ≤ 30 := by rw [← c5]; exact y3
    /- turn -/
    have tF : -1000 ≤ Int.tdiv F (h2 0 24) ∧ Int.tdiv F (h2 0 24) ≤ 1000 := by
      have : (Int.tdiv F (h2 0 24)).natAbs ≤ F.natAbs := by rw [Int.natAbs_tdiv]; exact Nat.div_le_self _ _
      omega
    have wF : wr F = F := wr_id (by omega) (by omega)
    obtain ⟨sp1, hsp1⟩ : ∃ sp1, clp (sp + Int.tdiv F (h2 0 24)) 30 = sp1 := ⟨_, rfl⟩
    have bsp1 : -30 ≤ sp1 ∧ sp1 ≤ 30 := by rw [← hsp1]; exact clp_bd (by decide)
    obtain ⟨s1', hs1⟩ : ∃ s1', clp (h 19 1 + sp1) 80 = s1' := ⟨_, rfl⟩
    have bs1 : -80 ≤ s1' ∧ s1' ≤ 80 := by rw [← hs1]; exact clp_bd (by decide)
    obtain ⟨ov, hov⟩ : ∃ ov : Int, (if wr (h 19 1 + sp1) = wr s1' then 0 else 1) = ov := ⟨_, rfl⟩
    have bov : ov = 0 ∨ ov = 1 := by
      rw [← hov]; split
      · exact .inl rfl
      · exact .inr rfl
    obtain ⟨add, hadd⟩ : ∃ add : Int, (if 4 < (sp1.natAbs : Int) then (sp1.natAbs : Int) - 4 else 0) = add := ⟨_, rfl⟩
    have badd : 0 ≤ add ∧ add ≤ 26 := by rw [← hadd]; split <;> omega
    have w24 : wr (h2 0 24) = h2 0 24 := wr_id (by clear wF hov; omega) (by clear wF hov; omega)
    have wT : wr (Int.tdiv F (h2 0 24)) = Int.tdiv F (h2 0 24) := wr_id (by clear wF hov w24; omega) (by clear wF hov w24; omega)
    have nsp : fX0_nextSpeed sp F (h2 0 24) = some sp1 := by rw [speed_e hsp ⟨k8, k9⟩, wF, wT, hsp1]
    have bsp : fX12_bounded (wr (sp + Int.tdiv (wr F) (wr (h2 0 24)))) 30 = some sp1 := by
      rw [wF, w24]
      clear wF w24 wT hov nsp
      rw [wr_id (by omega) (by omega), bounded_e (by omega) (by omega), hsp1]
    have w19 : wr (h 19 1 + sp1) = h 19 1 + sp1 := wr_id (by clear wF w24 wT hov nsp bsp; omega) (by clear wF w24 wT hov nsp bsp; omega)
    have rs1 : -9223372036854775808 ≤ h 19 1 + sp1 ∧ h 19 1 + sp1 < 9223372036854775808 := by clear wF w24 wT hov nsp bsp w19; omega
    have xs1 : fX11_bring (wr (h 19 1 + sp1)) 80 = some s1' := by rw [w19, bring_e rs1 (by decide), hs1]
    have ms1 : fX12_bounded (wr (h 19 1 + sp1)) 80 = some s1' := by rw [w19, bounded_e rs1 (by decide), hs1]
    have addM : (if wr (if 0 ≤ wr sp1 then sp1 else -sp1) ≤ 4 then 0 else (if 0 ≤ wr sp1 then sp1 else -sp1) - 4) = add := by
      clear wF w24 wT hov nsp bsp w19 xs1 ms1
      rw [wr_id (z := sp1) (by omega) (by omega), ← hadd]
      by_cases z : 0 ≤ sp1
      · rw [if_pos z, wr_id (by omega) (by omega)]
        by_cases d : sp1 ≤ 4
        · rw [if_pos d, if_neg (by omega)]
        · rw [if_neg d, if_pos (by omega)]; omega
      · rw [if_neg z, wr_id (by omega) (by omega)]
        by_cases d : -sp1 ≤ 4
        · rw [if_pos d, if_neg (by omega)]
        · rw [if_neg d, if_pos (by omega)]; omega
    have addX : mMax 0 (mAbs sp1 - 4) = add := by
      clear wF w24 wT hov nsp bsp w19 xs1 ms1 addM
      rw [mAbs_e (by omega), mMax_e (by omega) (by omega), ← hadd]
      by_cases d : 0 < (sp1.natAbs : Int) - 4
      · rw [if_pos d, if_pos (by omega)]
      · rw [if_neg d, if_neg (by omega)]
    /- the memories then -/
    have G5 : ∀ a, (a ≠ 28 + 3 ∧ a ≠ 46 ∧ a ≠ 49 ∧ a ≠ 54) → g5 a = g2 a := fun a z => c14 a z.1 z.2.1 z.2.2.1 z.2.2.2
    have H5 : ∀ a, (a ≠ 26 ∧ a ≠ 47 ∧ a ≠ 48) → h5 a = h2 a := fun a z => c15 a z.1 z.2.1 z.2.2
    generalize hg5 : up (up (up (up (up (up g5 (28 + 3) 3 vw) 28 6 F) 28 5 sp1) 28 4 s1') 28 10 ov) 28 7 (g2 28 7 + add) = g8
    generalize hh6 : up (up (up (up (up (up h5 26 7 vw) 0 70 F) 20 1 sp1) 19 1 s1') 23 1 ov) 21 1 (h2 21 1 + add) = h6
    have G8 : ∀ a, (a ≠ 28 ∧ a ≠ 28 + 3 ∧ a ≠ 46 ∧ a ≠ 49 ∧ a ≠ 54) → g8 a = g2 a := fun a z => by
      rw [← hg5, up_ne z.1, up_ne z.1, up_ne z.1, up_ne z.1, up_ne z.1, up_ne z.2.1, G5 a z.2]
    have g8p : g8 (28 + 3) = up g5 (28 + 3) 3 vw (28 + 3) := by rw [← hg5]; rfl
    have h6p : h6 26 = up h5 26 7 vw 26 := by rw [← hh6]; rfl
    have lk6 : LK_1 h2 h6 := by
      rw [← hh6]
      refine ⟨⟨fun a z => ?_, fun b z => ?_⟩, fun j z => ?_, fun j z => ?_, fun j z => ?_, fun j z => ?_⟩
      · rw [up_ne (by omega), up_ne (by omega), up_ne (by omega), up_ne (by omega), up_ne (by omega), up_ne (by omega), H5 a (by omega)]
      · show up (up h5 26 7 vw) 0 70 F 0 b = _
        rw [up_row, if_neg z.2.2, up_ne (by omega), H5 0 (by omega)]
      · show h5 18 j = _
        rw [H5 18 (by omega)]
      · refine ⟨?_, ?_, ?_, ?_, ?_⟩
        · show up h5 19 1 s1' 19 j = _; rw [up_row, if_neg z, H5 19 (by omega)]
        · show up h5 20 1 sp1 20 j = _; rw [up_row, if_neg z, H5 20 (by omega)]
        · show up h5 21 1 (h2 21 1 + add) 21 j = _; rw [up_row, if_neg z, H5 21 (by omega)]
        · show h5 22 j = _; rw [H5 22 (by omega)]
        · show up h5 23 1 ov 23 j = _; rw [up_row, if_neg z, H5 23 (by omega)]
      · show h5 24 j = _ ∧ h5 25 j = _
        rw [H5 24 (by omega), H5 25 (by omega)]; exact ⟨rfl, rfl⟩
      · show up h5 26 7 vw 26 j = _
        rw [up_row, if_neg (by omega), c16 j (by omega)]
    have S6 : St g8 h6 := St_fr S2 (fun a z => G8 a (by omega)) lk6.1 (RC_fr S2.2.2.2.1 (G8 1 (by omega)) (G8 4 (by omega)) (G8 5 (by omega)) (G8 6 (by omega)) (G8 7 (by omega)))
    have g5B : g5 28 = g2 28 := G5 28 (by omega)
    have R6 : RBody 28 1 ((t : Int) + 1) g8 h6 := by
      have e23 : h6 23 1 = ov := by rw [← hh6]; rfl
      have e21 : h6 21 1 = h2 21 1 + add := by rw [← hh6]; rfl
      have e20 : h6 20 1 = sp1 := by rw [← hh6]; rfl
      have e19b : h6 19 1 = s1' := by rw [← hh6]; rfl
      have e22 : h6 22 = h2 22 := by rw [← hh6, ← H5 22 (by omega)]; rfl
      have e18 : h6 18 = h2 18 := by rw [← hh6, ← H5 18 (by omega)]; rfl
      have e24 : h6 24 = h2 24 := by rw [← hh6, ← H5 24 (by omega)]; rfl
      refine ⟨?_, ?_, ?_, ?_, ?_, ?_, ?_, ?_, ?_, ?_, ?_, ?_, ?_, ?_⟩
      · rw [e19b]; exact bs1
      · rw [e19b, ← hg5]; rfl
      · rw [e20]; exact bsp1
      · rw [e20, ← hg5]; rfl
      · rw [e21]; clear wF w24 wT hov nsp bsp w19 xs1 ms1 addM addX hg5 hh6; omega
      · rw [e21, ← hg5, ← y6]; rfl
      · rw [e22, ← y7, ← g5B, ← hg5]; rfl
      · rw [e23]; exact bov
      · rw [e23, ← hg5]; rfl
      · rw [e18, G8 (28 + 1) (by omega)]; exact y10
      · unfold PlB; rw [e18]; exact y11
      · rw [e24]; exact y12
      · rw [e24, lk6.1.2 15 (by omega)]; exact y13
      · unfold WT; rw [e24, ← hg5, show up (up (up (up (up (up g5 (28 + 3) 3 vw) 28 6 F) 28 5 sp1) 28 4 s1') 28 10 ov) 28 7 (g2 28 7 + add) 28 9 = g5 28 9 from rfl, g5B]; exact y14
    have n8 : g8 28 3 = (t : Int) := by rw [← n2, ← g5B, ← hg5]; rfl
    have f6 : Fl h6 0 := by rw [HK_Fl lk6.1, HK_Fl lkw.1, HK_Fl lk1.1]; exact f0
    have e196 : h6 19 1 = s1' := by rw [← hh6]; rfl
    obtain ⟨g9, g10, g11, g12, h7, h8, h9, h10, v0, lv1, t1, t2, t3, t4, t5, t6, t7, t8, t9, t10, t11, t12, t13, t14, t15, t16, t17, t18, t19, t20, t21⟩ := tailJ_28 (t := t) (T := (t : Int) + 1) (by clear wF w24 wT hov nsp bsp w19 xs1 ms1 addM addX hg5 hh6; omega) ht S6 R6 n8 f6
    rw [e196] at t3 t4 t5 t6 t10 t11
    have rX : fX11_sway 28 out g = some (up g12 28 3 (g12 28 3 + 1)) := by
      refine swayX_yes28 (s := h 19 1) (s1 := s1') (inr := h2 0 24) (g3 := up (up g5 (28 + 3) 3 vw) 28 6 F) (g4 := up (up (up (up (up g5 (28 + 3) 3 vw) 28 6 F) 28 5 sp1) 28 4 s1') 28 10 ov) (g5 := g8) q2 b1 f2 (by rw [p2]; exact e19) s1 c1 ?_ ?_ ?_ t1 t2 t3 t4 t5 t6 t7
      · show g5 0 16 = h2 0 24
        rw [G5 0 (by omega)]; exact k7
      · exact turnX_28 (s := h 19 1) (sp := sp) (F := F) (by show g5 28 4 = _; rw [g5B, y2]; exact e2) (by show g5 28 5 = _; rw [g5B, y4]; exact c5) rfl nsp xs1 hov
      · unfold fX0_sicken
        rw [bnd_e, show up (up (up (up (up g5 (28 + 3) 3 vw) 28 6 F) 28 5 sp1) 28 4 s1') 28 10 ov 28 5 = sp1 from rfl, addX, show up (up (up (up (up g5 (28 + 3) 3 vw) 28 6 F) 28 5 sp1) 28 4 s1') 28 10 ov 28 7 = g5 28 7 from rfl, g5B, hg5]
    have rM : fX12_goesOn 1 t out h = some (1, h10) := by
      refine goesM_yes1 (s := h 19 1) (lv := LV h1 (h 19 1)) (A := ARM h1 1 (h 19 1)) (Sea := Sea) (F := F) (sp := sp) (sl := sl) (st := st) (sp1 := sp1) (s1 := s1') (ov := ov) (sk := h2 21 1) (inr := h2 0 24) (vw := vw) (v := v) (v0 := v0) (lv1 := lv1) (h1 := h1) (h2 := h2) (h5 := h5) (h7 := h7) (h8 := h8) (h9 := h9) h23 a1 e19 ly ?_ e2 aM c2 c3 c4 c5 c6 c7 ?_ c8 c9 c10 c11 c12 ?_ ?_ bsp ?_ ms1 hov ?_ ?_ t9 t10 t11 t12
      · rw [wr_id (by omega) (by omega)]; omega
      · rw [H5 20 (by omega)]; exact c5
      · rw [H5 0 (by omega)]
      · rw [w24]; clear wF w24 wT hov nsp bsp w19 xs1 ms1 addM addX hg5 hh6; omega
      · rw [H5 19 (by omega)]; exact e2
      · rw [H5 21 (by omega)]
      · rw [addM, hh6]; exact t8
    have m70 : h10 0 70 = F := by rw [t17, ← hh6]; rfl
    refine ⟨up g12 28 3 (g12 28 3 + 1), h10, 1, rX, rM, ?_, t14, ?_, ?_, ?_, .inl ⟨rfl, f0⟩, ?_, ?_, ?_, ?_⟩
    · exact t13
    · rw [up_row, if_pos rfl, t15]
    · rw [up_row, if_neg (by decide), t16, m70, ← hg5]; rfl
    · rw [m70]; exact c13
    · intro a z
      rw [up_ne (by omega), t18 a (by omega), G8 a (by omega), s3 a (by omega), G1 a (by omega) (by omega)]
    · exact LK_trans1 lk1 (LK_trans1 lkw (LK_trans1 lk6 t19))
    · intro z j hj
      rw [up_ne (show 28 + 2 ≠ 28 by omega)]
      refine t21 (fun j hj => ?_) j hj
      rw [G8 (28 + 2) (by omega), s3 (28 + 2) (by omega), G1 (28 + 2) (by omega) (by omega), show h6 25 = h5 25 by rw [← hh6]; rfl, H5 25 (by omega), H2 25 (by omega), H1 25 (by omega) (by omega)]; exact z j hj
    · intro _ j hj
      rw [up_ne (show 28 + 3 ≠ 28 by omega), t18 (28 + 3) (by omega), t20, g8p, h6p]; exact c17 j hj
  · have f0 : ¬ Fl h 0 := fun z => f1 (hFl.2 z)
    obtain ⟨h2, l1, l2⟩ := level_no S1.2.2.1.1 S1.1.1 q1 f1
    have lk2 : LK_1 h1 h2 ∧ h2 0 70 = h1 0 70 ∧ (∀ a, a ≠ 0 → h2 a = h1 a) := by
      rcases l2 with rfl | ⟨p, q, rfl⟩
      · exact ⟨LK_rows1 (fun _ _ _ _ => rfl) (fun _ _ => rfl), rfl, fun _ _ => rfl⟩
      · exact ⟨LK_rows1 (fun a z _ _ => by unfold wm; rw [up_ne z, up_ne z]) (fun b z => by unfold wm; rw [up_row, if_neg z.2.1, up_row, if_neg z.1]), rfl, fun a z => by unfold wm; rw [up_ne z, up_ne z]⟩
    obtain ⟨lk2a, lk2b, lk2c⟩ := lk2
    have lk3 : LK_1 h2 (up h2 23 1 1) := by
      refine ⟨⟨fun a z => up_ne (by omega), fun b z => by rw [up_ne (by omega)]⟩, fun j z => by rw [up_ne (by omega)], fun j z => ⟨rfl, rfl, rfl, rfl, by rw [up_row, if_neg z]⟩, fun j z => ⟨rfl, rfl⟩, fun j z => rfl⟩
    have lkk : LK_1 h1 (up h2 23 1 1) := LK_trans1 lk2a lk3
    refine ⟨_, _, 0, swayX_no28 (s := h 19 1) q2 b1 f2, goesM_no1 h23 a1 e19 l1, ?_, ?_, ?_, ?_, ?_, .inr ⟨rfl, f0⟩, ?_, LK_trans1 lk1 lkk, ?_, ?_⟩
    · exact St_fr S1 (fun a z => by rw [up_ne (by omega), up_ne (by omega)]) lkk.1 S1.2.2.2.1
    · refine ⟨?_, ?_, ?_, ?_, ?_, ?_, ?_, .inr rfl, rfl, ?_, ?_, ?_, ?_, ?_⟩
      · show -80 ≤ h2 19 1 ∧ h2 19 1 ≤ 80; rw [lk2c 19 (by omega)]; exact p1
      · show g1 28 4 = h2 19 1; rw [lk2c 19 (by omega)]; exact p2
      · show -30 ≤ h2 20 1 ∧ h2 20 1 ≤ 30; rw [lk2c 20 (by omega)]; exact p3
      · show g1 28 5 = h2 20 1; rw [lk2c 20 (by omega)]; exact p4
      · show 0 ≤ h2 21 1 ∧ h2 21 1 ≤ _; rw [lk2c 21 (by omega)]; omega
      · show g1 28 7 = h2 21 1; rw [lk2c 21 (by omega)]; exact p6
      · show g1 28 8 = h2 22 1; rw [lk2c 22 (by omega)]; exact p7
      · show ∀ j, j < 12 → g1 (28 + 1) j = h2 18 (12 * 1 + j); rw [lk2c 18 (by omega)]; exact p10
      · show PlB h2 1; unfold PlB; rw [lk2c 18 (by omega)]; exact p11
      · show ∀ m, m < 6 → h2 24 (6 * 1 + m) = 0 ∨ h2 24 (6 * 1 + m) = 1; rw [lk2c 24 (by omega)]; exact p12
      · show ∀ m : Nat, m < 6 → h2 0 15 ≤ (m : Int) → h2 24 (6 * 1 + m) = 0; rw [lk2c 24 (by omega), lk2a.1.2 15 (by omega)]; exact p13
      · show g1 28 9 = WT h2 1; unfold WT; rw [lk2c 24 (by omega)]; exact p14
    · show g1 28 3 + 1 = _; rw [G1B 3 (by omega), hnow]
    · show g1 28 6 = h2 0 70; rw [g16, lk2b, h170]
    · show -1000 ≤ h2 0 70 ∧ h2 0 70 ≤ 1000; rw [lk2b, h170]; omega
    · intro a z
      rw [up_ne (by omega), up_ne (by omega), G1 a (by omega) (by omega)]
    · intro z j hj
      show g1 (28 + 2) j = h2 25 (6 * 1 + j)
      rw [G1 (28 + 2) (by omega) (by omega), lk2c 25 (by omega), H1 25 (by omega) (by omega)]; exact z j hj
    · intro z j hj
      show g1 (28 + 3) j = h2 26 (4 + j)
      rw [G1 (28 + 3) (by omega) (by omega), lk2c 26 (by omega), H1 26 (by omega) (by omega)]; exact z j hj
