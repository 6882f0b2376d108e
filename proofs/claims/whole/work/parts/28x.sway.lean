/-! A TICK on both sides: body 24, lot 0 -/
def LK_0 (h h' : Mem) : Prop := HK h h' ∧ (∀ j, (j < 0 ∨ 0 + 12 ≤ j) → h' 18 j = h 18 j) ∧ (∀ j, j ≠ 0 → h' 19 j = h 19 j ∧ h' 20 j = h 20 j ∧ h' 21 j = h 21 j ∧ h' 22 j = h 22 j ∧ h' 23 j = h 23 j) ∧ (∀ j, (j < 0 ∨ 0 + 6 ≤ j) → h' 24 j = h 24 j ∧ h' 25 j = h 25 j) ∧ (∀ j, (j < 0 ∨ 3 < j) → h' 26 j = h 26 j)
theorem LK_trans0 {a b c : Mem} (x : LK_0 a b) (y : LK_0 b c) : LK_0 a c := by
  obtain ⟨x1, x2, x3, x4, x5⟩ := x
  obtain ⟨y1, y2, y3, y4, y5⟩ := y
  refine ⟨HK_trans x1 y1, fun j z => by rw [y2 j z, x2 j z], fun j z => ?_, fun j z => ?_, fun j z => by rw [y5 j z, x5 j z]⟩
  · obtain ⟨a1, a2, a3, a4, a5⟩ := x3 j z
    obtain ⟨b1, b2, b3, b4, b5⟩ := y3 j z
    exact ⟨b1.trans a1, b2.trans a2, b3.trans a3, b4.trans a4, b5.trans a5⟩
  · exact ⟨(y4 j z).1.trans (x4 j z).1, (y4 j z).2.trans (x4 j z).2⟩
theorem LK_rows0 {h h' : Mem} (H : ∀ a, a ≠ 0 → a ≠ 47 → a ≠ 48 → h' a = h a) (H0 : ∀ b, (b ≠ 66 ∧ b ≠ 67 ∧ b ≠ 70) → h' 0 b = h 0 b) : LK_0 h h' := by
  refine ⟨⟨fun a z => H a (by omega) (by omega) (by omega), H0⟩, fun j _ => by rw [H 18 (by omega) (by omega) (by omega)], fun j _ => ?_, fun j _ => ?_, fun j _ => by rw [H 26 (by omega) (by omega) (by omega)]⟩
  · rw [H 19 (by omega) (by omega) (by omega), H 20 (by omega) (by omega) (by omega), H 21 (by omega) (by omega) (by omega), H 22 (by omega) (by omega) (by omega), H 23 (by omega) (by omega) (by omega)]; exact ⟨rfl, rfl, rfl, rfl, rfl⟩
  · rw [H 24 (by omega) (by omega) (by omega), H 25 (by omega) (by omega) (by omega)]; exact ⟨rfl, rfl⟩
/-- the first part: what slides -/
theorem slideJ_24 {t : Nat} {g h : Mem} (S : St g h) (RB : RBody 24 0 t g h) : ∃ g1 h1, fX1_slide (24 + 1) (h 19 0) (up g 24 6 0) = some g1 ∧ fX12_slides 0 (up h 0 70 0) = some h1 ∧ St g1 h1 ∧ RBody 24 0 t g1 h1 ∧ (∀ a, a ≠ 24 → a ≠ 24 + 1 → g1 a = g a) ∧ (∀ c, c ≠ 6 → g1 24 c = g 24 c) ∧ g1 24 6 = 0 ∧ LK_0 h h1 ∧ h1 0 70 = 0 ∧ (∀ a, a ≠ 0 → a ≠ 18 → h1 a = h a) := by
  obtain ⟨hC, hM, hH, hR, hW, hS, hU⟩ := id S
  obtain ⟨q1, q2, q3, q4, q5, q6, q7, q8, q9, q10, q11, q12, q13, q14⟩ := id RB
  obtain ⟨g1, h1, s1, s2, s3, s4, s5, s6, s7⟩ := slide_e (b := 24) (lot := 0) (by omega) (g := up g 24 6 0) (h := up h 0 70 0) hC (s := h 19 0) q1 rfl q10 q11
  have GB : ∀ a, a ≠ 24 → a ≠ 24 + 1 → g1 a = g a := fun a z1 z2 => by rw [s5 a z2, up_ne z1]
  have HB' : ∀ a, a ≠ 0 → a ≠ 18 → h1 a = h a := fun a z1 z2 => by rw [s6 a z2, up_ne z1]
  have H0 : ∀ b, b ≠ 70 → h1 0 b = h 0 b := fun b z => by rw [s6 0 (by omega), up_row, if_neg z]
  have gB : ∀ c, c ≠ 6 → g1 24 c = g 24 c := fun c z => by rw [s5 24 (by omega), up_row, if_neg z]
  have lk : LK_0 h h1 := by
    refine ⟨⟨fun a z => HB' a (by omega) (by omega), fun b z => H0 b (by omega)⟩, fun j z => ?_, fun j z => ?_, fun j z => ?_, fun j z => by rw [HB' 26 (by omega) (by omega)]⟩
    · rw [s7 j (by omega), up_ne (by omega)]
    · rw [HB' 19 (by omega) (by omega), HB' 20 (by omega) (by omega), HB' 21 (by omega) (by omega), HB' 22 (by omega) (by omega), HB' 23 (by omega) (by omega)]; exact ⟨rfl, rfl, rfl, rfl, rfl⟩
    · rw [HB' 24 (by omega) (by omega), HB' 25 (by omega) (by omega)]; exact ⟨rfl, rfl⟩
  refine ⟨g1, h1, s1, s2, ?_, ?_, GB, gB, ?_, lk, ?_, HB'⟩
  · exact St_fr S (fun a z => GB a (by omega) (by omega)) lk.1 (RC_fr hR (GB 1 (by omega) (by omega)) (GB 4 (by omega) (by omega)) (GB 5 (by omega) (by omega)) (GB 6 (by omega) (by omega)) (GB 7 (by omega) (by omega)))
  · refine ⟨?_, ?_, ?_, ?_, ?_, ?_, ?_, ?_, ?_, s3, s4, ?_, ?_, ?_⟩
    · rw [HB' 19 (by omega) (by omega)]; exact q1
    · rw [HB' 19 (by omega) (by omega), gB 4 (by omega)]; exact q2
    · rw [HB' 20 (by omega) (by omega)]; exact q3
    · rw [HB' 20 (by omega) (by omega), gB 5 (by omega)]; exact q4
    · rw [HB' 21 (by omega) (by omega)]; exact q5
    · rw [HB' 21 (by omega) (by omega), gB 7 (by omega)]; exact q6
    · rw [HB' 22 (by omega) (by omega), gB 8 (by omega)]; exact q7
    · rw [HB' 23 (by omega) (by omega)]; exact q8
    · rw [HB' 23 (by omega) (by omega), gB 10 (by omega)]; exact q9
    · rw [HB' 24 (by omega) (by omega)]; exact q12
    · rw [HB' 24 (by omega) (by omega), H0 15 (by omega)]; exact q13
    · unfold WT; rw [HB' 24 (by omega) (by omega), gB 9 (by omega)]; exact q14
  · rw [s5 24 (by omega), up_row, if_pos rfl]
  · rw [s6 0 (by omega), up_row, if_pos rfl]
/-- the last part: work, level, wash -/
theorem tailJ_24 {t : Nat} {T : Int} (hT : 0 ≤ T ∧ T ≤ 600) (ht : t < 600) {g h : Mem} (S : St g h) (RB : RBody 24 0 T g h) (hnow : g 24 3 = (t : Int)) (f : Fl h 0) : ∃ (g6 g7 g8 g9 h7 h8 h9 h10 : Mem) (v0 lv1 : Int), fX11_clauseHolds 24 0 g = some (v0, g6) ∧ (if wr v0 = 0 then g6 else up g6 24 8 (g6 24 8 + 1)) = g7 ∧ g7 24 4 = h 19 0 ∧ fX3_settle (h 19 0) g7 = some g8 ∧ g8 24 4 = h 19 0 ∧ fX3_levelAt (h 19 0) g8 = some lv1 ∧ fX0_wash 24 lv1 g8 = some g9 ∧ fX12_isSo 0 0 t h = some (v0, h7) ∧ (if wr v0 = 0 then h7 else up h7 22 0 (h7 22 0 + 1)) = h8 ∧ h8 19 0 = h 19 0 ∧ fX12_levelAt (h 19 0) h8 = some (lv1, h9) ∧ fX12_goesOn_L363 fuel 0 lv1 0 h9 = some (1, h10) ∧ St (up g9 24 3 (g9 24 3 + 1)) h10 ∧ RBody 24 0 T (up g9 24 3 (g9 24 3 + 1)) h10 ∧ g9 24 3 = (t : Int) ∧ g9 24 6 = g 24 6 ∧ h10 0 70 = h 0 70 ∧ (∀ a, (a < 4 ∨ (7 < a ∧ a ≠ 24 ∧ a ≠ 24 + 2 ∧ a ≠ 46 ∧ a ≠ 49 ∧ a ≠ 54)) → g9 a = g a) ∧ LK_0 h h10 ∧ h10 26 = h 26 ∧ ((∀ j, j < 6 → g (24 + 2) j = h 25 (6 * 0 + j)) → ∀ j, j < 6 → g9 (24 + 2) j = h10 25 (6 * 0 + j)) := by
  obtain ⟨hC, hM, hH, hR, hW, hS, hU⟩ := id S
  obtain ⟨q1, q2, q3, q4, q5, q6, q7, q8, q9, q10, q11, q12, q13, q14⟩ := id RB
  obtain ⟨g6, h7, v0, w1, w2, w3, w4, w5⟩ := clause_e (b := 24) (lot := 0) (c := 0) (t := t) (by omega) (by omega) ht (T := T) hT hC hM hW hU RB hnow
  obtain ⟨g7, e7⟩ : ∃ x, (if wr v0 = 0 then g6 else up g6 24 8 (g6 24 8 + 1)) = x := ⟨_, rfl⟩
  obtain ⟨h8, e8⟩ : ∃ x, (if wr v0 = 0 then h7 else up h7 22 0 (h7 22 0 + 1)) = x := ⟨_, rfl⟩
  have b8 : g7 24 8 = h8 22 0 ∧ (∀ a, a ≠ 24 → g7 a = g6 a) ∧ (∀ c, c ≠ 8 → g7 24 c = g6 24 c) ∧ (∀ a, a ≠ 22 → h8 a = h7 a) ∧ (∀ j, j ≠ 0 → h8 22 j = h7 22 j) := by
    have e22 : g6 24 8 = h7 22 0 := by rw [w4 24 (by omega) (by omega) (by omega), w5 22 (by omega) (by omega)]; exact q7
    by_cases c : wr v0 = 0
    · rw [if_pos c] at e7 e8
      subst e7 e8
      exact ⟨e22, fun _ _ => rfl, fun _ _ => rfl, fun _ _ => rfl, fun _ _ => rfl⟩
    · rw [if_neg c] at e7 e8
      subst e7 e8
      exact ⟨by rw [up_row, if_pos rfl, up_row, if_pos rfl, e22], fun a z => up_ne z, fun c z => by rw [up_row, if_neg z], fun a z => up_ne z, fun j z => by rw [up_row, if_neg z]⟩
  obtain ⟨b8a, b8b, b8c, b8d, b8e⟩ := b8
  have G7 : ∀ a, (a ≠ 24 ∧ a ≠ 46 ∧ a ≠ 49 ∧ a ≠ 54) → g7 a = g a := fun a z => by rw [b8b a z.1, w4 a z.2.1 z.2.2.1 z.2.2.2]
  have G7B : ∀ c, c ≠ 8 → g7 24 c = g 24 c := fun c z => by rw [b8c c z, w4 24 (by omega) (by omega) (by omega)]
  have H8 : ∀ a, (a ≠ 22 ∧ a ≠ 47 ∧ a ≠ 48) → h8 a = h a := fun a z => by rw [b8d a z.1, w5 a z.2.1 z.2.2]
  have lk8 : LK_0 h h8 := by
    refine ⟨⟨fun a z => H8 a (by omega), fun b z => by rw [H8 0 (by omega)]⟩, fun j z => by rw [H8 18 (by omega)], fun j z => ?_, fun j z => ?_, fun j z => by rw [H8 26 (by omega)]⟩
    · rw [H8 19 (by omega), H8 20 (by omega), H8 21 (by omega), H8 23 (by omega), b8e j z, w5 22 (by omega) (by omega)]; exact ⟨rfl, rfl, rfl, rfl, rfl⟩
    · rw [H8 24 (by omega), H8 25 (by omega)]; exact ⟨rfl, rfl⟩
  have S7 : St g7 h8 := St_fr S (fun a z => G7 a (by omega)) lk8.1 (RC_fr hR (G7 1 (by omega)) (G7 4 (by omega)) (G7 5 (by omega)) (G7 6 (by omega)) (G7 7 (by omega)))
  obtain ⟨g8, s1, s2, s3, s4, -⟩ := settle_e S7.1.1 S7.2.2.1 S7.2.2.2.1 (s := h 19 0) q1
  have hf : Fl h8 (h 19 0) := Fl_s S7.2.2.1 (s := 0) (by omega) q1 (by rw [HK_Fl lk8.1]; exact f)
  have ly := level_yes S7.2.2.1.1 S7.1.1 q1 hf
  have lb := LV_bd h8 (h 19 0)
  have lkw : LK_0 h8 (wm h8 (PR h8 (h 19 0) (LV h8 (h 19 0))) (QR h8 (h 19 0) (LV h8 (h 19 0)))) := LK_rows0 (fun a z _ _ => by unfold wm; rw [up_ne z, up_ne z]) (fun b z => by unfold wm; rw [up_row, if_neg z.2.1, up_row, if_neg z.1])
  generalize hh9 : wm h8 (PR h8 (h 19 0) (LV h8 (h 19 0))) (QR h8 (h 19 0) (LV h8 (h 19 0))) = h9 at *
  have H9 : ∀ a, a ≠ 0 → h9 a = h8 a := fun a z => by rw [← hh9]; unfold wm; rw [up_ne z, up_ne z]
  have S8 : St g8 h9 := St_fr S7 (fun a z => s3 a (by omega)) lkw.1 s2
  have R8 : RBody 24 0 T g8 h9 := by
    have n1 : g8 24 = g7 24 := s3 24 (by omega)
    have n2 : g8 (24 + 1) = g (24 + 1) := by rw [s3 (24 + 1) (by omega), G7 (24 + 1) (by omega)]
    refine ⟨?_, ?_, ?_, ?_, ?_, ?_, ?_, ?_, ?_, ?_, ?_, ?_, ?_, ?_⟩
    · rw [H9 19 (by omega), H8 19 (by omega)]; exact q1
    · rw [H9 19 (by omega), H8 19 (by omega), n1, G7B 4 (by omega)]; exact q2
    · rw [H9 20 (by omega), H8 20 (by omega)]; exact q3
    · rw [H9 20 (by omega), H8 20 (by omega), n1, G7B 5 (by omega)]; exact q4
    · rw [H9 21 (by omega), H8 21 (by omega)]; exact q5
    · rw [H9 21 (by omega), H8 21 (by omega), n1, G7B 7 (by omega)]; exact q6
    · rw [H9 22 (by omega), n1]; exact b8a
    · rw [H9 23 (by omega), H8 23 (by omega)]; exact q8
    · rw [H9 23 (by omega), H8 23 (by omega), n1, G7B 10 (by omega)]; exact q9
    · rw [H9 18 (by omega), H8 18 (by omega), n2]; exact q10
    · unfold PlB; rw [H9 18 (by omega), H8 18 (by omega)]; exact q11
    · rw [H9 24 (by omega), H8 24 (by omega)]; exact q12
    · rw [H9 24 (by omega), H8 24 (by omega), lkw.1.2 15 (by omega), lk8.1.2 15 (by omega)]; exact q13
    · unfold WT; rw [H9 24 (by omega), H8 24 (by omega), n1, G7B 9 (by omega)]; exact q14
  obtain ⟨g9, h10, x1, x2, x3, x4, x5, x6, x7, x8⟩ := wash_e (b := 24) (lot := 0) (by omega) S8.2.1 R8 (lv := LV h8 (h 19 0)) lb
  have lkx : LK_0 h9 h10 := by
    refine ⟨⟨fun a z => x6 a (by omega) (by omega), fun b z => by rw [x6 0 (by omega) (by omega)]⟩, fun j z => by rw [x6 18 (by omega) (by omega)], fun j z => ?_, fun j z => x7 j (by omega), fun j z => by rw [x6 26 (by omega) (by omega)]⟩
    rw [x6 19 (by omega) (by omega), x6 20 (by omega) (by omega), x6 21 (by omega) (by omega), x6 22 (by omega) (by omega), x6 23 (by omega) (by omega)]; exact ⟨rfl, rfl, rfl, rfl, rfl⟩
  have G9 : ∀ a, (a ≠ 24 ∧ a ≠ 24 + 2) → g9 a = g8 a := fun a z => x4 a z.1 z.2
  have S9 : St g9 h10 := St_fr S8 (fun a z => G9 a (by omega)) lkx.1 (RC_fr S8.2.2.2.1 (G9 1 (by omega)) (G9 4 (by omega)) (G9 5 (by omega)) (G9 6 (by omega)) (G9 7 (by omega)))
  have n3 : g9 24 3 = (t : Int) := by rw [x5 3 (by omega), s3 24 (by omega), G7B 3 (by omega)]; exact hnow
  refine ⟨g6, g7, g8, g9, h7, h8, h9, h10, v0, LV h8 (h 19 0), w1, e7, ?_, s1, ?_, levelX_e q1 s4, x1, w2, e8, ?_, ly, x2, S9, ?_, n3, ?_, ?_, ?_, LK_trans0 lk8 (LK_trans0 lkw lkx), ?_, ?_⟩
  · rw [G7B 4 (by omega)]; exact q2
  · rw [s3 24 (by omega), G7B 4 (by omega)]; exact q2
  · rw [H8 19 (by omega)]
  · exact RBody_fr x3 (fun c z => by rw [up_row, if_neg (by omega)]) (up_ne (by omega)) rfl rfl rfl rfl rfl rfl rfl rfl
  · rw [x5 6 (by omega), s3 24 (by omega), G7B 6 (by omega)]
  · rw [x6 0 (by omega) (by omega), ← hh9, show wm h8 (PR h8 (h 19 0) (LV h8 (h 19 0))) (QR h8 (h 19 0) (LV h8 (h 19 0))) 0 70 = h8 0 70 from rfl, H8 0 (by omega)]
  · intro a z
    rw [G9 a (by omega), s3 a (by omega), G7 a (by omega)]
  · rw [x6 26 (by omega) (by omega), H9 26 (by omega), H8 26 (by omega)]
  · intro z j hj
    refine x8 (fun j hj => ?_) j hj
    rw [s3 (24 + 2) (by omega), G7 (24 + 2) (by omega), H9 25 (by omega), H8 25 (by omega)]; exact z j hj

/-! A TICK on both sides: body 28, lot 1 -/
def LK_1 (h h' : Mem) : Prop := HK h h' ∧ (∀ j, (j < 12 ∨ 12 + 12 ≤ j) → h' 18 j = h 18 j) ∧ (∀ j, j ≠ 1 → h' 19 j = h 19 j ∧ h' 20 j = h 20 j ∧ h' 21 j = h 21 j ∧ h' 22 j = h 22 j ∧ h' 23 j = h 23 j) ∧ (∀ j, (j < 6 ∨ 6 + 6 ≤ j) → h' 24 j = h 24 j ∧ h' 25 j = h 25 j) ∧ (∀ j, (j < 4 ∨ 7 < j) → h' 26 j = h 26 j)
theorem LK_trans1 {a b c : Mem} (x : LK_1 a b) (y : LK_1 b c) : LK_1 a c := by
  obtain ⟨x1, x2, x3, x4, x5⟩ := x
  obtain ⟨y1, y2, y3, y4, y5⟩ := y
  refine ⟨HK_trans x1 y1, fun j z => by rw [y2 j z, x2 j z], fun j z => ?_, fun j z => ?_, fun j z => by rw [y5 j z, x5 j z]⟩
  · obtain ⟨a1, a2, a3, a4, a5⟩ := x3 j z
    obtain ⟨b1, b2, b3, b4, b5⟩ := y3 j z
    exact ⟨b1.trans a1, b2.trans a2, b3.trans a3, b4.trans a4, b5.trans a5⟩
  · exact ⟨(y4 j z).1.trans (x4 j z).1, (y4 j z).2.trans (x4 j z).2⟩
theorem LK_rows1 {h h' : Mem} (H : ∀ a, a ≠ 0 → a ≠ 47 → a ≠ 48 → h' a = h a) (H0 : ∀ b, (b ≠ 66 ∧ b ≠ 67 ∧ b ≠ 70) → h' 0 b = h 0 b) : LK_1 h h' := by
  refine ⟨⟨fun a z => H a (by omega) (by omega) (by omega), H0⟩, fun j _ => by rw [H 18 (by omega) (by omega) (by omega)], fun j _ => ?_, fun j _ => ?_, fun j _ => by rw [H 26 (by omega) (by omega) (by omega)]⟩
  · rw [H 19 (by omega) (by omega) (by omega), H 20 (by omega) (by omega) (by omega), H 21 (by omega) (by omega) (by omega), H 22 (by omega) (by omega) (by omega), H 23 (by omega) (by omega) (by omega)]; exact ⟨rfl, rfl, rfl, rfl, rfl⟩
  · rw [H 24 (by omega) (by omega) (by omega), H 25 (by omega) (by omega) (by omega)]; exact ⟨rfl, rfl⟩
/-- the first part: what slides -/
theorem slideJ_28 {t : Nat} {g h : Mem} (S : St g h) (RB : RBody 28 1 t g h) : ∃ g1 h1, fX1_slide (28 + 1) (h 19 1) (up g 28 6 0) = some g1 ∧ fX12_slides 1 (up h 0 70 0) = some h1 ∧ St g1 h1 ∧ RBody 28 1 t g1 h1 ∧ (∀ a, a ≠ 28 → a ≠ 28 + 1 → g1 a = g a) ∧ (∀ c, c ≠ 6 → g1 28 c = g 28 c) ∧ g1 28 6 = 0 ∧ LK_1 h h1 ∧ h1 0 70 = 0 ∧ (∀ a, a ≠ 0 → a ≠ 18 → h1 a = h a) := by
  obtain ⟨hC, hM, hH, hR, hW, hS, hU⟩ := id S
  obtain ⟨q1, q2, q3, q4, q5, q6, q7, q8, q9, q10, q11, q12, q13, q14⟩ := id RB
  obtain ⟨g1, h1, s1, s2, s3, s4, s5, s6, s7⟩ := slide_e (b := 28) (lot := 1) (by omega) (g := up g 28 6 0) (h := up h 0 70 0) hC (s := h 19 1) q1 rfl q10 q11
  have GB : ∀ a, a ≠ 28 → a ≠ 28 + 1 → g1 a = g a := fun a z1 z2 => by rw [s5 a z2, up_ne z1]
  have HB' : ∀ a, a ≠ 0 → a ≠ 18 → h1 a = h a := fun a z1 z2 => by rw [s6 a z2, up_ne z1]
  have H0 : ∀ b, b ≠ 70 → h1 0 b = h 0 b := fun b z => by rw [s6 0 (by omega), up_row, if_neg z]
  have gB : ∀ c, c ≠ 6 → g1 28 c = g 28 c := fun c z => by rw [s5 28 (by omega), up_row, if_neg z]
  have lk : LK_1 h h1 := by
    refine ⟨⟨fun a z => HB' a (by omega) (by omega), fun b z => H0 b (by omega)⟩, fun j z => ?_, fun j z => ?_, fun j z => ?_, fun j z => by rw [HB' 26 (by omega) (by omega)]⟩
    · rw [s7 j (by omega), up_ne (by omega)]
    · rw [HB' 19 (by omega) (by omega), HB' 20 (by omega) (by omega), HB' 21 (by omega) (by omega), HB' 22 (by omega) (by omega), HB' 23 (by omega) (by omega)]; exact ⟨rfl, rfl, rfl, rfl, rfl⟩
    · rw [HB' 24 (by omega) (by omega), HB' 25 (by omega) (by omega)]; exact ⟨rfl, rfl⟩
  refine ⟨g1, h1, s1, s2, ?_, ?_, GB, gB, ?_, lk, ?_, HB'⟩
  · exact St_fr S (fun a z => GB a (by omega) (by omega)) lk.1 (RC_fr hR (GB 1 (by omega) (by omega)) (GB 4 (by omega) (by omega)) (GB 5 (by omega) (by omega)) (GB 6 (by omega) (by omega)) (GB 7 (by omega) (by omega)))
  · refine ⟨?_, ?_, ?_, ?_, ?_, ?_, ?_, ?_, ?_, s3, s4, ?_, ?_, ?_⟩
    · rw [HB' 19 (by omega) (by omega)]; exact q1
    · rw [HB' 19 (by omega) (by omega), gB 4 (by omega)]; exact q2
    · rw [HB' 20 (by omega) (by omega)]; exact q3
    · rw [HB' 20 (by omega) (by omega), gB 5 (by omega)]; exact q4
    · rw [HB' 21 (by omega) (by omega)]; exact q5
    · rw [HB' 21 (by omega) (by omega), gB 7 (by omega)]; exact q6
    · rw [HB' 22 (by omega) (by omega), gB 8 (by omega)]; exact q7
    · rw [HB' 23 (by omega) (by omega)]; exact q8
    · rw [HB' 23 (by omega) (by omega), gB 10 (by omega)]; exact q9
    · rw [HB' 24 (by omega) (by omega)]; exact q12
    · rw [HB' 24 (by omega) (by omega), H0 15 (by omega)]; exact q13
    · unfold WT; rw [HB' 24 (by omega) (by omega), gB 9 (by omega)]; exact q14
  · rw [s5 28 (by omega), up_row, if_pos rfl]
  · rw [s6 0 (by omega), up_row, if_pos rfl]
/-- the last part: work, level, wash -/
theorem tailJ_28 {t : Nat} {T : Int} (hT : 0 ≤ T ∧ T ≤ 600) (ht : t < 600) {g h : Mem} (S : St g h) (RB : RBody 28 1 T g h) (hnow : g 28 3 = (t : Int)) (f : Fl h 0) : ∃ (g6 g7 g8 g9 h7 h8 h9 h10 : Mem) (v0 lv1 : Int), fX11_clauseHolds 28 0 g = some (v0, g6) ∧ (if wr v0 = 0 then g6 else up g6 28 8 (g6 28 8 + 1)) = g7 ∧ g7 28 4 = h 19 1 ∧ fX3_settle (h 19 1) g7 = some g8 ∧ g8 28 4 = h 19 1 ∧ fX3_levelAt (h 19 1) g8 = some lv1 ∧ fX0_wash 28 lv1 g8 = some g9 ∧ fX12_isSo 0 1 t h = some (v0, h7) ∧ (if wr v0 = 0 then h7 else up h7 22 1 (h7 22 1 + 1)) = h8 ∧ h8 19 1 = h 19 1 ∧ fX12_levelAt (h 19 1) h8 = some (lv1, h9) ∧ fX12_goesOn_L363 fuel 1 lv1 0 h9 = some (1, h10) ∧ St (up g9 28 3 (g9 28 3 + 1)) h10 ∧ RBody 28 1 T (up g9 28 3 (g9 28 3 + 1)) h10 ∧ g9 28 3 = (t : Int) ∧ g9 28 6 = g 28 6 ∧ h10 0 70 = h 0 70 ∧ (∀ a, (a < 4 ∨ (7 < a ∧ a ≠ 28 ∧ a ≠ 28 + 2 ∧ a ≠ 46 ∧ a ≠ 49 ∧ a ≠ 54)) → g9 a = g a) ∧ LK_1 h h10 ∧ h10 26 = h 26 ∧ ((∀ j, j < 6 → g (28 + 2) j = h 25 (6 * 1 + j)) → ∀ j, j < 6 → g9 (28 + 2) j = h10 25 (6 * 1 + j)) := by
  obtain ⟨hC, hM, hH, hR, hW, hS, hU⟩ := id S
  obtain ⟨q1, q2, q3, q4, q5, q6, q7, q8, q9, q10, q11, q12, q13, q14⟩ := id RB
  obtain ⟨g6, h7, v0, w1, w2, w3, w4, w5⟩ := clause_e (b := 28) (lot := 1) (c := 0) (t := t) (by omega) (by omega) ht (T := T) hT hC hM hW hU RB hnow
  obtain ⟨g7, e7⟩ : ∃ x, (if wr v0 = 0 then g6 else up g6 28 8 (g6 28 8 + 1)) = x := ⟨_, rfl⟩
  obtain ⟨h8, e8⟩ : ∃ x, (if wr v0 = 0 then h7 else up h7 22 1 (h7 22 1 + 1)) = x := ⟨_, rfl⟩
  have b8 : g7 28 8 = h8 22 1 ∧ (∀ a, a ≠ 28 → g7 a = g6 a) ∧ (∀ c, c ≠ 8 → g7 28 c = g6 28 c) ∧ (∀ a, a ≠ 22 → h8 a = h7 a) ∧ (∀ j, j ≠ 1 → h8 22 j = h7 22 j) := by
    have e22 : g6 28 8 = h7 22 1 := by rw [w4 28 (by omega) (by omega) (by omega), w5 22 (by omega) (by omega)]; exact q7
    by_cases c : wr v0 = 0
    · rw [if_pos c] at e7 e8
      subst e7 e8
      exact ⟨e22, fun _ _ => rfl, fun _ _ => rfl, fun _ _ => rfl, fun _ _ => rfl⟩
    · rw [if_neg c] at e7 e8
      subst e7 e8
      exact ⟨by rw [up_row, if_pos rfl, up_row, if_pos rfl, e22], fun a z => up_ne z, fun c z => by rw [up_row, if_neg z], fun a z => up_ne z, fun j z => by rw [up_row, if_neg z]⟩
  obtain ⟨b8a, b8b, b8c, b8d, b8e⟩ := b8
  have G7 : ∀ a, (a ≠ 28 ∧ a ≠ 46 ∧ a ≠ 49 ∧ a ≠ 54) → g7 a = g a := fun a z => by rw [b8b a z.1, w4 a z.2.1 z.2.2.1 z.2.2.2]
  have G7B : ∀ c, c ≠ 8 → g7 28 c = g 28 c := fun c z => by rw [b8c c z, w4 28 (by omega) (by omega) (by omega)]
  have H8 : ∀ a, (a ≠ 22 ∧ a ≠ 47 ∧ a ≠ 48) → h8 a = h a := fun a z => by rw [b8d a z.1, w5 a z.2.1 z.2.2]
  have lk8 : LK_1 h h8 := by
    refine ⟨⟨fun a z => H8 a (by omega), fun b z => by rw [H8 0 (by omega)]⟩, fun j z => by rw [H8 18 (by omega)], fun j z => ?_, fun j z => ?_, fun j z => by rw [H8 26 (by omega)]⟩
    · rw [H8 19 (by omega), H8 20 (by omega), H8 21 (by omega), H8 23 (by omega), b8e j z, w5 22 (by omega) (by omega)]; exact ⟨rfl, rfl, rfl, rfl, rfl⟩
    · rw [H8 24 (by omega), H8 25 (by omega)]; exact ⟨rfl, rfl⟩
  have S7 : St g7 h8 := St_fr S (fun a z => G7 a (by omega)) lk8.1 (RC_fr hR (G7 1 (by omega)) (G7 4 (by omega)) (G7 5 (by omega)) (G7 6 (by omega)) (G7 7 (by omega)))
  obtain ⟨g8, s1, s2, s3, s4, -⟩ := settle_e S7.1.1 S7.2.2.1 S7.2.2.2.1 (s := h 19 1) q1
  have hf : Fl h8 (h 19 1) := Fl_s S7.2.2.1 (s := 0) (by omega) q1 (by rw [HK_Fl lk8.1]; exact f)
  have ly := level_yes S7.2.2.1.1 S7.1.1 q1 hf
  have lb := LV_bd h8 (h 19 1)
  have lkw : LK_1 h8 (wm h8 (PR h8 (h 19 1) (LV h8 (h 19 1))) (QR h8 (h 19 1) (LV h8 (h 19 1)))) := LK_rows1 (fun a z _ _ => by unfold wm; rw [up_ne z, up_ne z]) (fun b z => by unfold wm; rw [up_row, if_neg z.2.1, up_row, if_neg z.1])
  generalize hh9 : wm h8 (PR h8 (h 19 1) (LV h8 (h 19 1))) (QR h8 (h 19 1) (LV h8 (h 19 1))) = h9 at *
  have H9 : ∀ a, a ≠ 0 → h9 a = h8 a := fun a z => by rw [← hh9]; unfold wm; rw [up_ne z, up_ne z]
  have S8 : St g8 h9 := St_fr S7 (fun a z => s3 a (by omega)) lkw.1 s2
  have R8 : RBody 28 1 T g8 h9 := by
    have n1 : g8 28 = g7 28 := s3 28 (by omega)
    have n2 : g8 (28 + 1) = g (28 + 1) := by rw [s3 (28 + 1) (by omega), G7 (28 + 1) (by omega)]
    refine ⟨?_, ?_, ?_, ?_, ?_, ?_, ?_, ?_, ?_, ?_, ?_, ?_, ?_, ?_⟩
    · rw [H9 19 (by omega), H8 19 (by omega)]; exact q1
    · rw [H9 19 (by omega), H8 19 (by omega), n1, G7B 4 (by omega)]; exact q2
    · rw [H9 20 (by omega), H8 20 (by omega)]; exact q3
    · rw [H9 20 (by omega), H8 20 (by omega), n1, G7B 5 (by omega)]; exact q4
    · rw [H9 21 (by omega), H8 21 (by omega)]; exact q5
    · rw [H9 21 (by omega), H8 21 (by omega), n1, G7B 7 (by omega)]; exact q6
    · rw [H9 22 (by omega), n1]; exact b8a
    · rw [H9 23 (by omega), H8 23 (by omega)]; exact q8
    · rw [H9 23 (by omega), H8 23 (by omega), n1, G7B 10 (by omega)]; exact q9
    · rw [H9 18 (by omega), H8 18 (by omega), n2]; exact q10
    · unfold PlB; rw [H9 18 (by omega), H8 18 (by omega)]; exact q11
    · rw [H9 24 (by omega), H8 24 (by omega)]; exact q12
    · rw [H9 24 (by omega), H8 24 (by omega), lkw.1.2 15 (by omega), lk8.1.2 15 (by omega)]; exact q13
    · unfold WT; rw [H9 24 (by omega), H8 24 (by omega), n1, G7B 9 (by omega)]; exact q14
  obtain ⟨g9, h10, x1, x2, x3, x4, x5, x6, x7, x8⟩ := wash_e (b := 28) (lot := 1) (by omega) S8.2.1 R8 (lv := LV h8 (h 19 1)) lb
  have lkx : LK_1 h9 h10 := by
    refine ⟨⟨fun a z => x6 a (by omega) (by omega), fun b z => by rw [x6 0 (by omega) (by omega)]⟩, fun j z => by rw [x6 18 (by omega) (by omega)], fun j z => ?_, fun j z => x7 j (by omega), fun j z => by rw [x6 26 (by omega) (by omega)]⟩
    rw [x6 19 (by omega) (by omega), x6 20 (by omega) (by omega), x6 21 (by omega) (by omega), x6 22 (by omega) (by omega), x6 23 (by omega) (by omega)]; exact ⟨rfl, rfl, rfl, rfl, rfl⟩
  have G9 : ∀ a, (a ≠ 28 ∧ a ≠ 28 + 2) → g9 a = g8 a := fun a z => x4 a z.1 z.2
  have S9 : St g9 h10 := St_fr S8 (fun a z => G9 a (by omega)) lkx.1 (RC_fr S8.2.2.2.1 (G9 1 (by omega)) (G9 4 (by omega)) (G9 5 (by omega)) (G9 6 (by omega)) (G9 7 (by omega)))
  have n3 : g9 28 3 = (t : Int) := by rw [x5 3 (by omega), s3 28 (by omega), G7B 3 (by omega)]; exact hnow
  refine ⟨g6, g7, g8, g9, h7, h8, h9, h10, v0, LV h8 (h 19 1), w1, e7, ?_, s1, ?_, levelX_e q1 s4, x1, w2, e8, ?_, ly, x2, S9, ?_, n3, ?_, ?_, ?_, LK_trans1 lk8 (LK_trans1 lkw lkx), ?_, ?_⟩
  · rw [G7B 4 (by omega)]; exact q2
  · rw [s3 28 (by omega), G7B 4 (by omega)]; exact q2
  · rw [H8 19 (by omega)]
  · exact RBody_fr x3 (fun c z => by rw [up_row, if_neg (by omega)]) (up_ne (by omega)) rfl rfl rfl rfl rfl rfl rfl rfl
  · rw [x5 6 (by omega), s3 28 (by omega), G7B 6 (by omega)]
  · rw [x6 0 (by omega) (by omega), ← hh9, show wm h8 (PR h8 (h 19 1) (LV h8 (h 19 1))) (QR h8 (h 19 1) (LV h8 (h 19 1))) 0 70 = h8 0 70 from rfl, H8 0 (by omega)]
  · intro a z
    rw [G9 a (by omega), s3 a (by omega), G7 a (by omega)]
  · rw [x6 26 (by omega) (by omega), H9 26 (by omega), H8 26 (by omega)]
  · intro z j hj
    refine x8 (fun j hj => ?_) j hj
    rw [s3 (28 + 2) (by omega), G7 (28 + 2) (by omega), H9 25 (by omega), H8 25 (by omega)]; exact z j hj
