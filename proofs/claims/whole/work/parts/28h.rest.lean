/-! AT, REST, STAYS -/
def Sm (h H : Mem) : Prop := (∀ a, a ≠ 0 → a ≠ 45 → a ≠ 46 → H a = h a) ∧ (∀ b, b ≠ 66 → b ≠ 67 → H 0 b = h 0 b)
theorem Sm_refl (h : Mem) : Sm h h := ⟨fun _ _ _ _ => rfl, fun _ _ _ => rfl⟩
theorem Sm_wm {h H : Mem} (S : Sm h H) (p q : Int) : Sm h (wm H p q) := by
  refine ⟨fun a h1 h2 h3 => ?_, fun b h1 h2 => ?_⟩
  · rw [← S.1 a h1 h2 h3]; funext b; simp [wm, up, h1]
  · rw [← S.2 b h1 h2]; simp [wm, up, h1, h2]
theorem Sm_up {h H : Mem} (S : Sm h H) (k j : Nat) (v : Int) (hk : k = 45 ∨ k = 46) : Sm h (up H k j v) := by
  refine ⟨fun a h1 h2 h3 => ?_, fun b h1 h2 => ?_⟩
  · rw [← S.1 a h1 h2 h3]; exact up_ne (by omega)
  · rw [← S.2 b h1 h2]; rw [up_ne (by omega)]
theorem Sm_PR {h H : Mem} (S : Sm h H) : PR H = PR h := by
  funext s lv; unfold PR; rw [S.1 2 (by omega) (by omega) (by omega), S.1 3 (by omega) (by omega) (by omega), S.2 1 (by omega) (by omega)]
theorem Sm_QR {h H : Mem} (S : Sm h H) : QR H = QR h := by
  funext s lv; unfold QR; rw [S.1 2 (by omega) (by omega) (by omega), S.1 3 (by omega) (by omega) (by omega), S.2 1 (by omega) (by omega)]
theorem Sm_HV {h H : Mem} (S : Sm h H) : HV H = HV h := by
  unfold HV hv1; rw [S.1 4 (by omega) (by omega) (by omega), S.1 8 (by omega) (by omega) (by omega), S.1 12 (by omega) (by omega) (by omega), S.2 4 (by omega) (by omega), S.2 10 (by omega) (by omega)]
theorem Sm_LV {h H : Mem} (S : Sm h H) : LV H = LV h := LV_c (Sm_PR S) (Sm_HV S)
theorem Sm_Fl {h H : Mem} (S : Sm h H) : Fl H = Fl h := by
  funext s; unfold Fl; rw [Sm_HV S, Sm_PR S]
theorem Sm_MW {h H : Mem} (S : Sm h H) : MW H = MW h := by
  funext l s; unfold MW mw1 mw2 pl; rw [S.1 4 (by omega) (by omega) (by omega), S.1 6 (by omega) (by omega) (by omega), S.1 8 (by omega) (by omega) (by omega), S.1 9 (by omega) (by omega) (by omega), S.1 10 (by omega) (by omega) (by omega), S.1 11 (by omega) (by omega) (by omega), S.1 12 (by omega) (by omega) (by omega), S.1 18 (by omega) (by omega) (by omega), S.2 4 (by omega) (by omega), S.2 10 (by omega) (by omega)]
theorem Sm_ARM {h H : Mem} (S : Sm h H) : ARM H = ARM h := by
  funext l s; unfold ARM; rw [Sm_QR S, Sm_PR S, Sm_HV S, Sm_LV S, Sm_MW S]
theorem Sm_HB {h H : Mem} (S : Sm h H) (B : HB h) : HB H := by
  unfold HB; rw [S.1 2 (by omega) (by omega) (by omega), S.1 3 (by omega) (by omega) (by omega), S.2 1 (by omega) (by omega)]; exact B
theorem Sm_CB {h H : Mem} (S : Sm h H) (B : CB h) : CB H := by
  unfold CB; rw [S.1 4 (by omega) (by omega) (by omega), S.1 5 (by omega) (by omega) (by omega), S.1 6 (by omega) (by omega) (by omega), S.1 7 (by omega) (by omega) (by omega), S.1 8 (by omega) (by omega) (by omega), S.1 9 (by omega) (by omega) (by omega), S.1 10 (by omega) (by omega) (by omega), S.1 11 (by omega) (by omega) (by omega), S.1 12 (by omega) (by omega) (by omega), S.2 4 (by omega) (by omega), S.2 10 (by omega) (by omega)]; exact B
theorem Sm_PlB {h H : Mem} (S : Sm h H) {lot : Nat} (B : PlB h lot) : PlB H lot := by
  unfold PlB; rw [S.1 18 (by omega) (by omega) (by omega)]; exact B
theorem RR_settle {n : Nat} {g h g' H : Mem} (R : RR n g h) (G : ∀ a, a < 4 ∨ 7 < a → g' a = g a) (S : Sm h H) (rc : RC g' h) : RR n g' H := by
  obtain ⟨hC, hM, hH, ⟨hR, hv⟩, hW, hS, hB, hD, hT, hU, hO, hP⟩ := R
  have eh : ∀ a, (a ≠ 0 ∧ a ≠ 45 ∧ a ≠ 46) → H a = h a := fun a z => S.1 a z.1 z.2.1 z.2.2
  have e0 : ∀ b, (b ≠ 66 ∧ b ≠ 67) → H 0 b = h 0 b := fun b z => S.2 b z.1 z.2
  refine ⟨?_, ?_, ?_, ⟨?_, ?_⟩, ?_, ?_, ?_, ?_, ?_, ?_, ?_, ?_⟩
  · have c1 := Sm_CB S hC.1
    unfold RCargo; rw [Sm_HV S]; unfold hv1
    rw [G 8 (by omega), G 9 (by omega), G 10 (by omega), G 11 (by omega), G 12 (by omega), G 13 (by omega), G 14 (by omega), G 15 (by omega), G 16 (by omega), e0 4 (by omega), e0 10 (by omega), eh 4 (by omega), eh 5 (by omega), eh 6 (by omega), eh 7 (by omega), eh 8 (by omega), eh 9 (by omega), eh 10 (by omega), eh 11 (by omega), eh 12 (by omega)]
    exact ⟨c1, hC.2⟩
  · unfold RMarks; rw [G 17 (by omega), G 18 (by omega), G 19 (by omega), e0 15 (by omega), eh 13 (by omega), eh 14 (by omega)]; exact hM
  · unfold RHull HB; rw [G 1 (by omega), G 2 (by omega), G 3 (by omega), e0 1 (by omega), eh 2 (by omega), eh 3 (by omega)]; exact hH
  · unfold RC; rw [Sm_HV S, Sm_LV S, Sm_PR S, Sm_QR S]; exact rc
  · rw [G 1 (by omega)]; exact hv
  · unfold RWaves; rw [G 20 (by omega), G 21 (by omega), G 22 (by omega), G 23 (by omega), e0 18 (by omega), eh 1 (by omega), eh 15 (by omega), eh 16 (by omega), eh 17 (by omega)]; exact hW
  · unfold RSet; rw [G 0 (by omega), e0 22 (by omega), e0 23 (by omega), e0 24 (by omega), e0 25 (by omega)]; exact hS
  · unfold RShip RBody PlB WT; rw [G 24 (by omega), G (24 + 1) (by omega), G 26 (by omega), G 27 (by omega), e0 26 (by omega), e0 15 (by omega), eh 18 (by omega), eh 19 (by omega), eh 20 (by omega), eh 21 (by omega), eh 22 (by omega), eh 23 (by omega), eh 24 (by omega), eh 25 (by omega), eh 26 (by omega)]; exact hB
  · unfold RDiary; rw [G 33 (by omega), G 34 (by omega), G 35 (by omega), G 36 (by omega), e0 26 (by omega), eh 27 (by omega), eh 28 (by omega), eh 29 (by omega), eh 30 (by omega), eh 31 (by omega)]; exact hD
  · unfold RText; rw [G 37 (by omega), G 38 (by omega), e0 48 (by omega), eh 35 (by omega)]; exact hT
  · unfold RRules RCl; rw [G 0 (by omega), G (47 + 1) (by omega), G (47 + 3) (by omega), G (47 + 4) (by omega), G (52 + 1) (by omega), G (52 + 3) (by omega), G (52 + 4) (by omega), eh 41 (by omega), eh 42 (by omega), eh 43 (by omega), eh 44 (by omega)]; exact hU
  · unfold RRoute RtB qs QS; rw [G 41 (by omega), G 42 (by omega), G 43 (by omega), e0 41 (by omega), e0 44 (by omega), eh 32 (by omega), eh 33 (by omega)]; exact hO
  · unfold RTape; rw [G 44 (by omega), G 45 (by omega), e0 45 (by omega), eh 34 (by omega)]; exact hP
theorem hull_fr {g g' h : Mem} (G : ∀ a, a < 4 ∨ 7 < a → g' a = g a) (H : RHull g h) : RHull g' h := by
  unfold RHull; rw [G 1 (by omega), G 2 (by omega), G 3 (by omega)]; exact H
theorem cargo_fr {g g' h : Mem} (G : ∀ a, a < 4 ∨ 7 < a → g' a = g a) (H : RCargo g h) : RCargo g' h := by
  unfold RCargo; rw [G 8 (by omega), G 9 (by omega), G 10 (by omega), G 11 (by omega), G 12 (by omega), G 13 (by omega), G 14 (by omega), G 15 (by omega), G 16 (by omega)]; exact H
theorem levelX_e {g h : Mem} {s : Int} (hs : -80 ≤ s ∧ s ≤ 80) (e : g 4 s.natAbs = LV h s) : fX3_levelAt s g = some (LV h s) := by
  unfold fX3_levelAt; rw [mAbs_e (by omega)]
  simp (disch := omega) only [if_true, if_false, if_pos, if_neg, wr_0, wr_id, gd_i, bnd_e, bd_s, bd2_s, jn_e, Int.toNat_natCast]
  rw [e]
theorem pushX2_e {g h : Mem} {s : Int} (hs : -80 ≤ s ∧ s ≤ 80) (e : g 5 s.natAbs = PR h s (LV h s)) : fX3_pushAt s g = some (PR h s (LV h s)) := by
  unfold fX3_pushAt; rw [mAbs_e (by omega)]
  simp (disch := omega) only [if_true, if_false, if_pos, if_neg, wr_0, wr_id, gd_i, bnd_e, bd_s, bd2_s, jn_e, Int.toNat_natCast]
  rw [e]
theorem S_at : Sim_at RR := by
  intro n g h a0 a1 hn R h0 h1
  obtain ⟨hC, hM, hH, ⟨hR, hv⟩, hW, hS, hB, hD, hT, hU, hO, hP⟩ := id R
  have keep : RR (n + 1) g h := RR_mono n (n + 1) g h (by omega) R
  have C := hC.1
  unfold IR at h0 h1
  unfold fX11_at fX12_at
  rw [within_e h0 (by omega) (by omega), in_e h0 (by omega) (by omega), in_e h1 (by omega) (by omega)]
  simp only [bd_s]
  by_cases c : -80 ≤ a0 ∧ a0 ≤ 80
  · rcases floats_e C hH hR c with ⟨f1, f2⟩ | ⟨f1, f2⟩
    · obtain ⟨g', s1, s2, s3, s4, s5, s6, s7, s8, s9⟩ := settle_e C hH hR c
      have lb := LV_bd h a0
      have fin : RR (n + 1) g' (wm h (PR h a0 (LV h a0)) (QR h a0 (LV h a0))) := RR_settle keep s3 (Sm_wm (Sm_refl h) _ _) s2
      have fin2 : RR (n + 1) g' h := RR_settle keep s3 (Sm_refl h) s2
      simp (disch := omega) only [if_true, if_false, if_pos, if_neg, wr_0, wr_id, gd_i, bnd_e, bd_s, bd2_s, jn_e, Int.toNat_natCast, if_pos c, f2]
      rw [s1]
      by_cases d : 0 ≤ a1 ∧ a1 ≤ 2
      · simp (disch := omega) only [if_true, if_false, if_pos, if_neg, wr_0, wr_id, gd_i, bnd_e, bd_s, bd2_s, jn_e, Int.toNat_natCast, if_pos d]
        rw [level_yes hH.1 C c f1]
        by_cases d0 : a1 = 0
        · subst d0
          simp (disch := omega) only [if_true, if_false, if_pos, if_neg, wr_0, wr_id, gd_i, bnd_e, bd_s, bd2_s, jn_e, Int.toNat_natCast]
          rw [levelX_e c s4]
          exact ⟨_, _, _, _, rfl, rfl, rfl, fin⟩
        by_cases d1 : a1 = 1
        · subst d1
          simp (disch := omega) only [if_true, if_false, if_pos, if_neg, wr_0, wr_id, gd_i, bnd_e, bd_s, bd2_s, jn_e, Int.toNat_natCast]
          rw [pushX2_e c s5]
          exact ⟨_, _, _, _, rfl, rfl, rfl, fin⟩
        have d2 : a1 = 2 := by omega
        subst d2
        obtain ⟨t1, t2, ⟨q1, q2, q3, q4, q5, q6, q7, q8, q9, q10, q11, q12, q13, q14⟩, t4, t5⟩ := hB
        have ea := armX_e (q := 24 + 1) (lot := 0) C (hull_fr s3 hH) s2 (cargo_fr s3 hC) (by rw [s3 (24 + 1) (by omega)]; exact q10) q11 c f1 s5 s6 s7
        have eb := armM_e hH.1 C (lot := 0) (by omega) q11 c f1
        simp (disch := omega) only [if_true, if_false, if_pos, if_neg, wr_0, wr_id, gd_i, bnd_e, bd_s, bd2_s, jn_e, Int.toNat_natCast, ea]
        rw [show (0 : Int) = ((0 : Nat) : Int) from rfl, eb]
        exact ⟨_, _, _, _, rfl, rfl, rfl, fin⟩
      · simp (disch := omega) only [if_true, if_false, if_pos, if_neg, wr_0, wr_id, gd_i, bnd_e, bd_s, bd2_s, jn_e, Int.toNat_natCast, if_neg d]
        exact ⟨_, _, _, _, rfl, rfl, rfl, fin2⟩
    · simp (disch := omega) only [if_true, if_false, if_pos, if_neg, wr_0, wr_id, gd_i, bnd_e, bd_s, bd2_s, jn_e, Int.toNat_natCast, if_pos c, f2]
      by_cases d : 0 ≤ a1 ∧ a1 ≤ 2
      · simp (disch := omega) only [if_true, if_false, if_pos, if_neg, wr_0, wr_id, gd_i, bnd_e, bd_s, bd2_s, jn_e, Int.toNat_natCast, if_pos d]
        obtain ⟨h', l1, l2⟩ := level_no hH.1 C c f1
        rw [l1]
        simp (disch := omega) only [if_true, if_false, if_pos, if_neg, wr_0, wr_id, gd_i, bnd_e, bd_s, bd2_s, jn_e, Int.toNat_natCast]
        refine ⟨_, _, _, _, rfl, rfl, rfl, ?_⟩
        rcases l2 with rfl | ⟨p, q, rfl⟩
        · exact keep
        · exact RR_settle keep (fun _ _ => rfl) (Sm_wm (Sm_refl h) _ _) hR
      · simp (disch := omega) only [if_true, if_false, if_pos, if_neg, wr_0, wr_id, gd_i, bnd_e, bd_s, bd2_s, jn_e, Int.toNat_natCast, if_neg d]
        exact ⟨_, _, _, _, rfl, rfl, rfl, keep⟩
  · simp (disch := omega) only [if_true, if_false, if_pos, if_neg, wr_0, wr_id, gd_i, bnd_e, bd_s, bd2_s, jn_e, Int.toNat_natCast, if_neg c]
    exact ⟨_, _, _, _, rfl, rfl, rfl, keep⟩
def ab (h : Mem) (s : Int) : Int := if 0 < ARM h 0 s then 1 else 0
def fr (h : Mem) : Nat → Int → Int → Int
  | 0, _, _ => -2147483648
  | k + 1, s, left => if ab h s = ab h (s + 1) then fr h k (s + 1) left else if left = 0 then s else fr h k (s + 1) (left - 1)
theorem fr_bd (h : Mem) : ∀ (k : Nat) (s left : Int), fr h k s left = -2147483648 ∨ (s ≤ fr h k s left ∧ fr h k s left < s + k) := by
  intro k
  induction k with
  | zero => intro s left; exact .inl rfl
  | succ k ih =>
    intro s left
    unfold fr
    split
    · have := ih (s + 1) left; omega
    · split
      · omega
      · have := ih (s + 1) (left - 1); omega
theorem rest54_e {g0 h : Mem} (C : CB h) (hH : RHull g0 h) (hC : RCargo g0 h) (hq : ∀ j, j < 12 → g0 (24 + 1) j = h 18 (12 * 0 + j)) (hP : PlB h 0) (f : Fl h 0) : ∀ (k N : Nat) (s left : Int) (g : Mem), s + k = 80 → -80 ≤ s → 0 ≤ left → left < 2147483648 → k < N → RC g h → (∀ a, a < 4 ∨ 7 < a → g a = g0 a) → g 7 s.natAbs = g 1 6 → ∃ g', fX11_findRest_L54 N left (ab h s) s g = some (fr h k s left, g') ∧ RC g' h ∧ (∀ a, a < 4 ∨ 7 < a → g' a = g0 a) ∧ (¬ fr h k s left = -2147483648 → g' 7 (fr h k s left).natAbs = g' 1 6) := by
  intro k
  induction k with
  | zero =>
    intro N s left g hs h1 h2 h3 hN rc G h7
    obtain ⟨N, rfl⟩ : ∃ m, N = m + 1 := ⟨N - 1, by omega⟩
    rw [fX11_findRest_L54]
    simp (disch := omega) only [if_true, if_false, if_pos, if_neg, wr_0, wr_id, gd_i, bnd_e, bd_s, bd2_s, jn_e, Int.toNat_natCast]
    exact ⟨g, rfl, rc, G, fun z => absurd rfl z⟩
  | succ k ih =>
    intro N s left g hs h1 h2 h3 hN rc G h7
    obtain ⟨N, rfl⟩ : ∃ m, N = m + 1 := ⟨N - 1, by omega⟩
    rw [fX11_findRest_L54]
    have hs1 : -80 ≤ s + 1 ∧ s + 1 ≤ 80 := by omega
    obtain ⟨g', s1, s2, s3, s4, s5, s6, s7, s8, s9⟩ := settle_e C (hull_fr G hH) rc hs1
    have G' : ∀ a, a < 4 ∨ 7 < a → g' a = g0 a := fun a ha => by rw [s3 a ha, G a ha]
    have f1 : Fl h (s + 1) := Fl_s hH (by omega) hs1 f
    have ea := armX_e (q := 24 + 1) (lot := 0) C (hull_fr G' hH) s2 (cargo_fr G' hC) (by rw [G' (24 + 1) (by omega)]; exact hq) hP hs1 f1 s5 s6 s7
    have ba := ARM_bd hH.1 C hP hs1 f1
    have nx := fun (l : Int) (z1 : 0 ≤ l) (z2 : l < 2147483648) => ih N (s + 1) l g' (by omega) (by omega) z1 z2 (by omega) s2 G' s8
    have eab : ab h (s + 1) = 0 ∨ ab h (s + 1) = 1 := by unfold ab; split <;> omega
    have eab2 : ab h s = 0 ∨ ab h s = 1 := by unfold ab; split <;> omega
    rw [s1, show fr h (k + 1) s left = if ab h s = ab h (s + 1) then fr h k (s + 1) left else if left = 0 then s else fr h k (s + 1) (left - 1) from rfl]
    have tail : ∃ g'_1, (if ab h s = ab h (s + 1) then fX11_findRest_L54 N left (ab h (s + 1)) (s + 1) g' else if left = 0 then some (s, g') else fX11_findRest_L54 N (left + -1) (ab h (s + 1)) (s + 1) g') = some (if ab h s = ab h (s + 1) then fr h k (s + 1) left else if left = 0 then s else fr h k (s + 1) (left - 1), g'_1) ∧ RC g'_1 h ∧ (∀ a, a < 4 ∨ 7 < a → g'_1 a = g0 a) ∧ (¬ (if ab h s = ab h (s + 1) then fr h k (s + 1) left else if left = 0 then s else fr h k (s + 1) (left - 1)) = -2147483648 → g'_1 7 (if ab h s = ab h (s + 1) then fr h k (s + 1) left else if left = 0 then s else fr h k (s + 1) (left - 1)).natAbs = g'_1 1 6) := by
      by_cases c : ab h s = ab h (s + 1)
      · simp only [if_pos c]; exact nx left h2 h3
      · simp only [if_neg c]
        by_cases d : left = 0
        · simp only [if_pos d]; exact ⟨g', rfl, s2, G', fun _ => s9 _ h7⟩
        · simp only [if_neg d]; rw [show left + -1 = left - 1 by omega]; exact nx _ (by omega) (by omega)
    by_cases c : 0 < ARM h 0 (s + 1)
    · have e1 : ab h (s + 1) = 1 := if_pos c
      simp (disch := omega) only [if_true, if_false, if_pos, if_neg, wr_0, wr_id, gd_i, bnd_e, bd_s, bd2_s, jn_e, Int.toNat_natCast, ea]
      rw [e1] at tail ⊢
      exact tail
    · have e1 : ab h (s + 1) = 0 := if_neg c
      simp (disch := omega) only [if_true, if_false, if_pos, if_neg, wr_0, wr_id, gd_i, bnd_e, bd_s, bd2_s, jn_e, Int.toNat_natCast, ea]
      rw [e1] at tail ⊢
      exact tail
theorem findRest_e {n : Nat} {g h : Mem} (R : RR n g h) {a : Int} (ha : IR a) : ∃ g', RC g' h ∧ (∀ b, b < 4 ∨ 7 < b → g' b = g b) ∧ ((0 ≤ a ∧ Fl h 0 ∧ fX11_findRest a g = some (fr h 160 (-80) a, g') ∧ (¬ fr h 160 (-80) a = -2147483648 → g' 7 (fr h 160 (-80) a).natAbs = g' 1 6)) ∨ (¬ (0 ≤ a ∧ Fl h 0) ∧ fX11_findRest a g = some (-2147483648, g'))) := by
  obtain ⟨hC, hM, hH, ⟨hR, hv⟩, hW, hS, hB, hD, hT, hU, hO, hP⟩ := id R
  obtain ⟨t1, t2, ⟨q1, q2, q3, q4, q5, q6, q7, q8, q9, q10, q11, q12, q13, q14⟩, t4, t5⟩ := hB
  have C := hC.1
  unfold IR at ha
  unfold fX11_findRest
  by_cases c : 0 ≤ a
  · rcases floats_e C hH hR (s := 0) (by omega) with ⟨f1, f2⟩ | ⟨f1, f2⟩
    · have hs1 : -80 ≤ (-80 : Int) ∧ (-80 : Int) ≤ 80 := by omega
      obtain ⟨g', s1, s2, s3, s4, s5, s6, s7, s8, s9⟩ := settle_e C hH hR hs1
      have ff : Fl h (-80) := Fl_s hH (by omega) hs1 f1
      have ea := armX_e (q := 24 + 1) (lot := 0) C (hull_fr s3 hH) s2 (cargo_fr s3 hC) (by rw [s3 (24 + 1) (by omega)]; exact q10) q11 hs1 ff s5 s6 s7
      have ba := ARM_bd hH.1 C q11 hs1 ff
      obtain ⟨F, hF, hF2⟩ := fuel_g
      obtain ⟨g2, l1, l2, l3, l4⟩ := rest54_e C hH hC q10 q11 f1 160 F (-80) a g' (by omega) (by omega) c (by omega) (by omega) s2 s3 s8
      refine ⟨g2, l2, l3, .inl ⟨c, f1, ?_, l4⟩⟩
      rw [f2]
      by_cases d : 0 < ARM h 0 (-80)
      · rw [show ab h (-80) = 1 from if_pos d] at l1
        simp (disch := omega) only [if_true, if_false, if_pos, if_neg, wr_0, wr_id, gd_i, bnd_e, bd_s, bd2_s, jn_e, Int.toNat_natCast, s1, ea]
        rw [hF]; exact l1
      · rw [show ab h (-80) = 0 from if_neg d] at l1
        simp (disch := omega) only [if_true, if_false, if_pos, if_neg, wr_0, wr_id, gd_i, bnd_e, bd_s, bd2_s, jn_e, Int.toNat_natCast, s1, ea]
        rw [hF]; exact l1
    · refine ⟨g, hR, fun _ _ => rfl, .inr ⟨fun z => f1 z.2, ?_⟩⟩
      rw [f2]
      simp (disch := omega) only [if_true, if_false, if_pos, if_neg, wr_0, wr_id, gd_i, bnd_e, bd_s, bd2_s, jn_e, Int.toNat_natCast]
  · refine ⟨g, hR, fun _ _ => rfl, .inr ⟨fun z => c z.1, ?_⟩⟩
    simp (disch := omega) only [if_true, if_false, if_pos, if_neg, wr_0, wr_id, gd_i, bnd_e, bd_s, bd2_s, jn_e, Int.toNat_natCast]
theorem restM3_e {h : Mem} (B : HB h) (C : CB h) (hP : PlB h 0) (hF : ∀ s, -80 ≤ s → s ≤ 80 → (Fl h s ↔ Fl h 0)) (y1 y2 : Int) (K : Int → Int → Mem → Option (Int × Mem)) : ∀ (k N i : Nat) (H : Mem), i + k = 161 → k < N → Sm h H → ∃ H', fX12_restOf_L3 N y1 y2 ((i : Int) - 80) H K = K y1 y2 H' ∧ Sm h H' ∧ (∀ j, j < i → H' 46 j = H 46 j ∧ H' 45 j = H 45 j) ∧ (∀ j : Nat, i ≤ j → j < 161 → (Fl h 0 → H' 46 j = 1 ∧ H' 45 j = ARM h 0 ((j : Int) - 80)) ∧ (¬ Fl h 0 → H' 46 j = 0)) := by
  intro k
  induction k with
  | zero =>
    intro N i H hi hN S
    obtain ⟨N, rfl⟩ : ∃ m, N = m + 1 := ⟨N - 1, by omega⟩
    rw [fX12_restOf_L3]
    simp (disch := omega) only [if_true, if_false, if_pos, if_neg, wr_0, wr_id, gd_i, bnd_e, bd_s, bd2_s, jn_e, Int.toNat_natCast]
    exact ⟨H, rfl, S, fun _ _ => ⟨rfl, rfl⟩, fun j h1 h2 => by omega⟩
  | succ k ih =>
    intro N i H hi hN S
    obtain ⟨N, rfl⟩ : ∃ m, N = m + 1 := ⟨N - 1, by omega⟩
    rw [fX12_restOf_L3]
    have hs : -80 ≤ (i : Int) - 80 ∧ (i : Int) - 80 ≤ 80 := by omega
    have e1 : (i : Int) - 80 + 80 = i := by omega
    have e2 : (i : Int) - 80 + 1 = ((i + 1 : Nat) : Int) - 80 := by omega
    have lb := LV_bd H ((i : Int) - 80)
    have hFs := hF _ hs.1 hs.2
    have fin : ∀ (H1 : Mem) (v w : Int), Sm h H1 → H1 46 = H 46 → H1 45 = H 45 → (Fl h 0 → v = 1 ∧ w = ARM h 0 ((i : Int) - 80)) → (¬ Fl h 0 → v = 0) → ∃ H', fX12_restOf_L3 N y1 y2 (((i + 1 : Nat) : Int) - 80) (up (up H1 46 i v) 45 i w) K = K y1 y2 H' ∧ Sm h H' ∧ (∀ j, j < i → H' 46 j = H 46 j ∧ H' 45 j = H 45 j) ∧ (∀ j : Nat, i ≤ j → j < 161 → (Fl h 0 → H' 46 j = 1 ∧ H' 45 j = ARM h 0 ((j : Int) - 80)) ∧ (¬ Fl h 0 → H' 46 j = 0)) := by
      intro H1 v w S1 k1 k2 hy hz
      obtain ⟨H', p1, p2, p3, p4⟩ := ih N (i + 1) (up (up H1 46 i v) 45 i w) (by omega) (by omega) (Sm_up (Sm_up S1 46 i v (by omega)) 45 i w (by omega))
      refine ⟨H', p1, p2, fun j hj => ?_, fun j h1 h2 => ?_⟩
      · have := p3 j (by omega)
        have z : j ≠ i := by omega
        simp [up, z] at this
        rw [this.1, this.2, k1, k2]; exact ⟨rfl, rfl⟩
      · by_cases c : j = i
        · subst c
          have := p3 j (by omega)
          simp [up] at this
          rw [this.1, this.2]; exact ⟨hy, hz⟩
        · exact p4 j (by omega) h2
    by_cases c : Fl h 0
    · have cH : Fl H ((i : Int) - 80) := by rw [Sm_Fl S]; exact hFs.2 c
      rw [level_yes (Sm_HB S B) (Sm_CB S C) hs cH]
      have ea := armM_e (lot := 0) (Sm_HB (Sm_up (h := H) ⟨fun _ _ _ _ => rfl, fun _ _ _ => rfl⟩ 46 i 1 (by omega)) (Sm_HB S B)) (Sm_CB (Sm_up (h := H) ⟨fun _ _ _ _ => rfl, fun _ _ _ => rfl⟩ 46 i 1 (by omega)) (Sm_CB S C)) (by omega) (Sm_PlB (Sm_up (h := H) ⟨fun _ _ _ _ => rfl, fun _ _ _ => rfl⟩ 46 i 1 (by omega)) (Sm_PlB S hP)) hs (by rw [Sm_Fl (Sm_up (h := H) ⟨fun _ _ _ _ => rfl, fun _ _ _ => rfl⟩ 46 i 1 (by omega))]; exact cH)
      have ew : ∀ p q, up (wm H p q) 46 i 1 = wm (up H 46 i 1) p q := fun p q => by
        funext a b; unfold wm up
        by_cases x : a = 46 ∧ b = i
        · simp [x]
        · simp [x]
      have eA : ARM (up H 46 i 1) 0 ((i : Int) - 80) = ARM h 0 ((i : Int) - 80) := by rw [Sm_ARM (Sm_up S 46 i 1 (by omega))]
      rw [Sm_PR (Sm_up (h := H) ⟨fun _ _ _ _ => rfl, fun _ _ _ => rfl⟩ 46 i 1 (by omega)), Sm_QR (Sm_up (h := H) ⟨fun _ _ _ _ => rfl, fun _ _ _ => rfl⟩ 46 i 1 (by omega)), Sm_LV (Sm_up (h := H) ⟨fun _ _ _ _ => rfl, fun _ _ _ => rfl⟩ 46 i 1 (by omega)), ← ew, eA] at ea
      have eg : gc ((1 : Int) = 0 ∨ (1 : Int) = 1) = fun (k : Option (Int × Mem)) => k := by funext k; exact gc_of (by omega)
      have e46 : ∀ p q, up (wm H p q) 46 i 1 46 i = 1 := fun p q => by simp [up]
      simp (disch := omega) only [if_true, if_false, if_pos, if_neg, wr_0, wr_id, gd_i, bnd_e, bd_s, bd2_s, jn_e, Int.toNat_natCast, e1, e2, eg, e46]
      rw [show (0 : Int) = ((0 : Nat) : Int) from rfl, ea]
      simp (disch := omega) only [if_true, if_false, if_pos, if_neg, wr_0, wr_id, gd_i, bnd_e, bd_s, bd2_s, jn_e, Int.toNat_natCast]
      exact fin _ 1 _ (Sm_wm S _ _) rfl rfl (fun _ => ⟨rfl, rfl⟩) (fun z => absurd c z)
    · have cH : ¬ Fl H ((i : Int) - 80) := by rw [Sm_Fl S]; exact fun z => c (hFs.1 z)
      obtain ⟨h', l1, l2⟩ := level_no (Sm_HB S B) (Sm_CB S C) hs cH
      rw [l1]
      have eg : gc ((0 : Int) = 0 ∨ (0 : Int) = 1) = fun (k : Option (Int × Mem)) => k := by funext k; exact gc_of (by omega)
      have e46 : up h' 46 i 0 46 i = 0 := by simp [up]
      simp (disch := omega) only [if_true, if_false, if_pos, if_neg, wr_0, wr_id, gd_i, bnd_e, bd_s, bd2_s, jn_e, Int.toNat_natCast, e1, e2, eg, e46]
      have hS' : Sm h h' ∧ h' 46 = H 46 ∧ h' 45 = H 45 := by
        rcases l2 with rfl | ⟨p, q, rfl⟩
        · exact ⟨S, rfl, rfl⟩
        · exact ⟨Sm_wm S p q, rfl, rfl⟩
      exact fin h' 0 0 hS'.1 hS'.2.1 hS'.2.2 (fun z => absurd z c) (fun _ => rfl)
theorem restM75_e {h H : Mem} (B : HB h) (C : CB h) (hP : PlB h 0) (hF : ∀ s, -80 ≤ s → s ≤ 80 → Fl h s) (hH : ∀ j : Nat, j < 161 → H 46 j = 1 ∧ H 45 j = ARM h 0 ((j : Int) - 80)) (y1 y2 : Int) (hy : 0 ≤ y1 ∧ y1 < 2147483648) (K : Int → Int → Mem → Option (Int × Mem)) : ∀ (k N i : Nat) (left : Int), i + k = 160 → k < N → 0 ≤ left → left < 2147483648 → fX12_restOf_L75 N y1 y2 left i H K = if fr h k ((i : Int) - 80) left = -2147483648 then some (-2147483648, H) else K y2 (fr h k ((i : Int) - 80) left + 80) H := by
  intro k
  induction k with
  | zero =>
    intro N i left hi hN h1 h2
    obtain ⟨N, rfl⟩ : ∃ m, N = m + 1 := ⟨N - 1, by omega⟩
    rw [fX12_restOf_L75]
    simp (disch := omega) only [if_true, if_false, if_pos, if_neg, wr_0, wr_id, gd_i, bnd_e, bd_s, bd2_s, jn_e, Int.toNat_natCast]
    rfl
  | succ k ih =>
    intro N i left hi hN h1 h2
    obtain ⟨N, rfl⟩ : ∃ m, N = m + 1 := ⟨N - 1, by omega⟩
    rw [fX12_restOf_L75]
    obtain ⟨a1, a2⟩ := hH i (by omega)
    obtain ⟨c1, c2⟩ := hH (i + 1) (by omega)
    rw [show ((i + 1 : Nat) : Int) - 80 = (i : Int) - 80 + 1 by omega] at c2
    have b1 := ARM_bd B C hP (s := (i : Int) - 80) (by omega) (hF _ (by omega) (by omega))
    have b2 := ARM_bd B C hP (s := (i : Int) - 80 + 1) (by omega) (hF _ (by omega) (by omega))
    have nx := fun (l : Int) (z1 : 0 ≤ l) (z2 : l < 2147483648) => ih N (i + 1) l (by omega) (by omega) z1 z2
    rw [show ((i + 1 : Nat) : Int) - 80 = (i : Int) - 80 + 1 by omega] at nx
    have tl := fr_bd h k ((i : Int) - 80 + 1)
    rw [show fr h (k + 1) ((i : Int) - 80) left = if ab h ((i : Int) - 80) = ab h ((i : Int) - 80 + 1) then fr h k ((i : Int) - 80 + 1) left else if left = 0 then ((i : Int) - 80) else fr h k ((i : Int) - 80 + 1) (left - 1) from rfl]
    simp (disch := omega) only [if_true, if_false, if_pos, if_neg, wr_0, wr_id, gd_i, bnd_e, bd_s, bd2_s, jn_e, Int.toNat_natCast, ncs, a1, a2, c1, c2]
    rw [lCmp_e (by omega) (by omega), lCmp_e (by omega) (by omega)]
    have f0 : ∀ s : Int, ((if 0 < ARM h 0 s then (1 : Int) else if ARM h 0 s = 0 then 0 else -1) ≤ 0) = (¬ 0 < ARM h 0 s) := fun s => by
      by_cases z : 0 < ARM h 0 s
      · rw [if_pos z]; simp [z]
      · rw [if_neg z]; simp [z]; split <;> omega
    simp only [f0]
    unfold ab
    by_cases z1 : 0 < ARM h 0 ((i : Int) - 80) <;> by_cases z2 : 0 < ARM h 0 ((i : Int) - 80 + 1)
    · simp (disch := omega) only [if_true, if_false, if_pos, if_neg, wr_0, wr_id, gd_i, bnd_e, bd_s, bd2_s, jn_e, Int.toNat_natCast, z1, z2, not_true]
      rw [nx left h1 h2]
    · simp (disch := omega) only [if_true, if_false, if_pos, if_neg, wr_0, wr_id, gd_i, bnd_e, bd_s, bd2_s, jn_e, Int.toNat_natCast, z1, z2, not_true, not_false_eq_true]
      by_cases d : left = 0
      · simp (disch := omega) only [if_true, if_false, if_pos, if_neg, wr_0, wr_id, gd_i, bnd_e, bd_s, bd2_s, jn_e, Int.toNat_natCast, d]
        rw [show (i : Int) - 80 + 80 = i by omega]
      · simp (disch := omega) only [if_true, if_false, if_pos, if_neg, wr_0, wr_id, gd_i, bnd_e, bd_s, bd2_s, jn_e, Int.toNat_natCast, if_neg d]
        rw [show left + -1 = left - 1 by omega, nx _ (by omega) (by omega)]
    · simp (disch := omega) only [if_true, if_false, if_pos, if_neg, wr_0, wr_id, gd_i, bnd_e, bd_s, bd2_s, jn_e, Int.toNat_natCast, z1, z2, not_true, not_false_eq_true]
      by_cases d : left = 0
      · simp (disch := omega) only [if_true, if_false, if_pos, if_neg, wr_0, wr_id, gd_i, bnd_e, bd_s, bd2_s, jn_e, Int.toNat_natCast, d]
        rw [show (i : Int) - 80 + 80 = i by omega]
      · simp (disch := omega) only [if_true, if_false, if_pos, if_neg, wr_0, wr_id, gd_i, bnd_e, bd_s, bd2_s, jn_e, Int.toNat_natCast, if_neg d]
        rw [show left + -1 = left - 1 by omega, nx _ (by omega) (by omega)]
    · simp (disch := omega) only [if_true, if_false, if_pos, if_neg, wr_0, wr_id, gd_i, bnd_e, bd_s, bd2_s, jn_e, Int.toNat_natCast, z1, z2, not_false_eq_true]
      rw [nx left h1 h2]
