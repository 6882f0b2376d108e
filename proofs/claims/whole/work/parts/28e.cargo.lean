/-! WEIGHTS and TANKS: the calls -/
theorem LV_c {h h' : Mem} (e1 : PR h' = PR h) (e2 : HV h' = HV h) : LV h' = LV h := by
  funext s; unfold LV; rw [e1, e2]
theorem carry_e {g g0 h h' : Mem} (rc : RC g0 h) (e1 : g 1 6 = g0 1 6) (e9 : g 1 9 = g0 1 9) (e4 : g 4 = g0 4) (e5 : g 5 = g0 5) (e6 : g 6 = g0 6) (e7 : g 7 = g0 7) (hp : PR h' = PR h) (hq : QR h' = QR h) (hv : g 8 10 = HV h') (C : CB h') (hb : HV h ≤ 7200 ∧ 0 ≤ HV h) (hl : g0 1 6 ≤ 5000) : ∃ g', fX3_carry (g 8 10) g = some g' ∧ RC g' h' ∧ (∀ a, a ≠ 1 → g' a = g a) ∧ (∀ b, b ≠ 6 → b ≠ 9 → g' 1 b = g 1 b) ∧ g' 1 6 ≤ g0 1 6 + 1 := by
  obtain ⟨c1, c2, c3, c4⟩ := rc
  have b := HV_bd C
  unfold fX3_carry
  rw [hv, e9, c1, wr_id (by omega) (by omega), wr_id (by omega) (by omega)]
  by_cases c : HV h' = HV h
  · rw [if_pos c]
    refine ⟨g, rfl, ⟨by rw [e9, c1, c], ?_, ?_, by rw [e1]; exact c4⟩, fun _ _ => rfl, fun _ _ _ => rfl, by omega⟩
    · rw [e1, e4, e5, e6, e7, LV_c hp c, hp, hq]; exact c2
    · rw [e1, e7]; exact c3
  · rw [if_neg c]
    simp only [bnd_e]
    refine ⟨_, rfl, ⟨?_, ?_, ?_, ?_⟩, ?_, ?_, ?_⟩
    · simp [up]
    · intro t ht hh
      have := c3 t
      simp [up, e7, e1] at hh
      omega
    · intro t
      have := c3 t
      simp [up, e7, e1]; omega
    · simp [up, e1]; omega
    · intro a ha; funext b; simp [up, ha]
    · intro b h1 h2; simp [up, h1, h2]
    · simp [up, e1]
theorem PlB_up {h : Mem} (P : PlB h 0) {i : Nat} {v : Int} (hv : -19 ≤ v ∧ v ≤ 19) : PlB (up h 18 i v) 0 := by
  intro j hj
  have := P j hj
  unfold up
  by_cases c : 12 * 0 + j = i
  · rw [if_pos ⟨rfl, c⟩]; exact hv
  · rw [if_neg (fun z => c z.2)]; exact this
theorem isWeight_e {g h : Mem} (R : RCargo g h) {a : Int} (ha : IR a) : (∃ w : Nat, a = w ∧ (w : Int) < h 0 4 ∧ h 8 w = 0 ∧ fX1_hasWeight a g = some 1 ∧ fX12_isWeight a h = some 1) ∨ (fX1_hasWeight a g = some 0 ∧ fX12_isWeight a h = some 0) := by
  obtain ⟨B, r1, r2, r3, r4, r5, r6, r7, r8, r9, r10, r11⟩ := R
  obtain ⟨b1, b2, b3, b4, b5, b6, b7, b8, b9, b10, b11, b12, b13, b14⟩ := B
  unfold IR at ha
  unfold fX1_hasWeight fX12_isWeight
  rw [in_e ha (by omega) (by omega), bd_s]
  by_cases c : 0 ≤ a ∧ a ≤ h 0 4 - 1
  · obtain ⟨w, rfl⟩ : ∃ w : Nat, a = w := ⟨a.toNat, by omega⟩
    have x3 := b3 w
    have x4 := b4 w
    have x12 := b12 w (by omega)
    have x10 := r10 w
    by_cases d : h 8 w = 0
    · rw [show hv1 h w = h 4 w from if_pos d] at x10
      refine .inl ⟨w, rfl, by omega, d, ?_, ?_⟩
      · simp (disch := omega) only [if_true, if_false, if_pos, if_neg, wr_0, wr_id, gd_i, bnd_e, bd_s, bd2_s, jn_e, Int.toNat_natCast, r1, x10]
      · simp (disch := omega) only [if_true, if_false, if_pos, if_neg, wr_0, wr_id, gd_i, bnd_e, bd_s, bd2_s, jn_e, Int.toNat_natCast, if_pos c, d]
    · rw [show hv1 h w = 0 from if_neg d] at x10
      refine .inr ⟨?_, ?_⟩
      · simp (disch := omega) only [if_true, if_false, if_pos, if_neg, wr_0, wr_id, gd_i, bnd_e, bd_s, bd2_s, jn_e, Int.toNat_natCast, r1, x10]
      · simp (disch := omega) only [if_true, if_false, if_pos, if_neg, wr_0, wr_id, gd_i, bnd_e, bd_s, bd2_s, jn_e, Int.toNat_natCast, if_pos c]
  · refine .inr ⟨?_, ?_⟩
    · by_cases d : a < 0
      · simp (disch := omega) only [if_true, if_false, if_pos, if_neg, wr_0, wr_id, gd_i, bnd_e, bd_s, bd2_s, jn_e, Int.toNat_natCast]
      · simp (disch := omega) only [if_true, if_false, if_pos, if_neg, wr_0, wr_id, gd_i, bnd_e, bd_s, bd2_s, jn_e, Int.toNat_natCast, r1]
    · simp (disch := omega) only [if_true, if_false, if_pos, if_neg, wr_0, wr_id, gd_i, bnd_e, bd_s, bd2_s, jn_e, Int.toNat_natCast, if_neg c]
theorem S_lose : Sim_lose RR := by
  intro n g h a0 hn R h0
  obtain ⟨hC, hM, hH, ⟨hR, hv⟩, hW, hS, hB, hD, hT, hU, hO, hP⟩ := id R
  have keep : RR (n + 1) g h := RR_mono n (n + 1) g h (by omega) R
  have iw := isWeight_e hC h0
  obtain ⟨B, r1, r2, r3, r4, r5, r6, r7, r8, r9, r10, r11⟩ := id hC
  obtain ⟨b1, b2, b3, b4, b5, b6, b7, b8, b9, b10, b11, b12, b13, b14⟩ := id B
  unfold fX11_lose fX12_lose
  rcases iw with ⟨w, rfl, hw, h8, e1, e2⟩ | ⟨e1, e2⟩
  · unfold fX1_dropWeight
    rw [e1, e2]
    have x4 := b4 w
    have x10 := r10 w
    rw [show hv1 h w = h 4 w from if_pos h8] at x10
    simp (disch := omega) only [if_true, if_false, if_pos, if_neg, wr_0, wr_id, gd_i, bnd_e, bd_s, bd2_s, jn_e, Int.toNat_natCast, wr_id]
    have eH : HV (up h 8 w 1) = HV h - h 4 w := by
      unfold HV
      have := sm_upd (f := hv1 h) (f' := hv1 (up h 8 w 1)) (i := 0) (k := (h 0 4).toNat) (j := w) (fun x hx => by simp [hv1, up, hx]) (by omega) (by omega)
      rw [show hv1 (up h 8 w 1) w = 0 by simp [hv1, up], show hv1 h w = h 4 w from if_pos h8] at this
      show sm (hv1 (up h 8 w 1)) 0 (h 0 4).toNat + sm (h 12) 0 (h 0 10).toNat = _
      omega
    have CB' : CB (up h 8 w 1) := ⟨b1, b2, fun j => by
      show up h 8 w 1 8 j = 0 ∨ _
      by_cases c : j = w
      · simp [up, c]
      · simpa [up, c] using b3 j, b4, b5, b6, b7, b8, b9, b10, b11, b12, fun j hj => by
      have : j ≠ w := by intro z; subst z; exact absurd hj (by show ¬ h 0 4 ≤ _; omega)
      simpa [up, this] using b13 j hj, b14⟩
    have e10 : up (up g 8 10 (g 8 10 - g 9 w)) 9 w 0 8 10 = HV (up h 8 w 1) := by
      rw [eH, ← r11, ← x10]; rfl
    obtain ⟨g', c1, c2, c3, c4, c5⟩ := carry_e (g := up (up g 8 10 (g 8 10 - g 9 w)) 9 w 0) (h' := up h 8 w 1) hR rfl rfl rfl rfl rfl rfl rfl rfl e10 CB' (by have := HV_bd B; omega) (by omega)
    rw [c1]
    refine ⟨_, _, _, _, rfl, rfl, rfl, ?_, ?_, ?_, ⟨c2, by omega⟩, ?_, ?_, ?_, ?_, ?_, ?_, ?_, ?_⟩
    · refine ⟨CB', ?_, ?_, ?_, ?_, ?_, ?_, ?_, ?_, ?_, ?_, ?_⟩
      · rw [c3 8 (by omega)]; exact r1
      · rw [c3 8 (by omega)]; exact r2
      · rw [c3 10 (by omega)]; exact r3
      · rw [c3 11 (by omega)]; exact r4
      · rw [c3 12 (by omega)]; exact r5
      · rw [c3 13 (by omega)]; exact r6
      · rw [c3 14 (by omega)]; exact r7
      · rw [c3 15 (by omega)]; exact r8
      · rw [c3 16 (by omega)]; exact r9
      · rw [c3 9 (by omega)]; intro j
        by_cases c : j = w
        · simp [up, hv1, c]
        · have := r10 j; simpa [up, hv1, c] using this
      · rw [c3 8 (by omega)]; exact e10
    · unfold RMarks; rw [c3 17 (by omega), c3 18 (by omega), c3 19 (by omega)]; exact hM
    · unfold RHull; rw [c4 7 (by omega) (by omega), c4 8 (by omega) (by omega), c3 2 (by omega), c3 3 (by omega)]; exact hH
    · unfold RWaves; rw [c3 20 (by omega), c3 21 (by omega), c3 22 (by omega), c3 23 (by omega)]; exact hW
    · unfold RSet; rw [c3 0 (by omega)]; exact hS
    · unfold RShip RBody; rw [c3 24 (by omega), c3 (24 + 1) (by omega), c3 26 (by omega), c3 27 (by omega)]; exact hB
    · unfold RDiary; rw [c3 33 (by omega), c3 34 (by omega), c3 35 (by omega), c3 36 (by omega)]; exact hD
    · unfold RText; rw [c3 37 (by omega), c3 38 (by omega)]; exact hT
    · unfold RRules RCl; rw [c3 0 (by omega), c3 (47 + 1) (by omega), c3 (47 + 3) (by omega), c3 (47 + 4) (by omega), c3 (52 + 1) (by omega), c3 (52 + 3) (by omega), c3 (52 + 4) (by omega)]; exact hU
    · unfold RRoute; rw [c3 41 (by omega), c3 42 (by omega), c3 43 (by omega)]; exact hO
    · unfold RTape; rw [c3 44 (by omega), c3 45 (by omega)]; exact hP
  · rw [e1, e2]
    simp (disch := omega) only [if_true, if_false, if_pos, if_neg, wr_0, wr_id, gd_i, bnd_e, bd_s, bd2_s, jn_e, Int.toNat_natCast]
    exact ⟨_, _, _, _, rfl, rfl, rfl, keep⟩
