/-! HOLDS; what stays while a body goes on -/
theorem RR_eval {n : Nat} {g h g' h' : Mem} (R : RR n g h) (G : ∀ a, a ≠ 46 → a ≠ 49 → a ≠ 54 → g' a = g a) (H : ∀ a, a ≠ 47 → a ≠ 48 → h' a = h a) : RR n g' h' := by
  refine RR_txt R (fun a ha => G a (by omega) (by omega) (by omega)) (fun b _ => by rw [G 0 (by omega) (by omega) (by omega)]) (fun a ha => H a (by omega) (by omega)) (fun b hb => by rw [H 0 (by omega) (by omega)]) ?_ ?_
  · obtain ⟨hC, hM, hH, ⟨hR, hv⟩, hW, hS, hB, hD, hT, hU, hO, hP⟩ := R
    unfold RText; rw [G 37 (by omega) (by omega) (by omega), G 38 (by omega) (by omega) (by omega), H 0 (by omega) (by omega), H 35 (by omega) (by omega)]; exact hT
  · obtain ⟨hC, hM, hH, ⟨hR, hv⟩, hW, hS, hB, hD, hT, hU, hO, hP⟩ := R
    have g1 : ∀ a, (a ≠ 46 ∧ a ≠ 49 ∧ a ≠ 54) → g' a = g a := fun a z => G a z.1 z.2.1 z.2.2
    unfold RRules RCl; rw [g1 0 (by omega), g1 (47 + 1) (by omega), g1 (47 + 3) (by omega), g1 (47 + 4) (by omega), g1 (52 + 1) (by omega), g1 (52 + 3) (by omega), g1 (52 + 4) (by omega), H 41 (by omega) (by omega), H 42 (by omega) (by omega), H 43 (by omega) (by omega), H 44 (by omega) (by omega)]; exact hU
theorem S_holds : Sim_holds RR := by
  intro n g h a0 hn R h0
  have keep : RR (n + 1) g h := RR_mono n (n + 1) g h (by omega) R
  obtain ⟨hC, hM, hH, ⟨hR, hv⟩, hW, hS, hB, hD, hT, hU, hO, hP⟩ := id R
  obtain ⟨t1, t2, t3, t4, t5⟩ := hB
  unfold IR at h0
  unfold fX11_holds fX12_holds
  rw [t2, within_e h0 (by omega) (by omega), in_e h0 (by omega) (by omega), bd_s, bd_s]
  by_cases c : 0 ≤ a0 ∧ a0 ≤ 1
  · simp only [if_pos c, if_neg (show ¬ wr 1 = 0 by decide)]
    rw [wr_id (z := h 0 26) (by omega) (by omega)]
    by_cases d : h 0 26 < 600
    · obtain ⟨w, rfl⟩ : ∃ w : Nat, a0 = w := ⟨a0.toNat, by omega⟩
      obtain ⟨t, ht⟩ : ∃ t : Nat, h 0 26 = t := ⟨(h 0 26).toNat, by omega⟩
      obtain ⟨g', h', v, e1, e2, e3, e4, e5⟩ := clause_e (b := 24) (lot := 0) (c := w) (t := t) (.inl ⟨rfl, rfl⟩) (by omega) (by omega) t1 hC hM hW hU t3 (by rw [t2, ht])
      have fin : RR (n + 1) g' h' := RR_eval keep e4 e5
      rw [e1, ht]
      rw [show ((0 : Nat) : Int) = 0 from rfl] at e2
      rw [e2]
      rw [ht] at d
      rcases e3 with rfl | rfl
      · simp (disch := omega) only [if_true, if_false, if_pos, if_neg, wr_0, wr_id, gd_i, bnd_e, bd_s, bd2_s, jn_e, Int.toNat_natCast]
        exact ⟨_, _, _, _, rfl, rfl, rfl, fin⟩
      · simp (disch := omega) only [if_true, if_false, if_pos, if_neg, wr_0, wr_id, gd_i, bnd_e, bd_s, bd2_s, jn_e, Int.toNat_natCast]
        exact ⟨_, _, _, _, rfl, rfl, rfl, fin⟩
    · simp (disch := omega) only [if_true, if_false, if_pos, if_neg, wr_0, wr_id, gd_i, bnd_e, bd_s, bd2_s, jn_e, Int.toNat_natCast]
      exact ⟨_, _, _, _, rfl, rfl, rfl, keep⟩
  · simp only [if_neg c, if_pos (show wr 0 = 0 by decide)]
    exact ⟨_, _, _, _, rfl, rfl, rfl, keep⟩
def St (g h : Mem) : Prop := RCargo g h ∧ RMarks g h ∧ RHull g h ∧ RC g h ∧ RWaves g h ∧ RSet g h ∧ RRules g h
/-- rows of the class that a body's going on leaves -/
def GK (g g' : Mem) : Prop := ∀ a, (a < 4 ∨ (7 < a ∧ a < 24) ∨ (31 < a ∧ a ≠ 46 ∧ a ≠ 49 ∧ a ≠ 54)) → g' a = g a
def HK (h h' : Mem) : Prop := (∀ a, (0 < a ∧ a < 18) ∨ (26 < a ∧ a ≠ 47 ∧ a ≠ 48) → h' a = h a) ∧ (∀ b, (b ≠ 66 ∧ b ≠ 67 ∧ b ≠ 70) → h' 0 b = h 0 b)
theorem HK_HV {h h' : Mem} (H : HK h h') : HV h' = HV h := by
  unfold HV hv1; rw [H.1 4 (by omega), H.1 8 (by omega), H.1 12 (by omega), H.2 4 (by omega), H.2 10 (by omega)]
theorem HK_PR {h h' : Mem} (H : HK h h') : PR h' = PR h := by
  funext s lv; unfold PR; rw [H.1 2 (by omega), H.1 3 (by omega), H.2 1 (by omega)]
theorem HK_QR {h h' : Mem} (H : HK h h') : QR h' = QR h := by
  funext s lv; unfold QR; rw [H.1 2 (by omega), H.1 3 (by omega), H.2 1 (by omega)]
theorem HK_LV {h h' : Mem} (H : HK h h') : LV h' = LV h := LV_c (HK_PR H) (HK_HV H)
theorem HK_Fl {h h' : Mem} (H : HK h h') : Fl h' = Fl h := by funext s; unfold Fl; rw [HK_HV H, HK_PR H]
theorem HK_trans {h h' h'' : Mem} (a : HK h h') (b : HK h' h'') : HK h h'' := ⟨fun k z => by rw [b.1 k z, a.1 k z], fun k z => by rw [b.2 k z, a.2 k z]⟩
theorem GK_trans {g g' g'' : Mem} (a : GK g g') (b : GK g' g'') : GK g g'' := fun k z => by rw [b k z, a k z]
theorem St_fr {g h g' h' : Mem} (S : St g h) (G : GK g g') (H : HK h h') (rc : RC g' h) : St g' h' := by
  obtain ⟨hC, hM, hH, hR, hW, hS, hU⟩ := S
  refine ⟨?_, ?_, ?_, ?_, ?_, ?_, ?_⟩
  · unfold RCargo CB; rw [HK_HV H]; unfold hv1
    rw [G 8 (by omega), G 9 (by omega), G 10 (by omega), G 11 (by omega), G 12 (by omega), G 13 (by omega), G 14 (by omega), G 15 (by omega), G 16 (by omega), H.2 4 (by omega), H.2 10 (by omega), H.1 4 (by omega), H.1 5 (by omega), H.1 6 (by omega), H.1 7 (by omega), H.1 8 (by omega), H.1 9 (by omega), H.1 10 (by omega), H.1 11 (by omega), H.1 12 (by omega)]
    exact hC
  · unfold RMarks; rw [G 17 (by omega), G 18 (by omega), G 19 (by omega), H.2 15 (by omega), H.1 13 (by omega), H.1 14 (by omega)]; exact hM
  · unfold RHull HB; rw [G 1 (by omega), G 2 (by omega), G 3 (by omega), H.2 1 (by omega), H.1 2 (by omega), H.1 3 (by omega)]; exact hH
  · unfold RC; rw [HK_HV H, HK_LV H, HK_PR H, HK_QR H]; exact rc
  · unfold RWaves; rw [G 20 (by omega), G 21 (by omega), G 22 (by omega), G 23 (by omega), H.2 18 (by omega), H.1 1 (by omega), H.1 15 (by omega), H.1 16 (by omega), H.1 17 (by omega)]; exact hW
  · unfold RSet; rw [G 0 (by omega), H.2 22 (by omega), H.2 23 (by omega), H.2 24 (by omega), H.2 25 (by omega)]; exact hS
  · unfold RRules RCl; rw [G 0 (by omega), G (47 + 1) (by omega), G (47 + 3) (by omega), G (47 + 4) (by omega), G (52 + 1) (by omega), G (52 + 3) (by omega), G (52 + 4) (by omega), H.1 41 (by omega), H.1 42 (by omega), H.1 43 (by omega), H.1 44 (by omega)]; exact hU
theorem RC_fr {g h g' : Mem} (rc : RC g h) (e1 : g' 1 = g 1) (e4 : g' 4 = g 4) (e5 : g' 5 = g 5) (e6 : g' 6 = g 6) (e7 : g' 7 = g 7) : RC g' h := by
  unfold RC; rw [e1, e4, e5, e6, e7]; exact rc
