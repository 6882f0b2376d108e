/-! THE HULL: relation, settling, arms -/
def RHull (g h : Mem) : Prop := HB h ∧ g 1 7 = h 0 1 ∧ (∀ z c, z < 10 → c < 19 → g 2 (z * 19 + c) = sm (fun k => h 2 k * cn (h 3 (10 * k + z)) c) 0 (h 0 1).toNat) ∧ (∀ z c, z < 10 → c < 19 → g 3 (z * 19 + c) = sm (fun k => h 2 k * cl (h 3 (10 * k + z)) c) 0 (h 0 1).toNat) ∧ g 1 8 = sm (fun z => g 2 (z * 19 + 0)) 0 10
theorem PC_PR {g h : Mem} (R : RHull g h) {t : Int} (ht : 0 ≤ t) (lv : Int) : PC g t lv = PR h t lv := by
  obtain ⟨B, r1, r2, r3, r4⟩ := R
  unfold PC PR
  rw [sm_congr (f' := fun z => sm (fun k => h 2 k * cn (h 3 (10 * k + z)) (fw z t lv)) 0 (h 0 1).toNat) (fun z _ hz => r2 z _ (by omega) (by have := fw_le z t lv; omega))]
  rw [sm_swap]
  refine sm_congr (fun k _ _ => sm_congr (fun z _ _ => ?_))
  rw [rc_cn (B.2.2 _).2 (fw_le z t lv) (fun i hi => fw_wet ht i hi)]
theorem QC_QR {g h : Mem} (R : RHull g h) {t : Int} (ht : 0 ≤ t) (lv : Int) : QC g t lv = QR h t lv := by
  obtain ⟨B, r1, r2, r3, r4⟩ := R
  unfold QC QR
  rw [sm_congr (f' := fun z => sm (fun k => h 2 k * rq t lv z (h 3 (10 * k + z))) 0 (h 0 1).toNat) (fun z _ hz => ?_)]
  · rw [sm_swap]
  · have := fw_le z t lv
    rw [r2 z _ (by omega) (by omega), r3 z _ (by omega) (by omega), ← sm_mul, ← sm_mul, ← sm_add]
    refine sm_congr (fun k _ _ => ?_)
    rw [rq_cl (B.2.2 _).2 (fw_le z t lv) (fun i hi => fw_wet ht i hi), Int.mul_add (h 2 k), Int.mul_left_comm (h 2 k) 100, Int.mul_left_comm (h 2 k) (t * (2 * (z : Int) + 1))]
theorem whole_e {g h : Mem} (R : RHull g h) {s : Int} (hs : -80 ≤ s ∧ s ≤ 80) : PR h s 4000 = g 1 8 := by
  have key : ∀ t : Int, 0 ≤ t → t ≤ 80 → PR h t 4000 = g 1 8 := by
    intro t h1 h2
    rw [← PC_PR R h1, R.2.2.2.2]
    unfold PC
    refine sm_congr (fun z _ hz => ?_)
    have := (fw_wet (z := z) (lv := 4000) h1 0 (by omega)).1 (by omega)
    rw [show fw z t 4000 = 0 by omega]
  by_cases c : 0 ≤ s
  · exact key s c hs.2
  · have := key (-s) (by omega) (by omega)
    rw [PR_neg] at this; exact this
def RC (g h : Mem) : Prop := g 1 9 = HV h ∧ (∀ t : Nat, t ≤ 80 → g 7 t = g 1 6 → g 4 t = LV h t ∧ g 5 t = PR h t (LV h t) ∧ g 6 t = QR h t (LV h t)) ∧ (∀ t, 0 ≤ g 7 t ∧ g 7 t ≤ g 1 6) ∧ (1 ≤ g 1 6 ∧ g 1 6 ≤ 10000)
theorem floats_e {g h : Mem} (C : CB h) (R : RHull g h) (rc : RC g h) {s : Int} (hs : -80 ≤ s ∧ s ≤ 80) : (Fl h s ∧ fX3_floats g = some 1) ∨ (¬ Fl h s ∧ fX3_floats g = some 0) := by
  have b := HV_bd C
  have m := PR_bd R.1 s 4000
  have e := whole_e R hs
  unfold fX3_floats Fl
  rw [rc.1, ← e]
  by_cases c : HV h = 0
  · refine .inr ⟨fun z => z.1 c, ?_⟩
    simp (disch := omega) only [if_true, if_false, if_pos, if_neg, wr_0, wr_id, gd_i, bnd_e, bd_s, bd2_s, jn_e, Int.toNat_natCast]
  · by_cases d : HV h ≤ PR h s 4000
    · refine .inl ⟨⟨c, d⟩, ?_⟩
      simp (disch := omega) only [if_true, if_false, if_pos, if_neg, wr_0, wr_id, gd_i, bnd_e, bd_s, bd2_s, jn_e, Int.toNat_natCast]
    · refine .inr ⟨fun z => d z.2, ?_⟩
      simp (disch := omega) only [if_true, if_false, if_pos, if_neg, wr_0, wr_id, gd_i, bnd_e, bd_s, bd2_s, jn_e, Int.toNat_natCast]
theorem Fl_s {g h : Mem} (R : RHull g h) {s s' : Int} (hs : -80 ≤ s ∧ s ≤ 80) (hs' : -80 ≤ s' ∧ s' ≤ 80) (f : Fl h s) : Fl h s' := by
  unfold Fl at *; rw [whole_e R hs] at f; rw [whole_e R hs']; exact f
theorem settle_e {g h : Mem} (C : CB h) (R : RHull g h) (rc : RC g h) {s : Int} (hs : -80 ≤ s ∧ s ≤ 80) : ∃ g', fX3_settle s g = some g' ∧ RC g' h ∧ (∀ a, a < 4 ∨ 7 < a → g' a = g a) ∧ g' 4 s.natAbs = LV h s ∧ g' 5 s.natAbs = PR h s (LV h s) ∧ (0 ≤ s → g' 6 s.natAbs = QR h s (LV h s)) ∧ (s < 0 → -g' 6 s.natAbs = QR h s (LV h s)) ∧ g' 7 s.natAbs = g' 1 6 ∧ (∀ t, g 7 t = g 1 6 → g' 7 t = g' 1 6) := by
  have key : ∀ t : Nat, t = s.natAbs → ∀ g' : Mem, g' 7 t = g' 1 6 → (∀ t, g 7 t = g 1 6 → g' 7 t = g' 1 6) → g' 4 t = LV h t → g' 5 t = PR h t (LV h t) → g' 6 t = QR h t (LV h t) → g' 4 s.natAbs = LV h s ∧ g' 5 s.natAbs = PR h s (LV h s) ∧ (0 ≤ s → g' 6 s.natAbs = QR h s (LV h s)) ∧ (s < 0 → -g' 6 s.natAbs = QR h s (LV h s)) ∧ g' 7 s.natAbs = g' 1 6 ∧ (∀ t, g 7 t = g 1 6 → g' 7 t = g' 1 6) := by
    intro t ht g' h7 h8 h1 h2 h3
    rw [← ht, h1, h2, h3]
    by_cases c : 0 ≤ s
    · rw [show ((t : Nat) : Int) = s by omega]; exact ⟨rfl, rfl, fun _ => rfl, fun z => by omega, h7, h8⟩
    · rw [show s = -((t : Nat) : Int) by omega, LV_neg, PR_neg, QR_neg]; exact ⟨rfl, rfl, fun z => by omega, fun _ => rfl, h7, h8⟩
  have b := HV_bd C
  obtain ⟨c1, c2, c3, c4⟩ := id rc
  have c3t := c3 s.natAbs
  unfold fX3_settle
  rw [mAbs_e (by omega)]
  simp (disch := omega) only [if_true, if_false, if_pos, if_neg, wr_0, wr_id, gd_i, bnd_e, bd_s, bd2_s, jn_e, Int.toNat_natCast]
  by_cases c : g 7 s.natAbs = g 1 6
  · rw [if_pos c]
    have e := c2 s.natAbs (by omega) c
    exact ⟨g, rfl, rc, fun _ _ => rfl, key s.natAbs rfl g c (fun _ z => z) e.1 e.2.1 e.2.2⟩
  · rw [if_neg c]
    generalize ht : s.natAbs = t at *
    have hp : ∀ lv, -2000 ≤ lv → lv ≤ 4000 → 0 ≤ PC g t lv ∧ PC g t lv ≤ 21600 := fun lv _ _ => by rw [PC_PR R (by omega)]; exact PR_bd R.1 _ _
    rw [show (0 : Int) = ((0 : Nat) : Int) from rfl, settle1_e (by omega) hp (by omega) _ 13 fuel 0 _ _ (by omega) (by omega) (by omega) (by omega) (by decide) (by rw [fuel_s]; omega)]
    have el : bis (PC g t) (g 1 9) 13 (-2000) 4000 = LV h t := by
      unfold LV; rw [c1]; exact bis_congr _ _ _ (fun x _ _ => PC_PR R (by omega) x)
    have lb := LV_bd h t
    rw [el, weighAt_e (by omega) (by omega)]
    simp (disch := omega) only [if_true, if_false, if_pos, if_neg, wr_0, wr_id, gd_i, bnd_e, bd_s, bd2_s, jn_e, Int.toNat_natCast]
    have p1 : PC (up g 4 t (LV h t)) t (LV h t) = PR h t (LV h t) := by rw [← PC_PR R (by omega)]; rfl
    have q1 : QC (up g 4 t (LV h t)) t (LV h t) = QR h t (LV h t) := by rw [← QC_QR R (by omega)]; rfl
    rw [p1, q1]
    refine ⟨_, rfl, ⟨c1, ?_, ?_, c4⟩, ?_, ?_⟩
    · intro j hj hv
      by_cases d : j = t
      · subst d; simp [up]
      · have := c2 j hj (by simpa [up, d] using hv)
        simpa [up, d] using this
    · intro j
      have := c3 j
      by_cases d : j = t
      · subst d; simp [up]; omega
      · simpa [up, d] using this
    · intro a ha
      funext b
      have a4 : a ≠ 4 := by omega
      have a5 : a ≠ 5 := by omega
      have a6 : a ≠ 6 := by omega
      have a7 : a ≠ 7 := by omega
      simp [up, a4, a5, a6, a7]
    · refine key t rfl _ (by simp [up]) (fun t2 z => ?_) (by simp [up]) (by simp [up]) (by simp [up])
      by_cases d : t2 = t
      · simp [up, d]
      · simpa [up, d] using z
def ARM (h : Mem) (lot : Nat) (s : Int) : Int := QR h s (LV h s) * HV h / PR h s (LV h s) - MW h lot s
theorem push_pos {h : Mem} {s : Int} (f : Fl h s) : HV h ≤ PR h s (LV h s) := bis_ge _ _ _ (by omega) (by decide) f.2
theorem quo_bd {h : Mem} (B : HB h) (C : CB h) {s : Int} (hs : -80 ≤ s ∧ s ≤ 80) (f : Fl h s) : -24000000 ≤ QR h s (LV h s) * HV h / PR h s (LV h s) ∧ QR h s (LV h s) * HV h / PR h s (LV h s) ≤ 24000000 := by
  have b := HV_bd C
  have p := push_pos f
  have p2 := PR_bd B s (LV h s)
  have q := QR_bd B (LV h s) hs
  have f1 := f.1
  generalize PR h s (LV h s) = P at *
  generalize QR h s (LV h s) = Q at *
  generalize HV h = V at *
  have m := mb (x := Q) (y := V) (A := 3320 * P) (B := 7200) (by omega) (by omega) (by omega) (by omega)
  have e : 3320 * P * 7200 = 23904000 * P := by omega
  rw [e] at m
  constructor
  · exact (Int.le_ediv_iff_mul_le (by omega)).2 (by omega)
  · have : Q * V / P < 24000001 := (Int.ediv_lt_iff_lt_mul (by omega)).2 (by omega)
    omega
theorem ARM_bd {h : Mem} (B : HB h) (C : CB h) {lot : Nat} (P : PlB h lot) {s : Int} (hs : -80 ≤ s ∧ s ≤ 80) (f : Fl h s) : -64000000 ≤ ARM h lot s ∧ ARM h lot s ≤ 64000000 := by
  have a := mw_bd C P hs
  have b := quo_bd B C hs f
  unfold ARM; omega
theorem qv_bd {h : Mem} (B : HB h) (C : CB h) {s : Int} (hs : -80 ≤ s ∧ s ≤ 80) : -1000000000000 ≤ QR h s (LV h s) * HV h ∧ QR h s (LV h s) * HV h ≤ 1000000000000 := by
  have b := HV_bd C
  have p2 := PR_bd B s (LV h s)
  have q := QR_bd B (LV h s) hs
  have m := mb (x := QR h s (LV h s)) (y := HV h) (A := 71712000) (B := 7200) (by omega) (by omega) (by omega) (by omega)
  omega
theorem armX_e {g h : Mem} (C : CB h) (R : RHull g h) (rc : RC g h) (rg : RCargo g h) {q lot : Nat} (hq : ∀ j, j < 12 → g q j = h 18 (12 * lot + j)) (P : PlB h lot) {s : Int} (hs : -80 ≤ s ∧ s ≤ 80) (f : Fl h s) (e5 : g 5 s.natAbs = PR h s (LV h s)) (e6 : 0 ≤ s → g 6 s.natAbs = QR h s (LV h s)) (e6n : s < 0 → -g 6 s.natAbs = QR h s (LV h s)) : fX11_armAt q s g = some (ARM h lot s) := by
  have b := HV_bd C
  have p := push_pos f
  have p2 := PR_bd R.1 s (LV h s)
  have q2 := QR_bd R.1 (LV h s) hs
  have f1 := f.1
  have qv := qv_bd R.1 C hs
  have mw := mw_bd C P hs
  have hp : fX3_pushAt s g = some (PR h s (LV h s)) := by
    unfold fX3_pushAt; rw [mAbs_e (by omega)]
    simp (disch := omega) only [if_true, if_false, if_pos, if_neg, wr_0, wr_id, gd_i, bnd_e, bd_s, bd2_s, jn_e, Int.toNat_natCast]
    rw [e5]
  have hm : fX3_momentAt s g = some (QR h s (LV h s)) := by
    unfold fX3_momentAt; rw [mAbs_e (by omega)]
    by_cases c : 0 ≤ s
    · simp (disch := omega) only [if_true, if_false, if_pos, if_neg, wr_0, wr_id, gd_i, bnd_e, bd_s, bd2_s, jn_e, Int.toNat_natCast]
      rw [e6 c]
    · simp (disch := omega) only [if_true, if_false, if_pos, if_neg, wr_0, wr_id, gd_i, bnd_e, bd_s, bd2_s, jn_e, Int.toNat_natCast]
      rw [e6n (by omega)]
  unfold fX11_armAt
  rw [hp, hm, moment_e rg hq hs, rg.2.2.2.2.2.2.2.2.2.2.2]
  simp (disch := omega) only [if_true, if_false, if_pos, if_neg, wr_0, wr_id, gd_i, bnd_e, bd_s, bd2_s, jn_e, Int.toNat_natCast]
  rw [lfdiv_e (by omega) (by omega)]
  simp (disch := omega) only [if_true, if_false, if_pos, if_neg, wr_0, wr_id, gd_i, bnd_e, bd_s, bd2_s, jn_e, Int.toNat_natCast]
  rfl
theorem armM_e {h : Mem} (B : HB h) (C : CB h) {lot : Nat} (hlot : lot < 2) (P : PlB h lot) {s : Int} (hs : -80 ≤ s ∧ s ≤ 80) (f : Fl h s) : fX12_armAt lot s (wm h (PR h s (LV h s)) (QR h s (LV h s))) = some (ARM h lot s) := by
  have b := HV_bd C
  have p := push_pos f
  have p2 := PR_bd B s (LV h s)
  have q2 := QR_bd B (LV h s) hs
  have f1 := f.1
  have qv := qv_bd B C hs
  have b1 := C.1
  have b2 := C.2.1
  generalize hw : wm h (PR h s (LV h s)) (QR h s (LV h s)) = h'
  have C' : CB h' := by rw [← hw]; exact C
  have P' : PlB h' lot := by rw [← hw]; exact P
  have e1 : HV h' = HV h := by rw [← hw]; rfl
  have e2 : h' 0 67 = QR h s (LV h s) := by rw [← hw]; rfl
  have e3 : h' 0 66 = PR h s (LV h s) := by rw [← hw]; rfl
  have e4 : MW h' lot s = MW h lot s := by rw [← hw]; rfl
  unfold fX12_armAt
  rw [heavy_e C', e1, e2, e3]
  simp (disch := omega) only [if_true, if_false, if_pos, if_neg, wr_0, wr_id, gd_i, bnd_e, bd_s, bd2_s, jn_e, Int.toNat_natCast]
  rw [floor_e (by omega) (by omega)]
  simp (disch := omega) only [if_true, if_false, if_pos, if_neg, wr_0, wr_id, gd_i, bnd_e, bd_s, bd2_s, jn_e, Int.toNat_natCast]
  have b1' := C'.1
  have b2' := C'.2.1
  rw [show (0 : Int) = ((0 : Nat) : Int) from rfl, arm1_e C' hlot P' hs _ (h' 0 4).toNat fuel 0 _ (by omega) (by rw [fuel_s]; omega), arm2_e C' hs (h' 0 10).toNat fuel 0 _ (by omega) (by rw [fuel_s]; omega)]
  unfold ARM; rw [← e4]; unfold MW; congr 1; omega
