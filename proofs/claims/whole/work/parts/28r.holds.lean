/-! a CLAUSE held against a body: the whole call -/
def nmf (a0 a1 a2 a3 a4 a5 a6 : Int) (j : Nat) : Int := if j = 0 then a0 else if j = 1 then a1 else if j = 2 then a2 else if j = 3 then a3 else if j = 4 then a4 else if j = 5 then a5 else a6
theorem nm7 {f : Nat → Int} {a0 a1 a2 a3 a4 a5 a6 : Int} (h0 : f 0 = a0) (h1 : f 1 = a1) (h2 : f 2 = a2) (h3 : f 3 = a3) (h4 : f 4 = a4) (h5 : f 5 = a5) (h6 : f 6 = a6) : ∀ j, j < 7 → f j = nmf a0 a1 a2 a3 a4 a5 a6 j := by
  intro j hj
  match j, hj with
  | 0, _ => exact h0
  | 1, _ => exact h1
  | 2, _ => exact h2
  | 3, _ => exact h3
  | 4, _ => exact h4
  | 5, _ => exact h5
  | 6, _ => exact h6
theorem nm7b {a0 a1 a2 a3 a4 a5 a6 : Int} (h0 : MB a0) (h1 : MB a1) (h2 : MB a2) (h3 : MB a3) (h4 : MB a4) (h5 : MB a5) (h6 : MB a6) : ∀ j, j < 7 → MB (nmf a0 a1 a2 a3 a4 a5 a6 j) := by
  intro j hj
  match j, hj with
  | 0, _ => exact h0
  | 1, _ => exact h1
  | 2, _ => exact h2
  | 3, _ => exact h3
  | 4, _ => exact h4
  | 5, _ => exact h5
  | 6, _ => exact h6
theorem clause_r {r b lot c t : Nat} (hr : r = 47 ∨ r = 52) (hb : (b = 24 ∧ lot = 0) ∨ (b = 28 ∧ lot = 1)) (hc : c < 2) (ht : t < 600) {g h : Mem} {T : Int} (hT : 0 ≤ T ∧ T ≤ 600) (hC : RCargo g h) (hM : RMarks g h) (hW : RWaves g h) (hact : (g 0 12).toNat = r) (hU : RCl r g h c) (hB : RBody b lot T g h) (hnow : g b 3 = (t : Int)) : ∃ g' h' v, fX11_clauseHolds b c g = some (v, g') ∧ fX12_isSo c lot t h = some (v, h') ∧ (v = 0 ∨ v = 1) ∧ (∀ a, a ≠ 46 → a ≠ 49 → a ≠ 54 → g' a = g a) ∧ (∀ a, a ≠ 47 → a ≠ 48 → h' a = h a) := by
  obtain ⟨q1, q2, q3, q4, q5, q6, q7, q8, q9, q10, q11, q12, q13, q14⟩ := hB
  obtain ⟨u1, u2, u3⟩ := hU
  have hlot : lot < 2 := by omega
  have m1 := hM.1
  have b1 := hC.1.1
  have hb46 : b ≠ 46 ∧ b + 1 ≠ 46 := by omega
  have dc : ∀ k : Option (Int × Mem), gd (c : Int) 2 k = k := fun k => gd_i (by omega) (by omega) (by omega)
  have rcc : IR (c : Int) := by unfold IR; omega
  unfold fX11_clauseHolds fX12_isSo
  rw [hact, bnd_e, gc_of hr, dc, wr_id rcc.1 rcc.2, Int.toNat_natCast]
  have hhas : ∀ G : Mem, G (r + 3) = g (r + 3) → G (r + 4) = g (r + 4) → fX7_has r c G = some (if g (r + 4) c ≤ g (r + 3) c then 0 else 1) := by
    intro G e3 e4
    unfold fX7_has
    rw [e3, e4]
    by_cases z : g (r + 4) c ≤ g (r + 3) c
    · simp (disch := omega) only [if_true, if_false, if_pos, if_neg, wr_0, wr_id, gd_i, bnd_e, bd_s, bd2_s, jn_e, Int.toNat_natCast, if_pos z]
    · simp (disch := omega) only [if_true, if_false, if_pos, if_neg, wr_0, wr_id, gd_i, bnd_e, bd_s, bd2_s, jn_e, Int.toNat_natCast, if_neg z]
  rw [hhas g rfl rfl, bd_s]
  rcases u3 with ⟨e1, e2⟩ | ⟨e1, e2, e3, e4, e5⟩
  · rw [if_pos e2, if_pos (show wr 0 = 0 from rfl), if_pos (show wr (h 43 c) = -1 by rw [e1]; decide)]
    exact ⟨g, h, 1, rfl, rfl, .inr rfl, fun _ _ _ _ => rfl, fun _ _ _ => rfl⟩
  · rw [if_neg (show ¬ g (r + 4) c ≤ g (r + 3) c by omega), if_neg (show ¬ wr 1 = 0 by decide), if_neg (show ¬ wr (h 43 c) = -1 by rw [e1, wr_id (by omega) (by omega)]; omega)]
    have sb := SEA_bd hW t
    have mvb := MV_bd hC.1 lot
    obtain ⟨wc1, wc2, wc3⟩ := wet_cnt (g := g) (b := b) m1 q12 q13 q14
    obtain ⟨F, hF, hF2⟩ := fuel_g
    have t0 : Int.toNat 0 = 0 := rfl
    have t1 : Int.toNat 1 = 1 := rfl
    have t2 : Int.toNat 2 = 2 := rfl
    have t3 : Int.toNat 3 = 3 := rfl
    have t4 : Int.toNat 4 = 4 := rfl
    have t5 : Int.toNat 5 = 5 := rfl
    have t6 : Int.toNat 6 = 6 := rfl
    have ug : ∀ (j : Nat) (v : Int), up g 46 j v = sr g 46 (fun b => if b = j then v else g 46 b) := fun j v => up_sr g 46 j v
    have uh : ∀ (j : Nat) (v : Int), up h 47 j v = sr h 47 (fun b => if b = j then v else h 47 b) := fun j v => up_sr h 47 j v
    have sg : ∀ f, sr g 46 f b = g b := fun f => sr_ne hb46.1
    have sp : ∀ f, fX10_pushIn (t : Int) (sr g 46 f) = some (SEA h t) := fun f => pushX_e (show RWaves (sr g 46 f) h from hW) ht
    have sm_ : ∀ f, fX1_countMoved (b + 1) (sr g 46 f) = some (MV h lot) := fun f => moved_e (show RCargo (sr g 46 f) h from hC) (by rw [sr_ne hb46.2]; exact q10) q11
    have s19 : ∀ f, sr h 47 f 19 = h 19 := fun _ => rfl
    have s20 : ∀ f, sr h 47 f 20 = h 20 := fun _ => rfl
    have s21 : ∀ f, sr h 47 f 21 = h 21 := fun _ => rfl
    have ss : ∀ f, fX12_seaIn (t : Int) (sr h 47 f) = some (SEA h t) := fun f => seaIn_e (show RWaves g (sr h 47 f) from hW) (by omega)
    have s012 : ∀ f, (sr g 46 f 0 12).toNat = r := fun _ => hact
    have gr : ∀ k : Option (Int × Mem), gc (r = 47 ∨ r = 52) k = k := fun k => gc_of hr
    have dl : ∀ k : Option (Int × Mem), gd (lot : Int) 2 k = k := fun k => gd_i (by omega) (by omega) (by omega)
    have rl : IR (lot : Int) := by unfold IR; omega
    have i0 : IR 0 := by unfold IR; omega
    have i1 : IR 1 := by unfold IR; omega
    have i2 : IR 2 := by unfold IR; omega
    have i3 : IR 3 := by unfold IR; omega
    have i4 : IR 4 := by unfold IR; omega
    have i5 : IR 5 := by unfold IR; omega
    have i6 : IR 6 := by unfold IR; omega
    have g70 : ∀ k : Option (Int × Mem), gd 0 7 k = k := fun k => gd_i (by omega) (by omega) (by omega)
    have g71 : ∀ k : Option (Int × Mem), gd 1 7 k = k := fun k => gd_i (by omega) (by omega) (by omega)
    have g72 : ∀ k : Option (Int × Mem), gd 2 7 k = k := fun k => gd_i (by omega) (by omega) (by omega)
    have g73 : ∀ k : Option (Int × Mem), gd 3 7 k = k := fun k => gd_i (by omega) (by omega) (by omega)
    have g74 : ∀ k : Option (Int × Mem), gd 4 7 k = k := fun k => gd_i (by omega) (by omega) (by omega)
    have g75 : ∀ k : Option (Int × Mem), gd 5 7 k = k := fun k => gd_i (by omega) (by omega) (by omega)
    have g76 : ∀ k : Option (Int × Mem), gd 6 7 k = k := fun k => gd_i (by omega) (by omega) (by omega)
    simp only [bnd_e, bd_s, g70, g71, g72, g73, g74, g75, g76, wr_id i0.1 i0.2, wr_id i1.1 i1.2, wr_id i2.1 i2.2, wr_id i3.1 i3.2, wr_id i4.1 i4.2, wr_id i5.1 i5.2, wr_id i6.1 i6.2, t0, t1, t2, t3, t4, t5, t6, ug, uh, sr_up, sg, hnow, sp, wc1, sm_, s012, gr, dl, wr_id rl.1 rl.2, Int.toNat_natCast, s19, s20, s21, ss, hF]
    generalize hfX : (fun b_1 => if b_1 = 6 then MV h lot else if b_1 = 5 then sm (fun m => h 24 (6 * lot + m)) 0 (h 0 15).toNat else if b_1 = 4 then SEA h t else if b_1 = 3 then g b 7 else if b_1 = 2 then (t : Int) else if b_1 = 1 then g b 5 else if b_1 = 0 then g b 4 else g 46 b_1) = fX
    generalize hfM : (fun b_1 => if b_1 = 6 then 0 else if b_1 = 5 then 0 else if b_1 = 4 then SEA h t else if b_1 = 3 then h 21 lot else if b_1 = 2 then (t : Int) else if b_1 = 1 then h 20 lot else if b_1 = 0 then h 19 lot else h 47 b_1) = fM
    have e84 : ∀ K, fX12_isSo_L84 F c lot 0 (sr h 47 fM) K = K c lot (sr h 47 (fun b => if b = 5 then fM 5 + sm (fun m => h 24 (6 * lot + m)) 0 (h 0 15).toNat else fM b)) := fun K => so84_e m1 rfl hlot q12 c K (h 0 15).toNat F 0 fM (by omega) (by omega)
    rw [e84]
    have e131 : ∀ f K, fX12_isSo_L131 F c lot 0 (sr h 47 f) K = K c (sr h 47 (fun b => if b = 6 then f 6 + sm (mv1 h lot) 0 (h 0 4).toNat else f b)) := fun f K => so131_e hC.1 hlot q11 c K (h 0 4).toNat F 0 f (by omega) (by omega)
    rw [e131]
    simp only [dc, wr_id rcc.1 rcc.2, Int.toNat_natCast]
    generalize hfN : (fun b_1 => if b_1 = 6 then (if 6 = 5 then fM 5 + sm (fun m => h 24 (6 * lot + m)) 0 (h 0 15).toNat else fM 6) + sm (mv1 h lot) 0 (h 0 4).toNat else if b_1 = 5 then fM 5 + sm (fun m => h 24 (6 * lot + m)) 0 (h 0 15).toNat else fM b_1) = fN
    have nX := nm7 (f := fX) (a0 := h 19 lot) (a1 := h 20 lot) (a2 := (t : Int)) (a3 := h 21 lot) (a4 := SEA h t) (a5 := sm (fun m => h 24 (6 * lot + m)) 0 (h 0 15).toNat) (a6 := MV h lot) (by rw [← hfX]; exact q2) (by rw [← hfX]; exact q4) (by rw [← hfX]; rfl) (by rw [← hfX]; exact q6) (by rw [← hfX]; rfl) (by rw [← hfX]; rfl) (by rw [← hfX]; rfl)
    have nN := nm7 (f := fN) (a0 := h 19 lot) (a1 := h 20 lot) (a2 := (t : Int)) (a3 := h 21 lot) (a4 := SEA h t) (a5 := sm (fun m => h 24 (6 * lot + m)) 0 (h 0 15).toNat) (a6 := MV h lot) (by rw [← hfN, ← hfM]; rfl) (by rw [← hfN, ← hfM]; rfl) (by rw [← hfN, ← hfM]; rfl) (by rw [← hfN, ← hfM]; rfl) (by rw [← hfN, ← hfM]; rfl) (by rw [← hfN, ← hfM]; simp) (by rw [← hfN, ← hfM]; simp [MV])
    have nB := nm7b (a0 := h 19 lot) (a1 := h 20 lot) (a2 := (t : Int)) (a3 := h 21 lot) (a4 := SEA h t) (a5 := sm (fun m => h 24 (6 * lot + m)) 0 (h 0 15).toNat) (a6 := MV h lot) (by unfold MB; omega) (by unfold MB; omega) (by unfold MB; omega) (by unfold MB; omega) (by unfold MB; omega) (by unfold MB; omega) (by unfold MB; omega)
    obtain ⟨fr0, hfr⟩ : ∃ fr0 : Nat, g (r + 3) c = fr0 := ⟨(g (r + 3) c).toNat, by omega⟩
    obtain ⟨k0, hk0⟩ : ∃ k0 : Nat, (fr0 : Int) + k0 = g (r + 4) c := ⟨(g (r + 4) c - fr0).toNat, by omega⟩
    have r46 : r + 1 ≠ 46 ∧ r + 2 ≠ 46 ∧ r + 3 ≠ 46 ∧ r + 4 ≠ 46 := by omega
    have e5' : tyr (h 41) fr0 k0 [] = some [true] := by
      rw [e1, e2, show (g (r + 3) c).toNat = fr0 by omega, show (g (r + 4) c - g (r + 3) c).toNat = k0 by omega] at e5; exact e5
    have k0F : k0 < F := by omega
    have to300 : g (r + 4) c ≤ 300 := u2.2
    obtain ⟨g', h', p1, p2, p3, p4, p5, p6⟩ := run_e (r := r) hr (c := c) hc (nm := nmf (h 19 lot) (h 20 lot) (t : Int) (h 21 lot) (SEA h t) (sm (fun m => h 24 (6 * lot + m)) 0 (h 0 15).toNat) (MV h lot)) (X := g (r + 1)) (D := h 41) (Wt := h 42) nB to300 (fun (z_39 : Int) (g_40 : Mem) => if wr z_39 ≤ 0 then (some (0, g_40)) else (gd (z_39 - 1) 32 <| if wr (g_40 (r + 2) (wr (z_39 - 1)).toNat) = 1 then (some (1, g_40)) else (some (0, g_40)))) (fun g_75 => gd 0 300 (if wr (g_75 48 0) = 0 then some (0, g_75) else some (1, g_75))) k0 F F fr0 [] (sr g 46 fX) (sr h 47 fN) hk0 k0F k0F (by rw [sr_ne r46.2.2.2]) e2 (by rw [sr_ne r46.1]) rfl rfl (fun j h1 h2 => e4 j (by omega) h2) (fun j hj => ⟨by rw [sr_at]; exact nX j hj, by rw [sr_at]; exact nN j hj⟩) trivial (fun j hj => absurd hj (Nat.not_lt_zero j)) (Nat.zero_le _) e5'
    have q1' : fX7_isTrue r c (sr g 46 fX) = some (h' 48 0, g') := by
      unfold fX7_isTrue
      rw [hhas (sr g 46 fX) (sr_ne r46.2.2.1) (sr_ne r46.2.2.2), bd_s, if_neg (show ¬ g (r + 4) c ≤ g (r + 3) c by omega), if_neg (show ¬ wr 1 = 0 by decide), dc, bnd_e, sr_ne r46.2.2.1, wr_id rcc.1 rcc.2, Int.toNat_natCast, hfr, hF]
      refine Eq.trans p1 ?_
      rw [if_neg (show ¬ wr 1 ≤ 0 by decide), show (1 : Int) - 1 = 0 from rfl, gd_i (by omega) (by omega) (by omega), show (wr 0).toNat = 0 from rfl, p3]
      rcases p4 with z | z
      · rw [z]; rfl
      · rw [z]; rfl
    have q2' : fX12_isSo_L204 F c 0 (sr h 47 fN 43 c) (sr h 47 fN) (fun g_75 => gd 0 300 (if wr (g_75 48 0) = 0 then some (0, g_75) else some (1, g_75))) = some (h' 48 0, h') := by
      rw [show sr h 47 fN 43 c = (fr0 : Int) from e1.trans hfr]
      refine Eq.trans p2 ?_
      rw [gd_i (by omega) (by omega) (by omega)]
      rcases p4 with z | z
      · rw [z]; rfl
      · rw [z]; rfl
    refine ⟨g', h', h' 48 0, ?_, q2', p4, fun a z1 z2 z3 => ?_, fun a z1 z2 => ?_⟩
    · rw [q1', bd2_s, gc_of p4]
    · rw [p5 a (by omega), sr_ne z1]
    · rw [p6 a z2, sr_ne z1]
theorem clause_e {b lot c t : Nat} (hb : (b = 24 ∧ lot = 0) ∨ (b = 28 ∧ lot = 1)) (hc : c < 2) (ht : t < 600) {g h : Mem} {T : Int} (hT : 0 ≤ T ∧ T ≤ 600) (hC : RCargo g h) (hM : RMarks g h) (hW : RWaves g h) (hU : RRules g h) (hB : RBody b lot T g h) (hnow : g b 3 = (t : Int)) : ∃ g' h' v, fX11_clauseHolds b c g = some (v, g') ∧ fX12_isSo c lot t h = some (v, h') ∧ (v = 0 ∨ v = 1) ∧ (∀ a, a ≠ 46 → a ≠ 49 → a ≠ 54 → g' a = g a) ∧ (∀ a, a ≠ 47 → a ≠ 48 → h' a = h a) := by
  have cc : c = 0 ∨ c = 1 := by omega
  rcases hU with ⟨e1, e2, e3, e4⟩ | ⟨e1, e2, e3, e4⟩
  · refine clause_r (r := 47) (.inl rfl) hb hc ht hT hC hM hW (by rw [e1]; rfl) ?_ hB hnow
    rcases cc with rfl | rfl
    · exact e3
    · exact e4
  · refine clause_r (r := 52) (.inr rfl) hb hc ht hT hC hM hW (by rw [e1]; rfl) ?_ hB hnow
    rcases cc with rfl | rfl
    · exact e3
    · exact e4
