/-! TEXT fed -/
theorem RR_txt {n : Nat} {g h g' h' : Mem} (R : RR n g h) (G : ∀ a, (0 < a ∧ a < 37) ∨ (40 < a ∧ a < 46) → g' a = g a) (G0 : ∀ b, 14 ≤ b → g' 0 b = g 0 b) (H : ∀ a, 0 < a ∧ a < 35 → h' a = h a) (H0 : ∀ b, b < 48 → h' 0 b = h 0 b) (T : RText g' h') (U : RRules g' h') : RR n g' h' := by
  obtain ⟨hC, hM, hH, ⟨hR, hv⟩, hW, hS, hB, hD, hT, hU, hO, hP⟩ := R
  refine ⟨?_, ?_, ?_, ⟨?_, ?_⟩, ?_, ?_, ?_, ?_, T, U, ?_, ?_⟩
  · unfold RCargo CB HV hv1
    rw [G 8 (by omega), G 9 (by omega), G 10 (by omega), G 11 (by omega), G 12 (by omega), G 13 (by omega), G 14 (by omega), G 15 (by omega), G 16 (by omega), H0 4 (by omega), H0 10 (by omega), H 4 (by omega), H 5 (by omega), H 6 (by omega), H 7 (by omega), H 8 (by omega), H 9 (by omega), H 10 (by omega), H 11 (by omega), H 12 (by omega)]
    exact hC
  · unfold RMarks; rw [G 17 (by omega), G 18 (by omega), G 19 (by omega), H0 15 (by omega), H 13 (by omega), H 14 (by omega)]; exact hM
  · unfold RHull HB; rw [G 1 (by omega), G 2 (by omega), G 3 (by omega), H0 1 (by omega), H 2 (by omega), H 3 (by omega)]; exact hH
  · unfold RC LV PR QR HV hv1; rw [G 1 (by omega), G 4 (by omega), G 5 (by omega), G 6 (by omega), G 7 (by omega), H0 1 (by omega), H0 4 (by omega), H0 10 (by omega), H 2 (by omega), H 3 (by omega), H 4 (by omega), H 8 (by omega), H 12 (by omega)]; exact hR
  · rw [G 1 (by omega)]; exact hv
  · unfold RWaves; rw [G 20 (by omega), G 21 (by omega), G 22 (by omega), G 23 (by omega), H0 18 (by omega), H 1 (by omega), H 15 (by omega), H 16 (by omega), H 17 (by omega)]; exact hW
  · unfold RSet; rw [G0 14 (by omega), G0 15 (by omega), G0 16 (by omega), G0 17 (by omega), H0 22 (by omega), H0 23 (by omega), H0 24 (by omega), H0 25 (by omega)]; exact hS
  · unfold RShip RBody PlB WT; rw [G 24 (by omega), G (24 + 1) (by omega), G 26 (by omega), G 27 (by omega), H0 26 (by omega), H0 15 (by omega), H 18 (by omega), H 19 (by omega), H 20 (by omega), H 21 (by omega), H 22 (by omega), H 23 (by omega), H 24 (by omega), H 25 (by omega), H 26 (by omega)]; exact hB
  · unfold RDiary; rw [G 33 (by omega), G 34 (by omega), G 35 (by omega), G 36 (by omega), H0 26 (by omega), H 27 (by omega), H 28 (by omega), H 29 (by omega), H 30 (by omega), H 31 (by omega)]; exact hD
  · unfold RRoute RtB qs QS; rw [G 41 (by omega), G 42 (by omega), G 43 (by omega), H0 41 (by omega), H0 44 (by omega), H 32 (by omega), H 33 (by omega)]; exact hO
  · unfold RTape; rw [G 44 (by omega), G 45 (by omega), H0 45 (by omega), H 34 (by omega)]; exact hP
theorem iShr_e {a : Int} (ha : IR a) {s : Int} {k : Nat} (hs : (Int32.ofInt s &&& 31).toBitVec.smod 32 = BitVec.ofNat 32 k) (hk : k < 32) : iShr a s = wr (a / ((2 ^ k : Nat) : Int)) := by
  unfold iShr
  rw [← Int32.toInt_toBitVec, Int32.toBitVec_shiftRight, hs]
  show (BitVec.ofInt 32 ((Int32.ofInt a).toBitVec.toInt >>> (BitVec.ofNat 32 k).toNat)).toInt = _
  rw [BitVec.toInt_ofInt, BitVec.toNat_ofNat, Nat.mod_eq_of_lt (by omega), Int32.toInt_toBitVec, ti, wr_id ha.1 ha.2, Int.shiftRight_eq_div_pow]
  rfl
theorem byte_e {a : Int} {s : Int} {k : Nat} (hs : ((Int32.ofInt s).toUInt32 &&& Int32.toUInt32 31) = UInt32.ofNat k) (hk : k < 32) : iAnd (iUshr a s) 255 = a % 4294967296 / ((2 ^ k : Nat) : Int) % 256 := by
  unfold iAnd iUshr
  rw [oi, hs, ← Int32.toInt_toBitVec, BitVec.toInt_eq_toNat_bmod, Int32.toBitVec_and, BitVec.toNat_and]
  show (((((Int32.ofInt a).toUInt32 >>> UInt32.ofNat k).toNat &&& (BitVec.ofInt 32 255).toNat : Nat) : Int)).bmod _ = _
  rw [UInt32.toNat_shiftRight, show (UInt32.ofNat k).toNat = k from by rw [UInt32.toNat_ofNat']; omega, Nat.mod_eq_of_lt hk, Nat.shiftRight_eq_div_pow]
  rw [show (BitVec.ofInt 32 255).toNat = 2 ^ 8 - 1 from by decide, Nat.and_two_pow_sub_one_eq_mod]
  rw [show (Int32.ofInt a).toUInt32.toNat = (a % 4294967296).toNat from by show (BitVec.ofInt 32 a).toNat = _; rw [BitVec.toNat_ofInt]; rfl]
  have hx : 0 ≤ a % 4294967296 := by omega
  generalize a % 4294967296 = x at *
  obtain ⟨m, rfl⟩ : ∃ m : Nat, x = m := ⟨x.toNat, by omega⟩
  rw [Int.toNat_natCast, ← Int.natCast_ediv]
  generalize m / 2 ^ k = y
  rw [Int.bmod_def]; omega
theorem w8_m (x : Int) : w8 (w8 x) % 256 = x % 256 ∧ -128 ≤ w8 (w8 x) ∧ w8 (w8 x) ≤ 127 := by
  unfold w8; rw [Int.bmod_def, Int.bmod_def]; split <;> split <;> omega
theorem same_byte {a : Int} (ha : IR a) (j : Nat) (hj : j < 4) : iAnd (iUshr a (24 - 8 * (j : Int))) 255 = w8 (w8 (iShr a (24 - 8 * (j : Int)))) % 256 := by
  rw [(w8_m _).1]
  have ha' := ha
  unfold IR at ha'
  rcases (by omega : j = 0 ∨ j = 1 ∨ j = 2 ∨ j = 3) with rfl | rfl | rfl | rfl
  · rw [show (24 - 8 * ((0 : Nat) : Int)) = 24 from rfl, byte_e (k := 24) (by decide) (by omega), iShr_e ha (k := 24) (by decide) (by omega)]
    unfold wr; rw [Int.bmod_def, show (((2 ^ 24 : Nat)) : Int) = 16777216 from rfl]; omega
  · rw [show (24 - 8 * ((1 : Nat) : Int)) = 16 from rfl, byte_e (k := 16) (by decide) (by omega), iShr_e ha (k := 16) (by decide) (by omega)]
    unfold wr; rw [Int.bmod_def, show (((2 ^ 16 : Nat)) : Int) = 65536 from rfl]; omega
  · rw [show (24 - 8 * ((2 : Nat) : Int)) = 8 from rfl, byte_e (k := 8) (by decide) (by omega), iShr_e ha (k := 8) (by decide) (by omega)]
    unfold wr; rw [Int.bmod_def, show (((2 ^ 8 : Nat)) : Int) = 256 from rfl]; omega
  · rw [show (24 - 8 * ((3 : Nat) : Int)) = 0 from rfl, byte_e (k := 0) (by decide) (by omega), iShr_e ha (k := 0) (by decide) (by omega)]
    unfold wr; rw [Int.bmod_def, show (((2 ^ 0 : Nat)) : Int) = 1 from rfl]; omega
def TF (g g' : Mem) : Prop := ∀ a, a ≠ 37 → a ≠ 38 → g' a = g a
def TH (h h' : Mem) : Prop := (∀ a, a ≠ 0 → a ≠ 35 → h' a = h a) ∧ ∀ b, b ≠ 48 → h' 0 b = h 0 b
theorem put_e {g h : Mem} (T : RText g h) (hl : h 0 48 < 300) {b b' : Int} (hb : b = b' % 256) (hb2 : -128 ≤ b' ∧ b' ≤ 127) : RText (up (up g 38 (h 0 48).toNat b) 37 1 (h 0 48 + 1)) (up (up h 35 (h 0 48).toNat b') 0 48 (h 0 48 + 1)) ∧ TF g (up (up g 38 (h 0 48).toNat b) 37 1 (h 0 48 + 1)) ∧ TH h (up (up h 35 (h 0 48).toNat b') 0 48 (h 0 48 + 1)) := by
  obtain ⟨t1, t2, t3, t4⟩ := T
  refine ⟨⟨?_, ?_, up_bd t3 hb2, ?_⟩, ?_, ?_, ?_⟩
  · show 0 ≤ h 0 48 + 1 ∧ h 0 48 + 1 ≤ 300; omega
  · rfl
  · intro j
    by_cases c : j = (h 0 48).toNat
    · simp [up, c, hb]
    · have := t4 j; simpa [up, c] using this
  · intro a h1 h2; funext j; simp [up, h1, h2]
  · intro a h1 h2; funext j; simp [up, h1, h2]
  · intro b hb; simp [up, hb]
def sl (w : Nat) (y1 y2 y3 y4 y5 : Int) : Int := if w = 0 then y1 else if w = 1 then y2 else if w = 2 then y3 else if w = 3 then y4 else y5
theorem feed_step {y1 y2 y3 y4 y5 : Int} {K : Mem → Option (Int × Mem)} {w j N : Nat} (hw : w < 5) (hj : j < 4) {h : Mem} (hl : 0 ≤ h 0 48 ∧ h 0 48 < 300) : fX12_feed_L18 (N + 1) y1 y2 y3 y4 y5 ((4 * w + j : Nat) : Int) h K = fX12_feed_L18 N y1 y2 y3 y4 y5 ((4 * w + (j + 1) : Nat) : Int) (up (up h 35 (h 0 48).toNat (w8 (w8 (iShr (sl w y1 y2 y3 y4 y5) (24 - 8 * (j : Int)))))) 0 48 (h 0 48 + 1)) K := by
  rw [fX12_feed_L18]
  have et : Int.tmod (wr ((4 * w + j : Nat) : Int)) 4 = (j : Int) := by
    rw [wr_id (by omega) (by omega), Int.tmod_eq_emod_of_nonneg (by omega)]; omega
  have e1 : ((4 * w + j : Nat) : Int) + 1 = ((4 * w + (j + 1) : Nat) : Int) := by omega
  have ew : wr ((4 * w + j : Nat) : Int) = ((4 * w + j : Nat) : Int) := wr_id (by omega) (by omega)
  have el : wr (h 0 48) = h 0 48 := wr_id (by omega) (by omega)
  have eg : ∀ k : Option (Int × Mem), gd (h 0 48) 300 k = k := fun k => gd_i (by omega) (by omega) (by omega)
  rw [et, e1, ew, el]
  simp only [eg, bnd_e, jn_e]
  have x20 : ¬ 20 ≤ ((4 * w + j : Nat) : Int) := by omega
  rw [if_neg x20]
  rcases (by omega : w = 0 ∨ w = 1 ∨ w = 2 ∨ w = 3 ∨ w = 4) with rfl | rfl | rfl | rfl | rfl
  · have x4 : ¬ 4 ≤ ((4 * 0 + j : Nat) : Int) := by omega
    rw [if_neg x4]; rfl
  · have x4 : 4 ≤ ((4 * 1 + j : Nat) : Int) := by omega
    have x8 : ¬ 8 ≤ ((4 * 1 + j : Nat) : Int) := by omega
    rw [if_pos x4, if_neg x8]; rfl
  · have x4 : 4 ≤ ((4 * 2 + j : Nat) : Int) := by omega
    have x8 : 8 ≤ ((4 * 2 + j : Nat) : Int) := by omega
    have x12 : ¬ 12 ≤ ((4 * 2 + j : Nat) : Int) := by omega
    rw [if_pos x4, if_pos x8, if_neg x12]; rfl
  · have x4 : 4 ≤ ((4 * 3 + j : Nat) : Int) := by omega
    have x8 : 8 ≤ ((4 * 3 + j : Nat) : Int) := by omega
    have x12 : 12 ≤ ((4 * 3 + j : Nat) : Int) := by omega
    have x16 : ¬ 16 ≤ ((4 * 3 + j : Nat) : Int) := by omega
    rw [if_pos x4, if_pos x8, if_pos x12, if_neg x16]; rfl
  · have x4 : 4 ≤ ((4 * 4 + j : Nat) : Int) := by omega
    have x8 : 8 ≤ ((4 * 4 + j : Nat) : Int) := by omega
    have x12 : 12 ≤ ((4 * 4 + j : Nat) : Int) := by omega
    have x16 : 16 ≤ ((4 * 4 + j : Nat) : Int) := by omega
    rw [if_pos x4, if_pos x8, if_pos x12, if_pos x16]; rfl
/-- from byte j of a word to its end -/
theorem word_e {v : Int} (hv : IR v) (sel : Int → Int → Int → Int → Int → Nat → Int) (y1 y2 y3 y4 y5 : Int) (K : Mem → Option (Int × Mem)) (w : Nat) (hw : w < 5)
    (hsel : v = sl w y1 y2 y3 y4 y5) :
    ∀ (k N N2 j : Nat) (g h : Mem), j + k = 4 → k < N → RText g h → h 0 48 + k ≤ 300 → ∃ g' h', fX9_append_L3 N v (24 - 8 * (j : Int)) g = some g' ∧ fX12_feed_L18 (N2 + k) y1 y2 y3 y4 y5 ((4 * w + j : Nat) : Int) h K = fX12_feed_L18 N2 y1 y2 y3 y4 y5 ((4 * w + 4 : Nat) : Int) h' K ∧ RText g' h' ∧ h' 0 48 = h 0 48 + k ∧ TF g g' ∧ TH h h' := by
  intro k
  induction k with
  | zero =>
    intro N N2 j g h hj hN T hl
    obtain ⟨N, rfl⟩ : ∃ m, N = m + 1 := ⟨N - 1, by omega⟩
    have : j = 4 := by omega
    subst this
    rw [fX9_append_L3]
    simp (disch := omega) only [if_true, if_false, if_pos, if_neg, wr_0, wr_id, gd_i, bnd_e, bd_s, bd2_s, jn_e, Int.toNat_natCast]
    exact ⟨g, h, rfl, rfl, T, by omega, fun _ _ _ => rfl, fun _ _ _ => rfl, fun _ _ => rfl⟩
  | succ k ih =>
    intro N N2 j g h hj hN T hl
    obtain ⟨N, rfl⟩ : ∃ m, N = m + 1 := ⟨N - 1, by omega⟩
    have t1 := T.1
    have t2 := T.2.1
    have hj4 : j < 4 := by omega
    have hl4 : 0 ≤ h 0 48 ∧ h 0 48 < 300 := by omega
    have wb := w8_m (iShr v (24 - 8 * (j : Int)))
    obtain ⟨q1, q2, q3⟩ := put_e T (by omega) (same_byte hv j (by omega)) ⟨wb.2.1, wb.2.2⟩
    obtain ⟨g', h', p1, p2, p3, p4, p5, p6⟩ := ih N N2 (j + 1) _ _ (by omega) (by omega) q1 (by show h 0 48 + 1 + _ ≤ 300; omega)
    refine ⟨g', h', ?_, ?_, p3, ?_, fun a h1 h2 => by rw [p5 a h1 h2, q2 a h1 h2], fun a h1 h2 => by rw [p6.1 a h1 h2, q3.1 a h1 h2], fun b hb => by rw [p6.2 b hb, q3.2 b hb]⟩
    · rw [fX9_append_L3]
      have u1 : ∀ x, up g 38 (h 0 48).toNat x 37 1 = h 0 48 := fun _ => t2
      have e1 : 24 - 8 * (j : Int) + -8 = 24 - 8 * ((j + 1 : Nat) : Int) := by omega
      simp (disch := omega) only [if_true, if_false, if_pos, if_neg, wr_0, wr_id, gd_i, bnd_e, bd_s, bd2_s, jn_e, Int.toNat_natCast, t2, u1, e1]
      exact p1
    · rw [show N2 + (k + 1) = (N2 + k) + 1 from rfl, feed_step hw hj4 hl4, ← hsel]
      exact p2
    · rw [p4]; show h 0 48 + 1 + (k : Int) = _; omega
theorem S_feed : Sim_feed RR := by
  intro n g h a0 a1 a2 a3 a4 hn R h0 h1 h2 h3 h4
  have keep : RR (n + 1) g h := RR_mono n (n + 1) g h (by omega) R
  obtain ⟨hC, hM, hH, ⟨hR, hv⟩, hW, hS, hB, hD, hT, hU, hO, hP⟩ := id R
  have t1 := hT.1
  have t2 := hT.2.1
  unfold fX11_feed fX12_feed fX9_hasRoom
  by_cases c : h 0 48 + 20 ≤ 300
  · obtain ⟨F, hF, hF2⟩ := fuel_g
    unfold fX9_append
    simp (disch := omega) only [if_true, if_false, if_pos, if_neg, wr_0, wr_id, gd_i, bnd_e, bd_s, bd2_s, jn_e, Int.toNat_natCast, t2, hF]
    obtain ⟨g1, k1, p1, p2, p3, p4, p5, p6⟩ := word_e h0 (fun _ _ _ _ _ _ => 0) a0 a1 a2 a3 a4 (fun (g_12 : Mem) => some (g_12 0 48, g_12)) 0 (by omega) rfl 4 F (F - 4) 0 g h (by omega) (by omega) hT (by omega)
    obtain ⟨g2, k2, q1, q2, q3, q4, q5, q6⟩ := word_e h1 (fun _ _ _ _ _ _ => 0) a0 a1 a2 a3 a4 (fun (g_12 : Mem) => some (g_12 0 48, g_12)) 1 (by omega) rfl 4 F (F - 8) 0 g1 k1 (by omega) (by omega) p3 (by omega)
    obtain ⟨g3, k3, r1, r2, r3, r4, r5, r6⟩ := word_e h2 (fun _ _ _ _ _ _ => 0) a0 a1 a2 a3 a4 (fun (g_12 : Mem) => some (g_12 0 48, g_12)) 2 (by omega) rfl 4 F (F - 12) 0 g2 k2 (by omega) (by omega) q3 (by omega)
    obtain ⟨g4, k4, s1, s2, s3, s4, s5, s6⟩ := word_e h3 (fun _ _ _ _ _ _ => 0) a0 a1 a2 a3 a4 (fun (g_12 : Mem) => some (g_12 0 48, g_12)) 3 (by omega) rfl 4 F (F - 16) 0 g3 k3 (by omega) (by omega) r3 (by omega)
    obtain ⟨g5, k5, u1, u2, u3, u4, u5, u6⟩ := word_e h4 (fun _ _ _ _ _ _ => 0) a0 a1 a2 a3 a4 (fun (g_12 : Mem) => some (g_12 0 48, g_12)) 4 (by omega) rfl 4 F (F - 20) 0 g4 k4 (by omega) (by omega) s3 (by omega)
    rw [show (24 - 8 * ((0 : Nat) : Int)) = 24 from rfl] at p1 q1 r1 s1 u1
    rw [show F - 4 + 4 = F by omega, show ((4 * 0 + 0 : Nat) : Int) = 0 from rfl] at p2
    rw [show F - 8 + 4 = F - 4 by omega] at q2
    rw [show F - 12 + 4 = F - 8 by omega] at r2
    rw [show F - 16 + 4 = F - 12 by omega] at s2
    rw [show F - 20 + 4 = F - 16 by omega] at u2
    rw [p1]
    simp (disch := omega) only [if_true, if_false, if_pos, if_neg, wr_0, wr_id, gd_i, bnd_e, bd_s, bd2_s, jn_e, Int.toNat_natCast]
    rw [q1]
    simp (disch := omega) only [if_true, if_false, if_pos, if_neg, wr_0, wr_id, gd_i, bnd_e, bd_s, bd2_s, jn_e, Int.toNat_natCast]
    rw [r1]
    simp (disch := omega) only [if_true, if_false, if_pos, if_neg, wr_0, wr_id, gd_i, bnd_e, bd_s, bd2_s, jn_e, Int.toNat_natCast]
    rw [s1]
    simp (disch := omega) only [if_true, if_false, if_pos, if_neg, wr_0, wr_id, gd_i, bnd_e, bd_s, bd2_s, jn_e, Int.toNat_natCast]
    rw [u1]
    simp (disch := omega) only [if_true, if_false, if_pos, if_neg, wr_0, wr_id, gd_i, bnd_e, bd_s, bd2_s, jn_e, Int.toNat_natCast]
    rw [p2, show (4 * 0 + 4 : Nat) = 4 * 1 + 0 from rfl, q2, show (4 * 1 + 4 : Nat) = 4 * 2 + 0 from rfl, r2, show (4 * 2 + 4 : Nat) = 4 * 3 + 0 from rfl, s2, show (4 * 3 + 4 : Nat) = 4 * 4 + 0 from rfl, u2]
    obtain ⟨F2, hF3⟩ : ∃ m, F - 20 = m + 1 := ⟨F - 21, by omega⟩
    rw [hF3, fX12_feed_L18]
    rw [show ((4 * 4 + 4 : Nat) : Int) = 20 from rfl, if_pos (by decide)]
    have gF : ∀ a, a ≠ 37 → a ≠ 38 → g5 a = g a := fun a x y => by rw [u5 a x y, s5 a x y, r5 a x y, q5 a x y, p5 a x y]
    have hF1 : ∀ a, a ≠ 0 → a ≠ 35 → k5 a = h a := fun a x y => by rw [u6.1 a x y, s6.1 a x y, r6.1 a x y, q6.1 a x y, p6.1 a x y]
    have hF0 : ∀ b, b ≠ 48 → k5 0 b = h 0 b := fun b x => by rw [u6.2 b x, s6.2 b x, r6.2 b x, q6.2 b x, p6.2 b x]
    refine ⟨_, _, _, _, rfl, rfl, ?_, RR_txt keep (fun a ha => gF a (by omega) (by omega)) (fun b _ => by rw [gF 0 (by omega) (by omega)]) (fun a ha => hF1 a (by omega) (by omega)) (fun b hb => hF0 b (by omega)) u3 ?_⟩
    · rw [u3.2.1]
    · unfold RRules RCl; rw [gF 0 (by omega) (by omega), gF (47 + 1) (by omega) (by omega), gF (47 + 3) (by omega) (by omega), gF (47 + 4) (by omega) (by omega), gF (52 + 1) (by omega) (by omega), gF (52 + 3) (by omega) (by omega), gF (52 + 4) (by omega) (by omega), hF1 41 (by omega) (by omega), hF1 42 (by omega) (by omega), hF1 43 (by omega) (by omega), hF1 44 (by omega) (by omega)]; exact hU
  · simp (disch := omega) only [if_true, if_false, if_pos, if_neg, wr_0, wr_id, gd_i, bnd_e, bd_s, bd2_s, jn_e, Int.toNat_natCast, t2]
    exact ⟨_, _, _, _, rfl, rfl, rfl, keep⟩
