/-! HOURS, CHECKS, TEXT fed -/
def clp (a m : Int) : Int := if m < a then m else if a < -m then -m else a
theorem bring_e {a m : Int} (ha : -9223372036854775808 ≤ a ∧ a < 9223372036854775808) (hm : 0 ≤ m ∧ m < 2147483648) : fX11_bring a m = some (clp a m) := by
  unfold fX11_bring clp
  rw [wr_id (z := m) (by omega) (by omega), wr_id (z := -m) (by omega) (by omega), lCmp_e ha (by omega), lCmp_e ha (by omega)]
  by_cases c : m < a
  · rw [if_pos c, if_neg (by omega), if_pos c]
  · rw [if_neg c]
    rw [if_pos (by split <;> omega), if_neg c]
    by_cases d : a < -m
    · rw [if_pos d, if_neg (by rw [if_neg (by omega), if_neg (by omega)]; omega)]
    · rw [if_neg d, if_pos (by split <;> (try split) <;> omega)]
theorem bounded_e {a m : Int} (ha : -9223372036854775808 ≤ a ∧ a < 9223372036854775808) (hm : 0 ≤ m ∧ m < 2147483648) : fX12_bounded a m = some (clp a m) := by
  unfold fX12_bounded clp
  rw [wr_id (z := m) (by omega) (by omega), wr_id (z := -m) (by omega) (by omega), lCmp_e ha (by omega), lCmp_e ha (by omega)]
  by_cases d : a < -m
  · rw [if_neg (by rw [if_neg (by omega), if_neg (by omega)]; omega), if_neg (show ¬ m < a by omega), if_pos d]
  · rw [if_pos (by split <;> (try split) <;> omega), if_neg d]
    by_cases c : m < a
    · rw [if_pos c, if_neg (by omega), if_pos c]
    · rw [if_neg c, if_pos (by split <;> omega), if_neg c]
theorem clp_bd {a m : Int} (hm : 0 ≤ m) : -m ≤ clp a m ∧ clp a m ≤ m := by
  unfold clp; split <;> (try split) <;> omega
theorem iXor0 {x : Int} (hx : IR x) : iXor x 0 = x := by
  unfold iXor
  rw [show Int32.ofInt 0 = 0 from rfl, Int32.xor_zero, ti, wr_id hx.1 hx.2]
theorem hour13_e {g : Mem} {S : Nat} (hS : S < 12) {own a p : Int} (hg : g 41 2 = (S : Int)) (hg3 : g 41 3 = own) (ho : 4 ≤ own ∧ own ≤ 64) (ha : 0 ≤ a ∧ a ≤ 60) (hp : 4 ≤ p ∧ p ≤ 64) (K : Mem → Option (Int × Mem)) : ∀ (k N i : Nat) (f : Nat → Int), i + k = 4 → k < N → ∃ f', fX6_addHour_L13 N a p i (sr g 42 f) K = K (sr g 42 f') ∧ (∀ v, i ≤ v → v < 4 → f' (S * 4 + v) = (64 * a).tdiv (1 + (p - (v : Int) - own) * (p - (v : Int) - own))) ∧ (∀ j, j < S * 4 + i → f' j = f j) := by
  intro k
  induction k with
  | zero =>
    intro N i f hi hN
    obtain ⟨N, rfl⟩ : ∃ m, N = m + 1 := ⟨N - 1, by omega⟩
    rw [fX6_addHour_L13]
    simp (disch := omega) only [if_true, if_false, if_pos, if_neg, wr_0, wr_id, gd_i, bnd_e, bd_s, bd2_s, jn_e, Int.toNat_natCast]
    exact ⟨f, rfl, fun v h1 h2 => by omega, fun _ _ => rfl⟩
  | succ k ih =>
    intro N i f hi hN
    obtain ⟨N, rfl⟩ : ∃ m, N = m + 1 := ⟨N - 1, by omega⟩
    rw [fX6_addHour_L13]
    have u1 : sr g 42 f 41 2 = (S : Int) := hg
    have u2 : sr g 42 f 41 3 = own := hg3
    have e2 : ((S : Int) * 4 + (i : Int)).toNat = S * 4 + i := by omega
    have s := sq_nn (p - (i : Int) - own)
    have m := mb (x := p - (i : Int) - own) (y := p - (i : Int) - own) (A := 70) (B := 70) (by omega) (by omega) (by omega) (by omega)
    have ec : fX11_cut (a * 64) (1 + (p - (i : Int) - own) * (p - (i : Int) - own)) = some ((64 * a).tdiv (1 + (p - (i : Int) - own) * (p - (i : Int) - own))) := by
      unfold fX11_cut
      rw [wr_id (z := 1 + (p - (i : Int) - own) * (p - (i : Int) - own)) (by omega) (by omega), wr_id (z := a * 64) (by omega) (by omega), if_neg (by omega), gc_of (by omega), Int.mul_comm]
    simp (disch := omega) only [if_true, if_false, if_pos, if_neg, wr_0, wr_id, gd_i, bnd_e, bd_s, bd2_s, jn_e, Int.toNat_natCast, u1, u2, e2, ec, ncs, sr_up]
    obtain ⟨f', h1, h2, h3⟩ := ih N (i + 1) (fun b => if b = S * 4 + i then (64 * a).tdiv (1 + (p - (i : Int) - own) * (p - (i : Int) - own)) else f b) (by omega) (by omega)
    refine ⟨f', h1, fun v hv hv2 => ?_, fun j hj => ?_⟩
    · by_cases c : v = i
      · subst c
        rw [h3 _ (by omega)]; exact if_pos rfl
      · exact h2 v (by omega) hv2
    · rw [h3 j (by omega)]; exact if_neg (by omega)
theorem S_hour : Sim_hour RR := by
  intro n g h a0 a1 hn R h0 h1
  obtain ⟨hC, hM, hH, ⟨hR, hv⟩, hW, hS, hB, hD, hT, hU, hO, hP⟩ := id R
  have keep : RR (n + 1) g h := RR_mono n (n + 1) g h (by omega) R
  obtain ⟨⟨q1, q2, q3, q4⟩, r1, r2, r3, r4⟩ := id hO
  unfold IR at h0 h1
  unfold fX11_hour fX12_hour fX6_addHour
  rw [within_e h0 (by omega) (by omega), in_e h0 (by omega) (by omega), within_e h1 (by omega) (by omega), in_e h1 (by omega) (by omega)]
  simp only [bd_s]
  by_cases x0 : 0 ≤ a0 ∧ a0 ≤ 60
  · by_cases x1 : 4 ≤ a1 ∧ a1 ≤ 64
    · by_cases e : h 0 41 = 12
      · simp (disch := omega) only [if_true, if_false, if_pos, if_neg, wr_0, wr_id, gd_i, bnd_e, bd_s, bd2_s, jn_e, Int.toNat_natCast, if_pos x0, if_pos x1, r1]
        exact ⟨_, _, _, _, rfl, rfl, rfl, keep⟩
      · obtain ⟨F, hF, hF2⟩ := fuel_g
        obtain ⟨S, hS1⟩ : ∃ S : Nat, h 0 41 = S := ⟨(h 0 41).toNat, by omega⟩
        have hSn : (h 0 41).toNat = S := by omega
        have v1 : ∀ v, up h 32 S v 0 41 = h 0 41 := fun _ => rfl
        have v2 : ∀ v w, up (up h 32 S v) 33 S w 0 41 = h 0 41 := fun _ _ => rfl
        simp (disch := omega) only [if_true, if_false, if_pos, if_neg, wr_0, wr_id, gd_i, bnd_e, bd_s, bd2_s, jn_e, Int.toNat_natCast, if_pos x0, if_pos x1, r1, hSn, v1, v2]
        obtain ⟨f', p1, p2, p3⟩ := hour13_e (g := g) (S := S) (by omega) (by rw [r1, hS1]) r2 q2 x0 x1 (fun (g_9 : Mem) => some ((up (up g_9 41 4 0) 41 2 ((up g_9 41 4 0) 41 2 + 1)) 41 2, up (up g_9 41 4 0) 41 2 ((up g_9 41 4 0) 41 2 + 1))) 4 F 0 (g 42) (by omega) (by omega)
        rw [sr_self] at p1
        rw [show ((0 : Nat) : Int) = 0 from rfl] at p1
        rw [hF, p1]
        simp only [bd2_s]
        refine ⟨_, _, _, _, rfl, rfl, ?_, hC, hM, hH, ⟨hR, ?_⟩, hW, hS, hB, hD, hT, hU, ⟨⟨?_, q2, up_bd q3 x0, up_bd q4 (by omega)⟩, ?_, r2, ?_, ?_⟩, hP⟩
        · show wr (g 41 2 + 1) = wr (h 0 41 + 1); rw [r1]
        · show g 1 6 ≤ _; omega
        · show 0 ≤ h 0 41 + 1 ∧ h 0 41 + 1 ≤ 12; omega
        · show g 41 2 + 1 = h 0 41 + 1; rw [r1]
        · intro a v ha hv2
          have ha2 : (a : Int) < h 0 41 + 1 := ha
          show f' (a * 4 + v) = _
          by_cases c : a = S
          · subst c
            rw [p2 v (by omega) hv2]
            unfold qs QS; rw [if_pos hv2]; simp [up]
          · rw [p3 _ (by omega), r3 a v (by omega) hv2]
            unfold qs QS; rw [if_pos hv2, if_pos hv2]; simp [up, c]
        · exact .inl rfl
    · simp (disch := omega) only [if_true, if_false, if_pos, if_neg, wr_0, wr_id, gd_i, bnd_e, bd_s, bd2_s, jn_e, Int.toNat_natCast, if_pos x0, if_neg x1]
      exact ⟨_, _, _, _, rfl, rfl, rfl, keep⟩
  · simp (disch := omega) only [if_true, if_false, if_pos, if_neg, wr_0, wr_id, gd_i, bnd_e, bd_s, bd2_s, jn_e, Int.toNat_natCast, if_neg x0]
    exact ⟨_, _, _, _, rfl, rfl, rfl, keep⟩
def vd (x7 x10 x13 i s0 v0 : Int) : Int := if wr x10 = wr (clp (v0 + wr (Int.tdiv (wr x13) i)) 30) then (if wr x7 = wr (clp (s0 + wr x10) 80) then 0 else 2) else 1
def pk (a1 k a2 : Int) : Int := if a1 = k then a2 else 0
theorem speed_e {v0 x i : Int} (hv : -30 ≤ v0 ∧ v0 ≤ 30) (hi : 1 ≤ i ∧ i ≤ 50) : fX0_nextSpeed v0 x i = some (clp (v0 + wr (Int.tdiv (wr x) i)) 30) := by
  have k1 := wr_rng (Int.tdiv (wr x) i)
  unfold fX0_nextSpeed
  rw [wr_id (z := i) (by omega) (by omega), wr_id (z := v0) (by omega) (by omega), if_pos (by omega), gc_of (by omega), bring_e (by omega) (by omega)]
  rfl
theorem verd1 {x7 x10 x13 i s0 v0 : Int} (hv : -30 ≤ v0 ∧ v0 ≤ 30) (hs : -80 ≤ s0 ∧ s0 ≤ 80) (hi : 1 ≤ i ∧ i ≤ 50) : (bd (fX0_nextSpeed v0 x13 i) fun r_17 => if wr x10 = wr r_17 then (bd (fX11_bring ((wr s0) + (wr x10)) 80) fun r_20 => if wr x7 = wr r_20 then (some (0 : Int)) else (some 2)) else (some 1)) = some (vd x7 x10 x13 i s0 v0) := by
  have k1 := wr_rng x10
  rw [speed_e hv hi, bd_s, wr_id (z := s0) (by omega) (by omega), bring_e (by omega) (by omega), bd_s]
  unfold vd
  split
  · split <;> rfl
  · rfl
theorem verd2 {x7 x10 x13 i s0 v0 : Int} (hv : -30 ≤ v0 ∧ v0 ≤ 30) (hs : -80 ≤ s0 ∧ s0 ≤ 80) (hi : 1 ≤ i ∧ i ≤ 50) : (bd (fX12_bounded (v0 + (wr (Int.tdiv (wr x13) i))) 30) fun r_16 => if wr x10 = wr r_16 then (bd (fX12_bounded (s0 + (wr x10)) 80) fun r_20 => if wr x7 = wr r_20 then (some (0 : Int)) else (some 2)) else (some 1)) = some (vd x7 x10 x13 i s0 v0) := by
  have k1 := wr_rng x10
  have k2 := wr_rng (Int.tdiv (wr x13) i)
  rw [bounded_e (by omega) (by omega), bd_s, bounded_e (by omega) (by omega), bd_s]
  unfold vd
  split
  · split <;> rfl
  · rfl
theorem verdict_e {g : Mem} {t : Nat} (ht : t < 600) {a1 a2 i s0 v0 : Int} (ha : 0 ≤ a1 ∧ a1 ≤ 2) (hi : 1 ≤ i ∧ i ≤ 50) (h36 : g 36 t = i) (hs0 : s0 = if t = 0 then 0 else g 33 (t - 1)) (hv0 : v0 = if t = 0 then 0 else g 34 (t - 1)) (hv : -30 ≤ v0 ∧ v0 ≤ 30) (hs : -80 ≤ s0 ∧ s0 ≤ 80) : fX2_verdict t a1 a2 g = some (vd (iXor (g 33 t) (pk a1 0 a2)) (iXor (g 34 t) (pk a1 1 a2)) (iXor (g 35 t) (pk a1 2 a2)) i s0 v0) := by
  have w0 : wr (t : Int) = t := wr_id (by omega) (by omega)
  have w1 : wr a1 = a1 := wr_id (by omega) (by omega)
  have w36 : wr i = i := wr_id (by omega) (by omega)
  have gd6 : ∀ (k : Option Int), gd (t : Int) 600 k = k := fun k => gd_i (by omega) (by omega) (by omega)
  unfold fX2_verdict
  simp only [w0, w1, Int.toNat_natCast, h36, w36, gd6, ↓jn_e]
  rw [if_neg (by omega), if_neg (by omega), if_neg (by omega)]
  have tail : ∀ x7 x10 x13 : Int, (if (t : Int) = 0 then (if (t : Int) = 0 then (bd (fX0_nextSpeed 0 x13 i) fun r_17 => if wr x10 = wr r_17 then (bd (fX11_bring ((wr 0) + (wr x10)) 80) fun r_20 => if wr x7 = wr r_20 then (some (0 : Int)) else (some 2)) else (some 1)) else (gd ((t : Int) - 1) 600 (bd (fX0_nextSpeed (g 34 (wr ((t : Int) - 1)).toNat) x13 i) fun r_17 => if wr x10 = wr r_17 then (bd (fX11_bring ((wr 0) + (wr x10)) 80) fun r_20 => if wr x7 = wr r_20 then (some (0 : Int)) else (some 2)) else (some 1)))) else gd ((t : Int) - 1) 600 (if (t : Int) = 0 then (bd (fX0_nextSpeed 0 x13 i) fun r_17 => if wr x10 = wr r_17 then (bd (fX11_bring ((wr (g 33 (wr ((t : Int) - 1)).toNat)) + (wr x10)) 80) fun r_20 => if wr x7 = wr r_20 then (some (0 : Int)) else (some 2)) else (some 1)) else (gd ((t : Int) - 1) 600 (bd (fX0_nextSpeed (g 34 (wr ((t : Int) - 1)).toNat) x13 i) fun r_17 => if wr x10 = wr r_17 then (bd (fX11_bring ((wr (g 33 (wr ((t : Int) - 1)).toNat)) + (wr x10)) 80) fun r_20 => if wr x7 = wr r_20 then (some (0 : Int)) else (some 2)) else (some 1))))) = some (vd x7 x10 x13 i s0 v0) := by
    intro x7 x10 x13
    by_cases z : t = 0
    · rw [if_pos (by omega), if_pos (by omega)]
      rw [if_pos z] at hs0 hv0
      subst hs0 hv0
      exact verd1 hv hs hi
    · rw [if_neg (by omega), gd_i (by omega) (by omega) (by omega), if_neg (by omega), gd_i (by omega) (by omega) (by omega), wr_id (z := (t : Int) - 1) (by omega) (by omega), show ((t : Int) - 1).toNat = t - 1 by omega]
      rw [if_neg z] at hs0 hv0
      rw [← hs0, ← hv0]
      exact verd1 hv hs hi
  rcases (by omega : a1 = 0 ∨ a1 = 1 ∨ a1 = 2) with rfl | rfl | rfl
  · rw [if_pos rfl, bnd_e, if_neg (by omega), bnd_e, if_neg (by omega), bnd_e]; exact tail _ _ _
  · rw [if_neg (by omega), bnd_e, if_pos rfl, bnd_e, if_neg (by omega), bnd_e]; exact tail _ _ _
  · rw [if_neg (by omega), bnd_e, if_neg (by omega), bnd_e, if_pos rfl, bnd_e]; exact tail _ _ _
theorem gd_n {β : Type} {t n : Nat} {k : Option β} (h : t < n) (hn : n < 2147483648) : gd (t : Int) n k = k := gd_i (by omega) (by omega) (by omega)
theorem nat_pred {t : Nat} (z : ¬ t = 0) (h : t < 600) : (t - 1 < 600) ∧ ((t : Int) - 1 = ((t - 1 : Nat) : Int)) ∧ wr ((t - 1 : Nat) : Int) = ((t - 1 : Nat) : Int) ∧ ¬ (t : Int) = 0 := ⟨by omega, by omega, wr_id (by omega) (by omega), by omega⟩
theorem checkM_e {h : Mem} {t : Nat} (ht : (t : Int) < h 0 26) (hn : h 0 26 ≤ 600) {a1 a2 i s0 v0 : Int} (h1 : IR a1) (ha : 0 ≤ a1 ∧ a1 ≤ 2) (hi : 1 ≤ i ∧ i ≤ 50) (h30 : h 30 t = i) (h31 : h 31 t = 1) (hs0 : s0 = if t = 0 then 0 else h 27 (t - 1)) (hv0 : v0 = if t = 0 then 0 else h 28 (t - 1)) (hv : -30 ≤ v0 ∧ v0 ≤ 30) (hs : -80 ≤ s0 ∧ s0 ≤ 80) (b7 : IR (h 27 t)) (b8 : IR (h 28 t)) (b9 : IR (h 29 t)) : fX12_check t a1 a2 h = some (vd (iXor (h 27 t) (pk a1 0 a2)) (iXor (h 28 t) (pk a1 1 a2)) (iXor (h 29 t) (pk a1 2 a2)) i s0 v0) := by
  have ht2 : t < 600 := by omega
  have hrg : -2147483648 ≤ h 0 26 - 1 ∧ h 0 26 - 1 < 2147483648 := by omega
  have htg : -2147483648 ≤ (t : Int) ∧ (t : Int) < 2147483648 := by omega
  have htc : 0 ≤ (t : Int) ∧ (t : Int) ≤ h 0 26 - 1 := by omega
  have w0 : wr (t : Int) = t := wr_id (by omega) (by omega)
  have w1 : wr a1 = a1 := wr_id (by omega) (by omega)
  have w30 : wr i = i := wr_id (by omega) (by omega)
  have gd6 : ∀ (k : Option Int), gd (t : Int) 600 k = k := fun k => gd_n ht2 (by decide)
  have egc : ∀ (k : Option Int), gc (¬ i = 0) k = k := fun k => gc_of (by omega)
  unfold fX12_check
  unfold IR at h1
  rw [in_e htg (by omega) hrg, in_e h1 (by omega) (by omega), bd_s, bd_s, if_pos htc, if_pos ha, if_neg (by decide), if_neg (by decide)]
  simp only [w0, w1, Int.toNat_natCast, h30, h31, w30, gd6, egc, ↓jn_e, ↓bnd_e]
  rw [if_neg (by decide)]
  have tail : ∀ x7 x10 x13 : Int, (if (t : Int) = 0 then (bd (fX12_bounded (0 + (wr (Int.tdiv (wr x13) i))) 30) fun r_16 => if wr x10 = wr r_16 then (if (t : Int) = 0 then (bd (fX12_bounded (0 + (wr x10)) 80) fun r_20 => if wr x7 = wr r_20 then (some (0 : Int)) else (some 2)) else (gd ((t : Int) - 1) 600 (bd (fX12_bounded (wr (h 27 (wr ((t : Int) - 1)).toNat) + (wr x10)) 80) fun r_20 => if wr x7 = wr r_20 then (some (0 : Int)) else (some 2)))) else (some 1)) else gd ((t : Int) - 1) 600 (bd (fX12_bounded (wr (h 28 (wr ((t : Int) - 1)).toNat) + (wr (Int.tdiv (wr x13) i))) 30) fun r_16 => if wr x10 = wr r_16 then (if (t : Int) = 0 then (bd (fX12_bounded (0 + (wr x10)) 80) fun r_20 => if wr x7 = wr r_20 then (some (0 : Int)) else (some 2)) else (gd ((t : Int) - 1) 600 (bd (fX12_bounded (wr (h 27 (wr ((t : Int) - 1)).toNat) + (wr x10)) 80) fun r_20 => if wr x7 = wr r_20 then (some (0 : Int)) else (some 2)))) else (some 1))) = some (vd x7 x10 x13 i s0 v0) := by
    intro x7 x10 x13
    by_cases z : t = 0
    · rw [if_pos (by omega)]
      simp only [if_pos (show (t : Int) = 0 by omega)]
      rw [if_pos z] at hs0 hv0
      subst hs0 hv0
      exact verd2 hv hs hi
    · obtain ⟨ht3, et, wt, zz⟩ := nat_pred z ht2
      rw [et, if_neg zz, gd_n ht3 (by decide)]
      simp only [if_neg zz]
      have gd7 : ∀ (k : Option Int), gd ((t - 1 : Nat) : Int) 600 k = k := fun k => gd_n ht3 (by decide)
      rw [if_neg z] at hs0 hv0
      simp only [gd7, wt, Int.toNat_natCast, ← hs0, ← hv0, wr_id (z := s0) (by omega) (by omega), wr_id (z := v0) (by omega) (by omega)]
      exact verd2 hv hs hi
  rcases (by omega : a1 = 0 ∨ a1 = 1 ∨ a1 = 2) with rfl | rfl | rfl
  · rw [if_pos rfl, if_neg (by omega), if_neg (by omega), show pk 0 0 a2 = a2 from rfl, show pk 0 1 a2 = 0 from rfl, show pk 0 2 a2 = 0 from rfl, iXor0 b8, iXor0 b9]; exact tail _ _ _
  · rw [if_neg (by omega), if_pos rfl, if_neg (by omega), show pk 1 0 a2 = 0 from rfl, show pk 1 1 a2 = a2 from rfl, show pk 1 2 a2 = 0 from rfl, iXor0 b7, iXor0 b9]; exact tail _ _ _
  · rw [if_neg (by omega), if_neg (by omega), if_pos rfl, show pk 2 0 a2 = 0 from rfl, show pk 2 1 a2 = 0 from rfl, show pk 2 2 a2 = a2 from rfl, iXor0 b7, iXor0 b8]; exact tail _ _ _
theorem S_check : Sim_check RR := by
  intro n g h a0 a1 a2 hn R h0 h1 h2
  have keep : RR (n + 1) g h := RR_mono n (n + 1) g h (by omega) R
  obtain ⟨hC, hM, hH, ⟨hR, hv⟩, hW, hS, hB, hD, hT, hU, hO, hP⟩ := id R
  obtain ⟨t1, t2, t3, t4, t5⟩ := hB
  have h1' := h1
  unfold IR at h0 h1 h2
  unfold fX11_check
  rw [t2, within_e h0 (by omega) (by omega), within_e h1 (by omega) (by omega), bd_s, bd_s]
  by_cases c : 0 ≤ a0 ∧ a0 ≤ h 0 26 - 1
  · by_cases d : 0 ≤ a1 ∧ a1 ≤ 2
    · obtain ⟨t, rfl⟩ : ∃ t : Nat, a0 = t := ⟨a0.toNat, by omega⟩
      obtain ⟨d1, d2, d3, d4, d5, d6, d7⟩ := hD.1 t (by omega)
      rw [if_pos c, if_pos d, if_neg (by decide), if_neg (by decide)]
      rcases d7 with ⟨i1, i2, i3⟩ | ⟨i1, i2⟩
      · obtain ⟨s0, hs0⟩ : ∃ s0, s0 = if t = 0 then 0 else h 27 (t - 1) := ⟨_, rfl⟩
        obtain ⟨v0, hv0⟩ : ∃ v0, v0 = if t = 0 then 0 else h 28 (t - 1) := ⟨_, rfl⟩
        have bs : (-80 ≤ s0 ∧ s0 ≤ 80) ∧ (-30 ≤ v0 ∧ v0 ≤ 30) ∧ (s0 = if t = 0 then 0 else g 33 (t - 1)) ∧ (v0 = if t = 0 then 0 else g 34 (t - 1)) := by
          by_cases z : t = 0
          · rw [if_pos z] at hs0 hv0; rw [if_pos z, if_pos z]; omega
          · obtain ⟨f1, f2, f3, f4, f5, f6, f7⟩ := hD.1 (t - 1) (by omega)
            rw [if_neg z] at hs0 hv0; rw [if_neg z, if_neg z, f1, f2]; omega
        rw [verdict_e (by omega) d i3 i2 bs.2.2.1 bs.2.2.2 bs.2.1 bs.1, checkM_e (by omega) (by omega) h1' d i3 rfl i1 hs0 hv0 bs.2.1 bs.1 (by unfold IR; omega) (by unfold IR; omega) (by unfold IR; omega), d1, d2, d3, bd_s]
        exact ⟨_, _, rfl, rfl, rfl, keep⟩
      · refine ⟨-1, -1, ?_, ?_, rfl, keep⟩
        · unfold fX2_verdict
          rw [wr_id (z := (t : Int)) (by omega) (by omega), if_neg (by omega), if_neg (by omega), gd_i (by omega) (by omega) (by omega), Int.toNat_natCast, if_pos (by rw [i2]; rfl), bd_s]
        · unfold fX12_check
          rw [in_e (v := (t : Int)) (by omega) (by omega) (by omega), in_e h1 (by omega) (by omega), bd_s, bd_s, if_pos c, if_pos d, if_neg (by decide), if_neg (by decide), gd_i (by omega) (by omega) (by omega), wr_id (z := (t : Int)) (by omega) (by omega), Int.toNat_natCast, if_pos (by rw [i1]; rfl)]
    · rw [if_pos c, if_neg d, if_neg (by decide), if_pos (by decide)]
      refine ⟨-1, -1, rfl, ?_, rfl, keep⟩
      unfold fX12_check
      rw [in_e (v := a0) (by omega) (by omega) (by omega), in_e h1 (by omega) (by omega), bd_s, bd_s, if_pos c, if_neg d, if_neg (by decide), if_pos (by decide)]
  · rw [if_neg c, if_pos (by decide)]
    refine ⟨-1, -1, rfl, ?_, rfl, keep⟩
    unfold fX12_check
    rw [in_e (v := a0) (by omega) (by omega) (by omega), bd_s, if_neg c, if_pos (by decide)]
