/-! SLICES, HOURS, CHECKS -/
theorem cn_s (hf : Int) {k : Nat} (hk : k < 19) : cn hf k = ix hf k + cn hf (k + 1) := by
  unfold cn; rw [show 19 - k = (19 - (k + 1)) + 1 by omega]; rfl
theorem cl_s (hf : Int) {k : Nat} (hk : k < 19) : cl hf k = lx hf k + cl hf (k + 1) := by
  unfold cl; rw [show 19 - k = (19 - (k + 1)) + 1 by omega]; rfl
theorem row31_e {z : Nat} (hz : z < 10) {len hf : Int} (hl : 1 ≤ len ∧ len ≤ 20) (hh : 0 ≤ hf ∧ hf ≤ 9) (K : Int → Mem → Option Mem) : ∀ (k N : Nat) (g : Mem), k ≤ 19 → k < N → ∃ g', fX3_addRow_L31 N z len hf (len * cn hf k) (len * cl hf k) ((k : Int) - 1) g K = K (len * cn hf 0) g' ∧ (∀ c, c < k → g' 2 (z * 19 + c) = g 2 (z * 19 + c) + len * cn hf c ∧ g' 3 (z * 19 + c) = g 3 (z * 19 + c) + len * cl hf c) ∧ (∀ j, j < z * 19 ∨ z * 19 + k ≤ j → g' 2 j = g 2 j ∧ g' 3 j = g 3 j) ∧ (∀ a, a ≠ 2 → a ≠ 3 → g' a = g a) := by
  intro k
  induction k with
  | zero =>
    intro N g hk hN
    obtain ⟨N, rfl⟩ : ∃ m, N = m + 1 := ⟨N - 1, by omega⟩
    rw [fX3_addRow_L31]
    simp (disch := omega) only [if_true, if_false, if_pos, if_neg, wr_0, wr_id, gd_i, bnd_e, bd_s, bd2_s, jn_e, Int.toNat_natCast]
    exact ⟨g, rfl, fun c hc => by omega, fun _ _ => ⟨rfl, rfl⟩, fun _ _ _ => rfl⟩
  | succ k ih =>
    intro N g hk hN
    obtain ⟨N, rfl⟩ : ∃ m, N = m + 1 := ⟨N - 1, by omega⟩
    rw [fX3_addRow_L31]
    have e1 : ((k + 1 : Nat) : Int) - 1 = (k : Int) := by omega
    have e2 : ((z : Int) * 19 + (k : Int)).toNat = z * 19 + k := by omega
    have e3 : (k : Int) + -1 = (k : Int) - 1 := by omega
    have u3 : ∀ v, up g 2 (z * 19 + k) v 3 = g 3 := fun _ => rfl
    have fin : ∀ p q : Int, p = len * cn hf k → q = len * cl hf k → ∃ g', fX3_addRow_L31 N z len hf p q ((k : Int) - 1) (up (up g 2 (z * 19 + k) (g 2 (z * 19 + k) + p)) 3 (z * 19 + k) (g 3 (z * 19 + k) + q)) K = K (len * cn hf 0) g' ∧ (∀ c, c < k + 1 → g' 2 (z * 19 + c) = g 2 (z * 19 + c) + len * cn hf c ∧ g' 3 (z * 19 + c) = g 3 (z * 19 + c) + len * cl hf c) ∧ (∀ j, j < z * 19 ∨ z * 19 + (k + 1) ≤ j → g' 2 j = g 2 j ∧ g' 3 j = g 3 j) ∧ (∀ a, a ≠ 2 → a ≠ 3 → g' a = g a) := by
      intro p q hp hq
      subst hp hq
      obtain ⟨g', p1, p2, p3, p4⟩ := ih N (up (up g 2 (z * 19 + k) (g 2 (z * 19 + k) + len * cn hf k)) 3 (z * 19 + k) (g 3 (z * 19 + k) + len * cl hf k)) (by omega) (by omega)
      refine ⟨g', p1, fun c hc => ?_, fun j hj => ?_, fun a h1 h2 => ?_⟩
      · by_cases d : c = k
        · subst d
          have := p3 (z * 19 + c) (by omega)
          simp [up] at this
          exact this
        · have := p2 c (by omega)
          simpa [up, d] using this
      · have := p3 j (by omega)
        have d : j ≠ z * 19 + k := by omega
        simpa [up, d] using this
      · rw [p4 a h1 h2]; funext b; simp [up, h1, h2]
    rw [e1]
    by_cases c1 : (k : Int) - 9 < -hf
    · simp (disch := omega) only [if_true, if_false, if_pos, if_neg, wr_0, wr_id, gd_i, bnd_e, bd_s, bd2_s, jn_e, Int.toNat_natCast, e2, e3, u3]
      exact fin _ _ (by rw [cn_s hf (k := k) (by omega), show ix hf k = 0 from if_neg (by omega), Int.zero_add]) (by rw [cl_s hf (k := k) (by omega), show lx hf k = 0 from if_neg (by omega), Int.zero_add])
    · by_cases c2 : hf ≤ (k : Int) - 9
      · simp (disch := omega) only [if_true, if_false, if_pos, if_neg, wr_0, wr_id, gd_i, bnd_e, bd_s, bd2_s, jn_e, Int.toNat_natCast, e2, e3, u3]
        exact fin _ _ (by rw [cn_s hf (k := k) (by omega), show ix hf k = 0 from if_neg (by omega), Int.zero_add]) (by rw [cl_s hf (k := k) (by omega), show lx hf k = 0 from if_neg (by omega), Int.zero_add])
      · simp (disch := omega) only [if_true, if_false, if_pos, if_neg, wr_0, wr_id, gd_i, bnd_e, bd_s, bd2_s, jn_e, Int.toNat_natCast, e2, e3, u3]
        exact fin _ _ (by rw [cn_s hf (k := k) (by omega), show ix hf k = 1 from if_pos (by omega), Int.mul_add]; omega) (by rw [cl_s hf (k := k) (by omega), show lx hf k = 2 * ((k : Int) - 9) + 1 from if_pos (by omega), Int.mul_add len (2 * ((k : Int) - 9) + 1)]; omega)
theorem row_e {z : Nat} (hz : z < 10) {len hf : Int} (hl : 1 ≤ len ∧ len ≤ 20) (hh : 0 ≤ hf ∧ hf ≤ 9) (g : Mem) (hw : g 1 8 = sm (fun z => g 2 (z * 19 + 0)) 0 10) : ∃ g', fX3_addRow z len hf g = some g' ∧ (∀ c, c < 19 → g' 2 (z * 19 + c) = g 2 (z * 19 + c) + len * cn hf c ∧ g' 3 (z * 19 + c) = g 3 (z * 19 + c) + len * cl hf c) ∧ (∀ j, j < z * 19 ∨ z * 19 + 19 ≤ j → g' 2 j = g 2 j ∧ g' 3 j = g 3 j) ∧ (∀ a, a ≠ 1 → a ≠ 2 → a ≠ 3 → g' a = g a) ∧ (∀ b, b ≠ 8 → g' 1 b = g 1 b) ∧ g' 1 8 = sm (fun z => g' 2 (z * 19 + 0)) 0 10 := by
  unfold fX3_addRow
  obtain ⟨F, hF, hF2⟩ := fuel_g
  obtain ⟨g', p1, p2, p3, p4⟩ := row31_e hz hl hh (fun (z_22 : Int) (g_23 : Mem) => some (up g_23 1 8 ((g_23 1 8) + z_22))) 19 F g (by omega) (by omega)
  rw [show len * cn hf 19 = 0 from by show len * 0 = 0; omega, show len * cl hf 19 = 0 from by show len * 0 = 0; omega, show ((19 : Nat) : Int) - 1 = 18 from rfl] at p1
  simp (disch := omega) only [if_true, if_false, if_pos, if_neg, wr_0, wr_id, gd_i, bnd_e, bd_s, bd2_s, jn_e, Int.toNat_natCast, hF]
  rw [p1]
  refine ⟨_, rfl, p2, p3, fun a h1 h2 h3 => ?_, fun b hb => ?_, ?_⟩
  · rw [← p4 a h2 h3]; funext b; simp [up, h1]
  · rw [← p4 1 (by omega) (by omega)]; simp [up, hb]
  · have q := (p2 0 (by omega)).1
    have := sm_upd (f := fun z => g 2 (z * 19 + 0)) (f' := fun z => g' 2 (z * 19 + 0)) (i := 0) (k := 10) (j := z) (fun x hx => (p3 (x * 19 + 0) (by omega)).1) (by omega) (by omega)
    show g' 1 8 + len * cn hf 0 = sm (fun z => g' 2 (z * 19 + 0)) 0 10
    rw [this, p4 1 (by omega) (by omega), hw]
    show _ = _ + (g' 2 (z * 19 + 0) - g 2 (z * 19 + 0))
    rw [q]; omega
theorem dig {a : Int} (h : 0 ≤ a ∧ a ≤ 99999) : Int.tmod (wr a) 10 = a % 10 ∧ Int.tdiv (wr a) 10 = a / 10 := by
  rw [wr_id (by omega) (by omega), Int.tmod_eq_emod_of_nonneg h.1, Int.tdiv_eq_ediv_of_nonneg h.1]; exact ⟨rfl, rfl⟩
theorem slice20_e {S : Nat} (hS : S < 6) {len : Int} (hl : 1 ≤ len ∧ len ≤ 20) (K K2 : Mem → Option (Int × Mem)) : ∀ (k N N2 : Nat) (a b : Int) (g h : Mem), k ≤ 5 → k < N → k < N2 → (0 ≤ a ∧ a ≤ 99999) → (0 ≤ b ∧ b ≤ 99999) → h 0 1 = (S : Int) → g 1 8 = sm (fun z => g 2 (z * 19 + 0)) 0 10 → ∃ g' h', fX3_addSlice_L20 N len a b ((k : Int) - 1) g K = K g' ∧ fX12_slice_L60 N2 a b ((k : Int) - 1) h K2 = K2 h' ∧ (∀ z, z < 10 → (z < k ∨ (5 ≤ z ∧ z < k + 5)) → (0 ≤ h' 3 (10 * S + z) ∧ h' 3 (10 * S + z) ≤ 9) ∧ ∀ c, c < 19 → g' 2 (z * 19 + c) = g 2 (z * 19 + c) + len * cn (h' 3 (10 * S + z)) c ∧ g' 3 (z * 19 + c) = g 3 (z * 19 + c) + len * cl (h' 3 (10 * S + z)) c) ∧ (∀ z, z < 10 → ¬ (z < k ∨ (5 ≤ z ∧ z < k + 5)) → ∀ c, c < 19 → g' 2 (z * 19 + c) = g 2 (z * 19 + c) ∧ g' 3 (z * 19 + c) = g 3 (z * 19 + c)) ∧ (∀ j, j < 10 * S ∨ 10 * S + 10 ≤ j ∨ (∃ z, j = 10 * S + z ∧ ¬ (z < k ∨ (5 ≤ z ∧ z < k + 5))) → h' 3 j = h 3 j) ∧ (∀ a, a ≠ 3 → h' a = h a) ∧ (∀ a, a ≠ 1 → a ≠ 2 → a ≠ 3 → g' a = g a) ∧ (∀ b, b ≠ 8 → g' 1 b = g 1 b) ∧ g' 1 8 = sm (fun z => g' 2 (z * 19 + 0)) 0 10 := by
  intro k
  induction k with
  | zero =>
    intro N N2 a b g h hk hN hN2 ha hb h01 hw
    obtain ⟨N, rfl⟩ : ∃ m, N = m + 1 := ⟨N - 1, by omega⟩
    obtain ⟨N2, rfl⟩ : ∃ m, N2 = m + 1 := ⟨N2 - 1, by omega⟩
    rw [fX3_addSlice_L20, fX12_slice_L60]
    simp (disch := omega) only [if_true, if_false, if_pos, if_neg, wr_0, wr_id, gd_i, bnd_e, bd_s, bd2_s, jn_e, Int.toNat_natCast]
    exact ⟨g, h, rfl, rfl, fun z _ h2 => by omega, fun _ _ _ _ _ => ⟨rfl, rfl⟩, fun _ _ => rfl, fun _ _ => rfl, fun _ _ _ _ => rfl, fun _ _ => rfl, hw⟩
  | succ k ih =>
    intro N N2 a b g h hk hN hN2 ha hb h01 hw
    obtain ⟨N, rfl⟩ : ∃ m, N = m + 1 := ⟨N - 1, by omega⟩
    obtain ⟨N2, rfl⟩ : ∃ m, N2 = m + 1 := ⟨N2 - 1, by omega⟩
    rw [fX3_addSlice_L20, fX12_slice_L60]
    have e1 : ((k + 1 : Nat) : Int) - 1 = (k : Int) := by omega
    have e3 : (k : Int) + -1 = (k : Int) - 1 := by omega
    have e4 : (k : Int) + 5 = ((k + 5 : Nat) : Int) := by omega
    have e5 : (10 * (S : Int) + (k : Int)).toNat = 10 * S + k := by omega
    have e6 : (10 * (S : Int) + 5 + (k : Int)).toNat = 10 * S + (k + 5) := by omega
    have e7 : ∀ v, up h 3 (10 * S + k) v 0 1 = (S : Int) := fun _ => h01
    obtain ⟨g1, a1, a2, a3, a4, a5, a6⟩ := row_e (z := k) (by omega) hl (hf := a % 10) (by omega) g hw
    obtain ⟨g2, c1, c2, c3, c4, c5, c6⟩ := row_e (z := k + 5) (by omega) hl (hf := b % 10) (by omega) g1 a6
    rw [e1, (dig ha).1, (dig ha).2, (dig hb).1, (dig hb).2, a1]
    simp (disch := omega) only [if_true, if_false, if_pos, if_neg, wr_0, wr_id, gd_i, bnd_e, bd_s, bd2_s, jn_e, Int.toNat_natCast, e4]
    rw [c1]
    simp (disch := omega) only [if_true, if_false, if_pos, if_neg, wr_0, wr_id, gd_i, bnd_e, bd_s, bd2_s, jn_e, Int.toNat_natCast, h01, e3, e5, e6, e7]
    obtain ⟨g', h', p1, p2, p3, p4, p5, p6, p7, p8, p9⟩ := ih N N2 (a / 10) (b / 10) g2 (up (up h 3 (10 * S + k) (a % 10)) 3 (10 * S + (k + 5)) (b % 10)) (by omega) (by omega) (by omega) (by omega) (by omega) h01 c6
    refine ⟨g', h', p1, p2, fun z hz h2 => ?_, fun z hz h2 c hc => ?_, fun j hj => ?_, fun a' ha' => ?_, fun a' h1 h2 h3 => ?_, fun b' hb' => ?_, p9⟩
    · by_cases d : z = k
      · subst d
        have q5 := p5 (10 * S + z) (.inr (.inr ⟨z, rfl, by omega⟩))
        simp [up] at q5
        rw [q5]
        refine ⟨by omega, fun c hc => ?_⟩
        have q4 := p4 z hz (by omega) c hc
        have q3 := c3 (z * 19 + c) (by omega)
        have q2 := a2 c hc
        rw [q4.1, q4.2, q3.1, q3.2]; exact q2
      · by_cases d5 : z = k + 5
        · subst d5
          have q5 := p5 (10 * S + (k + 5)) (.inr (.inr ⟨k + 5, rfl, by omega⟩))
          simp [up] at q5
          rw [q5]
          refine ⟨by omega, fun c hc => ?_⟩
          have q4 := p4 (k + 5) hz (by omega) c hc
          have q2 := c2 c hc
          have q3 := a3 ((k + 5) * 19 + c) (by omega)
          rw [q4.1, q4.2, q2.1, q2.2, q3.1, q3.2]; exact ⟨rfl, rfl⟩
        · have q := p3 z hz (by omega)
          refine ⟨q.1, fun c hc => ?_⟩
          have q2 := q.2 c hc
          have q3 := c3 (z * 19 + c) (by omega)
          have q4 := a3 (z * 19 + c) (by omega)
          rw [q2.1, q2.2, q3.1, q3.2, q4.1, q4.2]; exact ⟨rfl, rfl⟩
    · have q2 := p4 z hz (by omega) c hc
      have q3 := c3 (z * 19 + c) (by omega)
      have q4 := a3 (z * 19 + c) (by omega)
      rw [q2.1, q2.2, q3.1, q3.2, q4.1, q4.2]; exact ⟨rfl, rfl⟩
    · have hj2 : j < 10 * S ∨ 10 * S + 10 ≤ j ∨ (∃ z, j = 10 * S + z ∧ ¬ (z < k ∨ (5 ≤ z ∧ z < k + 5))) := by
        rcases hj with z | z | ⟨z, z1, z2⟩
        · exact .inl z
        · exact .inr (.inl z)
        · exact .inr (.inr ⟨z, z1, by omega⟩)
      have hne : j ≠ 10 * S + k ∧ j ≠ 10 * S + (k + 5) := by
        rcases hj with z | z | ⟨z, z1, z2⟩ <;> omega
      rw [p5 j hj2]; simp [up, hne.1, hne.2]
    · rw [p6 a' ha']; funext b; simp [up, ha']
    · rw [p7 a' h1 h2 h3, c4 a' h1 h2 h3, a4 a' h1 h2 h3]
    · rw [p8 b' hb', c5 b' hb', a5 b' hb']
theorem S_slice : Sim_slice RR := by
  intro n g h a0 a1 a2 hn R h0 h1 h2
  obtain ⟨hC, hM, hH, ⟨hR, hv⟩, hW, hS, hB, hD, hT, hU, hO, hP⟩ := id R
  have keep : RR (n + 1) g h := RR_mono n (n + 1) g h (by omega) R
  obtain ⟨⟨b1, b2, b3⟩, r1, r2, r3, r4⟩ := id hH
  unfold IR at h0 h1 h2
  unfold fX11_slice fX12_slice
  rw [within_e h0 (by omega) (by omega), in_e h0 (by omega) (by omega), within_e h1 (by omega) (by omega), in_e h1 (by omega) (by omega), within_e h2 (by omega) (by omega), in_e h2 (by omega) (by omega)]
  simp only [bd_s]
  unfold fX3_addSlice
  by_cases c : (1 ≤ a0 ∧ a0 ≤ 20) ∧ (0 ≤ a1 ∧ a1 ≤ 99999) ∧ (0 ≤ a2 ∧ a2 ≤ 99999)
  · obtain ⟨x0, x1, x2⟩ := c
    by_cases e : h 0 1 = 6
    · simp (disch := omega) only [if_true, if_false, if_pos, if_neg, wr_0, wr_id, gd_i, bnd_e, bd_s, bd2_s, jn_e, Int.toNat_natCast, if_pos x0, if_pos x1, if_pos x2, r1]
      exact ⟨_, _, _, _, rfl, rfl, rfl, keep⟩
    · obtain ⟨F, hF, hF2⟩ := fuel_g
      simp (disch := omega) only [if_true, if_false, if_pos, if_neg, wr_0, wr_id, gd_i, bnd_e, bd_s, bd2_s, jn_e, Int.toNat_natCast, if_pos x0, if_pos x1, if_pos x2, r1]
      obtain ⟨S, hS1⟩ : ∃ S : Nat, h 0 1 = S := ⟨(h 0 1).toNat, by omega⟩
      have hSn : (h 0 1).toNat = S := by omega
      obtain ⟨g', h', p1, p2, p3, p4, p5, p6, p7, p8, p9⟩ := slice20_e (S := S) (by omega) x0 (fun (g_12 : Mem) => some ((up g_12 1 6 ((g_12 1 6) + 1)) 1 7, up (up g_12 1 6 ((g_12 1 6) + 1)) 1 7 ((up g_12 1 6 ((g_12 1 6) + 1)) 1 7 + 1))) (fun (g_21 : Mem) => some ((up g_21 0 1 ((g_21 0 1) + 1)) 0 1 - 1, up g_21 0 1 ((g_21 0 1) + 1))) 5 F F a1 a2 g (up h 2 S a0) (by omega) (by omega) (by omega) x1 x2 hS1 r4
      rw [show ((5 : Nat) : Int) - 1 = 4 from rfl] at p1 p2
      rw [hF, hSn, p1, p2]
      have k0 : h' 0 = h 0 := p6 0 (by omega)
      have k17 : g' 1 7 = h 0 1 := by rw [p8 7 (by omega)]; exact r1
      have k16 : g' 1 6 = g 1 6 := p8 6 (by omega)
      have k19 : g' 1 9 = g 1 9 := p8 9 (by omega)
      have gg : ∀ a, (a ≠ 1 ∧ a ≠ 2 ∧ a ≠ 3) → ∀ x y, up (up g' 1 6 x) 1 7 y a = g a := fun a z x y => by
        rw [← p7 a z.1 z.2.1 z.2.2]; funext b; simp [up, z.1]
      have hh : ∀ a, (a ≠ 0 ∧ a ≠ 2 ∧ a ≠ 3) → ∀ x, up h' 0 1 x a = h a := fun a z x => by
        rw [up_ne z.1, p6 a z.2.2, up_ne z.2.1]
      have h0' : ∀ b, b ≠ 1 → ∀ x, up h' 0 1 x 0 b = h 0 b := fun b z x => by
        rw [← k0]; simp [up, z]
      simp only [bd2_s]
      refine ⟨_, _, _, _, rfl, rfl, ?_, ?_⟩
      · rw [show up h' 0 1 (h' 0 1 + 1) 0 1 - 1 = h' 0 1 from by show h' 0 1 + 1 - 1 = _; omega, k0, ← k17]; rfl
      rw [show up g' 1 6 (g' 1 6 + 1) 1 7 = g' 1 7 from rfl, k17, k16, k0]
      refine ⟨?_, ?_, ?_, ⟨?_, ?_⟩, ?_, ?_, ?_, ?_, ?_, ?_, ?_, ?_⟩
      · unfold RCargo CB HV hv1
        rw [gg 8 (by omega), gg 9 (by omega), gg 10 (by omega), gg 11 (by omega), gg 12 (by omega), gg 13 (by omega), gg 14 (by omega), gg 15 (by omega), gg 16 (by omega), h0' 4 (by omega), h0' 10 (by omega), hh 4 (by omega), hh 5 (by omega), hh 6 (by omega), hh 7 (by omega), hh 8 (by omega), hh 9 (by omega), hh 10 (by omega), hh 11 (by omega), hh 12 (by omega)]
        exact hC
      · unfold RMarks; rw [gg 17 (by omega), gg 18 (by omega), gg 19 (by omega), h0' 15 (by omega), hh 13 (by omega), hh 14 (by omega)]; exact hM
      · have e2 : ∀ x, up h' 0 1 x 2 = up h 2 S a0 2 := fun x => by rw [up_ne (by omega), p6 2 (by omega)]
        have e3 : ∀ x, up h' 0 1 x 3 = h' 3 := fun x => up_ne (by omega)
        have old : ∀ k z, k < S → z < 10 → h' 3 (10 * k + z) = h 3 (10 * k + z) := fun k z hk hz => p5 _ (.inl (by omega))
        refine ⟨⟨?_, ?_, ?_⟩, rfl, ?_, ?_, ?_⟩
        · show 0 ≤ h 0 1 + 1 ∧ h 0 1 + 1 ≤ 6; omega
        · rw [e2]; exact up_bd b2 (by omega)
        · rw [e3]; intro j
          by_cases d : 10 * S ≤ j ∧ j < 10 * S + 10
          · have := (p3 (j - 10 * S) (by omega) (by omega)).1
            rw [show 10 * S + (j - 10 * S) = j by omega] at this; exact this
          · rw [p5 j (by omega)]; exact b3 j
        · intro z c hz hc
          show g' 2 (z * 19 + c) = sm _ 0 (h 0 1 + 1).toNat
          rw [((p3 z hz (by omega)).2 c hc).1, r2 z c hz hc, hSn, show (h 0 1 + 1).toNat = S + 1 by omega, sm_last, e2, e3]
          congr 1
          · refine sm_congr (fun k _ hk => ?_)
            have : k ≠ S := by omega
            rw [old k z (by omega) hz]; simp [up, this]
          · simp [up]
        · intro z c hz hc
          show g' 3 (z * 19 + c) = sm _ 0 (h 0 1 + 1).toNat
          rw [((p3 z hz (by omega)).2 c hc).2, r3 z c hz hc, hSn, show (h 0 1 + 1).toNat = S + 1 by omega, sm_last, e2, e3]
          congr 1
          · refine sm_congr (fun k _ hk => ?_)
            have : k ≠ S := by omega
            rw [old k z (by omega) hz]; simp [up, this]
          · simp [up]
        · show g' 1 8 = sm (fun z => g' 2 (z * 19 + 0)) 0 10
          exact p9
      · obtain ⟨c1, c2, c3, c4⟩ := hR
        have eHV : HV (up h' 0 1 (h 0 1 + 1)) = HV h := by
          unfold HV hv1; rw [h0' 4 (by omega), h0' 10 (by omega), hh 4 (by omega), hh 8 (by omega), hh 12 (by omega)]
        refine ⟨?_, ?_, ?_, ?_⟩
        · show g' 1 9 = _; rw [eHV, k19]; exact c1
        · intro t ht h7
          have := c3 t
          rw [gg 7 (by omega)] at h7
          have h7' : g 7 t = g 1 6 + 1 := h7
          omega
        · intro t
          have := c3 t
          rw [gg 7 (by omega)]
          show 0 ≤ g 7 t ∧ g 7 t ≤ g 1 6 + 1
          omega
        · show 1 ≤ g 1 6 + 1 ∧ g 1 6 + 1 ≤ 10000; omega
      · show g 1 6 + 1 ≤ _; omega
      · unfold RWaves; rw [gg 20 (by omega), gg 21 (by omega), gg 22 (by omega), gg 23 (by omega), h0' 18 (by omega), hh 1 (by omega), hh 15 (by omega), hh 16 (by omega), hh 17 (by omega)]; exact hW
      · unfold RSet; rw [gg 0 (by omega), h0' 22 (by omega), h0' 23 (by omega), h0' 24 (by omega), h0' 25 (by omega)]; exact hS
      · unfold RShip RBody PlB WT; rw [gg 24 (by omega), gg (24 + 1) (by omega), gg 26 (by omega), gg 27 (by omega), h0' 26 (by omega), h0' 15 (by omega), hh 18 (by omega), hh 19 (by omega), hh 20 (by omega), hh 21 (by omega), hh 22 (by omega), hh 23 (by omega), hh 24 (by omega), hh 25 (by omega), hh 26 (by omega)]; exact hB
      · unfold RDiary; rw [gg 33 (by omega), gg 34 (by omega), gg 35 (by omega), gg 36 (by omega), h0' 26 (by omega), hh 27 (by omega), hh 28 (by omega), hh 29 (by omega), hh 30 (by omega), hh 31 (by omega)]; exact hD
      · unfold RText; rw [gg 37 (by omega), gg 38 (by omega), h0' 48 (by omega), hh 35 (by omega)]; exact hT
      · unfold RRules RCl; rw [gg 0 (by omega), gg (47 + 1) (by omega), gg (47 + 3) (by omega), gg (47 + 4) (by omega), gg (52 + 1) (by omega), gg (52 + 3) (by omega), gg (52 + 4) (by omega), hh 41 (by omega), hh 42 (by omega), hh 43 (by omega), hh 44 (by omega)]; exact hU
      · unfold RRoute RtB qs QS; rw [gg 41 (by omega), gg 42 (by omega), gg 43 (by omega), h0' 41 (by omega), h0' 44 (by omega), hh 32 (by omega), hh 33 (by omega)]; exact hO
      · unfold RTape; rw [gg 44 (by omega), gg 45 (by omega), h0' 45 (by omega), hh 34 (by omega)]; exact hP
  · have : ¬ (1 ≤ a0 ∧ a0 ≤ 20) ∨ ((1 ≤ a0 ∧ a0 ≤ 20) ∧ ¬ (0 ≤ a1 ∧ a1 ≤ 99999)) ∨ ((1 ≤ a0 ∧ a0 ≤ 20) ∧ (0 ≤ a1 ∧ a1 ≤ 99999) ∧ ¬ (0 ≤ a2 ∧ a2 ≤ 99999)) := by omega
    rcases this with z | ⟨z, z2⟩ | ⟨z, z2, z3⟩
    · simp (disch := omega) only [if_true, if_false, if_pos, if_neg, wr_0, wr_id, gd_i, bnd_e, bd_s, bd2_s, jn_e, Int.toNat_natCast, if_neg z]
      exact ⟨_, _, _, _, rfl, rfl, rfl, keep⟩
    · simp (disch := omega) only [if_true, if_false, if_pos, if_neg, wr_0, wr_id, gd_i, bnd_e, bd_s, bd2_s, jn_e, Int.toNat_natCast, if_pos z, if_neg z2]
      exact ⟨_, _, _, _, rfl, rfl, rfl, keep⟩
    · simp (disch := omega) only [if_true, if_false, if_pos, if_neg, wr_0, wr_id, gd_i, bnd_e, bd_s, bd2_s, jn_e, Int.toNat_natCast, if_pos z, if_pos z2, if_neg z3]
      exact ⟨_, _, _, _, rfl, rfl, rfl, keep⟩
