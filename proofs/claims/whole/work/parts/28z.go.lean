/-! GO: tick by tick -/
theorem keep_row {P : Nat → Prop} {now : Int} {t : Nat} (hn : now = (t : Int)) (h1 : P t) (h2 : ∀ j : Nat, (j : Int) < now → P j) : ∀ j : Nat, (j : Int) < now + 1 → P j := by
  intro j hj
  by_cases c : j = t
  · subst c; exact h1
  · exact h2 j (by omega)
theorem go_step {n : Nat} {g h : Mem} (R : RR n g h) (hlt : h 0 26 < 600) {a i : Int} (ha : 0 ≤ a ∧ a ≤ 100) (hi : 0 ≤ i ∧ i < a) (N N2 : Nat) (K K2 : Mem → Option (Int × Mem)) : ∃ g1 h1, fX11_go_L14 (N + 1) a i g K = fX11_go_L14 N a (i + 1) g1 K ∧ fX12_go_L14 (N2 + 1) a i h K2 = fX12_go_L14 N2 a (i + 1) h1 K2 ∧ RR n g1 h1 := by
  obtain ⟨hC, hM, hH, ⟨hR, hv⟩, hW, hS, hB, hD, hT, hU, hO, hP⟩ := id R
  obtain ⟨t1, t2, t3, t4, t5⟩ := id hB
  obtain ⟨t, ht⟩ : ∃ t : Nat, h 0 26 = t := ⟨(h 0 26).toNat, by omega⟩
  have wa : ¬ wr a ≤ wr i := by rw [wr_id (by omega) (by omega), wr_id (by omega) (by omega)]; omega
  have wn : ¬ 600 ≤ wr (h 0 26) := by rw [wr_id (by omega) (by omega)]; omega
  have w26 : (wr (h 0 26)).toNat = t := by rw [wr_id (by omega) (by omega)]; omega
  have d600 : ∀ k : Option (Int × Mem), gd (h 0 26) 600 k = k := fun k => gd_i (by omega) (by omega) (by omega)
  have dz : ∀ k : Option (Int × Mem), gd 0 2 k = k := fun k => gd_i (by decide) (by decide) (by decide)
  have w0 : (wr 0).toNat = 0 := by decide
  have q8 := t3.2.2.2.2.2.2.2.1
  have q9 := t3.2.2.2.2.2.2.2.2.1
  rcases q8 with z | z
  · /- a body that goes on -/
    rw [ht] at t3
    obtain ⟨g', h', r, e1, e2, e3, e4, e5, e6, e7, e8, e9, e10, e11, e12⟩ := tick_24 (t := t) (out := h 0 25) ⟨hC, hM, hH, hR, hW, hS, hU⟩ t3 (by omega) (by rw [t2, ht]) z ⟨hS.2.2.2.2.1, hS.2.2.2.2.2⟩
    have h26 : h' 0 26 = (t : Int) := by rw [e10.1.2 26 (by omega)]; exact ht
    have hr01 : r = 0 ∨ r = 1 := by rcases e8 with x | x; exact .inr x.1; exact .inl x.1
    have fl := floats_e e3.1.1 e3.2.2.1 e3.2.2.2.1 (s := 0) (by omega)
    have hFl : Fl h' 0 ↔ Fl h 0 := by rw [HK_Fl e10.1]
    have g16 : g' 0 16 = h' 0 24 := e3.2.2.2.2.2.1.2.2.1.1
    have b24 := e3.2.2.2.2.2.1.2.2.1.2
    obtain ⟨inr, kf, hin⟩ : ∃ inr : Int, (bd (fX3_floats g') fun r_12 => jn (fun (v_14 : Int) => bd (fX2_keep ((g' 24 3) - 1) v_14 g') fun g_17 => bnd (i + 1) fun x_7 => fX11_go_L14 N a x_7 g_17 K) fun J105 => if wr r_12 = 0 then (J105 0) else (J105 (g' 0 16))) = (bd (fX2_keep ((g' 24 3) - 1) inr g') fun g_17 => fX11_go_L14 N a (i + 1) g_17 K) ∧ ((r = 1 ∧ inr = h' 0 24) ∨ (r = 0 ∧ inr = 0)) := by
      rcases fl with ⟨x, y⟩ | ⟨x, y⟩
      · refine ⟨h' 0 24, ?_, .inl ⟨?_, rfl⟩⟩
        · rw [y, bd_s, jn_e, if_neg (show ¬ wr 1 = 0 by decide), g16]; rfl
        · rcases e8 with w | w
          · exact w.1
          · exact absurd (hFl.1 x) w.2
      · refine ⟨0, ?_, .inr ⟨?_, rfl⟩⟩
        · rw [y, bd_s, jn_e, if_pos (show wr 0 = 0 by decide)]; rfl
        · rcases e8 with w | w
          · exact absurd (hFl.2 w.2) x
          · exact w.1
    have tt : (g' 24 3 - 1) = (t : Int) := by rw [e5]; omega
    have kp : fX2_keep ((g' 24 3) - 1) inr g' = some (up (up (up (up g' 33 t (g' 24 4)) 34 t (g' 24 5)) 35 t (g' 24 6)) 36 t inr) := by
      rw [tt]; unfold fX2_keep
      simp (disch := omega) only [if_true, if_false, if_pos, if_neg, wr_0, wr_id, gd_i, bnd_e, bd_s, bd2_s, jn_e, Int.toNat_natCast]
      rfl
    refine ⟨up (up (up (up g' 33 t (g' 24 4)) 34 t (g' 24 5)) 35 t (g' 24 6)) 36 t inr, up (up (up (up (up (up h' 31 t r) 27 t (h' 19 0)) 28 t (h' 20 0)) 29 t (h' 0 70)) 30 t (h' 0 24)) 0 26 (h' 0 26 + 1), ?_, ?_, ?_⟩
    · rw [fX11_go_L14, t2, if_neg wa, if_neg wn, jn_e, q9, z, if_pos (show wr 0 = 0 by decide), hS.2.2.2.1, e1, bd_s]
      refine Eq.trans kf ?_
      rw [kp, bd_s]
    · have gM : ∀ (M : Mem) (k : Option (Int × Mem)), M 0 26 = (t : Int) → gd (M 0 26) 600 k = k := fun M k e => by rw [e]; exact gd_i (by omega) (by omega) (by omega)
      have wM : ∀ M : Mem, M 0 26 = (t : Int) → (wr (M 0 26)).toNat = t := fun M e => by rw [e, wr_id (by omega) (by omega)]; omega
      rw [fX12_go_L14, if_neg wa, if_neg wn, dz, w0, bnd_e, z, w26, ht, e2, bd2_s, ← ht, d600, gc_of hr01, bnd_e, jn_e, if_pos (show wr 0 = 0 by decide), dz]
      dsimp only
      rw [gM (up h' 31 t r) _ h26, wM (up h' 31 t r) h26, bnd_e, jn_e, if_pos (show wr 0 = 0 by decide), dz]
      dsimp only
      rw [gM (up (up h' 31 t r) 27 t (up h' 31 t r 19 0)) _ h26, wM (up (up h' 31 t r) 27 t (up h' 31 t r 19 0)) h26, bnd_e]
      rw [gM (up (up (up h' 31 t r) 27 t (up h' 31 t r 19 0)) 28 t (up (up h' 31 t r) 27 t (up h' 31 t r 19 0) 20 0)) _ h26, wM (up (up (up h' 31 t r) 27 t (up h' 31 t r 19 0)) 28 t (up (up h' 31 t r) 27 t (up h' 31 t r 19 0) 20 0)) h26, bnd_e]
      rw [gM (up (up (up (up h' 31 t r) 27 t (up h' 31 t r 19 0)) 28 t (up (up h' 31 t r) 27 t (up h' 31 t r 19 0) 20 0)) 29 t (up (up (up h' 31 t r) 27 t (up h' 31 t r 19 0)) 28 t (up (up h' 31 t r) 27 t (up h' 31 t r 19 0) 20 0) 0 70)) _ h26, wM (up (up (up (up h' 31 t r) 27 t (up h' 31 t r 19 0)) 28 t (up (up h' 31 t r) 27 t (up h' 31 t r 19 0) 20 0)) 29 t (up (up (up h' 31 t r) 27 t (up h' 31 t r 19 0)) 28 t (up (up h' 31 t r) 27 t (up h' 31 t r 19 0) 20 0) 0 70)) h26, bnd_e, bnd_e, bnd_e]
      rfl
    · have gk : ∀ a, (a < 4 ∨ (7 < a ∧ a ≠ 24 ∧ a ≠ 24 + 1 ∧ a ≠ 24 + 2 ∧ a ≠ 24 + 3 ∧ a ≠ 46 ∧ a ≠ 49 ∧ a ≠ 54)) → g' a = g a := e9
      have hk := e10.1.1
      have hk0 := e10.1.2
      obtain ⟨x1, x2, x3, x4, -⟩ := id e4
      refine ⟨e3.1, e3.2.1, e3.2.2.1, ⟨e3.2.2.2.1, ?_⟩, e3.2.2.2.2.1, e3.2.2.2.2.2.1, ⟨?_, ?_, ?_, ?_, ?_⟩, ⟨?_, ?_⟩, ?_, e3.2.2.2.2.2.2, ?_, ?_⟩
      · show g' 1 6 ≤ _; rw [gk 1 (by omega)]; exact hv
      · show 0 ≤ h' 0 26 + 1 ∧ h' 0 26 + 1 ≤ 600; omega
      · show g' 24 3 = h' 0 26 + 1; rw [e5, h26]
      · show RBody 24 0 (h' 0 26 + 1) _ _
        rw [h26]; exact e4
      · intro j hj
        have := e11 (fun j hj => by rw [show 6 * 0 + j = j by omega]; exact t4 j hj) j hj
        rw [show 6 * 0 + j = j by omega] at this
        exact this
      · intro j hj
        have := e12 (fun j hj => by rw [Nat.zero_add]; exact t5 j hj) j hj
        rw [Nat.zero_add] at this
        exact this
      · intro j hj
        have hj2 : (j : Int) < h' 0 26 + 1 := hj
        by_cases c : j = t
        · subst c
          simp only [up_row, up_ne (show (33 : Nat) ≠ 36 by decide), up_ne (show (33 : Nat) ≠ 35 by decide), up_ne (show (33 : Nat) ≠ 34 by decide), up_ne (show (34 : Nat) ≠ 36 by decide), up_ne (show (34 : Nat) ≠ 35 by decide), up_ne (show (35 : Nat) ≠ 36 by decide), up_ne (show (27 : Nat) ≠ 0 by decide), up_ne (show (27 : Nat) ≠ 30 by decide), up_ne (show (27 : Nat) ≠ 29 by decide), up_ne (show (27 : Nat) ≠ 28 by decide), up_ne (show (28 : Nat) ≠ 0 by decide), up_ne (show (28 : Nat) ≠ 30 by decide), up_ne (show (28 : Nat) ≠ 29 by decide), up_ne (show (29 : Nat) ≠ 0 by decide), up_ne (show (29 : Nat) ≠ 30 by decide), up_ne (show (30 : Nat) ≠ 0 by decide), up_ne (show (31 : Nat) ≠ 0 by decide), up_ne (show (31 : Nat) ≠ 30 by decide), up_ne (show (31 : Nat) ≠ 29 by decide), up_ne (show (31 : Nat) ≠ 28 by decide), up_ne (show (31 : Nat) ≠ 27 by decide), if_true]
          refine ⟨x2, x4, e6, x1, x3, e7, ?_⟩
          rcases hin with ⟨y1, y2⟩ | ⟨y1, y2⟩
          · exact .inl ⟨y1, y2, b24⟩
          · exact .inr ⟨y1, y2⟩
        · have old := hD.1 j (by omega)
          have m : ∀ x y z w, up (up (up (up g' 33 t x) 34 t y) 35 t z) 36 t w 33 j = g 33 j ∧ up (up (up (up g' 33 t x) 34 t y) 35 t z) 36 t w 34 j = g 34 j ∧ up (up (up (up g' 33 t x) 34 t y) 35 t z) 36 t w 35 j = g 35 j ∧ up (up (up (up g' 33 t x) 34 t y) 35 t z) 36 t w 36 j = g 36 j := fun x y z w => by
            rw [← gk 33 (by omega), ← gk 34 (by omega), ← gk 35 (by omega), ← gk 36 (by omega)]; simp [up, c]
          have m2 : ∀ x y z w u v, up (up (up (up (up (up h' 31 t x) 27 t y) 28 t z) 29 t w) 30 t u) 0 26 v 27 j = h 27 j ∧ up (up (up (up (up (up h' 31 t x) 27 t y) 28 t z) 29 t w) 30 t u) 0 26 v 28 j = h 28 j ∧ up (up (up (up (up (up h' 31 t x) 27 t y) 28 t z) 29 t w) 30 t u) 0 26 v 29 j = h 29 j ∧ up (up (up (up (up (up h' 31 t x) 27 t y) 28 t z) 29 t w) 30 t u) 0 26 v 30 j = h 30 j ∧ up (up (up (up (up (up h' 31 t x) 27 t y) 28 t z) 29 t w) 30 t u) 0 26 v 31 j = h 31 j := fun x y z w u v => by
            rw [← hk 27 (by omega), ← hk 28 (by omega), ← hk 29 (by omega), ← hk 30 (by omega), ← hk 31 (by omega)]; simp [up, c]
          obtain ⟨r1, r2, r3, r4⟩ := m (g' 24 4) (g' 24 5) (g' 24 6) inr
          obtain ⟨o1, o2, o3, o4, o5⟩ := m2 r (h' 19 0) (h' 20 0) (h' 0 70) (h' 0 24) (h' 0 26 + 1)
          rw [r1, r2, r3, r4, o1, o2, o3, o4, o5]; exact old
      · intro j hj
        have hj2 : h' 0 26 + 1 ≤ (j : Int) := hj
        have c : j ≠ t := by omega
        have old := hD.2 j (by omega)
        rw [← gk 33 (by omega), ← gk 34 (by omega), ← gk 35 (by omega), ← gk 36 (by omega)] at old
        simpa [up, c] using old
      · show RText g' h'; unfold RText; rw [gk 37 (by omega), gk 38 (by omega), hk0 48 (by omega), hk 35 (by omega)]; exact hT
      · show RRoute g' h'; unfold RRoute RtB qs QS; rw [gk 41 (by omega), gk 42 (by omega), gk 43 (by omega), hk0 41 (by omega), hk0 44 (by omega), hk 32 (by omega), hk 33 (by omega)]; exact hO
      · show RTape g' h'; unfold RTape; rw [gk 44 (by omega), gk 45 (by omega), hk0 45 (by omega), hk 34 (by omega)]; exact hP
  · /- one that is OVER -/
    have h26 : up h 0 70 0 0 26 = (t : Int) := ht
    refine ⟨up g 24 3 (g 24 3 + 1), up (up (up (up (up (up (up h 0 70 0) 31 t 0) 27 t 0) 28 t 0) 29 t 0) 30 t (h 0 24)) 0 26 (h 0 26 + 1), ?_, ?_, ?_⟩
    · rw [fX11_go_L14, if_neg wa, if_neg (show ¬ 600 ≤ wr (g 24 3) by rw [t2]; exact wn), jn_e, q9, z, if_neg (show ¬ wr 1 = 0 by decide), bnd_e]
      rfl
    · have gM : ∀ (M : Mem) (k : Option (Int × Mem)), M 0 26 = (t : Int) → gd (M 0 26) 600 k = k := fun M k e => by rw [e]; exact gd_i (by omega) (by omega) (by omega)
      have wM : ∀ M : Mem, M 0 26 = (t : Int) → (wr (M 0 26)).toNat = t := fun M e => by rw [e, wr_id (by omega) (by omega)]; omega
      rw [fX12_go_L14, if_neg wa, if_neg wn, dz, w0, bnd_e, z, w26, ht, goesM_over0 z, bd2_s, ← ht, d600, gc_of (.inl rfl), bnd_e, jn_e, if_neg (show ¬ wr 1 = 0 by decide)]
      dsimp only
      rw [gM (up (up h 0 70 0) 31 t 0) _ h26, wM (up (up h 0 70 0) 31 t 0) h26, bnd_e, jn_e, if_neg (show ¬ wr 1 = 0 by decide)]
      dsimp only
      rw [gM (up (up (up h 0 70 0) 31 t 0) 27 t 0) _ h26, wM (up (up (up h 0 70 0) 31 t 0) 27 t 0) h26, bnd_e]
      rw [gM (up (up (up (up h 0 70 0) 31 t 0) 27 t 0) 28 t 0) _ h26, wM (up (up (up (up h 0 70 0) 31 t 0) 27 t 0) 28 t 0) h26, bnd_e]
      rw [gM (up (up (up (up (up h 0 70 0) 31 t 0) 27 t 0) 28 t 0) 29 t (up (up (up (up h 0 70 0) 31 t 0) 27 t 0) 28 t 0 0 70)) _ h26, wM (up (up (up (up (up h 0 70 0) 31 t 0) 27 t 0) 28 t 0) 29 t (up (up (up (up h 0 70 0) 31 t 0) 27 t 0) 28 t 0 0 70)) h26, bnd_e, bnd_e, bnd_e]
      rfl
    · obtain ⟨x1, x2, x3, x4, x5, x6, x7, x8, x9, x10, x11, x12, x13, x14⟩ := id t3
      refine ⟨hC, hM, hH, ⟨hR, hv⟩, hW, hS, ⟨?_, ?_, ⟨x1, x2, x3, x4, ?_, x6, x7, x8, x9, x10, x11, x12, x13, x14⟩, t4, t5⟩, ⟨?_, ?_⟩, hT, hU, hO, hP⟩
      · show 0 ≤ h 0 26 + 1 ∧ h 0 26 + 1 ≤ 600; omega
      · show g 24 3 + 1 = h 0 26 + 1; rw [t2]
      · show 0 ≤ h 21 0 ∧ h 21 0 ≤ 26 * (h 0 26 + 1); omega
      · intro j hj
        have hj2 : (j : Int) < h 0 26 + 1 := hj
        by_cases c : j = t
        · subst c
          have old := hD.2 j (by omega)
          refine ⟨?_, ?_, ?_, ?_, ?_, ?_, .inr ⟨?_, ?_⟩⟩
          · show g 33 j = _; rw [old.1]; simp [up]
          · show g 34 j = _; rw [old.2.1]; simp [up]
          · show g 35 j = _; rw [old.2.2.1]; simp [up]
          · simp [up]
          · simp [up]
          · simp [up]
          · simp [up]
          · exact old.2.2.2
        · have old := hD.1 j (by omega)
          simpa [up, c] using old
      · intro j hj
        have hj2 : h 0 26 + 1 ≤ (j : Int) := hj
        exact hD.2 j (by omega)
theorem go_loop {n : Nat} {a : Int} (ha : 0 ≤ a ∧ a ≤ 100) (K K2 : Mem → Option (Int × Mem)) : ∀ (k N N2 : Nat) (i : Int) (g h : Mem), 0 ≤ i → i + k = a → k < N → k < N2 → RR n g h → ∃ g' h', fX11_go_L14 N a i g K = K g' ∧ fX12_go_L14 N2 a i h K2 = K2 h' ∧ RR n g' h' := by
  intro k
  induction k with
  | zero =>
    intro N N2 i g h hi hk hN hN2 R
    obtain ⟨N, rfl⟩ : ∃ m, N = m + 1 := ⟨N - 1, by omega⟩
    obtain ⟨N2, rfl⟩ : ∃ m, N2 = m + 1 := ⟨N2 - 1, by omega⟩
    have wa : wr a ≤ wr i := by rw [wr_id (by omega) (by omega), wr_id (by omega) (by omega)]; omega
    rw [fX11_go_L14, fX12_go_L14, if_pos wa, if_pos wa]
    exact ⟨g, h, rfl, rfl, R⟩
  | succ k ih =>
    intro N N2 i g h hi hk hN hN2 R
    obtain ⟨N, rfl⟩ : ∃ m, N = m + 1 := ⟨N - 1, by omega⟩
    obtain ⟨N2, rfl⟩ : ∃ m, N2 = m + 1 := ⟨N2 - 1, by omega⟩
    by_cases c : h 0 26 < 600
    · obtain ⟨g1, h1, e1, e2, e3⟩ := go_step R c ha (i := i) (by omega) N N2 K K2
      rw [e1, e2]
      exact ih N N2 (i + 1) g1 h1 (by omega) (by omega) (by omega) (by omega) e3
    · have t1 := R.2.2.2.2.2.2.1.1
      have t2 := R.2.2.2.2.2.2.1.2.1
      have wa : ¬ wr a ≤ wr i := by rw [wr_id (by omega) (by omega), wr_id (by omega) (by omega)]; omega
      have wn : 600 ≤ wr (h 0 26) := by rw [wr_id (by omega) (by omega)]; omega
      rw [fX11_go_L14, fX12_go_L14, if_neg wa, if_neg wa, if_pos wn, if_pos (by rw [t2]; exact wn)]
      exact ⟨g, h, rfl, rfl, R⟩
theorem S_go : Sim_go RR := by
  intro n g h a0 hn R h0
  have keep : RR (n + 1) g h := RR_mono n (n + 1) g h (by omega) R
  unfold IR at h0
  unfold fX11_go fX12_go
  rw [within_e h0 (by omega) (by omega), in_e h0 (by omega) (by omega), bd_s, bd_s]
  by_cases c : 0 ≤ a0 ∧ a0 ≤ 100
  · obtain ⟨F, hF, hF2⟩ := fuel_g
    simp only [if_pos c, if_neg (show ¬ wr 1 = 0 by decide)]
    obtain ⟨g', h', e1, e2, e3⟩ := go_loop c (fun (g_20 : Mem) => some (g_20 24 3, g_20)) (fun (g_30 : Mem) => some (g_30 0 26, g_30)) a0.toNat F F 0 g h (by omega) (by omega) (by omega) (by omega) keep
    rw [hF, e1, e2]
    exact ⟨_, _, _, _, rfl, rfl, by rw [e3.2.2.2.2.2.2.1.2.1], e3⟩
  · simp only [if_neg c, if_pos (show wr 0 = 0 by decide)]
    exact ⟨_, _, _, _, rfl, rfl, rfl, keep⟩
