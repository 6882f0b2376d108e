/-! TRIED: the reference's loop, step by step -/
theorem up_self (h : Mem) (k j : Nat) : up h k j (h k j) = h := by
  funext a b; unfold up
  by_cases c : a = k ∧ b = j
  · rw [if_pos c, c.1, c.2]
  · rw [if_neg c]
def mx (p s : Int) : Int := if p < (s.natAbs : Int) then (s.natAbs : Int) else p
theorem mx_bd {p s : Int} (hp : 0 ≤ p ∧ p ≤ 80) (hs : -80 ≤ s ∧ s ≤ 80) : 0 ≤ mx p s ∧ mx p s ≤ 80 ∧ (s.natAbs : Int) ≤ mx p s ∧ p ≤ mx p s := by
  unfold mx; split <;> omega
theorem mx_id {p s : Int} (h : (s.natAbs : Int) ≤ p) : mx p s = p := by unfold mx; rw [if_neg (by omega)]
theorem try_step {m i : Nat} (hm : m ≤ 120) (hi : i ≤ m) {out was : Int} {h : Mem} (hn : 0 ≤ h 0 26 ∧ h 0 26 ≤ 600) (hp : 0 ≤ h 0 73 ∧ h 0 73 ≤ 80) (hs : -80 ≤ h 19 1 ∧ h 19 1 ≤ 80) (K : Int → Mem → Option Mem) (N : Nat) : fX12_tries_L131 (N + 1) m out was i h K = if i < m ∧ h 0 26 + (i : Int) < 600 then (bd2 (fX12_goesOn 1 (h 0 26 + (i : Int)) out (up h 0 73 (mx (h 0 73) (h 19 1)))) fun r g_48 => fX12_tries_L131 N m out was ((i + 1 : Nat) : Int) g_48 K) else fX12_tries_L131 N m out was ((i + 1 : Nat) : Int) (up h 0 73 (mx (h 0 73) (h 19 1))) K := by
  have d1 : ∀ k : Option Mem, gd 1 2 k = k := fun k => gd_i (by decide) (by decide) (by decide)
  have w1 : (wr 1).toNat = 1 := by decide
  have r1 : IR (m : Int) := by unfold IR; omega
  have r2 : IR (i : Int) := by unfold IR; omega
  have r3 : IR (h 0 73) := by unfold IR; omega
  have r4 : IR (h 19 1) := by unfold IR; omega
  have r5 : IR (-(h 19 1)) := by unfold IR; omega
  have r6 : IR (h 0 26 + (i : Int)) := by unfold IR; omega
  have fin : ∀ M : Mem, M 0 26 = h 0 26 → (if (m : Int) ≤ (i : Int) then fX12_tries_L131 N m out was ((i + 1 : Nat) : Int) M K else if 600 ≤ wr (M 0 26 + (i : Int)) then fX12_tries_L131 N m out was ((i + 1 : Nat) : Int) M K else bd2 (fX12_goesOn 1 (M 0 26 + (i : Int)) out M) fun r_46 g_48 => if wr r_46 = 0 then fX12_tries_L131 N m out was ((i + 1 : Nat) : Int) g_48 K else fX12_tries_L131 N m out was ((i + 1 : Nat) : Int) g_48 K) = if i < m ∧ h 0 26 + (i : Int) < 600 then (bd2 (fX12_goesOn 1 (h 0 26 + (i : Int)) out M) fun r g_48 => fX12_tries_L131 N m out was ((i + 1 : Nat) : Int) g_48 K) else fX12_tries_L131 N m out was ((i + 1 : Nat) : Int) M K := by
    intro M hM
    rw [hM, wr_id r6.1 r6.2]
    by_cases c : i < m
    · rw [if_neg (show ¬ (m : Int) ≤ (i : Int) by omega)]
      by_cases d : h 0 26 + (i : Int) < 600
      · rw [if_neg (show ¬ 600 ≤ h 0 26 + (i : Int) by omega), if_pos ⟨c, d⟩]
        congr 1
        funext r g_48
        split <;> rfl
      · rw [if_pos (show 600 ≤ h 0 26 + (i : Int) by omega), if_neg (fun z => d z.2)]
    · rw [if_pos (show (m : Int) ≤ (i : Int) by omega), if_neg (fun z => c z.1)]
  rw [fX12_tries_L131, if_neg (show ¬ wr (m : Int) < wr (i : Int) by rw [wr_id r1.1 r1.2, wr_id r2.1 r2.2]; omega)]
  simp only [d1, jn_e, bnd_e, w1, wr_id r1.1 r1.2, wr_id r2.1 r2.2, wr_id r3.1 r3.2, wr_id r4.1 r4.2, ncs]
  by_cases c : 0 ≤ h 19 1
  · rw [if_pos c]
    by_cases d : h 19 1 ≤ h 0 73
    · rw [if_pos d, show mx (h 0 73) (h 19 1) = h 0 73 from mx_id (by omega), up_self]; exact fin h rfl
    · rw [if_neg d, show mx (h 0 73) (h 19 1) = h 19 1 by unfold mx; rw [if_pos (by omega)]; omega]; exact fin _ rfl
  · rw [if_neg c, wr_id r5.1 r5.2]
    by_cases d : -(h 19 1) ≤ h 0 73
    · rw [if_pos d, show mx (h 0 73) (h 19 1) = h 0 73 from mx_id (by omega), up_self]; exact fin h rfl
    · rw [if_neg d, show mx (h 0 73) (h 19 1) = -(h 19 1) by unfold mx; rw [if_pos (by omega)]; omega]; exact fin _ rfl
theorem try_frozen {m : Nat} (hm : m ≤ 120) {out was : Int} (K : Int → Mem → Option Mem) : ∀ (k N i : Nat) (h : Mem), i + k = m → k + 1 < N → (0 ≤ h 0 26 ∧ h 0 26 ≤ 600) → (0 ≤ h 0 73 ∧ h 0 73 ≤ 80) → (-80 ≤ h 19 1 ∧ h 19 1 ≤ 80) → (h 23 1 = 1 ∨ 600 ≤ h 0 26 + (i : Int)) → ∃ h', fX12_tries_L131 N m out was i h K = K was h' ∧ h' 0 73 = mx (h 0 73) (h 19 1) ∧ (∀ a, a ≠ 0 → h' a = h a) ∧ (∀ b, b ≠ 70 → b ≠ 73 → h' 0 b = h 0 b) := by
  intro k
  induction k with
  | zero =>
    intro N i h hi hN hn hp hs hfr
    obtain ⟨N, rfl⟩ : ∃ x, N = x + 1 := ⟨N - 1, by omega⟩
    obtain ⟨N, rfl⟩ : ∃ x, N = x + 1 := ⟨N - 1, by omega⟩
    rw [try_step hm (by omega) hn hp hs, if_neg (by omega), fX12_tries_L131, if_pos (show wr (m : Int) < wr ((i + 1 : Nat) : Int) by rw [wr_id (by omega) (by omega), wr_id (by omega) (by omega)]; omega)]
    exact ⟨_, rfl, rfl, fun a z => up_ne z, fun b _ z => by rw [up_row, if_neg z]⟩
  | succ k ih =>
    intro N i h hi hN hn hp hs hfr
    obtain ⟨N, rfl⟩ : ∃ x, N = x + 1 := ⟨N - 1, by omega⟩
    have mb1 := mx_bd hp hs
    rw [try_step hm (by omega) hn hp hs]
    by_cases c : i < m ∧ h 0 26 + (i : Int) < 600
    · have ov : h 23 1 = 1 := by rcases hfr with z | z; exact z; omega
      obtain ⟨t, ht⟩ : ∃ t : Nat, h 0 26 + (i : Int) = t := ⟨(h 0 26 + (i : Int)).toNat, by omega⟩
      rw [if_pos c, ht, goesM_over1 (h := up h 0 73 (mx (h 0 73) (h 19 1))) ov, bd2_s]
      obtain ⟨h', e1, e2, e3, e4⟩ := ih N (i + 1) (up (up h 0 73 (mx (h 0 73) (h 19 1))) 0 70 0) (by omega) (by omega) hn ⟨mb1.1, mb1.2.1⟩ hs (.inl ov)
      refine ⟨h', e1, ?_, fun a z => by rw [e3 a z, up_ne z, up_ne z], fun b z1 z2 => by rw [e4 b z1 z2, up_row, if_neg z1, up_row, if_neg z2]⟩
      rw [e2]; exact mx_id mb1.2.2.1
    · rw [if_neg c]
      obtain ⟨h', e1, e2, e3, e4⟩ := ih N (i + 1) (up h 0 73 (mx (h 0 73) (h 19 1))) (by omega) (by omega) hn ⟨mb1.1, mb1.2.1⟩ hs (.inr (by show 600 ≤ h 0 26 + ((i + 1 : Nat) : Int); omega))
      refine ⟨h', e1, ?_, fun a z => by rw [e3 a z, up_ne z], fun b z1 z2 => by rw [e4 b z1 z2, up_row, if_neg z2]⟩
      rw [e2]; exact mx_id mb1.2.2.1
/-- what a trial leaves of the reference's memory -/
def XK (h h' : Mem) : Prop := (∀ a, (0 < a ∧ a < 18) ∨ (26 < a ∧ a ≠ 47 ∧ a ≠ 48) → h' a = h a) ∧ (∀ b, (b ≠ 66 ∧ b ≠ 67 ∧ b ≠ 70 ∧ b ≠ 73) → h' 0 b = h 0 b) ∧ (∀ j, j < 12 → h' 18 j = h 18 j) ∧ (h' 19 0 = h 19 0 ∧ h' 20 0 = h 20 0 ∧ h' 21 0 = h 21 0 ∧ h' 22 0 = h 22 0 ∧ h' 23 0 = h 23 0) ∧ (∀ j, j < 6 → h' 24 j = h 24 j ∧ h' 25 j = h 25 j) ∧ (∀ j, j < 4 → h' 26 j = h 26 j)
theorem XK_trans {a b c : Mem} (x : XK a b) (y : XK b c) : XK a c := by
  obtain ⟨x1, x2, x3, ⟨x4, x5, x6, x7, x8⟩, x9, x10⟩ := x
  obtain ⟨y1, y2, y3, ⟨y4, y5, y6, y7, y8⟩, y9, y10⟩ := y
  exact ⟨fun k z => (y1 k z).trans (x1 k z), fun k z => (y2 k z).trans (x2 k z), fun k z => (y3 k z).trans (x3 k z), ⟨y4.trans x4, y5.trans x5, y6.trans x6, y7.trans x7, y8.trans x8⟩, fun k z => ⟨(y9 k z).1.trans (x9 k z).1, (y9 k z).2.trans (x9 k z).2⟩, fun k z => (y10 k z).trans (x10 k z)⟩
theorem XK_LK {h h' : Mem} (l : LK_1 h h') : XK h h' := by
  obtain ⟨⟨l1, l2⟩, l3, l4, l5, l6⟩ := l
  exact ⟨l1, fun b z => l2 b ⟨z.1, z.2.1, z.2.2.1⟩, fun j z => l3 j (by omega), l4 0 (by omega), fun j z => l5 j (by omega), fun j z => l6 j (by omega)⟩
theorem XK_rows {h h' : Mem} (H : ∀ a, a ≠ 0 → h' a = h a) (H0 : ∀ b, b ≠ 70 → b ≠ 73 → h' 0 b = h 0 b) : XK h h' :=
  ⟨fun a z => H a (by omega), fun b z => H0 b z.2.2.1 z.2.2.2, fun j _ => by rw [H 18 (by omega)], ⟨by rw [H 19 (by omega)], by rw [H 20 (by omega)], by rw [H 21 (by omega)], by rw [H 22 (by omega)], by rw [H 23 (by omega)]⟩, fun j _ => ⟨by rw [H 24 (by omega)], by rw [H 25 (by omega)]⟩, fun j _ => by rw [H 26 (by omega)]⟩
theorem St_rows {g h h' : Mem} (S : St g h) (H : ∀ a, a ≠ 0 → h' a = h a) (H0 : ∀ b, b ≠ 70 → b ≠ 73 → h' 0 b = h 0 b) : St g h' := by
  have := St_fr (g' := g) (h' := up h' 0 73 (h 0 73)) S (fun _ _ => rfl) ⟨fun a z => by rw [up_ne (by omega), H a (by omega)], fun b z => by
    rw [up_row]
    by_cases c : b = 73
    · rw [if_pos c, c]
    · rw [if_neg c, H0 b z.2.2 c]⟩ S.2.2.2.1
  exact this
theorem try_loop {m : Nat} (hm : m ≤ 120) {out was now : Int} (hout : 0 ≤ out ∧ out ≤ 9) (hnow : 0 ≤ now ∧ now ≤ 600) (K : Int → Mem → Option Mem) : ∀ (k N N2 i : Nat) (g h : Mem) (w : Int), i + k = m → k + 1 < N → k + 1 < N2 → h 0 26 = now → (now + (i : Int) ≤ 600) → St g h → RBody 28 1 (now + (i : Int)) g h → g 28 3 = now + (i : Int) → (0 ≤ h 0 73 ∧ h 0 73 ≤ 80) → w = mx (h 0 73) (h 19 1) → ∃ (g' h' : Mem) (w' : Int), fX11_tryOut_L25 N m out w i g = some (w', g') ∧ fX12_tries_L131 N2 m out was i h K = K was h' ∧ h' 0 73 = w' ∧ (0 ≤ w' ∧ w' ≤ 80) ∧ St g' h' ∧ g' 28 7 = h' 21 1 ∧ g' 28 8 = h' 22 1 ∧ BK_28 g g' ∧ XK h h' := by
  intro k
  induction k with
  | zero =>
    intro N N2 i g h w hi hN hN2 hn hn6 S RB g3 hp hw
    obtain ⟨q1, q2, q3, q4, q5, q6, q7, q8, q9, -⟩ := id RB
    have mb1 := mx_bd hp q1
    obtain ⟨N, rfl⟩ : ∃ x, N = x + 1 := ⟨N - 1, by omega⟩
    obtain ⟨N2, rfl⟩ : ∃ x, N2 = x + 1 := ⟨N2 - 1, by omega⟩
    obtain ⟨N2, rfl⟩ : ∃ x, N2 = x + 1 := ⟨N2 - 1, by omega⟩
    have wa : wr (m : Int) ≤ wr (i : Int) := by rw [wr_id (by omega) (by omega), wr_id (by omega) (by omega)]; omega
    have wb : wr (m : Int) < wr ((i + 1 : Nat) : Int) := by rw [wr_id (by omega) (by omega), wr_id (by omega) (by omega)]; omega
    have nc : ¬ (i < m ∧ h 0 26 + (i : Int) < 600) := by omega
    rw [fX11_tryOut_L25, if_pos wa, try_step hm (by omega) (by omega) hp q1, if_neg nc, fX12_tries_L131, if_pos wb]
    exact ⟨g, _, w, rfl, rfl, by rw [hw]; rfl, by rw [hw]; exact ⟨mb1.1, mb1.2.1⟩, S, q6, q7, fun _ _ => rfl, XK_rows (fun a z => up_ne z) (fun b _ z => by rw [up_row, if_neg z])⟩
  | succ k ih =>
    intro N N2 i g h w hi hN hN2 hn hn6 S RB g3 hp hw
    obtain ⟨q1, q2, q3, q4, q5, q6, q7, q8, q9, -⟩ := id RB
    have mb1 := mx_bd hp q1
    obtain ⟨N, rfl⟩ : ∃ x, N = x + 1 := ⟨N - 1, by omega⟩
    have wa : ¬ wr (m : Int) ≤ wr (i : Int) := by rw [wr_id (by omega) (by omega), wr_id (by omega) (by omega)]; omega
    have w3 : wr (now + (i : Int)) = now + (i : Int) := wr_id (by omega) (by omega)
    have froz : (h 23 1 = 1 ∨ 600 ≤ h 0 26 + (i : Int)) → ∃ (g' h' : Mem) (w' : Int), some (w, g) = some (w', g') ∧ fX12_tries_L131 N2 m out was i h K = K was h' ∧ h' 0 73 = w' ∧ (0 ≤ w' ∧ w' ≤ 80) ∧ St g' h' ∧ g' 28 7 = h' 21 1 ∧ g' 28 8 = h' 22 1 ∧ BK_28 g g' ∧ XK h h' := by
      intro hz
      clear w3 wa
      obtain ⟨h', e1, e2, e3, e4⟩ := try_frozen hm (out := out) (was := was) K (k + 1) N2 i h hi (by omega) (by omega) hp q1 hz
      exact ⟨g, h', w, rfl, e1, by rw [e2, hw], by rw [hw]; exact ⟨mb1.1, mb1.2.1⟩, St_rows S e3 e4, by rw [e3 21 (by omega)]; exact q6, by rw [e3 22 (by omega)]; exact q7, fun _ _ => rfl, XK_rows e3 e4⟩
    rw [fX11_tryOut_L25, if_neg wa, g3, w3]
    clear w3 wa
    by_cases c : 600 ≤ now + (i : Int)
    · rw [if_pos c]; exact froz (.inr (by omega))
    · rw [if_neg c]
      rcases q8 with z | z
      · rw [q9, z, if_pos (show wr 0 = 0 by decide)]
        obtain ⟨t, ht⟩ : ∃ t : Nat, now + (i : Int) = t := ⟨(now + (i : Int)).toNat, by omega⟩
        obtain ⟨N2, rfl⟩ : ∃ x, N2 = x + 1 := ⟨N2 - 1, by omega⟩
        rw [ht] at RB
        obtain ⟨g1, h1, r, e1, e2, e3, e4, e5, e6, e7, e8, e9, e10, -⟩ := tick_28 (t := t) (out := out) (g := g) (h := up h 0 73 (mx (h 0 73) (h 19 1))) S RB (by omega) (by rw [g3, ht]) z hout
        have cc : i < m ∧ h 0 26 + (i : Int) < 600 := by omega
        rw [e1, bd_s, try_step hm (by omega) (by omega) hp q1, if_pos cc, hn, ht, e2, bd2_s, bnd_e, bnd_e, ncs]
        have k73 : h1 0 73 = mx (h 0 73) (h 19 1) := by rw [e10.1.2 73 (by omega)]; rfl
        have k26 : h1 0 26 = now := by rw [e10.1.2 26 (by omega)]; exact hn
        have x1 := e4.1
        have x2 := e4.2.1
        have et : now + ((i + 1 : Nat) : Int) = (t : Int) + 1 := by omega
        have hw2 : mMax w (mAbs (g1 28 4)) = mx (h1 0 73) (h1 19 1) := by
          rw [x2, k73, ← hw, mAbs_e (by omega), mMax_e (by omega) (by omega)]; rfl
        obtain ⟨g', h', w', f1, f2, f3, f4, f5, f6, f7, f8, f9⟩ := ih N N2 (i + 1) g1 h1 (mMax w (mAbs (g1 28 4))) (by omega) (by omega) (by omega) k26 (by omega) e3 (by rw [et]; exact e4) (by rw [e5, et]) (by rw [k73]; exact ⟨mb1.1, mb1.2.1⟩) hw2
        exact ⟨g', h', w', f1, f2, f3, f4, f5, f6, f7, fun a za => by rw [f8 a za, e9 a za], XK_trans (XK_rows (fun a z => up_ne z) (fun b _ z => by rw [up_row, if_neg z])) (XK_trans (XK_LK e10) f9)⟩
      · rw [q9, z, if_neg (show ¬ wr 1 = 0 by decide)]; exact froz (.inl z)
