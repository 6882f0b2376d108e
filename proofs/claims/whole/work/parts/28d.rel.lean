/-! THE RELATION -/
def RMarks (g h : Mem) : Prop := (0 ≤ h 0 15 ∧ h 0 15 ≤ 6) ∧ g 17 2 = h 0 15 ∧ g 18 = h 13 ∧ g 19 = h 14 ∧ (∀ j, -19 ≤ h 13 j ∧ h 13 j ≤ 19) ∧ (∀ j, 0 ≤ h 14 j ∧ h 14 j ≤ 40)
def RSet (g h : Mem) : Prop := (g 0 14 = h 0 22 ∧ 1 ≤ h 0 22 ∧ h 0 22 ≤ 1000000) ∧ (g 0 15 = h 0 23 ∧ 0 ≤ h 0 23 ∧ h 0 23 ≤ 50) ∧ (g 0 16 = h 0 24 ∧ 1 ≤ h 0 24 ∧ h 0 24 ≤ 50) ∧ (g 0 17 = h 0 25 ∧ 0 ≤ h 0 25 ∧ h 0 25 ≤ 9)
def WT (h : Mem) (lot : Nat) : Int := h 24 (6 * lot) + 2 * h 24 (6 * lot + 1) + 4 * h 24 (6 * lot + 2) + 8 * h 24 (6 * lot + 3) + 16 * h 24 (6 * lot + 4) + 32 * h 24 (6 * lot + 5)
def RBody (b lot : Nat) (T : Int) (g h : Mem) : Prop := (-80 ≤ h 19 lot ∧ h 19 lot ≤ 80) ∧ g b 4 = h 19 lot ∧ (-30 ≤ h 20 lot ∧ h 20 lot ≤ 30) ∧ g b 5 = h 20 lot ∧ (0 ≤ h 21 lot ∧ h 21 lot ≤ 26 * T) ∧ g b 7 = h 21 lot ∧ g b 8 = h 22 lot ∧ (h 23 lot = 0 ∨ h 23 lot = 1) ∧ g b 10 = h 23 lot ∧ (∀ j, j < 12 → g (b + 1) j = h 18 (12 * lot + j)) ∧ PlB h lot ∧ (∀ m, m < 6 → h 24 (6 * lot + m) = 0 ∨ h 24 (6 * lot + m) = 1) ∧ (∀ m : Nat, m < 6 → h 0 15 ≤ (m : Int) → h 24 (6 * lot + m) = 0) ∧ g b 9 = WT h lot
def RShip (g h : Mem) : Prop := (0 ≤ h 0 26 ∧ h 0 26 ≤ 600) ∧ g 24 3 = h 0 26 ∧ RBody 24 0 (h 0 26) g h ∧ (∀ j, j < 6 → g 26 j = h 25 j) ∧ (∀ j, j < 4 → g 27 j = h 26 j)
def RDiary (g h : Mem) : Prop := (∀ t : Nat, (t : Int) < h 0 26 → g 33 t = h 27 t ∧ g 34 t = h 28 t ∧ g 35 t = h 29 t ∧ (-80 ≤ h 27 t ∧ h 27 t ≤ 80) ∧ (-30 ≤ h 28 t ∧ h 28 t ≤ 30) ∧ (-1000 ≤ h 29 t ∧ h 29 t ≤ 1000) ∧ ((h 31 t = 1 ∧ g 36 t = h 30 t ∧ 1 ≤ h 30 t ∧ h 30 t ≤ 50) ∨ (h 31 t = 0 ∧ g 36 t = 0))) ∧ (∀ t : Nat, h 0 26 ≤ (t : Int) → g 33 t = 0 ∧ g 34 t = 0 ∧ g 35 t = 0 ∧ g 36 t = 0)
def RText (g h : Mem) : Prop := (0 ≤ h 0 48 ∧ h 0 48 ≤ 300) ∧ g 37 1 = h 0 48 ∧ (∀ j, -128 ≤ h 35 j ∧ h 35 j ≤ 127) ∧ (∀ j, g 38 j = h 35 j % 256)
/-- codes of both sides; and the run of types (true: so or not) -/
def CdR (x d w : Int) : Prop := (d = 0 ∧ x = w ∧ 0 ≤ w ∧ w ≤ 9999) ∨ (d = 1 ∧ x = 10000 + w ∧ 0 ≤ w ∧ w ≤ 6) ∨ (d = 10 ∧ x = 10010) ∨ (d = 9 ∧ x = 10011) ∨ (d = 11 ∧ x = 10012) ∨ (d = 6 ∧ x = 10013) ∨ (d = 7 ∧ x = 10014) ∨ (d = 8 ∧ x = 10015) ∨ (d = 2 ∧ x = 10016) ∨ (d = 3 ∧ x = 10017) ∨ (d = 4 ∧ x = 10018) ∨ (d = 5 ∧ x = 10019)
def tst (d : Int) (ts : List Bool) : Option (List Bool) :=
  if d = 0 ∨ d = 1 then some (false :: ts)
  else if d = 11 then (match ts with
    | true :: r => some (true :: r)
    | _ => none)
  else if 2 ≤ d ∧ d ≤ 5 then (match ts with
    | false :: false :: r => some (false :: r)
    | _ => none)
  else if 6 ≤ d ∧ d ≤ 8 then (match ts with
    | false :: false :: r => some (true :: r)
    | _ => none)
  else if 9 ≤ d ∧ d ≤ 10 then (match ts with
    | true :: true :: r => some (true :: r)
    | _ => none)
  else none
def tyr (f : Nat → Int) : Nat → Nat → List Bool → Option (List Bool)
  | _, 0, ts => some ts
  | i, k + 1, ts => match tst (f i) ts with
    | none => none
    | some ts' => if ts'.length ≤ 32 then tyr f (i + 1) k ts' else none
def RCl (r : Nat) (g h : Mem) (c : Nat) : Prop := (0 ≤ g (r + 3) c ∧ g (r + 3) c ≤ 300) ∧ (0 ≤ g (r + 4) c ∧ g (r + 4) c ≤ 300) ∧ ((h 43 c = -1 ∧ g (r + 4) c ≤ g (r + 3) c) ∨ (h 43 c = g (r + 3) c ∧ h 44 c = g (r + 4) c ∧ g (r + 3) c < g (r + 4) c ∧ (∀ k : Nat, g (r + 3) c ≤ (k : Int) → (k : Int) < g (r + 4) c → CdR (g (r + 1) k) (h 41 k) (h 42 k)) ∧ tyr (h 41) (h 43 c).toNat (h 44 c - h 43 c).toNat [] = some [true]))
def RRules (g h : Mem) : Prop := (g 0 12 = 47 ∧ g 0 13 = 52 ∧ RCl 47 g h 0 ∧ RCl 47 g h 1) ∨ (g 0 12 = 52 ∧ g 0 13 = 47 ∧ RCl 52 g h 0 ∧ RCl 52 g h 1)
def RR (n : Nat) (g h : Mem) : Prop := RCargo g h ∧ RMarks g h ∧ RHull g h ∧ (RC g h ∧ g 1 6 ≤ (n : Int) + 1) ∧ RWaves g h ∧ RSet g h ∧ RShip g h ∧ RDiary g h ∧ RText g h ∧ RRules g h ∧ RRoute g h ∧ RTape g h
theorem RR_mono (n m : Nat) (g h : Mem) (hnm : n ≤ m) (R : RR n g h) : RR m g h := by
  obtain ⟨hC, hM, hH, ⟨hR, hv⟩, hW, hS, hB, hD, hT, hU, hO, hP⟩ := R
  exact ⟨hC, hM, hH, ⟨hR, by omega⟩, hW, hS, hB, hD, hT, hU, hO, hP⟩
theorem isPoint_e {a b : Int} (ha : IR a) (hb : IR b) : fX11_isPoint a b = some (if (-19 ≤ a ∧ a ≤ 19) ∧ (0 ≤ b ∧ b ≤ 40) then 1 else 0) := by
  unfold IR at ha hb
  unfold fX11_isPoint
  rw [within_e ha (by omega) (by omega), within_e hb (by omega) (by omega)]
  simp only [bd_s]
  by_cases c : -19 ≤ a ∧ a ≤ 19
  · by_cases d : 0 ≤ b ∧ b ≤ 40
    · simp (disch := omega) only [if_true, if_false, if_pos, if_neg, wr_0, wr_id, gd_i, bnd_e, bd_s, bd2_s, jn_e, Int.toNat_natCast, if_pos c, if_pos d]
    · simp (disch := omega) only [if_true, if_false, if_pos, if_neg, wr_0, wr_id, gd_i, bnd_e, bd_s, bd2_s, jn_e, Int.toNat_natCast, if_pos c, if_neg d]
  · simp (disch := omega) only [if_true, if_false, if_pos, if_neg, wr_0, wr_id, gd_i, bnd_e, bd_s, bd2_s, jn_e, Int.toNat_natCast, if_neg c]
theorem up_bd {g : Mem} {k i : Nat} {v lo hi : Int} (H : ∀ j, lo ≤ g k j ∧ g k j ≤ hi) (hv : lo ≤ v ∧ v ≤ hi) : ∀ j, lo ≤ up g k i v k j ∧ up g k i v k j ≤ hi := by
  intro j; unfold up
  by_cases c : j = i
  · rw [if_pos ⟨rfl, c⟩]; exact hv
  · rw [if_neg (fun z => c z.2)]; exact H j
theorem up_eq {g h : Mem} {k k' i : Nat} {v : Int} (H : g k = h k') : up g k i v k = up h k' i v k' := by
  funext j; unfold up
  by_cases c : j = i
  · rw [if_pos ⟨rfl, c⟩, if_pos ⟨rfl, c⟩]
  · rw [if_neg (fun z => c z.2), if_neg (fun z => c z.2), H]
theorem S_mark : Sim_mark RR := by
  intro n g h a0 a1 hn R h0 h1
  obtain ⟨hC, hM, hH, ⟨hR, hv⟩, hW, hS, hB, hD, hT, hU, hO, hP⟩ := id R
  have keep : RR (n + 1) g h := RR_mono n (n + 1) g h (by omega) R
  unfold fX11_mark fX12_mark
  rw [isPoint_e h0 h1]
  unfold IR at h0 h1
  rw [in_e h0 (by omega) (by omega), in_e h1 (by omega) (by omega)]
  simp only [bd_s]
  obtain ⟨m1, m2, m3, m4, m5, m6⟩ := hM
  unfold fX4_addMark
  by_cases c : -19 ≤ a0 ∧ a0 ≤ 19
  · by_cases d : 0 ≤ a1 ∧ a1 ≤ 40
    · by_cases e : h 0 15 = 6
      · simp (disch := omega) only [if_true, if_false, if_pos, if_neg, wr_0, wr_id, gd_i, bnd_e, bd_s, bd2_s, jn_e, Int.toNat_natCast, if_pos c, if_pos d, m2]
        exact ⟨_, _, _, _, rfl, rfl, rfl, keep⟩
      · simp (disch := omega) only [if_true, if_false, if_pos, if_neg, wr_0, wr_id, gd_i, bnd_e, bd_s, bd2_s, jn_e, Int.toNat_natCast, if_pos c, if_pos d, m2]
        have u1 : ∀ v, up g 18 (h 0 15).toNat v 17 2 = h 0 15 := fun _ => m2
        have u2 : ∀ v w, up (up g 18 (h 0 15).toNat v) 19 (h 0 15).toNat w 17 2 = h 0 15 := fun _ _ => m2
        have u3 : ∀ v, up h 13 (h 0 15).toNat v 0 15 = h 0 15 := fun _ => rfl
        have u4 : ∀ v w, up (up h 13 (h 0 15).toNat v) 14 (h 0 15).toNat w 0 15 = h 0 15 := fun _ _ => rfl
        simp (disch := omega) only [if_true, if_false, if_pos, if_neg, wr_0, wr_id, gd_i, bnd_e, bd_s, bd2_s, jn_e, Int.toNat_natCast, u1, u2, u3, u4]
        refine ⟨_, _, _, _, rfl, rfl, ?_, hC, ⟨?_, ?_, ?_, ?_, ?_, ?_⟩, hH, ⟨hR, ?_⟩, hW, hS, ?_, hD, hT, hU, hO, hP⟩
        · congr 1; simp [up]
        · simp [up]; omega
        · simp [up]
        · exact up_eq m3
        · exact up_eq m4
        · exact up_bd m5 c
        · exact up_bd m6 d
        · show g 1 6 ≤ _; omega
        · obtain ⟨s1, s2, ⟨b1, b2, b3, b4, b5, b6, b7, b8, b9, b10, b11, b12, b13, b14⟩, s4, s5⟩ := hB
          refine ⟨s1, s2, ⟨b1, b2, b3, b4, b5, b6, b7, b8, b9, b10, b11, b12, ?_, b14⟩, s4, s5⟩
          intro m hm hm2
          exact b13 m hm (by simp [up] at hm2; omega)
    · simp (disch := omega) only [if_true, if_false, if_pos, if_neg, wr_0, wr_id, gd_i, bnd_e, bd_s, bd2_s, jn_e, Int.toNat_natCast, if_pos c, if_neg d]
      exact ⟨_, _, _, _, rfl, rfl, rfl, keep⟩
  · simp (disch := omega) only [if_true, if_false, if_pos, if_neg, wr_0, wr_id, gd_i, bnd_e, bd_s, bd2_s, jn_e, Int.toNat_natCast, if_neg c]
    exact ⟨_, _, _, _, rfl, rfl, rfl, keep⟩
