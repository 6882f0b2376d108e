/-! RULES held against a body: one run of codes -/
def opv (d a b : Int) : Int := if d = 2 then clp (a + b) 1000000 else if d = 3 then clp (a - b) 1000000 else if d = 4 then clp (a * b) 1000000 else if d = 5 then (if b = 0 then 0 else a.tdiv b) else if d = 6 then (if b ≤ a then 0 else 1) else if d = 7 then (if a ≤ b then 0 else 1) else if d = 8 then (if a = b then 1 else 0) else if d = 9 then (if a + b = 2 then 1 else 0) else (if a + b ≤ 0 then 0 else 1)
def MB (a : Int) : Prop := -1000000 ≤ a ∧ a ≤ 1000000
theorem tdiv_le {a b : Int} (ha : MB a) (hb : ¬ b = 0) : MB (a.tdiv b) := by
  unfold MB at *
  have h1 : (a.tdiv b).natAbs ≤ a.natAbs := by rw [Int.natAbs_tdiv]; exact Nat.div_le_self _ _
  omega
theorem mul_MB {a b : Int} (ha : MB a) (hb : MB b) : -1000000000000 ≤ a * b ∧ a * b ≤ 1000000000000 := by
  have := mb (x := a) (y := b) (A := 1000000) (B := 1000000) ha.1 ha.2 hb.1 hb.2
  omega
theorem of_e {d a b : Int} (hd : 2 ≤ d ∧ d ≤ 10) (ha : MB a) (hb : MB b) : fX12_of d a b = some (opv d a b) := by
  have hm := mul_MB ha hb
  unfold MB at ha hb
  unfold fX12_of opv
  rw [wr_id (z := d) (by omega) (by omega), wr_id (z := a) (by omega) (by omega), wr_id (z := b) (by omega) (by omega), wr_id (z := a + b) (by omega) (by omega), bounded_e (by omega) (by omega), bounded_e (by omega) (by omega), bounded_e (by omega) (by omega), bd_s, bd_s, bd_s]
  by_cases c2 : d = 2
  · rw [if_pos c2, if_pos c2]
  rw [if_neg c2, if_neg c2]
  by_cases c3 : d = 3
  · rw [if_pos c3, if_pos c3]
  rw [if_neg c3, if_neg c3]
  by_cases c4 : d = 4
  · rw [if_pos c4, if_pos c4]
  rw [if_neg c4, if_neg c4]
  by_cases c5 : d = 5
  · rw [if_pos c5, if_pos c5]
    by_cases z : b = 0
    · rw [if_pos z, if_pos z]
    · rw [if_neg z, if_neg z, gc_of z]
  rw [if_neg c5, if_neg c5]
  by_cases c6 : d = 6
  · rw [if_pos c6, if_pos c6]; split <;> rfl
  rw [if_neg c6, if_neg c6]
  by_cases c7 : d = 7
  · rw [if_pos c7, if_pos c7]; split <;> rfl
  rw [if_neg c7, if_neg c7]
  by_cases c8 : d = 8
  · rw [if_pos c8, if_pos c8]; split <;> rfl
  rw [if_neg c8, if_neg c8]
  by_cases c9 : d = 9
  · rw [if_pos c9, if_pos c9]; split <;> rfl
  rw [if_neg c9, if_neg c9]
  split <;> rfl
theorem clp_id {a m : Int} (h : -m ≤ a ∧ a ≤ m) : clp a m = a := by
  unfold clp; rw [if_neg (by omega), if_neg (by omega)]
theorem ao_e (a b : Int) (ha : a = 0 ∨ a = 1) (hb : b = 0 ∨ b = 1) : wr (iOr a b) = (if a + b ≤ 0 then 0 else 1) ∧ wr (iAnd a b) = (if a + b = 2 then 1 else 0) := by
  rcases ha with rfl | rfl <;> rcases hb with rfl | rfl <;> decide +kernel
def xc (d : Int) : Int := if d = 10 then 10010 else if d = 9 then 10011 else if d = 6 then 10013 else if d = 7 then 10014 else if d = 8 then 10015 else if d = 2 then 10016 else if d = 3 then 10017 else if d = 4 then 10018 else 10019
theorem opv_2 (a b : Int) : opv 2 a b = (clp (a + b) 1000000) := by simp [opv]
theorem join_2 (a b : Int) : fX7_join (xc 2) a b = (some (wr a + wr b)) := by
  have e : wr (xc 2) = 10016 := by decide
  unfold fX7_join; rw [e]; simp
theorem opv_3 (a b : Int) : opv 3 a b = (clp (a - b) 1000000) := by simp [opv]
theorem join_3 (a b : Int) : fX7_join (xc 3) a b = (some (wr a - wr b)) := by
  have e : wr (xc 3) = 10017 := by decide
  unfold fX7_join; rw [e]; simp
theorem opv_4 (a b : Int) : opv 4 a b = (clp (a * b) 1000000) := by simp [opv]
theorem join_4 (a b : Int) : fX7_join (xc 4) a b = (some (wr a * wr b)) := by
  have e : wr (xc 4) = 10018 := by decide
  unfold fX7_join; rw [e]; simp
theorem opv_5 (a b : Int) : opv 5 a b = (if b = 0 then 0 else a.tdiv b) := by simp [opv]
theorem join_5 (a b : Int) : fX7_join (xc 5) a b = (if wr b = 0 then some 0 else gc (¬ wr b = 0) (some (wr (Int.tdiv (wr a) (wr b))))) := by
  have e : wr (xc 5) = 10019 := by decide
  unfold fX7_join; rw [e]; simp
theorem opv_6 (a b : Int) : opv 6 a b = (if b ≤ a then 0 else 1) := by simp [opv]
theorem join_6 (a b : Int) : fX7_join (xc 6) a b = (if wr b ≤ wr a then some 0 else some 1) := by
  have e : wr (xc 6) = 10013 := by decide
  unfold fX7_join; rw [e]; simp
theorem opv_7 (a b : Int) : opv 7 a b = (if a ≤ b then 0 else 1) := by simp [opv]
theorem join_7 (a b : Int) : fX7_join (xc 7) a b = (if wr a ≤ wr b then some 0 else some 1) := by
  have e : wr (xc 7) = 10014 := by decide
  unfold fX7_join; rw [e]; simp
theorem opv_8 (a b : Int) : opv 8 a b = (if a = b then 1 else 0) := by simp [opv]
theorem join_8 (a b : Int) : fX7_join (xc 8) a b = (if wr a = wr b then some 1 else some 0) := by
  have e : wr (xc 8) = 10015 := by decide
  unfold fX7_join; rw [e]; simp
theorem opv_9 (a b : Int) : opv 9 a b = (if a + b = 2 then 1 else 0) := by simp [opv]
theorem join_9 (a b : Int) : fX7_join (xc 9) a b = (some (wr (iAnd a b))) := by
  have e : wr (xc 9) = 10011 := by decide
  unfold fX7_join; rw [e]; simp
theorem opv_10 (a b : Int) : opv 10 a b = (if a + b ≤ 0 then 0 else 1) := by simp [opv]
theorem join_10 (a b : Int) : fX7_join (xc 10) a b = (some (wr (iOr a b))) := by
  have e : wr (xc 10) = 10010 := by decide
  unfold fX7_join; rw [e]; simp
theorem join_e {d a b : Int} (hd : 2 ≤ d ∧ d ≤ 10) (ha : MB a) (hb : MB b) (h01 : 9 ≤ d → (a = 0 ∨ a = 1) ∧ (b = 0 ∨ b = 1)) : ∃ v, fX7_join (xc d) a b = some v ∧ fX11_bring v 1000000 = some (opv d a b) := by
  have hm := mul_MB ha hb
  have ha' := ha
  unfold MB at ha' hb
  have s1 : -9223372036854775808 ≤ a + b ∧ a + b < 9223372036854775808 := by omega
  have s2 : -9223372036854775808 ≤ a - b ∧ a - b < 9223372036854775808 := by omega
  have s3 : -9223372036854775808 ≤ a * b ∧ a * b < 9223372036854775808 := by omega
  have bz : ∀ v : Int, v = 0 ∨ v = 1 → fX11_bring v 1000000 = some v := fun v hv => by rw [bring_e (by omega) (by omega), clp_id (by omega)]
  have wa := wr_id (z := a) (by omega) (by omega)
  have wb := wr_id (z := b) (by omega) (by omega)
  have tq : ∀ z : ¬ b = 0, wr (a.tdiv b) = a.tdiv b ∧ fX11_bring (a.tdiv b) 1000000 = some (a.tdiv b) := fun z => by
    have tb := tdiv_le ha z
    unfold MB at tb
    clear wa wb
    exact ⟨wr_id (by omega) (by omega), by rw [bring_e (by omega) (by omega), clp_id (by omega)]⟩
  rcases (by clear wa wb; omega : d = 2 ∨ d = 3 ∨ d = 4 ∨ d = 5 ∨ d = 6 ∨ d = 7 ∨ d = 8 ∨ d = 9 ∨ d = 10) with rfl | rfl | rfl | rfl | rfl | rfl | rfl | rfl | rfl
  · exact ⟨a + b, by rw [join_2, wa, wb], by rw [bring_e s1 (by decide), opv_2]⟩
  · exact ⟨a - b, by rw [join_3, wa, wb], by rw [bring_e s2 (by decide), opv_3]⟩
  · exact ⟨a * b, by rw [join_4, wa, wb], by rw [bring_e s3 (by decide), opv_4]⟩
  · rw [join_5, opv_5, wa, wb]
    by_cases z : b = 0
    · rw [if_pos z, if_pos z]; exact ⟨0, rfl, bz 0 (.inl rfl)⟩
    · rw [if_neg z, if_neg z, gc_of z, (tq z).1]; exact ⟨_, rfl, (tq z).2⟩
  · rw [join_6, opv_6, wa, wb]
    by_cases z : b ≤ a
    · rw [if_pos z, if_pos z]; exact ⟨0, rfl, bz 0 (.inl rfl)⟩
    · rw [if_neg z, if_neg z]; exact ⟨1, rfl, bz 1 (.inr rfl)⟩
  · rw [join_7, opv_7, wa, wb]
    by_cases z : a ≤ b
    · rw [if_pos z, if_pos z]; exact ⟨0, rfl, bz 0 (.inl rfl)⟩
    · rw [if_neg z, if_neg z]; exact ⟨1, rfl, bz 1 (.inr rfl)⟩
  · rw [join_8, opv_8, wa, wb]
    by_cases z : a = b
    · rw [if_pos z, if_pos z]; exact ⟨1, rfl, bz 1 (.inr rfl)⟩
    · rw [if_neg z, if_neg z]; exact ⟨0, rfl, bz 0 (.inl rfl)⟩
  · obtain ⟨x, y⟩ := h01 (by decide)
    rw [join_9, opv_9, (ao_e a b x y).2]
    exact ⟨_, rfl, bz _ (by split <;> simp)⟩
  · obtain ⟨x, y⟩ := h01 (by decide)
    rw [join_10, opv_10, (ao_e a b x y).1]
    exact ⟨_, rfl, bz _ (by split <;> simp)⟩
theorem opv_MB {d a b : Int} (hd : 2 ≤ d ∧ d ≤ 10) (ha : MB a) : MB (opv d a b) ∧ (6 ≤ d → opv d a b = 0 ∨ opv d a b = 1) := by
  have t := fun z => tdiv_le (b := b) ha z
  have c1 := clp_bd (a := a + b) (m := 1000000) (by omega)
  have c2 := clp_bd (a := a - b) (m := 1000000) (by omega)
  have c3 := clp_bd (a := a * b) (m := 1000000) (by omega)
  have m0 : MB 0 := by unfold MB; omega
  have m1 : MB 1 := by unfold MB; omega
  rcases (by omega : d = 2 ∨ d = 3 ∨ d = 4 ∨ d = 5 ∨ d = 6 ∨ d = 7 ∨ d = 8 ∨ d = 9 ∨ d = 10) with rfl | rfl | rfl | rfl | rfl | rfl | rfl | rfl | rfl
  · rw [opv_2]; exact ⟨c1, fun z => absurd z (by decide)⟩
  · rw [opv_3]; exact ⟨c2, fun z => absurd z (by decide)⟩
  · rw [opv_4]; exact ⟨c3, fun z => absurd z (by decide)⟩
  · rw [opv_5]
    refine ⟨?_, fun z => absurd z (by decide)⟩
    by_cases z : b = 0
    · rw [if_pos z]; exact m0
    · rw [if_neg z]; exact t z
  · rw [opv_6]; split
    · exact ⟨m0, fun _ => .inl rfl⟩
    · exact ⟨m1, fun _ => .inr rfl⟩
  · rw [opv_7]; split
    · exact ⟨m0, fun _ => .inl rfl⟩
    · exact ⟨m1, fun _ => .inr rfl⟩
  · rw [opv_8]; split
    · exact ⟨m1, fun _ => .inr rfl⟩
    · exact ⟨m0, fun _ => .inl rfl⟩
  · rw [opv_9]; split
    · exact ⟨m1, fun _ => .inr rfl⟩
    · exact ⟨m0, fun _ => .inl rfl⟩
  · rw [opv_10]; split
    · exact ⟨m0, fun _ => .inl rfl⟩
    · exact ⟨m1, fun _ => .inr rfl⟩
/-- values on the stack, top first -/
def VS (f : Nat → Int) : List Bool → Prop
  | [] => True
  | t :: r => MB (f r.length) ∧ (t = true → f r.length = 0 ∨ f r.length = 1) ∧ VS f r
theorem VS_congr {f f' : Nat → Int} : ∀ ts : List Bool, (∀ j, j < ts.length → f' j = f j) → VS f ts → VS f' ts := by
  intro ts
  induction ts with
  | nil => intro _ _; trivial
  | cons t r ih =>
    intro h V
    have e := h r.length (by simp)
    exact ⟨by rw [e]; exact V.1, by rw [e]; exact V.2.1, ih (fun j hj => h j (by simp; omega)) V.2.2⟩
