/-! THE REFERENCE's stack of what is to come -/
def Stk (f : Nat → Int) : List Int → Prop
  | [] => True
  | x :: r => f r.length = x ∧ Stk f r
theorem Stk_up {f f' : Nat → Int} : ∀ {l : List Int}, (∀ j, j < l.length → f' j = f j) → Stk f l → Stk f' l
  | [], _, _ => trivial
  | x :: r, e, z => ⟨by rw [e r.length (by simp)]; exact z.1, Stk_up (fun j hj => e j (by simp; omega)) z.2⟩
abbrev tyC := Nat × (Nat → Int) × (Nat → Int)
abbrev tyB := (Nat → Int) × (Nat → Int) × Int
abbrev tyT := Int × Int × Int × Int
def ups (f : Nat → Int) (n : Nat) (v : Int) : Nat → Int := fun j => if j = n then v else f j
def em (C : tyC) (d w : Int) : tyC := (C.1 + 1, ups C.2.1 C.1 d, ups C.2.2 C.1 w)
def FM (h0 h : Mem) : Prop := (∀ a, a ≠ 0 → (a < 36 ∨ 40 < a) → h a = h0 a) ∧ (∀ c, c < 49 → h 0 c = h0 0 c)
def tb (T : tyT) : Prop := (0 ≤ T.1 ∧ T.1 ≤ 4) ∧ (-128 ≤ T.2.1 ∧ T.2.1 ≤ 10000009)
def MS (h0 h : Mem) (l : List Int) (C : tyC) (B : tyB) (T : tyT) (dp : Int) : Prop :=
  (h 0 54 = (l.length : Int) ∧ Stk (h 36) l) ∧ (h 0 59 = (C.1 : Int) ∧ h 37 = C.2.1 ∧ h 38 = C.2.2) ∧ (h 39 = B.1 ∧ h 40 = B.2.1 ∧ h 0 56 = B.2.2) ∧ (h 0 50 = T.1 ∧ h 0 52 = T.2.1 ∧ h 0 51 = T.2.2.1 ∧ h 0 49 = T.2.2.2 ∧ tb T) ∧ (h 0 55 = dp ∧ 0 ≤ dp ∧ dp ≤ 8) ∧ FM h0 h
theorem FM_0 {h0 h : Mem} {j : Nat} {v : Int} (hj : 49 ≤ j) (F : FM h0 h) : FM h0 (up h 0 j v) := by
  refine ⟨fun a h1 h2 => ?_, fun c hc => ?_⟩
  · rw [up_ne h1]; exact F.1 a h1 h2
  · rw [up_row, if_neg (by omega)]; exact F.2 c hc
theorem FM_r {h0 h : Mem} {k j : Nat} {v : Int} (hk : 36 ≤ k ∧ k ≤ 40) (F : FM h0 h) : FM h0 (up h k j v) := by
  refine ⟨fun a h1 h2 => ?_, fun c hc => ?_⟩
  · rw [up_ne (by omega)]; exact F.1 a h1 h2
  · rw [up_ne (by omega)]; exact F.2 c hc
theorem m_push {h0 h : Mem} {l : List Int} {C : tyC} {B : tyB} {T : tyT} {dp : Int} (s : Int) (M : MS h0 h l C B T dp) (hl : l.length < 600) : ∃ h', fX12_push s h = some h' ∧ MS h0 h' (s :: l) C B T dp := by
  obtain ⟨⟨a1, a2⟩, b, c, d, e, f⟩ := M
  have u1 : up h 36 l.length s 0 54 = (l.length : Int) := a1
  refine ⟨up (up h 36 l.length s) 0 54 ((l.length : Int) + 1), ?_, ⟨rfl, ?_, ?_⟩, b, c, d, e, FM_0 (by omega) (FM_r (by omega) f)⟩
  · unfold fX12_push
    simp (disch := omega) only [if_true, if_false, if_pos, if_neg, wr_0, wr_id, gd_i, bnd_e, bd_s, bd2_s, jn_e, Int.toNat_natCast, a1, u1]
  · simp [up]
  · refine Stk_up (fun j hj => ?_) a2
    have : j ≠ l.length := by omega
    simp [up, this]
theorem m_emits {h0 h : Mem} {l : List Int} {C : tyC} {B : tyB} {T : tyT} {dp : Int} (d w : Int) (M : MS h0 h l C B T dp) (hn : C.1 < 300) : ∃ h', fX12_emits d w h = some h' ∧ MS h0 h' l (em C d w) B T dp := by
  obtain ⟨a, ⟨b1, b2, b3⟩, c, dd, e, f⟩ := M
  have u1 : up h 37 C.1 d 0 59 = (C.1 : Int) := b1
  have u2 : up (up h 37 C.1 d) 38 C.1 w 0 59 = (C.1 : Int) := b1
  refine ⟨up (up (up h 37 C.1 d) 38 C.1 w) 0 59 ((C.1 : Int) + 1), ?_, a, ⟨rfl, ?_, ?_⟩, c, dd, e, FM_0 (by omega) (FM_r (by omega) (FM_r (by omega) f))⟩
  · unfold fX12_emits
    simp (disch := omega) only [if_true, if_false, if_pos, if_neg, wr_0, wr_id, gd_i, bnd_e, bd_s, bd2_s, jn_e, Int.toNat_natCast, b1, u1, u2]
  · show _ = ups C.2.1 C.1 d
    rw [← b2]; funext j; simp [up, ups]
  · show _ = ups C.2.2 C.1 w
    rw [← b3]; funext j; simp [up, ups]
theorem m_next {h0 h : Mem} {l : List Int} {C : tyC} {B : tyB} {k v f dp : Int} {b : Nat → Int} {S p q' f' : Nat} {k' v' : Int} (N : MN b S p k' v' f' q') (hS : h0 0 48 = (S : Int)) (hb : h0 35 = b) (hT : tb (k', v', (f' : Int), (q' : Int))) (M : MS h0 h l C B (k, v, f, (p : Int)) dp) : ∃ h', fX12_next h = some h' ∧ MS h0 h' l C B (k', v', (f' : Int), (q' : Int)) dp := by
  obtain ⟨⟨a1, a2⟩, ⟨b1, b2, b3⟩, ⟨c1, c2, c3⟩, ⟨d1, d2, d3, d4, d5⟩, ⟨e1, e2⟩, f1, f2⟩ := M
  obtain ⟨h', n1, n2, n3, n4, n5, n6, n7⟩ := N h (by rw [f2 48 (by omega)]; exact hS) (by rw [f1 35 (by omega) (by omega)]; exact hb) d4
  refine ⟨h', n1, ⟨?_, ?_⟩, ⟨?_, ?_, ?_⟩, ⟨?_, ?_, ?_⟩, ⟨n3, n5, n4, n2, hT⟩, ⟨?_, e2⟩, ⟨fun a h1 h2 => ?_, fun c hc => ?_⟩⟩
  · rw [n7 54 (by omega)]; exact a1
  · rw [n6 36 (by omega)]; exact a2
  · rw [n7 59 (by omega)]; exact b1
  · rw [n6 37 (by omega)]; exact b2
  · rw [n6 38 (by omega)]; exact b3
  · rw [n6 39 (by omega)]; exact c1
  · rw [n6 40 (by omega)]; exact c2
  · rw [n7 56 (by omega)]; exact c3
  · rw [n7 55 (by omega)]; exact e1
  · rw [n6 a h1]; exact f1 a h1 h2
  · rw [n7 c (by omega)]; exact f2 c hc
theorem m_pop {h0 h : Mem} {s : Int} {l : List Int} {C : tyC} {B : tyB} {T : tyT} {dp : Int} (M : MS h0 h (s :: l) C B T dp) (hl : l.length < 590) : ∃ h1, MS h0 h1 l C B T dp ∧ ∀ (n : Nat) (Kc : Mem → Option (Int × Mem)), fX12_reads_L49 (n + 1) h Kc = bd2 (fX12_steps s h1) fun r g => if wr r = 0 then Kc g else fX12_reads_L49 n g Kc := by
  obtain ⟨⟨a1, a2, a3⟩, b, c, d, e, f⟩ := M
  have a1' : h 0 54 = (l.length : Int) + 1 := a1
  refine ⟨up h 0 54 (l.length : Int), ⟨⟨rfl, a3⟩, b, c, d, e, FM_0 (by omega) f⟩, fun n Kc => ?_⟩
  rw [fX12_reads_L49]
  have e1 : (l.length : Int) + 1 - 1 = (l.length : Int) := by omega
  have u1 : up h 0 54 (l.length : Int) 0 54 = (l.length : Int) := rfl
  have u2 : up h 0 54 (l.length : Int) 36 l.length = s := a2
  simp (disch := omega) only [if_true, if_false, if_pos, if_neg, wr_0, wr_id, gd_i, bnd_e, bd_s, bd2_s, jn_e, Int.toNat_natCast, a1', e1, u1, u2]
def Rch (k : Nat) (h h' : Mem) : Prop := ∀ (n : Nat) (Kc : Mem → Option (Int × Mem)), fX12_reads_L49 (n + k) h Kc = fX12_reads_L49 n h' Kc
def Go (h0 : Mem) (m : Nat) (l : List Int) (C : tyC) (B : tyB) (T : tyT) (dp : Int) (l' : List Int) (C' : tyC) (B' : tyB) (T' : tyT) (dp' : Int) : Prop := ∀ h, MS h0 h l C B T dp → ∃ (k : Nat) (h' : Mem), k ≤ m ∧ Rch k h h' ∧ MS h0 h' l' C' B' T' dp'
def Fa (h0 : Mem) (m : Nat) (l : List Int) (C : tyC) (B : tyB) (T : tyT) (dp : Int) : Prop := ∀ h, MS h0 h l C B T dp → ∃ (k : Nat) (h' : Mem), k ≤ m ∧ (∀ (n : Nat) (Kc : Mem → Option (Int × Mem)), fX12_reads_L49 (n + k) h Kc = Kc h') ∧ h' 0 51 = T.2.2.1 ∧ FM h0 h'
theorem Go_rfl {h0 : Mem} {m : Nat} {l : List Int} {C : tyC} {B : tyB} {T : tyT} {dp : Int} : Go h0 m l C B T dp l C B T dp := fun h M => ⟨0, h, by omega, fun _ _ => rfl, M⟩
theorem Go_tr {h0 : Mem} {m m' : Nat} {l l' l'' : List Int} {C C' C'' : tyC} {B B' B'' : tyB} {T T' T'' : tyT} {dp dp' dp'' : Int} (G : Go h0 m l C B T dp l' C' B' T' dp') (G' : Go h0 m' l' C' B' T' dp' l'' C'' B'' T'' dp'') : Go h0 (m + m') l C B T dp l'' C'' B'' T'' dp'' := by
  intro h M
  obtain ⟨k, h1, k1, r1, M1⟩ := G h M
  obtain ⟨k', h2, k2, r2, M2⟩ := G' h1 M1
  exact ⟨k + k', h2, by omega, fun n Kc => by rw [show n + (k + k') = (n + k') + k by omega, r1, r2], M2⟩
theorem Go_fa {h0 : Mem} {m m' : Nat} {l l' : List Int} {C C' : tyC} {B B' : tyB} {T : tyT} {dp dp' : Int} (G : Go h0 m l C B T dp l' C' B' T dp') (G' : Fa h0 m' l' C' B' T dp') : Fa h0 (m + m') l C B T dp := by
  intro h M
  obtain ⟨k, h1, k1, r1, M1⟩ := G h M
  obtain ⟨k', h2, k2, r2, M2⟩ := G' h1 M1
  exact ⟨k + k', h2, by omega, fun n Kc => by rw [show n + (k + k') = (n + k') + k by omega, r1, r2], M2⟩
theorem Go_le {h0 : Mem} {m m' : Nat} {l l' : List Int} {C C' : tyC} {B B' : tyB} {T T' : tyT} {dp dp' : Int} (G : Go h0 m l C B T dp l' C' B' T' dp') (hm : m ≤ m') : Go h0 m' l C B T dp l' C' B' T' dp' := by
  intro h M
  obtain ⟨k, h1, k1, r⟩ := G h M
  exact ⟨k, h1, by omega, r⟩
theorem Fa_le {h0 : Mem} {m m' : Nat} {l : List Int} {C : tyC} {B : tyB} {T : tyT} {dp : Int} (G : Fa h0 m l C B T dp) (hm : m ≤ m') : Fa h0 m' l C B T dp := by
  intro h M
  obtain ⟨k, h1, k1, r⟩ := G h M
  exact ⟨k, h1, by omega, r⟩
theorem go1 {h0 : Mem} {s : Int} {l l' : List Int} {C C' : tyC} {B B' : tyB} {T T' : tyT} {dp dp' : Int} (hl : l.length < 590) (H : ∀ h1, MS h0 h1 l C B T dp → ∃ h2, fX12_steps s h1 = some (1, h2) ∧ MS h0 h2 l' C' B' T' dp') : Go h0 1 (s :: l) C B T dp l' C' B' T' dp' := by
  intro h M
  obtain ⟨h1, M1, r1⟩ := m_pop M hl
  obtain ⟨h2, e2, M2⟩ := H h1 M1
  refine ⟨1, h2, by omega, fun n Kc => ?_, M2⟩
  rw [r1, e2, bd2_s, if_neg (by decide)]
theorem fa1 {h0 : Mem} {s : Int} {l : List Int} {C : tyC} {B : tyB} {T : tyT} {dp : Int} (hl : l.length < 590) (H : ∀ h1, MS h0 h1 l C B T dp → fX12_steps s h1 = some (0, h1)) : Fa h0 1 (s :: l) C B T dp := by
  intro h M
  obtain ⟨h1, M1, r1⟩ := m_pop M hl
  have e2 := H h1 M1
  refine ⟨1, h1, by omega, fun n Kc => ?_, M1.2.2.2.1.2.2.1, M1.2.2.2.2.2⟩
  rw [r1, e2, bd2_s, if_pos (by decide)]
theorem st_0 {h h2 : Mem} {r : Int} (hr : r = 0 ∨ r = 1) (e : fX12_clauses h = some (r, h2)) : fX12_steps 0 h = some (r, h2) := by
  unfold fX12_steps
  simp (disch := omega) only [if_true, if_false, if_pos, if_neg, wr_0, wr_id, gd_i, bnd_e, bd_s, bd2_s, jn_e, Int.toNat_natCast]
  rw [e, bd2_s, gc_of hr]
theorem st_1 {h h2 : Mem} {r : Int} (hr : r = 0 ∨ r = 1) (e : fX12_both 2 3 h = some (r, h2)) : fX12_steps 1 h = some (r, h2) := by
  unfold fX12_steps
  simp (disch := omega) only [if_true, if_false, if_pos, if_neg, wr_0, wr_id, gd_i, bnd_e, bd_s, bd2_s, jn_e, Int.toNat_natCast]
  rw [e, bd2_s, gc_of hr]
theorem st_2 {h h2 : Mem} {r : Int} (hr : r = 0 ∨ r = 1) (e : fX12_more 43 2 45 3 2 3 h = some (r, h2)) : fX12_steps 2 h = some (r, h2) := by
  unfold fX12_steps
  simp (disch := omega) only [if_true, if_false, if_pos, if_neg, wr_0, wr_id, gd_i, bnd_e, bd_s, bd2_s, jn_e, Int.toNat_natCast]
  rw [e, bd2_s, gc_of hr]
theorem st_3 {h h2 : Mem} {r : Int} (hr : r = 0 ∨ r = 1) (e : fX12_both 4 5 h = some (r, h2)) : fX12_steps 3 h = some (r, h2) := by
  unfold fX12_steps
  simp (disch := omega) only [if_true, if_false, if_pos, if_neg, wr_0, wr_id, gd_i, bnd_e, bd_s, bd2_s, jn_e, Int.toNat_natCast]
  rw [e, bd2_s, gc_of hr]
theorem st_4 {h h2 : Mem} {r : Int} (hr : r = 0 ∨ r = 1) (e : fX12_more 42 4 47 5 4 5 h = some (r, h2)) : fX12_steps 4 h = some (r, h2) := by
  unfold fX12_steps
  simp (disch := omega) only [if_true, if_false, if_pos, if_neg, wr_0, wr_id, gd_i, bnd_e, bd_s, bd2_s, jn_e, Int.toNat_natCast]
  rw [e, bd2_s, gc_of hr]
theorem st_5 {h h2 : Mem} {r : Int} (hr : r = 0 ∨ r = 1) (e : fX12_factor h = some (r, h2)) : fX12_steps 5 h = some (r, h2) := by
  unfold fX12_steps
  simp (disch := omega) only [if_true, if_false, if_pos, if_neg, wr_0, wr_id, gd_i, bnd_e, bd_s, bd2_s, jn_e, Int.toNat_natCast]
  rw [e, bd2_s, gc_of hr]
theorem st_6 {h h2 : Mem} {r : Int} (hr : r = 0 ∨ r = 1) (e : fX12_both 7 8 h = some (r, h2)) : fX12_steps 6 h = some (r, h2) := by
  unfold fX12_steps
  simp (disch := omega) only [if_true, if_false, if_pos, if_neg, wr_0, wr_id, gd_i, bnd_e, bd_s, bd2_s, jn_e, Int.toNat_natCast]
  rw [e, bd2_s, gc_of hr]
theorem st_7 {h h2 : Mem} {r : Int} (hr : r = 0 ∨ r = 1) (e : fX12_moreWords 9 10 7 8 h = some (r, h2)) : fX12_steps 7 h = some (r, h2) := by
  unfold fX12_steps
  simp (disch := omega) only [if_true, if_false, if_pos, if_neg, wr_0, wr_id, gd_i, bnd_e, bd_s, bd2_s, jn_e, Int.toNat_natCast]
  rw [e, bd2_s, gc_of hr]
theorem st_8 {h h2 : Mem} {r : Int} (hr : r = 0 ∨ r = 1) (e : fX12_both 9 10 h = some (r, h2)) : fX12_steps 8 h = some (r, h2) := by
  unfold fX12_steps
  simp (disch := omega) only [if_true, if_false, if_pos, if_neg, wr_0, wr_id, gd_i, bnd_e, bd_s, bd2_s, jn_e, Int.toNat_natCast]
  rw [e, bd2_s, gc_of hr]
theorem st_9 {h h2 : Mem} {r : Int} (hr : r = 0 ∨ r = 1) (e : fX12_moreWords 10 9 9 10 h = some (r, h2)) : fX12_steps 9 h = some (r, h2) := by
  unfold fX12_steps
  simp (disch := omega) only [if_true, if_false, if_pos, if_neg, wr_0, wr_id, gd_i, bnd_e, bd_s, bd2_s, jn_e, Int.toNat_natCast]
  rw [e, bd2_s, gc_of hr]
theorem st_10 {h h2 : Mem} {r : Int} (hr : r = 0 ∨ r = 1) (e : fX12_holdsOne h = some (r, h2)) : fX12_steps 10 h = some (r, h2) := by
  unfold fX12_steps
  simp (disch := omega) only [if_true, if_false, if_pos, if_neg, wr_0, wr_id, gd_i, bnd_e, bd_s, bd2_s, jn_e, Int.toNat_natCast]
  rw [e, bd2_s, gc_of hr]
theorem st_11 {h h2 : Mem} {r : Int} (hr : r = 0 ∨ r = 1) (e : fX12_compares h = some (r, h2)) : fX12_steps 11 h = some (r, h2) := by
  unfold fX12_steps
  simp (disch := omega) only [if_true, if_false, if_pos, if_neg, wr_0, wr_id, gd_i, bnd_e, bd_s, bd2_s, jn_e, Int.toNat_natCast]
  rw [e, bd2_s, gc_of hr]
theorem st_12 (h : Mem) : fX12_steps 12 h = some (1, up h 0 55 (h 0 55 - 1)) := by
  unfold fX12_steps
  simp (disch := omega) only [if_true, if_false, if_pos, if_neg, wr_0, wr_id, gd_i, bnd_e, bd_s, bd2_s, jn_e, Int.toNat_natCast]
theorem st_13 (h : Mem) : fX12_steps 13 h = gd (h 0 56) 2 (bnd (up h 40 (wr (h 0 56)).toNat (h 0 59)) fun g_66 => some (1, g_66)) := by
  unfold fX12_steps
  simp (disch := omega) only [if_true, if_false, if_pos, if_neg, wr_0, wr_id, gd_i, bnd_e, bd_s, bd2_s, jn_e, Int.toNat_natCast]
theorem w1f : (wr 1 = 0) = False := by decide
theorem w0t : (wr 0 = 0) = True := by decide
theorem tk_e {h h2 : Mem} (e : fX12_next h = some h2) : fX12_takes h = some (1, h2) := by
  unfold fX12_takes; rw [e, bd_s]
theorem st_141 {h h2 : Mem} (e : fX12_isSign 41 h = some 1) (n : fX12_next h = some h2) : fX12_steps 141 h = some (1, h2) := by
  unfold fX12_steps
  rw [show (141 : Int) - 100 = 41 from rfl]
  simp (disch := omega) only [if_true, if_false, if_pos, if_neg, wr_0, wr_id, gd_i, bnd_e, bd_s, bd2_s, jn_e, Int.toNat_natCast]
  rw [e, tk_e n]
  simp only [bd_s, bd2_s, w1f, if_false]
theorem st_141f {h : Mem} (e : fX12_isSign 41 h = some 0) : fX12_steps 141 h = some (0, h) := by
  unfold fX12_steps
  rw [show (141 : Int) - 100 = 41 from rfl]
  simp (disch := omega) only [if_true, if_false, if_pos, if_neg, wr_0, wr_id, gd_i, bnd_e, bd_s, bd2_s, jn_e, Int.toNat_natCast]
  rw [e]
  simp only [bd_s, w0t, if_true]
theorem st_193 {h h2 : Mem} (e : fX12_isSign 93 h = some 1) (n : fX12_next h = some h2) : fX12_steps 193 h = some (1, h2) := by
  unfold fX12_steps
  rw [show (193 : Int) - 100 = 93 from rfl]
  simp (disch := omega) only [if_true, if_false, if_pos, if_neg, wr_0, wr_id, gd_i, bnd_e, bd_s, bd2_s, jn_e, Int.toNat_natCast]
  rw [e, tk_e n]
  simp only [bd_s, bd2_s, w1f, if_false]
theorem st_193f {h : Mem} (e : fX12_isSign 93 h = some 0) : fX12_steps 193 h = some (0, h) := by
  unfold fX12_steps
  rw [show (193 : Int) - 100 = 93 from rfl]
  simp (disch := omega) only [if_true, if_false, if_pos, if_neg, wr_0, wr_id, gd_i, bnd_e, bd_s, bd2_s, jn_e, Int.toNat_natCast]
  rw [e]
  simp only [bd_s, w0t, if_true]
theorem st_159 {h h2 : Mem} (e : fX12_isSign 59 h = some 1) (n : fX12_next h = some h2) : fX12_steps 159 h = some (1, h2) := by
  unfold fX12_steps
  rw [show (159 : Int) - 100 = 59 from rfl]
  simp (disch := omega) only [if_true, if_false, if_pos, if_neg, wr_0, wr_id, gd_i, bnd_e, bd_s, bd2_s, jn_e, Int.toNat_natCast]
  rw [e, tk_e n]
  simp only [bd_s, bd2_s, w1f, if_false]
theorem st_159f {h : Mem} (e : fX12_isSign 59 h = some 0) : fX12_steps 159 h = some (0, h) := by
  unfold fX12_steps
  rw [show (159 : Int) - 100 = 59 from rfl]
  simp (disch := omega) only [if_true, if_false, if_pos, if_neg, wr_0, wr_id, gd_i, bnd_e, bd_s, bd2_s, jn_e, Int.toNat_natCast]
  rw [e]
  simp only [bd_s, w0t, if_true]
theorem sgn_e {h0 h : Mem} {l : List Int} {C : tyC} {B : tyB} {T : tyT} {dp : Int} (M : MS h0 h l C B T dp) (c : Int) (hc : 0 ≤ c ∧ c ≤ 200) : fX12_isSign c h = some (if T.1 = 3 ∧ T.2.1 = c then 1 else 0) := by
  obtain ⟨_, _, _, ⟨d1, d2, _, _, d5, d6⟩, _⟩ := M
  unfold fX12_isSign
  rw [d1, d2, wr_id (by omega) (by omega), wr_id (by omega) (by omega), wr_id (by omega) (by omega)]
  by_cases c1 : T.1 = 3
  · by_cases c2 : T.2.1 = c
    · rw [if_pos c1, if_pos c2, if_pos ⟨c1, c2⟩]
    · rw [if_pos c1, if_neg c2, if_neg (fun z => c2 z.2)]
  · rw [if_neg c1, if_neg (fun z => c1 z.1)]
theorem wrd_e {h0 h : Mem} {l : List Int} {C : tyC} {B : tyB} {T : tyT} {dp : Int} (M : MS h0 h l C B T dp) (c : Int) (hc : 0 ≤ c ∧ c ≤ 200) : fX12_isWord c h = some (if T.1 = 2 ∧ T.2.1 = c then 1 else 0) := by
  obtain ⟨_, _, _, ⟨d1, d2, _, _, d5, d6⟩, _⟩ := M
  unfold fX12_isWord
  rw [d1, d2, wr_id (by omega) (by omega), wr_id (by omega) (by omega), wr_id (by omega) (by omega)]
  by_cases c1 : T.1 = 2
  · by_cases c2 : T.2.1 = c
    · rw [if_pos c1, if_pos c2, if_pos ⟨c1, c2⟩]
    · rw [if_pos c1, if_neg c2, if_neg (fun z => c2 z.2)]
  · rw [if_neg c1, if_neg (fun z => c1 z.1)]
