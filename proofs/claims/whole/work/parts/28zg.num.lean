/-! TOKENS: numbers -/
def dgt (b : Nat → Int) : Nat → Nat → Nat
  | 0, p => p
  | k + 1, p => if 48 ≤ b p ∧ b p ≤ 57 then dgt b k (p + 1) else p
def nvl (b : Nat → Int) : Nat → Nat → Int → Int
  | 0, _, v => v
  | k + 1, p, v => if 48 ≤ b p ∧ b p ≤ 57 then nvl b k (p + 1) (if v ≤ 1000000 then 10 * v + b p - 48 else v) else v
theorem dgt_bd (b : Nat → Int) : ∀ k p, p ≤ dgt b k p ∧ dgt b k p ≤ p + k := by
  intro k
  induction k with
  | zero => intro p; exact ⟨Nat.le_refl _, Nat.le_refl _⟩
  | succ k ih =>
    intro p
    unfold dgt
    split
    · have := ih (p + 1); omega
    · omega
theorem nvl_bd (b : Nat → Int) : ∀ k p v, (0 ≤ v ∧ v ≤ 10000009) → 0 ≤ nvl b k p v ∧ nvl b k p v ≤ 10000009 := by
  intro k
  induction k with
  | zero => intro p v hv; exact hv
  | succ k ih =>
    intro p v hv
    unfold nvl
    by_cases c : 48 ≤ b p ∧ b p ≤ 57
    · rw [if_pos c]
      by_cases d : v ≤ 1000000
      · rw [if_pos d]; exact ih _ _ (by omega)
      · rw [if_neg d]; exact ih _ _ hv
    · rw [if_neg c]; exact hv
def cp4 (v : Int) : Int := if v < 10000 then v else 10000
theorem numX_e {g : Mem} {b : Nat → Int} {S : Nat} (hS : S ≤ 300) (hb : ∀ j, -128 ≤ b j ∧ b j ≤ 127) (g37 : g 37 1 = (S : Int)) (g38 : ∀ j, g 38 j = b j % 256) (K : Int → Mem → Option (Int × Mem)) : ∀ (k N p : Nat) (v : Int), p + k = S → k < N → (0 ≤ v ∧ v ≤ 10000009) → fX5_number_L2 N (cp4 v) (up g 39 2 (p : Int)) K = K (cp4 (nvl b k p v)) (up g 39 2 (dgt b k p : Nat)) := by
  intro k
  induction k with
  | zero =>
    intro N p v hp hN hv
    obtain ⟨N, rfl⟩ : ∃ x, N = x + 1 := ⟨N - 1, by omega⟩
    rw [fX5_number_L2]
    have u1 : up g 39 2 (p : Int) 37 1 = (S : Int) := g37
    have u2 : up g 39 2 (p : Int) 39 2 = (p : Int) := by rw [up_row, if_pos rfl]
    simp (disch := omega) only [if_true, if_false, if_pos, if_neg, wr_0, wr_id, gd_i, bnd_e, bd_s, bd2_s, jn_e, Int.toNat_natCast, u1, u2]
    rfl
  | succ k ih =>
    intro N p v hp hN hv
    obtain ⟨N, rfl⟩ : ∃ x, N = x + 1 := ⟨N - 1, by omega⟩
    rw [fX5_number_L2]
    have u1 : up g 39 2 (p : Int) 37 1 = (S : Int) := g37
    have u2 : up g 39 2 (p : Int) 39 2 = (p : Int) := by rw [up_row, if_pos rfl]
    have eb := byteX_e (g := up g 39 2 (p : Int)) (b := b) (S := S) (p := p) hS g37 g38 (by omega)
    have el := digX_e (hb p)
    rw [show dgt b (k + 1) p = if 48 ≤ b p ∧ b p ≤ 57 then dgt b k (p + 1) else p from rfl, show nvl b (k + 1) p v = if 48 ≤ b p ∧ b p ≤ 57 then nvl b k (p + 1) (if v ≤ 1000000 then 10 * v + b p - 48 else v) else v from rfl]
    by_cases c : 48 ≤ b p ∧ b p ≤ 57
    · have em : mMin 10000 (cp4 v * 10 + b p % 256 - 48) = cp4 (if v ≤ 1000000 then 10 * v + b p - 48 else v) := by
        have e256 : b p % 256 = b p := by omega
        rw [e256]
        by_cases d : v < 10000
        · rw [show cp4 v = v from if_pos d, mMin_e (by omega) (by omega), if_pos (show v ≤ 1000000 by omega)]
          unfold cp4
          by_cases e : 10 * v + b p - 48 < 10000
          · rw [if_pos (by omega), if_pos e]; omega
          · rw [if_neg e]
            by_cases f : v * 10 + b p - 48 < 10000
            · omega
            · rw [if_neg f]
        · rw [show cp4 v = 10000 from if_neg d, mMin_e (by omega) (by omega), if_neg (by omega)]
          unfold cp4
          by_cases e : v ≤ 1000000
          · rw [if_pos e, if_neg (by omega)]
          · rw [if_neg e, if_neg d]
      rw [if_pos c] at el
      rw [if_pos c, if_pos c]
      simp (disch := omega) only [if_true, if_false, if_pos, if_neg, wr_0, wr_id, gd_i, bnd_e, bd_s, bd2_s, jn_e, Int.toNat_natCast, u1, u2, eb, el, em, up_up, ncs]
      refine ih N (p + 1) _ (by omega) (by omega) ?_
      by_cases e : v ≤ 1000000
      · rw [if_pos e]; omega
      · rw [if_neg e]; exact hv
    · rw [if_neg c] at el
      rw [if_neg c, if_neg c]
      simp (disch := omega) only [if_true, if_false, if_pos, if_neg, wr_0, wr_id, gd_i, bnd_e, bd_s, bd2_s, jn_e, Int.toNat_natCast, u1, u2, eb, el]
theorem up_4952 (h : Mem) (v p v' q : Int) : up (up (up (up h 0 52 v) 0 49 p) 0 52 v') 0 49 q = up (up h 0 52 v') 0 49 q := by
  funext a b; unfold up
  by_cases c : a = 0
  · by_cases d : b = 49
    · simp [c, d]
    · by_cases e : b = 52
      · simp [c, e]
      · simp [c, d, e]
  · simp [c]
theorem numM_e {h : Mem} {b : Nat → Int} {S : Nat} (hS : S ≤ 300) (hb : ∀ j, -128 ≤ b j ∧ b j ≤ 127) (h48 : h 0 48 = (S : Int)) (h35 : h 35 = b) (K : Mem → Option Mem) : ∀ (k N p : Nat) (v : Int), p + k = S → k < N → (0 ≤ v ∧ v ≤ 10000009) → fX12_next_L155 N (up (up h 0 52 v) 0 49 (p : Int)) K = K (up (up h 0 52 (nvl b k p v)) 0 49 (dgt b k p : Nat)) := by
  intro k
  induction k with
  | zero =>
    intro N p v hp hN hv
    obtain ⟨N, rfl⟩ : ∃ x, N = x + 1 := ⟨N - 1, by omega⟩
    rw [fX12_next_L155]
    have u1 : up (up h 0 52 v) 0 49 (p : Int) 0 48 = (S : Int) := h48
    have u2 : up (up h 0 52 v) 0 49 (p : Int) 0 49 = (p : Int) := by rw [up_row, if_pos rfl]
    simp (disch := omega) only [if_true, if_false, if_pos, if_neg, wr_0, wr_id, gd_i, bnd_e, bd_s, bd2_s, jn_e, Int.toNat_natCast, u1, u2]
    rfl
  | succ k ih =>
    intro N p v hp hN hv
    obtain ⟨N, rfl⟩ : ∃ x, N = x + 1 := ⟨N - 1, by omega⟩
    rw [fX12_next_L155]
    have u1 : up (up h 0 52 v) 0 49 (p : Int) 0 48 = (S : Int) := h48
    have u2 : up (up h 0 52 v) 0 49 (p : Int) 0 49 = (p : Int) := by rw [up_row, if_pos rfl]
    have u3 : up (up h 0 52 v) 0 49 (p : Int) 35 p = b p := by rw [up_ne (by omega), up_ne (by omega), h35]
    have u4 : up (up h 0 52 v) 0 49 (p : Int) 0 52 = v := rfl
    have u5 : ∀ x, up (up (up h 0 52 v) 0 49 (p : Int)) 0 52 x 0 49 = (p : Int) := fun _ => rfl
    have el := digM_e (hb p)
    rw [show dgt b (k + 1) p = if 48 ≤ b p ∧ b p ≤ 57 then dgt b k (p + 1) else p from rfl, show nvl b (k + 1) p v = if 48 ≤ b p ∧ b p ≤ 57 then nvl b k (p + 1) (if v ≤ 1000000 then 10 * v + b p - 48 else v) else v from rfl]
    by_cases c : 48 ≤ b p ∧ b p ≤ 57
    · rw [if_pos c] at el
      rw [if_pos c, if_pos c]
      by_cases e : v ≤ 1000000
      · simp (disch := omega) only [if_true, if_false, if_pos, if_neg, wr_0, wr_id, gd_i, bnd_e, bd_s, bd2_s, jn_e, Int.toNat_natCast, u1, u2, u3, u4, u5, el, up_4952, ncs, if_pos e]
        exact ih N (p + 1) _ (by omega) (by omega) (by omega)
      · simp (disch := omega) only [if_true, if_false, if_pos, if_neg, wr_0, wr_id, gd_i, bnd_e, bd_s, bd2_s, jn_e, Int.toNat_natCast, u1, u2, u3, u4, u5, el, up_4952, ncs, if_neg e]
        exact ih N (p + 1) _ (by omega) (by omega) hv
    · rw [if_neg c] at el
      rw [if_neg c, if_neg c]
      simp (disch := omega) only [if_true, if_false, if_pos, if_neg, wr_0, wr_id, gd_i, bnd_e, bd_s, bd2_s, jn_e, Int.toNat_natCast, u1, u2, u3, el]
