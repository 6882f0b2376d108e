/-! TOKENS: blanks, letters, digits are passed alike -/
theorem up_up (g : Mem) (k j : Nat) (x y : Int) : up (up g k j x) k j y = up g k j y := by
  funext a b; unfold up; by_cases c : a = k ∧ b = j <;> simp [c]
def isL (x : Int) : Prop := 97 ≤ x ∧ x ≤ 122
def isD (x : Int) : Prop := 48 ≤ x ∧ x ≤ 57
def skp (b : Nat → Int) : Nat → Nat → Nat
  | 0, p => p
  | k + 1, p => if b p = 32 then skp b k (p + 1) else p
theorem skp_bd (b : Nat → Int) : ∀ k p, p ≤ skp b k p ∧ skp b k p ≤ p + k := by
  intro k
  induction k with
  | zero => intro p; exact ⟨Nat.le_refl _, Nat.le_refl _⟩
  | succ k ih =>
    intro p
    unfold skp
    split
    · have := ih (p + 1); omega
    · omega
theorem byteX_e {g : Mem} {b : Nat → Int} {S p : Nat} (hS : S ≤ 300) (g37 : g 37 1 = (S : Int)) (g38 : ∀ j, g 38 j = b j % 256) (hp : p < S) : fX9_byteAt p g = some (b p % 256) := by
  unfold fX9_byteAt
  rw [g37]
  simp (disch := omega) only [if_true, if_false, if_pos, if_neg, wr_0, wr_id, gd_i, bnd_e, bd_s, bd2_s, jn_e, Int.toNat_natCast, g38]
theorem byteX_end {g : Mem} {S p : Nat} (hS : S ≤ 300) (g37 : g 37 1 = (S : Int)) (hp : S ≤ p) (hp2 : p ≤ 300) : fX9_byteAt p g = some (-1) := by
  unfold fX9_byteAt
  rw [g37]
  simp (disch := omega) only [if_true, if_false, if_pos, if_neg, wr_0, wr_id, gd_i, bnd_e, bd_s, bd2_s, jn_e, Int.toNat_natCast]
theorem skipX_e {g : Mem} {b : Nat → Int} {S : Nat} (hS : S ≤ 300) (hb : ∀ j, -128 ≤ b j ∧ b j ≤ 127) (g37 : g 37 1 = (S : Int)) (g38 : ∀ j, g 38 j = b j % 256) (K : Mem → Option (Int × Mem)) : ∀ (k N p : Nat), p + k = S → k < N → fX5_nextToken_L0 N (up g 39 2 (p : Int)) K = K (up g 39 2 (skp b k p : Nat)) := by
  intro k
  induction k with
  | zero =>
    intro N p hp hN
    obtain ⟨N, rfl⟩ : ∃ x, N = x + 1 := ⟨N - 1, by omega⟩
    rw [fX5_nextToken_L0]
    have u1 : up g 39 2 (p : Int) 37 1 = (S : Int) := g37
    have u2 : up g 39 2 (p : Int) 39 2 = (p : Int) := by rw [up_row, if_pos rfl]
    simp (disch := omega) only [if_true, if_false, if_pos, if_neg, wr_0, wr_id, gd_i, bnd_e, bd_s, bd2_s, jn_e, Int.toNat_natCast, u1, u2]
    rfl
  | succ k ih =>
    intro N p hp hN
    obtain ⟨N, rfl⟩ : ∃ x, N = x + 1 := ⟨N - 1, by omega⟩
    rw [fX5_nextToken_L0]
    have u1 : up g 39 2 (p : Int) 37 1 = (S : Int) := g37
    have u2 : up g 39 2 (p : Int) 39 2 = (p : Int) := by rw [up_row, if_pos rfl]
    have eb := byteX_e (g := up g 39 2 (p : Int)) (b := b) (S := S) (p := p) hS g37 g38 (by omega)
    have hbp := hb p
    rw [show skp b (k + 1) p = if b p = 32 then skp b k (p + 1) else p from rfl]
    by_cases c : b p = 32
    · simp (disch := omega) only [if_true, if_false, if_pos, if_neg, wr_0, wr_id, gd_i, bnd_e, bd_s, bd2_s, jn_e, Int.toNat_natCast, u1, u2, eb, c, up_up, ncs]
      exact ih N (p + 1) (by omega) (by omega)
    · have c2 : ¬ b p % 256 = 32 := by omega
      simp (disch := omega) only [if_true, if_false, if_pos, if_neg, wr_0, wr_id, gd_i, bnd_e, bd_s, bd2_s, jn_e, Int.toNat_natCast, u1, u2, eb, if_neg c, if_neg c2]
theorem skipM_e {h : Mem} {b : Nat → Int} {S : Nat} (hS : S ≤ 300) (hb : ∀ j, -128 ≤ b j ∧ b j ≤ 127) (h48 : h 0 48 = (S : Int)) (h35 : h 35 = b) (K : Mem → Option Mem) : ∀ (k N p : Nat), p + k = S → k < N → fX12_next_L0 N (up h 0 49 (p : Int)) K = K (up h 0 49 (skp b k p : Nat)) := by
  intro k
  induction k with
  | zero =>
    intro N p hp hN
    obtain ⟨N, rfl⟩ : ∃ x, N = x + 1 := ⟨N - 1, by omega⟩
    rw [fX12_next_L0]
    have u1 : up h 0 49 (p : Int) 0 48 = (S : Int) := h48
    have u2 : up h 0 49 (p : Int) 0 49 = (p : Int) := by rw [up_row, if_pos rfl]
    simp (disch := omega) only [if_true, if_false, if_pos, if_neg, wr_0, wr_id, gd_i, bnd_e, bd_s, bd2_s, jn_e, Int.toNat_natCast, u1, u2]
    rfl
  | succ k ih =>
    intro N p hp hN
    obtain ⟨N, rfl⟩ : ∃ x, N = x + 1 := ⟨N - 1, by omega⟩
    rw [fX12_next_L0]
    have u1 : up h 0 49 (p : Int) 0 48 = (S : Int) := h48
    have u2 : up h 0 49 (p : Int) 0 49 = (p : Int) := by rw [up_row, if_pos rfl]
    have u3 : up h 0 49 (p : Int) 35 p = b p := by rw [up_ne (by omega), h35]
    have hbp := hb p
    rw [show skp b (k + 1) p = if b p = 32 then skp b k (p + 1) else p from rfl]
    by_cases c : b p = 32
    · simp (disch := omega) only [if_true, if_false, if_pos, if_neg, wr_0, wr_id, gd_i, bnd_e, bd_s, bd2_s, jn_e, Int.toNat_natCast, u1, u2, u3, c, up_up, ncs]
      exact ih N (p + 1) (by omega) (by omega)
    · simp (disch := omega) only [if_true, if_false, if_pos, if_neg, wr_0, wr_id, gd_i, bnd_e, bd_s, bd2_s, jn_e, Int.toNat_natCast, u1, u2, u3, if_neg c]
theorem letX_e {x : Int} (hx : -128 ≤ x ∧ x ≤ 127) : fX5_isLetter (x % 256) = some (if 97 ≤ x ∧ x ≤ 122 then 1 else 0) := by
  unfold fX5_isLetter
  rw [wr_id (by omega) (by omega)]
  by_cases c : 97 ≤ x ∧ x ≤ 122
  · rw [if_neg (by omega), if_neg (by omega), if_pos c]
  · rw [if_neg c]
    by_cases d : x % 256 < 97
    · rw [if_pos d]
    · rw [if_neg d, if_pos (by omega)]
theorem letM_e {x : Int} (hx : -128 ≤ x ∧ x ≤ 127) : fX12_isLetter x = some (if 97 ≤ x ∧ x ≤ 122 then 1 else 0) := by
  unfold fX12_isLetter
  rw [wr_id (by omega) (by omega)]
  by_cases c : 97 ≤ x ∧ x ≤ 122
  · rw [if_neg (by omega), if_neg (by omega), if_pos c]
  · rw [if_neg c]
    by_cases d : x < 97
    · rw [if_pos d]
    · rw [if_neg d, if_pos (by omega)]
theorem digX_e {x : Int} (hx : -128 ≤ x ∧ x ≤ 127) : fX5_isDigit (x % 256) = some (if 48 ≤ x ∧ x ≤ 57 then 1 else 0) := by
  unfold fX5_isDigit
  rw [wr_id (by omega) (by omega)]
  by_cases c : 48 ≤ x ∧ x ≤ 57
  · rw [if_neg (by omega), if_neg (by omega), if_pos c]
  · rw [if_neg c]
    by_cases d : x % 256 < 48
    · rw [if_pos d]
    · rw [if_neg d, if_pos (by omega)]
theorem digM_e {x : Int} (hx : -128 ≤ x ∧ x ≤ 127) : fX12_isDigit x = some (if 48 ≤ x ∧ x ≤ 57 then 1 else 0) := by
  unfold fX12_isDigit
  rw [wr_id (by omega) (by omega)]
  by_cases c : 48 ≤ x ∧ x ≤ 57
  · rw [if_neg (by omega), if_neg (by omega), if_pos c]
  · rw [if_neg c]
    by_cases d : x < 48
    · rw [if_pos d]
    · rw [if_neg d, if_pos (by omega)]
def ltr (b : Nat → Int) : Nat → Nat → Nat
  | 0, p => p
  | k + 1, p => if 97 ≤ b p ∧ b p ≤ 122 then ltr b k (p + 1) else p
theorem ltr_bd (b : Nat → Int) : ∀ k p, p ≤ ltr b k p ∧ ltr b k p ≤ p + k := by
  intro k
  induction k with
  | zero => intro p; exact ⟨Nat.le_refl _, Nat.le_refl _⟩
  | succ k ih =>
    intro p
    unfold ltr
    split
    · have := ih (p + 1); omega
    · omega
theorem wordX_e {g : Mem} {b : Nat → Int} {S : Nat} (hS : S ≤ 300) (hb : ∀ j, -128 ≤ b j ∧ b j ≤ 127) (g37 : g 37 1 = (S : Int)) (g38 : ∀ j, g 38 j = b j % 256) (K : Mem → Option (Int × Mem)) : ∀ (k N p : Nat), p + k = S → k < N → fX5_word_L0 N (up g 39 2 (p : Int)) K = K (up g 39 2 (ltr b k p : Nat)) := by
  intro k
  induction k with
  | zero =>
    intro N p hp hN
    obtain ⟨N, rfl⟩ : ∃ x, N = x + 1 := ⟨N - 1, by omega⟩
    rw [fX5_word_L0]
    have u1 : up g 39 2 (p : Int) 37 1 = (S : Int) := g37
    have u2 : up g 39 2 (p : Int) 39 2 = (p : Int) := by rw [up_row, if_pos rfl]
    simp (disch := omega) only [if_true, if_false, if_pos, if_neg, wr_0, wr_id, gd_i, bnd_e, bd_s, bd2_s, jn_e, Int.toNat_natCast, u1, u2]
    rfl
  | succ k ih =>
    intro N p hp hN
    obtain ⟨N, rfl⟩ : ∃ x, N = x + 1 := ⟨N - 1, by omega⟩
    rw [fX5_word_L0]
    have u1 : up g 39 2 (p : Int) 37 1 = (S : Int) := g37
    have u2 : up g 39 2 (p : Int) 39 2 = (p : Int) := by rw [up_row, if_pos rfl]
    have eb := byteX_e (g := up g 39 2 (p : Int)) (b := b) (S := S) (p := p) hS g37 g38 (by omega)
    have el := letX_e (hb p)
    rw [show ltr b (k + 1) p = if 97 ≤ b p ∧ b p ≤ 122 then ltr b k (p + 1) else p from rfl]
    by_cases c : 97 ≤ b p ∧ b p ≤ 122
    · rw [if_pos c] at el ⊢
      simp (disch := omega) only [if_true, if_false, if_pos, if_neg, wr_0, wr_id, gd_i, bnd_e, bd_s, bd2_s, jn_e, Int.toNat_natCast, u1, u2, eb, el, up_up, ncs]
      exact ih N (p + 1) (by omega) (by omega)
    · rw [if_neg c] at el ⊢
      simp (disch := omega) only [if_true, if_false, if_pos, if_neg, wr_0, wr_id, gd_i, bnd_e, bd_s, bd2_s, jn_e, Int.toNat_natCast, u1, u2, eb, el]
theorem wordM_e {h : Mem} {b : Nat → Int} {S : Nat} (hS : S ≤ 300) (hb : ∀ j, -128 ≤ b j ∧ b j ≤ 127) (h48 : h 0 48 = (S : Int)) (h35 : h 35 = b) (K : Mem → Option Mem) : ∀ (k N p : Nat), p + k = S → k < N → fX12_next_L85 N (up h 0 49 (p : Int)) K = K (up h 0 49 (ltr b k p : Nat)) := by
  intro k
  induction k with
  | zero =>
    intro N p hp hN
    obtain ⟨N, rfl⟩ : ∃ x, N = x + 1 := ⟨N - 1, by omega⟩
    rw [fX12_next_L85]
    have u1 : up h 0 49 (p : Int) 0 48 = (S : Int) := h48
    have u2 : up h 0 49 (p : Int) 0 49 = (p : Int) := by rw [up_row, if_pos rfl]
    simp (disch := omega) only [if_true, if_false, if_pos, if_neg, wr_0, wr_id, gd_i, bnd_e, bd_s, bd2_s, jn_e, Int.toNat_natCast, u1, u2]
    rfl
  | succ k ih =>
    intro N p hp hN
    obtain ⟨N, rfl⟩ : ∃ x, N = x + 1 := ⟨N - 1, by omega⟩
    rw [fX12_next_L85]
    have u1 : up h 0 49 (p : Int) 0 48 = (S : Int) := h48
    have u2 : up h 0 49 (p : Int) 0 49 = (p : Int) := by rw [up_row, if_pos rfl]
    have u3 : up h 0 49 (p : Int) 35 p = b p := by rw [up_ne (by omega), h35]
    have el := letM_e (hb p)
    rw [show ltr b (k + 1) p = if 97 ≤ b p ∧ b p ≤ 122 then ltr b k (p + 1) else p from rfl]
    by_cases c : 97 ≤ b p ∧ b p ≤ 122
    · rw [if_pos c] at el ⊢
      simp (disch := omega) only [if_true, if_false, if_pos, if_neg, wr_0, wr_id, gd_i, bnd_e, bd_s, bd2_s, jn_e, Int.toNat_natCast, u1, u2, u3, el, up_up, ncs]
      exact ih N (p + 1) (by omega) (by omega)
    · rw [if_neg c] at el ⊢
      simp (disch := omega) only [if_true, if_false, if_pos, if_neg, wr_0, wr_id, gd_i, bnd_e, bd_s, bd2_s, jn_e, Int.toNat_natCast, u1, u2, u3, el]
