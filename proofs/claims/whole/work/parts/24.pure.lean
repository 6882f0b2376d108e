/-! PURE: evaluating the functions -/
theorem bd_s {α β : Type} {x : α} {f : α → Option β} : bd (some x) f = f x := (rfl)
theorem bd2_s {α β γ : Type} {a : α} {b : β} {f : α → β → Option γ} : bd2 (some (a, b)) f = f a b := (rfl)
theorem bnd_e {α β : Type} {x : α} {f : α → Option β} : bnd x f = f x := (rfl)
theorem jn_e {κ β : Type} {K : κ} {f : κ → Option β} : jn K f = f K := (rfl)
theorem gd_e {β : Type} {i : Int} {n : Nat} {k : Option β} (h1 : 0 ≤ wr i) (h2 : wr i < (n : Int)) : gd i n k = k := gc_of ⟨h1, h2⟩
theorem within_e {v a b : Int} (hv : -2147483648 ≤ v ∧ v < 2147483648) (ha : -2147483648 ≤ a ∧ a < 2147483648) (hb : -2147483648 ≤ b ∧ b < 2147483648) : fX11_within v a b = some (if a ≤ v ∧ v ≤ b then 1 else 0) := by
  unfold fX11_within
  rw [wr_id hv.1 hv.2, wr_id ha.1 ha.2, wr_id hb.1 hb.2]
  by_cases h1 : v < a
  · rw [if_pos h1, if_neg (by omega)]
  · rw [if_neg h1]
    by_cases h2 : b < v
    · rw [if_pos h2, if_neg (by omega)]
    · rw [if_neg h2, if_pos (by omega)]
theorem in_e {v a b : Int} (hv : -2147483648 ≤ v ∧ v < 2147483648) (ha : -2147483648 ≤ a ∧ a < 2147483648) (hb : -2147483648 ≤ b ∧ b < 2147483648) : fX12_in v a b = some (if a ≤ v ∧ v ≤ b then 1 else 0) := by
  unfold fX12_in
  rw [wr_id hv.1 hv.2, wr_id ha.1 ha.2, wr_id hb.1 hb.2]
  by_cases h1 : v < a
  · rw [if_pos h1, if_neg (by omega)]
  · rw [if_neg h1]
    by_cases h2 : b < v
    · rw [if_pos h2, if_neg (by omega)]
    · rw [if_neg h2, if_pos (by omega)]
theorem gd_i {β : Type} {i : Int} {n : Nat} {k : Option β} (h1 : 0 ≤ i) (h2 : i < (n : Int)) (h3 : (n : Int) ≤ 2147483648) : gd i n k = k := gc_of (by rw [wr_id (by omega) (by omega)]; exact ⟨h1, h2⟩)
/-- sums -/
def sm (f : Nat → Int) : Nat → Nat → Int
  | _, 0 => 0
  | i, k + 1 => f i + sm f (i + 1) k
theorem sm_last (f : Nat → Int) (i k : Nat) : sm f i (k + 1) = sm f i k + f (i + k) := by
  induction k generalizing i with
  | zero => simp [sm]
  | succ k ih => 
    rw [show sm f i (k + 1 + 1) = f i + sm f (i + 1) (k + 1) from rfl, ih, show sm f i (k + 1) = f i + sm f (i + 1) k from rfl]
    rw [show i + 1 + k = i + (k + 1) by omega]; omega
theorem sm_congr {f f' : Nat → Int} {i k : Nat} (h : ∀ j, i ≤ j → j < i + k → f j = f' j) : sm f i k = sm f' i k := by
  induction k generalizing i with
  | zero => rfl
  | succ k ih => 
    show f i + sm f (i + 1) k = f' i + sm f' (i + 1) k
    rw [h i (by omega) (by omega), ih (fun j h1 h2 => h j (by omega) (by omega))]
theorem sm_bd {f : Nat → Int} {lo hi : Int} {i k : Nat} (h : ∀ j, i ≤ j → j < i + k → lo ≤ f j ∧ f j ≤ hi) : (k : Int) * lo ≤ sm f i k ∧ sm f i k ≤ (k : Int) * hi := by
  induction k generalizing i with
  | zero => simp [sm]
  | succ k ih => 
    have a := h i (by omega) (by omega)
    have b := ih (i := i + 1) (fun j h1 h2 => h j (by omega) (by omega))
    show ((k + 1 : Nat) : Int) * lo ≤ f i + sm f (i + 1) k ∧ f i + sm f (i + 1) k ≤ ((k + 1 : Nat) : Int) * hi
    rw [Int.natCast_succ, Int.add_mul, Int.add_mul]; omega
theorem sm_upd {f f' : Nat → Int} {i k j : Nat} (h : ∀ x, x ≠ j → f' x = f x) (h1 : i ≤ j) (h2 : j < i + k) : sm f' i k = sm f i k + (f' j - f j) := by
  induction k generalizing i with
  | zero => omega
  | succ k ih => 
    show f' i + sm f' (i + 1) k = f i + sm f (i + 1) k + (f' j - f j)
    by_cases e : i = j
    · subst e
      rw [sm_congr (f := f') (f' := f) (fun x a b => h x (by omega))]; omega
    · rw [ih (i := i + 1) (by omega) (by omega), h i e]; omega
theorem sm_add (f f' : Nat → Int) (i k : Nat) : sm (fun j => f j + f' j) i k = sm f i k + sm f' i k := by
  induction k generalizing i with
  | zero => rfl
  | succ k ih => show (f i + f' i) + sm _ (i + 1) k = f i + sm _ (i + 1) k + (f' i + sm _ (i + 1) k); rw [ih]; omega
theorem sm_mul (f : Nat → Int) (c : Int) (i k : Nat) : sm (fun j => c * f j) i k = c * sm f i k := by
  induction k generalizing i with
  | zero => simp [sm]
  | succ k ih => show c * f i + sm _ (i + 1) k = c * (f i + sm _ (i + 1) k); rw [ih, Int.mul_add]
theorem sm_zero (i k : Nat) : sm (fun _ => 0) i k = 0 := by
  induction k generalizing i with
  | zero => rfl
  | succ k ih => show 0 + sm _ (i + 1) k = 0; rw [ih]; rfl
theorem sm_swap (F : Nat → Nat → Int) (a b m n : Nat) : sm (fun x => sm (fun y => F x y) b n) a m = sm (fun y => sm (fun x => F x y) a m) b n := by
  induction m generalizing a with
  | zero => show 0 = sm (fun y => 0) b n; rw [sm_zero]
  | succ m ih => 
    show sm (fun y => F a y) b n + sm _ (a + 1) m = sm (fun y => F a y + sm (fun x => F x y) (a + 1) m) b n
    rw [ih, sm_add]
theorem fuel_s : fuel = 99999 + 1 := rfl
theorem fuel_g : ∃ F, fuel = F ∧ 50000 < F := ⟨fuel, rfl, by rw [fuel_s]; omega⟩
theorem wr_b {a : Int} (h : a = 0 ∨ a = 1) : (wr a = 0) = (a = 0) := by rw [wr_id (by omega) (by omega)]
theorem ncs (i : Nat) : (i : Int) + 1 = ((i + 1 : Nat) : Int) := (rfl)
theorem sm_split (f : Nat → Int) (i a b : Nat) : sm f i (a + b) = sm f i a + sm f (i + a) b := by
  induction a generalizing i with
  | zero => simp [sm]
  | succ a ih =>
    rw [show a + 1 + b = (a + b) + 1 by omega]
    show f i + sm f (i + 1) (a + b) = f i + sm f (i + 1) a + sm f (i + (a + 1)) b
    rw [ih, show i + 1 + a = i + (a + 1) by omega]; omega
theorem sm_win (f : Nat → Int) {a k N : Nat} (h : a + k ≤ N) : sm f a k = sm (fun i => if a ≤ i ∧ i < a + k then f i else 0) 0 N := by
  obtain ⟨m, rfl⟩ : ∃ m, N = a + (k + m) := ⟨N - a - k, by omega⟩
  rw [sm_split, sm_split]
  rw [sm_congr (f := fun i => if a ≤ i ∧ i < a + k then f i else 0) (f' := fun _ => 0) (i := 0) (k := a) (fun j h1 h2 => if_neg (by omega)), sm_zero]
  rw [sm_congr (f := fun i => if a ≤ i ∧ i < a + k then f i else 0) (f' := fun _ => 0) (i := 0 + a + k) (k := m) (fun j h1 h2 => if_neg (by omega)), sm_zero]
  rw [sm_congr (f := fun i => if a ≤ i ∧ i < a + k then f i else 0) (f' := f) (i := 0 + a) (k := k) (fun j h1 h2 => if_pos (by omega))]
  rw [Nat.zero_add]; omega
theorem sm_mirror (F : Nat → Int) : sm F 0 18 = sm (fun i => F (17 - i)) 0 18 := by
  simp only [sm]; simp; omega
theorem mb {x y A B : Int} (h1 : -A ≤ x) (h2 : x ≤ A) (h3 : -B ≤ y) (h4 : y ≤ B) : -(A * B) ≤ x * y ∧ x * y ≤ A * B := by
  have e : (x * y).natAbs ≤ A.toNat * B.toNat := by rw [Int.natAbs_mul]; exact Nat.mul_le_mul (by omega) (by omega)
  have e2 : A * B = ((A.toNat * B.toNat : Nat) : Int) := by rw [Int.natCast_mul, Int.toNat_of_nonneg (by omega), Int.toNat_of_nonneg (by omega)]
  rw [e2]; omega
theorem xor_sg (a b : Int) : (0 ≤ wr (iXor a b)) ↔ ((wr a < 0) ↔ (wr b < 0)) := by
  have e1 : wr (iXor a b) = (Int32.ofInt a ^^^ Int32.ofInt b).toBitVec.toInt := by
    rw [← ti]; unfold iXor; rw [oi]; rfl
  have e2 : wr a = (Int32.ofInt a).toBitVec.toInt := by rw [← ti]; rfl
  have e3 : wr b = (Int32.ofInt b).toBitVec.toInt := by rw [← ti]; rfl
  have h1 := BitVec.msb_eq_toInt (x := (Int32.ofInt a ^^^ Int32.ofInt b).toBitVec)
  have h2 := BitVec.msb_eq_toInt (x := (Int32.ofInt a).toBitVec)
  have h3 := BitVec.msb_eq_toInt (x := (Int32.ofInt b).toBitVec)
  rw [Int32.toBitVec_xor, BitVec.msb_xor, ← Int32.toBitVec_xor, h2, h3, ← e1, ← e2, ← e3] at h1
  by_cases c1 : wr a < 0 <;> by_cases c2 : wr b < 0 <;> simp [c1, c2] at h1 ⊢ <;> omega
theorem lxor_sg (a b : Int) : (0 ≤ wl (lXor a b)) ↔ ((wl a < 0) ↔ (wl b < 0)) := by
  have e1 : wl (lXor a b) = (Int64.ofInt a ^^^ Int64.ofInt b).toBitVec.toInt := by
    rw [← tl]; unfold lXor; rw [ol]; rfl
  have e2 : wl a = (Int64.ofInt a).toBitVec.toInt := by rw [← tl]; rfl
  have e3 : wl b = (Int64.ofInt b).toBitVec.toInt := by rw [← tl]; rfl
  have h1 := BitVec.msb_eq_toInt (x := (Int64.ofInt a ^^^ Int64.ofInt b).toBitVec)
  have h2 := BitVec.msb_eq_toInt (x := (Int64.ofInt a).toBitVec)
  have h3 := BitVec.msb_eq_toInt (x := (Int64.ofInt b).toBitVec)
  rw [Int64.toBitVec_xor, BitVec.msb_xor, ← Int64.toBitVec_xor, h2, h3, ← e1, ← e2, ← e3] at h1
  by_cases c1 : wl a < 0 <;> by_cases c2 : wl b < 0 <;> simp [c1, c2] at h1 ⊢ <;> omega
theorem tdiv_f {a b : Int} (hb : 0 < b) (ha : a < 0) : (a.tdiv b * b = a → a.tdiv b = a / b) ∧ (¬ a.tdiv b * b = a → a.tdiv b - 1 = a / b) := by
  have e := Int.tdiv_eq_ediv (a := a) (b := b)
  rw [Int.sign_eq_one_of_pos hb] at e
  by_cases c : b ∣ a
  · rw [if_pos (.inr c)] at e
    exact ⟨fun _ => by omega, fun h => absurd (Int.tdiv_mul_cancel c) h⟩
  · rw [if_neg (by rintro (h | h); · omega
                   · exact c h)] at e
    exact ⟨fun h => absurd ⟨a.tdiv b, by rw [Int.mul_comm]; exact h.symm⟩ c, fun _ => by omega⟩
theorem tdiv_in {a b : Int} (hb : 0 < b) : -(a.natAbs : Int) ≤ a.tdiv b * b ∧ a.tdiv b * b ≤ a.natAbs := by
  have h1 := Int.tmod_add_mul_tdiv a b
  have h2 : (a.tmod b).natAbs ≤ a.natAbs := by rw [Int.natAbs_tmod]; exact Nat.mod_le _ _
  have h3 : 0 ≤ a → 0 ≤ a.tmod b := fun h => Int.tmod_nonneg _ h
  have h4 : a ≤ 0 → a.tmod b ≤ 0 := fun h => by
    have := Int.tmod_nonneg b (a := -a) (by omega)
    rw [Int.neg_tmod] at this; omega
  rw [Int.mul_comm]; omega
theorem fdiv_e {a b : Int} (ha : -2147483648 ≤ a ∧ a < 2147483648) (hb : 0 < b ∧ b < 2147483648) : fJ9_floorDiv_7cf53 a b = some (a / b) := by
  unfold fJ9_floorDiv_7cf53
  have e1 := wr_id ha.1 ha.2
  have e2 := wr_id (z := b) (by omega) hb.2
  have e3 := xor_sg a b
  rw [e1, e2] at e3
  rw [e1, e2, gc_of (by omega), bnd_e]
  by_cases c : a < 0
  · rw [if_neg (by rw [e3]; omega)]
    have h3 := tdiv_in (a := a) hb.1
    have h1 := tdiv_f hb.1 c
    have h2 : wr (a.tdiv b * b) = a.tdiv b * b := by
      by_cases z : a.tdiv b * b = 2147483648
      · have h4 := Int.tmod_add_mul_tdiv a b
        have : a.tmod b ≤ 0 := by
          have := Int.tmod_nonneg b (a := -a) (by omega)
          rw [Int.neg_tmod] at this; omega
        have h5 : (a.tmod b).natAbs ≤ a.natAbs := by rw [Int.natAbs_tmod]; exact Nat.mod_le _ _
        rw [Int.mul_comm b] at h4; omega
      · exact wr_id (by omega) (by omega)
    rw [h2]
    by_cases d : a.tdiv b * b = a
    · rw [if_pos d, h1.1 d]
    · rw [if_neg d, h1.2 d]
  · rw [if_pos (by rw [e3]; omega), Int.tdiv_eq_ediv_of_nonneg (by omega)]
theorem lCmp_e {a b : Int} (ha : -9223372036854775808 ≤ a ∧ a < 9223372036854775808) (hb : -9223372036854775808 ≤ b ∧ b < 9223372036854775808) : wr (lCmp a b) = if b < a then 1 else if a = b then 0 else -1 := by
  unfold lCmp; rw [wl_id ha.1 ha.2, wl_id hb.1 hb.2]
  by_cases c : b < a
  · rw [if_pos c]; rfl
  · rw [if_neg c]
    by_cases d : a = b
    · rw [if_pos d]; rfl
    · rw [if_neg d]; rfl
theorem lfdiv_e {a b : Int} (ha : -1000000000000000000 ≤ a ∧ a < 1000000000000000000) (hb : 0 < b ∧ b < 2147483648) : fJ9_floorDiv_f86c9 a b = some (a / b) := by
  unfold fJ9_floorDiv_f86c9
  have e1 := wl_id (z := a) (by omega) (by omega)
  have e2 := wl_id (z := b) (by omega) (by omega)
  have e3 := lxor_sg a b
  have e5 := wl_rng (lXor a b)
  have e6 : wl (wl (lXor a b)) = wl (lXor a b) := wl_id e5.1 e5.2
  have e4 : wr (lCmp (lXor a b) 0) = if 0 < wl (lXor a b) then 1 else if wl (lXor a b) = 0 then 0 else -1 := by
    have := lCmp_e (a := wl (lXor a b)) (b := 0) (by omega) (by omega)
    rw [← this]; unfold lCmp; rw [e6]
  rw [e1, e2] at e3
  rw [e1, e2, gc_of (by omega), bnd_e, e4]
  have h3 := tdiv_in (a := a) hb.1
  by_cases c : a < 0
  · rw [if_neg (by split <;> (try split) <;> omega)]
    have h1 := tdiv_f hb.1 c
    rw [lCmp_e (by omega) (by omega)]
    by_cases d : a.tdiv b * b = a
    · rw [if_pos (by rw [if_neg (by omega), if_pos d]), h1.1 d]
    · rw [if_neg (by split <;> (try split) <;> omega), h1.2 d]
  · rw [if_pos (by split <;> (try split) <;> omega), Int.tdiv_eq_ediv_of_nonneg (by omega)]
theorem floor_e {a b : Int} (ha : -1000000000000000000 ≤ a ∧ a < 1000000000000000000) (hb : 0 < b ∧ b < 2147483648) : fX12_floor a b = some (a / b) := by
  unfold fX12_floor
  rw [lCmp_e (by omega) (by omega), wl_id (z := b) (by omega) (by omega), wl_id (z := a) (by omega) (by omega), wl_id (z := -a + b - 1) (by omega) (by omega)]
  by_cases c : a < 0
  · rw [if_pos (by rw [if_neg (by omega), if_neg (by omega)]; omega), gc_of (by omega), Int.tdiv_eq_ediv_of_nonneg (by omega)]
    congr 1
    have h1 := Int.emod_add_mul_ediv a b
    have h2 := Int.emod_nonneg a (b := b) (by omega)
    have h3 := Int.emod_lt_of_pos a hb.1
    have h4 := (Int.ediv_emod_unique (a := -a + b - 1) (b := b) (r := b - 1 - a % b) (q := -(a / b)) hb.1).2 ⟨by rw [Int.mul_neg]; omega, by omega, by omega⟩
    omega
  · rw [if_neg (by split <;> (try split) <;> omega), gc_of (by omega), Int.tdiv_eq_ediv_of_nonneg (by omega)]
theorem mAbs_e {a : Int} (h : -2147483647 ≤ a ∧ a < 2147483648) : mAbs a = (a.natAbs : Int) := by
  unfold mAbs; rw [wr_id (by omega) (by omega)]; split <;> omega
theorem mMax_e {a b : Int} (ha : -2147483648 ≤ a ∧ a < 2147483648) (hb : -2147483648 ≤ b ∧ b < 2147483648) : mMax a b = if a < b then b else a := by
  unfold mMax; rw [wr_id ha.1 ha.2, wr_id hb.1 hb.2]
theorem mMin_e {a b : Int} (ha : -2147483648 ≤ a ∧ a < 2147483648) (hb : -2147483648 ≤ b ∧ b < 2147483648) : mMin a b = if b < a then b else a := by
  unfold mMin; rw [wr_id ha.1 ha.2, wr_id hb.1 hb.2]
theorem tdiv_c (x : Int) (b : Int) : x.tdiv b = if 0 ≤ x then x / b else -((-x) / b) := by
  by_cases c : 0 ≤ x
  · rw [if_pos c, Int.tdiv_eq_ediv_of_nonneg c]
  · rw [if_neg c, ← Int.tdiv_eq_ediv_of_nonneg (by omega), Int.neg_tdiv, Int.neg_neg]
