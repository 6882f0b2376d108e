/-! PURE: evaluating the functions -/
theorem bd_s {α β : Type} {x : α} {f : α → Option β} : bd (some x) f = f x := rfl
theorem bd2_s {α β γ : Type} {a : α} {b : β} {f : α → β → Option γ} : bd2 (some (a, b)) f = f a b := rfl
theorem bnd_e {α β : Type} {x : α} {f : α → Option β} : bnd x f = f x := rfl
theorem jn_e {κ β : Type} {K : κ} {f : κ → Option β} : jn K f = f K := rfl
theorem gd_e {β : Type} {i : Int} {n : Nat} {k : Option β} (h1 : 0 ≤ wr i) (h2 : wr i < (n : Int)) : gd i n k = k := gc_of ⟨h1, h2⟩
theorem within_e {v a b : Int} (hv : -2147483648 ≤ v ∧ v < 2147483648) (ha : -2147483648 ≤ a ∧ a < 2147483648) (hb : -2147483648 ≤ b ∧ b < 2147483648) : fX11_within v a b = some (if a ≤ v ∧ v ≤ b then 1 else 0) := by
  unfold fX11_within
  rw [wr_id hv.1 hv.2, wr_id ha.1 ha.2, wr_id hb.1 hb.2]
  by_cases h1 : v < a
  · rw [if_pos h1, if_neg (by omega)]
  · rw [if_neg h1]
    by_cases h2 : b < v
    · rw [if_pos h2, if_neg (by omega)]
    · rw [if_neg h2, if_pos (by omega)]
theorem in_e {v a b : Int} (hv : -2147483648 ≤ v ∧ v < 2147483648) (ha : -2147483648 ≤ a ∧ a < 2147483648) (hb : -2147483648 ≤ b ∧ b < 2147483648) : fX12_in v a b = some (if a ≤ v ∧ v ≤ b then 1 else 0) := by
  unfold fX12_in
  rw [wr_id hv.1 hv.2, wr_id ha.1 ha.2, wr_id hb.1 hb.2]
  by_cases h1 : v < a
  · rw [if_pos h1, if_neg (by omega)]
  · rw [if_neg h1]
    by_cases h2 : b < v
    · rw [if_pos h2, if_neg (by omega)]
    · rw [if_neg h2, if_pos (by omega)]
theorem gd_i {β : Type} {i : Int} {n : Nat} {k : Option β} (h1 : 0 ≤ i) (h2 : i < (n : Int)) (h3 : (n : Int) ≤ 2147483648) : gd i n k = k := gc_of (by rw [wr_id (by omega) (by omega)]; exact ⟨h1, h2⟩)
