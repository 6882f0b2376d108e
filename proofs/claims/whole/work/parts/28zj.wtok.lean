/-! TOKENS: the class's words -/
def ktk : List Int := [10025, 10026, 10010, 10011, 10012, 10000, 10001, 10002, 10003, 10004, 10005, 10006, 10028]
/-- what the class's chain of questions says, the answers given: only the word k0 is spelled (12: none) -/
theorem chain_e {g : Mem} {f t : Int} (e3 : g 39 3 = f) (e2 : g 39 2 = t) (k0 : Nat) (hk0 : k0 ≤ 12) (hs : ∀ k, k < 12 → fX9_spells k f t g = some (if k = k0 then 1 else 0)) : (
    bd (fX9_spells 0 (g 39 3) (g 39 2) g) fun r_9 =>
    if wr r_9 = 0 then (
      bd (fX9_spells 1 (g 39 3) (g 39 2) g) fun r_12 =>
      if wr r_12 = 0 then (
        bd (fX9_spells 2 (g 39 3) (g 39 2) g) fun r_15 =>
        if wr r_15 = 0 then (
          bd (fX9_spells 3 (g 39 3) (g 39 2) g) fun r_18 =>
          if wr r_18 = 0 then (
            bd (fX9_spells 4 (g 39 3) (g 39 2) g) fun r_21 =>
            if wr r_21 = 0 then (
              bd (fX5_name g) fun r_24 =>
              some (r_24, g)
            ) else (
              some (10012, g)
            )
          ) else (
            some (10011, g)
          )
        ) else (
          some (10010, g)
        )
      ) else (
        some (10026, g)
      )
    ) else (
      some ((10025 : Int), g)
    )) = some (ktk.getD k0 0, g) := by
  unfold fX5_name
  rw [e3, e2, hs 0 (by omega), hs 1 (by omega), hs 2 (by omega), hs 3 (by omega), hs 4 (by omega), hs 5 (by omega), hs 6 (by omega), hs 7 (by omega), hs 8 (by omega), hs 9 (by omega), hs 10 (by omega), hs 11 (by omega)]
  simp only [bd_s]
  have w1 : ¬ wr 1 = 0 := by decide
  have w0 : wr 0 = 0 := rfl
  rcases (by omega : k0 = 0 ∨ k0 = 1 ∨ k0 = 2 ∨ k0 = 3 ∨ k0 = 4 ∨ k0 = 5 ∨ k0 = 6 ∨ k0 = 7 ∨ k0 = 8 ∨ k0 = 9 ∨ k0 = 10 ∨ k0 = 11 ∨ k0 = 12) with rfl | rfl | rfl | rfl | rfl | rfl | rfl | rfl | rfl | rfl | rfl | rfl | rfl <;> simp [w1, w0, ktk, bd_s]
