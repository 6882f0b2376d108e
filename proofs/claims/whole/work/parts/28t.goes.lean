/-! THE REFERENCE'S TICK, its parts given: lot 0 -/
theorem goesM_yes0 {t : Nat} {out s v lv sp A Sea F sp1 s1 ov sk st sl inr vw v0 lv1 : Int} {h h1 h2 h5 h7 h8 h9 h10 : Mem}
    (a0 : h 23 0 = 0) (a1 : fX12_slides 0 (up h 0 70 0) = some h1) (a2 : h1 19 0 = s) (a3 : fX12_levelAt s h1 = some (lv, h2)) (a4 : ¬ wr lv = -2147483648)
    (a5 : h2 19 0 = s) (a6 : fX12_armAt 0 s h2 = some A) (a7 : h2 0 22 = st) (hst : ¬ wl (wr st) = 0)
    (a8 : fX12_seaIn t (up h2 26 0 (Int.tdiv (wl (-A)) (wl (wr st)))) = some Sea) (a9 : h2 20 0 = sp) (a10 : h2 0 23 = sl)
    (a11 : fX12_isSo 1 0 t (up (up (up h2 26 0 (Int.tdiv (wl (-A)) (wl (wr st)))) 26 1 Sea) 26 2 (Int.tdiv (wr ((-sp) * sl)) 10)) = some (v, h5))
    (a12 : h5 20 0 = sp) (hvw : (if wr v = 0 then 0 else Int.tdiv (wr ((-sp) * out)) 4) = vw)
    (e0 : h5 26 0 = Int.tdiv (wl (-A)) (wl (wr st))) (e1 : h5 26 1 = Sea) (e2 : h5 26 2 = Int.tdiv (wr ((-sp) * sl)) 10)
    (a13 : fX12_bounded (wr (Int.tdiv (wl (-A)) (wl (wr st))) + wr Sea + wr (Int.tdiv (wr ((-sp) * sl)) 10) + wr vw) 1000 = some F)
    (a14 : h5 0 24 = inr) (hin : ¬ wr inr = 0) (a15 : fX12_bounded (wr (sp + Int.tdiv (wr F) (wr inr))) 30 = some sp1) (a16 : h5 19 0 = s) (a17 : fX12_bounded (wr (s + sp1)) 80 = some s1)
    (hov : (if wr (s + sp1) = wr s1 then 0 else 1) = ov) (a18 : h5 21 0 = sk)
    (a19 : fX12_isSo 0 0 t (up (up (up (up (up (up h5 26 3 vw) 0 70 F) 20 0 sp1) 19 0 s1) 23 0 ov) 21 0 (sk + (if wr (if 0 ≤ wr sp1 then sp1 else -sp1) ≤ 4 then 0 else (if 0 ≤ wr sp1 then sp1 else -sp1) - 4))) = some (v0, h7))
    (hh8 : (if wr v0 = 0 then h7 else up h7 22 0 (h7 22 0 + 1)) = h8) (a20 : h8 19 0 = s1) (a21 : fX12_levelAt s1 h8 = some (lv1, h9)) (a22 : fX12_goesOn_L363 fuel 0 lv1 0 h9 = some (1, h10)) : fX12_goesOn 0 t out h = some (1, h10) := by
  have dl : ∀ k : Option (Int × Mem), gd 0 2 k = k := fun k => gd_i (by decide) (by decide) (by decide)
  have d0 : ∀ k : Option (Int × Mem), gd (0 : Int) 8 k = k := fun k => gd_i (by decide) (by decide) (by decide)
  have d1 : ∀ k : Option (Int × Mem), gd (1 : Int) 8 k = k := fun k => gd_i (by decide) (by decide) (by decide)
  have d2 : ∀ k : Option (Int × Mem), gd (2 : Int) 8 k = k := fun k => gd_i (by decide) (by decide) (by decide)
  have d3 : ∀ k : Option (Int × Mem), gd (3 : Int) 8 k = k := fun k => gd_i (by decide) (by decide) (by decide)
  have wL : (wr 0).toNat = 0 := by decide
  have w0 : (wr 0).toNat = 0 := by decide
  have w1 : (wr 1).toNat = 1 := by decide
  have w2 : (wr 2).toNat = 2 := by decide
  have w3 : (wr 3).toNat = 3 := by decide
  have x0 : (4 : Int) * 0 = 0 := by decide
  have x1 : (0 : Int) + 1 = 1 := by decide
  have x2 : (0 : Int) + 2 = 2 := by decide
  have x3 : (0 : Int) + 3 = 3 := by decide
  have g0 : ∀ k : Option (Int × Mem), gc (¬ wl (wr st) = 0) k = k := fun k => gc_of hst
  have g1 : ∀ k : Option (Int × Mem), gc (¬ wr inr = 0) k = k := fun k => gc_of hin
  have g2 : ∀ k : Option (Int × Mem), gc ((0 : Int) = 0 ∨ (0 : Int) = 1) k = k := fun k => gc_of (by decide)
  have g3 : ∀ k : Option (Int × Mem), gc ((1 : Int) = 0 ∨ (1 : Int) = 1) k = k := fun k => gc_of (by decide)
  have u23 : up h 0 70 0 23 0 = h 23 0 := rfl
  have z0 : wr 0 = 0 := rfl
  have r1 : ∀ x, up h2 26 0 x 26 = up h2 26 0 x 26 := fun _ => rfl
  unfold fX12_goesOn
  simp only [x0, x1, x2, x3, ↓bnd_e, wL, w0, w1, w2, w3, dl, d0, d1, d2, d3, u23, a0, z0, if_true, a1, ↓bd_s, a2, a3, ↓bd2_s, if_neg a4, a5, a6, a7, g0, a8]
  have b9 : ∀ x y, up (up h2 26 0 x) 26 1 y 20 0 = sp := fun _ _ => a9
  have b10 : ∀ x y, up (up h2 26 0 x) 26 1 y 0 23 = sl := fun _ _ => a10
  simp only [b9, b10, a11, ↓bd2_s, ↓jn_e, a12]
  have f20 : ∀ x F', up (up h5 26 3 x) 0 70 F' 20 0 = sp := fun _ _ => a12
  have f24 : ∀ x F', up (up h5 26 3 x) 0 70 F' 0 24 = inr := fun _ _ => a14
  have f70 : ∀ x F', up (up h5 26 3 x) 0 70 F' 0 70 = F' := fun _ _ => rfl
  have p0 : ∀ x, up h5 26 3 x 26 0 = Int.tdiv (wl (-A)) (wl (wr st)) := fun _ => e0
  have p1 : ∀ x, up h5 26 3 x 26 1 = Sea := fun _ => e1
  have p2 : ∀ x, up h5 26 3 x 26 2 = Int.tdiv (wr ((-sp) * sl)) 10 := fun _ => e2
  have p3 : ∀ x, up h5 26 3 x 26 3 = x := fun _ => rfl
  have f19 : ∀ x F' q, up (up (up h5 26 3 x) 0 70 F') 20 0 q 19 0 = s := fun _ _ _ => a16
  have f20b : ∀ x F' q, up (up (up h5 26 3 x) 0 70 F') 20 0 q 20 0 = q := fun _ _ _ => rfl
  have f19b : ∀ x F' q s', up (up (up (up h5 26 3 x) 0 70 F') 20 0 q) 19 0 s' 19 0 = s' := fun _ _ _ _ => rfl
  have f20c : ∀ x F' q s' o, up (up (up (up (up h5 26 3 x) 0 70 F') 20 0 q) 19 0 s') 23 0 o 20 0 = q := fun _ _ _ _ _ => rfl
  have f21 : ∀ x F' q s' o, up (up (up (up (up h5 26 3 x) 0 70 F') 20 0 q) 19 0 s') 23 0 o 21 0 = sk := fun _ _ _ _ _ => a18
  have tail : ∀ fast : Int, (if 0 ≤ wr sp1 then sp1 else -sp1) = fast → ∀ add : Int, (if wr fast ≤ 4 then 0 else fast - 4) = add → (bd2 (fX12_isSo 0 0 t (up (up (up (up (up (up h5 26 3 vw) 0 70 F) 20 0 sp1) 19 0 s1) 23 0 ov) 21 0 (sk + add))) fun r_63 g_65 => if wr r_63 = 0 then (bd2 (fX12_levelAt (g_65 19 0) g_65) fun r_68 g_70 => fX12_goesOn_L363 fuel 0 r_68 0 g_70) else (bd2 (fX12_levelAt (up g_65 22 0 (g_65 22 0 + 1) 19 0) (up g_65 22 0 (g_65 22 0 + 1))) fun r_68 g_70 => fX12_goesOn_L363 fuel 0 r_68 0 g_70)) = some (1, h10) := by
    intro fast hf add ha
    subst hf ha
    rw [a19, bd2_s]
    by_cases c : wr v0 = 0
    · rw [if_pos c] at hh8 ⊢
      subst hh8
      rw [a20, a21, bd2_s, a22]
    · rw [if_neg c] at hh8 ⊢
      subst hh8
      rw [a20, a21, bd2_s, a22]
  done
