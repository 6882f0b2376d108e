/-! THE REFERENCE'S TICK, its parts given: lot 0 -/
theorem goesM_yes0 {t : Nat} {out s v lv sp A Sea F sp1 s1 ov sk st sl inr vw v0 lv1 : Int} {h h1 h2 h5 h7 h8 h9 h10 : Mem}
    (a0 : h 23 0 = 0) (a1 : fX12_slides 0 (up h 0 70 0) = some h1) (a2 : h1 19 0 = s) (a3 : fX12_levelAt s h1 = some (lv, h2)) (a4 : ¬ wr lv = -2147483648)
    (a5 : h2 19 0 = s) (a6 : fX12_armAt 0 s h2 = some A) (a7 : h2 0 22 = st) (hst : ¬ wl (wr st) = 0)
    (a8 : fX12_seaIn t (up h2 26 0 (Int.tdiv (wl (-A)) (wl (wr st)))) = some Sea) (a9 : h2 20 0 = sp) (a10 : h2 0 23 = sl)
    (a11 : fX12_isSo 1 0 t (up (up (up h2 26 0 (Int.tdiv (wl (-A)) (wl (wr st)))) 26 1 Sea) 26 2 (Int.tdiv (wr ((-sp) * sl)) 10)) = some (v, h5))
    (a12 : h5 20 0 = sp) (hvw : (if wr v = 0 then 0 else Int.tdiv (wr ((-sp) * out)) 4) = vw)
    (e0 : h5 26 0 = Int.tdiv (wl (-A)) (wl (wr st))) (e1 : h5 26 1 = Sea) (e2 : h5 26 2 = Int.tdiv (wr ((-sp) * sl)) 10)
    (a13 : fX12_bounded (wr (Int.tdiv (wl (-A)) (wl (wr st))) + wr Sea + wr (Int.tdiv (wr ((-sp) * sl)) 10) + wr vw) 1000 = some F)
    (a14 : h5 0 24 = inr) (hin : ¬ wr inr = 0) (a15 : fX12_bounded (wr (sp + Int.tdiv (wr F) (wr inr))) 30 = some sp1) (a16 : h5 19 0 = s) (a17 : fX12_bounded (wr (s + sp1)) 80 = some s1)
    (hov : (if wr (s + sp1) = wr s1 then 0 else 1) = ov) (a18 : h5 21 0 = sk)
    (a19 : fX12_isSo 0 0 t (up (up (up (up (up (up h5 26 3 vw) 0 70 F) 20 0 sp1) 19 0 s1) 23 0 ov) 21 0 (sk + (if wr (if 0 ≤ wr sp1 then sp1 else -sp1) ≤ 4 then 0 else (if 0 ≤ wr sp1 then sp1 else -sp1) - 4))) = some (v0, h7))
    (hh8 : (if wr v0 = 0 then h7 else up h7 22 0 (h7 22 0 + 1)) = h8) (a20 : h8 19 0 = s1) (a21 : fX12_levelAt s1 h8 = some (lv1, h9)) (a22 : fX12_goesOn_L363 fuel 0 lv1 0 h9 = some (1, h10)) : fX12_goesOn 0 t out h = some (1, h10) := by
  have dl : ∀ k : Option (Int × Mem), gd 0 2 k = k := fun k => gd_i (by decide) (by decide) (by decide)
  have d0 : ∀ k : Option (Int × Mem), gd (0 : Int) 8 k = k := fun k => gd_i (by decide) (by decide) (by decide)
  have d1 : ∀ k : Option (Int × Mem), gd (1 : Int) 8 k = k := fun k => gd_i (by decide) (by decide) (by decide)
  have d2 : ∀ k : Option (Int × Mem), gd (2 : Int) 8 k = k := fun k => gd_i (by decide) (by decide) (by decide)
  have d3 : ∀ k : Option (Int × Mem), gd (3 : Int) 8 k = k := fun k => gd_i (by decide) (by decide) (by decide)
  have wL : (wr 0).toNat = 0 := by decide
  have w0 : (wr 0).toNat = 0 := by decide
  have w1 : (wr 1).toNat = 1 := by decide
  have w2 : (wr 2).toNat = 2 := by decide
  have w3 : (wr 3).toNat = 3 := by decide
  have x0 : (4 : Int) * 0 = 0 := by decide
  have x1 : (0 : Int) + 1 = 1 := by decide
  have x2 : (0 : Int) + 2 = 2 := by decide
  have x3 : (0 : Int) + 3 = 3 := by decide
  have b9 : ∀ x y, up (up h2 26 0 x) 26 1 y 20 0 = sp := fun _ _ => a9
  have b10 : ∀ x y, up (up h2 26 0 x) 26 1 y 0 23 = sl := fun _ _ => a10
  unfold fX12_goesOn
  rw [bnd_e, dl, wL, if_pos (show wr (up h 0 70 0 23 0) = 0 from by rw [show up h 0 70 0 23 0 = h 23 0 from rfl, a0]; rfl), a1, bd_s, dl, a2, a3, bd2_s, if_neg a4, bnd_e, dl, a5, a6, bd_s, a7, gc_of hst]
  rw [x0, d0, w0, bnd_e, a8, bd_s, x1, d1, w1, bnd_e, dl, x2, d2, w2, bnd_e, b9, b10, a11, bd2_s, jn_e]
  have tail2 : ∀ x : Int, x = vw → (gd ((0 : Int) + 3) 8 <|
        bnd (up h5 26 (wr ((0 : Int) + 3)).toNat x) fun g_31 =>
        gd 0 8 <|
        gd 1 8 <|
        gd 2 8 <|
        gd ((0 : Int) + 3) 8 <|
        bd (fX12_bounded ((((wr (g_31 26 0)) + (wr (g_31 26 1))) + (wr (g_31 26 2))) + (wr (g_31 26 (wr ((0 : Int) + 3)).toNat))) 1000) fun r_36 =>
        bnd (up g_31 0 70 r_36) fun g_38 =>
        gd 0 2 <|
        gc (¬ wr (g_38 0 24) = 0) <|
        bd (fX12_bounded (wr ((g_38 20 0) + (Int.tdiv (wr (g_38 0 70)) (wr (g_38 0 24))))) 30) fun r_41 =>
        gd 0 2 <|
        bnd (up g_38 20 0 r_41) fun g_44 =>
        gd 0 2 <|
        gd 0 2 <|
        bnd ((g_44 19 0) + (g_44 20 0)) fun x_47 =>
        bd (fX12_bounded (wr x_47) 80) fun r_48 =>
        gd 0 2 <|
        bnd (up g_44 19 0 r_48) fun g_51 =>
        gd 0 2 <|
        jn (fun (v_53 : Int) =>
          gd 0 2 <|
          gc (v_53 = 0 ∨ v_53 = 1) <|
          bnd (up g_51 23 0 v_53) fun g_56 =>
          gd 0 2 <|
          jn (fun (v_58 : Int) =>
            gd 0 2 <|
            jn (fun (v_60 : Int) =>
              gd 0 2 <|
              bnd (up g_56 21 0 ((g_56 21 0) + v_60)) fun g_62 =>
              bd2 (fX12_isSo 0 0 t g_62) fun r_63 g_65 =>
              jn (fun (g_66 : Mem) =>
                gd 0 2 <|
                bd2 (fX12_levelAt (g_66 19 0) g_66) fun r_68 g_70 =>
                fX12_goesOn_L363 fuel 0 r_68 0 g_70
              ) fun J348 =>
              if wr r_63 = 0 then (
                J348 g_65
              ) else (
                gd 0 2 <|
                gd 0 2 <|
                bnd (up g_65 22 0 ((g_65 22 0) + 1)) fun g_93 =>
                J348 g_93
              )
            ) fun J326 =>
            if wr v_58 ≤ 4 then (
              J326 0
            ) else (
              J326 (v_58 - 4)
            )
          ) fun J303 =>
          if 0 ≤ wr (g_56 20 0) then (
            gd 0 2 <|
            J303 (g_56 20 0)
          ) else (
            gd 0 2 <|
            J303 (-(g_56 20 0))
          )
        ) fun J277 =>
        if wr x_47 = wr (g_51 19 0) then (
          J277 0
        ) else (
          J277 1
        )) = some ((1 : Int), h10) := by
    intro x hx
    subst hx
    have p0 : up h5 26 3 x 26 0 = Int.tdiv (wl (-A)) (wl (wr st)) := e0
    have p1 : up h5 26 3 x 26 1 = Sea := e1
    have p2 : up h5 26 3 x 26 2 = Int.tdiv (wr ((-sp) * sl)) 10 := e2
    have p3 : up h5 26 3 x 26 3 = x := rfl
    have f20 : up (up h5 26 3 x) 0 70 F 20 0 = sp := a12
    have f24 : up (up h5 26 3 x) 0 70 F 0 24 = inr := a14
    have f70 : up (up h5 26 3 x) 0 70 F 0 70 = F := rfl
    have f19 : up (up (up h5 26 3 x) 0 70 F) 20 0 sp1 19 0 = s := a16
    have f20b : up (up (up h5 26 3 x) 0 70 F) 20 0 sp1 20 0 = sp1 := rfl
    have f19b : up (up (up (up h5 26 3 x) 0 70 F) 20 0 sp1) 19 0 s1 19 0 = s1 := rfl
    rw [x3, d3, w3, bnd_e, d0, d1, d2, d3, p0, p1, p2, p3, a13, bd_s, bnd_e, dl, f24, gc_of hin, f20, f70, a15, bd_s, dl, bnd_e, dl, dl, bnd_e, f19, f20b, a17, bd_s, dl, bnd_e, dl, jn_e, f19b]
    have tail3 : ∀ o : Int, o = ov → (o = 0 ∨ o = 1) → (gd 0 2 <|
          gc (o = 0 ∨ o = 1) <|
          bnd (up (up (up (up (up h5 26 3 x) 0 70 F) 20 0 sp1) 19 0 s1) 23 0 o) fun g_56 =>
          gd 0 2 <|
          jn (fun (v_58 : Int) =>
            gd 0 2 <|
            jn (fun (v_60 : Int) =>
              gd 0 2 <|
              bnd (up g_56 21 0 ((g_56 21 0) + v_60)) fun g_62 =>
              bd2 (fX12_isSo 0 0 t g_62) fun r_63 g_65 =>
              jn (fun (g_66 : Mem) =>
                gd 0 2 <|
                bd2 (fX12_levelAt (g_66 19 0) g_66) fun r_68 g_70 =>
                fX12_goesOn_L363 fuel 0 r_68 0 g_70
              ) fun J348 =>
              if wr r_63 = 0 then (
                J348 g_65
              ) else (
                gd 0 2 <|
                gd 0 2 <|
                bnd (up g_65 22 0 ((g_65 22 0) + 1)) fun g_93 =>
                J348 g_93
              )
            ) fun J326 =>
            if wr v_58 ≤ 4 then (
              J326 0
            ) else (
              J326 (v_58 - 4)
            )
          ) fun J303 =>
          if 0 ≤ wr (g_56 20 0) then (
            gd 0 2 <|
            J303 (g_56 20 0)
          ) else (
            gd 0 2 <|
            J303 (-(g_56 20 0))
          )) = some ((1 : Int), h10) := by
      intro o ho ho2
      subst ho
      have f20c : up (up (up (up (up h5 26 3 x) 0 70 F) 20 0 sp1) 19 0 s1) 23 0 o 20 0 = sp1 := rfl
      have f21 : up (up (up (up (up h5 26 3 x) 0 70 F) 20 0 sp1) 19 0 s1) 23 0 o 21 0 = sk := a18
      have tail : ∀ add : Int, (if wr (if 0 ≤ wr sp1 then sp1 else -sp1) ≤ 4 then 0 else (if 0 ≤ wr sp1 then sp1 else -sp1) - 4) = add → (gd 0 2 <|
              bnd (up (up (up (up (up (up h5 26 3 x) 0 70 F) 20 0 sp1) 19 0 s1) 23 0 o) 21 0 (sk + add)) fun g_62 =>
              bd2 (fX12_isSo 0 0 t g_62) fun r_63 g_65 =>
              jn (fun (g_66 : Mem) =>
                gd 0 2 <|
                bd2 (fX12_levelAt (g_66 19 0) g_66) fun r_68 g_70 =>
                fX12_goesOn_L363 fuel 0 r_68 0 g_70
              ) fun J348 =>
              if wr r_63 = 0 then (
                J348 g_65
              ) else (
                gd 0 2 <|
                gd 0 2 <|
                bnd (up g_65 22 0 ((g_65 22 0) + 1)) fun g_93 =>
                J348 g_93
              )) = some ((1 : Int), h10) := by
        intro add ha
        subst ha
        rw [dl, bnd_e, a19, bd2_s, jn_e]
        by_cases c : wr v0 = 0
        · rw [if_pos c] at hh8 ⊢
          subst hh8
          dsimp only
          rw [dl, a20, a21, bd2_s, a22]
        · rw [if_neg c] at hh8 ⊢
          rw [dl, dl, bnd_e, hh8]
          dsimp only
          rw [dl, a20, a21, bd2_s, a22]
      rw [dl, gc_of ho2, bnd_e, dl, jn_e, f20c, f21]
      by_cases c : 0 ≤ wr sp1
      · rw [if_pos c] at tail ⊢
        rw [dl]
        dsimp only
        rw [dl, jn_e]
        dsimp only
        by_cases d : wr sp1 ≤ 4
        · rw [if_pos d] at tail ⊢; exact tail 0 rfl
        · rw [if_neg d] at tail ⊢; exact tail _ rfl
      · rw [if_neg c] at tail ⊢
        rw [dl]
        dsimp only
        rw [dl, jn_e]
        dsimp only
        by_cases d : wr (-sp1) ≤ 4
        · rw [if_pos d] at tail ⊢; exact tail 0 rfl
        · rw [if_neg d] at tail ⊢; exact tail _ rfl
    by_cases c : wr (s + sp1) = wr s1
    · rw [if_pos c] at hov ⊢; exact tail3 0 hov (.inl rfl)
    · rw [if_neg c] at hov ⊢; exact tail3 1 hov (.inr rfl)
  by_cases c : wr v = 0
  · rw [if_pos c] at hvw ⊢; exact tail2 0 hvw
  · rw [if_neg c] at hvw ⊢; rw [dl, a12]; exact tail2 _ hvw

/-! THE REFERENCE'S TICK, its parts given: lot 1 -/
theorem goesM_yes1 {t : Nat} {out s v lv sp A Sea F sp1 s1 ov sk st sl inr vw v0 lv1 : Int} {h h1 h2 h5 h7 h8 h9 h10 : Mem}
    (a0 : h 23 1 = 0) (a1 : fX12_slides 1 (up h 0 70 0) = some h1) (a2 : h1 19 1 = s) (a3 : fX12_levelAt s h1 = some (lv, h2)) (a4 : ¬ wr lv = -2147483648)
    (a5 : h2 19 1 = s) (a6 : fX12_armAt 1 s h2 = some A) (a7 : h2 0 22 = st) (hst : ¬ wl (wr st) = 0)
    (a8 : fX12_seaIn t (up h2 26 4 (Int.tdiv (wl (-A)) (wl (wr st)))) = some Sea) (a9 : h2 20 1 = sp) (a10 : h2 0 23 = sl)
    (a11 : fX12_isSo 1 1 t (up (up (up h2 26 4 (Int.tdiv (wl (-A)) (wl (wr st)))) 26 5 Sea) 26 6 (Int.tdiv (wr ((-sp) * sl)) 10)) = some (v, h5))
    (a12 : h5 20 1 = sp) (hvw : (if wr v = 0 then 0 else Int.tdiv (wr ((-sp) * out)) 4) = vw)
    (e0 : h5 26 4 = Int.tdiv (wl (-A)) (wl (wr st))) (e1 : h5 26 5 = Sea) (e2 : h5 26 6 = Int.tdiv (wr ((-sp) * sl)) 10)
    (a13 : fX12_bounded (wr (Int.tdiv (wl (-A)) (wl (wr st))) + wr Sea + wr (Int.tdiv (wr ((-sp) * sl)) 10) + wr vw) 1000 = some F)
    (a14 : h5 0 24 = inr) (hin : ¬ wr inr = 0) (a15 : fX12_bounded (wr (sp + Int.tdiv (wr F) (wr inr))) 30 = some sp1) (a16 : h5 19 1 = s) (a17 : fX12_bounded (wr (s + sp1)) 80 = some s1)
    (hov : (if wr (s + sp1) = wr s1 then 0 else 1) = ov) (a18 : h5 21 1 = sk)
    (a19 : fX12_isSo 0 1 t (up (up (up (up (up (up h5 26 7 vw) 0 70 F) 20 1 sp1) 19 1 s1) 23 1 ov) 21 1 (sk + (if wr (if 0 ≤ wr sp1 then sp1 else -sp1) ≤ 4 then 0 else (if 0 ≤ wr sp1 then sp1 else -sp1) - 4))) = some (v0, h7))
    (hh8 : (if wr v0 = 0 then h7 else up h7 22 1 (h7 22 1 + 1)) = h8) (a20 : h8 19 1 = s1) (a21 : fX12_levelAt s1 h8 = some (lv1, h9)) (a22 : fX12_goesOn_L363 fuel 1 lv1 0 h9 = some (1, h10)) : fX12_goesOn 1 t out h = some (1, h10) := by
  have dl : ∀ k : Option (Int × Mem), gd 1 2 k = k := fun k => gd_i (by decide) (by decide) (by decide)
  have d0 : ∀ k : Option (Int × Mem), gd (4 : Int) 8 k = k := fun k => gd_i (by decide) (by decide) (by decide)
  have d1 : ∀ k : Option (Int × Mem), gd (5 : Int) 8 k = k := fun k => gd_i (by decide) (by decide) (by decide)
  have d2 : ∀ k : Option (Int × Mem), gd (6 : Int) 8 k = k := fun k => gd_i (by decide) (by decide) (by decide)
  have d3 : ∀ k : Option (Int × Mem), gd (7 : Int) 8 k = k := fun k => gd_i (by decide) (by decide) (by decide)
  have wL : (wr 1).toNat = 1 := by decide
  have w0 : (wr 4).toNat = 4 := by decide
  have w1 : (wr 5).toNat = 5 := by decide
  have w2 : (wr 6).toNat = 6 := by decide
  have w3 : (wr 7).toNat = 7 := by decide
  have x0 : (4 : Int) * 1 = 4 := by decide
  have x1 : (4 : Int) + 1 = 5 := by decide
  have x2 : (4 : Int) + 2 = 6 := by decide
  have x3 : (4 : Int) + 3 = 7 := by decide
  have b9 : ∀ x y, up (up h2 26 4 x) 26 5 y 20 1 = sp := fun _ _ => a9
  have b10 : ∀ x y, up (up h2 26 4 x) 26 5 y 0 23 = sl := fun _ _ => a10
  unfold fX12_goesOn
  rw [bnd_e, dl, wL, if_pos (show wr (up h 0 70 0 23 1) = 0 from by rw [show up h 0 70 0 23 1 = h 23 1 from rfl, a0]; rfl), a1, bd_s, dl, a2, a3, bd2_s, if_neg a4, bnd_e, dl, a5, a6, bd_s, a7, gc_of hst]
  rw [x0, d0, w0, bnd_e, a8, bd_s, x1, d1, w1, bnd_e, dl, x2, d2, w2, bnd_e, b9, b10, a11, bd2_s, jn_e]
  have tail2 : ∀ x : Int, x = vw → (gd ((4 : Int) + 3) 8 <|
        bnd (up h5 26 (wr ((4 : Int) + 3)).toNat x) fun g_31 =>
        gd 4 8 <|
        gd 5 8 <|
        gd 6 8 <|
        gd ((4 : Int) + 3) 8 <|
        bd (fX12_bounded ((((wr (g_31 26 4)) + (wr (g_31 26 5))) + (wr (g_31 26 6))) + (wr (g_31 26 (wr ((4 : Int) + 3)).toNat))) 1000) fun r_36 =>
        bnd (up g_31 0 70 r_36) fun g_38 =>
        gd 1 2 <|
        gc (¬ wr (g_38 0 24) = 0) <|
        bd (fX12_bounded (wr ((g_38 20 1) + (Int.tdiv (wr (g_38 0 70)) (wr (g_38 0 24))))) 30) fun r_41 =>
        gd 1 2 <|
        bnd (up g_38 20 1 r_41) fun g_44 =>
        gd 1 2 <|
        gd 1 2 <|
        bnd ((g_44 19 1) + (g_44 20 1)) fun x_47 =>
        bd (fX12_bounded (wr x_47) 80) fun r_48 =>
        gd 1 2 <|
        bnd (up g_44 19 1 r_48) fun g_51 =>
        gd 1 2 <|
        jn (fun (v_53 : Int) =>
          gd 1 2 <|
          gc (v_53 = 0 ∨ v_53 = 1) <|
          bnd (up g_51 23 1 v_53) fun g_56 =>
          gd 1 2 <|
          jn (fun (v_58 : Int) =>
            gd 1 2 <|
            jn (fun (v_60 : Int) =>
              gd 1 2 <|
              bnd (up g_56 21 1 ((g_56 21 1) + v_60)) fun g_62 =>
              bd2 (fX12_isSo 0 1 t g_62) fun r_63 g_65 =>
              jn (fun (g_66 : Mem) =>
                gd 1 2 <|
                bd2 (fX12_levelAt (g_66 19 1) g_66) fun r_68 g_70 =>
                fX12_goesOn_L363 fuel 1 r_68 0 g_70
              ) fun J348 =>
              if wr r_63 = 0 then (
                J348 g_65
              ) else (
                gd 1 2 <|
                gd 1 2 <|
                bnd (up g_65 22 1 ((g_65 22 1) + 1)) fun g_93 =>
                J348 g_93
              )
            ) fun J326 =>
            if wr v_58 ≤ 4 then (
              J326 0
            ) else (
              J326 (v_58 - 4)
            )
          ) fun J303 =>
          if 0 ≤ wr (g_56 20 1) then (
            gd 1 2 <|
            J303 (g_56 20 1)
          ) else (
            gd 1 2 <|
            J303 (-(g_56 20 1))
          )
        ) fun J277 =>
        if wr x_47 = wr (g_51 19 1) then (
          J277 0
        ) else (
          J277 1
        )) = some ((1 : Int), h10) := by
    intro x hx
    subst hx
    have p0 : up h5 26 7 x 26 4 = Int.tdiv (wl (-A)) (wl (wr st)) := e0
    have p1 : up h5 26 7 x 26 5 = Sea := e1
    have p2 : up h5 26 7 x 26 6 = Int.tdiv (wr ((-sp) * sl)) 10 := e2
    have p3 : up h5 26 7 x 26 7 = x := rfl
    have f20 : up (up h5 26 7 x) 0 70 F 20 1 = sp := a12
    have f24 : up (up h5 26 7 x) 0 70 F 0 24 = inr := a14
    have f70 : up (up h5 26 7 x) 0 70 F 0 70 = F := rfl
    have f19 : up (up (up h5 26 7 x) 0 70 F) 20 1 sp1 19 1 = s := a16
    have f20b : up (up (up h5 26 7 x) 0 70 F) 20 1 sp1 20 1 = sp1 := rfl
    have f19b : up (up (up (up h5 26 7 x) 0 70 F) 20 1 sp1) 19 1 s1 19 1 = s1 := rfl
    rw [x3, d3, w3, bnd_e, d0, d1, d2, d3, p0, p1, p2, p3, a13, bd_s, bnd_e, dl, f24, gc_of hin, f20, f70, a15, bd_s, dl, bnd_e, dl, dl, bnd_e, f19, f20b, a17, bd_s, dl, bnd_e, dl, jn_e, f19b]
    have tail3 : ∀ o : Int, o = ov → (o = 0 ∨ o = 1) → (gd 1 2 <|
          gc (o = 0 ∨ o = 1) <|
          bnd (up (up (up (up (up h5 26 7 x) 0 70 F) 20 1 sp1) 19 1 s1) 23 1 o) fun g_56 =>
          gd 1 2 <|
          jn (fun (v_58 : Int) =>
            gd 1 2 <|
            jn (fun (v_60 : Int) =>
              gd 1 2 <|
              bnd (up g_56 21 1 ((g_56 21 1) + v_60)) fun g_62 =>
              bd2 (fX12_isSo 0 1 t g_62) fun r_63 g_65 =>
              jn (fun (g_66 : Mem) =>
                gd 1 2 <|
                bd2 (fX12_levelAt (g_66 19 1) g_66) fun r_68 g_70 =>
                fX12_goesOn_L363 fuel 1 r_68 0 g_70
              ) fun J348 =>
              if wr r_63 = 0 then (
                J348 g_65
              ) else (
                gd 1 2 <|
                gd 1 2 <|
                bnd (up g_65 22 1 ((g_65 22 1) + 1)) fun g_93 =>
                J348 g_93
              )
            ) fun J326 =>
            if wr v_58 ≤ 4 then (
              J326 0
            ) else (
              J326 (v_58 - 4)
            )
          ) fun J303 =>
          if 0 ≤ wr (g_56 20 1) then (
            gd 1 2 <|
            J303 (g_56 20 1)
          ) else (
            gd 1 2 <|
            J303 (-(g_56 20 1))
          )) = some ((1 : Int), h10) := by
      intro o ho ho2
      subst ho
      have f20c : up (up (up (up (up h5 26 7 x) 0 70 F) 20 1 sp1) 19 1 s1) 23 1 o 20 1 = sp1 := rfl
      have f21 : up (up (up (up (up h5 26 7 x) 0 70 F) 20 1 sp1) 19 1 s1) 23 1 o 21 1 = sk := a18
      have tail : ∀ add : Int, (if wr (if 0 ≤ wr sp1 then sp1 else -sp1) ≤ 4 then 0 else (if 0 ≤ wr sp1 then sp1 else -sp1) - 4) = add → (gd 1 2 <|
              bnd (up (up (up (up (up (up h5 26 7 x) 0 70 F) 20 1 sp1) 19 1 s1) 23 1 o) 21 1 (sk + add)) fun g_62 =>
              bd2 (fX12_isSo 0 1 t g_62) fun r_63 g_65 =>
              jn (fun (g_66 : Mem) =>
                gd 1 2 <|
                bd2 (fX12_levelAt (g_66 19 1) g_66) fun r_68 g_70 =>
                fX12_goesOn_L363 fuel 1 r_68 0 g_70
              ) fun J348 =>
              if wr r_63 = 0 then (
                J348 g_65
              ) else (
                gd 1 2 <|
                gd 1 2 <|
                bnd (up g_65 22 1 ((g_65 22 1) + 1)) fun g_93 =>
                J348 g_93
              )) = some ((1 : Int), h10) := by
        intro add ha
        subst ha
        rw [dl, bnd_e, a19, bd2_s, jn_e]
        by_cases c : wr v0 = 0
        · rw [if_pos c] at hh8 ⊢
          subst hh8
          dsimp only
          rw [dl, a20, a21, bd2_s, a22]
        · rw [if_neg c] at hh8 ⊢
          rw [dl, dl, bnd_e, hh8]
          dsimp only
          rw [dl, a20, a21, bd2_s, a22]
      rw [dl, gc_of ho2, bnd_e, dl, jn_e, f20c, f21]
      by_cases c : 0 ≤ wr sp1
      · rw [if_pos c] at tail ⊢
        rw [dl]
        dsimp only
        rw [dl, jn_e]
        dsimp only
        by_cases d : wr sp1 ≤ 4
        · rw [if_pos d] at tail ⊢; exact tail 0 rfl
        · rw [if_neg d] at tail ⊢; exact tail _ rfl
      · rw [if_neg c] at tail ⊢
        rw [dl]
        dsimp only
        rw [dl, jn_e]
        dsimp only
        by_cases d : wr (-sp1) ≤ 4
        · rw [if_pos d] at tail ⊢; exact tail 0 rfl
        · rw [if_neg d] at tail ⊢; exact tail _ rfl
    by_cases c : wr (s + sp1) = wr s1
    · rw [if_pos c] at hov ⊢; exact tail3 0 hov (.inl rfl)
    · rw [if_neg c] at hov ⊢; exact tail3 1 hov (.inr rfl)
  by_cases c : wr v = 0
  · rw [if_pos c] at hvw ⊢; exact tail2 0 hvw
  · rw [if_neg c] at hvw ⊢; rw [dl, a12]; exact tail2 _ hvw
