/-! AN OPERAND; a B; a CLAUSE -/
theorem em_ag {C : tyC} {d w : Int} : ∀ k, k < C.1 → (em C d w).2.1 k = C.2.1 k := fun k hk => if_neg (by omega)
theorem operand_e {h0 g0 g : Mem} {r : Nat} {W : List Int} {D : Nat × (Nat → Int)} {C : tyC} {fr to : Nat → Int} {B : tyB} {st cs pa br cm f : Int} {t k v : Int} {i c0 beg : Nat} (hr : 41 ≤ r) {b : Nat → Int} {S p q' f' : Nat} {k' v' : Int} (N : MN b S p k' v' f' q') (hS : h0 0 48 = (S : Int)) (hb : h0 35 = b) (hT : tb (k', v', (f' : Int), (q' : Int))) (hK : TokR t k v)
    (X : XS r g0 g W D fr to st cs (opn W : Int) pa br cm (p : Int) f) (hW : WF W) (hCR : CR D C) (hop : opn W ≤ 8) (hlen : C.1 + W.length ≤ i) (hi : i ≤ 300) (hit : t ≠ 10027 → i < 300) (hO : PIo C fr to B cs beg c0) (hpa : pa = (pcn W : Int)) (hbr : br = (bcn W : Int)) (hcm : cm = cmd W) (hTY : TY C beg (PT W)) : SOK 20 t (fX5_takeOperand r t g) r g0 h0 (5 :: KK 0 W) C B (k, v, f, (p : Int)) (opn W : Int) (k', v', (f' : Int), (q' : Int)) (p : Int) f i ∨ SNO 20 (fX5_takeOperand r t g) r g0 h0 (5 :: KK 0 W) C B (k, v, f, (p : Int)) (opn W : Int) f := by
  have hlW := len_W hW
  have hkl := len_K 0 hW
  have h7 : g 39 7 = pa := X.2.2.2.2.1.2.2.2.1
  by_cases c1 : t = 10020
  · subst c1
    have hkv : k = 3 ∧ v = 40 := by unfold TokR at hK; omega
    obtain ⟨rfl, rfl⟩ := hkv
    have X1 := x_st (v := 2) hr (x_pa (v := pa + 1) hr X)
    by_cases c2 : opn W < 8
    · left
      obtain ⟨g2, e2, X2⟩ := x_deep 10020 hr (by omega) (by omega) X1
      have eo : opn (10020 :: W) = 1 + opn W := rfl
      rw [show ((opn W : Nat) : Int) + 1 = ((opn (10020 :: W) : Nat) : Int) by omega] at X2
      refine ⟨by decide, 2, 10020 :: W, D, C, fr, to, B, cs, pa + 1, br, cm, g2, ?_, X2, ?_, ?_⟩
      · unfold fX5_takeOperand
        rw [if_pos (by decide), h7, bnd_e, bnd_e, e2, bd2_s, gc_of (.inr rfl)]
      · have a1 := g_5o (h0 := h0) (l := KK 0 W) (C := C) (B := B) (f := f) (dp := (opn W : Int)) (by omega) N hS hb hT (by omega)
        rw [show ((opn W : Nat) : Int) + 1 = ((opn (10020 :: W) : Nat) : Int) by omega] at a1
        have a2 := g_1 (h0 := h0) (l := 141 :: 12 :: KK 0 W) (C := C) (B := B) (T := (k', v', (f' : Int), (q' : Int))) (dp := (opn (10020 :: W) : Int)) (by simp only [List.length_cons]; omega)
        have a3 := g_3 (h0 := h0) (l := 2 :: 141 :: 12 :: KK 0 W) (C := C) (B := B) (T := (k', v', (f' : Int), (q' : Int))) (dp := (opn (10020 :: W) : Int)) (by simp only [List.length_cons]; omega)
        have a4 : (5 : Int) :: 4 :: 2 :: 141 :: 12 :: KK 0 W = stk 2 (10020 :: W) := by
          show _ = 5 :: KK 0 (10020 :: W)
          rw [K_at (W := 10020 :: W) (L := 0) (by show 0 < lv 10020; decide), K_at (W := 10020 :: W) (L := 0 + 1) (by show 1 < lv 10020; decide), show KK (0 + 1 + 1) (10020 :: W) = hd 10020 ++ KK 0 W from K_top 10020 W]; rfl
        rw [a4] at a3
        exact Go_le (Go_tr (Go_tr a1 a2) a3) (by omega)
      · refine ⟨⟨by unfold Ent; omega, Nat.zero_le _, hW⟩, hCR, by omega, by show C.1 + (W.length + 1) ≤ _; omega, .inr ⟨c0, beg, hO, ?_, ?_, .inr (.inl ⟨rfl, hcm, hTY⟩)⟩⟩
        · show pa + 1 = ((1 + pcn W : Nat) : Int); omega
        · show br = ((0 + bcn W : Nat) : Int); omega
    · right
      have e8 : ((opn W : Nat) : Int) = 8 := by omega
      rw [e8] at X1
      have e2 := x_deepf 10020 X1
      refine ⟨_, ?_, X1.2.2.2.2.2, X1.2.2.2.1.2, ?_⟩
      · unfold fX5_takeOperand
        rw [if_pos (by decide), h7, bnd_e, bnd_e, e2, bd2_s, gc_of (.inl rfl)]
      · rw [e8]
        exact Fa_le (f_5 (by omega) (fun z => absurd z.1 (show ¬ (3 : Int) = 1 by decide)) (fun z => absurd z.1 (show ¬ (3 : Int) = 2 by decide)) (fun z => absurd z.2.2 (by decide))) (by omega)
  have pl := PT_len W
  by_cases c2 : t < 10010
  · left
    have ht0 := (tokB hK).1
    have hi3 := hit (by omega)
    have hD : D.1 < 300 := by rw [hCR.1]; omega
    obtain ⟨g1, e1, X1⟩ := x_emit t hr hD X
    have X2 := x_st (v := 3) hr X1
    have cls : fX5_takeOperand r t g = some (1, up g1 39 4 3) := by
      unfold fX5_takeOperand
      rw [wtE (tokB hK), if_neg c1, if_neg (by omega), if_pos c2, e1, bd_s, bnd_e]
    have fin : ∀ d w : Int, CdR t d w → tst d (PT W) = some (false :: PT W) → Go h0 20 (5 :: KK 0 W) C B (k, v, f, (p : Int)) (opn W : Int) (stk 3 W) (em C d w) B (k', v', (f' : Int), (q' : Int)) (opn W : Int) → SOK 20 t (fX5_takeOperand r t g) r g0 h0 (5 :: KK 0 W) C B (k, v, f, (p : Int)) (opn W : Int) (k', v', (f' : Int), (q' : Int)) (p : Int) f i := by
      intro d w hcd hts G
      refine ⟨by omega, 3, W, xem D t, em C d w, fr, to, B, cs, pa, br, cm, _, cls, X2, G, hW, cr_em hCR hcd, hop, by show C.1 + 1 + W.length ≤ _; omega, .inr ⟨c0, beg, pio_mono hO (Nat.le_succ _) em_ag, hpa, hbr, .inr (.inr (.inl ⟨rfl, hcm, ty_em hTY hts (by simp only [List.length_cons]; omega)⟩))⟩⟩
    by_cases c3 : k = 1
    · have hv : 0 ≤ v ∧ v ≤ 9999 ∧ t = v := by unfold TokR at hK; omega
      subst c3
      exact fin 0 v (.inl ⟨rfl, hv.2.2, hv.1, hv.2.1⟩) rfl (Go_le (g_5n (h0 := h0) (l := KK 0 W) (C := C) (B := B) (f := f) (dp := (opn W : Int)) (by omega) N hS hb hT ⟨hv.1, hv.2.1⟩ (by omega)) (by omega))
    · have hv : k = 2 ∧ 2 ≤ v ∧ v ≤ 8 ∧ t = 9998 + v := by unfold TokR at hK; omega
      obtain ⟨rfl, hv⟩ := hv
      exact fin 1 (v - 2) (.inr (.inl ⟨rfl, by omega, by omega, by omega⟩)) rfl (Go_le (g_5w (h0 := h0) (l := KK 0 W) (C := C) (B := B) (f := f) (dp := (opn W : Int)) (by omega) N hS hb hT ⟨hv.1, hv.2.1⟩ (by omega)) (by omega))
  right
  refine ⟨g, ?_, X.2.2.2.2.2, X.2.2.2.1.2, ?_⟩
  · unfold fX5_takeOperand
    rw [wtE (tokB hK), if_neg c1, if_neg (by have := (tokB hK).1; omega), if_neg c2]
  · refine Fa_le (f_5 (by omega) (fun z => ?_) (fun z => ?_) (fun z => ?_)) (by omega)
    · have z1 : k = 1 := z.1
      have z2 : v ≤ 9999 := z.2
      unfold TokR at hK; omega
    · have z1 : k = 2 := z.1
      have z2 : 2 ≤ v := z.2.1
      have z3 : v ≤ 8 := z.2.2
      unfold TokR at hK; omega
    · have z1 : k = 3 := z.1
      have z2 : v = 40 := z.2.1
      unfold TokR at hK; omega
theorem b2r {F : Option (Int × Mem)} {x : Int} {g' : Mem} (hx : x = 0 ∨ x = 1) (e : F = some (x, g')) : (bd2 F fun r_1 g_1 => gc (r_1 = 0 ∨ r_1 = 1) (some (r_1, g_1))) = some (x, g') := by
  rw [e, bd2_s, gc_of hx]
theorem pass_r {t : Int} {F F' : Option (Int × Mem)} {r : Nat} {g0 h0 : Mem} {l l' : List Int} {C : tyC} {B : tyB} {T T' : tyT} {dp p f : Int} {i M M' a : Nat} (hF : ∀ x g', (x = 0 ∨ x = 1) → F = some (x, g') → F' = some (x, g')) (hG : Go h0 a l' C B T dp l C B T dp) (hM : a + M ≤ M') (j : SOK M t F r g0 h0 l C B T dp T' p f i ∨ SNO M F r g0 h0 l C B T dp f) : SOK M' t F' r g0 h0 l' C B T dp T' p f i ∨ SNO M' F' r g0 h0 l' C B T dp f := by
  rcases j with ⟨j0, st', W', D', C', fr', to', B', cs', pa', br', cm', g', j1, j2, j3, j4⟩ | ⟨g', j1, j2, j3, j4⟩
  · exact .inl ⟨j0, st', W', D', C', fr', to', B', cs', pa', br', cm', g', hF 1 g' (.inr rfl) j1, j2, Go_le (Go_tr hG j3) hM, j4⟩
  · exact .inr ⟨g', hF 0 g' (.inl rfl) j1, j2, j3, Fa_le (Go_fa hG j4) hM⟩
theorem takeB_e {h0 g0 g : Mem} {r : Nat} {W : List Int} {D : Nat × (Nat → Int)} {C : tyC} {fr to : Nat → Int} {B : tyB} {st cs pa br cm f : Int} {t k v : Int} {i c0 beg : Nat} (hr : 41 ≤ r) {b : Nat → Int} {S p q' f' : Nat} {k' v' : Int} (N : MN b S p k' v' f' q') (hS : h0 0 48 = (S : Int)) (hb : h0 35 = b) (hT : tb (k', v', (f' : Int), (q' : Int))) (hK : TokR t k v)
    (X : XS r g0 g W D fr to st cs (opn W : Int) pa br cm (p : Int) f) (hW : WF W) (hCR : CR D C) (hop : opn W ≤ 8) (hlen : C.1 + W.length ≤ i) (hi : i ≤ 300) (hit : t ≠ 10027 → i < 300) (hO : PIo C fr to B cs beg c0) (hpa : pa = (pcn W : Int)) (hbr : br = (bcn W : Int)) (hcm : cm = cmd W) (hst : st = 1) (h3 : 3 ≤ lvW W) (hTY : TY C beg (PT W)) : SOK 300 t (fX5_take r t g) r g0 h0 (10 :: KK 3 W) C B (k, v, f, (p : Int)) (opn W : Int) (k', v', (f' : Int), (q' : Int)) (p : Int) f i ∨ SNO 300 (fX5_take r t g) r g0 h0 (10 :: KK 3 W) C B (k, v, f, (p : Int)) (opn W : Int) f := by
  have hlW := len_W hW
  have hkl := len_K 3 hW
  subst hst
  have h4 : g 39 4 = 1 := X.2.2.2.2.1.1
  have h8 : g 39 8 = br := X.2.2.2.2.1.2.2.2.2.1
  by_cases c1 : t = 10012
  · subst c1
    have hkv : k = 2 ∧ v = 11 := by unfold TokR at hK; omega
    obtain ⟨rfl, rfl⟩ := hkv
    have X1 := x_br (v := br + 0) hr X
    have ft : ∀ x g', (x = 0 ∨ x = 1) → fX5_goDeeper 10012 (up g 39 8 (br + 0)) = some (x, g') → fX5_take r 10012 g = some (x, g') := by
      intro x g' hx e
      unfold fX5_take
      simp only [↓jn_e]
      rw [h4, if_neg (by decide), if_pos (by decide), if_pos (by decide), if_neg (by decide), h8, bnd_e]
      exact b2r hx e
    by_cases c2 : opn W < 8
    · left
      obtain ⟨g2, e2, X2⟩ := x_deep 10012 hr (by omega) (by omega) X1
      have eo : opn (10012 :: W) = 1 + opn W := rfl
      rw [show ((opn W : Nat) : Int) + 1 = ((opn (10012 :: W) : Nat) : Int) by omega] at X2
      refine ⟨by decide, 1, 10012 :: W, D, C, fr, to, B, cs, pa, br + 0, cm, g2, ft 1 g2 (.inr rfl) e2, X2, ?_, ?_⟩
      · have a1 := g_10n (h0 := h0) (l := KK 3 W) (C := C) (B := B) (f := f) (dp := (opn W : Int)) (by omega) N hS hb hT (by omega)
        rw [show ((opn W : Nat) : Int) + 1 = ((opn (10012 :: W) : Nat) : Int) by omega] at a1
        have a4 : (10 : Int) :: 1011 :: 12 :: KK 3 W = stk 1 (10012 :: W) := by
          show _ = 10 :: KK 3 (10012 :: W)
          rw [show KK 3 (10012 :: W) = hd 10012 ++ KK 3 W from K_top 10012 W]; rfl
        rw [a4] at a1
        exact Go_le a1 (by omega)
      · refine ⟨⟨by unfold Ent; omega, h3, hW⟩, hCR, by omega, by show C.1 + (W.length + 1) ≤ _; omega, .inr ⟨c0, beg, hO, ?_, ?_, .inl ⟨rfl, (show 3 ≤ lv 10012 by decide), ?_, hTY⟩⟩⟩
        · show pa = ((0 + pcn W : Nat) : Int); omega
        · show br + 0 = ((0 + bcn W : Nat) : Int); omega
        · rw [hcm]; exact cmd0 hW h3
    · right
      have e8 : ((opn W : Nat) : Int) = 8 := by omega
      rw [e8] at X1
      refine ⟨_, ft 0 _ (.inl rfl) (x_deepf 10012 X1), X1.2.2.2.2.2, X1.2.2.2.1.2, ?_⟩
      rw [e8]
      exact Fa_le (f_10 (by omega) (.inl ⟨rfl, rfl⟩)) (by omega)
  by_cases c3 : t = 10022
  · subst c3
    have hkv : k = 3 ∧ v = 91 := by unfold TokR at hK; omega
    obtain ⟨rfl, rfl⟩ := hkv
    have X1 := x_br (v := br + 1) hr X
    have ft : ∀ x g', (x = 0 ∨ x = 1) → fX5_goDeeper 10022 (up g 39 8 (br + 1)) = some (x, g') → fX5_take r 10022 g = some (x, g') := by
      intro x g' hx e
      unfold fX5_take
      simp only [↓jn_e]
      rw [h4, if_neg (by decide), if_pos (by decide), if_neg (by decide), if_pos (by decide), if_pos (by decide), h8, bnd_e]
      exact b2r hx e
    by_cases c2 : opn W < 8
    · left
      obtain ⟨g2, e2, X2⟩ := x_deep 10022 hr (by omega) (by omega) X1
      have eo : opn (10022 :: W) = 1 + opn W := rfl
      rw [show ((opn W : Nat) : Int) + 1 = ((opn (10022 :: W) : Nat) : Int) by omega] at X2
      refine ⟨by decide, 1, 10022 :: W, D, C, fr, to, B, cs, pa, br + 1, cm, g2, ft 1 g2 (.inr rfl) e2, X2, ?_, ?_⟩
      · have a1 := g_10o (h0 := h0) (l := KK 3 W) (C := C) (B := B) (f := f) (dp := (opn W : Int)) (by omega) N hS hb hT (by omega)
        rw [show ((opn W : Nat) : Int) + 1 = ((opn (10022 :: W) : Nat) : Int) by omega] at a1
        have a2 := g_6 (h0 := h0) (l := 193 :: 12 :: KK 3 W) (C := C) (B := B) (T := (k', v', (f' : Int), (q' : Int))) (dp := (opn (10022 :: W) : Int)) (by simp only [List.length_cons]; omega)
        have a3 := g_8 (h0 := h0) (l := 7 :: 193 :: 12 :: KK 3 W) (C := C) (B := B) (T := (k', v', (f' : Int), (q' : Int))) (dp := (opn (10022 :: W) : Int)) (by simp only [List.length_cons]; omega)
        have a4 : (10 : Int) :: 9 :: 7 :: 193 :: 12 :: KK 3 W = stk 1 (10022 :: W) := by
          show _ = 10 :: KK 3 (10022 :: W)
          rw [K_at (W := 10022 :: W) (L := 3) (by show 3 < lv 10022; decide), K_at (W := 10022 :: W) (L := 3 + 1) (by show 4 < lv 10022; decide), show KK (3 + 1 + 1) (10022 :: W) = hd 10022 ++ KK 3 W from K_top 10022 W]; rfl
        rw [a4] at a3
        exact Go_le (Go_tr (Go_tr a1 a2) a3) (by omega)
      · refine ⟨⟨by unfold Ent; omega, h3, hW⟩, hCR, by omega, by show C.1 + (W.length + 1) ≤ _; omega, .inr ⟨c0, beg, hO, ?_, ?_, .inl ⟨rfl, (show 3 ≤ lv 10022 by decide), ?_, hTY⟩⟩⟩
        · show pa = ((0 + pcn W : Nat) : Int); omega
        · show br + 1 = ((1 + bcn W : Nat) : Int); omega
        · rw [hcm]; exact cmd0 hW h3
    · right
      have e8 : ((opn W : Nat) : Int) = 8 := by omega
      rw [e8] at X1
      refine ⟨_, ft 0 _ (.inl rfl) (x_deepf 10022 X1), X1.2.2.2.2.2, X1.2.2.2.1.2, ?_⟩
      rw [e8]
      exact Fa_le (f_10 (by omega) (.inr ⟨rfl, rfl⟩)) (by omega)
  have j := operand_e hr N hS hb hT hK X hW hCR hop hlen hi hit hO hpa hbr hcm hTY
  have n1 : ¬ (k = 2 ∧ v = 11) := by unfold TokR at hK; omega
  have n2 : ¬ (k = 3 ∧ v = 91) := by unfold TokR at hK; omega
  have hk0 := len_K 0 hW
  have G : Go h0 3 (10 :: KK 3 W) C B (k, v, f, (p : Int)) (opn W : Int) (5 :: KK 0 W) C B (k, v, f, (p : Int)) (opn W : Int) := by
    have a1 := g_10e (h0 := h0) (l := KK 3 W) (C := C) (B := B) (T := (k, v, f, (p : Int))) (dp := (opn W : Int)) (by omega) n1 n2
    have a2 := g_1 (h0 := h0) (l := 11 :: KK 3 W) (C := C) (B := B) (T := (k, v, f, (p : Int))) (dp := (opn W : Int)) (by simp only [List.length_cons]; omega)
    have a3 := g_3 (h0 := h0) (l := 2 :: 11 :: KK 3 W) (C := C) (B := B) (T := (k, v, f, (p : Int))) (dp := (opn W : Int)) (by simp only [List.length_cons]; omega)
    have a4 : (5 : Int) :: 4 :: 2 :: 11 :: KK 3 W = 5 :: KK 0 W := by
      rw [K_at (W := W) (L := 0) (by omega), K_at (W := W) (L := 0 + 1) (by omega), K_at (W := W) (L := 0 + 1 + 1) (by omega)]; rfl
    rw [a4] at a3
    exact Go_tr (Go_tr a1 a2) a3
  have ft : ∀ x g', (x = 0 ∨ x = 1) → fX5_takeOperand r t g = some (x, g') → fX5_take r t g = some (x, g') := by
    intro x g' hx e
    unfold fX5_take
    simp only [↓jn_e]
    rw [h4, if_neg (by decide), if_pos (by decide), wtE (tokB hK), if_neg c1, if_neg c3]
    exact b2r hx e
  exact pass_r ft G (by omega) j
theorem x_has {r : Nat} {g0 g : Mem} {W : List Int} {D : Nat × (Nat → Int)} {fr to : Nat → Int} {st cs dp pa br cm p f : Int} {c : Nat} (hc : c < 2) (h1 : 0 ≤ fr c ∧ fr c ≤ 300) (h2 : 0 ≤ to c ∧ to c ≤ 300) (X : XS r g0 g W D fr to st cs dp pa br cm p f) : fX7_has r (c : Int) g = some (if to c ≤ fr c then 0 else 1) := by
  obtain ⟨_, _, ⟨c1, c2⟩, _⟩ := X
  have hc4 : 0 ≤ (c : Int) ∧ (c : Int) ≤ 400 := by omega
  have gi : ∀ z : Option Int, gd (c : Int) 2 z = z := fun z => gd_i (by omega) (by omega) (by omega)
  unfold fX7_has
  rw [wrS hc4, if_neg (by omega), if_neg (by omega), gi, gi, Int.toNat_natCast, c1, c2, wrS (x := to c) (by omega), wrS (x := fr c) (by omega)]
  by_cases z : to c ≤ fr c
  · rw [if_pos z, if_pos z]
  · rw [if_neg z, if_neg z]
theorem tclause_e {h0 g0 g : Mem} {r : Nat} {W : List Int} {D : Nat × (Nat → Int)} {C : tyC} {fr to : Nat → Int} {B : tyB} {st cs pa br cm f : Int} {t k v : Int} {i c0 beg : Nat} (hr : 41 ≤ r) {b : Nat → Int} {S p q' f' : Nat} {k' v' : Int} (N : MN b S p k' v' f' q') (hS : h0 0 48 = (S : Int)) (hb : h0 35 = b) (hT : tb (k', v', (f' : Int), (q' : Int))) (hK : TokR t k v)
    (X : XS r g0 g W D fr to st cs (opn W : Int) pa br cm (p : Int) f) (hW : WF W) (hCR : CR D C) (hop : opn W ≤ 8) (hlen : C.1 + W.length ≤ i) (hi : i ≤ 300) (hit : t ≠ 10027 → i < 300) (hst : st = 0) (hW0 : W = []) (hn0 : C.1 ≤ 300) (hc0 : CLS C fr to B 0) (hc1 : CLS C fr to B 1) (ht : t ≠ 10027) : SOK 300 t (fX5_take r t g) r g0 h0 ([0]) C B (k, v, f, (p : Int)) (opn W : Int) (k', v', (f' : Int), (q' : Int)) (p : Int) f i ∨ SNO 300 (fX5_take r t g) r g0 h0 ([0]) C B (k, v, f, (p : Int)) (opn W : Int) f := by
  subst hW0
  subst hst
  have h4 : g 39 4 = 0 := X.2.2.2.2.1.1
  have hcl : ∀ c, c < 2 → CLS C fr to B c := by
    intro c hc
    rcases (by omega : c = 0 ∨ c = 1) with rfl | rfl
    · exact hc0
    · exact hc1
  have clB : ∀ c, c < 2 → (-1 ≤ B.1 c ∧ B.1 c ≤ 300) ∧ (0 ≤ fr c ∧ fr c ≤ 300) ∧ (0 ≤ to c ∧ to c ≤ 300) ∧ (B.1 c = -1 ∧ to c ≤ fr c ∨ B.1 c ≠ -1 ∧ ¬ to c ≤ fr c) := by
    intro c hc
    rcases hcl c hc with ⟨a1, a2, a3⟩ | ⟨b, e, a1, a2, a3, a4, a5, a6, a7⟩
    · rw [a1, a2, a3]; omega
    · rw [a1, a2, a4]; omega
  have f0 := fun z1 z2 => f_0 (h0 := h0) (C := C) (B := B) (T := (k, v, f, (p : Int))) (dp := (opn [] : Int)) z1 z2 (fun c hc => (clB c hc).1)
  have hk0 : k ≠ 0 := by unfold TokR at hK; omega
  by_cases c1 : t = 10025 ∨ t = 10026
  · obtain ⟨c, hc, hv, htc, hk2⟩ : ∃ c : Nat, c < 2 ∧ v = (c : Int) ∧ t = 10025 + (c : Int) ∧ k = 2 := by
      rcases c1 with z | z
      · exact ⟨0, by omega, by unfold TokR at hK; omega, by omega, by unfold TokR at hK; omega⟩
      · exact ⟨1, by omega, by unfold TokR at hK; omega, by omega, by unfold TokR at hK; omega⟩
    subst hv
    subst hk2
    obtain ⟨b1, b2, b3, b4⟩ := clB c hc
    have X1 := x_cs (v := (c : Int)) hr X
    have hh := x_has hc b2 b3 X1
    have ft : ∀ x g', (x = 0 ∨ x = 1) → (bd (fX7_has r (c : Int) (up g 39 5 (c : Int))) fun r_3 =>
      if wr r_3 = 0 then (
        bd (fX7_open r (c : Int) (up g 39 5 (c : Int))) fun g_8 =>
        bnd (up g_8 39 7 0) fun g_9 =>
        bnd (up g_9 39 8 0) fun g_10 =>
        bnd (up g_10 39 9 0) fun g_11 =>
        bnd (up g_11 39 4 1) fun g_12 =>
        some ((1 : Int), g_12)
      ) else (
        some (0, up g 39 5 (c : Int))
      )) = some (x, g') → fX5_take r t g = some (x, g') := by
      intro x g' hx e
      unfold fX5_take
      rw [h4, if_pos (by decide)]
      apply b2r hx
      unfold fX5_takeClause
      simp only [↓jn_e]
      rw [wtE (tokB hK)]
      rcases (by omega : c = 0 ∨ c = 1) with rfl | rfl
      · rw [if_pos (by omega), if_pos (by omega)]; exact e
      · rw [if_neg (by omega), if_pos (by omega), if_neg (by omega)]; exact e
    rcases b4 with ⟨b4, b5⟩ | ⟨b4, b5⟩
    · left
      obtain ⟨g2, e2, X2⟩ := x_open hr hc X1
      have X3 := x_st (v := 1) hr (x_cm (v := 0) hr (x_br (v := 0) hr (x_pa (v := 0) hr X2)))
      obtain ⟨bg, cl, c3⟩ := B
      refine ⟨ht, 1, [], D, C, ups fr c (D.1 : Int), to, (ups bg c (C.1 : Int), cl, (c : Int)), (c : Int), 0, 0, 0, _, ft 1 _ (.inr rfl) ?_, X3, ?_, ?_⟩
      · rw [hh, if_pos b5, bd_s, if_pos (by decide), e2, bd_s, bnd_e, bnd_e, bnd_e, bnd_e]
      · have a1 := g_0 (h0 := h0) (C := C) (bg := bg) (cl := cl) (cs := c3) (f := f) (dp := (opn [] : Int)) hc b4 N hS hb hT
        have a2 := g_6 (h0 := h0) (l := [159, 13, 0]) (C := C) (B := (ups bg c (C.1 : Int), cl, (c : Int))) (T := (k', v', (f' : Int), (q' : Int))) (dp := (opn [] : Int)) (by decide)
        have a3 := g_8 (h0 := h0) (l := [7, 159, 13, 0]) (C := C) (B := (ups bg c (C.1 : Int), cl, (c : Int))) (T := (k', v', (f' : Int), (q' : Int))) (dp := (opn [] : Int)) (by decide)
        exact Go_le (Go_tr (Go_tr a1 a2) a3) (by omega)
      · refine ⟨trivial, hCR, by decide, by omega, .inr ⟨c, C.1, ⟨hc, rfl, if_pos rfl, ?_, rfl, ?_⟩, rfl, rfl, .inl ⟨rfl, by decide, rfl, Nat.le_refl _, ?_⟩⟩⟩
        · show (if c = c then (D.1 : Int) else _) = _
          rw [if_pos rfl, hCR.1]
        · exact cls_mono (hcl (1 - c) (by omega)) (Nat.le_refl _) (fun _ _ => rfl) (if_neg (by omega)) rfl (if_neg (by omega)) rfl
        · rw [Nat.sub_self]; rfl
    · right
      refine ⟨_, ft 0 _ (.inl rfl) (by rw [hh, if_neg b5, bd_s, if_neg (by decide)]), X1.2.2.2.2.2, X1.2.2.2.1.2, Fa_le (f0 (by show (2 : Int) ≠ 0; decide) (fun z => ?_)) (by omega)⟩
      have z2 : B.1 (c : Int).toNat = -1 := z.2.2
      rw [Int.toNat_natCast] at z2
      exact b4 z2
  · right
    refine ⟨g, ?_, X.2.2.2.2.2, X.2.2.2.1.2, Fa_le (f0 hk0 (fun z => ?_)) (by omega)⟩
    · unfold fX5_take
      rw [h4, if_pos (by decide)]
      apply b2r (.inl rfl)
      unfold fX5_takeClause
      simp only [↓jn_e]
      rw [wtE (tokB hK), if_neg (by omega), if_neg (by omega)]
    · have z1 : k = 2 := z.1
      have z2 : v = 0 ∨ v = 1 := z.2.1
      unfold TokR at hK; omega
theorem take_e {h0 g0 g : Mem} {r st : Nat} {W : List Int} {D : Nat × (Nat → Int)} {C : tyC} {fr to : Nat → Int} {B : tyB} {cs pa br cm f : Int} {t k v : Int} {i : Nat} (hr : 41 ≤ r) {b : Nat → Int} {S p q' f' : Nat} {k' v' : Int} (N : MN b S p k' v' f' q') (hS : h0 0 48 = (S : Int)) (hb : h0 35 = b) (hT : tb (k', v', (f' : Int), (q' : Int))) (hK : TokR t k v)
    (X : XS r g0 g W D fr to (st : Int) cs (opn W : Int) pa br cm (p : Int) f) (hP : PI st W D C fr to B cs pa br cm i) (hi : i ≤ 300) (hit : t ≠ 10027 → i < 300) (ht : st = 0 → t ≠ 10027) : SOK 300 t (fX5_take r t g) r g0 h0 (stk st W) C B (k, v, f, (p : Int)) (opn W : Int) (k', v', (f' : Int), (q' : Int)) (p : Int) f i ∨ SNO 300 (fX5_take r t g) r g0 h0 (stk st W) C B (k, v, f, (p : Int)) (opn W : Int) f := by
  obtain ⟨p1, p2, p3, p4, p5⟩ := hP
  have h4 : g 39 4 = (st : Int) := X.2.2.2.2.1.1
  rcases p5 with ⟨rfl, p6, p7, p8⟩ | ⟨c0, beg, p6, p7, p8, ⟨rfl, p9, p10, p11⟩ | ⟨rfl, p10, p11⟩ | ⟨rfl, p10, p11⟩ | ⟨rfl, p9, p11⟩⟩
  · exact tclause_e (c0 := 0) (beg := 0) hr N hS hb hT hK X p1 p2 p3 p4 hi hit rfl p6 (by omega) p7 p8 (ht rfl)
  · exact takeB_e hr N hS hb hT hK X p1 p2 p3 p4 hi hit p6 p7 p8 (by rw [p10]; exact (cmd0 p1 p9).symm) rfl p9 p11
  · refine pass_r (fun x g' hx e => ?_) (Go_rfl (m := 0)) (by omega) (operand_e hr N hS hb hT hK X p1 p2 p3 p4 hi hit p6 p7 p8 p10 p11)
    unfold fX5_take
    rw [h4, if_neg (by decide), if_neg (by decide), if_pos (by decide)]
    exact b2r hx e
  · refine pass_r (fun x g' hx e => ?_) (Go_rfl (m := 0)) (by omega) (behind_e hr N hS hb hT hK X p1 p2 p3 p4 hi p6 p7 p8 p10 rfl p11)
    unfold fX5_take
    rw [h4, if_neg (by decide), if_neg (by decide), if_neg (by decide), if_pos (by decide)]
    exact b2r hx e
  · refine pass_r (fun x g' hx e => ?_) (Go_rfl (m := 0)) (by omega) (tjoin_e (l := 3) hr N hS hb hT hK X p1 p2 p3 p4 hi p6 p7 p8 (pc0 p1 p9) (.inr ⟨rfl, p9⟩) p11)
    unfold fX5_take
    rw [h4, if_neg (by decide), if_neg (by decide), if_neg (by decide), if_neg (by decide)]
    exact b2r hx e
