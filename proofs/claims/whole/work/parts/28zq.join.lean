/-! THE PARSER's invariant; what may stand behind a whole B -/
def CLN (fr to : Nat → Int) (B : tyB) (c : Nat) : Prop := B.1 c = -1 ∧ fr c = 0 ∧ to c = 0
def CLD (C : tyC) (fr to : Nat → Int) (B : tyB) (c : Nat) : Prop := ∃ b e : Nat, B.1 c = (b : Int) ∧ fr c = (b : Int) ∧ B.2.1 c = (e : Int) ∧ to c = (e : Int) ∧ b < e ∧ e ≤ C.1 ∧ tyr C.2.1 b (e - b) [] = some [true]
def CLS (C : tyC) (fr to : Nat → Int) (B : tyB) (c : Nat) : Prop := CLN fr to B c ∨ CLD C fr to B c
theorem cls_mono {C C' : tyC} {fr to fr' to' : Nat → Int} {B B' : tyB} {c : Nat} (h : CLS C fr to B c) (h1 : C.1 ≤ C'.1) (h2 : ∀ k, k < C.1 → C'.2.1 k = C.2.1 k) (e1 : fr' c = fr c) (e2 : to' c = to c) (e3 : B'.1 c = B.1 c) (e4 : B'.2.1 c = B.2.1 c) : CLS C' fr' to' B' c := by
  rcases h with ⟨a1, a2, a3⟩ | ⟨b, e, a1, a2, a3, a4, a5, a6, a7⟩
  · exact .inl ⟨by rw [e3]; exact a1, by rw [e1]; exact a2, by rw [e2]; exact a3⟩
  · refine .inr ⟨b, e, by rw [e3]; exact a1, by rw [e1]; exact a2, by rw [e4]; exact a3, by rw [e2]; exact a4, a5, by omega, ?_⟩
    rw [tyr_congr (f := C.2.1) _ _ _ (fun j x y => h2 j (by omega))]; exact a7
def PIo (C : tyC) (fr to : Nat → Int) (B : tyB) (cs : Int) (beg c0 : Nat) : Prop := c0 < 2 ∧ cs = (c0 : Int) ∧ B.1 c0 = (beg : Int) ∧ fr c0 = (beg : Int) ∧ B.2.2 = (c0 : Int) ∧ CLS C fr to B (1 - c0)
theorem pio_mono {C C' : tyC} {fr to : Nat → Int} {B : tyB} {cs : Int} {beg c0 : Nat} (h : PIo C fr to B cs beg c0) (h1 : C.1 ≤ C'.1) (h2 : ∀ k, k < C.1 → C'.2.1 k = C.2.1 k) : PIo C' fr to B cs beg c0 := ⟨h.1, h.2.1, h.2.2.1, h.2.2.2.1, h.2.2.2.2.1, cls_mono h.2.2.2.2.2 h1 h2 rfl rfl rfl rfl⟩
def PI (st : Nat) (W : List Int) (D : Nat × (Nat → Int)) (C : tyC) (fr to : Nat → Int) (B : tyB) (cs pa br cm : Int) (i : Nat) : Prop :=
  WF W ∧ CR D C ∧ opn W ≤ 8 ∧ C.1 + W.length ≤ i ∧
  ((st = 0 ∧ W = [] ∧ CLS C fr to B 0 ∧ CLS C fr to B 1) ∨
   (∃ c0 beg : Nat, PIo C fr to B cs beg c0 ∧ pa = (pcn W : Int) ∧ br = (bcn W : Int) ∧
     ((st = 1 ∧ 3 ≤ lvW W ∧ cm = 0 ∧ TY C beg (PT W)) ∨ (st = 2 ∧ cm = cmd W ∧ TY C beg (PT W)) ∨ (st = 3 ∧ cm = cmd W ∧ TY C beg (false :: PT W)) ∨ (st = 4 ∧ 3 ≤ lvW W ∧ TY C beg (true :: PT W)))))
def stk (st : Nat) (W : List Int) : List Int := if st = 0 then [0] else if st = 1 then 10 :: KK 3 W else if st = 2 then 5 :: KK 0 W else if st = 3 then KK 0 W else KK 3 W
def SOK (M : Nat) (t : Int) (F : Option (Int × Mem)) (r : Nat) (g0 h0 : Mem) (l : List Int) (C : tyC) (B : tyB) (T : tyT) (dp : Int) (T' : tyT) (p f : Int) (i : Nat) : Prop := t ≠ 10027 ∧ ∃ (st : Nat) (W : List Int) (D : Nat × (Nat → Int)) (C' : tyC) (fr to : Nat → Int) (B' : tyB) (cs pa br cm : Int) (g' : Mem), F = some (1, g') ∧ XS r g0 g' W D fr to (st : Int) cs (opn W : Int) pa br cm p f ∧ Go h0 M l C B T dp (stk st W) C' B' T' (opn W : Int) ∧ PI st W D C' fr to B' cs pa br cm (i + 1)
def SNO (M : Nat) (F : Option (Int × Mem)) (r : Nat) (g0 h0 : Mem) (l : List Int) (C : tyC) (B : tyB) (T : tyT) (dp : Int) (f : Int) : Prop := ∃ g', F = some (0, g') ∧ FX r g0 g' ∧ g' 39 3 = f ∧ Fa h0 M l C B T dp
theorem wrS {x : Int} (h : 0 ≤ x ∧ x ≤ 400) : wr x = x := wr_id (by omega) (by omega)
theorem bcn_le : ∀ W : List Int, bcn W ≤ W.length
  | [] => Nat.le_refl _
  | t :: W => by
    have ih := bcn_le W
    show isBr t + bcn W ≤ W.length + 1
    have : isBr t ≤ 1 := by unfold isBr; split <;> omega
    omega
theorem pcn_le : ∀ W : List Int, pcn W ≤ W.length
  | [] => Nat.le_refl _
  | t :: W => by
    have ih := pcn_le W
    show isPa t + pcn W ≤ W.length + 1
    have : isPa t ≤ 1 := by unfold isPa; split <;> omega
    omega
theorem opn0 {t : Int} {W : List Int} (h : isO t = 0) : opn (t :: W) = opn W := by show isO t + opn W = _; omega
theorem tokB {t k v : Int} (h : TokR t k v) : 0 ≤ t ∧ t ≤ 20000 := by unfold TokR at h; omega
theorem x_close {r : Nat} {g0 g : Mem} {W : List Int} {D : Nat × (Nat → Int)} {fr to : Nat → Int} {st cs dp pa br cm p f : Int} {c : Nat} (hr : 41 ≤ r) (hc : c < 2) (X : XS r g0 g W D fr to st cs dp pa br cm p f) : ∃ g', fX7_close r (c : Int) g = some g' ∧ XS r g0 g' W D fr (ups to c (D.1 : Int)) st cs dp pa br cm p f := by
  obtain ⟨⟨a1, a2⟩, ⟨b1, b2⟩, ⟨c1, c2⟩, d, e, ff⟩ := X
  refine ⟨up g (r + 4) c (D.1 : Int), ?_, ⟨?_, ?_⟩, ⟨?_, ?_⟩, ⟨?_, ?_⟩, ?_, ?_, FX_r (by omega) ff⟩
  · unfold fX7_close
    simp (disch := omega) only [if_true, if_false, if_pos, if_neg, wr_0, wr_id, gd_i, bnd_e, bd_s, bd2_s, jn_e, Int.toNat_natCast, b1]
  · rw [up_ne (by omega)]; exact a1
  · rw [up_ne (by omega)]; exact a2
  · rw [up_ne (by omega)]; exact b1
  · rw [up_ne (by omega)]; exact b2
  · rw [up_ne (by omega)]; exact c1
  · rw [← c2]; funext j; simp [up, ups]
  · rw [up_ne (by omega)]; exact d
  · rw [up_ne (by omega)]; exact e
theorem x_open {r : Nat} {g0 g : Mem} {W : List Int} {D : Nat × (Nat → Int)} {fr to : Nat → Int} {st cs dp pa br cm p f : Int} {c : Nat} (hr : 41 ≤ r) (hc : c < 2) (X : XS r g0 g W D fr to st cs dp pa br cm p f) : ∃ g', fX7_open r (c : Int) g = some g' ∧ XS r g0 g' W D (ups fr c (D.1 : Int)) to st cs dp pa br cm p f := by
  obtain ⟨⟨a1, a2⟩, ⟨b1, b2⟩, ⟨c1, c2⟩, d, e, ff⟩ := X
  refine ⟨up g (r + 3) c (D.1 : Int), ?_, ⟨?_, ?_⟩, ⟨?_, ?_⟩, ⟨?_, ?_⟩, ?_, ?_, FX_r (by omega) ff⟩
  · unfold fX7_open
    simp (disch := omega) only [if_true, if_false, if_pos, if_neg, wr_0, wr_id, gd_i, bnd_e, bd_s, bd2_s, jn_e, Int.toNat_natCast, b1]
  · rw [up_ne (by omega)]; exact a1
  · rw [up_ne (by omega)]; exact a2
  · rw [up_ne (by omega)]; exact b1
  · rw [up_ne (by omega)]; exact b2
  · rw [← c1]; funext j; simp [up, ups]
  · rw [up_ne (by omega)]; exact c2
  · rw [up_ne (by omega)]; exact d
  · rw [up_ne (by omega)]; exact e
theorem tjoin_e {h0 g0 g : Mem} {r : Nat} {W : List Int} {D : Nat × (Nat → Int)} {C : tyC} {fr to : Nat → Int} {B : tyB} {st cs pa br cm f : Int} {t k v : Int} {l i c0 beg : Nat} (hr : 41 ≤ r) {b : Nat → Int} {S p q' f' : Nat} {k' v' : Int} (N : MN b S p k' v' f' q') (hS : h0 0 48 = (S : Int)) (hb : h0 35 = b) (hT : tb (k', v', (f' : Int), (q' : Int))) (hK : TokR t k v)
    (X : XS r g0 g W D fr to st cs (opn W : Int) pa br cm (p : Int) f) (hW : WF W) (hCR : CR D C) (hop : opn W ≤ 8) (hlen : C.1 + W.length ≤ i) (hi : i ≤ 300) (hO : PIo C fr to B cs beg c0) (hpa : pa = (pcn W : Int)) (hbr : br = (bcn W : Int))
    (hp0 : pcn W = 0) (hl : (l = 0 ∧ bl W = 2 ∧ nm k v 0 ∧ nm k v 1) ∨ (l = 3 ∧ 3 ≤ lvW W)) (hTY : TY C beg (decide (3 ≤ l) :: PT W)) :
    SOK 300 t (fX5_takeJoin r t g) r g0 h0 (KK l W) C B (k, v, f, (p : Int)) (opn W : Int) (k', v', (f' : Int), (q' : Int)) (p : Int) f i ∨ SNO 300 (fX5_takeJoin r t g) r g0 h0 (KK l W) C B (k, v, f, (p : Int)) (opn W : Int) f := by
  have hlW := len_W hW
  have hlv : l ≤ lvW W := by omega
  have hl0 : l = 0 ∨ l = 3 := by omega
  have hcond : 3 ≤ l ∨ bl W = 2 := by omega
  have hbr8 : g 39 8 = br := X.2.2.2.2.1.2.2.2.2.1
  have hcs5 : g 39 5 = cs := X.2.2.2.2.1.2.1
  have hb4 : 0 ≤ br ∧ br ≤ 400 := by
    have := bcn_le W
    omega
  obtain ⟨F, hF, hF2⟩ := fuel_g
  by_cases cA : t = 10011
  · left
    have hkv : k = 2 ∧ v = 10 := by unfold TokR at hK; omega
    obtain ⟨rfl, rfl⟩ := hkv
    subst cA
    have hnm : ∀ j, l ≤ j → j < 3 → j ≠ 2 → nm (2 : Int) 10 j := by
      intro j a1 a2 a3; unfold nm; omega
    obtain ⟨W', l', D', C', q1, q2, q3, q4, q5, q6, q7, q8, q9, q10, q11, q12, q13, q14, q15, q16, q17, q18⟩ := rel_e (h0 := h0) (B := B) (T := (2, 10, f, (p : Int))) (g0 := g0) (fr := fr) (to := to) (st := st) (cs := cs) (pa := pa) (br := br) (cm := cm) (p := p) (f := f) hr (b := 2) (L := 3) (m := 3) (beg := beg) hl0 hnm W l D C hW (Nat.le_refl _) hlv (.inr (.inr (.inr (.inl ⟨rfl, rfl, rfl⟩)))) (by omega) (by omega) hCR (by omega) hTY hop
    have l3 : l' = 3 := by
      have := q17 (by omega)
      omega
    subst l3
    have lw : 4 ≤ lvW W' := ((low_W q3).2.2 (by omega)).2.1 q7
    obtain ⟨g1, e1, X1⟩ := q1 F g (by omega) X
    obtain ⟨g2, e2, X2⟩ := x_await 10011 hr (by omega) X1
    have X3 := x_st (v := 1) hr (x_cm (v := 0) hr X2)
    rw [← opn0 (t := 10011) (W := W') (by decide)] at X3
    refine ⟨by decide, 1, 10011 :: W', D', C', fr, to, B, cs, pa, br, 0, _, ?_, X3, ?_, ?_⟩
    · unfold fX5_takeJoin
      simp only [↓jn_e]
      rw [if_pos (by decide), bind_e (by decide), bd_s]
      unfold fX5_release
      rw [hF, show bdg 10011 = 2 from by decide, e1, bd_s, e2, bd_s, bnd_e, bnd_e]
    · have hk := len_K 4 q3
      have a1 := g_9a (h0 := h0) (l := KK 4 W') (C := C') (B := B) (f := f) (dp := (opn W' : Int)) (by omega) N hS hb hT
      rw [show (9 : Int) :: KK 4 W' = KK 3 W' from (K_at (L := 3) (W := W') (by omega)).symm] at a1
      have a2 : (10 : Int) :: 1009 :: KK 3 W' = stk 1 (10011 :: W') := by
        show _ = 10 :: KK 3 (10011 :: W')
        rw [show KK 3 (10011 :: W') = hd 10011 ++ KK 3 W' from K_top 10011 W']; rfl
      rw [a2] at a1
      have e0 : opn (10011 :: W') = opn W' := by show isO 10011 + opn W' = _; rw [show isO 10011 = 0 from by decide]; omega
      rw [e0]
      exact Go_le (Go_tr q2 a1) (by omega)
    · refine ⟨⟨by unfold Ent; omega, by rw [show nl 10011 = 4 from by decide]; exact lw, q3⟩, q8, ?_, ?_, .inr ⟨c0, beg, pio_mono hO q10 q11, ?_, ?_, .inl ⟨rfl, (show 3 ≤ lv 10011 by decide), rfl, q12⟩⟩⟩
      · show isO 10011 + opn W' ≤ 8; rw [show isO 10011 = 0 from by decide]; omega
      · show C'.1 + (W'.length + 1) ≤ _; omega
      · show pa = ((isPa 10011 + pcn W' : Nat) : Int); rw [show isPa 10011 = 0 from by decide, q13]; omega
      · show br = ((isBr 10011 + bcn W' : Nat) : Int); rw [show isBr 10011 = 0 from by decide, q14]; omega
  by_cases cB : t = 10010
  · left
    have hkv : k = 2 ∧ v = 9 := by unfold TokR at hK; omega
    obtain ⟨rfl, rfl⟩ := hkv
    subst cB
    have hnm : ∀ j, l ≤ j → j < 4 → j ≠ 2 → nm (2 : Int) 9 j := by
      intro j a1 a2 a3; unfold nm; omega
    obtain ⟨W', l', D', C', q1, q2, q3, q4, q5, q6, q7, q8, q9, q10, q11, q12, q13, q14, q15, q16, q17, q18⟩ := rel_e (h0 := h0) (B := B) (T := (2, 9, f, (p : Int))) (g0 := g0) (fr := fr) (to := to) (st := st) (cs := cs) (pa := pa) (br := br) (cm := cm) (p := p) (f := f) hr (b := 1) (L := 4) (m := 4) (beg := beg) hl0 hnm W l D C hW (Nat.le_refl _) hlv (.inr (.inr (.inr (.inr ⟨rfl, rfl, rfl⟩)))) (by omega) (by omega) hCR (by omega) hTY hop
    have l3 : 3 ≤ l' := q17 (by omega)
    have lw : 5 ≤ lvW W' := ((low_W q3).2.2 (by omega)).2.2 q7
    obtain ⟨g1, e1, X1⟩ := q1 F g (by omega) X
    obtain ⟨g2, e2, X2⟩ := x_await 10010 hr (by omega) X1
    have X3 := x_st (v := 1) hr (x_cm (v := 0) hr X2)
    rw [← opn0 (t := 10010) (W := W') (by decide)] at X3
    refine ⟨by decide, 1, 10010 :: W', D', C', fr, to, B, cs, pa, br, 0, _, ?_, X3, ?_, ?_⟩
    · unfold fX5_takeJoin
      simp only [↓jn_e]
      rw [if_neg (by decide), if_pos (by decide), bind_e (by decide), bd_s]
      unfold fX5_release
      rw [hF, show bdg 10010 = 1 from by decide, e1, bd_s, e2, bd_s, bnd_e, bnd_e]
    · have hk := len_K 5 q3
      have a0 := Go_K (h0 := h0) (C := C') (B := B) (T := (2, 9, f, (p : Int))) (dp := (opn W' : Int)) (l := l') (L := 4) q3 (by omega) (by omega) (by omega) (fun j x y => hnm j (by omega) y (by omega))
      have a1 := g_7a (h0 := h0) (l := KK 5 W') (C := C') (B := B) (f := f) (dp := (opn W' : Int)) (by omega) N hS hb hT
      rw [show (7 : Int) :: KK 5 W' = KK 4 W' from (K_at (L := 4) (W := W') (by omega)).symm] at a1
      have hk4 := len_K 4 q3
      have a3 := g_8 (h0 := h0) (l := 1010 :: KK 4 W') (C := C') (B := B) (T := (k', v', (f' : Int), (q' : Int))) (dp := (opn W' : Int)) (by simp only [List.length_cons]; omega)
      have a2 : (10 : Int) :: 9 :: 1010 :: KK 4 W' = stk 1 (10010 :: W') := by
        show _ = 10 :: KK 3 (10010 :: W')
        rw [K_at (W := 10010 :: W') (L := 3) (by show 3 < lv 10010; decide), show KK (3 + 1) (10010 :: W') = hd 10010 ++ KK 4 W' from K_top 10010 W']; rfl
      rw [a2] at a3
      have e0 : opn (10010 :: W') = opn W' := by show isO 10010 + opn W' = _; rw [show isO 10010 = 0 from by decide]; omega
      rw [e0]
      exact Go_le (Go_tr (Go_tr (Go_tr q2 a0) a1) a3) (by omega)
    · refine ⟨⟨by unfold Ent; omega, by rw [show nl 10010 = 5 from by decide]; exact lw, q3⟩, q8, ?_, ?_, .inr ⟨c0, beg, pio_mono hO q10 q11, ?_, ?_, .inl ⟨rfl, (show 3 ≤ lv 10010 by decide), rfl, ?_⟩⟩⟩
      · show isO 10010 + opn W' ≤ 8; rw [show isO 10010 = 0 from by decide]; omega
      · show C'.1 + (W'.length + 1) ≤ _; omega
      · show pa = ((isPa 10010 + pcn W' : Nat) : Int); rw [show isPa 10010 = 0 from by decide, q13]; omega
      · show br = ((isBr 10010 + bcn W' : Nat) : Int); rw [show isBr 10010 = 0 from by decide, q14]; omega
      · rw [decide_eq_true l3] at q12; exact q12
  -- the rest: all that waits is passed
  have nm34 : nm k v 3 ∧ nm k v 4 := by
    have : ¬ (k = 2 ∧ (v = 9 ∨ v = 10)) := by unfold TokR at hK; omega
    unfold nm; omega
  have hnm : ∀ j, l ≤ j → j < 4 → j ≠ 2 → nm k v j := by
    intro j a1 a2 a3
    rcases (by omega : j = 0 ∨ j = 1 ∨ j = 3) with rfl | rfl | rfl
    · exact (hl.resolve_right (by omega)).2.2.1
    · exact (hl.resolve_right (by omega)).2.2.2
    · exact nm34.1
  have R := fun (br' : Int) => rel_e (h0 := h0) (B := B) (T := (k, v, f, (p : Int))) (g0 := g0) (fr := fr) (to := to) (st := st) (cs := cs) (pa := pa) (br := br') (cm := cm) (p := p) (f := f) hr (b := 1) (L := 4) (m := 4) (beg := beg) hl0 hnm W l D C hW (Nat.le_refl _) hlv (.inr (.inr (.inr (.inr ⟨rfl, rfl, rfl⟩)))) (by omega) (by omega) hCR (by omega) hTY hop
  by_cases cC : t = 10023 ∧ 0 < bcn W
  · left
    obtain ⟨rfl, cC⟩ := cC
    have hkv : k = 3 ∧ v = 93 := by unfold TokR at hK; omega
    obtain ⟨rfl, rfl⟩ := hkv
    obtain ⟨W', l', D', C', q1, q2, q3, q4, q5, q6, q7, q8, q9, q10, q11, q12, q13, q14, q15, q16, q17, q18⟩ := R (br - 1)
    have l3 : 3 ≤ l' := q17 (by omega)
    have lw : 5 ≤ lvW W' := ((low_W q3).2.2 (by omega)).2.2 q7
    obtain ⟨W1, rfl⟩ : ∃ W1, W' = 10022 :: W1 := by
      cases W' with
      | nil => rw [← q14] at cC; exact absurd cC (by decide)
      | cons x W1 =>
        have lx : 5 ≤ lv x := lw
        have : x = 10022 := by rcases ent_tab q3.1 with z | z | z | z | z | z | z | z <;> omega
        exact ⟨W1, by rw [this]⟩
    have eo : opn (10022 :: W1) = 1 + opn W1 := rfl
    obtain ⟨g1, e1, X1⟩ := q1 F _ (by omega) (x_br (v := br - 1) hr X)
    have q16' : W1.length + 1 ≤ W.length := q16
    obtain ⟨g2, e2, X2⟩ := x_drop hr (by omega) X1
    rw [show ((opn (10022 :: W1) : Nat) : Int) - 1 = (opn W1 : Int) by omega] at X2
    have X3 := x_st (v := 4) hr X2
    refine ⟨by decide, 4, W1, D', C', fr, to, B, cs, pa, br - 1, cm, _, ?_, X3, ?_, ?_⟩
    · unfold fX5_takeJoin
      simp only [↓jn_e]
      rw [if_neg (by decide), if_neg (by decide), if_pos (by decide), hbr8, if_neg (by rw [wrS hb4]; omega), bnd_e]
      unfold fX5_release
      rw [hF, e1, bd_s, e2, bd_s, bnd_e]
    · have hk := len_K 3 q3.2.2
      have a0 := Go_K (h0 := h0) (C := C') (B := B) (T := (3, 93, f, (p : Int))) (dp := (opn (10022 :: W1) : Int)) (l := l') (L := 5) q3 (by show W1.length + 1 < 60; omega) (by omega) lw (fun j x y => by
        rcases (by omega : j = 3 ∨ j = 4) with rfl | rfl
        · exact nm34.1
        · exact nm34.2)
      rw [show KK 5 (10022 :: W1) = 193 :: 12 :: KK 3 W1 from K_top 10022 W1] at a0
      have a1 := g_193 (h0 := h0) (l := 12 :: KK 3 W1) (C := C') (B := B) (f := f) (dp := (opn (10022 :: W1) : Int)) (by simp only [List.length_cons]; omega) N hS hb hT
      have a2 := g_up (h0 := h0) (l := KK 3 W1) (C := C') (B := B) (T := (k', v', (f' : Int), (q' : Int))) (dp := (opn (10022 :: W1) : Int)) (by omega) (by omega)
      rw [show ((opn (10022 :: W1) : Nat) : Int) - 1 = (opn W1 : Int) by omega] at a2
      exact Go_le (Go_tr (Go_tr (Go_tr q2 a0) a1) a2) (by omega)
    · refine ⟨q3.2.2, q8, by omega, ?_, .inr ⟨c0, beg, pio_mono hO q10 q11, ?_, ?_, .inr (.inr (.inr ⟨rfl, q3.2.1, ?_⟩))⟩⟩
      · have : C'.1 + (W1.length + 1) ≤ C.1 + W.length := q9
        omega
      · have : isPa 10022 + pcn W1 = pcn W := q13
        rw [show isPa 10022 = 0 from by decide] at this; omega
      · have : isBr 10022 + bcn W1 = bcn W := q14
        rw [show isBr 10022 = 1 from by decide] at this; omega
      · rw [decide_eq_true l3] at q12; exact q12
  by_cases cD : t = 10024 ∧ bcn W = 0
  · left
    obtain ⟨rfl, cD⟩ := cD
    have hkv : k = 3 ∧ v = 59 := by unfold TokR at hK; omega
    obtain ⟨rfl, rfl⟩ := hkv
    obtain ⟨W', l', D', C', q1, q2, q3, q4, q5, q6, q7, q8, q9, q10, q11, q12, q13, q14, q15, q16, q17, q18⟩ := R br
    have l3 : 3 ≤ l' := q17 (by omega)
    have lw : 5 ≤ lvW W' := ((low_W q3).2.2 (by omega)).2.2 q7
    obtain rfl : W' = [] := by
      cases W' with
      | nil => rfl
      | cons x W1 =>
        have lx : 5 ≤ lv x := lw
        have hx : isBr x + bcn W1 = bcn W := q14
        exfalso
        rcases ent_tab q3.1 with z | z | z | z | z | z | z | z <;> omega
    obtain ⟨o1, o2, o3, o4, o5, o6⟩ := hO
    obtain ⟨g1, e1, X1⟩ := q1 F g (by omega) X
    obtain ⟨g2, e2, X2⟩ := x_close (c := c0) hr o1 X1
    have X3 := x_st (v := 0) hr X2
    have e5 : g1 39 5 = (c0 : Int) := by rw [← o2]; exact X1.2.2.2.2.1.2.1
    obtain ⟨bg, cl, c1⟩ := B
    have o5' : c1 = (c0 : Int) := o5
    subst o5'
    refine ⟨by decide, 0, [], D', C', fr, ups to c0 (D'.1 : Int), (bg, ups cl c0 (C'.1 : Int), (c0 : Int)), cs, pa, br, cm, _, ?_, X3, ?_, ?_⟩
    · unfold fX5_takeJoin
      simp only [↓jn_e]
      rw [if_neg (by decide), if_neg (by decide), if_neg (by decide), if_pos (by decide), hbr8, if_pos (by rw [wrS hb4]; omega)]
      unfold fX5_release
      rw [hF, e1, bd_s, e5, e2, bd_s, bnd_e]
    · have a0 := Go_K (h0 := h0) (C := C') (B := (bg, cl, (c0 : Int))) (T := (3, 59, f, (p : Int))) (dp := (opn [] : Int)) (l := l') (L := 5) q3 (by decide) (by omega) lw (fun j x y => by
        rcases (by omega : j = 3 ∨ j = 4) with rfl | rfl
        · exact nm34.1
        · exact nm34.2)
      rw [K_nil] at a0
      have a1 := g_159 (h0 := h0) (l := [13, 0]) (C := C') (B := (bg, cl, (c0 : Int))) (f := f) (dp := (opn [] : Int)) (by decide) N hS hb hT
      have a2 := g_13 (h0 := h0) (l := [0]) (C := C') (bg := bg) (cl := cl) (T := (k', v', (f' : Int), (q' : Int))) (dp := (opn [] : Int)) (by decide) o1
      exact Go_le (Go_tr (Go_tr (Go_tr q2 a0) a1) a2) (by omega)
    · have q9' : C'.1 + 0 ≤ C.1 + W.length := q9
      have qd : D'.1 = C'.1 := q8.1
      have cl0 : CLS C' fr (ups to c0 (D'.1 : Int)) (bg, ups cl c0 (C'.1 : Int), (c0 : Int)) c0 := by
        rw [decide_eq_true l3] at q12
        have lt : beg < C'.1 := by
          rcases Nat.lt_or_ge beg C'.1 with z | z
          · exact z
          · have y := q12.2
            rw [show C'.1 - beg = 0 by omega] at y
            simp [tyr, PT] at y
        refine .inr ⟨beg, C'.1, o3, o4, if_pos rfl, ?_, lt, Nat.le_refl _, q12.2⟩
        show (if c0 = c0 then (D'.1 : Int) else _) = _
        rw [if_pos rfl, qd]
      have cl1 : CLS C' fr (ups to c0 (D'.1 : Int)) (bg, ups cl c0 (C'.1 : Int), (c0 : Int)) (1 - c0) :=
        cls_mono o6 q10 q11 rfl (if_neg (by omega)) rfl (if_neg (by omega))
      refine ⟨trivial, q8, by decide, by show C'.1 + 0 ≤ _; omega, .inl ⟨rfl, rfl, ?_, ?_⟩⟩
      · rcases (by omega : c0 = 0 ∨ c0 = 1) with rfl | rfl
        · exact cl0
        · exact cl1
      · rcases (by omega : c0 = 0 ∨ c0 = 1) with rfl | rfl
        · exact cl1
        · exact cl0
  right
  obtain ⟨W', l', D', C', q1, q2, q3, q4, q5, q6, q7, q8, q9, q10, q11, q12, q13, q14, q15, q16, q17, q18⟩ := R br
  have l3 : 3 ≤ l' := q17 (by omega)
  have lw : 5 ≤ lvW W' := ((low_W q3).2.2 (by omega)).2.2 q7
  refine ⟨g, ?_, X.2.2.2.2.2, X.2.2.2.1.2, ?_⟩
  · unfold fX5_takeJoin
    simp only [↓jn_e]
    rw [wtE (tokB hK), if_neg cA, if_neg cB, hbr8, wrS hb4]
    have last : (if t = 10024 then (if br = 0 then (bd (fX5_release r 1 g) fun g_17 => bd (fX7_close r (g_17 39 5) g_17) fun g_20 => bnd (up g_20 39 4 0) fun g_21 => some ((1 : Int), g_21)) else some (0, g)) else some (0, g)) = some (0, g) := by
      by_cases z : t = 10024
      · rw [if_pos z, if_neg (by omega)]
      · rw [if_neg z]
    by_cases z : t = 10023
    · rw [if_pos z, if_pos (by omega)]; exact last
    · rw [if_neg z]; exact last
  · have hk := len_K 5 q3
    have a0 := Go_K (h0 := h0) (C := C') (B := B) (T := (k, v, f, (p : Int))) (dp := (opn W' : Int)) (l := l') (L := 5) q3 (by omega) (by omega) lw (fun j x y => by
        rcases (by omega : j = 3 ∨ j = 4) with rfl | rfl
        · exact nm34.1
        · exact nm34.2)
    cases W' with
    | nil =>
      rw [K_nil] at a0
      have q14' : 0 = bcn W := q14
      have a1 := f_159 (h0 := h0) (l := [13, 0]) (C := C') (B := B) (T := (k, v, f, (p : Int))) (dp := (opn [] : Int)) (by decide) (fun z => by
        have z1 : k = 3 := z.1
        have z2 : v = 59 := z.2
        unfold TokR at hK
        omega)
      exact Fa_le (Go_fa (Go_tr q2 a0) a1) (by omega)
    | cons x W1 =>
      have lx : 5 ≤ lv x := lw
      have hx : x = 10022 := by rcases ent_tab q3.1 with z | z | z | z | z | z | z | z <;> omega
      subst hx
      have q14' : 1 + bcn W1 = bcn W := q14
      rw [show KK 5 (10022 :: W1) = 193 :: 12 :: KK 3 W1 from K_top 10022 W1] at a0 hk
      simp only [List.length_cons] at hk
      have q16' : W1.length + 1 ≤ W.length := q16
      have a1 := f_193 (h0 := h0) (l := 12 :: KK 3 W1) (C := C') (B := B) (T := (k, v, f, (p : Int))) (dp := (opn (10022 :: W1) : Int)) (by simp only [List.length_cons]; omega) (fun z => by
        have z1 : k = 3 := z.1
        have z2 : v = 93 := z.2
        unfold TokR at hK
        omega)
      exact Fa_le (Go_fa (Go_tr q2 a0) a1) (by omega)
