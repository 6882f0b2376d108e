/-! BEHIND AN F -/
theorem toper {r : Nat} {g g1 g2 : Mem} {t : Int} (ht : 0 ≤ t ∧ t ≤ 20000) (e1 : fX5_release_L0 r fuel (bdg t) g = some g1) (e2 : fX5_await t g1 = some g2) : fX5_takeOperator r t g = some (up g2 39 4 2) := by
  unfold fX5_takeOperator
  rw [bind_e ht, bd_s]
  unfold fX5_release
  rw [e1, bd_s, e2, bd_s, bnd_e]
theorem mul_e {h0 g0 g : Mem} {r : Nat} {W : List Int} {D : Nat × (Nat → Int)} {C : tyC} {fr to : Nat → Int} {B : tyB} {st cs pa br cm f : Int} {t k v : Int} {i c0 beg : Nat} (hr : 41 ≤ r) {b : Nat → Int} {S p q' f' : Nat} {k' v' : Int} (N : MN b S p k' v' f' q') (hS : h0 0 48 = (S : Int)) (hb : h0 35 = b) (hT : tb (k', v', (f' : Int), (q' : Int))) (hK : TokR t k v)
    (X : XS r g0 g W D fr to st cs (opn W : Int) pa br cm (p : Int) f) (hW : WF W) (hCR : CR D C) (hop : opn W ≤ 8) (hlen : C.1 + W.length ≤ i) (hi : i ≤ 300) (hO : PIo C fr to B cs beg c0) (hpa : pa = (pcn W : Int)) (hbr : br = (bcn W : Int)) (hcm : cm = cmd W) (hst : st = 3) (hTY : TY C beg (false :: PT W)) (ht : t = 10018 ∨ t = 10019) : SOK 300 t (fX5_takeBehindOperand r t g) r g0 h0 (KK 0 W) C B (k, v, f, (p : Int)) (opn W : Int) (k', v', (f' : Int), (q' : Int)) (p : Int) f i := by
  have hlW := len_W hW
  have hE : Ent t := by unfold Ent; omega
  have tb6 : bdg t = 6 ∧ lv t = 0 ∧ rs t = 0 ∧ nl t = 1 ∧ isO t = 0 ∧ isPa t = 0 ∧ isBr t = 0 := by rcases ent_tab hE with z | z | z | z | z | z | z | z <;> omega
  have hnm : ∀ j, 0 ≤ j → j < 0 → j ≠ 2 → nm k v j := fun j _ h _ => absurd h (by omega)
  obtain ⟨W', l', D', C', q1, q2, q3, q4, q5, q6, q7, q8, q9, q10, q11, q12, q13, q14, q15, q16, q17, q18⟩ := rel_e (h0 := h0) (B := B) (T := (k, v, f, (p : Int))) (g0 := g0) (fr := fr) (to := to) (st := st) (cs := cs) (pa := pa) (br := br) (cm := cm) (p := p) (f := f) hr (b := 6) (L := 0) (m := 0) (beg := beg) (.inl rfl) hnm W 0 D C hW (Nat.le_refl _) (Nat.zero_le _) (.inl ⟨rfl, rfl, rfl⟩) (Nat.zero_le _) (by omega) hCR (by omega) hTY hop
  have l3 : l' = 0 := by omega
  subst l3
  have lw : 1 ≤ lvW W' := (low_W q3).1 q7
  obtain ⟨g1, e1, X1⟩ := q1 fuel g (by rw [fuel_s]; omega) X
  obtain ⟨g2, e2, X2⟩ := x_await t hr (by omega) X1
  have X3 := x_st (v := 2) hr X2
  rw [← opn0 (W := W') tb6.2.2.2.2.1] at X3
  have kt : ∀ d : Int, d = 1000 + dc t → (5 : Int) :: d :: 4 :: KK 1 W' = stk 2 (t :: W') := by
    intro d hd
    show _ = 5 :: KK 0 (t :: W')
    have a := K_top t W'
    rw [tb6.2.1, tb6.2.2.1] at a
    rw [a, (ent_cd hE (by omega)).2.2, if_neg (by omega), K_at (W := W') (L := 0) (by omega), hd]
    rfl
  refine ⟨by omega, 2, t :: W', D', C', fr, to, B, cs, pa, br, cm, _, ?_, X3, ?_, ?_⟩
  · unfold fX5_takeBehindOperand
    simp only [↓jn_e]
    rw [wtE (tokB hK), toper (tokB hK) (by rw [tb6.1]; exact e1) e2, bd_s]
    rcases ht with rfl | rfl
    · rw [if_neg (by decide), if_neg (by decide), if_pos rfl]
    · rw [if_neg (by decide), if_neg (by decide), if_neg (by decide), if_pos rfl]
  · have hk := len_K 1 q3
    rw [opn0 tb6.2.2.2.2.1]
    have ek : (4 : Int) :: KK 1 W' = KK 0 W' := (K_at (L := 0) (W := W') (by omega)).symm
    rcases ht with rfl | rfl
    · have hkv : k = 3 ∧ v = 42 := by unfold TokR at hK; omega
      obtain ⟨rfl, rfl⟩ := hkv
      have a1 := g_4a (h0 := h0) (l := KK 1 W') (C := C') (B := B) (f := f) (dp := (opn W' : Int)) (by omega) N hS hb hT
      rw [kt 1004 (by decide), ek] at a1
      exact Go_le (Go_tr q2 a1) (by omega)
    · have hkv : k = 3 ∧ v = 47 := by unfold TokR at hK; omega
      obtain ⟨rfl, rfl⟩ := hkv
      have a1 := g_4b (h0 := h0) (l := KK 1 W') (C := C') (B := B) (f := f) (dp := (opn W' : Int)) (by omega) N hS hb hT
      rw [kt 1005 (by decide), ek] at a1
      exact Go_le (Go_tr q2 a1) (by omega)
  · refine ⟨⟨hE, by rw [tb6.2.2.2.1]; exact lw, q3⟩, q8, ?_, ?_, .inr ⟨c0, beg, pio_mono hO q10 q11, ?_, ?_, .inr (.inl ⟨rfl, ?_, ?_⟩)⟩⟩
    · rw [opn0 tb6.2.2.2.2.1]; omega
    · show C'.1 + (W'.length + 1) ≤ _; omega
    · show pa = ((isPa t + pcn W' : Nat) : Int); rw [tb6.2.2.2.2.2.1, q13]; omega
    · show br = ((isBr t + bcn W' : Nat) : Int); rw [tb6.2.2.2.2.2.2, q14]; omega
    · show cm = (if t = 10013 ∨ t = 10014 ∨ t = 10015 then 1 else if lv t ≤ 2 then cmd W' else 0)
      rw [if_neg (by omega), if_pos (by omega), q18 (by omega)]; exact hcm
    · rcases ht with rfl | rfl <;> exact q12
theorem add_e {h0 g0 g : Mem} {r : Nat} {W : List Int} {D : Nat × (Nat → Int)} {C : tyC} {fr to : Nat → Int} {B : tyB} {st cs pa br cm f : Int} {t k v : Int} {i c0 beg : Nat} (hr : 41 ≤ r) {b : Nat → Int} {S p q' f' : Nat} {k' v' : Int} (N : MN b S p k' v' f' q') (hS : h0 0 48 = (S : Int)) (hb : h0 35 = b) (hT : tb (k', v', (f' : Int), (q' : Int))) (hK : TokR t k v)
    (X : XS r g0 g W D fr to st cs (opn W : Int) pa br cm (p : Int) f) (hW : WF W) (hCR : CR D C) (hop : opn W ≤ 8) (hlen : C.1 + W.length ≤ i) (hi : i ≤ 300) (hO : PIo C fr to B cs beg c0) (hpa : pa = (pcn W : Int)) (hbr : br = (bcn W : Int)) (hcm : cm = cmd W) (hst : st = 3) (hTY : TY C beg (false :: PT W)) (ht : t = 10016 ∨ t = 10017) : SOK 300 t (fX5_takeBehindOperand r t g) r g0 h0 (KK 0 W) C B (k, v, f, (p : Int)) (opn W : Int) (k', v', (f' : Int), (q' : Int)) (p : Int) f i := by
  have hlW := len_W hW
  have hE : Ent t := by unfold Ent; omega
  have tb6 : bdg t = 5 ∧ lv t = 1 ∧ rs t = 1 ∧ nl t = 2 ∧ isO t = 0 ∧ isPa t = 0 ∧ isBr t = 0 := by rcases ent_tab hE with z | z | z | z | z | z | z | z <;> omega
  have hnm : ∀ j, 0 ≤ j → j < 1 → j ≠ 2 → nm k v j := by
    intro j _ h _
    have : k = 3 ∧ (v = 43 ∨ v = 45) := by unfold TokR at hK; omega
    unfold nm; omega
  obtain ⟨W', l', D', C', q1, q2, q3, q4, q5, q6, q7, q8, q9, q10, q11, q12, q13, q14, q15, q16, q17, q18⟩ := rel_e (h0 := h0) (B := B) (T := (k, v, f, (p : Int))) (g0 := g0) (fr := fr) (to := to) (st := st) (cs := cs) (pa := pa) (br := br) (cm := cm) (p := p) (f := f) hr (b := 5) (L := 1) (m := 1) (beg := beg) (.inl rfl) hnm W 0 D C hW (Nat.le_refl _) (Nat.zero_le _) (.inr (.inl ⟨rfl, rfl, rfl⟩)) (Nat.zero_le _) (by omega) hCR (by omega) hTY hop
  have lw : 2 ≤ lvW W' := (low_W q3).2.1 q7
  obtain ⟨g1, e1, X1⟩ := q1 fuel g (by rw [fuel_s]; omega) X
  obtain ⟨g2, e2, X2⟩ := x_await t hr (by omega) X1
  have X3 := x_st (v := 2) hr X2
  rw [← opn0 (W := W') tb6.2.2.2.2.1] at X3
  have kt : ∀ d : Int, d = 1000 + dc t → (5 : Int) :: 4 :: d :: KK 1 W' = stk 2 (t :: W') := by
    intro d hd
    show _ = 5 :: KK 0 (t :: W')
    have a := K_top t W'
    rw [tb6.2.1, tb6.2.2.1] at a
    rw [K_at (W := t :: W') (L := 0) (by show 0 < lv t; omega), a, (ent_cd hE (by omega)).2.2, if_neg (by omega), hd]
    rfl
  refine ⟨by omega, 2, t :: W', D', C', fr, to, B, cs, pa, br, cm, _, ?_, X3, ?_, ?_⟩
  · unfold fX5_takeBehindOperand
    simp only [↓jn_e]
    rw [wtE (tokB hK), toper (tokB hK) (by rw [tb6.1]; exact e1) e2, bd_s]
    rcases ht with rfl | rfl
    · rw [if_pos rfl]
    · rw [if_neg (by decide), if_pos rfl]
  · have hk := len_K 2 q3
    have hk1 := len_K 1 q3
    rw [opn0 tb6.2.2.2.2.1]
    have ek : (2 : Int) :: KK 2 W' = KK 1 W' := (K_at (L := 1) (W := W') (by omega)).symm
    have a0 := Go_K (h0 := h0) (C := C') (B := B) (T := (k, v, f, (p : Int))) (dp := (opn W' : Int)) (l := l') (L := 1) q3 (by omega) (by omega) (by omega) (fun j x y => hnm j (by omega) y (by omega))
    rcases ht with rfl | rfl
    · have hkv : k = 3 ∧ v = 43 := by unfold TokR at hK; omega
      obtain ⟨rfl, rfl⟩ := hkv
      have a1 := g_2a (h0 := h0) (l := KK 2 W') (C := C') (B := B) (f := f) (dp := (opn W' : Int)) (by omega) N hS hb hT
      have a2 := g_3 (h0 := h0) (l := 1002 :: KK 1 W') (C := C') (B := B) (T := (k', v', (f' : Int), (q' : Int))) (dp := (opn W' : Int)) (by simp only [List.length_cons]; omega)
      rw [ek] at a1
      rw [kt 1002 (by decide)] at a2
      exact Go_le (Go_tr (Go_tr (Go_tr q2 a0) a1) a2) (by omega)
    · have hkv : k = 3 ∧ v = 45 := by unfold TokR at hK; omega
      obtain ⟨rfl, rfl⟩ := hkv
      have a1 := g_2b (h0 := h0) (l := KK 2 W') (C := C') (B := B) (f := f) (dp := (opn W' : Int)) (by omega) N hS hb hT
      have a2 := g_3 (h0 := h0) (l := 1003 :: KK 1 W') (C := C') (B := B) (T := (k', v', (f' : Int), (q' : Int))) (dp := (opn W' : Int)) (by simp only [List.length_cons]; omega)
      rw [ek] at a1
      rw [kt 1003 (by decide)] at a2
      exact Go_le (Go_tr (Go_tr (Go_tr q2 a0) a1) a2) (by omega)
  · refine ⟨⟨hE, by rw [tb6.2.2.2.1]; exact lw, q3⟩, q8, ?_, ?_, .inr ⟨c0, beg, pio_mono hO q10 q11, ?_, ?_, .inr (.inl ⟨rfl, ?_, ?_⟩)⟩⟩
    · rw [opn0 tb6.2.2.2.2.1]; omega
    · show C'.1 + (W'.length + 1) ≤ _; omega
    · show pa = ((isPa t + pcn W' : Nat) : Int); rw [tb6.2.2.2.2.2.1, q13]; omega
    · show br = ((isBr t + bcn W' : Nat) : Int); rw [tb6.2.2.2.2.2.2, q14]; omega
    · show cm = (if t = 10013 ∨ t = 10014 ∨ t = 10015 then 1 else if lv t ≤ 2 then cmd W' else 0)
      rw [if_neg (by omega), if_pos (by omega), q18 (by omega)]; exact hcm
    · rw [decide_eq_false (show ¬ 3 ≤ l' by omega)] at q12
      rcases ht with rfl | rfl <;> exact q12
theorem cmp_e {h0 g0 g : Mem} {r : Nat} {W : List Int} {D : Nat × (Nat → Int)} {C : tyC} {fr to : Nat → Int} {B : tyB} {st cs pa br cm f : Int} {t k v : Int} {i c0 beg : Nat} (hr : 41 ≤ r) {b : Nat → Int} {S p q' f' : Nat} {k' v' : Int} (N : MN b S p k' v' f' q') (hS : h0 0 48 = (S : Int)) (hb : h0 35 = b) (hT : tb (k', v', (f' : Int), (q' : Int))) (hK : TokR t k v)
    (X : XS r g0 g W D fr to st cs (opn W : Int) pa br cm (p : Int) f) (hW : WF W) (hCR : CR D C) (hop : opn W ≤ 8) (hlen : C.1 + W.length ≤ i) (hi : i ≤ 300) (hO : PIo C fr to B cs beg c0) (hpa : pa = (pcn W : Int)) (hbr : br = (bcn W : Int)) (hcm : cm = cmd W) (hst : st = 3) (hTY : TY C beg (false :: PT W)) (hp0 : pcn W = 0) (hc0 : cmd W = 0) (ht : t = 10013 ∨ t = 10014 ∨ t = 10015) : SOK 300 t (fX5_takeBehindOperand r t g) r g0 h0 (KK 0 W) C B (k, v, f, (p : Int)) (opn W : Int) (k', v', (f' : Int), (q' : Int)) (p : Int) f i := by
  have hlW := len_W hW
  have hE : Ent t := by unfold Ent; omega
  have tb6 : bdg t = 4 ∧ lv t = 2 ∧ rs t = 3 ∧ nl t = 3 ∧ isO t = 0 ∧ isPa t = 0 ∧ isBr t = 0 := by rcases ent_tab hE with z | z | z | z | z | z | z | z <;> omega
  have hb3 : 3 ≤ bl W := (bl_3 hW).1 hp0 hc0
  have hnm : ∀ j, 0 ≤ j → j < 2 → j ≠ 2 → nm k v j := by
    intro j _ h _
    have : k = 3 ∧ (v = 60 ∨ v = 61 ∨ v = 62) := by unfold TokR at hK; omega
    unfold nm; omega
  obtain ⟨W', l', D', C', q1, q2, q3, q4, q5, q6, q7, q8, q9, q10, q11, q12, q13, q14, q15, q16, q17, q18⟩ := rel_e (h0 := h0) (B := B) (T := (k, v, f, (p : Int))) (g0 := g0) (fr := fr) (to := to) (st := st) (cs := cs) (pa := pa) (br := br) (cm := 1) (p := p) (f := f) hr (b := 4) (L := 2) (m := 1) (beg := beg) (.inl rfl) hnm W 0 D C hW (Nat.le_refl _) (Nat.zero_le _) (.inr (.inr (.inl ⟨rfl, rfl, rfl, hb3⟩))) (Nat.zero_le _) (by omega) hCR (by omega) hTY hop
  have lw : 3 ≤ lvW W' := ((low_W q3).2.2 (by omega)).1 q7
  obtain ⟨g1, e1, X1⟩ := q1 fuel _ (by rw [fuel_s]; omega) (x_cm (v := 1) hr X)
  obtain ⟨g2, e2, X2⟩ := x_await t hr (by omega) X1
  have X3 := x_st (v := 2) hr X2
  rw [← opn0 (W := W') tb6.2.2.2.2.1] at X3
  have kt : ∀ d : Int, d = 1000 + dc t → (5 : Int) :: 4 :: 2 :: d :: KK 3 W' = stk 2 (t :: W') := by
    intro d hd
    show _ = 5 :: KK 0 (t :: W')
    have a := K_top t W'
    rw [tb6.2.1, tb6.2.2.1] at a
    rw [K_at (W := t :: W') (L := 0) (by show 0 < lv t; omega), K_at (W := t :: W') (L := 1) (by show 1 < lv t; omega), a, (ent_cd hE (by omega)).2.2, if_neg (by omega), hd]
    rfl
  have h7 : g 39 7 = pa := X.2.2.2.2.1.2.2.2.1
  have h9 : g 39 9 = cm := X.2.2.2.2.1.2.2.2.2.2
  refine ⟨by omega, 2, t :: W', D', C', fr, to, B, cs, pa, br, 1, _, ?_, X3, ?_, ?_⟩
  · unfold fX5_takeBehindOperand
    simp only [↓jn_e]
    rw [wtE (tokB hK), if_neg (by omega), if_neg (by omega), if_neg (by omega), if_neg (by omega), h7, hpa, hp0, if_pos (by decide), h9, hcm, hc0, if_pos (by decide), bnd_e, toper (tokB hK) (by rw [tb6.1]; exact e1) e2, bd_s]
    rcases ht with rfl | rfl | rfl
    · rw [if_pos rfl]
    · rw [if_neg (by decide), if_pos rfl]
    · rw [if_neg (by decide), if_neg (by decide), if_pos rfl]
  · have hk := len_K 3 q3
    rw [opn0 tb6.2.2.2.2.1]
    have ek : (11 : Int) :: KK 3 W' = KK 2 W' := (K_at (L := 2) (W := W') (by omega)).symm
    have a0 := Go_K (h0 := h0) (C := C') (B := B) (T := (k, v, f, (p : Int))) (dp := (opn W' : Int)) (l := l') (L := 2) q3 (by omega) (by omega) (by omega) (fun j x y => hnm j (by omega) y (by omega))
    have fin : ∀ d : Int, d = 1000 + dc t → Go h0 2 (1 :: d :: KK 3 W') C' B (k', v', (f' : Int), (q' : Int)) (opn W' : Int) (stk 2 (t :: W')) C' B (k', v', (f' : Int), (q' : Int)) (opn W' : Int) := by
      intro d hd
      have a2 := g_1 (h0 := h0) (l := d :: KK 3 W') (C := C') (B := B) (T := (k', v', (f' : Int), (q' : Int))) (dp := (opn W' : Int)) (by simp only [List.length_cons]; omega)
      have a3 := g_3 (h0 := h0) (l := 2 :: d :: KK 3 W') (C := C') (B := B) (T := (k', v', (f' : Int), (q' : Int))) (dp := (opn W' : Int)) (by simp only [List.length_cons]; omega)
      rw [kt d hd] at a3
      exact Go_tr a2 a3
    rcases ht with rfl | rfl | rfl
    · have hkv : k = 3 ∧ v = 60 := by unfold TokR at hK; omega
      obtain ⟨rfl, rfl⟩ := hkv
      have a1 := g_11_60 (h0 := h0) (l := KK 3 W') (C := C') (B := B) (f := f) (dp := (opn W' : Int)) (by omega) N hS hb hT
      rw [ek] at a1
      exact Go_le (Go_tr (Go_tr (Go_tr q2 a0) a1) (fin 1006 (by decide))) (by omega)
    · have hkv : k = 3 ∧ v = 62 := by unfold TokR at hK; omega
      obtain ⟨rfl, rfl⟩ := hkv
      have a1 := g_11_62 (h0 := h0) (l := KK 3 W') (C := C') (B := B) (f := f) (dp := (opn W' : Int)) (by omega) N hS hb hT
      rw [ek] at a1
      exact Go_le (Go_tr (Go_tr (Go_tr q2 a0) a1) (fin 1007 (by decide))) (by omega)
    · have hkv : k = 3 ∧ v = 61 := by unfold TokR at hK; omega
      obtain ⟨rfl, rfl⟩ := hkv
      have a1 := g_11_61 (h0 := h0) (l := KK 3 W') (C := C') (B := B) (f := f) (dp := (opn W' : Int)) (by omega) N hS hb hT
      rw [ek] at a1
      exact Go_le (Go_tr (Go_tr (Go_tr q2 a0) a1) (fin 1008 (by decide))) (by omega)
  · refine ⟨⟨hE, by rw [tb6.2.2.2.1]; exact lw, q3⟩, q8, ?_, ?_, .inr ⟨c0, beg, pio_mono hO q10 q11, ?_, ?_, .inr (.inl ⟨rfl, ?_, ?_⟩)⟩⟩
    · rw [opn0 tb6.2.2.2.2.1]; omega
    · show C'.1 + (W'.length + 1) ≤ _; omega
    · show pa = ((isPa t + pcn W' : Nat) : Int); rw [tb6.2.2.2.2.2.1, q13]; omega
    · show br = ((isBr t + bcn W' : Nat) : Int); rw [tb6.2.2.2.2.2.2, q14]; omega
    · show 1 = (if t = 10013 ∨ t = 10014 ∨ t = 10015 then 1 else if lv t ≤ 2 then cmd W' else 0)
      rw [if_pos ht]
    · rw [decide_eq_false (show ¬ 3 ≤ l' by omega)] at q12
      rcases ht with rfl | rfl | rfl <;> exact q12
theorem par_head {W : List Int} (hW : WF W) (hb : bW W < 5) (hp : 0 < pcn W) : ∃ W1, W = 10020 :: W1 := by
  cases W with
  | nil => exact absurd hp (by decide)
  | cons x W1 =>
    have p0 := fun z => pc0 hW.2.2 z
    have hn := hW.2.1
    have hb' : bdg x < 5 := hb
    have hp' : 0 < isPa x + pcn W1 := hp
    have : x = 10020 := by
      rcases Nat.lt_or_ge (lvW W1) 3 with y | y
      · rcases ent_tab hW.1 with z | z | z | z | z | z | z | z <;> omega
      · rw [p0 y] at hp'
        rcases ent_tab hW.1 with z | z | z | z | z | z | z | z <;> omega
    exact ⟨W1, by rw [this]⟩
theorem shut_e {h0 g0 g : Mem} {r : Nat} {W : List Int} {D : Nat × (Nat → Int)} {C : tyC} {fr to : Nat → Int} {B : tyB} {st cs pa br cm f : Int} {t k v : Int} {i c0 beg : Nat} (hr : 41 ≤ r) {b : Nat → Int} {S p q' f' : Nat} {k' v' : Int} (N : MN b S p k' v' f' q') (hS : h0 0 48 = (S : Int)) (hb : h0 35 = b) (hT : tb (k', v', (f' : Int), (q' : Int))) (hK : TokR t k v)
    (X : XS r g0 g W D fr to st cs (opn W : Int) pa br cm (p : Int) f) (hW : WF W) (hCR : CR D C) (hop : opn W ≤ 8) (hlen : C.1 + W.length ≤ i) (hi : i ≤ 300) (hO : PIo C fr to B cs beg c0) (hpa : pa = (pcn W : Int)) (hbr : br = (bcn W : Int)) (hcm : cm = cmd W) (hst : st = 3) (hTY : TY C beg (false :: PT W)) (hp0 : 0 < pcn W) (ht : t = 10021) : SOK 300 t (fX5_takeBehindOperand r t g) r g0 h0 (KK 0 W) C B (k, v, f, (p : Int)) (opn W : Int) (k', v', (f' : Int), (q' : Int)) (p : Int) f i := by
  have hlW := len_W hW
  subst ht
  have hkv : k = 3 ∧ v = 41 := by unfold TokR at hK; omega
  obtain ⟨rfl, rfl⟩ := hkv
  have hb2 : bl W = 2 := (bl_3 hW).2.1 (.inl hp0)
  have hnm : ∀ j, 0 ≤ j → j < 4 → j ≠ 2 → nm (3 : Int) 41 j := by
    intro j _ h _; unfold nm; omega
  obtain ⟨W', l', D', C', q1, q2, q3, q4, q5, q6, q7, q8, q9, q10, q11, q12, q13, q14, q15, q16, q17, q18⟩ := rel_e (h0 := h0) (B := B) (T := (3, 41, f, (p : Int))) (g0 := g0) (fr := fr) (to := to) (st := st) (cs := cs) (pa := (pa - 1)) (br := br) (cm := cm) (p := p) (f := f) hr (b := 1) (L := 4) (m := 4) (beg := beg) (.inl rfl) hnm W 0 D C hW (Nat.le_refl _) (Nat.zero_le _) (.inr (.inr (.inr (.inr ⟨rfl, rfl, rfl⟩)))) (Nat.zero_le _) (by omega) hCR (by omega) hTY hop
  obtain ⟨W1, rfl⟩ := par_head q3 (by omega) (by omega)
  have q4' : l' ≤ 2 := q4
  have q16' : W1.length + 1 ≤ W.length := q16
  have eo : opn (10020 :: W1) = 1 + opn W1 := rfl
  obtain ⟨g1, e1, X1⟩ := q1 fuel _ (by rw [fuel_s]; omega) (x_pa (v := pa - 1) hr X)
  obtain ⟨g2, e2, X2⟩ := x_drop hr (by omega) X1
  rw [show ((opn (10020 :: W1) : Nat) : Int) - 1 = (opn W1 : Int) by omega] at X2
  have h7 : g 39 7 = pa := X.2.2.2.2.1.2.2.2.1
  have hp4 : 0 ≤ pa ∧ pa ≤ 400 := by
    have := pcn_le W
    omega
  subst hst
  refine ⟨by decide, 3, W1, D', C', fr, to, B, cs, pa - 1, br, cm, _, ?_, X2, ?_, ?_⟩
  · unfold fX5_takeBehindOperand
    simp only [↓jn_e]
    rw [if_neg (by decide), if_neg (by decide), if_neg (by decide), if_neg (by decide), h7, if_neg (by rw [wrS hp4]; omega), if_pos (by decide), bnd_e]
    unfold fX5_release
    rw [e1, bd_s, e2, bd_s]
  · have hk := len_K 0 q3.2.2
    have a0 := Go_K (h0 := h0) (C := C') (B := B) (T := (3, 41, f, (p : Int))) (dp := (opn (10020 :: W1) : Int)) (l := l') (L := 2) q3 (by show W1.length + 1 < 60; omega) (by omega) (show 2 ≤ lv 10020 by decide) (fun j x y => hnm j (by omega) (by omega) (by omega))
    rw [show KK 2 (10020 :: W1) = 141 :: 12 :: KK 0 W1 from K_top 10020 W1] at a0
    have a1 := g_141 (h0 := h0) (l := 12 :: KK 0 W1) (C := C') (B := B) (f := f) (dp := (opn (10020 :: W1) : Int)) (by simp only [List.length_cons]; omega) N hS hb hT
    have a2 := g_up (h0 := h0) (l := KK 0 W1) (C := C') (B := B) (T := (k', v', (f' : Int), (q' : Int))) (dp := (opn (10020 :: W1) : Int)) (by omega) (by omega)
    rw [show ((opn (10020 :: W1) : Nat) : Int) - 1 = (opn W1 : Int) by omega] at a2
    exact Go_le (Go_tr (Go_tr (Go_tr q2 a0) a1) a2) (by omega)
  · refine ⟨q3.2.2, q8, by omega, ?_, .inr ⟨c0, beg, pio_mono hO q10 q11, ?_, ?_, .inr (.inr (.inl ⟨rfl, ?_, ?_⟩))⟩⟩
    · have : C'.1 + (W1.length + 1) ≤ C.1 + W.length := q9
      omega
    · have : 1 + pcn W1 = pcn W := q13
      omega
    · have : 0 + bcn W1 = bcn W := q14
      omega
    · rw [hcm, ← q18 (.inr hp0)]; rfl
    · rw [decide_eq_false (show ¬ 3 ≤ l' by omega)] at q12; exact q12
theorem behind_e {h0 g0 g : Mem} {r : Nat} {W : List Int} {D : Nat × (Nat → Int)} {C : tyC} {fr to : Nat → Int} {B : tyB} {st cs pa br cm f : Int} {t k v : Int} {i c0 beg : Nat} (hr : 41 ≤ r) {b : Nat → Int} {S p q' f' : Nat} {k' v' : Int} (N : MN b S p k' v' f' q') (hS : h0 0 48 = (S : Int)) (hb : h0 35 = b) (hT : tb (k', v', (f' : Int), (q' : Int))) (hK : TokR t k v)
    (X : XS r g0 g W D fr to st cs (opn W : Int) pa br cm (p : Int) f) (hW : WF W) (hCR : CR D C) (hop : opn W ≤ 8) (hlen : C.1 + W.length ≤ i) (hi : i ≤ 300) (hO : PIo C fr to B cs beg c0) (hpa : pa = (pcn W : Int)) (hbr : br = (bcn W : Int)) (hcm : cm = cmd W) (hst : st = 3) (hTY : TY C beg (false :: PT W)) : SOK 300 t (fX5_takeBehindOperand r t g) r g0 h0 (KK 0 W) C B (k, v, f, (p : Int)) (opn W : Int) (k', v', (f' : Int), (q' : Int)) (p : Int) f i ∨ SNO 300 (fX5_takeBehindOperand r t g) r g0 h0 (KK 0 W) C B (k, v, f, (p : Int)) (opn W : Int) f := by
  have hlW := len_W hW
  by_cases c1 : t = 10018 ∨ t = 10019
  · exact .inl (mul_e hr N hS hb hT hK X hW hCR hop hlen hi hO hpa hbr hcm hst hTY c1)
  by_cases c2 : t = 10016 ∨ t = 10017
  · exact .inl (add_e hr N hS hb hT hK X hW hCR hop hlen hi hO hpa hbr hcm hst hTY c2)
  have h7 : g 39 7 = pa := X.2.2.2.2.1.2.2.2.1
  have h9 : g 39 9 = cm := X.2.2.2.2.1.2.2.2.2.2
  have n01 : nm k v 0 ∧ nm k v 1 := by
    have : ¬ (k = 3 ∧ (v = 42 ∨ v = 43 ∨ v = 45 ∨ v = 47)) := by unfold TokR at hK; omega
    unfold nm; omega
  have hp4 : 0 ≤ pa ∧ pa ≤ 400 := by
    have := pcn_le W
    omega
  by_cases c3 : 0 < pcn W
  · by_cases c4 : t = 10021
    · exact .inl (shut_e hr N hS hb hT hK X hW hCR hop hlen hi hO hpa hbr hcm hst hTY c3 c4)
    · right
      have hnm : ∀ j, 0 ≤ j → j < 1 → j ≠ 2 → nm k v j := by
        intro j _ h _
        rw [show j = 0 by omega]; exact n01.1
      obtain ⟨W', l', D', C', q1, q2, q3, q4, q5, q6, q7, q8, q9, q10, q11, q12, q13, q14, q15, q16, q17, q18⟩ := rel_e (h0 := h0) (B := B) (T := (k, v, f, (p : Int))) (g0 := g0) (fr := fr) (to := to) (st := st) (cs := cs) (pa := pa) (br := br) (cm := cm) (p := p) (f := f) hr (b := 5) (L := 1) (m := 1) (beg := beg) (.inl rfl) hnm W 0 D C hW (Nat.le_refl _) (Nat.zero_le _) (.inr (.inl ⟨rfl, rfl, rfl⟩)) (Nat.zero_le _) (by omega) hCR (by omega) hTY hop
      obtain ⟨W1, rfl⟩ := par_head q3 q7 (by omega)
      refine ⟨g, ?_, X.2.2.2.2.2, X.2.2.2.1.2, ?_⟩
      · unfold fX5_takeBehindOperand
        simp only [↓jn_e]
        rw [wtE (tokB hK), if_neg (by omega), if_neg (by omega), if_neg (by omega), if_neg (by omega), h7, if_neg (by rw [wrS hp4]; omega), if_neg c4]
      · have hk := len_K 0 q3.2.2
        have q16' : W1.length + 1 ≤ W.length := q16
        have a0 := Go_K (h0 := h0) (C := C') (B := B) (T := (k, v, f, (p : Int))) (dp := (opn (10020 :: W1) : Int)) (l := l') (L := 2) q3 (by show W1.length + 1 < 60; omega) (by omega) (show 2 ≤ lv 10020 by decide) (fun j x y => by
          rcases (by omega : j = 0 ∨ j = 1) with rfl | rfl
          · exact n01.1
          · exact n01.2)
        rw [show KK 2 (10020 :: W1) = 141 :: 12 :: KK 0 W1 from K_top 10020 W1] at a0
        have a1 := f_141 (h0 := h0) (l := 12 :: KK 0 W1) (C := C') (B := B) (T := (k, v, f, (p : Int))) (dp := (opn (10020 :: W1) : Int)) (by simp only [List.length_cons]; omega) (fun z => by
          have z1 : k = 3 := z.1
          have z2 : v = 41 := z.2
          unfold TokR at hK; omega)
        exact Fa_le (Go_fa (Go_tr q2 a0) a1) (by omega)
  have hp0 : pcn W = 0 := by omega
  have b3 := bl_3 hW
  by_cases c5 : cmd W = 1
  · have j := tjoin_e (l := 0) (t := t) (k := k) (v := v) hr N hS hb hT hK X hW hCR hop hlen hi hO hpa hbr hp0 (.inl ⟨rfl, b3.2.1 (.inr c5), n01.1, n01.2⟩) hTY
    have e : fX5_takeBehindOperand r t g = bd2 (fX5_takeJoin r t g) fun r_17 g_19 => gc (r_17 = 0 ∨ r_17 = 1) (some (r_17, g_19)) := by
      unfold fX5_takeBehindOperand
      simp only [↓jn_e]
      rw [wtE (tokB hK), if_neg (by omega), if_neg (by omega), if_neg (by omega), if_neg (by omega), h7, if_pos (by rw [wrS hp4]; omega), h9, hcm, c5, if_neg (by decide)]
    rcases j with ⟨j0, st', W', D', C', fr', to', B', cs', pa', br', cm', g', j1, j2⟩ | ⟨g', j1, j2⟩
    · exact .inl ⟨j0, st', W', D', C', fr', to', B', cs', pa', br', cm', g', by rw [e, j1, bd2_s, gc_of (.inr rfl)], j2⟩
    · exact .inr ⟨g', by rw [e, j1, bd2_s, gc_of (.inl rfl)], j2⟩
  have hc0 : cmd W = 0 := by omega
  by_cases c6 : t = 10013 ∨ t = 10014 ∨ t = 10015
  · exact .inl (cmp_e hr N hS hb hT hK X hW hCR hop hlen hi hO hpa hbr hcm hst hTY hp0 hc0 c6)
  right
  have hb3 : 3 ≤ bl W := b3.1 hp0 hc0
  have hnm : ∀ j, 0 ≤ j → j < 2 → j ≠ 2 → nm k v j := by
    intro j _ h _
    rcases (by omega : j = 0 ∨ j = 1) with rfl | rfl
    · exact n01.1
    · exact n01.2
  obtain ⟨W', l', D', C', q1, q2, q3, q4, q5, q6, q7, q8, q9, q10, q11, q12, q13, q14, q15, q16, q17, q18⟩ := rel_e (h0 := h0) (B := B) (T := (k, v, f, (p : Int))) (g0 := g0) (fr := fr) (to := to) (st := st) (cs := cs) (pa := pa) (br := br) (cm := cm) (p := p) (f := f) hr (b := 4) (L := 2) (m := 1) (beg := beg) (.inl rfl) hnm W 0 D C hW (Nat.le_refl _) (Nat.zero_le _) (.inr (.inr (.inl ⟨rfl, rfl, rfl, hb3⟩))) (Nat.zero_le _) (by omega) hCR (by omega) hTY hop
  have lw : 3 ≤ lvW W' := ((low_W q3).2.2 (by omega)).1 q7
  refine ⟨g, ?_, X.2.2.2.2.2, X.2.2.2.1.2, ?_⟩
  · unfold fX5_takeBehindOperand
    simp only [↓jn_e]
    rw [wtE (tokB hK), if_neg (by omega), if_neg (by omega), if_neg (by omega), if_neg (by omega), h7, if_pos (by rw [wrS hp4]; omega), h9, hcm, hc0, if_pos (by decide), if_neg (by omega), if_neg (by omega), if_neg (by omega)]
  · have hk := len_K 3 q3
    have ek : KK 2 W' = (11 : Int) :: KK 3 W' := K_at (L := 2) (W := W') (by omega)
    have a0 := Go_K (h0 := h0) (C := C') (B := B) (T := (k, v, f, (p : Int))) (dp := (opn W' : Int)) (l := l') (L := 2) q3 (by omega) (by omega) (by omega) (fun j x y => hnm j (by omega) y (by omega))
    rw [ek] at a0
    have a1 := f_11 (h0 := h0) (l := KK 3 W') (C := C') (B := B) (T := (k, v, f, (p : Int))) (dp := (opn W' : Int)) (by omega) (fun z => by
      have z1 : k = 3 := z.1
      have z2 : v = 60 ∨ v = 61 ∨ v = 62 := z.2
      unfold TokR at hK; omega)
    exact Fa_le (Go_fa (Go_tr q2 a0) a1) (by omega)
