/-! RELEASE: what waits and binds so tightly is passed by both sides -/
theorem tst_pop {t : Int} (hE : Ent t) (hb : 1 ≤ bdg t) {l : Nat} {W : List Int} (hl : l ≤ lv t) (h2 : l ≤ 2 → lv t ≤ 2) : tst (dc t) (decide (3 ≤ l) :: PT (t :: W)) = some (decide (3 ≤ rs t) :: PT W) := by
  unfold Ent at hE
  have f1 : l ≤ 2 → decide (3 ≤ l) = false := fun z => decide_eq_false (by omega)
  have f2 : 3 ≤ l → decide (3 ≤ l) = true := fun z => decide_eq_true z
  rcases (by omega : t = 10010 ∨ t = 10011 ∨ t = 10012 ∨ t = 10013 ∨ t = 10014 ∨ t = 10015 ∨ t = 10016 ∨ t = 10017 ∨ t = 10018 ∨ t = 10019 ∨ t = 10020 ∨ t = 10022) with rfl | rfl | rfl | rfl | rfl | rfl | rfl | rfl | rfl | rfl | rfl | rfl
  · have h3 : 3 ≤ l := by
      rcases Nat.lt_or_ge l 3 with z | z
      · exact absurd (h2 (by omega)) (by decide)
      · exact z
    rw [f2 h3]; rfl
  · have h3 : 3 ≤ l := by
      rcases Nat.lt_or_ge l 3 with z | z
      · exact absurd (h2 (by omega)) (by decide)
      · exact z
    rw [f2 h3]; rfl
  · have h3 : 3 ≤ l := by
      rcases Nat.lt_or_ge l 3 with z | z
      · exact absurd (h2 (by omega)) (by decide)
      · exact z
    rw [f2 h3]; rfl
  · rw [f1 hl]; rfl
  · rw [f1 hl]; rfl
  · rw [f1 hl]; rfl
  · rw [f1 (Nat.le_trans hl (by decide))]; rfl
  · rw [f1 (Nat.le_trans hl (by decide))]; rfl
  · rw [f1 (Nat.le_trans hl (by decide))]; rfl
  · rw [f1 (Nat.le_trans hl (by decide))]; rfl
  · exact absurd hb (by decide)
  · exact absurd hb (by decide)
theorem low_W {W : List Int} (h : WF W) : (bW W < 6 → 1 ≤ lvW W) ∧ (bW W < 5 → 2 ≤ lvW W) ∧ (pcn W = 0 → (bW W < 4 → 3 ≤ lvW W) ∧ (bW W < 2 → 4 ≤ lvW W) ∧ (bW W < 1 → 5 ≤ lvW W)) := by
  cases W with
  | nil => exact ⟨fun _ => by decide, fun _ => by decide, fun _ => ⟨fun _ => by decide, fun _ => by decide, fun _ => by decide⟩⟩
  | cons t W =>
    show (bdg t < 6 → 1 ≤ lv t) ∧ (bdg t < 5 → 2 ≤ lv t) ∧ (isPa t + pcn W = 0 → (bdg t < 4 → 3 ≤ lv t) ∧ (bdg t < 2 → 4 ≤ lv t) ∧ (bdg t < 1 → 5 ≤ lv t))
    rcases ent_tab h.1 with z | z | z | z | z | z | z | z <;> omega
theorem stop_c {W : List Int} {b : Int} (h : WF W) (h1 : bW W < b) (h2 : b < 4) (h3 : bl W = 2) (h4 : pcn W = 0) : False := by
  cases W with
  | nil => exact absurd h3 (by decide)
  | cons t W =>
    have a1 : bdg t < b := h1
    have a2 : (if lv t ≤ 1 then bl W else lv t) = 2 := h3
    have a3 : isPa t + pcn W = 0 := h4
    rcases ent_tab h.1 with z | z | z | z | z | z | z | z
    all_goals first | omega | (rw [if_neg (by omega)] at a2; omega)
def relC (b : Int) (L m : Nat) (W : List Int) : Prop := (b = 6 ∧ L = 0 ∧ m = 0) ∨ (b = 5 ∧ L = 1 ∧ m = 1) ∨ (b = 4 ∧ L = 2 ∧ m = 1 ∧ 3 ≤ bl W) ∨ (b = 2 ∧ L = 3 ∧ m = 3) ∨ (b = 1 ∧ L = 4 ∧ m = 4)
theorem rel_e {h0 : Mem} {B : tyB} {T : tyT} {r : Nat} {g0 : Mem} {fr to : Nat → Int} {st cs pa br cm p f : Int} (hr : 41 ≤ r) {b : Int} {L l0 m beg : Nat} (hl0 : l0 = 0 ∨ l0 = 3) (hnm : ∀ j, l0 ≤ j → j < L → j ≠ 2 → nm T.1 T.2.1 j) :
    ∀ (W : List Int) (l : Nat) (D : Nat × (Nat → Int)) (C : tyC), WF W → l0 ≤ l → l ≤ lvW W → relC b L m W → l ≤ m → (3 ≤ l ∨ bl W = 2 ∨ 4 ≤ b) → CR D C → C.1 + W.length ≤ 300 → TY C beg (decide (3 ≤ l) :: PT W) → opn W ≤ 8 →
    ∃ (W' : List Int) (l' : Nat) (D' : Nat × (Nat → Int)) (C' : tyC),
      (∀ (N : Nat) (g : Mem), W.length < N → XS r g0 g W D fr to st cs (opn W : Int) pa br cm p f → ∃ g', fX5_release_L0 r N b g = some g' ∧ XS r g0 g' W' D' fr to st cs (opn W' : Int) pa br cm p f) ∧
      Go h0 (8 * W.length) (KK l W) C B T (opn W : Int) (KK l' W') C' B T (opn W' : Int) ∧
      WF W' ∧ l' ≤ lvW W' ∧ l0 ≤ l' ∧ l' ≤ m ∧ bW W' < b ∧ CR D' C' ∧ C'.1 + W'.length ≤ C.1 + W.length ∧ C.1 ≤ C'.1 ∧ (∀ k, k < C.1 → C'.2.1 k = C.2.1 k) ∧ TY C' beg (decide (3 ≤ l') :: PT W') ∧ pcn W' = pcn W ∧ bcn W' = bcn W ∧ opn W' ≤ opn W ∧ W'.length ≤ W.length ∧ (3 ≤ l ∨ (bl W = 2 ∧ pcn W = 0 ∧ b < 4) → 3 ≤ l') ∧ (5 ≤ b ∨ 0 < pcn W → cmd W' = cmd W) := by
  intro W
  induction W with
  | nil =>
    intro l D C hW hl hlv hc hm hcond hCR hlen hTY hop
    have hb : (1 : Int) ≤ b ∧ b ≤ 6 := by unfold relC at hc; omega
    refine ⟨[], l, D, C, fun N g hN X => ⟨g, ?_, X⟩, Go_rfl, hW, hlv, hl, hm, ?_, hCR, Nat.le_refl _, Nat.le_refl _, fun _ _ => rfl, hTY, rfl, rfl, Nat.le_refl _, Nat.le_refl _, fun z => ?_, fun _ => rfl⟩
    · obtain ⟨N, rfl⟩ : ∃ x, N = x + 1 := ⟨N - 1, by omega⟩
      exact x_rel0 N (by decide) (ent_mem hW) ⟨by show (0 : Int) < b; omega, hb.2⟩ X
    · show (0 : Int) < b; omega
    · rcases z with z | z
      · exact z
      · exact absurd z.1 (by decide)
  | cons t W ih =>
    intro l D C hW hl hlv hc hm hcond hCR hlen hTY hop
    have hb : (1 : Int) ≤ b ∧ b ≤ 6 := by unfold relC at hc; omega
    have hlW := len_W hW
    have hl30 : W.length + 1 ≤ 29 := by
      have : (t :: W).length = W.length + 1 := rfl
      omega
    have hlen' : C.1 + (W.length + 1) ≤ 300 := hlen
    have hE := hW.1
    have tab := ent_tab hE
    have num := ent_num hE
    have hlv' : l ≤ lv t := hlv
    have ebl : bl (t :: W) = if lv t ≤ 1 then bl W else lv t := rfl
    by_cases hs : bdg t < b
    · refine ⟨t :: W, l, D, C, fun N g hN X => ⟨g, ?_, X⟩, Go_rfl, hW, hlv, hl, hm, hs, hCR, Nat.le_refl _, Nat.le_refl _, fun _ _ => rfl, hTY, rfl, rfl, Nat.le_refl _, Nat.le_refl _, fun z => ?_, fun _ => rfl⟩
      · obtain ⟨N, rfl⟩ : ∃ x, N = x + 1 := ⟨N - 1, by omega⟩
        exact x_rel0 N (by show W.length + 1 < 32; omega) (ent_mem hW) ⟨hs, hb.2⟩ X
      · rcases z with z | z
        · exact z
        · exact (stop_c hW hs z.2.2 z.1 z.2.1).elim
    · have hbt : b ≤ bdg t := by omega
      have hb1 : 1 ≤ bdg t := by omega
      have lvL : lv t ≤ L := by unfold relC at hc; rcases tab with z | z | z | z | z | z | z | z <;> omega
      have noR : l ≤ 2 → lv t ≤ 2 := by
        intro z
        rcases hcond with y | y | y
        · omega
        · rw [ebl] at y
          by_cases w : lv t ≤ 1
          · omega
          · rw [if_neg w] at y; omega
        · rcases tab with z | z | z | z | z | z | z | z <;> omega
      obtain ⟨cd, dcb, hdt⟩ := ent_cd hE hb1
      have lenK := len_K (rs t) hW.2.2
      have G1 : Go h0 5 (KK l (t :: W)) C B T (opn (t :: W) : Int) (KK (lv t) (t :: W)) C B T (opn (t :: W) : Int) :=
        Go_K hW (by show W.length + 1 < 60; omega) hlv' (Nat.le_refl _) (fun j a c => hnm j (by omega) (by omega) (fun z => by
          have := noR (by omega)
          omega))
      rw [K_top, hdt] at G1
      have eo : ((opn (t :: W) : Nat) : Int) - nob t = (opn W : Int) := by
        show ((isO t + opn W : Nat) : Int) - nob t = _
        rcases tab with z | z | z | z | z | z | z | z <;> omega
      have G2 : Go h0 2 ((1000 + dc t) :: ((if t = 10012 then [12] else []) ++ KK (rs t) W)) C B T (opn (t :: W) : Int) (KK (rs t) W) (em C (dc t) 0) B T (opn W : Int) := by
        by_cases c : t = 10012
        · rw [if_pos c]
          have n1 : nob t = 1 := if_pos c
          rw [n1] at eo
          have a1 := g_does (h0 := h0) (l := [12] ++ KK (rs t) W) (C := C) (B := B) (T := T) (dp := (opn (t :: W) : Int)) (by rw [List.length_append]; simp only [List.length_cons, List.length_nil]; omega) (dc t) (by omega) (by omega)
          have a2 := g_up (h0 := h0) (l := KK (rs t) W) (C := em C (dc t) 0) (B := B) (T := T) (dp := (opn (t :: W) : Int)) (by omega) (by omega)
          rw [eo] at a2
          exact Go_tr a1 a2
        · rw [if_neg c]
          have n1 : nob t = 0 := if_neg c
          rw [n1, Int.sub_zero] at eo
          rw [eo]
          exact Go_le (g_does (h0 := h0) (l := [] ++ KK (rs t) W) (by rw [List.nil_append]; omega) (dc t) (by omega) (by omega)) (by omega)
      have hc' : relC b L m W := by
        unfold relC at hc ⊢
        rcases hc with z | z | z | z | z
        · exact .inl z
        · exact .inr (.inl z)
        · refine .inr (.inr (.inl ⟨z.1, z.2.1, z.2.2.1, ?_⟩))
          have y := z.2.2.2
          rw [ebl] at y
          by_cases w : lv t ≤ 1
          · rw [if_pos w] at y; exact y
          · rw [if_neg w] at y
            rcases tab with x | x | x | x | x | x | x | x <;> omega
        · exact .inr (.inr (.inr (.inl z)))
        · exact .inr (.inr (.inr (.inr z)))
      have hl1 : l0 ≤ rs t := by rcases tab with z | z | z | z | z | z | z | z <;> omega
      have hl2 : rs t ≤ lvW W := Nat.le_trans num.2.1 hW.2.1
      have hl3 : rs t ≤ m := by
        unfold relC at hc
        rcases hc with z | z | z | z | z
        · rcases tab with x | x | x | x | x | x | x | x <;> omega
        · rcases tab with x | x | x | x | x | x | x | x <;> omega
        · have y := z.2.2.2
          rw [ebl] at y
          by_cases w : lv t ≤ 1
          · rcases tab with x | x | x | x | x | x | x | x <;> omega
          · rw [if_neg w] at y
            rcases tab with x | x | x | x | x | x | x | x <;> omega
        · rcases tab with x | x | x | x | x | x | x | x <;> omega
        · rcases tab with x | x | x | x | x | x | x | x <;> omega
      have hcond' : 3 ≤ rs t ∨ bl W = 2 ∨ 4 ≤ b := by
        by_cases w : lv t ≤ 1
        · rw [ebl, if_pos w] at hcond
          rcases hcond with y | y | y
          · omega
          · exact .inr (.inl y)
          · exact .inr (.inr y)
        · left
          rcases tab with x | x | x | x | x | x | x | x <;> omega
      have hTY' : TY (em C (dc t) 0) beg (decide (3 ≤ rs t) :: PT W) := ty_em hTY (tst_pop hE hb1 hlv' noR) (by
        have := PT_len W
        simp only [List.length_cons]; omega)
      obtain ⟨W', l', D', C', q1, q2, q3, q4, q5, q6, q7, q8, q9, q10, q11, q12, q13, q14, q15, q16, q17, q18⟩ := ih (rs t) (xem D t) (em C (dc t) 0) hW.2.2 hl1 hl2 hc' hl3 hcond' (cr_em hCR cd) (by show C.1 + 1 + W.length ≤ 300; omega) hTY' (by
        have : opn (t :: W) = isO t + opn W := rfl
        omega)
      have q9' : C'.1 + W'.length ≤ C.1 + 1 + W.length := q9
      have q10' : C.1 + 1 ≤ C'.1 := q10
      have pP : isPa t = 0 ∧ isBr t = 0 := by rcases tab with x | x | x | x | x | x | x | x <;> omega
      have eP : pcn (t :: W) = pcn W := by show isPa t + pcn W = _; omega
      have eB : bcn (t :: W) = bcn W := by show isBr t + bcn W = _; omega
      refine ⟨W', l', D', C', fun N g hN X => ?_, ?_, q3, q4, q5, q6, q7, q8, ?_, by omega, fun k hk => ?_, q12, by rw [q13, eP], by rw [q14, eB], ?_, ?_, fun z => ?_, fun z => ?_⟩
      · obtain ⟨N, rfl⟩ : ∃ x, N = x + 1 := ⟨N - 1, by omega⟩
        have hD : D.1 < 300 := by rw [hCR.1]; omega
        obtain ⟨g1, e1, X1⟩ := x_rel1 N hr (by omega) num.2.2.2.2.2 ⟨by omega, hbt⟩ hD X
        rw [eo] at X1
        obtain ⟨g2, e2, X2⟩ := q1 N g1 (by have : W.length + 1 < N + 1 := hN; omega) X1
        exact ⟨g2, by rw [e1]; exact e2, X2⟩
      · exact Go_le (Go_tr (Go_tr G1 G2) q2) (by show 5 + 2 + 8 * W.length ≤ 8 * (W.length + 1); omega)
      · show C'.1 + W'.length ≤ C.1 + (W.length + 1); omega
      · rw [q11 k (by show k < C.1 + 1; omega)]
        show ups C.2.1 C.1 (dc t) k = _
        exact if_neg (by omega)
      · have : opn (t :: W) = isO t + opn W := rfl
        omega
      · show W'.length ≤ W.length + 1; omega
      · apply q17
        rcases z with z | z
        · left; rcases tab with x | x | x | x | x | x | x | x <;> omega
        · by_cases w : lv t ≤ 1
          · rw [ebl, if_pos w, eP] at z
            exact .inr z
          · left; rcases tab with x | x | x | x | x | x | x | x <;> omega
      · have p0 := fun z => pc0 hW.2.2 z
        have hn := hW.2.1
        have w : lv t ≤ 1 := by
          rcases z with z | z
          · rcases tab with x | x | x | x | x | x | x | x <;> omega
          · rw [eP] at z
            rcases Nat.lt_or_ge (lvW W) 3 with y | y
            · rcases tab with x | x | x | x | x | x | x | x <;> omega
            · rw [p0 y] at z; omega
        rw [q18 (by rw [eP] at z; exact z)]
        show cmd W = (if t = 10013 ∨ t = 10014 ∨ t = 10015 then 1 else if lv t ≤ 2 then cmd W else 0)
        rw [if_neg (by rcases tab with x | x | x | x | x | x | x | x <;> omega), if_pos (by omega)]
