/-! LEVELS: the same halving on both sides -/
def bis (f : Int → Int) (hv : Int) : Nat → Int → Int → Int
  | 0, a, _ => a
  | n + 1, a, b => if a < b then (if f ((a + b) / 2) < hv then bis f hv n ((a + b) / 2 + 1) b else bis f hv n a ((a + b) / 2)) else a
theorem bis_bd (f : Int → Int) (hv : Int) : ∀ (n : Nat) (a b : Int), a ≤ b → a ≤ bis f hv n a b ∧ bis f hv n a b ≤ b := by
  intro n
  induction n with
  | zero => intro a b h; exact ⟨Int.le_refl _, h⟩
  | succ n ih =>
    intro a b h
    unfold bis
    by_cases c : a < b
    · rw [if_pos c]
      by_cases d : f ((a + b) / 2) < hv
      · rw [if_pos d]; have := ih ((a + b) / 2 + 1) b (by omega); omega
      · rw [if_neg d]; have := ih a ((a + b) / 2) (by omega); omega
    · rw [if_neg c]; omega
theorem bis_congr {f f' : Int → Int} {hv : Int} : ∀ (n : Nat) (a b : Int), (∀ x, a ≤ x → x ≤ b → f x = f' x) → bis f hv n a b = bis f' hv n a b := by
  intro n
  induction n with
  | zero => intro a b h; rfl
  | succ n ih =>
    intro a b h
    unfold bis
    by_cases c : a < b
    · rw [if_pos c, if_pos c, h _ (by omega) (by omega), ih _ _ (fun x h1 h2 => h x (by omega) (by omega)), ih _ _ (fun x h1 h2 => h x (by omega) (by omega))]
    · rw [if_neg c, if_neg c]
theorem bis_ge {f : Int → Int} {hv : Int} : ∀ (n : Nat) (a b : Int), a ≤ b → (b - a).toNat < 2 ^ n → hv ≤ f b → hv ≤ f (bis f hv n a b) := by
  intro n
  induction n with
  | zero => intro a b h h2 h3; rw [Nat.pow_zero] at h2; unfold bis; rw [show a = b by omega]; exact h3
  | succ n ih =>
    intro a b h h2 h3
    rw [Nat.pow_succ] at h2
    generalize 2 ^ n = d at h2 ih
    unfold bis
    by_cases c : a < b
    · rw [if_pos c]
      by_cases e : f ((a + b) / 2) < hv
      · rw [if_pos e]; exact ih _ _ (by omega) (by omega) h3
      · rw [if_neg e]; exact ih _ _ (by omega) (by omega) (by omega)
    · rw [if_neg c, show a = b by omega]; exact h3
theorem settle1_e {g : Mem} {t : Int} (ht : 0 ≤ t ∧ t ≤ 80) (hp : ∀ lv, -2000 ≤ lv → lv ≤ 4000 → 0 ≤ PC g t lv ∧ PC g t lv ≤ 21600) (hv : 0 ≤ g 1 9 ∧ g 1 9 ≤ 7200) (K : Int → Int → Mem → Option Mem) : ∀ (k n i : Nat) (a b : Int), i + k = 13 → -2000 ≤ a → a ≤ b → b ≤ 4000 → (b - a).toNat < 2 ^ k → k < n → fX3_settle_L41 n t a b i g K = K t (bis (PC g t) (g 1 9) k a b) g := by
  intro k
  induction k with
  | zero =>
    intro n i a b hi h1 h2 h3 h4 hn
    obtain ⟨n, rfl⟩ : ∃ m, n = m + 1 := ⟨n - 1, by omega⟩
    rw [Nat.pow_zero] at h4
    unfold fX3_settle_L41
    simp (disch := omega) only [if_true, if_false, if_pos, if_neg, wr_0, wr_id, gd_i, bnd_e, bd_s, bd2_s, jn_e, Int.toNat_natCast]
    unfold bis; rw [show a = b by omega]
  | succ k ih =>
    intro n i a b hi h1 h2 h3 h4 hn
    obtain ⟨n, rfl⟩ : ∃ m, n = m + 1 := ⟨n - 1, by omega⟩
    rw [Nat.pow_succ] at h4
    generalize 2 ^ k = d at h4 ih
    unfold fX3_settle_L41 bis
    by_cases c : a < b
    · have m := hp ((a + b) / 2) (by omega) (by omega)
      rw [fdiv_e (by omega) (by omega), bd_s, pushIn_e ht (by omega), bd_s]
      by_cases e : PC g t ((a + b) / 2) < g 1 9
      · simp (disch := omega) only [if_true, if_false, if_pos, if_neg, wr_0, wr_id, gd_i, bnd_e, bd_s, bd2_s, jn_e, Int.toNat_natCast, ncs]
        rw [ih n (i + 1) _ _ (by omega) (by omega) (by omega) (by omega) (by omega) (by omega)]
      · simp (disch := omega) only [if_true, if_false, if_pos, if_neg, wr_0, wr_id, gd_i, bnd_e, bd_s, bd2_s, jn_e, Int.toNat_natCast, ncs]
        rw [ih n (i + 1) _ _ (by omega) (by omega) (by omega) (by omega) (by omega) (by omega)]
    · simp (disch := omega) only [if_true, if_false, if_pos, if_neg, wr_0, wr_id, gd_i, bnd_e, bd_s, bd2_s, jn_e, Int.toNat_natCast]
      rw [show a = b by omega]
theorem wm_PR (h : Mem) (p q : Int) : PR (wm h p q) = PR h := rfl
theorem wm_HB {h : Mem} (B : HB h) (p q : Int) : HB (wm h p q) := B
theorem level1_e {h : Mem} (B : HB h) {s hv : Int} (hs : -80 ≤ s ∧ s ≤ 80) (hv1 : 0 ≤ hv ∧ hv ≤ 7200) (K : Int → Int → Mem → Option (Int × Mem)) : ∀ (k n : Nat) (a b p q : Int), -2000 ≤ a → a ≤ b → b ≤ 4000 → (b - a).toNat < 2 ^ k → k < n → ∃ p' q', fX12_levelAt_L39 n s hv a b (wm h p q) K = K s (bis (PR h s) hv k a b) (wm h p' q') := by
  intro k
  induction k with
  | zero =>
    intro n a b p q h1 h2 h3 h4 hn
    obtain ⟨n, rfl⟩ : ∃ m, n = m + 1 := ⟨n - 1, by omega⟩
    rw [Nat.pow_zero] at h4
    unfold fX12_levelAt_L39
    simp (disch := omega) only [if_true, if_false, if_pos, if_neg, wr_0, wr_id, gd_i, bnd_e, bd_s, bd2_s, jn_e, Int.toNat_natCast]
    exact ⟨p, q, rfl⟩
  | succ k ih =>
    intro n a b p q h1 h2 h3 h4 hn
    obtain ⟨n, rfl⟩ : ∃ m, n = m + 1 := ⟨n - 1, by omega⟩
    rw [Nat.pow_succ] at h4
    generalize 2 ^ k = d at h4 ih
    unfold fX12_levelAt_L39 bis
    by_cases c : a < b
    · have e1 : wr (b - a) = b - a := wr_id (by omega) (by omega)
      have e2 : a + (b - a).tdiv 2 = (a + b) / 2 := by rw [Int.tdiv_eq_ediv_of_nonneg (by omega)]; omega
      have e3 : wm (wm h p q) (PR (wm h p q) s ((a + b) / 2)) (QR (wm h p q) s ((a + b) / 2)) 0 66 = PR h s ((a + b) / 2) := rfl
      have m := PR_bd B s ((a + b) / 2)
      rw [if_neg (by rw [wr_id (by omega) (by omega), wr_id (by omega) (by omega)]; omega), bnd_e, e1, e2, wets_e (wm_HB B p q) hs (by omega), bd_s, e3, jn_e, if_pos c]
      by_cases e : PR h s ((a + b) / 2) < hv
      · simp (disch := omega) only [if_true, if_false, if_pos, if_neg, wr_0, wr_id, gd_i, bnd_e, bd_s, bd2_s, jn_e, Int.toNat_natCast, wm_wm]
        exact ih n _ _ _ _ (by omega) (by omega) (by omega) (by omega) (by omega)
      · simp (disch := omega) only [if_true, if_false, if_pos, if_neg, wr_0, wr_id, gd_i, bnd_e, bd_s, bd2_s, jn_e, Int.toNat_natCast, wm_wm]
        exact ih n _ _ _ _ (by omega) (by omega) (by omega) (by omega) (by omega)
    · simp (disch := omega) only [if_true, if_false, if_pos, if_neg, wr_0, wr_id, gd_i, bnd_e, bd_s, bd2_s, jn_e, Int.toNat_natCast]
      exact ⟨p, q, rfl⟩
def LV (h : Mem) (s : Int) : Int := bis (PR h s) (HV h) 13 (-2000) 4000
theorem LV_bd (h : Mem) (s : Int) : -2000 ≤ LV h s ∧ LV h s ≤ 4000 := bis_bd _ _ _ _ _ (by omega)
theorem LV_neg (h : Mem) (t : Int) : LV h (-t) = LV h t := by
  unfold LV; rw [show PR h (-t) = PR h t from funext fun x => PR_neg h t x]
def Fl (h : Mem) (s : Int) : Prop := ¬ HV h = 0 ∧ HV h ≤ PR h s 4000
theorem level_no {h : Mem} (B : HB h) (C : CB h) {s : Int} (hs : -80 ≤ s ∧ s ≤ 80) (hf : ¬ Fl h s) : ∃ h', fX12_levelAt s h = some (-2147483648, h') ∧ (h' = h ∨ ∃ p q, h' = wm h p q) := by
  have b := HV_bd C
  have m := PR_bd B s 4000
  unfold fX12_levelAt
  rw [heavy_e C, bd_s]
  by_cases c : HV h = 0
  · simp (disch := omega) only [if_true, if_false, if_pos, if_neg, wr_0, wr_id, gd_i, bnd_e, bd_s, bd2_s, jn_e, Int.toNat_natCast]
    exact ⟨_, rfl, .inl rfl⟩
  · have : ¬ HV h ≤ PR h s 4000 := fun z => hf ⟨c, z⟩
    have e3 : wm h (PR h s 4000) (QR h s 4000) 0 66 = PR h s 4000 := rfl
    rw [if_neg (by rw [wr_id (by omega) (by omega)]; omega), wets_e B hs (by omega), bd_s, e3]
    simp (disch := omega) only [if_true, if_false, if_pos, if_neg, wr_0, wr_id, gd_i, bnd_e, bd_s, bd2_s, jn_e, Int.toNat_natCast]
    exact ⟨_, rfl, .inr ⟨_, _, rfl⟩⟩
theorem level_yes {h : Mem} (B : HB h) (C : CB h) {s : Int} (hs : -80 ≤ s ∧ s ≤ 80) (hf : Fl h s) : fX12_levelAt s h = some (LV h s, wm h (PR h s (LV h s)) (QR h s (LV h s))) := by
  have b := HV_bd C
  have m := PR_bd B s 4000
  obtain ⟨f1, f2⟩ := hf
  unfold fX12_levelAt
  have e3 : wm h (PR h s 4000) (QR h s 4000) 0 66 = PR h s 4000 := rfl
  rw [heavy_e C, bd_s, if_neg (by rw [wr_id (by omega) (by omega)]; omega), wets_e B hs (by omega), bd_s, e3, if_pos (by rw [wr_id (by omega) (by omega), wr_id (by omega) (by omega)]; omega)]
  obtain ⟨p, q, hp⟩ := level1_e B hs b (fun (z_17 : Int) (z_18 : Int) (g_19 : Mem) => bd (fX12_wets z_17 z_18 g_19) fun g_22 => some (z_18, g_22)) 13 fuel (-2000) 4000 (PR h s 4000) (QR h s 4000) (by omega) (by omega) (by omega) (by decide) (by rw [fuel_s]; omega)
  have := LV_bd h s
  unfold LV at this
  rw [hp, wets_e (wm_HB B p q) hs (by omega), bd_s, wm_wm]
  rfl
