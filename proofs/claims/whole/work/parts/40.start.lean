/-! THE BEGINNING: the law's entry to its loop -/
def tmS (i : Nat) : Term := Term.string (strs.getD i ("", 0, "")).1 (strs.getD i ("", 0, "")).2.1
def flN : List Cond := flatC (Jvm.Cond.and given_1 narrow_1)
theorem f_arr : Cond.arrayOf (Term.static "ShipSways$Waves" "SINES" "[I") .int ∈ flN := by decide +kernel
theorem f_len : Cond.eq (.length (Term.static "ShipSways$Waves" "SINES" "[I")) (.int (Int32.ofNat 16)) ∈ flN := by decide +kernel
theorem f_sin : ∀ j, j < 16 → Cond.eq (.elem (Term.static "ShipSways$Waves" "SINES" "[I") (.int (Int32.ofNat j))) (.int (Int32.ofInt (sineF j))) ∈ flN := by decide +kernel
theorem f_cs : Cond.eq (.static "java/lang/String" "COMPACT_STRINGS" "Z") (.int 1) ∈ flN := by decide +kernel
theorem f_si : Cond.isRef (.static "jdk/internal/util/Preconditions" "SIOOBE_FORMATTER" "Ljava/util/function/BiFunction;") ∈ flN := by decide +kernel
theorem f_ex : ∀ i, i < 13 → Cond.exactly (tmS i) "java/lang/String" ∈ flN := by decide +kernel
theorem f_co : ∀ i, i < 13 → Cond.eq (.field (tmS i) "java/lang/String" "coder" "B") (.int 0) ∈ flN := by decide +kernel
theorem f_ar : ∀ i, i < 13 → Cond.arrayOf (.field (tmS i) "java/lang/String" "value" "[B") .byte ∈ flN := by decide +kernel
theorem f_le : ∀ i, i < 13 → Cond.eq (.length (.field (tmS i) "java/lang/String" "value" "[B")) (.int (Int32.ofNat (lenJS.getD i 0))) ∈ flN := by decide +kernel
set_option maxRecDepth 100000 in
theorem f_el : ∀ i, i < 13 → ∀ j, j < lenJS.getD i 0 → Cond.eq (.elem (.field (tmS i) "java/lang/String" "value" "[B") (.int (Int32.ofNat j))) (.int ((bytJS.getD i []).getD j 0)) ∈ flN := by decide +kernel
set_option maxRecDepth 100000 in
theorem f_ne : ∀ i, i < 13 → ∀ j, j < 13 → i ≠ j → (Cond.not (Cond.eq (tmS i) (tmS j)) ∈ flN ∨ Cond.not (Cond.eq (tmS j) (tmS i)) ∈ flN) := by decide +kernel
theorem t_lS : Cond.laysStatic "ShipSways$Waves" "SINES" "[I" ∈ lw_tbl := by decide +kernel
theorem t_iS : Cond.initialized "ShipSways$Waves" ∈ lw_tbl := by decide +kernel
theorem t_lC : Cond.laysStatic "java/lang/String" "COMPACT_STRINGS" "Z" ∈ lw_tbl := by decide +kernel
theorem t_iC : Cond.initialized "java/lang/String" ∈ lw_tbl := by decide +kernel
theorem t_lF : Cond.laysStatic "jdk/internal/util/Preconditions" "SIOOBE_FORMATTER" "Ljava/util/function/BiFunction;" ∈ lw_tbl := by decide +kernel
theorem t_iF : Cond.initialized "jdk/internal/util/Preconditions" ∈ lw_tbl := by decide +kernel
theorem t_sr : ∀ i, i < 13 → Cond.stringRef (strs.getD i ("", 0, "")).1 (strs.getD i ("", 0, "")).2.1 (strs.getD i ("", 0, "")).2.2 ∈ lw_tbl := by decide +kernel
theorem t_nest : ∀ q ∈ nests, Cond.methodLinkNest q.1 q.2.1 q.2.2.1 q.2.2.2 ∈ lw_tbl := by decide +kernel
theorem g_sub : ∀ w ∈ lw_g, w ∈ lw_tbl := fun w hw => (List.mem_filter.mp hw).1
theorem arr_of {args : Array Value} {s : State} {ty : FieldType} (h : (Cond.arrayClass ty).before args s = true) (hty : ∀ C, ty ≠ .object C) : ∃ cA : ClassId, ArrOfT s cA ty ∧ va_RA s cA ty := by
  obtain ⟨cA, kA, comp, h1, h2, h3⟩ := Cond.arrayClass_spec (args := args) (first := s) (o := none) (s := s) (idx := []) h
  refine ⟨cA, fun n z => ⟨fun k h => (by cases h), kA, h2, comp, h3⟩, ?_⟩
  cases ty with
  | object C => exact absurd rfl (hty C)
  | _ => exact h1
theorem D_of {args : Array Value} {s : State} (hts : ∀ w ∈ lw_g, w.before args s = true) : ∃ D : va_G, ∀ (k : Nat) (q : vw_C), vwCl[k]? = some q → u_Kn s q.1 q.2.1 q.2.2 (D.1 k) (D.2 k) := by
  obtain ⟨c0, iS0, hKn0⟩ := u_known (C := RX0) (T := TX0) (N := 11) (n := 11) hts inX0 (hts _ q_in_X0)
  obtain ⟨c1, iS1, hKn1⟩ := u_known (C := RX1) (T := TX1) (N := 11) (n := 11) hts inX1 (hts _ q_in_X1)
  obtain ⟨c2, iS2, hKn2⟩ := u_known (C := RX2) (T := TX2) (N := 4) (n := 4) hts inX2 (hts _ q_in_X2)
  obtain ⟨c3, iS3, hKn3⟩ := u_known (C := RX3) (T := TX3) (N := 10) (n := 10) hts inX3 (hts _ q_in_X3)
  obtain ⟨c4, iS4, hKn4⟩ := u_known (C := RX4) (T := TX4) (N := 3) (n := 3) hts inX4 (hts _ q_in_X4)
  obtain ⟨c5, iS5, hKn5⟩ := u_known (C := RX5) (T := TX5) (N := 10) (n := 10) hts inX5 (hts _ q_in_X5)
  obtain ⟨c6, iS6, hKn6⟩ := u_known (C := RX6) (T := TX6) (N := 5) (n := 5) hts inX6 (hts _ q_in_X6)
  obtain ⟨c7, iS7, hKn7⟩ := u_known (C := RX7) (T := TX7) (N := 5) (n := 5) hts inX7 (hts _ q_in_X7)
  obtain ⟨c8, iS8, hKn8⟩ := u_known (C := RX8) (T := TX8) (N := 2) (n := 2) hts inX8 (hts _ q_in_X8)
  obtain ⟨c9, iS9, hKn9⟩ := u_known (C := RX9) (T := TX9) (N := 2) (n := 2) hts inX9 (hts _ q_in_X9)
  obtain ⟨c10, iS10, hKn10⟩ := u_known (C := RX10) (T := TX10) (N := 4) (n := 4) hts inX10 (hts _ q_in_X10)
  obtain ⟨c11, iS11, hKn11⟩ := u_known (C := RX11) (T := TX11) (N := 18) (n := 18) hts inX11 (hts _ q_in_X11)
  obtain ⟨c12, iS12, hKn12⟩ := u_known (C := RX12) (T := TX12) (N := 75) (n := 75) hts inX12 (hts _ q_in_X12)
  refine ⟨((fun k => if k = 0 then c0 else if k = 1 then c1 else if k = 2 then c2 else if k = 3 then c3 else if k = 4 then c4 else if k = 5 then c5 else if k = 6 then c6 else if k = 7 then c7 else if k = 8 then c8 else if k = 9 then c9 else if k = 10 then c10 else if k = 11 then c11 else c12), (fun k => if k = 0 then iS0 else if k = 1 then iS1 else if k = 2 then iS2 else if k = 3 then iS3 else if k = 4 then iS4 else if k = 5 then iS5 else if k = 6 then iS6 else if k = 7 then iS7 else if k = 8 then iS8 else if k = 9 then iS9 else if k = 10 then iS10 else if k = 11 then iS11 else iS12)), ?_⟩
  intro k q hq
  match k, hq with
  | 0, hq => cases hq; exact hKn0
  | 1, hq => cases hq; exact hKn1
  | 2, hq => cases hq; exact hKn2
  | 3, hq => cases hq; exact hKn3
  | 4, hq => cases hq; exact hKn4
  | 5, hq => cases hq; exact hKn5
  | 6, hq => cases hq; exact hKn6
  | 7, hq => cases hq; exact hKn7
  | 8, hq => cases hq; exact hKn8
  | 9, hq => cases hq; exact hKn9
  | 10, hq => cases hq; exact hKn10
  | 11, hq => cases hq; exact hKn11
  | 12, hq => cases hq; exact hKn12
  | k + 13, hq => simp [vwCl] at hq
theorem Sp_of {args : Array Value} {s : State} (hts0 : ∀ w ∈ lw_tbl, w.before args s = true) : ∃ (D : va_G) (cy : Nat → ClassId), Sp D cy s := by
  have hts : ∀ w ∈ lw_g, w.before args s = true := fun w hw => hts0 w (g_sub w hw)
  obtain ⟨D, hD⟩ := D_of hts
  obtain ⟨a0, p0, r0⟩ := arr_of (hts _ q_aI) (fun C z => by cases z)
  obtain ⟨a1, p1, r1⟩ := arr_of (hts _ q_aJ) (fun C z => by cases z)
  obtain ⟨a2, p2, r2⟩ := arr_of (hts _ q_aB) (fun C z => by cases z)
  obtain ⟨a3, p3, r3⟩ := arr_of (hts _ q_aZ) (fun C z => by cases z)
  refine ⟨D, fun k => if k = 0 then a0 else if k = 1 then a1 else if k = 2 then a2 else a3, ⟨hD, ?_⟩, fun q hq => va_Nw.of rfl (hts0 _ (t_nest q hq))⟩
  intro k q hq
  match k, hq with
  | 0, hq => cases hq; exact ⟨p0, r0⟩
  | 1, hq => cases hq; exact ⟨p1, r1⟩
  | 2, hq => cases hq; exact ⟨p2, r2⟩
  | 3, hq => cases hq; exact ⟨p3, r3⟩
  | k + 4, hq => simp [tys4] at hq
set_option maxRecDepth 100000 in
theorem eX_cong {D : va_G} {cy : Nat → ClassId} {ad ad1 b b1 : Nat → Nat} : ∀ j, j < 57 → (∀ i, i < 57 → ad i = ad1 i) → eX (D, cy, ad, b) j (gX0 j) = eX (D, cy, ad1, b1) j (gX0 j)
  | 0, _, h => by
    simp only [eX_0]
    rw [show (gX0 0 12).toNat = 47 from rfl, show (gX0 0 13).toNat = 52 from rfl, h 1 (by decide), h 8 (by decide), h 17 (by decide), h 20 (by decide), h 24 (by decide), h 28 (by decide), h 32 (by decide), h 37 (by decide), h 39 (by decide), h 41 (by decide), h 44 (by decide), h 46 (by decide), h 47 (by decide), h 52 (by decide)]
  | 1, _, h => by simp only [eX_1]; rw [h 2 (by decide), h 3 (by decide), h 4 (by decide), h 5 (by decide), h 6 (by decide), h 7 (by decide)]
  | 2, _, _ => rfl
  | 3, _, _ => rfl
  | 4, _, _ => rfl
  | 5, _, _ => rfl
  | 6, _, _ => rfl
  | 7, _, _ => rfl
  | 8, _, h => by simp only [eX_8]; rw [h 9 (by decide), h 10 (by decide), h 11 (by decide), h 12 (by decide), h 13 (by decide), h 14 (by decide), h 15 (by decide), h 16 (by decide)]
  | 9, _, _ => rfl
  | 10, _, _ => rfl
  | 11, _, _ => rfl
  | 12, _, _ => rfl
  | 13, _, _ => rfl
  | 14, _, _ => rfl
  | 15, _, _ => rfl
  | 16, _, _ => rfl
  | 17, _, h => by simp only [eX_17]; rw [h 18 (by decide), h 19 (by decide)]
  | 18, _, _ => rfl
  | 19, _, _ => rfl
  | 20, _, h => by simp only [eX_20]; rw [h 21 (by decide), h 22 (by decide), h 23 (by decide)]
  | 21, _, _ => rfl
  | 22, _, _ => rfl
  | 23, _, _ => rfl
  | 24, _, h => by simp only [eX_24]; rw [h 25 (by decide), h 26 (by decide), h 27 (by decide)]
  | 25, _, _ => rfl
  | 26, _, _ => rfl
  | 27, _, _ => rfl
  | 28, _, h => by simp only [eX_28]; rw [h 29 (by decide), h 30 (by decide), h 31 (by decide)]
  | 29, _, _ => rfl
  | 30, _, _ => rfl
  | 31, _, _ => rfl
  | 32, _, h => by simp only [eX_32]; rw [h 33 (by decide), h 34 (by decide), h 35 (by decide), h 36 (by decide)]
  | 33, _, _ => rfl
  | 34, _, _ => rfl
  | 35, _, _ => rfl
  | 36, _, _ => rfl
  | 37, _, h => by simp only [eX_37]; rw [h 38 (by decide)]
  | 38, _, _ => rfl
  | 39, _, h => by simp only [eX_39]; rw [h 40 (by decide)]
  | 40, _, _ => rfl
  | 41, _, h => by simp only [eX_41]; rw [h 42 (by decide), h 43 (by decide)]
  | 42, _, _ => rfl
  | 43, _, _ => rfl
  | 44, _, h => by simp only [eX_44]; rw [h 45 (by decide)]
  | 45, _, _ => rfl
  | 46, _, _ => rfl
  | 47, _, h => by simp only [eX_47]; rw [h 48 (by decide), h 49 (by decide), h 50 (by decide), h 51 (by decide)]
  | 48, _, _ => rfl
  | 49, _, _ => rfl
  | 50, _, _ => rfl
  | 51, _, _ => rfl
  | 52, _, h => by simp only [eX_52]; rw [h 53 (by decide), h 54 (by decide), h 55 (by decide), h 56 (by decide)]
  | 53, _, _ => rfl
  | 54, _, _ => rfl
  | 55, _, _ => rfl
  | 56, _, _ => rfl
  | j + 57, h, _ => absurd h (by omega)
set_option maxRecDepth 100000 in
theorem eM_cong {D : va_G} {cy : Nat → ClassId} {ad ad1 b : Nat → Nat} {c : Nat → Int} : ∀ j, j < 50 → eM (D, cy, ad, b) j c = eM (D, cy, ad1, b) j c
  | 0, _ => rfl
  | 1, _ => rfl
  | 2, _ => rfl
  | 3, _ => rfl
  | 4, _ => rfl
  | 5, _ => rfl
  | 6, _ => rfl
  | 7, _ => rfl
  | 8, _ => rfl
  | 9, _ => rfl
  | 10, _ => rfl
  | 11, _ => rfl
  | 12, _ => rfl
  | 13, _ => rfl
  | 14, _ => rfl
  | 15, _ => rfl
  | 16, _ => rfl
  | 17, _ => rfl
  | 18, _ => rfl
  | 19, _ => rfl
  | 20, _ => rfl
  | 21, _ => rfl
  | 22, _ => rfl
  | 23, _ => rfl
  | 24, _ => rfl
  | 25, _ => rfl
  | 26, _ => rfl
  | 27, _ => rfl
  | 28, _ => rfl
  | 29, _ => rfl
  | 30, _ => rfl
  | 31, _ => rfl
  | 32, _ => rfl
  | 33, _ => rfl
  | 34, _ => rfl
  | 35, _ => rfl
  | 36, _ => rfl
  | 37, _ => rfl
  | 38, _ => rfl
  | 39, _ => rfl
  | 40, _ => rfl
  | 41, _ => rfl
  | 42, _ => rfl
  | 43, _ => rfl
  | 44, _ => rfl
  | 45, _ => rfl
  | 46, _ => rfl
  | 47, _ => rfl
  | 48, _ => rfl
  | 49, _ => rfl
  | j + 50, h => absurd h (by omega)
def thA (ad : Nat → Nat) (tS : Nat) (aK aV : Nat → Nat) (k : Nat) : Nat := if k < 57 then ad k else if k < 100 then tS else if k < 200 then aK (k - 100) else aV (k - 200)
theorem wld_0 {D : va_G} {cy : Nat → ClassId} {ad1 ad3 : Nat → Nat} {tS : Nat} {aK aV : Nat → Nat} {E2 : Nat → va_E} (h1 : ∀ j, j < 57 → ad3 j = ad1 j) (h2 : ∀ j, j < 57 → E2 j = spX D cy ad1 j) : pw ad3 107 (EM D cy E2 ad3) = wld (D, cy, thA ad3 tS aK aV, fun k => ad3 (57 + k)) gX0 hM0 := by
  apply List.ext_getElem?
  intro i
  by_cases c1 : i < 57
  · rw [pw_at (by omega), wld_X c1]
    have e1 : EM D cy E2 ad3 i = eX (D, cy, thA ad3 tS aK aV, fun k => ad3 (57 + k)) i (gX0 i) := by
      unfold EM
      rw [if_pos c1, h2 i c1]
      exact eX_cong i c1 (fun j hj => by rw [← h1 j hj]; exact (if_pos hj).symm)
    rw [e1]
    show some (ad3 i, _) = some (thA ad3 tS aK aV i, _)
    rw [show thA ad3 tS aK aV i = ad3 i from if_pos c1]
  · by_cases c2 : i < 107
    · obtain ⟨j, rfl⟩ : ∃ j, i = 57 + j := ⟨i - 57, by omega⟩
      rw [pw_at (by omega), wld_M (by omega)]
      have e1 : EM D cy E2 ad3 (57 + j) = eM (D, cy, thA ad3 tS aK aV, fun k => ad3 (57 + k)) j (hM0 j) := by
        unfold EM
        rw [if_neg c1, Nat.add_sub_cancel_left]
        exact eM_cong j (by omega)
      rw [e1]
    · rw [List.getElem?_eq_none (by rw [pw_len]; omega), List.getElem?_eq_none (by rw [wld_len]; omega)]
theorem adr_0 {D : va_G} {cy : Nat → ClassId} {ad3 : Nat → Nat} {tS : Nat} {aK aV : Nat → Nat} {k : Nat} (hk : k < 107) : adr (D, cy, thA ad3 tS aK aV, fun k => ad3 (57 + k)) k = ad3 k := by
  unfold adr
  by_cases c : k < 57
  · rw [if_pos c]; exact if_pos c
  · rw [if_neg c]; show ad3 (57 + (k - 57)) = _; rw [show 57 + (k - 57) = k by omega]
theorem Sx_of {s : State} {b : Nat} {D : va_G} {cy : Nat → ClassId} (hts : ∀ w ∈ lw_tbl, w.before #[Value.ref b] s = true) (hgv : (Jvm.Cond.and given_1 narrow_1).before #[Value.ref b] s = true) (hSp : Sp D cy s) : ∃ (tS : Nat) (aK aV : Nat → Nat), ∀ ad3 : Nat → Nat, (∀ i j, i < 107 → j < 107 → ad3 i = ad3 j → i = j) → (∀ k, k < 107 → s.heap.size ≤ ad3 k) → Sx (D, cy, thA ad3 tS aK aV, fun k => ad3 (57 + k)) s.heap.size s := by
  have hs : ∀ c ∈ flN, c.before #[Value.ref b] s = true := flat_of_before _ hgv
  have hA0 : ∀ a : Nat, a < s.heap.size → ¬ (fun q : Nat => s.heap.size ≤ q) a := fun a ha => Nat.not_le.mpr ha
  obtain ⟨tS, et, hT⟩ := va_Tof (N := 16) (f := fun j => vi (sineF j)) (A := fun q : Nat => s.heap.size ≤ q) (by decide) (hs _ f_arr) (va_eqt (hs _ f_len)) (fun j hj => va_eqt (hs _ (f_sin j hj))) hA0
  have hZ := va_Zref (hts _ t_lS) (hts _ t_iS) et hA0
  have hZc := va_Zof (hts _ t_lC) (hts _ t_iC) (va_eqi (hs _ f_cs)) hA0
  have hZf := va_Zqof (hts _ t_lF) (hts _ t_iF) (hs _ f_si) hA0
  obtain ⟨aK, aV, hStr, hev⟩ := vk_Sof (N := 13) (tm := tmS) (len := lenJS) (byt := bytJS) (A := fun q : Nat => s.heap.size ≤ q) (by decide +kernel) (fun i hi => hs _ (f_ex i hi)) (fun i hi => hs _ (f_co i hi)) (fun i hi => hs _ (f_ar i hi)) (fun i hi => hs _ (f_le i hi)) (fun i hi j hj => hs _ (f_el i hi j hj)) (fun i j hi hj hij => (f_ne i hi j hj hij).imp (fun z => hs _ z) (fun z => hs _ z)) hA0
  refine ⟨tS, aK, aV, fun ad3 hinj hge => ?_⟩
  have nar : ∀ q, AA (D, cy, thA ad3 tS aK aV, fun k => ad3 (57 + k)) s.heap.size q → (fun q : Nat => s.heap.size ≤ q) q := by
    intro q hq
    rcases hq with ⟨k, hk, e⟩ | z
    · rw [adr_0 hk] at e
      show s.heap.size ≤ q
      rw [e]; exact hge k hk
    · exact z
  have e57 : thA ad3 tS aK aV 57 = tS := rfl
  have eK : ∀ i, i < 13 → thA ad3 tS aK aV (100 + i) = aK i := fun i hi => by
    unfold thA; rw [if_neg (by omega), if_neg (by omega), if_pos (by omega), Nat.add_sub_cancel_left]
  have eV : ∀ i, i < 13 → thA ad3 tS aK aV (200 + i) = aV i := fun i hi => by
    unfold thA; rw [if_neg (by omega), if_neg (by omega), if_neg (by omega), Nat.add_sub_cancel_left]
  refine ⟨hSp.1, fun i j hi hj e => ?_, hSp.2, ⟨?_, ?_⟩, ⟨hZc.narrow nar, ⟨fun i hi => ?_, fun i j hi hj e => ?_⟩, fun i q hq => ?_⟩, ?_⟩
  · rw [adr_0 hi, adr_0 hj] at e
    exact hinj i j hi hj e
  · show va_Z _ _ _ (.ref (thA ad3 tS aK aV 57)) _ _ _
    rw [e57]; exact hZ.narrow nar
  · show va_T _ (thA ad3 tS aK aV 57) _ _ _ _ _
    rw [e57]; exact hT.narrow nar
  · have z := (hStr.narrow nar).1 i hi
    show va_O _ (thA ad3 tS aK aV (100 + i)) _ _ _ ∧ va_OF _ _ _ _ (thA ad3 tS aK aV (100 + i)) _ _ _ ∧ va_OF _ _ _ (.ref (thA ad3 tS aK aV (200 + i))) (thA ad3 tS aK aV (100 + i)) _ _ _ ∧ va_T _ (thA ad3 tS aK aV (200 + i)) _ _ _ _ _
    rw [eK i hi, eV i hi]; exact z
  · have e' : thA ad3 tS aK aV (100 + i) = thA ad3 tS aK aV (100 + j) := e
    rw [eK i hi, eK j hj] at e'
    exact hStr.2 i j hi hj e'
  · have hi : i < 13 := (List.getElem?_eq_some_iff.mp hq).1
    have eq1 : strs.getD i ("", 0, "") = q := by rw [List.getD_eq_getElem?_getD, hq]; rfl
    show vk_R q.1 q.2.1 q.2.2 (thA ad3 tS aK aV (100 + i)) s
    rw [eK i hi, ← eq1]
    exact vk_R.of (hts _ (t_sr i hi)) (hev i hi)
  · rcases hZf with z | ⟨t, z⟩
    · exact ⟨.null, .inl rfl, z.narrow nar⟩
    · exact ⟨.ref t, .inr ⟨t, rfl⟩, z.narrow nar⟩
set_option maxRecDepth 100000 in
set_option maxHeartbeats 4000000 in
theorem whole_start {p : Program} {e : Env} {s : State} {m : MethodId} {below : List Frame} {meth : Method} {c : Code} (l : Launch) {b L : Nat} {xs : Nat → Int32} (hL : L ≤ 3072) (C0 : lw_At p s m meth c b L xs) : W p l e room_1 s m #[Value.ref b] below meth c s.heap [] 0 0 (lw_Z below #[Value.ref b] s) (entryFrame m ([Value.ref b] : List Value).toArray 4) := by
  obtain ⟨hx, hb, hr, hml, hown, hts, hX, hbl, hlocks, hgv⟩ := id C0
  obtain ⟨D, cy, hSp⟩ := Sp_of hts
  obtain ⟨tS, aK, aV, hSx⟩ := Sx_of hts hgv hSp
  have hts2 : ∀ w ∈ lw_g, w.before #[Value.ref b] s = true := fun w hw => hts w (g_sub w hw)
  have C : Cn p s m #[Value.ref b] c cL_law 4 RL D cy := ⟨hx, hb, hml, hown, hts2, hSp⟩
  have hM : Hn D (fun q : Nat => s.heap.size ≤ q) s.heap (fun _ => 0) 0 (fun _ => .inr (0, [])) s.heap [] := ⟨fun k q h => by simp [pw] at h, ⟨fun i j p q h => by simp [pw] at h, fun k q h => by simp [pw] at h⟩, va_S.rf, fun _ h => h⟩
  have hl := lv_entry ([.ref b]) (n := 4) (Nat.le_of_ble_eq_true rfl)
  rw [lg_entry_eq]
  generalize (lg_sl ([.ref b]) ++ List.replicate (4 - (lg_sl ([.ref b])).length) Slot.unset).toArray = ls at hl ⊢
  have hl : lv_has ls 4 [(0, .ref b)] := hl
  have go : ∀ (H : Heap) (locs : List Loc), Hn D (fun q : Nat => s.heap.size ≤ q) s.heap (fun _ => 0) 0 (fun _ => .inr (0, [])) H locs → W p l e room_1 s m #[Value.ref b] below meth c H locs 0 0 (lw_Z below #[Value.ref b] s) (F0 m 0 ls []) := by
    intro H locs hM
    refine n_new (ci := 11) (fs := [.null, .null, .null, .null, .null, .null, .null, .null, .null, .null, .null, .null, .null, .null, vi 0, vi 0, vi 0, vi 0]) (C0 := RX11) (Tt := TX11) (N := 18) C hM inX11 tyX11 tyX11_ok q_cl_X11 q_in_X11 q_n_X11 rfl (by decide +kernel) (Nat.le_of_ble_eq_true rfl) (Nat.le_of_ble_eq_true rfl) (kL0 (i := 0) rfl) (fun q0 H hM => ?_)
    refine lv_dup hx hb (kL0 (i := 1) rfl) rfl ?_
    refine n_callL (k := 0) C hM (nX11_init l D cy _ _ ue_self) q_c_X11_init q_mL_9 q_i_X11_init q_n_X11 rfl (by decide +kernel) ⟨by decide, by decide⟩ ⟨(Nat.le_of_ble_eq_true rfl), (Nat.le_of_ble_eq_true rfl)⟩ hl.1 (Nat.le_of_ble_eq_true rfl) (kL0 (i := 2) rfl) (fun ad1 H1 locs1 hag hM1 => ?_)
    have e0 : q0 = ad1 0 := ((hag 0 (by omega)).trans ue_self).symm
    subst e0
    refine lv_astore_n (lv' := [(1, .ref (ad1 0)), (0, .ref b)]) hx hb (kL0 (i := 3) rfl) rfl hl (by decide) rfl (fun ls hl => ?_)
    refine n_new (ci := 12) (fs := [.null, vi 0, .null, .null, vi 0, .null, .null, .null, .null, .null, vi 0, .null, .null, .null, .null, vi 0, .null, .null, vi 0, .null, .null, .null, vi 0, vi 0, vi 0, vi 0, vi 0, .null, .null, .null, .null, .null, .null, .null, .null, .null, .null, .null, .null, .null, .null, vi 0, .null, .null, vi 0, vi 0, .null, .null, vi 0, vi 0, vi 0, vi 0, vi 0, .null, vi 0, vi 0, vi 0, .null, .null, vi 0, .null, .null, .null, .null, .null, .null, vi 0, vl 0, .null, .null, vi 0, .null, .null, vi 0, .null]) (C0 := RX12) (Tt := TX12) (N := 75) C hM1 inX12 tyX12 tyX12_ok q_cl_X12 q_in_X12 q_n_X12 rfl (by decide +kernel) (Nat.le_of_ble_eq_true rfl) (Nat.le_of_ble_eq_true rfl) (kL0 (i := 4) rfl) (fun q1 H2 hM2 => ?_)
    refine lv_dup hx hb (kL0 (i := 5) rfl) rfl ?_
    refine n_callL (k := 57) C hM2 (nX12_init l D cy _ _ ue_self) q_c_X12_init q_mL_12 q_i_X12_init q_n_X12 rfl (by decide +kernel) ⟨by decide, by decide⟩ ⟨(Nat.le_of_ble_eq_true rfl), (Nat.le_of_ble_eq_true rfl)⟩ hl.1 (Nat.le_of_ble_eq_true rfl) (kL0 (i := 6) rfl) (fun ad3 H3 locs3 hag3 hM3 => ?_)
    have e1 : q1 = ad3 57 := ((hag3 57 (by omega)).trans ue_self).symm
    subst e1
    refine lv_astore_n (lv' := [(2, .ref (ad3 57)), (1, .ref (ad1 0)), (0, .ref b)]) hx hb (kL0 (i := 7) rfl) rfl hl (by decide) rfl (fun ls hl => ?_)
    refine x_iconst hx hb (kL0 (i := 8) rfl) ?_
    refine x_istore_n (lv' := [(3, vi 0), (2, .ref (ad3 57)), (1, .ref (ad1 0)), (0, .ref b)]) hx hb (kL0 (i := 9) rfl) rfl hl (by decide) rfl (fun ls hl => ?_)
    have h31 : ∀ j, j < 57 → ad3 j = ad1 j := fun j hj => (hag3 j (by omega)).trans (ue_ne (by omega))
    obtain ⟨hP, hD, hS, hA⟩ := hM3
    have hinj : ∀ i j, i < 107 → j < 107 → ad3 i = ad3 j → i = j := fun i j hi hj e => hD.1 i j _ _ (pw_at hi) (pw_at hj) e
    have hge : ∀ k, k < 107 → s.heap.size ≤ ad3 k := fun k hk => hD.2 k _ (pw_at hk)
    have hSx3 := hSx ad3 hinj hge
    rw [wld_0 (tS := tS) (aK := aK) (aV := aV) h31 (fun j hj => ue_ne (by omega))] at hP
    have Cx3 : Cx p s m #[Value.ref b] meth c cL_law 4 RL ret (D, cy, thA ad3 tS aK aV, fun k => ad3 (57 + k)) := ⟨hx, hb, hml, hown, hts2, hr, hlocks, hSx3⟩
    have hnA : ∀ q, AA (D, cy, thA ad3 tS aK aV, fun k => ad3 (57 + k)) s.heap.size q → s.heap.size ≤ q := by
      intro q hq
      rcases hq with ⟨k, hk, e⟩ | z
      · rw [adr_0 hk] at e; rw [e]; exact hge k hk
      · exact z
    exact law_loop Cx3 hX hbl (fun z => absurd (hnA _ z) (Nat.not_le.mpr hbl)) (fun k hk => by rw [adr_0 hk]; exact hge k hk) hL sims (L + 1) 0 gX0 hM0 H3 locs3 ls (by omega) (by omega) RR0 ⟨hP, hS.1, fun q h1 h2 => hS.2.1 q h1 (Nat.not_le.mpr h1), fun z hz => .inr (hS.2.2 z hz)⟩ (by
      have h10 : ad1 0 = ad3 0 := (h31 0 (by omega)).symm
      rw [h10] at hl
      exact lv_sub hl [3, 2, 1, 0] rfl)
  exact go _ _ hM
