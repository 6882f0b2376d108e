/-! the JDK's own methods of texts, over the 13 constants -/
def strLen (k : Nat) : Int := (lenJS.getD k 0 : Nat)
def strAt (k j : Nat) : Int := ((bytJS.getD k []).getD j 0).toInt
theorem sl_tab : ∀ k, k < 13 → Int32.ofNat (lenJS.getD k 0) = Int32.ofInt (strLen k) ∧ iShr (strLen k) 0 = strLen k := by decide +kernel
theorem sa_tab : ∀ k, k < 13 → ∀ j, j < lenJS.getD k 0 → iC (iAnd (strAt k j) 255) = strAt k j ∧ narrow .char (vi (strAt k j)) = vi (strAt k j) := by decide +kernel
set_option maxRecDepth 100000 in
theorem tJ0_coder (l : Launch) (Θ : Th) (k : Nat) (hS : k < 13) (g h : Mem) : Ct l yJ0_coder_7d493 cJ0_coder_7d493 1 (some .byte) 0 0 Θ [.ref (Θ.2.2.1 (100 + k))] g h g h (some (vi 0)) := by
  refine x_start (by decide) (Nat.le_of_ble_eq_true rfl) ?_
  intro p e s m args below meth c ls C hM hl
  have hl : lv_has ls 1 [(0, .ref (Θ.2.2.1 (100 + k)))] := hl
  obtain ⟨hx, hb, hml, hown, hts, -, -, hSx⟩ := id C
  refine va_gets (v := vi 1) hx hb hSx.2.2.2.2.1.1 hM.2 hown (hts _ q_fJ0_38) (fun _ q => q) (kJ0_coder_7d493 (i := 0) rfl) ?_
  refine x_if_eq (a' := 1) hx hb (by decide) (tgt := 13) (kJ0_coder_7d493 (i := 1) rfl) (by decide) (fun q => absurd q (by decide)) (fun _ => ?_)
  refine lv_aload_n hx hb (kJ0_coder_7d493 (i := 2) rfl) rfl (lv_at hl 0 rfl) ?_
  refine vk_getf (v := vi 0) hx hb (hSx.2.2.2.2.1.2.1.1 k hS).2.1 hM.2 hown (hts _ q_fJ0_15) (fun _ q => q) (kJ0_coder_7d493 (i := 3) rfl) ?_
  refine lv_goto (tgt := 14) hx hb (kJ0_coder_7d493 (i := 4) rfl) (by decide) ?_
  exact x_iret C hM rfl (kJ0_coder_7d493 (i := 6) rfl)
set_option maxRecDepth 100000 in
theorem tJ0_isLatin1 (l : Launch) (Θ : Th) (k : Nat) (hS : k < 13) (g h : Mem) : Ct l yJ0_isLatin1_aae02 cJ0_isLatin1_aae02 1 (some .boolean) 0 0 Θ [.ref (Θ.2.2.1 (100 + k))] g h g h (some (vi 1)) := by
  refine x_start (by decide) (Nat.le_of_ble_eq_true rfl) ?_
  intro p e s m args below meth c ls C hM hl
  have hl : lv_has ls 1 [(0, .ref (Θ.2.2.1 (100 + k)))] := hl
  obtain ⟨hx, hb, hml, hown, hts, -, -, hSx⟩ := id C
  refine va_gets (v := vi 1) hx hb hSx.2.2.2.2.1.1 hM.2 hown (hts _ q_fJ0_38) (fun _ q => q) (kJ0_isLatin1_aae02 (i := 0) rfl) ?_
  refine x_if_eq (a' := 1) hx hb (by decide) (tgt := 17) (kJ0_isLatin1_aae02 (i := 1) rfl) (by decide) (fun q => absurd q (by decide)) (fun _ => ?_)
  refine lv_aload_n hx hb (kJ0_isLatin1_aae02 (i := 2) rfl) rfl (lv_at hl 0 rfl) ?_
  refine vk_getf (v := vi 0) hx hb (hSx.2.2.2.2.1.2.1.1 k hS).2.1 hM.2 hown (hts _ q_fJ0_15) (fun _ q => q) (kJ0_isLatin1_aae02 (i := 3) rfl) ?_
  refine x_if_ne (a' := 0) hx hb (by decide) (tgt := 17) (kJ0_isLatin1_aae02 (i := 4) rfl) (by decide) (fun q => absurd rfl q) (fun _ => ?_)
  refine x_iconst hx hb (kJ0_isLatin1_aae02 (i := 5) rfl) ?_
  refine lv_goto (tgt := 18) hx hb (kJ0_isLatin1_aae02 (i := 6) rfl) (by decide) ?_
  exact x_iret C hM (nar_z (Or.inr rfl)) (kJ0_isLatin1_aae02 (i := 8) rfl)
set_option maxRecDepth 100000 in
theorem tJ0_length (l : Launch) (Θ : Th) (k : Nat) (hS : k < 13) (g h : Mem) : Ct l yJ0_length_8abf5 cJ0_length_8abf5 1 (some .int) 1 20 Θ [.ref (Θ.2.2.1 (100 + k))] g h g h (some (vi (strLen k))) := by
  refine x_start (by decide) (Nat.le_of_ble_eq_true rfl) ?_
  intro p e s m args below meth c ls C hM hl
  have hl : lv_has ls 1 [(0, .ref (Θ.2.2.1 (100 + k)))] := hl
  obtain ⟨hx, hb, hml, hown, hts, -, -, hSx⟩ := id C
  have key : ∀ (H : Heap) (locs : List Loc), Hd Θ s g h H locs → W p l e { frames := 1, cells := 0, slots := 0, locals := 20 } s m args below meth c H locs 0 0 (MQ below (Qx Θ s.heap.size g h (some (vi (strLen k)))) args s 0 0 (AA Θ s.heap.size)) (F0 m 0 ls []) := by
    intro H locs hM
    refine lv_aload_n hx hb (kJ0_length_8abf5 (i := 0) rfl) rfl (lv_at hl 0 rfl) ?_
    refine vk_getf hx hb (hSx.2.2.2.2.1.2.1.1 k hS).2.2.1 hM.2 hown (hts _ q_fJ0_9) (fun _ q => q) (kJ0_length_8abf5 (i := 1) rfl) ?_
    refine va_tlen hx hb (hSx.2.2.2.2.1.2.1.1 k hS).2.2.2 hM.2 (sl_tab k hS).1 (kJ0_length_8abf5 (i := 2) rfl) ?_
    refine lv_aload_n hx hb (kJ0_length_8abf5 (i := 3) rfl) rfl (lv_at hl 0 rfl) ?_
    refine x_callV (n := 0) (As := []) (rest := [vi (strLen k)]) C hM (tJ0_coder l Θ k hS g h) (vk_recv (adK := fun i => Θ.2.2.1 (100 + i)) (i := k) hSx.2.2.2.2.1.2.1 hS hM.2) q_c_J0_coder_7d493 q_mJ0_335 q_i_J0_coder_7d493 q_e_J0_coder_7d493 q_n_J0 (by decide +kernel) ⟨by decide, by decide⟩ rfl hl.1 rfl (Nat.le_of_ble_eq_true rfl) (kJ0_length_8abf5 (i := 4) rfl) (fun H locs hM => ?_)
    refine x_ishr hx hb (kJ0_length_8abf5 (i := 5) rfl) ?_
    rw [(sl_tab k hS).2]
    exact x_iret C hM (nar_i _) (kJ0_length_8abf5 (i := 6) rfl)
  exact key _ _ hM
set_option maxRecDepth 100000 in
theorem tJ3_check (l : Launch) (Θ : Th) (i n : Int) (v : Value) (hv : v = .null ∨ ∃ a, v = .ref a) (h0 : ¬ wr i < 0) (h1 : wr i < wr n) (g h : Mem) : Ct l yJ3_checkIndex_8e157 cJ3_checkIndex_8e157 3 (some .int) 0 0 Θ [vi i, vi n, v] g h g h (some (vi i)) := by
  have hav : (lg_sl [vi i, vi n, v]).length ≤ 3 := by rcases hv with rfl | ⟨a, rfl⟩ <;> exact Nat.le_of_ble_eq_true rfl
  refine x_start (by decide) hav ?_
  intro p e s m args below meth c ls C hM hl
  have hl : lv_has ls 3 [(0, vi i), (1, vi n)] := by
    rcases hv with rfl | ⟨a, rfl⟩ <;> exact lv_sub hl [0, 1] rfl
  obtain ⟨hx, hb, hml, hown, hts, -, -, hSx⟩ := id C
  refine x_iload_n hx hb (kJ3_checkIndex_8e157 (i := 0) rfl) rfl (lv_at hl 0 rfl) ?_
  refine x_if_lt (a' := wr i) hx hb rfl (tgt := 9) (kJ3_checkIndex_8e157 (i := 1) rfl) (by decide) (fun q => absurd q h0) (fun _ => ?_)
  refine x_iload_n hx hb (kJ3_checkIndex_8e157 (i := 2) rfl) rfl (lv_at hl 0 rfl) ?_
  refine x_iload_n hx hb (kJ3_checkIndex_8e157 (i := 3) rfl) rfl (lv_at hl 1 rfl) ?_
  refine x_icmp_lt (a' := wr i) (b' := wr n) hx hb rfl rfl (tgt := 16) (kJ3_checkIndex_8e157 (i := 4) rfl) (by decide) (fun _ => ?_) (fun q => absurd h1 q)
  refine x_iload_n hx hb (kJ3_checkIndex_8e157 (i := 10) rfl) rfl (lv_at hl 0 rfl) ?_
  exact x_iret C hM (nar_i _) (kJ3_checkIndex_8e157 (i := 11) rfl)
set_option maxRecDepth 100000 in
theorem tJ0_check (l : Launch) (Θ : Th) (i n : Int) (h0 : ¬ wr i < 0) (h1 : wr i < wr n) (g h : Mem) : Ct l yJ0_checkIndex_df160 cJ0_checkIndex_df160 2 none 1 22 Θ [vi i, vi n] g h g h none := by
  refine x_start (by decide) (Nat.le_of_ble_eq_true rfl) ?_
  intro p e s m args below meth c ls C hM hl
  have hl : lv_has ls 2 [(0, vi i), (1, vi n)] := hl
  obtain ⟨hx, hb, hml, hown, hts, -, -, hSx⟩ := id C
  obtain ⟨v, hv, hZ⟩ := hSx.2.2.2.2.2
  have key : ∀ (H : Heap) (locs : List Loc), Hd Θ s g h H locs → W p l e { frames := 1, cells := 0, slots := 0, locals := 22 } s m args below meth c H locs 0 0 (MQ below (Qx Θ s.heap.size g h none) args s 0 0 (AA Θ s.heap.size)) (F0 m 0 ls []) := by
    intro H locs hM
    refine x_iload_n hx hb (kJ0_checkIndex_df160 (i := 0) rfl) rfl (lv_at hl 0 rfl) ?_
    refine x_iload_n hx hb (kJ0_checkIndex_df160 (i := 1) rfl) rfl (lv_at hl 1 rfl) ?_
    refine va_gets hx hb hZ hM.2 hown (hts _ q_fJ0_1053) (fun _ q => q) (kJ0_checkIndex_df160 (i := 2) rfl) ?_
    refine x_callS (n := 3) (As := [vi i, vi n, v]) (rest := []) C hM (tJ3_check l Θ i n v hv h0 h1 g h) q_c_J3_checkIndex_8e157 q_mJ0_1059 q_s_J3_checkIndex_8e157 q_n_J3 (by decide +kernel) ⟨by decide, by decide⟩ rfl hl.1 rfl (Nat.le_of_ble_eq_true rfl) (kJ0_checkIndex_df160 (i := 3) rfl) (fun H locs hM => ?_)
    refine lv_pop hx hb (kJ0_checkIndex_df160 (i := 4) rfl) rfl ?_
    exact x_vret C hM (kJ0_checkIndex_df160 (i := 5) rfl)
  exact key _ _ hM
set_option maxRecDepth 100000 in
theorem tJ1_charAt (l : Launch) (Θ : Th) (k : Nat) (hS : k < 13) (i : Int) (hi : 0 ≤ wr i ∧ wr i < strLen k) (g h : Mem) : Ct l yJ1_charAt_3b067 cJ1_charAt_3b067 2 (some .char) 2 43 Θ [.ref (Θ.2.2.1 (200 + k)), vi i] g h g h (some (vi (strAt k (wr i).toNat))) := by
  refine x_start (by decide) (Nat.le_of_ble_eq_true rfl) ?_
  intro p e s m args below meth c ls C hM hl
  have hl : lv_has ls 2 [(0, .ref (Θ.2.2.1 (200 + k))), (1, vi i)] := hl
  obtain ⟨hx, hb, hml, hown, hts, -, -, hSx⟩ := id C
  have hsl : strLen k = ((lenJS.getD k 0 : Nat) : Int) := rfl
  have hln : wr (strLen k) = strLen k := by
    have h9 : ∀ k, k < 13 → wr (strLen k) = strLen k := by decide +kernel
    exact h9 k hS
  have hj : (wr i).toNat < lenJS.getD k 0 := by omega
  have hin : 0 ≤ wr i ∧ wr i < ((lenJS.getD k 0 : Nat) : Int) := hi
  have key : ∀ (H : Heap) (locs : List Loc), Hd Θ s g h H locs → W p l e { frames := 2, cells := 0, slots := 0, locals := 43 } s m args below meth c H locs 0 0 (MQ below (Qx Θ s.heap.size g h (some (vi (strAt k (wr i).toNat)))) args s 0 0 (AA Θ s.heap.size)) (F0 m 0 ls []) := by
    intro H locs hM
    refine x_iload_n hx hb (kJ1_charAt_3b067 (i := 0) rfl) rfl (lv_at hl 1 rfl) ?_
    refine lv_aload_n hx hb (kJ1_charAt_3b067 (i := 1) rfl) rfl (lv_at hl 0 rfl) ?_
    refine va_tlen hx hb (hSx.2.2.2.2.1.2.1.1 k hS).2.2.2 hM.2 (sl_tab k hS).1 (kJ1_charAt_3b067 (i := 2) rfl) ?_
    refine x_callS (n := 2) (As := [vi i, vi (strLen k)]) (rest := []) C hM (tJ0_check l Θ i (strLen k) (by omega) (by rw [hln]; exact hi.2) g h) q_c_J0_checkIndex_df160 q_mJ1_9 q_s_J0_checkIndex_df160 q_n_J0 (by decide +kernel) ⟨by decide, by decide⟩ rfl hl.1 rfl (Nat.le_of_ble_eq_true rfl) (kJ1_charAt_3b067 (i := 3) rfl) (fun H locs hM => ?_)
    refine lv_aload_n hx hb (kJ1_charAt_3b067 (i := 4) rfl) rfl (lv_at hl 0 rfl) ?_
    refine x_iload_n hx hb (kJ1_charAt_3b067 (i := 5) rfl) rfl (lv_at hl 1 rfl) ?_
    refine va_tb (v := vi (strAt k (wr i).toNat)) hx hb (hSx.2.2.2.2.1.2.1.1 k hS).2.2.2 hM.2 (vpin hin) (by rw [clamp]; unfold vi strAt; rw [oi]) (kJ1_charAt_3b067 (i := 6) rfl) ?_
    refine x_sipush hx hb (by decide) (kJ1_charAt_3b067 (i := 7) rfl) ?_
    refine x_iand hx hb (kJ1_charAt_3b067 (i := 8) rfl) ?_
    refine x_i2c hx hb (kJ1_charAt_3b067 (i := 9) rfl) ?_
    rw [(sa_tab k hS _ hj).1]
    exact x_iret C hM (sa_tab k hS _ hj).2 (kJ1_charAt_3b067 (i := 10) rfl)
  exact key _ _ hM
set_option maxRecDepth 100000 in
theorem tJ0_charAt (l : Launch) (Θ : Th) (k : Nat) (hS : k < 13) (i : Int) (hi : 0 ≤ wr i ∧ wr i < strLen k) (g h : Mem) : Ct l yJ0_charAt_5068e cJ0_charAt_5068e 2 (some .char) 3 64 Θ [.ref (Θ.2.2.1 (100 + k)), vi i] g h g h (some (vi (strAt k (wr i).toNat))) := by
  refine x_start (by decide) (Nat.le_of_ble_eq_true rfl) ?_
  intro p e s m args below meth c ls C hM hl
  have hl : lv_has ls 2 [(0, .ref (Θ.2.2.1 (100 + k))), (1, vi i)] := hl
  obtain ⟨hx, hb, hml, hown, hts, -, -, hSx⟩ := id C
  have hsl : strLen k = ((lenJS.getD k 0 : Nat) : Int) := rfl
  have hj : (wr i).toNat < lenJS.getD k 0 := by omega
  have key : ∀ (H : Heap) (locs : List Loc), Hd Θ s g h H locs → W p l e { frames := 3, cells := 0, slots := 0, locals := 64 } s m args below meth c H locs 0 0 (MQ below (Qx Θ s.heap.size g h (some (vi (strAt k (wr i).toNat)))) args s 0 0 (AA Θ s.heap.size)) (F0 m 0 ls []) := by
    intro H locs hM
    refine lv_aload_n hx hb (kJ0_charAt_5068e (i := 0) rfl) rfl (lv_at hl 0 rfl) ?_
    refine x_callV (n := 0) (As := []) (rest := []) C hM (tJ0_isLatin1 l Θ k hS g h) (vk_recv (adK := fun i => Θ.2.2.1 (100 + i)) (i := k) hSx.2.2.2.2.1.2.1 hS hM.2) q_c_J0_isLatin1_aae02 q_mJ0_492 q_i_J0_isLatin1_aae02 q_e_J0_isLatin1_aae02 q_n_J0 (by decide +kernel) ⟨by decide, by decide⟩ rfl hl.1 rfl (Nat.le_of_ble_eq_true rfl) (kJ0_charAt_5068e (i := 1) rfl) (fun H locs hM => ?_)
    refine x_if_eq (a' := 1) hx hb (by decide) (tgt := 16) (kJ0_charAt_5068e (i := 2) rfl) (by decide) (fun q => absurd q (by decide)) (fun _ => ?_)
    refine lv_aload_n hx hb (kJ0_charAt_5068e (i := 3) rfl) rfl (lv_at hl 0 rfl) ?_
    refine vk_getf hx hb (hSx.2.2.2.2.1.2.1.1 k hS).2.2.1 hM.2 hown (hts _ q_fJ0_9) (fun _ q => q) (kJ0_charAt_5068e (i := 4) rfl) ?_
    refine x_iload_n hx hb (kJ0_charAt_5068e (i := 5) rfl) rfl (lv_at hl 1 rfl) ?_
    refine x_callS (n := 2) (As := [.ref (Θ.2.2.1 (200 + k)), vi i]) (rest := []) C hM (tJ1_charAt l Θ k hS i hi g h) q_c_J1_charAt_3b067 q_mJ0_495 q_s_J1_charAt_3b067 q_n_J1 (by decide +kernel) ⟨by decide, by decide⟩ rfl hl.1 rfl (Nat.le_of_ble_eq_true rfl) (kJ0_charAt_5068e (i := 6) rfl) (fun H locs hM => ?_)
    exact x_iret C hM (sa_tab k hS _ hj).2 (kJ0_charAt_5068e (i := 7) rfl)
  exact key _ _ hM
section JDK
variable {p : Program} {l : Launch} {e : Env} {R : Room} {s : State} {m : MethodId} {args : Array Value} {below : List Frame} {meth : Method} {c : Code} {H : Heap} {locs : List Loc} {Q : State → Prop}
variable {cc : ByteArray} {pc nL : Nat} {own : String} {ret : Option FieldType} {Θ : Th} {g h : Mem} {ls : Array Slot} {rest : List Value} {i : Int}
theorem x_strlen {index : Nat} (C : Cx p s m args meth c cc nL own ret Θ) (hM : Hd Θ s g h H locs) (hl : ls.size = nL) (k : Nat) (hS : k < 13) (hR : 1 + 1 ≤ R.frames ∧ 8 + (1 + 11) + 20 ≤ R.locals) (hrm : (rest.map fun v => v.category).sum ≤ 8) (hlk : Cond.methodLink own index yJ0_length_8abf5 ∈ lw_g) (hdg : decode cc pc = .ok (.invokevirtual index, 3)) (kk : ∀ (H1 : Heap) (locs1 : List Loc), Hd Θ s g h H1 locs1 → W p l e R s m args below meth c H1 locs1 0 0 Q (F0 m (pc + 3) ls (vi (strLen k) :: rest))) : W p l e R s m args below meth c H locs 0 0 Q (F0 m pc ls (.ref (Θ.2.2.1 (100 + k)) :: rest)) :=
  x_callV (n := 0) (As := []) (rest := rest) C hM (tJ0_length l Θ k hS g h) (vk_recv (adK := fun i => Θ.2.2.1 (100 + i)) (i := k) C.2.2.2.2.2.2.2.2.2.2.2.1.2.1 hS hM.2) q_c_J0_length_8abf5 hlk q_i_J0_length_8abf5 q_e_J0_length_8abf5 q_n_J0 (by decide +kernel) hR rfl hl rfl hrm hdg kk
theorem x_charAt {index : Nat} (C : Cx p s m args meth c cc nL own ret Θ) (hM : Hd Θ s g h H locs) (hl : ls.size = nL) (k : Nat) (hS : k < 13) (hR : 3 + 1 ≤ R.frames ∧ 8 + (2 + 11) + 64 ≤ R.locals) (hrm : (rest.map fun v => v.category).sum ≤ 8) (hi : 0 ≤ wr i ∧ wr i < strLen k) (hlk : Cond.methodLink own index yJ0_charAt_5068e ∈ lw_g) (hdg : decode cc pc = .ok (.invokevirtual index, 3)) (kk : ∀ (H1 : Heap) (locs1 : List Loc), Hd Θ s g h H1 locs1 → W p l e R s m args below meth c H1 locs1 0 0 Q (F0 m (pc + 3) ls (vi (strAt k (wr i).toNat) :: rest))) : W p l e R s m args below meth c H locs 0 0 Q (F0 m pc ls (vi i :: .ref (Θ.2.2.1 (100 + k)) :: rest)) :=
  x_callV (n := 1) (As := [vi i]) (rest := rest) C hM (tJ0_charAt l Θ k hS i hi g h) (vk_recv (adK := fun i => Θ.2.2.1 (100 + i)) (i := k) C.2.2.2.2.2.2.2.2.2.2.2.1.2.1 hS hM.2) q_c_J0_charAt_5068e hlk q_i_J0_charAt_5068e q_e_J0_charAt_5068e q_n_J0 (by decide +kernel) hR rfl hl rfl hrm hdg kk
theorem x_ldcSw {index : Nat} {tx : String} (C : Cx p s m args meth c cc nL own ret Θ) (k : Nat) (hk : strs[k]? = some (own, index, tx)) (hdg : decode cc pc = .ok (.ldc_w index, 3)) (kk : W p l e R s m args below meth c H locs 0 0 Q (F0 m (pc + 3) ls (.ref (Θ.2.2.1 (100 + k)) :: rest))) : W p l e R s m args below meth c H locs 0 0 Q (F0 m pc ls rest) := by
  obtain ⟨hc1, hc2⟩ := C.2.2.2.2.2.2.2.2.2.2.2.1.2.2 k _ hk
  intro T hT X
  obtain ⟨t, a1, b1⟩ := kk T hT X
  obtain ⟨k0, cf, i0, a0, hk0, hcf, hcp, -, hr, hev⟩ := Cond.stringRef_spec C.2.2.2.1 hc1
  cases hc2.symm.trans hev
  obtain ⟨k1, hk1, he⟩ := X.warmed.alike.2.2 _ _ hk0
  have hr1 : k1.resolved[index]? = some (some (.string (Θ.2.2.1 (100 + k)))) := by
    rcases X.warmed.entry hk0 hk1 index with q | ⟨q, -⟩
    · rw [q]; exact hr
    · rw [hr] at q; cases q
  refine ⟨t, ?_, b1⟩
  have hdg1 : decode c.code (F0 m pc ls rest).pc = .ok (.ldc_w index, 3) := by rw [C.2.1]; exact hdg
  jvm_step X.here [C.1, hdg1, ldc_w.wp_string (e := e) (s := T) (f := F0 m pc ls rest) X.here.top hk1 (by rw [he]; exact hcf) hcp hr1]
  exact a1
end JDK
