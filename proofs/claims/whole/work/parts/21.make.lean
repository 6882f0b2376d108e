def SX0 (cy : Nat → ClassId) (k : Nat) (E : Nat → va_E) : Nat → va_E := fun j => if j = k + 1 then .inl (cy 0, 12, .inl (fun _ => Int32.ofInt 0)) else if j = k + 2 then .inl (cy 0, 6, .inl (fun _ => Int32.ofInt 0)) else if j = k + 3 then .inl (cy 0, 4, .inl (fun _ => Int32.ofInt 0)) else E j
def EX0 (cy : Nat → ClassId) (k : Nat) (E : Nat → va_E) (ad1 : Nat → Nat) : Nat → va_E := fun j => if j = k then .inr (0, [.ref (ad1 (k + 1)), .ref (ad1 (k + 2)), .ref (ad1 (k + 3)), vi 0, vi 0, vi 0, vi 0, vi 0, vi 0, vi 0, vi 0]) else SX0 cy k E j
set_option maxRecDepth 100000 in
set_option maxHeartbeats 4000000 in
theorem nX0_init (l : Launch) (D : va_G) (cy : Nat → ClassId) (k : Nat) (ad : Nat → Nat) (E : Nat → va_E) (hE : E k = .inr (0, [.null, .null, .null, vi 0, vi 0, vi 0, vi 0, vi 0, vi 0, vi 0, vi 0])) : Nt l yX0_init cX0_init 1 3 22 12 D cy k (k + 1) (k + 4) ad E (EX0 cy k E) := by
  refine n_start (by decide) ?_
  intro p e s m args below meth c ls C hnm hr hlk hM hl
  have hx := C.1
  have hb := C.2.1
  have key : ∀ (H : Heap) (locs : List Loc), Hn D (Ap ad (k + 1) s.heap.size) s.heap ad (k + 1) E H locs → W p l e { frames := 1, cells := 3, slots := 22, locals := 12 } s m args below meth c H locs 0 0 (MQ below (QN D ad (k + 1) s.heap.size (k + 4) (EX0 cy k E)) args s 3 22 (Ap ad (k + 1) s.heap.size)) (F0 m 0 ls []) := by
    intro H locs hM
    have hF : ∀ j, j ≠ k → j < k + 1 → E j = SX0 cy k E j := fun j h1 h2 => by unfold SX0; rw [if_neg (by omega), if_neg (by omega), if_neg (by omega)]
    have had : ∀ j, j < k + 1 → ad j = ad j := fun _ _ => rfl
    refine lv_aload_n hx hb (kX0_init (i := 0) rfl) rfl (lv_at hl 0 rfl) ?_
    refine n_obj C hl.1 q_mX0_3 (Nat.le_of_ble_eq_true rfl) (Nat.le_of_ble_eq_true rfl) (kX0_init (i := 1) rfl) ?_
    refine lv_aload_n hx hb (kX0_init (i := 2) rfl) rfl (lv_at hl 0 rfl) ?_
    refine x_bipush hx hb (by decide) (kX0_init (i := 3) rfl) ?_
    refine n_newa (atype := .int) (N' := 12) (t := 0) (ty := .int) (a0 := (12, .inl (fun _ => Int32.ofInt 0))) C hM q_aI rfl rfl (fun _ _ h1 h2 => Option.some.inj (h1.symm.trans h2)) (fun _ => rfl) (by decide) (by decide) (by decide) (Nat.le_of_ble_eq_true rfl) (Nat.le_of_ble_eq_true rfl) (kX0_init (i := 4) rfl) (fun q1 H hM => ?_)
    obtain ⟨hE, hF⟩ := nw_new (by omega) hE hF (by unfold SX0; rw [if_pos (by omega)])
    have had := nw_ad (q := q1) (n := k + 1) (by omega) had
    refine n_putF (ty := tyX0 0) C hnm hM k (had k (by omega)).symm (by omega) hE (C0 := RX0) (Tt := TX0) (N := 11) rfl inX0 tyX0 tyX0_ok nmX0 0 (by decide) q_fX0_11 rfl rfl (by decide +kernel) rfl rfl (Nat.le_of_ble_eq_true rfl) (kX0_init (i := 5) rfl) (fun H locs hM => ?_)
    obtain ⟨hE, hF⟩ := nw_put hF
    refine lv_aload_n hx hb (kX0_init (i := 6) rfl) rfl (lv_at hl 0 rfl) ?_
    refine x_bipush hx hb (by decide) (kX0_init (i := 7) rfl) ?_
    refine n_newa (atype := .int) (N' := 6) (t := 0) (ty := .int) (a0 := (6, .inl (fun _ => Int32.ofInt 0))) C hM q_aI rfl rfl (fun _ _ h1 h2 => Option.some.inj (h1.symm.trans h2)) (fun _ => rfl) (by decide) (by decide) (by decide) (Nat.le_of_ble_eq_true rfl) (Nat.le_of_ble_eq_true rfl) (kX0_init (i := 8) rfl) (fun q2 H hM => ?_)
    obtain ⟨hE, hF⟩ := nw_new (by omega) hE hF (by unfold SX0; rw [if_neg (by omega), if_pos (by omega)])
    have had := nw_ad (q := q2) (n := k + 2) (by omega) had
    refine n_putF (ty := tyX0 1) C hnm hM k (had k (by omega)).symm (by omega) hE (C0 := RX0) (Tt := TX0) (N := 11) rfl inX0 tyX0 tyX0_ok nmX0 1 (by decide) q_fX0_19 rfl rfl (by decide +kernel) rfl rfl (Nat.le_of_ble_eq_true rfl) (kX0_init (i := 9) rfl) (fun H locs hM => ?_)
    obtain ⟨hE, hF⟩ := nw_put hF
    refine lv_aload_n hx hb (kX0_init (i := 10) rfl) rfl (lv_at hl 0 rfl) ?_
    refine x_iconst hx hb (kX0_init (i := 11) rfl) ?_
    refine n_newa (atype := .int) (N' := 4) (t := 0) (ty := .int) (a0 := (4, .inl (fun _ => Int32.ofInt 0))) C hM q_aI rfl rfl (fun _ _ h1 h2 => Option.some.inj (h1.symm.trans h2)) (fun _ => rfl) (by decide) (by decide) (by decide) (Nat.le_of_ble_eq_true rfl) (Nat.le_of_ble_eq_true rfl) (kX0_init (i := 12) rfl) (fun q3 H hM => ?_)
    obtain ⟨hE, hF⟩ := nw_new (by omega) hE hF (by unfold SX0; rw [if_neg (by omega), if_neg (by omega), if_pos (by omega)])
    have had := nw_ad (q := q3) (n := k + 3) (by omega) had
    refine n_putF (ty := tyX0 2) C hnm hM k (had k (by omega)).symm (by omega) hE (C0 := RX0) (Tt := TX0) (N := 11) rfl inX0 tyX0 tyX0_ok nmX0 2 (by decide) q_fX0_22 rfl rfl (by decide +kernel) rfl rfl (Nat.le_of_ble_eq_true rfl) (kX0_init (i := 13) rfl) (fun H locs hM => ?_)
    obtain ⟨hE, hF⟩ := nw_put hF
    refine lv_aload_n hx hb (kX0_init (i := 14) rfl) rfl (lv_at hl 0 rfl) ?_
    refine x_iconst hx hb (kX0_init (i := 15) rfl) ?_
    refine n_put (ty := tyX0 3) C hM k (had k (by omega)).symm (by omega) hE (C0 := RX0) (Tt := TX0) (N := 11) rfl inX0 tyX0 tyX0_ok nmX0 3 (by decide) q_fX0_25 rfl (by decide +kernel) rfl rfl (Nat.le_of_ble_eq_true rfl) (kX0_init (i := 16) rfl) (fun H locs hM => ?_)
    obtain ⟨hE, hF⟩ := nw_put hF
    refine lv_aload_n hx hb (kX0_init (i := 17) rfl) rfl (lv_at hl 0 rfl) ?_
    refine x_iconst hx hb (kX0_init (i := 18) rfl) ?_
    refine n_put (ty := tyX0 4) C hM k (had k (by omega)).symm (by omega) hE (C0 := RX0) (Tt := TX0) (N := 11) rfl inX0 tyX0 tyX0_ok nmX0 4 (by decide) q_fX0_29 rfl (by decide +kernel) rfl rfl (Nat.le_of_ble_eq_true rfl) (kX0_init (i := 19) rfl) (fun H locs hM => ?_)
    obtain ⟨hE, hF⟩ := nw_put hF
    refine lv_aload_n hx hb (kX0_init (i := 20) rfl) rfl (lv_at hl 0 rfl) ?_
    refine x_iconst hx hb (kX0_init (i := 21) rfl) ?_
    refine n_put (ty := tyX0 5) C hM k (had k (by omega)).symm (by omega) hE (C0 := RX0) (Tt := TX0) (N := 11) rfl inX0 tyX0 tyX0_ok nmX0 5 (by decide) q_fX0_32 rfl (by decide +kernel) rfl rfl (Nat.le_of_ble_eq_true rfl) (kX0_init (i := 22) rfl) (fun H locs hM => ?_)
    obtain ⟨hE, hF⟩ := nw_put hF
    refine lv_aload_n hx hb (kX0_init (i := 23) rfl) rfl (lv_at hl 0 rfl) ?_
    refine x_iconst hx hb (kX0_init (i := 24) rfl) ?_
    refine n_put (ty := tyX0 6) C hM k (had k (by omega)).symm (by omega) hE (C0 := RX0) (Tt := TX0) (N := 11) rfl inX0 tyX0 tyX0_ok nmX0 6 (by decide) q_fX0_35 rfl (by decide +kernel) rfl rfl (Nat.le_of_ble_eq_true rfl) (kX0_init (i := 25) rfl) (fun H locs hM => ?_)
    obtain ⟨hE, hF⟩ := nw_put hF
    refine lv_aload_n hx hb (kX0_init (i := 26) rfl) rfl (lv_at hl 0 rfl) ?_
    refine x_iconst hx hb (kX0_init (i := 27) rfl) ?_
    refine n_put (ty := tyX0 7) C hM k (had k (by omega)).symm (by omega) hE (C0 := RX0) (Tt := TX0) (N := 11) rfl inX0 tyX0 tyX0_ok nmX0 7 (by decide) q_fX0_38 rfl (by decide +kernel) rfl rfl (Nat.le_of_ble_eq_true rfl) (kX0_init (i := 28) rfl) (fun H locs hM => ?_)
    obtain ⟨hE, hF⟩ := nw_put hF
    refine lv_aload_n hx hb (kX0_init (i := 29) rfl) rfl (lv_at hl 0 rfl) ?_
    refine x_iconst hx hb (kX0_init (i := 30) rfl) ?_
    refine n_put (ty := tyX0 8) C hM k (had k (by omega)).symm (by omega) hE (C0 := RX0) (Tt := TX0) (N := 11) rfl inX0 tyX0 tyX0_ok nmX0 8 (by decide) q_fX0_41 rfl (by decide +kernel) rfl rfl (Nat.le_of_ble_eq_true rfl) (kX0_init (i := 31) rfl) (fun H locs hM => ?_)
    obtain ⟨hE, hF⟩ := nw_put hF
    refine lv_aload_n hx hb (kX0_init (i := 32) rfl) rfl (lv_at hl 0 rfl) ?_
    refine x_iconst hx hb (kX0_init (i := 33) rfl) ?_
    refine n_put (ty := tyX0 9) C hM k (had k (by omega)).symm (by omega) hE (C0 := RX0) (Tt := TX0) (N := 11) rfl inX0 tyX0 tyX0_ok nmX0 9 (by decide) q_fX0_44 rfl (by decide +kernel) rfl rfl (Nat.le_of_ble_eq_true rfl) (kX0_init (i := 34) rfl) (fun H locs hM => ?_)
    obtain ⟨hE, hF⟩ := nw_put hF
    refine lv_aload_n hx hb (kX0_init (i := 35) rfl) rfl (lv_at hl 0 rfl) ?_
    refine x_iconst hx hb (kX0_init (i := 36) rfl) ?_
    refine n_put (ty := tyX0 10) C hM k (had k (by omega)).symm (by omega) hE (C0 := RX0) (Tt := TX0) (N := 11) rfl inX0 tyX0 tyX0_ok nmX0 10 (by decide) q_fX0_47 rfl (by decide +kernel) (nar_z (Or.inl rfl)) (fit_z (Or.inl rfl)) (Nat.le_of_ble_eq_true rfl) (kX0_init (i := 37) rfl) (fun H locs hM => ?_)
    obtain ⟨hE, hF⟩ := nw_put hF
    refine n_ret C hr hlk hM had (fun j hj => ?_) rfl rfl (kX0_init (i := 38) rfl)
    by_cases h1 : j = k
    · subst h1; rw [hE]; simp [EX0, ue]
    · rw [hF j h1 hj]; simp [EX0, h1]
  exact key _ _ hM
def SX1 (cy : Nat → ClassId) (k : Nat) (E : Nat → va_E) : Nat → va_E := fun j => if j = k + 1 then .inl (cy 0, 12, .inl (fun _ => Int32.ofInt 0)) else if j = k + 2 then .inl (cy 0, 12, .inl (fun _ => Int32.ofInt 0)) else if j = k + 3 then .inl (cy 0, 12, .inl (fun _ => Int32.ofInt 0)) else if j = k + 4 then .inl (cy 0, 12, .inl (fun _ => Int32.ofInt 0)) else if j = k + 5 then .inl (cy 0, 4, .inl (fun _ => Int32.ofInt 0)) else if j = k + 6 then .inl (cy 0, 4, .inl (fun _ => Int32.ofInt 0)) else if j = k + 7 then .inl (cy 0, 4, .inl (fun _ => Int32.ofInt 0)) else if j = k + 8 then .inl (cy 0, 4, .inl (fun _ => Int32.ofInt 0)) else E j
def EX1 (cy : Nat → ClassId) (k : Nat) (E : Nat → va_E) (ad1 : Nat → Nat) : Nat → va_E := fun j => if j = k then .inr (1, [.ref (ad1 (k + 1)), .ref (ad1 (k + 2)), .ref (ad1 (k + 3)), .ref (ad1 (k + 4)), .ref (ad1 (k + 5)), .ref (ad1 (k + 6)), .ref (ad1 (k + 7)), .ref (ad1 (k + 8)), vi 0, vi 0, vi 0]) else SX1 cy k E j
set_option maxRecDepth 100000 in
set_option maxHeartbeats 4000000 in
theorem nX1_init (l : Launch) (D : va_G) (cy : Nat → ClassId) (k : Nat) (ad : Nat → Nat) (E : Nat → va_E) (hE : E k = .inr (1, [.null, .null, .null, .null, .null, .null, .null, .null, vi 0, vi 0, vi 0])) : Nt l yX1_init cX1_init 1 8 64 12 D cy k (k + 1) (k + 9) ad E (EX1 cy k E) := by
  refine n_start (by decide) ?_
  intro p e s m args below meth c ls C hnm hr hlk hM hl
  have hx := C.1
  have hb := C.2.1
  have key : ∀ (H : Heap) (locs : List Loc), Hn D (Ap ad (k + 1) s.heap.size) s.heap ad (k + 1) E H locs → W p l e { frames := 1, cells := 8, slots := 64, locals := 12 } s m args below meth c H locs 0 0 (MQ below (QN D ad (k + 1) s.heap.size (k + 9) (EX1 cy k E)) args s 8 64 (Ap ad (k + 1) s.heap.size)) (F0 m 0 ls []) := by
    intro H locs hM
    have hF : ∀ j, j ≠ k → j < k + 1 → E j = SX1 cy k E j := fun j h1 h2 => by unfold SX1; rw [if_neg (by omega), if_neg (by omega), if_neg (by omega), if_neg (by omega), if_neg (by omega), if_neg (by omega), if_neg (by omega), if_neg (by omega)]
    have had : ∀ j, j < k + 1 → ad j = ad j := fun _ _ => rfl
    refine lv_aload_n hx hb (kX1_init (i := 0) rfl) rfl (lv_at hl 0 rfl) ?_
    refine n_obj C hl.1 q_mX1_3 (Nat.le_of_ble_eq_true rfl) (Nat.le_of_ble_eq_true rfl) (kX1_init (i := 1) rfl) ?_
    refine lv_aload_n hx hb (kX1_init (i := 2) rfl) rfl (lv_at hl 0 rfl) ?_
    refine x_bipush hx hb (by decide) (kX1_init (i := 3) rfl) ?_
    refine n_newa (atype := .int) (N' := 12) (t := 0) (ty := .int) (a0 := (12, .inl (fun _ => Int32.ofInt 0))) C hM q_aI rfl rfl (fun _ _ h1 h2 => Option.some.inj (h1.symm.trans h2)) (fun _ => rfl) (by decide) (by decide) (by decide) (Nat.le_of_ble_eq_true rfl) (Nat.le_of_ble_eq_true rfl) (kX1_init (i := 4) rfl) (fun q1 H hM => ?_)
    obtain ⟨hE, hF⟩ := nw_new (by omega) hE hF (by unfold SX1; rw [if_pos (by omega)])
    have had := nw_ad (q := q1) (n := k + 1) (by omega) had
    refine n_putF (ty := tyX1 0) C hnm hM k (had k (by omega)).symm (by omega) hE (C0 := RX1) (Tt := TX1) (N := 11) rfl inX1 tyX1 tyX1_ok nmX1 0 (by decide) q_fX1_11 rfl rfl (by decide +kernel) rfl rfl (Nat.le_of_ble_eq_true rfl) (kX1_init (i := 5) rfl) (fun H locs hM => ?_)
    obtain ⟨hE, hF⟩ := nw_put hF
    refine lv_aload_n hx hb (kX1_init (i := 6) rfl) rfl (lv_at hl 0 rfl) ?_
    refine x_bipush hx hb (by decide) (kX1_init (i := 7) rfl) ?_
    refine n_newa (atype := .int) (N' := 12) (t := 0) (ty := .int) (a0 := (12, .inl (fun _ => Int32.ofInt 0))) C hM q_aI rfl rfl (fun _ _ h1 h2 => Option.some.inj (h1.symm.trans h2)) (fun _ => rfl) (by decide) (by decide) (by decide) (Nat.le_of_ble_eq_true rfl) (Nat.le_of_ble_eq_true rfl) (kX1_init (i := 8) rfl) (fun q2 H hM => ?_)
    obtain ⟨hE, hF⟩ := nw_new (by omega) hE hF (by unfold SX1; rw [if_neg (by omega), if_pos (by omega)])
    have had := nw_ad (q := q2) (n := k + 2) (by omega) had
    refine n_putF (ty := tyX1 1) C hnm hM k (had k (by omega)).symm (by omega) hE (C0 := RX1) (Tt := TX1) (N := 11) rfl inX1 tyX1 tyX1_ok nmX1 1 (by decide) q_fX1_15 rfl rfl (by decide +kernel) rfl rfl (Nat.le_of_ble_eq_true rfl) (kX1_init (i := 9) rfl) (fun H locs hM => ?_)
    obtain ⟨hE, hF⟩ := nw_put hF
    refine lv_aload_n hx hb (kX1_init (i := 10) rfl) rfl (lv_at hl 0 rfl) ?_
    refine x_bipush hx hb (by decide) (kX1_init (i := 11) rfl) ?_
    refine n_newa (atype := .int) (N' := 12) (t := 0) (ty := .int) (a0 := (12, .inl (fun _ => Int32.ofInt 0))) C hM q_aI rfl rfl (fun _ _ h1 h2 => Option.some.inj (h1.symm.trans h2)) (fun _ => rfl) (by decide) (by decide) (by decide) (Nat.le_of_ble_eq_true rfl) (Nat.le_of_ble_eq_true rfl) (kX1_init (i := 12) rfl) (fun q3 H hM => ?_)
    obtain ⟨hE, hF⟩ := nw_new (by omega) hE hF (by unfold SX1; rw [if_neg (by omega), if_neg (by omega), if_pos (by omega)])
    have had := nw_ad (q := q3) (n := k + 3) (by omega) had
    refine n_putF (ty := tyX1 2) C hnm hM k (had k (by omega)).symm (by omega) hE (C0 := RX1) (Tt := TX1) (N := 11) rfl inX1 tyX1 tyX1_ok nmX1 2 (by decide) q_fX1_18 rfl rfl (by decide +kernel) rfl rfl (Nat.le_of_ble_eq_true rfl) (kX1_init (i := 13) rfl) (fun H locs hM => ?_)
    obtain ⟨hE, hF⟩ := nw_put hF
    refine lv_aload_n hx hb (kX1_init (i := 14) rfl) rfl (lv_at hl 0 rfl) ?_
    refine x_bipush hx hb (by decide) (kX1_init (i := 15) rfl) ?_
    refine n_newa (atype := .int) (N' := 12) (t := 0) (ty := .int) (a0 := (12, .inl (fun _ => Int32.ofInt 0))) C hM q_aI rfl rfl (fun _ _ h1 h2 => Option.some.inj (h1.symm.trans h2)) (fun _ => rfl) (by decide) (by decide) (by decide) (Nat.le_of_ble_eq_true rfl) (Nat.le_of_ble_eq_true rfl) (kX1_init (i := 16) rfl) (fun q4 H hM => ?_)
    obtain ⟨hE, hF⟩ := nw_new (by omega) hE hF (by unfold SX1; rw [if_neg (by omega), if_neg (by omega), if_neg (by omega), if_pos (by omega)])
    have had := nw_ad (q := q4) (n := k + 4) (by omega) had
    refine n_putF (ty := tyX1 3) C hnm hM k (had k (by omega)).symm (by omega) hE (C0 := RX1) (Tt := TX1) (N := 11) rfl inX1 tyX1 tyX1_ok nmX1 3 (by decide) q_fX1_21 rfl rfl (by decide +kernel) rfl rfl (Nat.le_of_ble_eq_true rfl) (kX1_init (i := 17) rfl) (fun H locs hM => ?_)
    obtain ⟨hE, hF⟩ := nw_put hF
    refine lv_aload_n hx hb (kX1_init (i := 18) rfl) rfl (lv_at hl 0 rfl) ?_
    refine x_iconst hx hb (kX1_init (i := 19) rfl) ?_
    refine n_newa (atype := .int) (N' := 4) (t := 0) (ty := .int) (a0 := (4, .inl (fun _ => Int32.ofInt 0))) C hM q_aI rfl rfl (fun _ _ h1 h2 => Option.some.inj (h1.symm.trans h2)) (fun _ => rfl) (by decide) (by decide) (by decide) (Nat.le_of_ble_eq_true rfl) (Nat.le_of_ble_eq_true rfl) (kX1_init (i := 20) rfl) (fun q5 H hM => ?_)
    obtain ⟨hE, hF⟩ := nw_new (by omega) hE hF (by unfold SX1; rw [if_neg (by omega), if_neg (by omega), if_neg (by omega), if_neg (by omega), if_pos (by omega)])
    have had := nw_ad (q := q5) (n := k + 5) (by omega) had
    refine n_putF (ty := tyX1 4) C hnm hM k (had k (by omega)).symm (by omega) hE (C0 := RX1) (Tt := TX1) (N := 11) rfl inX1 tyX1 tyX1_ok nmX1 4 (by decide) q_fX1_24 rfl rfl (by decide +kernel) rfl rfl (Nat.le_of_ble_eq_true rfl) (kX1_init (i := 21) rfl) (fun H locs hM => ?_)
    obtain ⟨hE, hF⟩ := nw_put hF
    refine lv_aload_n hx hb (kX1_init (i := 22) rfl) rfl (lv_at hl 0 rfl) ?_
    refine x_iconst hx hb (kX1_init (i := 23) rfl) ?_
    refine n_newa (atype := .int) (N' := 4) (t := 0) (ty := .int) (a0 := (4, .inl (fun _ => Int32.ofInt 0))) C hM q_aI rfl rfl (fun _ _ h1 h2 => Option.some.inj (h1.symm.trans h2)) (fun _ => rfl) (by decide) (by decide) (by decide) (Nat.le_of_ble_eq_true rfl) (Nat.le_of_ble_eq_true rfl) (kX1_init (i := 24) rfl) (fun q6 H hM => ?_)
    obtain ⟨hE, hF⟩ := nw_new (by omega) hE hF (by unfold SX1; rw [if_neg (by omega), if_neg (by omega), if_neg (by omega), if_neg (by omega), if_neg (by omega), if_pos (by omega)])
    have had := nw_ad (q := q6) (n := k + 6) (by omega) had
    refine n_putF (ty := tyX1 5) C hnm hM k (had k (by omega)).symm (by omega) hE (C0 := RX1) (Tt := TX1) (N := 11) rfl inX1 tyX1 tyX1_ok nmX1 5 (by decide) q_fX1_27 rfl rfl (by decide +kernel) rfl rfl (Nat.le_of_ble_eq_true rfl) (kX1_init (i := 25) rfl) (fun H locs hM => ?_)
    obtain ⟨hE, hF⟩ := nw_put hF
    refine lv_aload_n hx hb (kX1_init (i := 26) rfl) rfl (lv_at hl 0 rfl) ?_
    refine x_iconst hx hb (kX1_init (i := 27) rfl) ?_
    refine n_newa (atype := .int) (N' := 4) (t := 0) (ty := .int) (a0 := (4, .inl (fun _ => Int32.ofInt 0))) C hM q_aI rfl rfl (fun _ _ h1 h2 => Option.some.inj (h1.symm.trans h2)) (fun _ => rfl) (by decide) (by decide) (by decide) (Nat.le_of_ble_eq_true rfl) (Nat.le_of_ble_eq_true rfl) (kX1_init (i := 28) rfl) (fun q7 H hM => ?_)
    obtain ⟨hE, hF⟩ := nw_new (by omega) hE hF (by unfold SX1; rw [if_neg (by omega), if_neg (by omega), if_neg (by omega), if_neg (by omega), if_neg (by omega), if_neg (by omega), if_pos (by omega)])
    have had := nw_ad (q := q7) (n := k + 7) (by omega) had
    refine n_putF (ty := tyX1 6) C hnm hM k (had k (by omega)).symm (by omega) hE (C0 := RX1) (Tt := TX1) (N := 11) rfl inX1 tyX1 tyX1_ok nmX1 6 (by decide) q_fX1_30 rfl rfl (by decide +kernel) rfl rfl (Nat.le_of_ble_eq_true rfl) (kX1_init (i := 29) rfl) (fun H locs hM => ?_)
    obtain ⟨hE, hF⟩ := nw_put hF
    refine lv_aload_n hx hb (kX1_init (i := 30) rfl) rfl (lv_at hl 0 rfl) ?_
    refine x_iconst hx hb (kX1_init (i := 31) rfl) ?_
    refine n_newa (atype := .int) (N' := 4) (t := 0) (ty := .int) (a0 := (4, .inl (fun _ => Int32.ofInt 0))) C hM q_aI rfl rfl (fun _ _ h1 h2 => Option.some.inj (h1.symm.trans h2)) (fun _ => rfl) (by decide) (by decide) (by decide) (Nat.le_of_ble_eq_true rfl) (Nat.le_of_ble_eq_true rfl) (kX1_init (i := 32) rfl) (fun q8 H hM => ?_)
    obtain ⟨hE, hF⟩ := nw_new (by omega) hE hF (by unfold SX1; rw [if_neg (by omega), if_neg (by omega), if_neg (by omega), if_neg (by omega), if_neg (by omega), if_neg (by omega), if_neg (by omega), if_pos (by omega)])
    have had := nw_ad (q := q8) (n := k + 8) (by omega) had
    refine n_putF (ty := tyX1 7) C hnm hM k (had k (by omega)).symm (by omega) hE (C0 := RX1) (Tt := TX1) (N := 11) rfl inX1 tyX1 tyX1_ok nmX1 7 (by decide) q_fX1_33 rfl rfl (by decide +kernel) rfl rfl (Nat.le_of_ble_eq_true rfl) (kX1_init (i := 33) rfl) (fun H locs hM => ?_)
    obtain ⟨hE, hF⟩ := nw_put hF
    refine lv_aload_n hx hb (kX1_init (i := 34) rfl) rfl (lv_at hl 0 rfl) ?_
    refine x_iconst hx hb (kX1_init (i := 35) rfl) ?_
    refine n_put (ty := tyX1 8) C hM k (had k (by omega)).symm (by omega) hE (C0 := RX1) (Tt := TX1) (N := 11) rfl inX1 tyX1 tyX1_ok nmX1 8 (by decide) q_fX1_36 rfl (by decide +kernel) rfl rfl (Nat.le_of_ble_eq_true rfl) (kX1_init (i := 36) rfl) (fun H locs hM => ?_)
    obtain ⟨hE, hF⟩ := nw_put hF
    refine lv_aload_n hx hb (kX1_init (i := 37) rfl) rfl (lv_at hl 0 rfl) ?_
    refine x_iconst hx hb (kX1_init (i := 38) rfl) ?_
    refine n_put (ty := tyX1 9) C hM k (had k (by omega)).symm (by omega) hE (C0 := RX1) (Tt := TX1) (N := 11) rfl inX1 tyX1 tyX1_ok nmX1 9 (by decide) q_fX1_40 rfl (by decide +kernel) rfl rfl (Nat.le_of_ble_eq_true rfl) (kX1_init (i := 39) rfl) (fun H locs hM => ?_)
    obtain ⟨hE, hF⟩ := nw_put hF
    refine lv_aload_n hx hb (kX1_init (i := 40) rfl) rfl (lv_at hl 0 rfl) ?_
    refine x_iconst hx hb (kX1_init (i := 41) rfl) ?_
    refine n_put (ty := tyX1 10) C hM k (had k (by omega)).symm (by omega) hE (C0 := RX1) (Tt := TX1) (N := 11) rfl inX1 tyX1 tyX1_ok nmX1 10 (by decide) q_fX1_43 rfl (by decide +kernel) rfl rfl (Nat.le_of_ble_eq_true rfl) (kX1_init (i := 42) rfl) (fun H locs hM => ?_)
    obtain ⟨hE, hF⟩ := nw_put hF
    refine n_ret C hr hlk hM had (fun j hj => ?_) rfl rfl (kX1_init (i := 43) rfl)
    by_cases h1 : j = k
    · subst h1; rw [hE]; simp [EX1, ue]
    · rw [hF j h1 hj]; simp [EX1, h1]
  exact key _ _ hM
def SX2 (cy : Nat → ClassId) (k : Nat) (E : Nat → va_E) : Nat → va_E := fun j => if j = k + 1 then .inl (cy 0, 600, .inl (fun _ => Int32.ofInt 0)) else if j = k + 2 then .inl (cy 0, 600, .inl (fun _ => Int32.ofInt 0)) else if j = k + 3 then .inl (cy 0, 600, .inl (fun _ => Int32.ofInt 0)) else if j = k + 4 then .inl (cy 0, 600, .inl (fun _ => Int32.ofInt 0)) else E j
def EX2 (cy : Nat → ClassId) (k : Nat) (E : Nat → va_E) (ad1 : Nat → Nat) : Nat → va_E := fun j => if j = k then .inr (2, [.ref (ad1 (k + 1)), .ref (ad1 (k + 2)), .ref (ad1 (k + 3)), .ref (ad1 (k + 4))]) else SX2 cy k E j
set_option maxRecDepth 100000 in
set_option maxHeartbeats 4000000 in
theorem nX2_init (l : Launch) (D : va_G) (cy : Nat → ClassId) (k : Nat) (ad : Nat → Nat) (E : Nat → va_E) (hE : E k = .inr (2, [.null, .null, .null, .null])) : Nt l yX2_init cX2_init 1 4 2400 12 D cy k (k + 1) (k + 5) ad E (EX2 cy k E) := by
  refine n_start (by decide) ?_
  intro p e s m args below meth c ls C hnm hr hlk hM hl
  have hx := C.1
  have hb := C.2.1
  have key : ∀ (H : Heap) (locs : List Loc), Hn D (Ap ad (k + 1) s.heap.size) s.heap ad (k + 1) E H locs → W p l e { frames := 1, cells := 4, slots := 2400, locals := 12 } s m args below meth c H locs 0 0 (MQ below (QN D ad (k + 1) s.heap.size (k + 5) (EX2 cy k E)) args s 4 2400 (Ap ad (k + 1) s.heap.size)) (F0 m 0 ls []) := by
    intro H locs hM
    have hF : ∀ j, j ≠ k → j < k + 1 → E j = SX2 cy k E j := fun j h1 h2 => by unfold SX2; rw [if_neg (by omega), if_neg (by omega), if_neg (by omega), if_neg (by omega)]
    have had : ∀ j, j < k + 1 → ad j = ad j := fun _ _ => rfl
    refine lv_aload_n hx hb (kX2_init (i := 0) rfl) rfl (lv_at hl 0 rfl) ?_
    refine n_obj C hl.1 q_mX2_3 (Nat.le_of_ble_eq_true rfl) (Nat.le_of_ble_eq_true rfl) (kX2_init (i := 1) rfl) ?_
    refine lv_aload_n hx hb (kX2_init (i := 2) rfl) rfl (lv_at hl 0 rfl) ?_
    refine x_sipush hx hb (by decide) (kX2_init (i := 3) rfl) ?_
    refine n_newa (atype := .int) (N' := 600) (t := 0) (ty := .int) (a0 := (600, .inl (fun _ => Int32.ofInt 0))) C hM q_aI rfl rfl (fun _ _ h1 h2 => Option.some.inj (h1.symm.trans h2)) (fun _ => rfl) (by decide) (by decide) (by decide) (Nat.le_of_ble_eq_true rfl) (Nat.le_of_ble_eq_true rfl) (kX2_init (i := 4) rfl) (fun q1 H hM => ?_)
    obtain ⟨hE, hF⟩ := nw_new (by omega) hE hF (by unfold SX2; rw [if_pos (by omega)])
    have had := nw_ad (q := q1) (n := k + 1) (by omega) had
    refine n_putF (ty := tyX2 0) C hnm hM k (had k (by omega)).symm (by omega) hE (C0 := RX2) (Tt := TX2) (N := 4) rfl inX2 tyX2 tyX2_ok nmX2 0 (by decide) q_fX2_9 rfl rfl (by decide +kernel) rfl rfl (Nat.le_of_ble_eq_true rfl) (kX2_init (i := 5) rfl) (fun H locs hM => ?_)
    obtain ⟨hE, hF⟩ := nw_put hF
    refine lv_aload_n hx hb (kX2_init (i := 6) rfl) rfl (lv_at hl 0 rfl) ?_
    refine x_sipush hx hb (by decide) (kX2_init (i := 7) rfl) ?_
    refine n_newa (atype := .int) (N' := 600) (t := 0) (ty := .int) (a0 := (600, .inl (fun _ => Int32.ofInt 0))) C hM q_aI rfl rfl (fun _ _ h1 h2 => Option.some.inj (h1.symm.trans h2)) (fun _ => rfl) (by decide) (by decide) (by decide) (Nat.le_of_ble_eq_true rfl) (Nat.le_of_ble_eq_true rfl) (kX2_init (i := 8) rfl) (fun q2 H hM => ?_)
    obtain ⟨hE, hF⟩ := nw_new (by omega) hE hF (by unfold SX2; rw [if_neg (by omega), if_pos (by omega)])
    have had := nw_ad (q := q2) (n := k + 2) (by omega) had
    refine n_putF (ty := tyX2 1) C hnm hM k (had k (by omega)).symm (by omega) hE (C0 := RX2) (Tt := TX2) (N := 4) rfl inX2 tyX2 tyX2_ok nmX2 1 (by decide) q_fX2_15 rfl rfl (by decide +kernel) rfl rfl (Nat.le_of_ble_eq_true rfl) (kX2_init (i := 9) rfl) (fun H locs hM => ?_)
    obtain ⟨hE, hF⟩ := nw_put hF
    refine lv_aload_n hx hb (kX2_init (i := 10) rfl) rfl (lv_at hl 0 rfl) ?_
    refine x_sipush hx hb (by decide) (kX2_init (i := 11) rfl) ?_
    refine n_newa (atype := .int) (N' := 600) (t := 0) (ty := .int) (a0 := (600, .inl (fun _ => Int32.ofInt 0))) C hM q_aI rfl rfl (fun _ _ h1 h2 => Option.some.inj (h1.symm.trans h2)) (fun _ => rfl) (by decide) (by decide) (by decide) (Nat.le_of_ble_eq_true rfl) (Nat.le_of_ble_eq_true rfl) (kX2_init (i := 12) rfl) (fun q3 H hM => ?_)
    obtain ⟨hE, hF⟩ := nw_new (by omega) hE hF (by unfold SX2; rw [if_neg (by omega), if_neg (by omega), if_pos (by omega)])
    have had := nw_ad (q := q3) (n := k + 3) (by omega) had
    refine n_putF (ty := tyX2 2) C hnm hM k (had k (by omega)).symm (by omega) hE (C0 := RX2) (Tt := TX2) (N := 4) rfl inX2 tyX2 tyX2_ok nmX2 2 (by decide) q_fX2_18 rfl rfl (by decide +kernel) rfl rfl (Nat.le_of_ble_eq_true rfl) (kX2_init (i := 13) rfl) (fun H locs hM => ?_)
    obtain ⟨hE, hF⟩ := nw_put hF
    refine lv_aload_n hx hb (kX2_init (i := 14) rfl) rfl (lv_at hl 0 rfl) ?_
    refine x_sipush hx hb (by decide) (kX2_init (i := 15) rfl) ?_
    refine n_newa (atype := .int) (N' := 600) (t := 0) (ty := .int) (a0 := (600, .inl (fun _ => Int32.ofInt 0))) C hM q_aI rfl rfl (fun _ _ h1 h2 => Option.some.inj (h1.symm.trans h2)) (fun _ => rfl) (by decide) (by decide) (by decide) (Nat.le_of_ble_eq_true rfl) (Nat.le_of_ble_eq_true rfl) (kX2_init (i := 16) rfl) (fun q4 H hM => ?_)
    obtain ⟨hE, hF⟩ := nw_new (by omega) hE hF (by unfold SX2; rw [if_neg (by omega), if_neg (by omega), if_neg (by omega), if_pos (by omega)])
    have had := nw_ad (q := q4) (n := k + 4) (by omega) had
    refine n_putF (ty := tyX2 3) C hnm hM k (had k (by omega)).symm (by omega) hE (C0 := RX2) (Tt := TX2) (N := 4) rfl inX2 tyX2 tyX2_ok nmX2 3 (by decide) q_fX2_21 rfl rfl (by decide +kernel) rfl rfl (Nat.le_of_ble_eq_true rfl) (kX2_init (i := 17) rfl) (fun H locs hM => ?_)
    obtain ⟨hE, hF⟩ := nw_put hF
    refine n_ret C hr hlk hM had (fun j hj => ?_) rfl rfl (kX2_init (i := 18) rfl)
    by_cases h1 : j = k
    · subst h1; rw [hE]; simp [EX2, ue]
    · rw [hF j h1 hj]; simp [EX2, h1]
  exact key _ _ hM
def SX3 (cy : Nat → ClassId) (k : Nat) (E : Nat → va_E) : Nat → va_E := fun j => if j = k + 1 then .inl (cy 0, 190, .inl (fun _ => Int32.ofInt 0)) else if j = k + 2 then .inl (cy 0, 190, .inl (fun _ => Int32.ofInt 0)) else if j = k + 3 then .inl (cy 0, 81, .inl (fun _ => Int32.ofInt 0)) else if j = k + 4 then .inl (cy 0, 81, .inl (fun _ => Int32.ofInt 0)) else if j = k + 5 then .inl (cy 0, 81, .inl (fun _ => Int32.ofInt 0)) else if j = k + 6 then .inl (cy 0, 81, .inl (fun _ => Int32.ofInt 0)) else E j
def EX3 (cy : Nat → ClassId) (k : Nat) (E : Nat → va_E) (ad1 : Nat → Nat) : Nat → va_E := fun j => if j = k then .inr (3, [.ref (ad1 (k + 1)), .ref (ad1 (k + 2)), .ref (ad1 (k + 3)), .ref (ad1 (k + 4)), .ref (ad1 (k + 5)), .ref (ad1 (k + 6)), vi 1, vi 0, vi 0, vi 0]) else SX3 cy k E j
set_option maxRecDepth 100000 in
set_option maxHeartbeats 4000000 in
theorem nX3_init (l : Launch) (D : va_G) (cy : Nat → ClassId) (k : Nat) (ad : Nat → Nat) (E : Nat → va_E) (hE : E k = .inr (3, [.null, .null, .null, .null, .null, .null, vi 0, vi 0, vi 0, vi 0])) : Nt l yX3_init cX3_init 1 6 704 12 D cy k (k + 1) (k + 7) ad E (EX3 cy k E) := by
  refine n_start (by decide) ?_
  intro p e s m args below meth c ls C hnm hr hlk hM hl
  have hx := C.1
  have hb := C.2.1
  have key : ∀ (H : Heap) (locs : List Loc), Hn D (Ap ad (k + 1) s.heap.size) s.heap ad (k + 1) E H locs → W p l e { frames := 1, cells := 6, slots := 704, locals := 12 } s m args below meth c H locs 0 0 (MQ below (QN D ad (k + 1) s.heap.size (k + 7) (EX3 cy k E)) args s 6 704 (Ap ad (k + 1) s.heap.size)) (F0 m 0 ls []) := by
    intro H locs hM
    have hF : ∀ j, j ≠ k → j < k + 1 → E j = SX3 cy k E j := fun j h1 h2 => by unfold SX3; rw [if_neg (by omega), if_neg (by omega), if_neg (by omega), if_neg (by omega), if_neg (by omega), if_neg (by omega)]
    have had : ∀ j, j < k + 1 → ad j = ad j := fun _ _ => rfl
    refine lv_aload_n hx hb (kX3_init (i := 0) rfl) rfl (lv_at hl 0 rfl) ?_
    refine n_obj C hl.1 q_mX3_3 (Nat.le_of_ble_eq_true rfl) (Nat.le_of_ble_eq_true rfl) (kX3_init (i := 1) rfl) ?_
    refine lv_aload_n hx hb (kX3_init (i := 2) rfl) rfl (lv_at hl 0 rfl) ?_
    refine x_sipush hx hb (by decide) (kX3_init (i := 3) rfl) ?_
    refine n_newa (atype := .int) (N' := 190) (t := 0) (ty := .int) (a0 := (190, .inl (fun _ => Int32.ofInt 0))) C hM q_aI rfl rfl (fun _ _ h1 h2 => Option.some.inj (h1.symm.trans h2)) (fun _ => rfl) (by decide) (by decide) (by decide) (Nat.le_of_ble_eq_true rfl) (Nat.le_of_ble_eq_true rfl) (kX3_init (i := 4) rfl) (fun q1 H hM => ?_)
    obtain ⟨hE, hF⟩ := nw_new (by omega) hE hF (by unfold SX3; rw [if_pos (by omega)])
    have had := nw_ad (q := q1) (n := k + 1) (by omega) had
    refine n_putF (ty := tyX3 0) C hnm hM k (had k (by omega)).symm (by omega) hE (C0 := RX3) (Tt := TX3) (N := 10) rfl inX3 tyX3 tyX3_ok nmX3 0 (by decide) q_fX3_11 rfl rfl (by decide +kernel) rfl rfl (Nat.le_of_ble_eq_true rfl) (kX3_init (i := 5) rfl) (fun H locs hM => ?_)
    obtain ⟨hE, hF⟩ := nw_put hF
    refine lv_aload_n hx hb (kX3_init (i := 6) rfl) rfl (lv_at hl 0 rfl) ?_
    refine x_sipush hx hb (by decide) (kX3_init (i := 7) rfl) ?_
    refine n_newa (atype := .int) (N' := 190) (t := 0) (ty := .int) (a0 := (190, .inl (fun _ => Int32.ofInt 0))) C hM q_aI rfl rfl (fun _ _ h1 h2 => Option.some.inj (h1.symm.trans h2)) (fun _ => rfl) (by decide) (by decide) (by decide) (Nat.le_of_ble_eq_true rfl) (Nat.le_of_ble_eq_true rfl) (kX3_init (i := 8) rfl) (fun q2 H hM => ?_)
    obtain ⟨hE, hF⟩ := nw_new (by omega) hE hF (by unfold SX3; rw [if_neg (by omega), if_pos (by omega)])
    have had := nw_ad (q := q2) (n := k + 2) (by omega) had
    refine n_putF (ty := tyX3 1) C hnm hM k (had k (by omega)).symm (by omega) hE (C0 := RX3) (Tt := TX3) (N := 10) rfl inX3 tyX3 tyX3_ok nmX3 1 (by decide) q_fX3_15 rfl rfl (by decide +kernel) rfl rfl (Nat.le_of_ble_eq_true rfl) (kX3_init (i := 9) rfl) (fun H locs hM => ?_)
    obtain ⟨hE, hF⟩ := nw_put hF
    refine lv_aload_n hx hb (kX3_init (i := 10) rfl) rfl (lv_at hl 0 rfl) ?_
    refine x_bipush hx hb (by decide) (kX3_init (i := 11) rfl) ?_
    refine n_newa (atype := .int) (N' := 81) (t := 0) (ty := .int) (a0 := (81, .inl (fun _ => Int32.ofInt 0))) C hM q_aI rfl rfl (fun _ _ h1 h2 => Option.some.inj (h1.symm.trans h2)) (fun _ => rfl) (by decide) (by decide) (by decide) (Nat.le_of_ble_eq_true rfl) (Nat.le_of_ble_eq_true rfl) (kX3_init (i := 12) rfl) (fun q3 H hM => ?_)
    obtain ⟨hE, hF⟩ := nw_new (by omega) hE hF (by unfold SX3; rw [if_neg (by omega), if_neg (by omega), if_pos (by omega)])
    have had := nw_ad (q := q3) (n := k + 3) (by omega) had
    refine n_putF (ty := tyX3 2) C hnm hM k (had k (by omega)).symm (by omega) hE (C0 := RX3) (Tt := TX3) (N := 10) rfl inX3 tyX3 tyX3_ok nmX3 2 (by decide) q_fX3_18 rfl rfl (by decide +kernel) rfl rfl (Nat.le_of_ble_eq_true rfl) (kX3_init (i := 13) rfl) (fun H locs hM => ?_)
    obtain ⟨hE, hF⟩ := nw_put hF
    refine lv_aload_n hx hb (kX3_init (i := 14) rfl) rfl (lv_at hl 0 rfl) ?_
    refine x_bipush hx hb (by decide) (kX3_init (i := 15) rfl) ?_
    refine n_newa (atype := .int) (N' := 81) (t := 0) (ty := .int) (a0 := (81, .inl (fun _ => Int32.ofInt 0))) C hM q_aI rfl rfl (fun _ _ h1 h2 => Option.some.inj (h1.symm.trans h2)) (fun _ => rfl) (by decide) (by decide) (by decide) (Nat.le_of_ble_eq_true rfl) (Nat.le_of_ble_eq_true rfl) (kX3_init (i := 16) rfl) (fun q4 H hM => ?_)
    obtain ⟨hE, hF⟩ := nw_new (by omega) hE hF (by unfold SX3; rw [if_neg (by omega), if_neg (by omega), if_neg (by omega), if_pos (by omega)])
    have had := nw_ad (q := q4) (n := k + 4) (by omega) had
    refine n_putF (ty := tyX3 3) C hnm hM k (had k (by omega)).symm (by omega) hE (C0 := RX3) (Tt := TX3) (N := 10) rfl inX3 tyX3 tyX3_ok nmX3 3 (by decide) q_fX3_21 rfl rfl (by decide +kernel) rfl rfl (Nat.le_of_ble_eq_true rfl) (kX3_init (i := 17) rfl) (fun H locs hM => ?_)
    obtain ⟨hE, hF⟩ := nw_put hF
    refine lv_aload_n hx hb (kX3_init (i := 18) rfl) rfl (lv_at hl 0 rfl) ?_
    refine x_bipush hx hb (by decide) (kX3_init (i := 19) rfl) ?_
    refine n_newa (atype := .int) (N' := 81) (t := 0) (ty := .int) (a0 := (81, .inl (fun _ => Int32.ofInt 0))) C hM q_aI rfl rfl (fun _ _ h1 h2 => Option.some.inj (h1.symm.trans h2)) (fun _ => rfl) (by decide) (by decide) (by decide) (Nat.le_of_ble_eq_true rfl) (Nat.le_of_ble_eq_true rfl) (kX3_init (i := 20) rfl) (fun q5 H hM => ?_)
    obtain ⟨hE, hF⟩ := nw_new (by omega) hE hF (by unfold SX3; rw [if_neg (by omega), if_neg (by omega), if_neg (by omega), if_neg (by omega), if_pos (by omega)])
    have had := nw_ad (q := q5) (n := k + 5) (by omega) had
    refine n_putF (ty := tyX3 4) C hnm hM k (had k (by omega)).symm (by omega) hE (C0 := RX3) (Tt := TX3) (N := 10) rfl inX3 tyX3 tyX3_ok nmX3 4 (by decide) q_fX3_24 rfl rfl (by decide +kernel) rfl rfl (Nat.le_of_ble_eq_true rfl) (kX3_init (i := 21) rfl) (fun H locs hM => ?_)
    obtain ⟨hE, hF⟩ := nw_put hF
    refine lv_aload_n hx hb (kX3_init (i := 22) rfl) rfl (lv_at hl 0 rfl) ?_
    refine x_bipush hx hb (by decide) (kX3_init (i := 23) rfl) ?_
    refine n_newa (atype := .int) (N' := 81) (t := 0) (ty := .int) (a0 := (81, .inl (fun _ => Int32.ofInt 0))) C hM q_aI rfl rfl (fun _ _ h1 h2 => Option.some.inj (h1.symm.trans h2)) (fun _ => rfl) (by decide) (by decide) (by decide) (Nat.le_of_ble_eq_true rfl) (Nat.le_of_ble_eq_true rfl) (kX3_init (i := 24) rfl) (fun q6 H hM => ?_)
    obtain ⟨hE, hF⟩ := nw_new (by omega) hE hF (by unfold SX3; rw [if_neg (by omega), if_neg (by omega), if_neg (by omega), if_neg (by omega), if_neg (by omega), if_pos (by omega)])
    have had := nw_ad (q := q6) (n := k + 6) (by omega) had
    refine n_putF (ty := tyX3 5) C hnm hM k (had k (by omega)).symm (by omega) hE (C0 := RX3) (Tt := TX3) (N := 10) rfl inX3 tyX3 tyX3_ok nmX3 5 (by decide) q_fX3_27 rfl rfl (by decide +kernel) rfl rfl (Nat.le_of_ble_eq_true rfl) (kX3_init (i := 25) rfl) (fun H locs hM => ?_)
    obtain ⟨hE, hF⟩ := nw_put hF
    refine lv_aload_n hx hb (kX3_init (i := 26) rfl) rfl (lv_at hl 0 rfl) ?_
    refine x_iconst hx hb (kX3_init (i := 27) rfl) ?_
    refine n_put (ty := tyX3 6) C hM k (had k (by omega)).symm (by omega) hE (C0 := RX3) (Tt := TX3) (N := 10) rfl inX3 tyX3 tyX3_ok nmX3 6 (by decide) q_fX3_30 rfl (by decide +kernel) rfl rfl (Nat.le_of_ble_eq_true rfl) (kX3_init (i := 28) rfl) (fun H locs hM => ?_)
    obtain ⟨hE, hF⟩ := nw_put hF
    refine lv_aload_n hx hb (kX3_init (i := 29) rfl) rfl (lv_at hl 0 rfl) ?_
    refine x_iconst hx hb (kX3_init (i := 30) rfl) ?_
    refine n_put (ty := tyX3 7) C hM k (had k (by omega)).symm (by omega) hE (C0 := RX3) (Tt := TX3) (N := 10) rfl inX3 tyX3 tyX3_ok nmX3 7 (by decide) q_fX3_34 rfl (by decide +kernel) rfl rfl (Nat.le_of_ble_eq_true rfl) (kX3_init (i := 31) rfl) (fun H locs hM => ?_)
    obtain ⟨hE, hF⟩ := nw_put hF
    refine lv_aload_n hx hb (kX3_init (i := 32) rfl) rfl (lv_at hl 0 rfl) ?_
    refine x_iconst hx hb (kX3_init (i := 33) rfl) ?_
    refine n_put (ty := tyX3 8) C hM k (had k (by omega)).symm (by omega) hE (C0 := RX3) (Tt := TX3) (N := 10) rfl inX3 tyX3 tyX3_ok nmX3 8 (by decide) q_fX3_37 rfl (by decide +kernel) rfl rfl (Nat.le_of_ble_eq_true rfl) (kX3_init (i := 34) rfl) (fun H locs hM => ?_)
    obtain ⟨hE, hF⟩ := nw_put hF
    refine lv_aload_n hx hb (kX3_init (i := 35) rfl) rfl (lv_at hl 0 rfl) ?_
    refine x_iconst hx hb (kX3_init (i := 36) rfl) ?_
    refine n_put (ty := tyX3 9) C hM k (had k (by omega)).symm (by omega) hE (C0 := RX3) (Tt := TX3) (N := 10) rfl inX3 tyX3 tyX3_ok nmX3 9 (by decide) q_fX3_40 rfl (by decide +kernel) rfl rfl (Nat.le_of_ble_eq_true rfl) (kX3_init (i := 37) rfl) (fun H locs hM => ?_)
    obtain ⟨hE, hF⟩ := nw_put hF
    refine n_ret C hr hlk hM had (fun j hj => ?_) rfl rfl (kX3_init (i := 38) rfl)
    by_cases h1 : j = k
    · subst h1; rw [hE]; simp [EX3, ue]
    · rw [hF j h1 hj]; simp [EX3, h1]
  exact key _ _ hM
def SX4 (cy : Nat → ClassId) (k : Nat) (E : Nat → va_E) : Nat → va_E := fun j => if j = k + 1 then .inl (cy 0, 6, .inl (fun _ => Int32.ofInt 0)) else if j = k + 2 then .inl (cy 0, 6, .inl (fun _ => Int32.ofInt 0)) else E j
def EX4 (cy : Nat → ClassId) (k : Nat) (E : Nat → va_E) (ad1 : Nat → Nat) : Nat → va_E := fun j => if j = k then .inr (4, [.ref (ad1 (k + 1)), .ref (ad1 (k + 2)), vi 0]) else SX4 cy k E j
set_option maxRecDepth 100000 in
set_option maxHeartbeats 4000000 in
theorem nX4_init (l : Launch) (D : va_G) (cy : Nat → ClassId) (k : Nat) (ad : Nat → Nat) (E : Nat → va_E) (hE : E k = .inr (4, [.null, .null, vi 0])) : Nt l yX4_init cX4_init 1 2 12 12 D cy k (k + 1) (k + 3) ad E (EX4 cy k E) := by
  refine n_start (by decide) ?_
  intro p e s m args below meth c ls C hnm hr hlk hM hl
  have hx := C.1
  have hb := C.2.1
  have key : ∀ (H : Heap) (locs : List Loc), Hn D (Ap ad (k + 1) s.heap.size) s.heap ad (k + 1) E H locs → W p l e { frames := 1, cells := 2, slots := 12, locals := 12 } s m args below meth c H locs 0 0 (MQ below (QN D ad (k + 1) s.heap.size (k + 3) (EX4 cy k E)) args s 2 12 (Ap ad (k + 1) s.heap.size)) (F0 m 0 ls []) := by
    intro H locs hM
    have hF : ∀ j, j ≠ k → j < k + 1 → E j = SX4 cy k E j := fun j h1 h2 => by unfold SX4; rw [if_neg (by omega), if_neg (by omega)]
    have had : ∀ j, j < k + 1 → ad j = ad j := fun _ _ => rfl
    refine lv_aload_n hx hb (kX4_init (i := 0) rfl) rfl (lv_at hl 0 rfl) ?_
    refine n_obj C hl.1 q_mX4_3 (Nat.le_of_ble_eq_true rfl) (Nat.le_of_ble_eq_true rfl) (kX4_init (i := 1) rfl) ?_
    refine lv_aload_n hx hb (kX4_init (i := 2) rfl) rfl (lv_at hl 0 rfl) ?_
    refine x_bipush hx hb (by decide) (kX4_init (i := 3) rfl) ?_
    refine n_newa (atype := .int) (N' := 6) (t := 0) (ty := .int) (a0 := (6, .inl (fun _ => Int32.ofInt 0))) C hM q_aI rfl rfl (fun _ _ h1 h2 => Option.some.inj (h1.symm.trans h2)) (fun _ => rfl) (by decide) (by decide) (by decide) (Nat.le_of_ble_eq_true rfl) (Nat.le_of_ble_eq_true rfl) (kX4_init (i := 4) rfl) (fun q1 H hM => ?_)
    obtain ⟨hE, hF⟩ := nw_new (by omega) hE hF (by unfold SX4; rw [if_pos (by omega)])
    have had := nw_ad (q := q1) (n := k + 1) (by omega) had
    refine n_putF (ty := tyX4 0) C hnm hM k (had k (by omega)).symm (by omega) hE (C0 := RX4) (Tt := TX4) (N := 3) rfl inX4 tyX4 tyX4_ok nmX4 0 (by decide) q_fX4_11 rfl rfl (by decide +kernel) rfl rfl (Nat.le_of_ble_eq_true rfl) (kX4_init (i := 5) rfl) (fun H locs hM => ?_)
    obtain ⟨hE, hF⟩ := nw_put hF
    refine lv_aload_n hx hb (kX4_init (i := 6) rfl) rfl (lv_at hl 0 rfl) ?_
    refine x_bipush hx hb (by decide) (kX4_init (i := 7) rfl) ?_
    refine n_newa (atype := .int) (N' := 6) (t := 0) (ty := .int) (a0 := (6, .inl (fun _ => Int32.ofInt 0))) C hM q_aI rfl rfl (fun _ _ h1 h2 => Option.some.inj (h1.symm.trans h2)) (fun _ => rfl) (by decide) (by decide) (by decide) (Nat.le_of_ble_eq_true rfl) (Nat.le_of_ble_eq_true rfl) (kX4_init (i := 8) rfl) (fun q2 H hM => ?_)
    obtain ⟨hE, hF⟩ := nw_new (by omega) hE hF (by unfold SX4; rw [if_neg (by omega), if_pos (by omega)])
    have had := nw_ad (q := q2) (n := k + 2) (by omega) had
    refine n_putF (ty := tyX4 1) C hnm hM k (had k (by omega)).symm (by omega) hE (C0 := RX4) (Tt := TX4) (N := 3) rfl inX4 tyX4 tyX4_ok nmX4 1 (by decide) q_fX4_15 rfl rfl (by decide +kernel) rfl rfl (Nat.le_of_ble_eq_true rfl) (kX4_init (i := 9) rfl) (fun H locs hM => ?_)
    obtain ⟨hE, hF⟩ := nw_put hF
    refine lv_aload_n hx hb (kX4_init (i := 10) rfl) rfl (lv_at hl 0 rfl) ?_
    refine x_iconst hx hb (kX4_init (i := 11) rfl) ?_
    refine n_put (ty := tyX4 2) C hM k (had k (by omega)).symm (by omega) hE (C0 := RX4) (Tt := TX4) (N := 3) rfl inX4 tyX4 tyX4_ok nmX4 2 (by decide) q_fX4_18 rfl (by decide +kernel) rfl rfl (Nat.le_of_ble_eq_true rfl) (kX4_init (i := 12) rfl) (fun H locs hM => ?_)
    obtain ⟨hE, hF⟩ := nw_put hF
    refine n_ret C hr hlk hM had (fun j hj => ?_) rfl rfl (kX4_init (i := 13) rfl)
    by_cases h1 : j = k
    · subst h1; rw [hE]; simp [EX4, ue]
    · rw [hF j h1 hj]; simp [EX4, h1]
  exact key _ _ hM
def SX5 (cy : Nat → ClassId) (k : Nat) (E : Nat → va_E) : Nat → va_E := fun j => if j = k + 1 then .inl (cy 0, 32, .inl (fun _ => Int32.ofInt 0)) else E j
def EX5 (cy : Nat → ClassId) (k : Nat) (E : Nat → va_E) (ad1 : Nat → Nat) : Nat → va_E := fun j => if j = k then .inr (5, [.ref (ad1 (k + 1)), vi 0, vi 0, vi 0, vi 0, vi 0, vi 0, vi 0, vi 0, vi 0]) else SX5 cy k E j
set_option maxRecDepth 100000 in
set_option maxHeartbeats 4000000 in
theorem nX5_init (l : Launch) (D : va_G) (cy : Nat → ClassId) (k : Nat) (ad : Nat → Nat) (E : Nat → va_E) (hE : E k = .inr (5, [.null, vi 0, vi 0, vi 0, vi 0, vi 0, vi 0, vi 0, vi 0, vi 0])) : Nt l yX5_init cX5_init 1 1 32 12 D cy k (k + 1) (k + 2) ad E (EX5 cy k E) := by
  refine n_start (by decide) ?_
  intro p e s m args below meth c ls C hnm hr hlk hM hl
  have hx := C.1
  have hb := C.2.1
  have key : ∀ (H : Heap) (locs : List Loc), Hn D (Ap ad (k + 1) s.heap.size) s.heap ad (k + 1) E H locs → W p l e { frames := 1, cells := 1, slots := 32, locals := 12 } s m args below meth c H locs 0 0 (MQ below (QN D ad (k + 1) s.heap.size (k + 2) (EX5 cy k E)) args s 1 32 (Ap ad (k + 1) s.heap.size)) (F0 m 0 ls []) := by
    intro H locs hM
    have hF : ∀ j, j ≠ k → j < k + 1 → E j = SX5 cy k E j := fun j h1 h2 => by unfold SX5; rw [if_neg (by omega)]
    have had : ∀ j, j < k + 1 → ad j = ad j := fun _ _ => rfl
    refine lv_aload_n hx hb (kX5_init (i := 0) rfl) rfl (lv_at hl 0 rfl) ?_
    refine n_obj C hl.1 q_mX5_3 (Nat.le_of_ble_eq_true rfl) (Nat.le_of_ble_eq_true rfl) (kX5_init (i := 1) rfl) ?_
    refine lv_aload_n hx hb (kX5_init (i := 2) rfl) rfl (lv_at hl 0 rfl) ?_
    refine x_bipush hx hb (by decide) (kX5_init (i := 3) rfl) ?_
    refine n_newa (atype := .int) (N' := 32) (t := 0) (ty := .int) (a0 := (32, .inl (fun _ => Int32.ofInt 0))) C hM q_aI rfl rfl (fun _ _ h1 h2 => Option.some.inj (h1.symm.trans h2)) (fun _ => rfl) (by decide) (by decide) (by decide) (Nat.le_of_ble_eq_true rfl) (Nat.le_of_ble_eq_true rfl) (kX5_init (i := 4) rfl) (fun q1 H hM => ?_)
    obtain ⟨hE, hF⟩ := nw_new (by omega) hE hF (by unfold SX5; rw [if_pos (by omega)])
    have had := nw_ad (q := q1) (n := k + 1) (by omega) had
    refine n_putF (ty := tyX5 0) C hnm hM k (had k (by omega)).symm (by omega) hE (C0 := RX5) (Tt := TX5) (N := 10) rfl inX5 tyX5 tyX5_ok nmX5 0 (by decide) q_fX5_9 rfl rfl (by decide +kernel) rfl rfl (Nat.le_of_ble_eq_true rfl) (kX5_init (i := 5) rfl) (fun H locs hM => ?_)
    obtain ⟨hE, hF⟩ := nw_put hF
    refine lv_aload_n hx hb (kX5_init (i := 6) rfl) rfl (lv_at hl 0 rfl) ?_
    refine x_iconst hx hb (kX5_init (i := 7) rfl) ?_
    refine n_put (ty := tyX5 1) C hM k (had k (by omega)).symm (by omega) hE (C0 := RX5) (Tt := TX5) (N := 10) rfl inX5 tyX5 tyX5_ok nmX5 1 (by decide) q_fX5_15 rfl (by decide +kernel) rfl rfl (Nat.le_of_ble_eq_true rfl) (kX5_init (i := 8) rfl) (fun H locs hM => ?_)
    obtain ⟨hE, hF⟩ := nw_put hF
    refine lv_aload_n hx hb (kX5_init (i := 9) rfl) rfl (lv_at hl 0 rfl) ?_
    refine x_iconst hx hb (kX5_init (i := 10) rfl) ?_
    refine n_put (ty := tyX5 2) C hM k (had k (by omega)).symm (by omega) hE (C0 := RX5) (Tt := TX5) (N := 10) rfl inX5 tyX5 tyX5_ok nmX5 2 (by decide) q_fX5_19 rfl (by decide +kernel) rfl rfl (Nat.le_of_ble_eq_true rfl) (kX5_init (i := 11) rfl) (fun H locs hM => ?_)
    obtain ⟨hE, hF⟩ := nw_put hF
    refine lv_aload_n hx hb (kX5_init (i := 12) rfl) rfl (lv_at hl 0 rfl) ?_
    refine x_iconst hx hb (kX5_init (i := 13) rfl) ?_
    refine n_put (ty := tyX5 3) C hM k (had k (by omega)).symm (by omega) hE (C0 := RX5) (Tt := TX5) (N := 10) rfl inX5 tyX5 tyX5_ok nmX5 3 (by decide) q_fX5_22 rfl (by decide +kernel) rfl rfl (Nat.le_of_ble_eq_true rfl) (kX5_init (i := 14) rfl) (fun H locs hM => ?_)
    obtain ⟨hE, hF⟩ := nw_put hF
    refine lv_aload_n hx hb (kX5_init (i := 15) rfl) rfl (lv_at hl 0 rfl) ?_
    refine x_iconst hx hb (kX5_init (i := 16) rfl) ?_
    refine n_put (ty := tyX5 4) C hM k (had k (by omega)).symm (by omega) hE (C0 := RX5) (Tt := TX5) (N := 10) rfl inX5 tyX5 tyX5_ok nmX5 4 (by decide) q_fX5_25 rfl (by decide +kernel) rfl rfl (Nat.le_of_ble_eq_true rfl) (kX5_init (i := 17) rfl) (fun H locs hM => ?_)
    obtain ⟨hE, hF⟩ := nw_put hF
    refine lv_aload_n hx hb (kX5_init (i := 18) rfl) rfl (lv_at hl 0 rfl) ?_
    refine x_iconst hx hb (kX5_init (i := 19) rfl) ?_
    refine n_put (ty := tyX5 5) C hM k (had k (by omega)).symm (by omega) hE (C0 := RX5) (Tt := TX5) (N := 10) rfl inX5 tyX5 tyX5_ok nmX5 5 (by decide) q_fX5_28 rfl (by decide +kernel) rfl rfl (Nat.le_of_ble_eq_true rfl) (kX5_init (i := 20) rfl) (fun H locs hM => ?_)
    obtain ⟨hE, hF⟩ := nw_put hF
    refine lv_aload_n hx hb (kX5_init (i := 21) rfl) rfl (lv_at hl 0 rfl) ?_
    refine x_iconst hx hb (kX5_init (i := 22) rfl) ?_
    refine n_put (ty := tyX5 6) C hM k (had k (by omega)).symm (by omega) hE (C0 := RX5) (Tt := TX5) (N := 10) rfl inX5 tyX5 tyX5_ok nmX5 6 (by decide) q_fX5_31 rfl (by decide +kernel) rfl rfl (Nat.le_of_ble_eq_true rfl) (kX5_init (i := 23) rfl) (fun H locs hM => ?_)
    obtain ⟨hE, hF⟩ := nw_put hF
    refine lv_aload_n hx hb (kX5_init (i := 24) rfl) rfl (lv_at hl 0 rfl) ?_
    refine x_iconst hx hb (kX5_init (i := 25) rfl) ?_
    refine n_put (ty := tyX5 7) C hM k (had k (by omega)).symm (by omega) hE (C0 := RX5) (Tt := TX5) (N := 10) rfl inX5 tyX5 tyX5_ok nmX5 7 (by decide) q_fX5_34 rfl (by decide +kernel) rfl rfl (Nat.le_of_ble_eq_true rfl) (kX5_init (i := 26) rfl) (fun H locs hM => ?_)
    obtain ⟨hE, hF⟩ := nw_put hF
    refine lv_aload_n hx hb (kX5_init (i := 27) rfl) rfl (lv_at hl 0 rfl) ?_
    refine x_iconst hx hb (kX5_init (i := 28) rfl) ?_
    refine n_put (ty := tyX5 8) C hM k (had k (by omega)).symm (by omega) hE (C0 := RX5) (Tt := TX5) (N := 10) rfl inX5 tyX5 tyX5_ok nmX5 8 (by decide) q_fX5_37 rfl (by decide +kernel) rfl rfl (Nat.le_of_ble_eq_true rfl) (kX5_init (i := 29) rfl) (fun H locs hM => ?_)
    obtain ⟨hE, hF⟩ := nw_put hF
    refine lv_aload_n hx hb (kX5_init (i := 30) rfl) rfl (lv_at hl 0 rfl) ?_
    refine x_iconst hx hb (kX5_init (i := 31) rfl) ?_
    refine n_put (ty := tyX5 9) C hM k (had k (by omega)).symm (by omega) hE (C0 := RX5) (Tt := TX5) (N := 10) rfl inX5 tyX5 tyX5_ok nmX5 9 (by decide) q_fX5_40 rfl (by decide +kernel) (nar_z (Or.inl rfl)) (fit_z (Or.inl rfl)) (Nat.le_of_ble_eq_true rfl) (kX5_init (i := 32) rfl) (fun H locs hM => ?_)
    obtain ⟨hE, hF⟩ := nw_put hF
    refine n_ret C hr hlk hM had (fun j hj => ?_) rfl rfl (kX5_init (i := 33) rfl)
    by_cases h1 : j = k
    · subst h1; rw [hE]; simp [EX5, ue]
    · rw [hF j h1 hj]; simp [EX5, h1]
  exact key _ _ hM
def SX6 (cy : Nat → ClassId) (k : Nat) (E : Nat → va_E) : Nat → va_E := fun j => if j = k + 1 then .inl (cy 0, 48, .inl (fun _ => Int32.ofInt 0)) else if j = k + 2 then .inl (cy 0, 481, .inl (fun _ => Int32.ofInt 0)) else E j
def EX6 (cy : Nat → ClassId) (k : Nat) (E : Nat → va_E) (ad1 : Nat → Nat) : Nat → va_E := fun j => if j = k then .inr (6, [.ref (ad1 (k + 1)), .ref (ad1 (k + 2)), vi 0, vi 16, vi 0]) else SX6 cy k E j
set_option maxRecDepth 100000 in
set_option maxHeartbeats 4000000 in
theorem nX6_init (l : Launch) (D : va_G) (cy : Nat → ClassId) (k : Nat) (ad : Nat → Nat) (E : Nat → va_E) (hE : E k = .inr (6, [.null, .null, vi 0, vi 0, vi 0])) : Nt l yX6_init cX6_init 1 2 529 12 D cy k (k + 1) (k + 3) ad E (EX6 cy k E) := by
  refine n_start (by decide) ?_
  intro p e s m args below meth c ls C hnm hr hlk hM hl
  have hx := C.1
  have hb := C.2.1
  have key : ∀ (H : Heap) (locs : List Loc), Hn D (Ap ad (k + 1) s.heap.size) s.heap ad (k + 1) E H locs → W p l e { frames := 1, cells := 2, slots := 529, locals := 12 } s m args below meth c H locs 0 0 (MQ below (QN D ad (k + 1) s.heap.size (k + 3) (EX6 cy k E)) args s 2 529 (Ap ad (k + 1) s.heap.size)) (F0 m 0 ls []) := by
    intro H locs hM
    have hF : ∀ j, j ≠ k → j < k + 1 → E j = SX6 cy k E j := fun j h1 h2 => by unfold SX6; rw [if_neg (by omega), if_neg (by omega)]
    have had : ∀ j, j < k + 1 → ad j = ad j := fun _ _ => rfl
    refine lv_aload_n hx hb (kX6_init (i := 0) rfl) rfl (lv_at hl 0 rfl) ?_
    refine n_obj C hl.1 q_mX6_3 (Nat.le_of_ble_eq_true rfl) (Nat.le_of_ble_eq_true rfl) (kX6_init (i := 1) rfl) ?_
    refine lv_aload_n hx hb (kX6_init (i := 2) rfl) rfl (lv_at hl 0 rfl) ?_
    refine x_bipush hx hb (by decide) (kX6_init (i := 3) rfl) ?_
    refine n_newa (atype := .int) (N' := 48) (t := 0) (ty := .int) (a0 := (48, .inl (fun _ => Int32.ofInt 0))) C hM q_aI rfl rfl (fun _ _ h1 h2 => Option.some.inj (h1.symm.trans h2)) (fun _ => rfl) (by decide) (by decide) (by decide) (Nat.le_of_ble_eq_true rfl) (Nat.le_of_ble_eq_true rfl) (kX6_init (i := 4) rfl) (fun q1 H hM => ?_)
    obtain ⟨hE, hF⟩ := nw_new (by omega) hE hF (by unfold SX6; rw [if_pos (by omega)])
    have had := nw_ad (q := q1) (n := k + 1) (by omega) had
    refine n_putF (ty := tyX6 0) C hnm hM k (had k (by omega)).symm (by omega) hE (C0 := RX6) (Tt := TX6) (N := 5) rfl inX6 tyX6 tyX6_ok nmX6 0 (by decide) q_fX6_11 rfl rfl (by decide +kernel) rfl rfl (Nat.le_of_ble_eq_true rfl) (kX6_init (i := 5) rfl) (fun H locs hM => ?_)
    obtain ⟨hE, hF⟩ := nw_put hF
    refine lv_aload_n hx hb (kX6_init (i := 6) rfl) rfl (lv_at hl 0 rfl) ?_
    refine x_sipush hx hb (by decide) (kX6_init (i := 7) rfl) ?_
    refine n_newa (atype := .int) (N' := 481) (t := 0) (ty := .int) (a0 := (481, .inl (fun _ => Int32.ofInt 0))) C hM q_aI rfl rfl (fun _ _ h1 h2 => Option.some.inj (h1.symm.trans h2)) (fun _ => rfl) (by decide) (by decide) (by decide) (Nat.le_of_ble_eq_true rfl) (Nat.le_of_ble_eq_true rfl) (kX6_init (i := 8) rfl) (fun q2 H hM => ?_)
    obtain ⟨hE, hF⟩ := nw_new (by omega) hE hF (by unfold SX6; rw [if_neg (by omega), if_pos (by omega)])
    have had := nw_ad (q := q2) (n := k + 2) (by omega) had
    refine n_putF (ty := tyX6 1) C hnm hM k (had k (by omega)).symm (by omega) hE (C0 := RX6) (Tt := TX6) (N := 5) rfl inX6 tyX6 tyX6_ok nmX6 1 (by decide) q_fX6_15 rfl rfl (by decide +kernel) rfl rfl (Nat.le_of_ble_eq_true rfl) (kX6_init (i := 9) rfl) (fun H locs hM => ?_)
    obtain ⟨hE, hF⟩ := nw_put hF
    refine lv_aload_n hx hb (kX6_init (i := 10) rfl) rfl (lv_at hl 0 rfl) ?_
    refine x_iconst hx hb (kX6_init (i := 11) rfl) ?_
    refine n_put (ty := tyX6 2) C hM k (had k (by omega)).symm (by omega) hE (C0 := RX6) (Tt := TX6) (N := 5) rfl inX6 tyX6 tyX6_ok nmX6 2 (by decide) q_fX6_18 rfl (by decide +kernel) rfl rfl (Nat.le_of_ble_eq_true rfl) (kX6_init (i := 12) rfl) (fun H locs hM => ?_)
    obtain ⟨hE, hF⟩ := nw_put hF
    refine lv_aload_n hx hb (kX6_init (i := 13) rfl) rfl (lv_at hl 0 rfl) ?_
    refine x_bipush hx hb (by decide) (kX6_init (i := 14) rfl) ?_
    refine n_put (ty := tyX6 3) C hM k (had k (by omega)).symm (by omega) hE (C0 := RX6) (Tt := TX6) (N := 5) rfl inX6 tyX6 tyX6_ok nmX6 3 (by decide) q_fX6_22 rfl (by decide +kernel) rfl rfl (Nat.le_of_ble_eq_true rfl) (kX6_init (i := 15) rfl) (fun H locs hM => ?_)
    obtain ⟨hE, hF⟩ := nw_put hF
    refine lv_aload_n hx hb (kX6_init (i := 16) rfl) rfl (lv_at hl 0 rfl) ?_
    refine x_iconst hx hb (kX6_init (i := 17) rfl) ?_
    refine n_put (ty := tyX6 4) C hM k (had k (by omega)).symm (by omega) hE (C0 := RX6) (Tt := TX6) (N := 5) rfl inX6 tyX6 tyX6_ok nmX6 4 (by decide) q_fX6_25 rfl (by decide +kernel) (nar_z (Or.inl rfl)) (fit_z (Or.inl rfl)) (Nat.le_of_ble_eq_true rfl) (kX6_init (i := 18) rfl) (fun H locs hM => ?_)
    obtain ⟨hE, hF⟩ := nw_put hF
    refine n_ret C hr hlk hM had (fun j hj => ?_) rfl rfl (kX6_init (i := 19) rfl)
    by_cases h1 : j = k
    · subst h1; rw [hE]; simp [EX6, ue]
    · rw [hF j h1 hj]; simp [EX6, h1]
  exact key _ _ hM
def SX7 (cy : Nat → ClassId) (k : Nat) (E : Nat → va_E) : Nat → va_E := fun j => if j = k + 1 then .inl (cy 0, 300, .inl (fun _ => Int32.ofInt 0)) else if j = k + 2 then .inl (cy 0, 32, .inl (fun _ => Int32.ofInt 0)) else if j = k + 3 then .inl (cy 0, 2, .inl (fun _ => Int32.ofInt 0)) else if j = k + 4 then .inl (cy 0, 2, .inl (fun _ => Int32.ofInt 0)) else E j
def EX7 (cy : Nat → ClassId) (k : Nat) (E : Nat → va_E) (ad1 : Nat → Nat) : Nat → va_E := fun j => if j = k then .inr (7, [.ref (ad1 (k + 1)), .ref (ad1 (k + 2)), .ref (ad1 (k + 3)), .ref (ad1 (k + 4)), vi 0]) else SX7 cy k E j
set_option maxRecDepth 100000 in
set_option maxHeartbeats 4000000 in
theorem nX7_init (l : Launch) (D : va_G) (cy : Nat → ClassId) (k : Nat) (ad : Nat → Nat) (E : Nat → va_E) (hE : E k = .inr (7, [.null, .null, .null, .null, vi 0])) : Nt l yX7_init cX7_init 1 4 336 12 D cy k (k + 1) (k + 5) ad E (EX7 cy k E) := by
  refine n_start (by decide) ?_
  intro p e s m args below meth c ls C hnm hr hlk hM hl
  have hx := C.1
  have hb := C.2.1
  have key : ∀ (H : Heap) (locs : List Loc), Hn D (Ap ad (k + 1) s.heap.size) s.heap ad (k + 1) E H locs → W p l e { frames := 1, cells := 4, slots := 336, locals := 12 } s m args below meth c H locs 0 0 (MQ below (QN D ad (k + 1) s.heap.size (k + 5) (EX7 cy k E)) args s 4 336 (Ap ad (k + 1) s.heap.size)) (F0 m 0 ls []) := by
    intro H locs hM
    have hF : ∀ j, j ≠ k → j < k + 1 → E j = SX7 cy k E j := fun j h1 h2 => by unfold SX7; rw [if_neg (by omega), if_neg (by omega), if_neg (by omega), if_neg (by omega)]
    have had : ∀ j, j < k + 1 → ad j = ad j := fun _ _ => rfl
    refine lv_aload_n hx hb (kX7_init (i := 0) rfl) rfl (lv_at hl 0 rfl) ?_
    refine n_obj C hl.1 q_mX7_1 (Nat.le_of_ble_eq_true rfl) (Nat.le_of_ble_eq_true rfl) (kX7_init (i := 1) rfl) ?_
    refine lv_aload_n hx hb (kX7_init (i := 2) rfl) rfl (lv_at hl 0 rfl) ?_
    refine x_sipush hx hb (by decide) (kX7_init (i := 3) rfl) ?_
    refine n_newa (atype := .int) (N' := 300) (t := 0) (ty := .int) (a0 := (300, .inl (fun _ => Int32.ofInt 0))) C hM q_aI rfl rfl (fun _ _ h1 h2 => Option.some.inj (h1.symm.trans h2)) (fun _ => rfl) (by decide) (by decide) (by decide) (Nat.le_of_ble_eq_true rfl) (Nat.le_of_ble_eq_true rfl) (kX7_init (i := 4) rfl) (fun q1 H hM => ?_)
    obtain ⟨hE, hF⟩ := nw_new (by omega) hE hF (by unfold SX7; rw [if_pos (by omega)])
    have had := nw_ad (q := q1) (n := k + 1) (by omega) had
    refine n_putF (ty := tyX7 0) C hnm hM k (had k (by omega)).symm (by omega) hE (C0 := RX7) (Tt := TX7) (N := 5) rfl inX7 tyX7 tyX7_ok nmX7 0 (by decide) q_fX7_9 rfl rfl (by decide +kernel) rfl rfl (Nat.le_of_ble_eq_true rfl) (kX7_init (i := 5) rfl) (fun H locs hM => ?_)
    obtain ⟨hE, hF⟩ := nw_put hF
    refine lv_aload_n hx hb (kX7_init (i := 6) rfl) rfl (lv_at hl 0 rfl) ?_
    refine x_bipush hx hb (by decide) (kX7_init (i := 7) rfl) ?_
    refine n_newa (atype := .int) (N' := 32) (t := 0) (ty := .int) (a0 := (32, .inl (fun _ => Int32.ofInt 0))) C hM q_aI rfl rfl (fun _ _ h1 h2 => Option.some.inj (h1.symm.trans h2)) (fun _ => rfl) (by decide) (by decide) (by decide) (Nat.le_of_ble_eq_true rfl) (Nat.le_of_ble_eq_true rfl) (kX7_init (i := 8) rfl) (fun q2 H hM => ?_)
    obtain ⟨hE, hF⟩ := nw_new (by omega) hE hF (by unfold SX7; rw [if_neg (by omega), if_pos (by omega)])
    have had := nw_ad (q := q2) (n := k + 2) (by omega) had
    refine n_putF (ty := tyX7 1) C hnm hM k (had k (by omega)).symm (by omega) hE (C0 := RX7) (Tt := TX7) (N := 5) rfl inX7 tyX7 tyX7_ok nmX7 1 (by decide) q_fX7_15 rfl rfl (by decide +kernel) rfl rfl (Nat.le_of_ble_eq_true rfl) (kX7_init (i := 9) rfl) (fun H locs hM => ?_)
    obtain ⟨hE, hF⟩ := nw_put hF
    refine lv_aload_n hx hb (kX7_init (i := 10) rfl) rfl (lv_at hl 0 rfl) ?_
    refine x_iconst hx hb (kX7_init (i := 11) rfl) ?_
    refine n_newa (atype := .int) (N' := 2) (t := 0) (ty := .int) (a0 := (2, .inl (fun _ => Int32.ofInt 0))) C hM q_aI rfl rfl (fun _ _ h1 h2 => Option.some.inj (h1.symm.trans h2)) (fun _ => rfl) (by decide) (by decide) (by decide) (Nat.le_of_ble_eq_true rfl) (Nat.le_of_ble_eq_true rfl) (kX7_init (i := 12) rfl) (fun q3 H hM => ?_)
    obtain ⟨hE, hF⟩ := nw_new (by omega) hE hF (by unfold SX7; rw [if_neg (by omega), if_neg (by omega), if_pos (by omega)])
    have had := nw_ad (q := q3) (n := k + 3) (by omega) had
    refine n_putF (ty := tyX7 2) C hnm hM k (had k (by omega)).symm (by omega) hE (C0 := RX7) (Tt := TX7) (N := 5) rfl inX7 tyX7 tyX7_ok nmX7 2 (by decide) q_fX7_18 rfl rfl (by decide +kernel) rfl rfl (Nat.le_of_ble_eq_true rfl) (kX7_init (i := 13) rfl) (fun H locs hM => ?_)
    obtain ⟨hE, hF⟩ := nw_put hF
    refine lv_aload_n hx hb (kX7_init (i := 14) rfl) rfl (lv_at hl 0 rfl) ?_
    refine x_iconst hx hb (kX7_init (i := 15) rfl) ?_
    refine n_newa (atype := .int) (N' := 2) (t := 0) (ty := .int) (a0 := (2, .inl (fun _ => Int32.ofInt 0))) C hM q_aI rfl rfl (fun _ _ h1 h2 => Option.some.inj (h1.symm.trans h2)) (fun _ => rfl) (by decide) (by decide) (by decide) (Nat.le_of_ble_eq_true rfl) (Nat.le_of_ble_eq_true rfl) (kX7_init (i := 16) rfl) (fun q4 H hM => ?_)
    obtain ⟨hE, hF⟩ := nw_new (by omega) hE hF (by unfold SX7; rw [if_neg (by omega), if_neg (by omega), if_neg (by omega), if_pos (by omega)])
    have had := nw_ad (q := q4) (n := k + 4) (by omega) had
    refine n_putF (ty := tyX7 3) C hnm hM k (had k (by omega)).symm (by omega) hE (C0 := RX7) (Tt := TX7) (N := 5) rfl inX7 tyX7 tyX7_ok nmX7 3 (by decide) q_fX7_21 rfl rfl (by decide +kernel) rfl rfl (Nat.le_of_ble_eq_true rfl) (kX7_init (i := 17) rfl) (fun H locs hM => ?_)
    obtain ⟨hE, hF⟩ := nw_put hF
    refine lv_aload_n hx hb (kX7_init (i := 18) rfl) rfl (lv_at hl 0 rfl) ?_
    refine x_iconst hx hb (kX7_init (i := 19) rfl) ?_
    refine n_put (ty := tyX7 4) C hM k (had k (by omega)).symm (by omega) hE (C0 := RX7) (Tt := TX7) (N := 5) rfl inX7 tyX7 tyX7_ok nmX7 4 (by decide) q_fX7_24 rfl (by decide +kernel) rfl rfl (Nat.le_of_ble_eq_true rfl) (kX7_init (i := 20) rfl) (fun H locs hM => ?_)
    obtain ⟨hE, hF⟩ := nw_put hF
    refine n_ret C hr hlk hM had (fun j hj => ?_) rfl rfl (kX7_init (i := 21) rfl)
    by_cases h1 : j = k
    · subst h1; rw [hE]; simp [EX7, ue]
    · rw [hF j h1 hj]; simp [EX7, h1]
  exact key _ _ hM
def SX8 (cy : Nat → ClassId) (k : Nat) (E : Nat → va_E) : Nat → va_E := fun j => if j = k + 1 then .inl (cy 0, 64, .inl (fun _ => Int32.ofInt 0)) else E j
def EX8 (cy : Nat → ClassId) (k : Nat) (E : Nat → va_E) (ad1 : Nat → Nat) : Nat → va_E := fun j => if j = k then .inr (8, [.ref (ad1 (k + 1)), vi 0]) else SX8 cy k E j
set_option maxRecDepth 100000 in
set_option maxHeartbeats 4000000 in
theorem nX8_init (l : Launch) (D : va_G) (cy : Nat → ClassId) (k : Nat) (ad : Nat → Nat) (E : Nat → va_E) (hE : E k = .inr (8, [.null, vi 0])) : Nt l yX8_init cX8_init 1 1 64 12 D cy k (k + 1) (k + 2) ad E (EX8 cy k E) := by
  refine n_start (by decide) ?_
  intro p e s m args below meth c ls C hnm hr hlk hM hl
  have hx := C.1
  have hb := C.2.1
  have key : ∀ (H : Heap) (locs : List Loc), Hn D (Ap ad (k + 1) s.heap.size) s.heap ad (k + 1) E H locs → W p l e { frames := 1, cells := 1, slots := 64, locals := 12 } s m args below meth c H locs 0 0 (MQ below (QN D ad (k + 1) s.heap.size (k + 2) (EX8 cy k E)) args s 1 64 (Ap ad (k + 1) s.heap.size)) (F0 m 0 ls []) := by
    intro H locs hM
    have hF : ∀ j, j ≠ k → j < k + 1 → E j = SX8 cy k E j := fun j h1 h2 => by unfold SX8; rw [if_neg (by omega)]
    have had : ∀ j, j < k + 1 → ad j = ad j := fun _ _ => rfl
    refine lv_aload_n hx hb (kX8_init (i := 0) rfl) rfl (lv_at hl 0 rfl) ?_
    refine n_obj C hl.1 q_mX8_3 (Nat.le_of_ble_eq_true rfl) (Nat.le_of_ble_eq_true rfl) (kX8_init (i := 1) rfl) ?_
    refine lv_aload_n hx hb (kX8_init (i := 2) rfl) rfl (lv_at hl 0 rfl) ?_
    refine x_bipush hx hb (by decide) (kX8_init (i := 3) rfl) ?_
    refine n_newa (atype := .int) (N' := 64) (t := 0) (ty := .int) (a0 := (64, .inl (fun _ => Int32.ofInt 0))) C hM q_aI rfl rfl (fun _ _ h1 h2 => Option.some.inj (h1.symm.trans h2)) (fun _ => rfl) (by decide) (by decide) (by decide) (Nat.le_of_ble_eq_true rfl) (Nat.le_of_ble_eq_true rfl) (kX8_init (i := 4) rfl) (fun q1 H hM => ?_)
    obtain ⟨hE, hF⟩ := nw_new (by omega) hE hF (by unfold SX8; rw [if_pos (by omega)])
    have had := nw_ad (q := q1) (n := k + 1) (by omega) had
    refine n_putF (ty := tyX8 0) C hnm hM k (had k (by omega)).symm (by omega) hE (C0 := RX8) (Tt := TX8) (N := 2) rfl inX8 tyX8 tyX8_ok nmX8 0 (by decide) q_fX8_11 rfl rfl (by decide +kernel) rfl rfl (Nat.le_of_ble_eq_true rfl) (kX8_init (i := 5) rfl) (fun H locs hM => ?_)
    obtain ⟨hE, hF⟩ := nw_put hF
    refine lv_aload_n hx hb (kX8_init (i := 6) rfl) rfl (lv_at hl 0 rfl) ?_
    refine x_iconst hx hb (kX8_init (i := 7) rfl) ?_
    refine n_put (ty := tyX8 1) C hM k (had k (by omega)).symm (by omega) hE (C0 := RX8) (Tt := TX8) (N := 2) rfl inX8 tyX8 tyX8_ok nmX8 1 (by decide) q_fX8_15 rfl (by decide +kernel) rfl rfl (Nat.le_of_ble_eq_true rfl) (kX8_init (i := 8) rfl) (fun H locs hM => ?_)
    obtain ⟨hE, hF⟩ := nw_put hF
    refine n_ret C hr hlk hM had (fun j hj => ?_) rfl rfl (kX8_init (i := 9) rfl)
    by_cases h1 : j = k
    · subst h1; rw [hE]; simp [EX8, ue]
    · rw [hF j h1 hj]; simp [EX8, h1]
  exact key _ _ hM
def SX9 (cy : Nat → ClassId) (k : Nat) (E : Nat → va_E) : Nat → va_E := fun j => if j = k + 1 then .inl (cy 0, 300, .inl (fun _ => Int32.ofInt 0)) else E j
def EX9 (cy : Nat → ClassId) (k : Nat) (E : Nat → va_E) (ad1 : Nat → Nat) : Nat → va_E := fun j => if j = k then .inr (9, [.ref (ad1 (k + 1)), vi 0]) else SX9 cy k E j
set_option maxRecDepth 100000 in
set_option maxHeartbeats 4000000 in
theorem nX9_init (l : Launch) (D : va_G) (cy : Nat → ClassId) (k : Nat) (ad : Nat → Nat) (E : Nat → va_E) (hE : E k = .inr (9, [.null, vi 0])) : Nt l yX9_init cX9_init 1 1 300 12 D cy k (k + 1) (k + 2) ad E (EX9 cy k E) := by
  refine n_start (by decide) ?_
  intro p e s m args below meth c ls C hnm hr hlk hM hl
  have hx := C.1
  have hb := C.2.1
  have key : ∀ (H : Heap) (locs : List Loc), Hn D (Ap ad (k + 1) s.heap.size) s.heap ad (k + 1) E H locs → W p l e { frames := 1, cells := 1, slots := 300, locals := 12 } s m args below meth c H locs 0 0 (MQ below (QN D ad (k + 1) s.heap.size (k + 2) (EX9 cy k E)) args s 1 300 (Ap ad (k + 1) s.heap.size)) (F0 m 0 ls []) := by
    intro H locs hM
    have hF : ∀ j, j ≠ k → j < k + 1 → E j = SX9 cy k E j := fun j h1 h2 => by unfold SX9; rw [if_neg (by omega)]
    have had : ∀ j, j < k + 1 → ad j = ad j := fun _ _ => rfl
    refine lv_aload_n hx hb (kX9_init (i := 0) rfl) rfl (lv_at hl 0 rfl) ?_
    refine n_obj C hl.1 q_mX9_3 (Nat.le_of_ble_eq_true rfl) (Nat.le_of_ble_eq_true rfl) (kX9_init (i := 1) rfl) ?_
    refine lv_aload_n hx hb (kX9_init (i := 2) rfl) rfl (lv_at hl 0 rfl) ?_
    refine x_sipush hx hb (by decide) (kX9_init (i := 3) rfl) ?_
    refine n_newa (atype := .int) (N' := 300) (t := 0) (ty := .int) (a0 := (300, .inl (fun _ => Int32.ofInt 0))) C hM q_aI rfl rfl (fun _ _ h1 h2 => Option.some.inj (h1.symm.trans h2)) (fun _ => rfl) (by decide) (by decide) (by decide) (Nat.le_of_ble_eq_true rfl) (Nat.le_of_ble_eq_true rfl) (kX9_init (i := 4) rfl) (fun q1 H hM => ?_)
    obtain ⟨hE, hF⟩ := nw_new (by omega) hE hF (by unfold SX9; rw [if_pos (by omega)])
    have had := nw_ad (q := q1) (n := k + 1) (by omega) had
    refine n_putF (ty := tyX9 0) C hnm hM k (had k (by omega)).symm (by omega) hE (C0 := RX9) (Tt := TX9) (N := 2) rfl inX9 tyX9 tyX9_ok nmX9 0 (by decide) q_fX9_11 rfl rfl (by decide +kernel) rfl rfl (Nat.le_of_ble_eq_true rfl) (kX9_init (i := 5) rfl) (fun H locs hM => ?_)
    obtain ⟨hE, hF⟩ := nw_put hF
    refine lv_aload_n hx hb (kX9_init (i := 6) rfl) rfl (lv_at hl 0 rfl) ?_
    refine x_iconst hx hb (kX9_init (i := 7) rfl) ?_
    refine n_put (ty := tyX9 1) C hM k (had k (by omega)).symm (by omega) hE (C0 := RX9) (Tt := TX9) (N := 2) rfl inX9 tyX9 tyX9_ok nmX9 1 (by decide) q_fX9_15 rfl (by decide +kernel) rfl rfl (Nat.le_of_ble_eq_true rfl) (kX9_init (i := 8) rfl) (fun H locs hM => ?_)
    obtain ⟨hE, hF⟩ := nw_put hF
    refine n_ret C hr hlk hM had (fun j hj => ?_) rfl rfl (kX9_init (i := 9) rfl)
    by_cases h1 : j = k
    · subst h1; rw [hE]; simp [EX9, ue]
    · rw [hF j h1 hj]; simp [EX9, h1]
  exact key _ _ hM
def SX10 (cy : Nat → ClassId) (k : Nat) (E : Nat → va_E) : Nat → va_E := fun j => if j = k + 1 then .inl (cy 0, 8, .inl (fun _ => Int32.ofInt 0)) else if j = k + 2 then .inl (cy 0, 8, .inl (fun _ => Int32.ofInt 0)) else if j = k + 3 then .inl (cy 0, 600, .inl (fun _ => Int32.ofInt 0)) else E j
def EX10 (cy : Nat → ClassId) (k : Nat) (E : Nat → va_E) (ad1 : Nat → Nat) : Nat → va_E := fun j => if j = k then .inr (10, [.ref (ad1 (k + 1)), .ref (ad1 (k + 2)), .ref (ad1 (k + 3)), vi 0]) else SX10 cy k E j
set_option maxRecDepth 100000 in
set_option maxHeartbeats 4000000 in
theorem nX10_init (l : Launch) (D : va_G) (cy : Nat → ClassId) (k : Nat) (ad : Nat → Nat) (E : Nat → va_E) (hE : E k = .inr (10, [.null, .null, .null, vi 0])) : Nt l yX10_init cX10_init 1 3 616 12 D cy k (k + 1) (k + 4) ad E (EX10 cy k E) := by
  refine n_start (by decide) ?_
  intro p e s m args below meth c ls C hnm hr hlk hM hl
  have hx := C.1
  have hb := C.2.1
  have key : ∀ (H : Heap) (locs : List Loc), Hn D (Ap ad (k + 1) s.heap.size) s.heap ad (k + 1) E H locs → W p l e { frames := 1, cells := 3, slots := 616, locals := 12 } s m args below meth c H locs 0 0 (MQ below (QN D ad (k + 1) s.heap.size (k + 4) (EX10 cy k E)) args s 3 616 (Ap ad (k + 1) s.heap.size)) (F0 m 0 ls []) := by
    intro H locs hM
    have hF : ∀ j, j ≠ k → j < k + 1 → E j = SX10 cy k E j := fun j h1 h2 => by unfold SX10; rw [if_neg (by omega), if_neg (by omega), if_neg (by omega)]
    have had : ∀ j, j < k + 1 → ad j = ad j := fun _ _ => rfl
    refine lv_aload_n hx hb (kX10_init (i := 0) rfl) rfl (lv_at hl 0 rfl) ?_
    refine n_obj C hl.1 q_mX10_3 (Nat.le_of_ble_eq_true rfl) (Nat.le_of_ble_eq_true rfl) (kX10_init (i := 1) rfl) ?_
    refine lv_aload_n hx hb (kX10_init (i := 2) rfl) rfl (lv_at hl 0 rfl) ?_
    refine x_bipush hx hb (by decide) (kX10_init (i := 3) rfl) ?_
    refine n_newa (atype := .int) (N' := 8) (t := 0) (ty := .int) (a0 := (8, .inl (fun _ => Int32.ofInt 0))) C hM q_aI rfl rfl (fun _ _ h1 h2 => Option.some.inj (h1.symm.trans h2)) (fun _ => rfl) (by decide) (by decide) (by decide) (Nat.le_of_ble_eq_true rfl) (Nat.le_of_ble_eq_true rfl) (kX10_init (i := 4) rfl) (fun q1 H hM => ?_)
    obtain ⟨hE, hF⟩ := nw_new (by omega) hE hF (by unfold SX10; rw [if_pos (by omega)])
    have had := nw_ad (q := q1) (n := k + 1) (by omega) had
    refine n_putF (ty := tyX10 0) C hnm hM k (had k (by omega)).symm (by omega) hE (C0 := RX10) (Tt := TX10) (N := 4) rfl inX10 tyX10 tyX10_ok nmX10 0 (by decide) q_fX10_11 rfl rfl (by decide +kernel) rfl rfl (Nat.le_of_ble_eq_true rfl) (kX10_init (i := 5) rfl) (fun H locs hM => ?_)
    obtain ⟨hE, hF⟩ := nw_put hF
    refine lv_aload_n hx hb (kX10_init (i := 6) rfl) rfl (lv_at hl 0 rfl) ?_
    refine x_bipush hx hb (by decide) (kX10_init (i := 7) rfl) ?_
    refine n_newa (atype := .int) (N' := 8) (t := 0) (ty := .int) (a0 := (8, .inl (fun _ => Int32.ofInt 0))) C hM q_aI rfl rfl (fun _ _ h1 h2 => Option.some.inj (h1.symm.trans h2)) (fun _ => rfl) (by decide) (by decide) (by decide) (Nat.le_of_ble_eq_true rfl) (Nat.le_of_ble_eq_true rfl) (kX10_init (i := 8) rfl) (fun q2 H hM => ?_)
    obtain ⟨hE, hF⟩ := nw_new (by omega) hE hF (by unfold SX10; rw [if_neg (by omega), if_pos (by omega)])
    have had := nw_ad (q := q2) (n := k + 2) (by omega) had
    refine n_putF (ty := tyX10 1) C hnm hM k (had k (by omega)).symm (by omega) hE (C0 := RX10) (Tt := TX10) (N := 4) rfl inX10 tyX10 tyX10_ok nmX10 1 (by decide) q_fX10_15 rfl rfl (by decide +kernel) rfl rfl (Nat.le_of_ble_eq_true rfl) (kX10_init (i := 9) rfl) (fun H locs hM => ?_)
    obtain ⟨hE, hF⟩ := nw_put hF
    refine lv_aload_n hx hb (kX10_init (i := 10) rfl) rfl (lv_at hl 0 rfl) ?_
    refine x_sipush hx hb (by decide) (kX10_init (i := 11) rfl) ?_
    refine n_newa (atype := .int) (N' := 600) (t := 0) (ty := .int) (a0 := (600, .inl (fun _ => Int32.ofInt 0))) C hM q_aI rfl rfl (fun _ _ h1 h2 => Option.some.inj (h1.symm.trans h2)) (fun _ => rfl) (by decide) (by decide) (by decide) (Nat.le_of_ble_eq_true rfl) (Nat.le_of_ble_eq_true rfl) (kX10_init (i := 12) rfl) (fun q3 H hM => ?_)
    obtain ⟨hE, hF⟩ := nw_new (by omega) hE hF (by unfold SX10; rw [if_neg (by omega), if_neg (by omega), if_pos (by omega)])
    have had := nw_ad (q := q3) (n := k + 3) (by omega) had
    refine n_putF (ty := tyX10 2) C hnm hM k (had k (by omega)).symm (by omega) hE (C0 := RX10) (Tt := TX10) (N := 4) rfl inX10 tyX10 tyX10_ok nmX10 2 (by decide) q_fX10_18 rfl rfl (by decide +kernel) rfl rfl (Nat.le_of_ble_eq_true rfl) (kX10_init (i := 13) rfl) (fun H locs hM => ?_)
    obtain ⟨hE, hF⟩ := nw_put hF
    refine lv_aload_n hx hb (kX10_init (i := 14) rfl) rfl (lv_at hl 0 rfl) ?_
    refine x_iconst hx hb (kX10_init (i := 15) rfl) ?_
    refine n_put (ty := tyX10 3) C hM k (had k (by omega)).symm (by omega) hE (C0 := RX10) (Tt := TX10) (N := 4) rfl inX10 tyX10 tyX10_ok nmX10 3 (by decide) q_fX10_21 rfl (by decide +kernel) rfl rfl (Nat.le_of_ble_eq_true rfl) (kX10_init (i := 16) rfl) (fun H locs hM => ?_)
    obtain ⟨hE, hF⟩ := nw_put hF
    refine n_ret C hr hlk hM had (fun j hj => ?_) rfl rfl (kX10_init (i := 17) rfl)
    by_cases h1 : j = k
    · subst h1; rw [hE]; simp [EX10, ue]
    · rw [hF j h1 hj]; simp [EX10, h1]
  exact key _ _ hM
