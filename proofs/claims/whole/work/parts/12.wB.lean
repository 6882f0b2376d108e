/-! X7_reset -/
def fX7_reset_L7 (r : Nat) : Nat → Int → Mem → Option (Mem)
  | 0, _, _ => none
  | n + 1, y1, g =>
    if 2 ≤ wr y1 then (
      some g
    ) else (
      gd y1 2 <|
      bnd (up g (r + 3) (wr y1).toNat 0) fun g_4 =>
      gd y1 2 <|
      bnd (up g_4 (r + 4) (wr y1).toNat 0) fun g_6 =>
      bnd (y1 + 1) fun x_7 =>
      fX7_reset_L7 r n x_7 g_6
    )
def fX7_reset (r : Nat) (g : Mem) : Option (Mem) :=
  bnd (up g r 4 0) fun g_1 =>
  fX7_reset_L7 r fuel 0 g_1
set_option maxRecDepth 100000 in
set_option maxHeartbeats 4000000 in
theorem wX7_reset_L7 {p : Program} {l : Launch} {e : Env} {s : State} {m : MethodId} {args : Array Value} {below : List Frame} {meth : Method} {c : Code} {Θ : Th} {h0 : Mem} {r : Nat} (hR : isR r) {gR : Mem} (C : Cx p s m args meth c cX7_reset 2 RX7 none Θ) : ∀ (n : Nat) (y1 : Int) (g : Mem) (H : Heap) (locs : List Loc) (ls : Array Slot), fX7_reset_L7 r n y1 g = some gR → Hd Θ s g h0 H locs → lv_has ls 2 [(0, .ref (Θ.2.2.1 r)), (1, vi y1)] → W p l e { frames := 0, cells := 0, slots := 0, locals := 0 } s m args below meth c H locs 0 0 (MQ below (Qx Θ s.heap.size gR h0 none) args s 0 0 (AA Θ s.heap.size)) (F0 m 7 ls []) := by
  intro n
  obtain ⟨hx, hb, hml, hown, hts, -⟩ := id C
  induction n with
  | zero => intro y1 g H locs ls h; cases h
  | succ n ih =>
    intro y1 g H locs ls h  hM hl
    rw [fX7_reset_L7] at h
    refine x_iload_n hx hb (kX7_reset (i := 5) rfl) rfl (lv_at hl 1 rfl) ?_
    refine x_iconst hx hb (kX7_reset (i := 6) rfl) ?_
    refine x_icmp_ge (a' := wr y1) (b' := 2) hx hb rfl (by decide) (tgt := 32) (kX7_reset (i := 7) rfl) (by decide) (fun c_2 => ?_) (fun c_2 => ?_)
    · have h := it_t c_2 h
      rw [← Option.some.inj h]
      exact x_vret C hM (kX7_reset (i := 20) rfl)
    · have h := it_f c_2 h
      refine lv_aload_n hx hb (kX7_reset (i := 8) rfl) rfl (lv_at hl 0 rfl) ?_
      refine gX7_from r hR C hM q_fX7_18 (kX7_reset (i := 9) rfl) ?_
      refine x_iload_n hx hb (kX7_reset (i := 10) rfl) rfl (lv_at hl 1 rfl) ?_
      refine x_iconst hx hb (kX7_reset (i := 11) rfl) ?_
      obtain ⟨hi_3, h⟩ := gd_some h
      obtain ⟨g_4, eg_4, h⟩ := bnd_some h
      refine x_iastX C hM (r + 3) (isR_from hR) (eX_isR_from hR) hi_3 eg_4 (kX7_reset (i := 12) rfl) (fun H locs hM => ?_)
      refine lv_aload_n hx hb (kX7_reset (i := 13) rfl) rfl (lv_at hl 0 rfl) ?_
      refine gX7_to r hR C hM q_fX7_21 (kX7_reset (i := 14) rfl) ?_
      refine x_iload_n hx hb (kX7_reset (i := 15) rfl) rfl (lv_at hl 1 rfl) ?_
      refine x_iconst hx hb (kX7_reset (i := 16) rfl) ?_
      obtain ⟨hi_5, h⟩ := gd_some h
      obtain ⟨g_6, eg_6, h⟩ := bnd_some h
      refine x_iastX C hM (r + 4) (isR_to hR) (eX_isR_to hR) hi_5 eg_6 (kX7_reset (i := 17) rfl) (fun H locs hM => ?_)
      obtain ⟨x_7, ex_7, h⟩ := bnd_some h
      refine x_iinc (k := 1) (lv' := [(1, vi x_7), (0, .ref (Θ.2.2.1 r))]) hx hb (kX7_reset (i := 18) rfl) hl rfl ex_7 (by decide) rfl (fun ls hl => ?_)
      refine lv_goto (tgt := 7) hx hb (kX7_reset (i := 19) rfl) (by decide) ?_
      exact ih x_7 g_6 H locs ls h hM (lv_sub hl [1, 0] rfl)
set_option maxRecDepth 100000 in
set_option maxHeartbeats 4000000 in
theorem tX7_reset (l : Launch) (Θ : Th) (r : Nat) (hR : isR r) (h0 g : Mem) (gR : Mem) (h : fX7_reset r g = some gR) : Ct l yX7_reset cX7_reset 2 none 0 0 Θ [.ref (Θ.2.2.1 r)] g h0 gR h0 none := by
  refine x_start (by decide) (Nat.le_of_ble_eq_true rfl) ?_
  intro p e s m args below meth c ls C hM hl
  have hl : lv_has ls 2 [(0, .ref (Θ.2.2.1 r))] := hl
  obtain ⟨hx, hb, hml, hown, hts, -⟩ := id C
  unfold fX7_reset at h
  have key : ∀ (H : Heap) (locs : List Loc), Hd Θ s g h0 H locs → W p l e { frames := 0, cells := 0, slots := 0, locals := 0 } s m args below meth c H locs 0 0 (MQ below (Qx Θ s.heap.size gR h0 none) args s 0 0 (AA Θ s.heap.size)) (F0 m 0 ls []) := by
    intro H locs hM
    refine lv_aload_n hx hb (kX7_reset (i := 0) rfl) rfl (lv_at hl 0 rfl) ?_
    refine x_iconst hx hb (kX7_reset (i := 1) rfl) ?_
    obtain ⟨g_1, eg_1, h⟩ := bnd_some h
    refine pX7_size r hR C hM q_fX7_24 eg_1 (kX7_reset (i := 2) rfl) (fun H locs hM => ?_)
    refine x_iconst hx hb (kX7_reset (i := 3) rfl) ?_
    refine x_istore_n (lv' := [(1, vi 0), (0, .ref (Θ.2.2.1 r))]) hx hb (kX7_reset (i := 4) rfl) rfl hl (by decide) rfl (fun ls hl => ?_)
    refine wX7_reset_L7  hR C fuel 0 g_1 H locs ls h  hM (lv_sub hl [1, 0] rfl)
  exact key _ _ hM

/-! X9_byteAt -/
def fX9_byteAt (a0 : Int) (g : Mem) : Option (Int) :=
  if wr a0 < 0 then (
    some (-1)
  ) else (
    if wr a0 < wr (g 37 1) then (
      gd a0 300 <|
      some (g 38 (wr a0).toNat)
    ) else (
      some (-1)
    )
  )
set_option maxRecDepth 100000 in
set_option maxHeartbeats 4000000 in
theorem tX9_byteAt (l : Launch) (Θ : Th) (a0 : Int) (h0 g : Mem) (rv : Int) (h : fX9_byteAt a0 g = some rv) : Ct l yX9_byteAt cX9_byteAt 2 (some .int) 0 0 Θ [.ref (Θ.2.2.1 37), vi a0] g h0 g h0 (some (vi rv)) := by
  refine x_start (by decide) (Nat.le_of_ble_eq_true rfl) ?_
  intro p e s m args below meth c ls C hM hl
  have hl : lv_has ls 2 [(0, .ref (Θ.2.2.1 37)), (1, vi a0)] := hl
  obtain ⟨hx, hb, hml, hown, hts, -⟩ := id C
  unfold fX9_byteAt at h
  have key : ∀ (H : Heap) (locs : List Loc), Hd Θ s g h0 H locs → W p l e { frames := 0, cells := 0, slots := 0, locals := 0 } s m args below meth c H locs 0 0 (MQ below (Qx Θ s.heap.size g h0 (some (vi rv))) args s 0 0 (AA Θ s.heap.size)) (F0 m 0 ls []) := by
    intro H locs hM
    refine x_iload_n hx hb (kX9_byteAt (i := 0) rfl) rfl (lv_at hl 1 rfl) ?_
    refine x_if_lt (a' := wr a0) hx hb rfl (tgt := 12) (kX9_byteAt (i := 1) rfl) (by decide) (fun c_1 => ?_) (fun c_1 => ?_)
    · have h := it_t c_1 h
      refine x_iconst hx hb (kX9_byteAt (i := 6) rfl) ?_
      refine lv_goto (tgt := 22) hx hb (kX9_byteAt (i := 7) rfl) (by decide) ?_
      rw [← Option.some.inj h]
      exact x_iret C hM (nar_i _) (kX9_byteAt (i := 12) rfl)
    · have h := it_f c_1 h
      refine x_iload_n hx hb (kX9_byteAt (i := 2) rfl) rfl (lv_at hl 1 rfl) ?_
      refine lv_aload_n hx hb (kX9_byteAt (i := 3) rfl) rfl (lv_at hl 0 rfl) ?_
      refine gX9_length C hM q_fX9_15 (kX9_byteAt (i := 4) rfl) ?_
      refine x_icmp_lt (a' := wr a0) (b' := wr (g 37 1)) hx hb rfl rfl (tgt := 16) (kX9_byteAt (i := 5) rfl) (by decide) (fun c_2 => ?_) (fun c_2 => ?_)
      · have h := it_t c_2 h
        refine lv_aload_n hx hb (kX9_byteAt (i := 8) rfl) rfl (lv_at hl 0 rfl) ?_
        refine gX9_bytes C hM q_fX9_11 (kX9_byteAt (i := 9) rfl) ?_
        refine x_iload_n hx hb (kX9_byteAt (i := 10) rfl) rfl (lv_at hl 1 rfl) ?_
        obtain ⟨hi_3, h⟩ := gd_some h
        refine x_ialdX C hM 38 (by decide) (eX_38 Θ) hi_3 (kX9_byteAt (i := 11) rfl) ?_
        rw [← Option.some.inj h]
        exact x_iret C hM (nar_i _) (kX9_byteAt (i := 12) rfl)
      · have h := it_f c_2 h
        refine x_iconst hx hb (kX9_byteAt (i := 6) rfl) ?_
        refine lv_goto (tgt := 22) hx hb (kX9_byteAt (i := 7) rfl) (by decide) ?_
        rw [← Option.some.inj h]
        exact x_iret C hM (nar_i _) (kX9_byteAt (i := 12) rfl)
  exact key _ _ hM

/-! X5_isLetter -/
def fX5_isLetter (a0 : Int) : Option (Int) :=
  if wr a0 < 97 then (
    some 0
  ) else (
    if 122 < wr a0 then (
      some 0
    ) else (
      some 1
    )
  )
set_option maxRecDepth 100000 in
set_option maxHeartbeats 4000000 in
theorem tX5_isLetter (l : Launch) (Θ : Th) (a0 : Int) (h0 g0 : Mem) (rv : Int) (h : fX5_isLetter a0 = some rv) : Ct l yX5_isLetter cX5_isLetter 1 (some .boolean) 0 0 Θ [vi a0] g0 h0 g0 h0 (some (vi rv)) := by
  refine x_start (by decide) (Nat.le_of_ble_eq_true rfl) ?_
  intro p e s m args below meth c ls C hM hl
  have hl : lv_has ls 1 [(0, vi a0)] := hl
  obtain ⟨hx, hb, hml, hown, hts, -⟩ := id C
  unfold fX5_isLetter at h
  have key : ∀ (H : Heap) (locs : List Loc), Hd Θ s g0 h0 H locs → W p l e { frames := 0, cells := 0, slots := 0, locals := 0 } s m args below meth c H locs 0 0 (MQ below (Qx Θ s.heap.size g0 h0 (some (vi rv))) args s 0 0 (AA Θ s.heap.size)) (F0 m 0 ls []) := by
    intro H locs hM
    refine x_iload_n hx hb (kX5_isLetter (i := 0) rfl) rfl (lv_at hl 0 rfl) ?_
    refine x_bipush hx hb (by decide) (kX5_isLetter (i := 1) rfl) ?_
    refine x_icmp_lt (a' := wr a0) (b' := 97) hx hb rfl (by decide) (tgt := 16) (kX5_isLetter (i := 2) rfl) (by decide) (fun c_1 => ?_) (fun c_1 => ?_)
    · have h := it_t c_1 h
      refine x_iconst hx hb (kX5_isLetter (i := 8) rfl) ?_
      rw [← Option.some.inj h]
      exact x_iret C hM (nar_z (Or.inl rfl)) (kX5_isLetter (i := 9) rfl)
    · have h := it_f c_1 h
      refine x_iload_n hx hb (kX5_isLetter (i := 3) rfl) rfl (lv_at hl 0 rfl) ?_
      refine x_bipush hx hb (by decide) (kX5_isLetter (i := 4) rfl) ?_
      refine x_icmp_gt (a' := wr a0) (b' := 122) hx hb rfl (by decide) (tgt := 16) (kX5_isLetter (i := 5) rfl) (by decide) (fun c_2 => ?_) (fun c_2 => ?_)
      · have h := it_t c_2 h
        refine x_iconst hx hb (kX5_isLetter (i := 8) rfl) ?_
        rw [← Option.some.inj h]
        exact x_iret C hM (nar_z (Or.inl rfl)) (kX5_isLetter (i := 9) rfl)
      · have h := it_f c_2 h
        refine x_iconst hx hb (kX5_isLetter (i := 6) rfl) ?_
        refine lv_goto (tgt := 17) hx hb (kX5_isLetter (i := 7) rfl) (by decide) ?_
        rw [← Option.some.inj h]
        exact x_iret C hM (nar_z (Or.inr rfl)) (kX5_isLetter (i := 9) rfl)
  exact key _ _ hM

/-! X5_isDigit -/
def fX5_isDigit (a0 : Int) : Option (Int) :=
  if wr a0 < 48 then (
    some 0
  ) else (
    if 57 < wr a0 then (
      some 0
    ) else (
      some 1
    )
  )
set_option maxRecDepth 100000 in
set_option maxHeartbeats 4000000 in
theorem tX5_isDigit (l : Launch) (Θ : Th) (a0 : Int) (h0 g0 : Mem) (rv : Int) (h : fX5_isDigit a0 = some rv) : Ct l yX5_isDigit cX5_isDigit 1 (some .boolean) 0 0 Θ [vi a0] g0 h0 g0 h0 (some (vi rv)) := by
  refine x_start (by decide) (Nat.le_of_ble_eq_true rfl) ?_
  intro p e s m args below meth c ls C hM hl
  have hl : lv_has ls 1 [(0, vi a0)] := hl
  obtain ⟨hx, hb, hml, hown, hts, -⟩ := id C
  unfold fX5_isDigit at h
  have key : ∀ (H : Heap) (locs : List Loc), Hd Θ s g0 h0 H locs → W p l e { frames := 0, cells := 0, slots := 0, locals := 0 } s m args below meth c H locs 0 0 (MQ below (Qx Θ s.heap.size g0 h0 (some (vi rv))) args s 0 0 (AA Θ s.heap.size)) (F0 m 0 ls []) := by
    intro H locs hM
    refine x_iload_n hx hb (kX5_isDigit (i := 0) rfl) rfl (lv_at hl 0 rfl) ?_
    refine x_bipush hx hb (by decide) (kX5_isDigit (i := 1) rfl) ?_
    refine x_icmp_lt (a' := wr a0) (b' := 48) hx hb rfl (by decide) (tgt := 16) (kX5_isDigit (i := 2) rfl) (by decide) (fun c_1 => ?_) (fun c_1 => ?_)
    · have h := it_t c_1 h
      refine x_iconst hx hb (kX5_isDigit (i := 8) rfl) ?_
      rw [← Option.some.inj h]
      exact x_iret C hM (nar_z (Or.inl rfl)) (kX5_isDigit (i := 9) rfl)
    · have h := it_f c_1 h
      refine x_iload_n hx hb (kX5_isDigit (i := 3) rfl) rfl (lv_at hl 0 rfl) ?_
      refine x_bipush hx hb (by decide) (kX5_isDigit (i := 4) rfl) ?_
      refine x_icmp_gt (a' := wr a0) (b' := 57) hx hb rfl (by decide) (tgt := 16) (kX5_isDigit (i := 5) rfl) (by decide) (fun c_2 => ?_) (fun c_2 => ?_)
      · have h := it_t c_2 h
        refine x_iconst hx hb (kX5_isDigit (i := 8) rfl) ?_
        rw [← Option.some.inj h]
        exact x_iret C hM (nar_z (Or.inl rfl)) (kX5_isDigit (i := 9) rfl)
      · have h := it_f c_2 h
        refine x_iconst hx hb (kX5_isDigit (i := 6) rfl) ?_
        refine lv_goto (tgt := 17) hx hb (kX5_isDigit (i := 7) rfl) (by decide) ?_
        rw [← Option.some.inj h]
        exact x_iret C hM (nar_z (Or.inr rfl)) (kX5_isDigit (i := 9) rfl)
  exact key _ _ hM

/-! X5_number -/
def fX5_number_L2 : Nat → Int → Mem → (Int → Mem → Option (Int × Mem)) → Option (Int × Mem)
  | 0, _, _, _ => none
  | n + 1, y2, g, K63 =>
    if wr (g 37 1) ≤ wr (g 39 2) then (
      K63 y2 g
    ) else (
      bd (fX9_byteAt (g 39 2) g) fun r_2 =>
      bd (fX5_isDigit r_2) fun r_4 =>
      if wr r_4 = 0 then (
        K63 y2 g
      ) else (
        bd (fX9_byteAt (g 39 2) g) fun r_7 =>
        bnd (mMin 10000 (((y2 * 10) + r_7) - 48)) fun x_9 =>
        bnd (up g 39 2 ((g 39 2) + 1)) fun g_10 =>
        fX5_number_L2 n x_9 g_10 K63
      )
    )
def fX5_number (g : Mem) : Option (Int × Mem) :=
  fX5_number_L2 fuel 0 g
  (fun (z_11 : Int) (g_12 : Mem) =>
    if wr z_11 ≤ 9999 then (
      some (z_11, g_12)
    ) else (
      some (10028, g_12)
    )
  )
set_option maxRecDepth 100000 in
set_option maxHeartbeats 4000000 in
theorem wX5_number_L2 {p : Program} {l : Launch} {e : Env} {s : State} {m : MethodId} {args : Array Value} {below : List Frame} {meth : Method} {c : Code} {Θ : Th} {h0 : Mem} {rv : Int} {gR : Mem} {K63 : Int → Mem → Option (Int × Mem)} (C : Cx p s m args meth c cX5_number 3 RX5 (some .int) Θ) : ∀ (n : Nat) (y2 : Int) (g : Mem) (H : Heap) (locs : List Loc) (ls : Array Slot), fX5_number_L2 n y2 g K63 = some (rv, gR) → (∀ (z2 : Int) (gz : Mem) (H : Heap) (locs : List Loc) (ls : Array Slot), K63 z2 gz = some (rv, gR) → Hd Θ s gz h0 H locs → lv_has ls 3 [(2, vi z2)] → W p l e { frames := 1, cells := 0, slots := 0, locals := 21 } s m args below meth c H locs 0 0 (MQ below (Qx Θ s.heap.size gR h0 (some (vi rv))) args s 0 0 (AA Θ s.heap.size)) (F0 m 63 ls [])) → Hd Θ s g h0 H locs → lv_has ls 3 [(0, .ref (Θ.2.2.1 39)), (1, .ref (Θ.2.2.1 37)), (2, vi y2)] → W p l e { frames := 1, cells := 0, slots := 0, locals := 21 } s m args below meth c H locs 0 0 (MQ below (Qx Θ s.heap.size gR h0 (some (vi rv))) args s 0 0 (AA Θ s.heap.size)) (F0 m 2 ls []) := by
  intro n
  obtain ⟨hx, hb, hml, hown, hts, -⟩ := id C
  induction n with
  | zero => intro y2 g H locs ls h; cases h
  | succ n ih =>
    intro y2 g H locs ls h hK63 hM hl
    rw [fX5_number_L2] at h
    refine lv_aload_n hx hb (kX5_number (i := 2) rfl) rfl (lv_at hl 0 rfl) ?_
    refine gX5_next C hM q_fX5_19 (kX5_number (i := 3) rfl) ?_
    refine lv_aload_n hx hb (kX5_number (i := 4) rfl) rfl (lv_at hl 1 rfl) ?_
    refine gX9_length C hM q_fX5_55 (kX5_number (i := 5) rfl) ?_
    refine x_icmp_ge (a' := wr (g 39 2)) (b' := wr (g 37 1)) hx hb rfl rfl (tgt := 63) (kX5_number (i := 6) rfl) (by decide) (fun c_1 => ?_) (fun c_1 => ?_)
    · have h := it_t c_1 h
      exact hK63 y2 g H locs ls h hM (lv_sub hl [2] rfl)
    · have h := it_f c_1 h
      refine lv_aload_n hx hb (kX5_number (i := 7) rfl) rfl (lv_at hl 1 rfl) ?_
      refine lv_aload_n hx hb (kX5_number (i := 8) rfl) rfl (lv_at hl 0 rfl) ?_
      refine gX5_next C hM q_fX5_19 (kX5_number (i := 9) rfl) ?_
      obtain ⟨r_2, hc_3, h⟩ := bd_some h
      refine x_callV (n := 1) (As := [vi (g 39 2)]) (rest := []) C hM (tX9_byteAt l Θ (g 39 2) h0 g r_2 hc_3) (x_recvX C hM 37 (by decide) (eX_37 Θ _) rfl rfl) q_c_X9_byteAt q_mX5_62 q_i_X9_byteAt q_e_X9_byteAt q_n_X9 (by decide +kernel) ⟨by decide, by decide⟩ rfl hl.1 rfl (Nat.le_of_ble_eq_true rfl) (kX5_number (i := 10) rfl) (fun H locs hM => ?_)
      obtain ⟨r_4, hc_5, h⟩ := bd_some h
      refine x_callS (n := 1) (As := [vi r_2]) (rest := []) C hM (tX5_isDigit l Θ r_2 h0 g r_4 hc_5) q_c_X5_isDigit q_mX5_73 q_s_X5_isDigit q_n_X5 (by decide +kernel) ⟨by decide, by decide⟩ rfl hl.1 rfl (Nat.le_of_ble_eq_true rfl) (kX5_number (i := 11) rfl) (fun H locs hM => ?_)
      refine x_if_eq (a' := wr r_4) hx hb rfl (tgt := 63) (kX5_number (i := 12) rfl) (by decide) (fun c_6 => ?_) (fun c_6 => ?_)
      · have h := it_t c_6 h
        exact hK63 y2 g H locs ls h hM (lv_sub hl [2] rfl)
      · have h := it_f c_6 h
        refine x_sipush hx hb (by decide) (kX5_number (i := 13) rfl) ?_
        refine x_iload_n hx hb (kX5_number (i := 14) rfl) rfl (lv_at hl 2 rfl) ?_
        refine x_bipush hx hb (by decide) (kX5_number (i := 15) rfl) ?_
        refine x_imul hx hb (kX5_number (i := 16) rfl) ?_
        refine lv_aload_n hx hb (kX5_number (i := 17) rfl) rfl (lv_at hl 1 rfl) ?_
        refine lv_aload_n hx hb (kX5_number (i := 18) rfl) rfl (lv_at hl 0 rfl) ?_
        refine gX5_next C hM q_fX5_19 (kX5_number (i := 19) rfl) ?_
        obtain ⟨r_7, hc_8, h⟩ := bd_some h
        refine x_callV (n := 1) (As := [vi (g 39 2)]) (rest := [vi (y2 * 10), vi 10000]) C hM (tX9_byteAt l Θ (g 39 2) h0 g r_7 hc_8) (x_recvX C hM 37 (by decide) (eX_37 Θ _) rfl rfl) q_c_X9_byteAt q_mX5_62 q_i_X9_byteAt q_e_X9_byteAt q_n_X9 (by decide +kernel) ⟨by decide, by decide⟩ rfl hl.1 rfl (Nat.le_of_ble_eq_true rfl) (kX5_number (i := 20) rfl) (fun H locs hM => ?_)
        refine x_iadd hx hb (kX5_number (i := 21) rfl) ?_
        refine x_bipush hx hb (by decide) (kX5_number (i := 22) rfl) ?_
        refine x_isub hx hb (kX5_number (i := 23) rfl) ?_
        refine x_mmin C hl.1 (Nat.le_of_ble_eq_true rfl) (Nat.le_of_ble_eq_true rfl) q_mX5_113 (kX5_number (i := 24) rfl) ?_
        obtain ⟨x_9, ex_9, h⟩ := bnd_some h
        refine x_top ex_9 ?_
        refine x_istore_n (lv' := [(2, vi x_9), (0, .ref (Θ.2.2.1 39)), (1, .ref (Θ.2.2.1 37))]) hx hb (kX5_number (i := 25) rfl) rfl hl (by decide) rfl (fun ls hl => ?_)
        refine lv_aload_n hx hb (kX5_number (i := 26) rfl) rfl (lv_at hl 1 rfl) ?_
        refine lv_dup hx hb (kX5_number (i := 27) rfl) rfl ?_
        refine gX5_next C hM q_fX5_19 (kX5_number (i := 28) rfl) ?_
        refine x_iconst hx hb (kX5_number (i := 29) rfl) ?_
        refine x_iadd hx hb (kX5_number (i := 30) rfl) ?_
        obtain ⟨g_10, eg_10, h⟩ := bnd_some h
        refine pX5_next C hM q_fX5_19 eg_10 (kX5_number (i := 31) rfl) (fun H locs hM => ?_)
        refine lv_goto (tgt := 2) hx hb (kX5_number (i := 32) rfl) (by decide) ?_
        exact ih x_9 g_10 H locs ls h hK63 hM (lv_sub hl [1, 2, 0] rfl)
set_option maxRecDepth 100000 in
set_option maxHeartbeats 4000000 in
theorem tX5_number (l : Launch) (Θ : Th) (h0 g : Mem) (rv : Int) (gR : Mem) (h : fX5_number g = some (rv, gR)) : Ct l yX5_number cX5_number 3 (some .int) 1 21 Θ [.ref (Θ.2.2.1 39), .ref (Θ.2.2.1 37)] g h0 gR h0 (some (vi rv)) := by
  refine x_start (by decide) (Nat.le_of_ble_eq_true rfl) ?_
  intro p e s m args below meth c ls C hM hl
  have hl : lv_has ls 3 [(0, .ref (Θ.2.2.1 39)), (1, .ref (Θ.2.2.1 37))] := hl
  obtain ⟨hx, hb, hml, hown, hts, -⟩ := id C
  unfold fX5_number at h
  have key : ∀ (H : Heap) (locs : List Loc), Hd Θ s g h0 H locs → W p l e { frames := 1, cells := 0, slots := 0, locals := 21 } s m args below meth c H locs 0 0 (MQ below (Qx Θ s.heap.size gR h0 (some (vi rv))) args s 0 0 (AA Θ s.heap.size)) (F0 m 0 ls []) := by
    intro H locs hM
    refine x_iconst hx hb (kX5_number (i := 0) rfl) ?_
    refine x_istore_n (lv' := [(2, vi 0), (0, .ref (Θ.2.2.1 39)), (1, .ref (Θ.2.2.1 37))]) hx hb (kX5_number (i := 1) rfl) rfl hl (by decide) rfl (fun ls hl => ?_)
    refine wX5_number_L2  C fuel 0 g H locs ls h ?_ hM (lv_sub hl [1, 2, 0] rfl)
    · intro z_11 g_12 H locs ls h hM hl
      refine x_iload_n hx hb (kX5_number (i := 33) rfl) rfl (lv_at hl 0 rfl) ?_
      refine x_sipush hx hb (by decide) (kX5_number (i := 34) rfl) ?_
      refine x_icmp_le (a' := wr z_11) (b' := 9999) hx hb rfl (by decide) (tgt := 76) (kX5_number (i := 35) rfl) (by decide) (fun c_13 => ?_) (fun c_13 => ?_)
      · have h := it_t c_13 h
        refine x_iload_n hx hb (kX5_number (i := 38) rfl) rfl (lv_at hl 0 rfl) ?_
        obtain ⟨q1, q2⟩ := ret2 h
        rw [q1, q2]
        exact x_iret C hM (nar_i _) (kX5_number (i := 39) rfl)
      · have h := it_f c_13 h
        refine x_sipush hx hb (by decide) (kX5_number (i := 36) rfl) ?_
        refine lv_goto (tgt := 77) hx hb (kX5_number (i := 37) rfl) (by decide) ?_
        obtain ⟨q1, q2⟩ := ret2 h
        rw [q1, q2]
        exact x_iret C hM (nar_i _) (kX5_number (i := 39) rfl)
  exact key _ _ hM

/-! X5_signToken -/
def fX5_signToken (a0 : Int) : Option (Int) :=
  if wr a0 = 40 then (
    some 10020
  ) else (
  if wr a0 = 41 then (
    some 10021
  ) else (
  if wr a0 = 42 then (
    some 10018
  ) else (
  if wr a0 = 43 then (
    some 10016
  ) else (
  if wr a0 = 45 then (
    some 10017
  ) else (
  if wr a0 = 47 then (
    some 10019
  ) else (
  if wr a0 = 59 then (
    some 10024
  ) else (
  if wr a0 = 60 then (
    some 10013
  ) else (
  if wr a0 = 61 then (
    some 10015
  ) else (
  if wr a0 = 62 then (
    some 10014
  ) else (
  if wr a0 = 91 then (
    some 10022
  ) else (
  if wr a0 = 93 then (
    some 10023
  ) else (
    some 10028
  ))))))))))))
set_option maxRecDepth 100000 in
set_option maxHeartbeats 4000000 in
theorem tX5_signToken (l : Launch) (Θ : Th) (a0 : Int) (h0 g0 : Mem) (rv : Int) (h : fX5_signToken a0 = some rv) : Ct l yX5_signToken cX5_signToken 1 (some .int) 0 0 Θ [vi a0] g0 h0 g0 h0 (some (vi rv)) := by
  refine x_start (by decide) (Nat.le_of_ble_eq_true rfl) ?_
  intro p e s m args below meth c ls C hM hl
  have hl : lv_has ls 1 [(0, vi a0)] := hl
  obtain ⟨hx, hb, hml, hown, hts, -⟩ := id C
  unfold fX5_signToken at h
  have key : ∀ (H : Heap) (locs : List Loc), Hd Θ s g0 h0 H locs → W p l e { frames := 0, cells := 0, slots := 0, locals := 0 } s m args below meth c H locs 0 0 (MQ below (Qx Θ s.heap.size g0 h0 (some (vi rv))) args s 0 0 (AA Θ s.heap.size)) (F0 m 0 ls []) := by
    intro H locs hM
    refine x_iload_n hx hb (kX5_signToken (i := 0) rfl) rfl (lv_at hl 0 rfl) ?_
    by_cases c_1 : wr a0 = 40
    · have h := it_t c_1 h
      refine x_lookupIn (tgt := 124) 40 c_1 hx hb (kX5_signToken (i := 1) rfl) (by decide) rfl (by decide) ?_
      refine x_sipush hx hb (by decide) (kX5_signToken (i := 10) rfl) ?_
      rw [← Option.some.inj h]
      exact x_iret C hM (nar_i _) (kX5_signToken (i := 11) rfl)
    have h := it_f c_1 h
    by_cases c_2 : wr a0 = 41
    · have h := it_t c_2 h
      refine x_lookupIn (tgt := 128) 41 c_2 hx hb (kX5_signToken (i := 1) rfl) (by decide) rfl (by decide) ?_
      refine x_sipush hx hb (by decide) (kX5_signToken (i := 12) rfl) ?_
      rw [← Option.some.inj h]
      exact x_iret C hM (nar_i _) (kX5_signToken (i := 13) rfl)
    have h := it_f c_2 h
    by_cases c_3 : wr a0 = 42
    · have h := it_t c_3 h
      refine x_lookupIn (tgt := 116) 42 c_3 hx hb (kX5_signToken (i := 1) rfl) (by decide) rfl (by decide) ?_
      refine x_sipush hx hb (by decide) (kX5_signToken (i := 6) rfl) ?_
      rw [← Option.some.inj h]
      exact x_iret C hM (nar_i _) (kX5_signToken (i := 7) rfl)
    have h := it_f c_3 h
    by_cases c_4 : wr a0 = 43
    · have h := it_t c_4 h
      refine x_lookupIn (tgt := 108) 43 c_4 hx hb (kX5_signToken (i := 1) rfl) (by decide) rfl (by decide) ?_
      refine x_sipush hx hb (by decide) (kX5_signToken (i := 2) rfl) ?_
      rw [← Option.some.inj h]
      exact x_iret C hM (nar_i _) (kX5_signToken (i := 3) rfl)
    have h := it_f c_4 h
    by_cases c_5 : wr a0 = 45
    · have h := it_t c_5 h
      refine x_lookupIn (tgt := 112) 45 c_5 hx hb (kX5_signToken (i := 1) rfl) (by decide) rfl (by decide) ?_
      refine x_sipush hx hb (by decide) (kX5_signToken (i := 4) rfl) ?_
      rw [← Option.some.inj h]
      exact x_iret C hM (nar_i _) (kX5_signToken (i := 5) rfl)
    have h := it_f c_5 h
    by_cases c_6 : wr a0 = 47
    · have h := it_t c_6 h
      refine x_lookupIn (tgt := 120) 47 c_6 hx hb (kX5_signToken (i := 1) rfl) (by decide) rfl (by decide) ?_
      refine x_sipush hx hb (by decide) (kX5_signToken (i := 8) rfl) ?_
      rw [← Option.some.inj h]
      exact x_iret C hM (nar_i _) (kX5_signToken (i := 9) rfl)
    have h := it_f c_6 h
    by_cases c_7 : wr a0 = 59
    · have h := it_t c_7 h
      refine x_lookupIn (tgt := 152) 59 c_7 hx hb (kX5_signToken (i := 1) rfl) (by decide) rfl (by decide) ?_
      refine x_sipush hx hb (by decide) (kX5_signToken (i := 24) rfl) ?_
      rw [← Option.some.inj h]
      exact x_iret C hM (nar_i _) (kX5_signToken (i := 25) rfl)
    have h := it_f c_7 h
    by_cases c_8 : wr a0 = 60
    · have h := it_t c_8 h
      refine x_lookupIn (tgt := 140) 60 c_8 hx hb (kX5_signToken (i := 1) rfl) (by decide) rfl (by decide) ?_
      refine x_sipush hx hb (by decide) (kX5_signToken (i := 18) rfl) ?_
      rw [← Option.some.inj h]
      exact x_iret C hM (nar_i _) (kX5_signToken (i := 19) rfl)
    have h := it_f c_8 h
    by_cases c_9 : wr a0 = 61
    · have h := it_t c_9 h
      refine x_lookupIn (tgt := 148) 61 c_9 hx hb (kX5_signToken (i := 1) rfl) (by decide) rfl (by decide) ?_
      refine x_sipush hx hb (by decide) (kX5_signToken (i := 22) rfl) ?_
      rw [← Option.some.inj h]
      exact x_iret C hM (nar_i _) (kX5_signToken (i := 23) rfl)
    have h := it_f c_9 h
    by_cases c_10 : wr a0 = 62
    · have h := it_t c_10 h
      refine x_lookupIn (tgt := 144) 62 c_10 hx hb (kX5_signToken (i := 1) rfl) (by decide) rfl (by decide) ?_
      refine x_sipush hx hb (by decide) (kX5_signToken (i := 20) rfl) ?_
      rw [← Option.some.inj h]
      exact x_iret C hM (nar_i _) (kX5_signToken (i := 21) rfl)
    have h := it_f c_10 h
    by_cases c_11 : wr a0 = 91
    · have h := it_t c_11 h
      refine x_lookupIn (tgt := 132) 91 c_11 hx hb (kX5_signToken (i := 1) rfl) (by decide) rfl (by decide) ?_
      refine x_sipush hx hb (by decide) (kX5_signToken (i := 14) rfl) ?_
      rw [← Option.some.inj h]
      exact x_iret C hM (nar_i _) (kX5_signToken (i := 15) rfl)
    have h := it_f c_11 h
    by_cases c_12 : wr a0 = 93
    · have h := it_t c_12 h
      refine x_lookupIn (tgt := 136) 93 c_12 hx hb (kX5_signToken (i := 1) rfl) (by decide) rfl (by decide) ?_
      refine x_sipush hx hb (by decide) (kX5_signToken (i := 16) rfl) ?_
      rw [← Option.some.inj h]
      exact x_iret C hM (nar_i _) (kX5_signToken (i := 17) rfl)
    have h := it_f c_12 h
    refine x_lookupOut (tgt := 156) hx hb (kX5_signToken (i := 1) rfl) (by decide) (by simp [Op.lookupswitch.offset, (show ¬ 40 = wr a0 from fun q => c_1 q.symm), (show ¬ 41 = wr a0 from fun q => c_2 q.symm), (show ¬ 42 = wr a0 from fun q => c_3 q.symm), (show ¬ 43 = wr a0 from fun q => c_4 q.symm), (show ¬ 45 = wr a0 from fun q => c_5 q.symm), (show ¬ 47 = wr a0 from fun q => c_6 q.symm), (show ¬ 59 = wr a0 from fun q => c_7 q.symm), (show ¬ 60 = wr a0 from fun q => c_8 q.symm), (show ¬ 61 = wr a0 from fun q => c_9 q.symm), (show ¬ 62 = wr a0 from fun q => c_10 q.symm), (show ¬ 91 = wr a0 from fun q => c_11 q.symm), (show ¬ 93 = wr a0 from fun q => c_12 q.symm)]) (by decide) ?_
    refine x_sipush hx hb (by decide) (kX5_signToken (i := 26) rfl) ?_
    rw [← Option.some.inj h]
    exact x_iret C hM (nar_i _) (kX5_signToken (i := 27) rfl)
  exact key _ _ hM

/-! X7_has -/
def fX7_has (r : Nat) (a0 : Int) (g : Mem) : Option (Int) :=
  if wr a0 < 0 then (
    some 0
  ) else (
    if 2 ≤ wr a0 then (
      some 0
    ) else (
      gd a0 2 <|
      gd a0 2 <|
      if wr (g (r + 4) (wr a0).toNat) ≤ wr (g (r + 3) (wr a0).toNat) then (
        some 0
      ) else (
        some 1
      )
    )
  )
set_option maxRecDepth 100000 in
set_option maxHeartbeats 4000000 in
theorem tX7_has (l : Launch) (Θ : Th) (r : Nat) (hR : isR r) (a0 : Int) (h0 g : Mem) (rv : Int) (h : fX7_has r a0 g = some rv) : Ct l yX7_has cX7_has 2 (some .boolean) 0 0 Θ [.ref (Θ.2.2.1 r), vi a0] g h0 g h0 (some (vi rv)) := by
  refine x_start (by decide) (Nat.le_of_ble_eq_true rfl) ?_
  intro p e s m args below meth c ls C hM hl
  have hl : lv_has ls 2 [(0, .ref (Θ.2.2.1 r)), (1, vi a0)] := hl
  obtain ⟨hx, hb, hml, hown, hts, -⟩ := id C
  unfold fX7_has at h
  have key : ∀ (H : Heap) (locs : List Loc), Hd Θ s g h0 H locs → W p l e { frames := 0, cells := 0, slots := 0, locals := 0 } s m args below meth c H locs 0 0 (MQ below (Qx Θ s.heap.size g h0 (some (vi rv))) args s 0 0 (AA Θ s.heap.size)) (F0 m 0 ls []) := by
    intro H locs hM
    refine x_iload_n hx hb (kX7_has (i := 0) rfl) rfl (lv_at hl 1 rfl) ?_
    refine x_if_lt (a' := wr a0) hx hb rfl (tgt := 28) (kX7_has (i := 1) rfl) (by decide) (fun c_1 => ?_) (fun c_1 => ?_)
    · have h := it_t c_1 h
      refine x_iconst hx hb (kX7_has (i := 16) rfl) ?_
      rw [← Option.some.inj h]
      exact x_iret C hM (nar_z (Or.inl rfl)) (kX7_has (i := 17) rfl)
    · have h := it_f c_1 h
      refine x_iload_n hx hb (kX7_has (i := 2) rfl) rfl (lv_at hl 1 rfl) ?_
      refine x_iconst hx hb (kX7_has (i := 3) rfl) ?_
      refine x_icmp_ge (a' := wr a0) (b' := 2) hx hb rfl (by decide) (tgt := 28) (kX7_has (i := 4) rfl) (by decide) (fun c_2 => ?_) (fun c_2 => ?_)
      · have h := it_t c_2 h
        refine x_iconst hx hb (kX7_has (i := 16) rfl) ?_
        rw [← Option.some.inj h]
        exact x_iret C hM (nar_z (Or.inl rfl)) (kX7_has (i := 17) rfl)
      · have h := it_f c_2 h
        refine lv_aload_n hx hb (kX7_has (i := 5) rfl) rfl (lv_at hl 0 rfl) ?_
        refine gX7_to r hR C hM q_fX7_21 (kX7_has (i := 6) rfl) ?_
        refine x_iload_n hx hb (kX7_has (i := 7) rfl) rfl (lv_at hl 1 rfl) ?_
        obtain ⟨hi_3, h⟩ := gd_some h
        refine x_ialdX C hM (r + 4) (isR_to hR) (eX_isR_to hR) hi_3 (kX7_has (i := 8) rfl) ?_
        refine lv_aload_n hx hb (kX7_has (i := 9) rfl) rfl (lv_at hl 0 rfl) ?_
        refine gX7_from r hR C hM q_fX7_18 (kX7_has (i := 10) rfl) ?_
        refine x_iload_n hx hb (kX7_has (i := 11) rfl) rfl (lv_at hl 1 rfl) ?_
        obtain ⟨hi_4, h⟩ := gd_some h
        refine x_ialdX C hM (r + 3) (isR_from hR) (eX_isR_from hR) hi_4 (kX7_has (i := 12) rfl) ?_
        refine x_icmp_le (a' := wr (g (r + 4) (wr a0).toNat)) (b' := wr (g (r + 3) (wr a0).toNat)) hx hb rfl rfl (tgt := 28) (kX7_has (i := 13) rfl) (by decide) (fun c_5 => ?_) (fun c_5 => ?_)
        · have h := it_t c_5 h
          refine x_iconst hx hb (kX7_has (i := 16) rfl) ?_
          rw [← Option.some.inj h]
          exact x_iret C hM (nar_z (Or.inl rfl)) (kX7_has (i := 17) rfl)
        · have h := it_f c_5 h
          refine x_iconst hx hb (kX7_has (i := 14) rfl) ?_
          refine lv_goto (tgt := 29) hx hb (kX7_has (i := 15) rfl) (by decide) ?_
          rw [← Option.some.inj h]
          exact x_iret C hM (nar_z (Or.inr rfl)) (kX7_has (i := 17) rfl)
  exact key _ _ hM

/-! X7_open -/
def fX7_open (r : Nat) (a0 : Int) (g : Mem) : Option (Mem) :=
  if wr a0 < 0 then (
    some g
  ) else (
    if 2 ≤ wr a0 then (
      some g
    ) else (
      gd a0 2 <|
      bnd (up g (r + 3) (wr a0).toNat (g r 4)) fun g_4 =>
      some g_4
    )
  )
set_option maxRecDepth 100000 in
set_option maxHeartbeats 4000000 in
theorem tX7_open (l : Launch) (Θ : Th) (r : Nat) (hR : isR r) (a0 : Int) (h0 g : Mem) (gR : Mem) (h : fX7_open r a0 g = some gR) : Ct l yX7_open cX7_open 2 none 0 0 Θ [.ref (Θ.2.2.1 r), vi a0] g h0 gR h0 none := by
  refine x_start (by decide) (Nat.le_of_ble_eq_true rfl) ?_
  intro p e s m args below meth c ls C hM hl
  have hl : lv_has ls 2 [(0, .ref (Θ.2.2.1 r)), (1, vi a0)] := hl
  obtain ⟨hx, hb, hml, hown, hts, -⟩ := id C
  unfold fX7_open at h
  have key : ∀ (H : Heap) (locs : List Loc), Hd Θ s g h0 H locs → W p l e { frames := 0, cells := 0, slots := 0, locals := 0 } s m args below meth c H locs 0 0 (MQ below (Qx Θ s.heap.size gR h0 none) args s 0 0 (AA Θ s.heap.size)) (F0 m 0 ls []) := by
    intro H locs hM
    refine x_iload_n hx hb (kX7_open (i := 0) rfl) rfl (lv_at hl 1 rfl) ?_
    refine x_if_lt (a' := wr a0) hx hb rfl (tgt := 19) (kX7_open (i := 1) rfl) (by decide) (fun c_1 => ?_) (fun c_1 => ?_)
    · have h := it_t c_1 h
      rw [← Option.some.inj h]
      exact x_vret C hM (kX7_open (i := 11) rfl)
    · have h := it_f c_1 h
      refine x_iload_n hx hb (kX7_open (i := 2) rfl) rfl (lv_at hl 1 rfl) ?_
      refine x_iconst hx hb (kX7_open (i := 3) rfl) ?_
      refine x_icmp_ge (a' := wr a0) (b' := 2) hx hb rfl (by decide) (tgt := 19) (kX7_open (i := 4) rfl) (by decide) (fun c_2 => ?_) (fun c_2 => ?_)
      · have h := it_t c_2 h
        rw [← Option.some.inj h]
        exact x_vret C hM (kX7_open (i := 11) rfl)
      · have h := it_f c_2 h
        refine lv_aload_n hx hb (kX7_open (i := 5) rfl) rfl (lv_at hl 0 rfl) ?_
        refine gX7_from r hR C hM q_fX7_18 (kX7_open (i := 6) rfl) ?_
        refine x_iload_n hx hb (kX7_open (i := 7) rfl) rfl (lv_at hl 1 rfl) ?_
        refine lv_aload_n hx hb (kX7_open (i := 8) rfl) rfl (lv_at hl 0 rfl) ?_
        refine gX7_size r hR C hM q_fX7_24 (kX7_open (i := 9) rfl) ?_
        obtain ⟨hi_3, h⟩ := gd_some h
        obtain ⟨g_4, eg_4, h⟩ := bnd_some h
        refine x_iastX C hM (r + 3) (isR_from hR) (eX_isR_from hR) hi_3 eg_4 (kX7_open (i := 10) rfl) (fun H locs hM => ?_)
        rw [← Option.some.inj h]
        exact x_vret C hM (kX7_open (i := 11) rfl)
  exact key _ _ hM

/-! X5_takeClause -/
def fX5_takeClause (r : Nat) (a0 : Int) (g : Mem) : Option (Int × Mem) :=
  jn (fun (_ : Unit) =>
    jn (fun (v_1 : Int) =>
      bnd (up g 39 5 v_1) fun g_2 =>
      bd (fX7_has r (g_2 39 5) g_2) fun r_3 =>
      if wr r_3 = 0 then (
        bd (fX7_open r (g_2 39 5) g_2) fun g_8 =>
        bnd (up g_8 39 7 0) fun g_9 =>
        bnd (up g_9 39 8 0) fun g_10 =>
        bnd (up g_10 39 9 0) fun g_11 =>
        bnd (up g_11 39 4 1) fun g_12 =>
        some (1, g_12)
      ) else (
        some (0, g_2)
      )
    ) fun J29 =>
    if wr a0 = 10025 then (
      J29 0
    ) else (
      J29 1
    )
  ) fun J16 =>
  if wr a0 = 10025 then (
    J16 ()
  ) else (
    if wr a0 = 10026 then (
      J16 ()
    ) else (
      some (0, g)
    )
  )
set_option maxRecDepth 100000 in
set_option maxHeartbeats 4000000 in
theorem tX5_takeClause (l : Launch) (Θ : Th) (r : Nat) (hR : isR r) (a0 : Int) (h0 g : Mem) (rv : Int) (gR : Mem) (h : fX5_takeClause r a0 g = some (rv, gR)) : Ct l yX5_takeClause cX5_takeClause 3 (some .boolean) 1 21 Θ [.ref (Θ.2.2.1 39), vi a0, .ref (Θ.2.2.1 r)] g h0 gR h0 (some (vi rv)) := by
  refine x_start (by decide) (Nat.le_of_ble_eq_true rfl) ?_
  intro p e s m args below meth c ls C hM hl
  have hl : lv_has ls 3 [(0, .ref (Θ.2.2.1 39)), (1, vi a0), (2, .ref (Θ.2.2.1 r))] := hl
  obtain ⟨hx, hb, hml, hown, hts, -⟩ := id C
  unfold fX5_takeClause at h
  have key : ∀ (H : Heap) (locs : List Loc), Hd Θ s g h0 H locs → W p l e { frames := 1, cells := 0, slots := 0, locals := 21 } s m args below meth c H locs 0 0 (MQ below (Qx Θ s.heap.size gR h0 (some (vi rv))) args s 0 0 (AA Θ s.heap.size)) (F0 m 0 ls []) := by
    intro H locs hM
    refine x_iload_n hx hb (kX5_takeClause (i := 0) rfl) rfl (lv_at hl 1 rfl) ?_
    refine x_sipush hx hb (by decide) (kX5_takeClause (i := 1) rfl) ?_
    refine jn_go h (fun J16 : Unit → Option (Int × Mem) => ∀ (H : Heap) (locs : List Loc) (ls : Array Slot), J16 () = some (rv, gR) → Hd Θ s g h0 H locs → lv_has ls 3 [(0, .ref (Θ.2.2.1 39)), (1, vi a0), (2, .ref (Θ.2.2.1 r))] → W p l e { frames := 1, cells := 0, slots := 0, locals := 21 } s m args below meth c H locs 0 0 (MQ below (Qx Θ s.heap.size gR h0 (some (vi rv))) args s 0 0 (AA Θ s.heap.size)) (F0 m 16 ls [])) ?_ ?_
    · intro  H locs ls h hM hl
      refine lv_aload_n hx hb (kX5_takeClause (i := 8) rfl) rfl (lv_at hl 0 rfl) ?_
      refine x_iload_n hx hb (kX5_takeClause (i := 9) rfl) rfl (lv_at hl 1 rfl) ?_
      refine x_sipush hx hb (by decide) (kX5_takeClause (i := 10) rfl) ?_
      refine jn_go h (fun J29 : Int → Option (Int × Mem) => ∀ (v_1 : Int) (H : Heap) (locs : List Loc) (ls : Array Slot), J29 v_1 = some (rv, gR) → Hd Θ s g h0 H locs → lv_has ls 3 [(0, .ref (Θ.2.2.1 39)), (2, .ref (Θ.2.2.1 r))] → W p l e { frames := 1, cells := 0, slots := 0, locals := 21 } s m args below meth c H locs 0 0 (MQ below (Qx Θ s.heap.size gR h0 (some (vi rv))) args s 0 0 (AA Θ s.heap.size)) (F0 m 29 ls [vi v_1, .ref (Θ.2.2.1 39)])) ?_ ?_
      · intro v_1 H locs ls h hM hl
        obtain ⟨g_2, eg_2, h⟩ := bnd_some h
        refine pX5_clause C hM q_fX5_28 eg_2 (kX5_takeClause (i := 15) rfl) (fun H locs hM => ?_)
        refine lv_aload_n hx hb (kX5_takeClause (i := 16) rfl) rfl (lv_at hl 1 rfl) ?_
        refine lv_aload_n hx hb (kX5_takeClause (i := 17) rfl) rfl (lv_at hl 0 rfl) ?_
        refine gX5_clause C hM q_fX5_28 (kX5_takeClause (i := 18) rfl) ?_
        obtain ⟨r_3, hc_4, h⟩ := bd_some h
        refine x_callV (n := 1) (As := [vi (g_2 39 5)]) (rest := []) C hM (tX7_has l Θ r hR (g_2 39 5) h0 g_2 r_3 hc_4) (x_recvX C hM r (isR_lt hR) (eX_isR hR _) rfl rfl) q_c_X7_has q_mX5_134 q_i_X7_has q_e_X7_has q_n_X7 (by decide +kernel) ⟨by decide, by decide⟩ rfl hl.1 rfl (Nat.le_of_ble_eq_true rfl) (kX5_takeClause (i := 19) rfl) (fun H locs hM => ?_)
        refine x_if_eq (a' := wr r_3) hx hb rfl (tgt := 45) (kX5_takeClause (i := 20) rfl) (by decide) (fun c_5 => ?_) (fun c_5 => ?_)
        · have h := it_t c_5 h
          refine lv_aload_n hx hb (kX5_takeClause (i := 23) rfl) rfl (lv_at hl 1 rfl) ?_
          refine lv_aload_n hx hb (kX5_takeClause (i := 24) rfl) rfl (lv_at hl 0 rfl) ?_
          refine gX5_clause C hM q_fX5_28 (kX5_takeClause (i := 25) rfl) ?_
          obtain ⟨g_8, hc_7, h⟩ := bd_some h
          refine x_callV (n := 1) (As := [vi (g_2 39 5)]) (rest := []) C hM (tX7_open l Θ r hR (g_2 39 5) h0 g_2 g_8 hc_7) (x_recvX C hM r (isR_lt hR) (eX_isR hR _) rfl rfl) q_c_X7_open q_mX5_137 q_i_X7_open q_e_X7_open q_n_X7 (by decide +kernel) ⟨by decide, by decide⟩ rfl hl.1 rfl (Nat.le_of_ble_eq_true rfl) (kX5_takeClause (i := 26) rfl) (fun H locs hM => ?_)
          refine lv_aload_n hx hb (kX5_takeClause (i := 27) rfl) rfl (lv_at hl 0 rfl) ?_
          refine x_iconst hx hb (kX5_takeClause (i := 28) rfl) ?_
          obtain ⟨g_9, eg_9, h⟩ := bnd_some h
          refine pX5_parens C hM q_fX5_34 eg_9 (kX5_takeClause (i := 29) rfl) (fun H locs hM => ?_)
          refine lv_aload_n hx hb (kX5_takeClause (i := 30) rfl) rfl (lv_at hl 0 rfl) ?_
          refine x_iconst hx hb (kX5_takeClause (i := 31) rfl) ?_
          obtain ⟨g_10, eg_10, h⟩ := bnd_some h
          refine pX5_brackets C hM q_fX5_37 eg_10 (kX5_takeClause (i := 32) rfl) (fun H locs hM => ?_)
          refine lv_aload_n hx hb (kX5_takeClause (i := 33) rfl) rfl (lv_at hl 0 rfl) ?_
          refine x_iconst hx hb (kX5_takeClause (i := 34) rfl) ?_
          obtain ⟨g_11, eg_11, h⟩ := bnd_some h
          refine pX5_compared C hM q_fX5_40 (Or.inl rfl) eg_11 (kX5_takeClause (i := 35) rfl) (fun H locs hM => ?_)
          refine lv_aload_n hx hb (kX5_takeClause (i := 36) rfl) rfl (lv_at hl 0 rfl) ?_
          refine x_iconst hx hb (kX5_takeClause (i := 37) rfl) ?_
          obtain ⟨g_12, eg_12, h⟩ := bnd_some h
          refine pX5_state C hM q_fX5_25 eg_12 (kX5_takeClause (i := 38) rfl) (fun H locs hM => ?_)
          refine x_iconst hx hb (kX5_takeClause (i := 39) rfl) ?_
          obtain ⟨q1, q2⟩ := ret2 h
          rw [q1, q2]
          exact x_iret C hM (nar_z (Or.inr rfl)) (kX5_takeClause (i := 40) rfl)
        · have h := it_f c_5 h
          refine x_iconst hx hb (kX5_takeClause (i := 21) rfl) ?_
          obtain ⟨q1, q2⟩ := ret2 h
          rw [q1, q2]
          exact x_iret C hM (nar_z (Or.inl rfl)) (kX5_takeClause (i := 22) rfl)
      intro J29 hJ29 h
      refine x_icmp_ne (a' := wr a0) (b' := 10025) hx hb rfl (by decide) (tgt := 28) (kX5_takeClause (i := 11) rfl) (by decide) (fun c_13 => ?_) (fun c_13 => ?_)
      · have h := it_f c_13 h
        refine x_iconst hx hb (kX5_takeClause (i := 14) rfl) ?_
        exact hJ29 1 H locs ls h hM (lv_sub hl [0, 2] rfl)
      · have h := it_t c_13 h
        refine x_iconst hx hb (kX5_takeClause (i := 12) rfl) ?_
        refine lv_goto (tgt := 29) hx hb (kX5_takeClause (i := 13) rfl) (by decide) ?_
        exact hJ29 0 H locs ls h hM (lv_sub hl [0, 2] rfl)
    intro J16 hJ16 h
    refine x_icmp_eq (a' := wr a0) (b' := 10025) hx hb rfl (by decide) (tgt := 16) (kX5_takeClause (i := 2) rfl) (by decide) (fun c_14 => ?_) (fun c_14 => ?_)
    · have h := it_t c_14 h
      exact hJ16 H locs ls h hM (lv_sub hl [0, 1, 2] rfl)
    · have h := it_f c_14 h
      refine x_iload_n hx hb (kX5_takeClause (i := 3) rfl) rfl (lv_at hl 1 rfl) ?_
      refine x_sipush hx hb (by decide) (kX5_takeClause (i := 4) rfl) ?_
      refine x_icmp_eq (a' := wr a0) (b' := 10026) hx hb rfl (by decide) (tgt := 16) (kX5_takeClause (i := 5) rfl) (by decide) (fun c_15 => ?_) (fun c_15 => ?_)
      · have h := it_t c_15 h
        exact hJ16 H locs ls h hM (lv_sub hl [0, 1, 2] rfl)
      · have h := it_f c_15 h
        refine x_iconst hx hb (kX5_takeClause (i := 6) rfl) ?_
        obtain ⟨q1, q2⟩ := ret2 h
        rw [q1, q2]
        exact x_iret C hM (nar_z (Or.inl rfl)) (kX5_takeClause (i := 7) rfl)
  exact key _ _ hM

/-! X5_await -/
def fX5_await (a0 : Int) (g : Mem) : Option (Mem) :=
  if 32 ≤ wr (g 39 1) then (
    some g
  ) else (
    gd (g 39 1) 32 <|
    bnd (up g 40 (wr (g 39 1)).toNat a0) fun g_3 =>
    bnd (up g_3 39 1 ((g_3 39 1) + 1)) fun g_4 =>
    some g_4
  )
set_option maxRecDepth 100000 in
set_option maxHeartbeats 4000000 in
theorem tX5_await (l : Launch) (Θ : Th) (a0 : Int) (h0 g : Mem) (gR : Mem) (h : fX5_await a0 g = some gR) : Ct l yX5_await cX5_await 2 none 0 0 Θ [.ref (Θ.2.2.1 39), vi a0] g h0 gR h0 none := by
  refine x_start (by decide) (Nat.le_of_ble_eq_true rfl) ?_
  intro p e s m args below meth c ls C hM hl
  have hl : lv_has ls 2 [(0, .ref (Θ.2.2.1 39)), (1, vi a0)] := hl
  obtain ⟨hx, hb, hml, hown, hts, -⟩ := id C
  unfold fX5_await at h
  have key : ∀ (H : Heap) (locs : List Loc), Hd Θ s g h0 H locs → W p l e { frames := 0, cells := 0, slots := 0, locals := 0 } s m args below meth c H locs 0 0 (MQ below (Qx Θ s.heap.size gR h0 none) args s 0 0 (AA Θ s.heap.size)) (F0 m 0 ls []) := by
    intro H locs hM
    refine lv_aload_n hx hb (kX5_await (i := 0) rfl) rfl (lv_at hl 0 rfl) ?_
    refine gX5_waits C hM q_fX5_15 (kX5_await (i := 1) rfl) ?_
    refine lv_aload_n hx hb (kX5_await (i := 2) rfl) rfl (lv_at hl 0 rfl) ?_
    refine gX5_waiting C hM q_fX5_9 (kX5_await (i := 3) rfl) ?_
    refine x_alenX C hM 40 (by decide) (eX_40 Θ) (z0 := 32) rfl (kX5_await (i := 4) rfl) ?_
    refine x_icmp_ge (a' := wr (g 39 1)) (b' := 32) hx hb rfl (by decide) (tgt := 32) (kX5_await (i := 5) rfl) (by decide) (fun c_1 => ?_) (fun c_1 => ?_)
    · have h := it_t c_1 h
      rw [← Option.some.inj h]
      exact x_vret C hM (kX5_await (i := 18) rfl)
    · have h := it_f c_1 h
      refine lv_aload_n hx hb (kX5_await (i := 6) rfl) rfl (lv_at hl 0 rfl) ?_
      refine gX5_waiting C hM q_fX5_9 (kX5_await (i := 7) rfl) ?_
      refine lv_aload_n hx hb (kX5_await (i := 8) rfl) rfl (lv_at hl 0 rfl) ?_
      refine gX5_waits C hM q_fX5_15 (kX5_await (i := 9) rfl) ?_
      refine x_iload_n hx hb (kX5_await (i := 10) rfl) rfl (lv_at hl 1 rfl) ?_
      obtain ⟨hi_2, h⟩ := gd_some h
      obtain ⟨g_3, eg_3, h⟩ := bnd_some h
      refine x_iastX C hM 40 (by decide) (eX_40 Θ) hi_2 eg_3 (kX5_await (i := 11) rfl) (fun H locs hM => ?_)
      refine lv_aload_n hx hb (kX5_await (i := 12) rfl) rfl (lv_at hl 0 rfl) ?_
      refine lv_dup hx hb (kX5_await (i := 13) rfl) rfl ?_
      refine gX5_waits C hM q_fX5_15 (kX5_await (i := 14) rfl) ?_
      refine x_iconst hx hb (kX5_await (i := 15) rfl) ?_
      refine x_iadd hx hb (kX5_await (i := 16) rfl) ?_
      obtain ⟨g_4, eg_4, h⟩ := bnd_some h
      refine pX5_waits C hM q_fX5_15 eg_4 (kX5_await (i := 17) rfl) (fun H locs hM => ?_)
      rw [← Option.some.inj h]
      exact x_vret C hM (kX5_await (i := 18) rfl)
  exact key _ _ hM

/-! X5_goDeeper -/
def fX5_goDeeper (a0 : Int) (g : Mem) : Option (Int × Mem) :=
  if wr (g 39 6) < 8 then (
    bnd (up g 39 6 ((g 39 6) + 1)) fun g_2 =>
    bd (fX5_await a0 g_2) fun g_5 =>
    some (1, g_5)
  ) else (
    some (0, g)
  )
set_option maxRecDepth 100000 in
set_option maxHeartbeats 4000000 in
theorem tX5_goDeeper (l : Launch) (Θ : Th) (a0 : Int) (h0 g : Mem) (rv : Int) (gR : Mem) (h : fX5_goDeeper a0 g = some (rv, gR)) : Ct l yX5_goDeeper cX5_goDeeper 2 (some .boolean) 1 21 Θ [.ref (Θ.2.2.1 39), vi a0] g h0 gR h0 (some (vi rv)) := by
  refine x_start (by decide) (Nat.le_of_ble_eq_true rfl) ?_
  intro p e s m args below meth c ls C hM hl
  have hl : lv_has ls 2 [(0, .ref (Θ.2.2.1 39)), (1, vi a0)] := hl
  obtain ⟨hx, hb, hml, hown, hts, -⟩ := id C
  unfold fX5_goDeeper at h
  have key : ∀ (H : Heap) (locs : List Loc), Hd Θ s g h0 H locs → W p l e { frames := 1, cells := 0, slots := 0, locals := 21 } s m args below meth c H locs 0 0 (MQ below (Qx Θ s.heap.size gR h0 (some (vi rv))) args s 0 0 (AA Θ s.heap.size)) (F0 m 0 ls []) := by
    intro H locs hM
    refine lv_aload_n hx hb (kX5_goDeeper (i := 0) rfl) rfl (lv_at hl 0 rfl) ?_
    refine gX5_depth C hM q_fX5_31 (kX5_goDeeper (i := 1) rfl) ?_
    refine x_bipush hx hb (by decide) (kX5_goDeeper (i := 2) rfl) ?_
    refine x_icmp_lt (a' := wr (g 39 6)) (b' := 8) hx hb rfl (by decide) (tgt := 11) (kX5_goDeeper (i := 3) rfl) (by decide) (fun c_1 => ?_) (fun c_1 => ?_)
    · have h := it_t c_1 h
      refine lv_aload_n hx hb (kX5_goDeeper (i := 6) rfl) rfl (lv_at hl 0 rfl) ?_
      refine lv_dup hx hb (kX5_goDeeper (i := 7) rfl) rfl ?_
      refine gX5_depth C hM q_fX5_31 (kX5_goDeeper (i := 8) rfl) ?_
      refine x_iconst hx hb (kX5_goDeeper (i := 9) rfl) ?_
      refine x_iadd hx hb (kX5_goDeeper (i := 10) rfl) ?_
      obtain ⟨g_2, eg_2, h⟩ := bnd_some h
      refine pX5_depth C hM q_fX5_31 eg_2 (kX5_goDeeper (i := 11) rfl) (fun H locs hM => ?_)
      refine lv_aload_n hx hb (kX5_goDeeper (i := 12) rfl) rfl (lv_at hl 0 rfl) ?_
      refine x_iload_n hx hb (kX5_goDeeper (i := 13) rfl) rfl (lv_at hl 1 rfl) ?_
      obtain ⟨g_5, hc_4, h⟩ := bd_some h
      refine x_callV (n := 1) (As := [vi a0]) (rest := []) C hM (tX5_await l Θ a0 h0 g_2 g_5 hc_4) (x_recvX C hM 39 (by decide) (eX_39 Θ _) rfl rfl) q_c_X5_await q_mX5_157 q_i_X5_await q_e_X5_await q_n_X5 (by decide +kernel) ⟨by decide, by decide⟩ rfl hl.1 rfl (Nat.le_of_ble_eq_true rfl) (kX5_goDeeper (i := 14) rfl) (fun H locs hM => ?_)
      refine x_iconst hx hb (kX5_goDeeper (i := 15) rfl) ?_
      obtain ⟨q1, q2⟩ := ret2 h
      rw [q1, q2]
      exact x_iret C hM (nar_z (Or.inr rfl)) (kX5_goDeeper (i := 16) rfl)
    · have h := it_f c_1 h
      refine x_iconst hx hb (kX5_goDeeper (i := 4) rfl) ?_
      obtain ⟨q1, q2⟩ := ret2 h
      rw [q1, q2]
      exact x_iret C hM (nar_z (Or.inl rfl)) (kX5_goDeeper (i := 5) rfl)
  exact key _ _ hM

/-! X7_emit -/
def fX7_emit (r : Nat) (a0 : Int) (g : Mem) : Option (Mem) :=
  if 300 ≤ wr (g r 4) then (
    some g
  ) else (
    gd (g r 4) 300 <|
    bnd (up g (r + 1) (wr (g r 4)).toNat a0) fun g_3 =>
    bnd (up g_3 r 4 ((g_3 r 4) + 1)) fun g_4 =>
    some g_4
  )
set_option maxRecDepth 100000 in
set_option maxHeartbeats 4000000 in
theorem tX7_emit (l : Launch) (Θ : Th) (r : Nat) (hR : isR r) (a0 : Int) (h0 g : Mem) (gR : Mem) (h : fX7_emit r a0 g = some gR) : Ct l yX7_emit cX7_emit 2 none 0 0 Θ [.ref (Θ.2.2.1 r), vi a0] g h0 gR h0 none := by
  refine x_start (by decide) (Nat.le_of_ble_eq_true rfl) ?_
  intro p e s m args below meth c ls C hM hl
  have hl : lv_has ls 2 [(0, .ref (Θ.2.2.1 r)), (1, vi a0)] := hl
  obtain ⟨hx, hb, hml, hown, hts, -⟩ := id C
  unfold fX7_emit at h
  have key : ∀ (H : Heap) (locs : List Loc), Hd Θ s g h0 H locs → W p l e { frames := 0, cells := 0, slots := 0, locals := 0 } s m args below meth c H locs 0 0 (MQ below (Qx Θ s.heap.size gR h0 none) args s 0 0 (AA Θ s.heap.size)) (F0 m 0 ls []) := by
    intro H locs hM
    refine lv_aload_n hx hb (kX7_emit (i := 0) rfl) rfl (lv_at hl 0 rfl) ?_
    refine gX7_size r hR C hM q_fX7_24 (kX7_emit (i := 1) rfl) ?_
    refine lv_aload_n hx hb (kX7_emit (i := 2) rfl) rfl (lv_at hl 0 rfl) ?_
    refine gX7_codes r hR C hM q_fX7_9 (kX7_emit (i := 3) rfl) ?_
    refine x_alenX C hM (r + 1) (isR_codes hR) (eX_isR_codes hR) (z0 := 300) rfl (kX7_emit (i := 4) rfl) ?_
    refine x_icmp_ge (a' := wr (g r 4)) (b' := 300) hx hb rfl (by decide) (tgt := 32) (kX7_emit (i := 5) rfl) (by decide) (fun c_1 => ?_) (fun c_1 => ?_)
    · have h := it_t c_1 h
      rw [← Option.some.inj h]
      exact x_vret C hM (kX7_emit (i := 18) rfl)
    · have h := it_f c_1 h
      refine lv_aload_n hx hb (kX7_emit (i := 6) rfl) rfl (lv_at hl 0 rfl) ?_
      refine gX7_codes r hR C hM q_fX7_9 (kX7_emit (i := 7) rfl) ?_
      refine lv_aload_n hx hb (kX7_emit (i := 8) rfl) rfl (lv_at hl 0 rfl) ?_
      refine gX7_size r hR C hM q_fX7_24 (kX7_emit (i := 9) rfl) ?_
      refine x_iload_n hx hb (kX7_emit (i := 10) rfl) rfl (lv_at hl 1 rfl) ?_
      obtain ⟨hi_2, h⟩ := gd_some h
      obtain ⟨g_3, eg_3, h⟩ := bnd_some h
      refine x_iastX C hM (r + 1) (isR_codes hR) (eX_isR_codes hR) hi_2 eg_3 (kX7_emit (i := 11) rfl) (fun H locs hM => ?_)
      refine lv_aload_n hx hb (kX7_emit (i := 12) rfl) rfl (lv_at hl 0 rfl) ?_
      refine lv_dup hx hb (kX7_emit (i := 13) rfl) rfl ?_
      refine gX7_size r hR C hM q_fX7_24 (kX7_emit (i := 14) rfl) ?_
      refine x_iconst hx hb (kX7_emit (i := 15) rfl) ?_
      refine x_iadd hx hb (kX7_emit (i := 16) rfl) ?_
      obtain ⟨g_4, eg_4, h⟩ := bnd_some h
      refine pX7_size r hR C hM q_fX7_24 eg_4 (kX7_emit (i := 17) rfl) (fun H locs hM => ?_)
      rw [← Option.some.inj h]
      exact x_vret C hM (kX7_emit (i := 18) rfl)
  exact key _ _ hM

/-! X5_takeOperand -/
def fX5_takeOperand (r : Nat) (a0 : Int) (g : Mem) : Option (Int × Mem) :=
  if wr a0 = 10020 then (
    bnd (up g 39 7 ((g 39 7) + 1)) fun g_8 =>
    bnd (up g_8 39 4 2) fun g_9 =>
    bd2 (fX5_goDeeper a0 g_9) fun r_10 g_12 =>
    gc (r_10 = 0 ∨ r_10 = 1) <|
    some (r_10, g_12)
  ) else (
    if wr a0 < 0 then (
      some (0, g)
    ) else (
      if wr a0 < 10010 then (
        bd (fX7_emit r a0 g) fun g_6 =>
        bnd (up g_6 39 4 3) fun g_7 =>
        some (1, g_7)
      ) else (
        some (0, g)
      )
    )
  )
set_option maxRecDepth 100000 in
set_option maxHeartbeats 4000000 in
theorem tX5_takeOperand (l : Launch) (Θ : Th) (r : Nat) (hR : isR r) (a0 : Int) (h0 g : Mem) (rv : Int) (gR : Mem) (h : fX5_takeOperand r a0 g = some (rv, gR)) : Ct l yX5_takeOperand cX5_takeOperand 3 (some .boolean) 2 42 Θ [.ref (Θ.2.2.1 39), vi a0, .ref (Θ.2.2.1 r)] g h0 gR h0 (some (vi rv)) := by
  refine x_start (by decide) (Nat.le_of_ble_eq_true rfl) ?_
  intro p e s m args below meth c ls C hM hl
  have hl : lv_has ls 3 [(0, .ref (Θ.2.2.1 39)), (1, vi a0), (2, .ref (Θ.2.2.1 r))] := hl
  obtain ⟨hx, hb, hml, hown, hts, -⟩ := id C
  unfold fX5_takeOperand at h
  have key : ∀ (H : Heap) (locs : List Loc), Hd Θ s g h0 H locs → W p l e { frames := 2, cells := 0, slots := 0, locals := 42 } s m args below meth c H locs 0 0 (MQ below (Qx Θ s.heap.size gR h0 (some (vi rv))) args s 0 0 (AA Θ s.heap.size)) (F0 m 0 ls []) := by
    intro H locs hM
    refine x_iload_n hx hb (kX5_takeOperand (i := 0) rfl) rfl (lv_at hl 1 rfl) ?_
    refine x_sipush hx hb (by decide) (kX5_takeOperand (i := 1) rfl) ?_
    refine x_icmp_ne (a' := wr a0) (b' := 10020) hx hb rfl (by decide) (tgt := 28) (kX5_takeOperand (i := 2) rfl) (by decide) (fun c_1 => ?_) (fun c_1 => ?_)
    · have h := it_f c_1 h
      refine x_iload_n hx hb (kX5_takeOperand (i := 16) rfl) rfl (lv_at hl 1 rfl) ?_
      refine x_if_lt (a' := wr a0) hx hb rfl (tgt := 39) (kX5_takeOperand (i := 17) rfl) (by decide) (fun c_2 => ?_) (fun c_2 => ?_)
      · have h := it_t c_2 h
        refine x_iconst hx hb (kX5_takeOperand (i := 21) rfl) ?_
        obtain ⟨q1, q2⟩ := ret2 h
        rw [q1, q2]
        exact x_iret C hM (nar_z (Or.inl rfl)) (kX5_takeOperand (i := 22) rfl)
      · have h := it_f c_2 h
        refine x_iload_n hx hb (kX5_takeOperand (i := 18) rfl) rfl (lv_at hl 1 rfl) ?_
        refine x_sipush hx hb (by decide) (kX5_takeOperand (i := 19) rfl) ?_
        refine x_icmp_lt (a' := wr a0) (b' := 10010) hx hb rfl (by decide) (tgt := 41) (kX5_takeOperand (i := 20) rfl) (by decide) (fun c_3 => ?_) (fun c_3 => ?_)
        · have h := it_t c_3 h
          refine lv_aload_n hx hb (kX5_takeOperand (i := 23) rfl) rfl (lv_at hl 2 rfl) ?_
          refine x_iload_n hx hb (kX5_takeOperand (i := 24) rfl) rfl (lv_at hl 1 rfl) ?_
          obtain ⟨g_6, hc_5, h⟩ := bd_some h
          refine x_callV (n := 1) (As := [vi a0]) (rest := []) C hM (tX7_emit l Θ r hR a0 h0 g g_6 hc_5) (x_recvX C hM r (isR_lt hR) (eX_isR hR _) rfl rfl) q_c_X7_emit q_mX5_141 q_i_X7_emit q_e_X7_emit q_n_X7 (by decide +kernel) ⟨by decide, by decide⟩ rfl hl.1 rfl (Nat.le_of_ble_eq_true rfl) (kX5_takeOperand (i := 25) rfl) (fun H locs hM => ?_)
          refine lv_aload_n hx hb (kX5_takeOperand (i := 26) rfl) rfl (lv_at hl 0 rfl) ?_
          refine x_iconst hx hb (kX5_takeOperand (i := 27) rfl) ?_
          obtain ⟨g_7, eg_7, h⟩ := bnd_some h
          refine pX5_state C hM q_fX5_25 eg_7 (kX5_takeOperand (i := 28) rfl) (fun H locs hM => ?_)
          refine x_iconst hx hb (kX5_takeOperand (i := 29) rfl) ?_
          obtain ⟨q1, q2⟩ := ret2 h
          rw [q1, q2]
          exact x_iret C hM (nar_z (Or.inr rfl)) (kX5_takeOperand (i := 30) rfl)
        · have h := it_f c_3 h
          refine x_iconst hx hb (kX5_takeOperand (i := 21) rfl) ?_
          obtain ⟨q1, q2⟩ := ret2 h
          rw [q1, q2]
          exact x_iret C hM (nar_z (Or.inl rfl)) (kX5_takeOperand (i := 22) rfl)
    · have h := it_t c_1 h
      refine lv_aload_n hx hb (kX5_takeOperand (i := 3) rfl) rfl (lv_at hl 0 rfl) ?_
      refine lv_dup hx hb (kX5_takeOperand (i := 4) rfl) rfl ?_
      refine gX5_parens C hM q_fX5_34 (kX5_takeOperand (i := 5) rfl) ?_
      refine x_iconst hx hb (kX5_takeOperand (i := 6) rfl) ?_
      refine x_iadd hx hb (kX5_takeOperand (i := 7) rfl) ?_
      obtain ⟨g_8, eg_8, h⟩ := bnd_some h
      refine pX5_parens C hM q_fX5_34 eg_8 (kX5_takeOperand (i := 8) rfl) (fun H locs hM => ?_)
      refine lv_aload_n hx hb (kX5_takeOperand (i := 9) rfl) rfl (lv_at hl 0 rfl) ?_
      refine x_iconst hx hb (kX5_takeOperand (i := 10) rfl) ?_
      obtain ⟨g_9, eg_9, h⟩ := bnd_some h
      refine pX5_state C hM q_fX5_25 eg_9 (kX5_takeOperand (i := 11) rfl) (fun H locs hM => ?_)
      refine lv_aload_n hx hb (kX5_takeOperand (i := 12) rfl) rfl (lv_at hl 0 rfl) ?_
      refine x_iload_n hx hb (kX5_takeOperand (i := 13) rfl) rfl (lv_at hl 1 rfl) ?_
      obtain ⟨r_10, g_12, hc_11, h⟩ := bd2_some h
      refine x_callV (n := 1) (As := [vi a0]) (rest := []) C hM (tX5_goDeeper l Θ a0 h0 g_9 r_10 g_12 hc_11) (x_recvX C hM 39 (by decide) (eX_39 Θ _) rfl rfl) q_c_X5_goDeeper q_mX5_122 q_i_X5_goDeeper q_e_X5_goDeeper q_n_X5 (by decide +kernel) ⟨by decide, by decide⟩ rfl hl.1 rfl (Nat.le_of_ble_eq_true rfl) (kX5_takeOperand (i := 14) rfl) (fun H locs hM => ?_)
      obtain ⟨hz_13, h⟩ := gc_some h
      obtain ⟨q1, q2⟩ := ret2 h
      rw [q1, q2]
      exact x_iret C hM (nar_z hz_13) (kX5_takeOperand (i := 15) rfl)
  exact key _ _ hM

/-! X5_bindingOf -/
def fX5_bindingOf (a0 : Int) : Option (Int) :=
  if wr a0 = 10010 then (
    some 1
  ) else (
  if wr a0 = 10011 then (
    some 2
  ) else (
  if wr a0 = 10012 then (
    some 3
  ) else (
  if wr a0 = 10013 then (
    some 4
  ) else (
  if wr a0 = 10014 then (
    some 4
  ) else (
  if wr a0 = 10015 then (
    some 4
  ) else (
  if wr a0 = 10016 then (
    some 5
  ) else (
  if wr a0 = 10017 then (
    some 5
  ) else (
  if wr a0 = 10018 then (
    some 6
  ) else (
  if wr a0 = 10019 then (
    some 6
  ) else (
    some 0
  ))))))))))
set_option maxRecDepth 100000 in
set_option maxHeartbeats 4000000 in
theorem tX5_bindingOf (l : Launch) (Θ : Th) (a0 : Int) (h0 g0 : Mem) (rv : Int) (h : fX5_bindingOf a0 = some rv) : Ct l yX5_bindingOf cX5_bindingOf 1 (some .int) 0 0 Θ [vi a0] g0 h0 g0 h0 (some (vi rv)) := by
  refine x_start (by decide) (Nat.le_of_ble_eq_true rfl) ?_
  intro p e s m args below meth c ls C hM hl
  have hl : lv_has ls 1 [(0, vi a0)] := hl
  obtain ⟨hx, hb, hml, hown, hts, -⟩ := id C
  unfold fX5_bindingOf at h
  have key : ∀ (H : Heap) (locs : List Loc), Hd Θ s g0 h0 H locs → W p l e { frames := 0, cells := 0, slots := 0, locals := 0 } s m args below meth c H locs 0 0 (MQ below (Qx Θ s.heap.size g0 h0 (some (vi rv))) args s 0 0 (AA Θ s.heap.size)) (F0 m 0 ls []) := by
    intro H locs hM
    refine x_iload_n hx hb (kX5_bindingOf (i := 0) rfl) rfl (lv_at hl 0 rfl) ?_
    by_cases c_1 : wr a0 = 10010
    · have h := it_t c_1 h
      refine x_tableIn (tgt := 56) 10010 c_1 hx hb (kX5_bindingOf (i := 1) rfl) (by decide) (by decide) rfl (by decide) ?_
      refine x_iconst hx hb (kX5_bindingOf (i := 2) rfl) ?_
      rw [← Option.some.inj h]
      exact x_iret C hM (nar_i _) (kX5_bindingOf (i := 3) rfl)
    have h := it_f c_1 h
    by_cases c_2 : wr a0 = 10011
    · have h := it_t c_2 h
      refine x_tableIn (tgt := 58) 10011 c_2 hx hb (kX5_bindingOf (i := 1) rfl) (by decide) (by decide) rfl (by decide) ?_
      refine x_iconst hx hb (kX5_bindingOf (i := 4) rfl) ?_
      rw [← Option.some.inj h]
      exact x_iret C hM (nar_i _) (kX5_bindingOf (i := 5) rfl)
    have h := it_f c_2 h
    by_cases c_3 : wr a0 = 10012
    · have h := it_t c_3 h
      refine x_tableIn (tgt := 60) 10012 c_3 hx hb (kX5_bindingOf (i := 1) rfl) (by decide) (by decide) rfl (by decide) ?_
      refine x_iconst hx hb (kX5_bindingOf (i := 6) rfl) ?_
      rw [← Option.some.inj h]
      exact x_iret C hM (nar_i _) (kX5_bindingOf (i := 7) rfl)
    have h := it_f c_3 h
    by_cases c_4 : wr a0 = 10013
    · have h := it_t c_4 h
      refine x_tableIn (tgt := 62) 10013 c_4 hx hb (kX5_bindingOf (i := 1) rfl) (by decide) (by decide) rfl (by decide) ?_
      refine x_iconst hx hb (kX5_bindingOf (i := 8) rfl) ?_
      rw [← Option.some.inj h]
      exact x_iret C hM (nar_i _) (kX5_bindingOf (i := 9) rfl)
    have h := it_f c_4 h
    by_cases c_5 : wr a0 = 10014
    · have h := it_t c_5 h
      refine x_tableIn (tgt := 62) 10014 c_5 hx hb (kX5_bindingOf (i := 1) rfl) (by decide) (by decide) rfl (by decide) ?_
      refine x_iconst hx hb (kX5_bindingOf (i := 8) rfl) ?_
      rw [← Option.some.inj h]
      exact x_iret C hM (nar_i _) (kX5_bindingOf (i := 9) rfl)
    have h := it_f c_5 h
    by_cases c_6 : wr a0 = 10015
    · have h := it_t c_6 h
      refine x_tableIn (tgt := 62) 10015 c_6 hx hb (kX5_bindingOf (i := 1) rfl) (by decide) (by decide) rfl (by decide) ?_
      refine x_iconst hx hb (kX5_bindingOf (i := 8) rfl) ?_
      rw [← Option.some.inj h]
      exact x_iret C hM (nar_i _) (kX5_bindingOf (i := 9) rfl)
    have h := it_f c_6 h
    by_cases c_7 : wr a0 = 10016
    · have h := it_t c_7 h
      refine x_tableIn (tgt := 64) 10016 c_7 hx hb (kX5_bindingOf (i := 1) rfl) (by decide) (by decide) rfl (by decide) ?_
      refine x_iconst hx hb (kX5_bindingOf (i := 10) rfl) ?_
      rw [← Option.some.inj h]
      exact x_iret C hM (nar_i _) (kX5_bindingOf (i := 11) rfl)
    have h := it_f c_7 h
    by_cases c_8 : wr a0 = 10017
    · have h := it_t c_8 h
      refine x_tableIn (tgt := 64) 10017 c_8 hx hb (kX5_bindingOf (i := 1) rfl) (by decide) (by decide) rfl (by decide) ?_
      refine x_iconst hx hb (kX5_bindingOf (i := 10) rfl) ?_
      rw [← Option.some.inj h]
      exact x_iret C hM (nar_i _) (kX5_bindingOf (i := 11) rfl)
    have h := it_f c_8 h
    by_cases c_9 : wr a0 = 10018
    · have h := it_t c_9 h
      refine x_tableIn (tgt := 66) 10018 c_9 hx hb (kX5_bindingOf (i := 1) rfl) (by decide) (by decide) rfl (by decide) ?_
      refine x_bipush hx hb (by decide) (kX5_bindingOf (i := 12) rfl) ?_
      rw [← Option.some.inj h]
      exact x_iret C hM (nar_i _) (kX5_bindingOf (i := 13) rfl)
    have h := it_f c_9 h
    by_cases c_10 : wr a0 = 10019
    · have h := it_t c_10 h
      refine x_tableIn (tgt := 66) 10019 c_10 hx hb (kX5_bindingOf (i := 1) rfl) (by decide) (by decide) rfl (by decide) ?_
      refine x_bipush hx hb (by decide) (kX5_bindingOf (i := 12) rfl) ?_
      rw [← Option.some.inj h]
      exact x_iret C hM (nar_i _) (kX5_bindingOf (i := 13) rfl)
    have h := it_f c_10 h
    refine x_tableOut (tgt := 69) hx hb (kX5_bindingOf (i := 1) rfl) (by omega) (by decide) ?_
    refine x_iconst hx hb (kX5_bindingOf (i := 14) rfl) ?_
    rw [← Option.some.inj h]
    exact x_iret C hM (nar_i _) (kX5_bindingOf (i := 15) rfl)
  exact key _ _ hM

/-! X5_release -/
def fX5_release_L0 (r : Nat) : Nat → Int → Mem → Option (Mem)
  | 0, _, _ => none
  | n + 1, y1, g =>
    if wr (g 39 1) ≤ 0 then (
      some g
    ) else (
      if 32 < wr (g 39 1) then (
        some g
      ) else (
        gd ((g 39 1) - 1) 32 <|
        bd (fX5_bindingOf (g 40 (wr ((g 39 1) - 1)).toNat)) fun r_4 =>
        if wr r_4 < wr y1 then (
          some g
        ) else (
          bnd (up g 39 1 ((g 39 1) - 1)) fun g_7 =>
          gd (g_7 39 1) 32 <|
          jn (fun (g_9 : Mem) =>
            gd (g_9 39 1) 32 <|
            bd (fX7_emit r (g_9 40 (wr (g_9 39 1)).toNat) g_9) fun g_13 =>
            fX5_release_L0 r n y1 g_13
          ) fun J72 =>
          if wr (g_7 40 (wr (g_7 39 1)).toNat) = 10012 then (
            bnd (up g_7 39 6 ((g_7 39 6) - 1)) fun g_15 =>
            J72 g_15
          ) else (
            J72 g_7
          )
        )
      )
    )
def fX5_release (r : Nat) (a0 : Int) (g : Mem) : Option (Mem) :=
  fX5_release_L0 r fuel a0 g
set_option maxRecDepth 100000 in
set_option maxHeartbeats 4000000 in
theorem wX5_release_L0 {p : Program} {l : Launch} {e : Env} {s : State} {m : MethodId} {args : Array Value} {below : List Frame} {meth : Method} {c : Code} {Θ : Th} {h0 : Mem} {r : Nat} (hR : isR r) {gR : Mem} (C : Cx p s m args meth c cX5_release 3 RX5 none Θ) : ∀ (n : Nat) (y1 : Int) (g : Mem) (H : Heap) (locs : List Loc) (ls : Array Slot), fX5_release_L0 r n y1 g = some gR → Hd Θ s g h0 H locs → lv_has ls 3 [(0, .ref (Θ.2.2.1 39)), (1, vi y1), (2, .ref (Θ.2.2.1 r))] → W p l e { frames := 1, cells := 0, slots := 0, locals := 21 } s m args below meth c H locs 0 0 (MQ below (Qx Θ s.heap.size gR h0 none) args s 0 0 (AA Θ s.heap.size)) (F0 m 0 ls []) := by
  intro n
  obtain ⟨hx, hb, hml, hown, hts, -⟩ := id C
  induction n with
  | zero => intro y1 g H locs ls h; cases h
  | succ n ih =>
    intro y1 g H locs ls h  hM hl
    rw [fX5_release_L0] at h
    refine lv_aload_n hx hb (kX5_release (i := 0) rfl) rfl (lv_at hl 0 rfl) ?_
    refine gX5_waits C hM q_fX5_15 (kX5_release (i := 1) rfl) ?_
    refine x_if_le (a' := wr (g 39 1)) hx hb rfl (tgt := 88) (kX5_release (i := 2) rfl) (by decide) (fun c_1 => ?_) (fun c_1 => ?_)
    · have h := it_t c_1 h
      rw [← Option.some.inj h]
      exact x_vret C hM (kX5_release (i := 46) rfl)
    · have h := it_f c_1 h
      refine lv_aload_n hx hb (kX5_release (i := 3) rfl) rfl (lv_at hl 0 rfl) ?_
      refine gX5_waits C hM q_fX5_15 (kX5_release (i := 4) rfl) ?_
      refine lv_aload_n hx hb (kX5_release (i := 5) rfl) rfl (lv_at hl 0 rfl) ?_
      refine gX5_waiting C hM q_fX5_9 (kX5_release (i := 6) rfl) ?_
      refine x_alenX C hM 40 (by decide) (eX_40 Θ) (z0 := 32) rfl (kX5_release (i := 7) rfl) ?_
      refine x_icmp_gt (a' := wr (g 39 1)) (b' := 32) hx hb rfl (by decide) (tgt := 88) (kX5_release (i := 8) rfl) (by decide) (fun c_2 => ?_) (fun c_2 => ?_)
      · have h := it_t c_2 h
        rw [← Option.some.inj h]
        exact x_vret C hM (kX5_release (i := 46) rfl)
      · have h := it_f c_2 h
        refine lv_aload_n hx hb (kX5_release (i := 9) rfl) rfl (lv_at hl 0 rfl) ?_
        refine gX5_waiting C hM q_fX5_9 (kX5_release (i := 10) rfl) ?_
        refine lv_aload_n hx hb (kX5_release (i := 11) rfl) rfl (lv_at hl 0 rfl) ?_
        refine gX5_waits C hM q_fX5_15 (kX5_release (i := 12) rfl) ?_
        refine x_iconst hx hb (kX5_release (i := 13) rfl) ?_
        refine x_isub hx hb (kX5_release (i := 14) rfl) ?_
        obtain ⟨hi_3, h⟩ := gd_some h
        refine x_ialdX C hM 40 (by decide) (eX_40 Θ) hi_3 (kX5_release (i := 15) rfl) ?_
        obtain ⟨r_4, hc_5, h⟩ := bd_some h
        refine x_callS (n := 1) (As := [vi (g 40 (wr ((g 39 1) - 1)).toNat)]) (rest := []) C hM (tX5_bindingOf l Θ (g 40 (wr ((g 39 1) - 1)).toNat) h0 g r_4 hc_5) q_c_X5_bindingOf q_mX5_154 q_s_X5_bindingOf q_n_X5 (by decide +kernel) ⟨by decide, by decide⟩ rfl hl.1 rfl (Nat.le_of_ble_eq_true rfl) (kX5_release (i := 16) rfl) (fun H locs hM => ?_)
        refine x_iload_n hx hb (kX5_release (i := 17) rfl) rfl (lv_at hl 1 rfl) ?_
        refine x_icmp_lt (a' := wr r_4) (b' := wr y1) hx hb rfl rfl (tgt := 88) (kX5_release (i := 18) rfl) (by decide) (fun c_6 => ?_) (fun c_6 => ?_)
        · have h := it_t c_6 h
          rw [← Option.some.inj h]
          exact x_vret C hM (kX5_release (i := 46) rfl)
        · have h := it_f c_6 h
          refine lv_aload_n hx hb (kX5_release (i := 19) rfl) rfl (lv_at hl 0 rfl) ?_
          refine lv_dup hx hb (kX5_release (i := 20) rfl) rfl ?_
          refine gX5_waits C hM q_fX5_15 (kX5_release (i := 21) rfl) ?_
          refine x_iconst hx hb (kX5_release (i := 22) rfl) ?_
          refine x_isub hx hb (kX5_release (i := 23) rfl) ?_
          obtain ⟨g_7, eg_7, h⟩ := bnd_some h
          refine pX5_waits C hM q_fX5_15 eg_7 (kX5_release (i := 24) rfl) (fun H locs hM => ?_)
          refine lv_aload_n hx hb (kX5_release (i := 25) rfl) rfl (lv_at hl 0 rfl) ?_
          refine gX5_waiting C hM q_fX5_9 (kX5_release (i := 26) rfl) ?_
          refine lv_aload_n hx hb (kX5_release (i := 27) rfl) rfl (lv_at hl 0 rfl) ?_
          refine gX5_waits C hM q_fX5_15 (kX5_release (i := 28) rfl) ?_
          obtain ⟨hi_8, h⟩ := gd_some h
          refine x_ialdX C hM 40 (by decide) (eX_40 Θ) hi_8 (kX5_release (i := 29) rfl) ?_
          refine x_sipush hx hb (by decide) (kX5_release (i := 30) rfl) ?_
          refine jn_go h (fun J72 : Mem → Option (Mem) => ∀ (g_9 : Mem) (H : Heap) (locs : List Loc) (ls : Array Slot), J72 g_9 = some gR → Hd Θ s g_9 h0 H locs → lv_has ls 3 [(0, .ref (Θ.2.2.1 39)), (1, vi y1), (2, .ref (Θ.2.2.1 r))] → W p l e { frames := 1, cells := 0, slots := 0, locals := 21 } s m args below meth c H locs 0 0 (MQ below (Qx Θ s.heap.size gR h0 none) args s 0 0 (AA Θ s.heap.size)) (F0 m 72 ls [])) ?_ ?_
          · intro g_9 H locs ls h hM hl
            refine lv_aload_n hx hb (kX5_release (i := 38) rfl) rfl (lv_at hl 2 rfl) ?_
            refine lv_aload_n hx hb (kX5_release (i := 39) rfl) rfl (lv_at hl 0 rfl) ?_
            refine gX5_waiting C hM q_fX5_9 (kX5_release (i := 40) rfl) ?_
            refine lv_aload_n hx hb (kX5_release (i := 41) rfl) rfl (lv_at hl 0 rfl) ?_
            refine gX5_waits C hM q_fX5_15 (kX5_release (i := 42) rfl) ?_
            obtain ⟨hi_10, h⟩ := gd_some h
            refine x_ialdX C hM 40 (by decide) (eX_40 Θ) hi_10 (kX5_release (i := 43) rfl) ?_
            obtain ⟨g_13, hc_12, h⟩ := bd_some h
            refine x_callV (n := 1) (As := [vi (g_9 40 (wr (g_9 39 1)).toNat)]) (rest := []) C hM (tX7_emit l Θ r hR (g_9 40 (wr (g_9 39 1)).toNat) h0 g_9 g_13 hc_12) (x_recvX C hM r (isR_lt hR) (eX_isR hR _) rfl rfl) q_c_X7_emit q_mX5_141 q_i_X7_emit q_e_X7_emit q_n_X7 (by decide +kernel) ⟨by decide, by decide⟩ rfl hl.1 rfl (Nat.le_of_ble_eq_true rfl) (kX5_release (i := 44) rfl) (fun H locs hM => ?_)
            refine lv_goto (tgt := 0) hx hb (kX5_release (i := 45) rfl) (by decide) ?_
            exact ih y1 g_13 H locs ls h hM (lv_sub hl [0, 1, 2] rfl)
          intro J72 hJ72 h
          refine x_icmp_ne (a' := wr (g_7 40 (wr (g_7 39 1)).toNat)) (b' := 10012) hx hb rfl (by decide) (tgt := 72) (kX5_release (i := 31) rfl) (by decide) (fun c_14 => ?_) (fun c_14 => ?_)
          · have h := it_f c_14 h
            exact hJ72 g_7 H locs ls h hM (lv_sub hl [0, 1, 2] rfl)
          · have h := it_t c_14 h
            refine lv_aload_n hx hb (kX5_release (i := 32) rfl) rfl (lv_at hl 0 rfl) ?_
            refine lv_dup hx hb (kX5_release (i := 33) rfl) rfl ?_
            refine gX5_depth C hM q_fX5_31 (kX5_release (i := 34) rfl) ?_
            refine x_iconst hx hb (kX5_release (i := 35) rfl) ?_
            refine x_isub hx hb (kX5_release (i := 36) rfl) ?_
            obtain ⟨g_15, eg_15, h⟩ := bnd_some h
            refine pX5_depth C hM q_fX5_31 eg_15 (kX5_release (i := 37) rfl) (fun H locs hM => ?_)
            exact hJ72 g_15 H locs ls h hM (lv_sub hl [0, 1, 2] rfl)
set_option maxRecDepth 100000 in
set_option maxHeartbeats 4000000 in
theorem tX5_release (l : Launch) (Θ : Th) (r : Nat) (hR : isR r) (a0 : Int) (h0 g : Mem) (gR : Mem) (h : fX5_release r a0 g = some gR) : Ct l yX5_release cX5_release 3 none 1 21 Θ [.ref (Θ.2.2.1 39), vi a0, .ref (Θ.2.2.1 r)] g h0 gR h0 none := by
  refine x_start (by decide) (Nat.le_of_ble_eq_true rfl) ?_
  intro p e s m args below meth c ls C hM hl
  have hl : lv_has ls 3 [(0, .ref (Θ.2.2.1 39)), (1, vi a0), (2, .ref (Θ.2.2.1 r))] := hl
  obtain ⟨hx, hb, hml, hown, hts, -⟩ := id C
  unfold fX5_release at h
  have key : ∀ (H : Heap) (locs : List Loc), Hd Θ s g h0 H locs → W p l e { frames := 1, cells := 0, slots := 0, locals := 21 } s m args below meth c H locs 0 0 (MQ below (Qx Θ s.heap.size gR h0 none) args s 0 0 (AA Θ s.heap.size)) (F0 m 0 ls []) := by
    intro H locs hM
    refine wX5_release_L0  hR C fuel a0 g H locs ls h  hM (lv_sub hl [0, 1, 2] rfl)
  exact key _ _ hM

/-! X5_takeOperator -/
def fX5_takeOperator (r : Nat) (a0 : Int) (g : Mem) : Option (Mem) :=
  bd (fX5_bindingOf a0) fun r_1 =>
  bd (fX5_release r r_1 g) fun g_5 =>
  bd (fX5_await a0 g_5) fun g_8 =>
  bnd (up g_8 39 4 2) fun g_9 =>
  some g_9
set_option maxRecDepth 100000 in
set_option maxHeartbeats 4000000 in
theorem tX5_takeOperator (l : Launch) (Θ : Th) (r : Nat) (hR : isR r) (a0 : Int) (h0 g : Mem) (gR : Mem) (h : fX5_takeOperator r a0 g = some gR) : Ct l yX5_takeOperator cX5_takeOperator 3 none 2 43 Θ [.ref (Θ.2.2.1 39), vi a0, .ref (Θ.2.2.1 r)] g h0 gR h0 none := by
  refine x_start (by decide) (Nat.le_of_ble_eq_true rfl) ?_
  intro p e s m args below meth c ls C hM hl
  have hl : lv_has ls 3 [(0, .ref (Θ.2.2.1 39)), (1, vi a0), (2, .ref (Θ.2.2.1 r))] := hl
  obtain ⟨hx, hb, hml, hown, hts, -⟩ := id C
  unfold fX5_takeOperator at h
  have key : ∀ (H : Heap) (locs : List Loc), Hd Θ s g h0 H locs → W p l e { frames := 2, cells := 0, slots := 0, locals := 43 } s m args below meth c H locs 0 0 (MQ below (Qx Θ s.heap.size gR h0 none) args s 0 0 (AA Θ s.heap.size)) (F0 m 0 ls []) := by
    intro H locs hM
    refine lv_aload_n hx hb (kX5_takeOperator (i := 0) rfl) rfl (lv_at hl 0 rfl) ?_
    refine x_iload_n hx hb (kX5_takeOperator (i := 1) rfl) rfl (lv_at hl 1 rfl) ?_
    obtain ⟨r_1, hc_2, h⟩ := bd_some h
    refine x_callS (n := 1) (As := [vi a0]) (rest := [.ref (Θ.2.2.1 39)]) C hM (tX5_bindingOf l Θ a0 h0 g r_1 hc_2) q_c_X5_bindingOf q_mX5_154 q_s_X5_bindingOf q_n_X5 (by decide +kernel) ⟨by decide, by decide⟩ rfl hl.1 rfl (Nat.le_of_ble_eq_true rfl) (kX5_takeOperator (i := 2) rfl) (fun H locs hM => ?_)
    refine lv_aload_n hx hb (kX5_takeOperator (i := 3) rfl) rfl (lv_at hl 2 rfl) ?_
    obtain ⟨g_5, hc_4, h⟩ := bd_some h
    refine x_callV (n := 2) (As := [vi r_1, .ref (Θ.2.2.1 r)]) (rest := []) C hM (tX5_release l Θ r hR r_1 h0 g g_5 hc_4) (x_recvX C hM 39 (by decide) (eX_39 Θ _) rfl rfl) q_c_X5_release q_mX5_148 q_i_X5_release q_e_X5_release q_n_X5 (by decide +kernel) ⟨by decide, by decide⟩ rfl hl.1 rfl (Nat.le_of_ble_eq_true rfl) (kX5_takeOperator (i := 4) rfl) (fun H locs hM => ?_)
    refine lv_aload_n hx hb (kX5_takeOperator (i := 5) rfl) rfl (lv_at hl 0 rfl) ?_
    refine x_iload_n hx hb (kX5_takeOperator (i := 6) rfl) rfl (lv_at hl 1 rfl) ?_
    obtain ⟨g_8, hc_7, h⟩ := bd_some h
    refine x_callV (n := 1) (As := [vi a0]) (rest := []) C hM (tX5_await l Θ a0 h0 g_5 g_8 hc_7) (x_recvX C hM 39 (by decide) (eX_39 Θ _) rfl rfl) q_c_X5_await q_mX5_157 q_i_X5_await q_e_X5_await q_n_X5 (by decide +kernel) ⟨by decide, by decide⟩ rfl hl.1 rfl (Nat.le_of_ble_eq_true rfl) (kX5_takeOperator (i := 7) rfl) (fun H locs hM => ?_)
    refine lv_aload_n hx hb (kX5_takeOperator (i := 8) rfl) rfl (lv_at hl 0 rfl) ?_
    refine x_iconst hx hb (kX5_takeOperator (i := 9) rfl) ?_
    obtain ⟨g_9, eg_9, h⟩ := bnd_some h
    refine pX5_state C hM q_fX5_25 eg_9 (kX5_takeOperator (i := 10) rfl) (fun H locs hM => ?_)
    rw [← Option.some.inj h]
    exact x_vret C hM (kX5_takeOperator (i := 11) rfl)
  exact key _ _ hM

/-! X5_dropOpener -/
def fX5_dropOpener (g : Mem) : Option (Mem) :=
  if wr (g 39 1) ≤ 0 then (
    some g
  ) else (
    bnd (up g 39 1 ((g 39 1) - 1)) fun g_2 =>
    bnd (up g_2 39 6 ((g_2 39 6) - 1)) fun g_3 =>
    some g_3
  )
set_option maxRecDepth 100000 in
set_option maxHeartbeats 4000000 in
theorem tX5_dropOpener (l : Launch) (Θ : Th) (h0 g : Mem) (gR : Mem) (h : fX5_dropOpener g = some gR) : Ct l yX5_dropOpener cX5_dropOpener 1 none 0 0 Θ [.ref (Θ.2.2.1 39)] g h0 gR h0 none := by
  refine x_start (by decide) (Nat.le_of_ble_eq_true rfl) ?_
  intro p e s m args below meth c ls C hM hl
  have hl : lv_has ls 1 [(0, .ref (Θ.2.2.1 39))] := hl
  obtain ⟨hx, hb, hml, hown, hts, -⟩ := id C
  unfold fX5_dropOpener at h
  have key : ∀ (H : Heap) (locs : List Loc), Hd Θ s g h0 H locs → W p l e { frames := 0, cells := 0, slots := 0, locals := 0 } s m args below meth c H locs 0 0 (MQ below (Qx Θ s.heap.size gR h0 none) args s 0 0 (AA Θ s.heap.size)) (F0 m 0 ls []) := by
    intro H locs hM
    refine lv_aload_n hx hb (kX5_dropOpener (i := 0) rfl) rfl (lv_at hl 0 rfl) ?_
    refine gX5_waits C hM q_fX5_15 (kX5_dropOpener (i := 1) rfl) ?_
    refine x_if_le (a' := wr (g 39 1)) hx hb rfl (tgt := 27) (kX5_dropOpener (i := 2) rfl) (by decide) (fun c_1 => ?_) (fun c_1 => ?_)
    · have h := it_t c_1 h
      rw [← Option.some.inj h]
      exact x_vret C hM (kX5_dropOpener (i := 15) rfl)
    · have h := it_f c_1 h
      refine lv_aload_n hx hb (kX5_dropOpener (i := 3) rfl) rfl (lv_at hl 0 rfl) ?_
      refine lv_dup hx hb (kX5_dropOpener (i := 4) rfl) rfl ?_
      refine gX5_waits C hM q_fX5_15 (kX5_dropOpener (i := 5) rfl) ?_
      refine x_iconst hx hb (kX5_dropOpener (i := 6) rfl) ?_
      refine x_isub hx hb (kX5_dropOpener (i := 7) rfl) ?_
      obtain ⟨g_2, eg_2, h⟩ := bnd_some h
      refine pX5_waits C hM q_fX5_15 eg_2 (kX5_dropOpener (i := 8) rfl) (fun H locs hM => ?_)
      refine lv_aload_n hx hb (kX5_dropOpener (i := 9) rfl) rfl (lv_at hl 0 rfl) ?_
      refine lv_dup hx hb (kX5_dropOpener (i := 10) rfl) rfl ?_
      refine gX5_depth C hM q_fX5_31 (kX5_dropOpener (i := 11) rfl) ?_
      refine x_iconst hx hb (kX5_dropOpener (i := 12) rfl) ?_
      refine x_isub hx hb (kX5_dropOpener (i := 13) rfl) ?_
      obtain ⟨g_3, eg_3, h⟩ := bnd_some h
      refine pX5_depth C hM q_fX5_31 eg_3 (kX5_dropOpener (i := 14) rfl) (fun H locs hM => ?_)
      rw [← Option.some.inj h]
      exact x_vret C hM (kX5_dropOpener (i := 15) rfl)
  exact key _ _ hM

/-! X7_close -/
def fX7_close (r : Nat) (a0 : Int) (g : Mem) : Option (Mem) :=
  if wr a0 < 0 then (
    some g
  ) else (
    if 2 ≤ wr a0 then (
      some g
    ) else (
      gd a0 2 <|
      bnd (up g (r + 4) (wr a0).toNat (g r 4)) fun g_4 =>
      some g_4
    )
  )
set_option maxRecDepth 100000 in
set_option maxHeartbeats 4000000 in
theorem tX7_close (l : Launch) (Θ : Th) (r : Nat) (hR : isR r) (a0 : Int) (h0 g : Mem) (gR : Mem) (h : fX7_close r a0 g = some gR) : Ct l yX7_close cX7_close 2 none 0 0 Θ [.ref (Θ.2.2.1 r), vi a0] g h0 gR h0 none := by
  refine x_start (by decide) (Nat.le_of_ble_eq_true rfl) ?_
  intro p e s m args below meth c ls C hM hl
  have hl : lv_has ls 2 [(0, .ref (Θ.2.2.1 r)), (1, vi a0)] := hl
  obtain ⟨hx, hb, hml, hown, hts, -⟩ := id C
  unfold fX7_close at h
  have key : ∀ (H : Heap) (locs : List Loc), Hd Θ s g h0 H locs → W p l e { frames := 0, cells := 0, slots := 0, locals := 0 } s m args below meth c H locs 0 0 (MQ below (Qx Θ s.heap.size gR h0 none) args s 0 0 (AA Θ s.heap.size)) (F0 m 0 ls []) := by
    intro H locs hM
    refine x_iload_n hx hb (kX7_close (i := 0) rfl) rfl (lv_at hl 1 rfl) ?_
    refine x_if_lt (a' := wr a0) hx hb rfl (tgt := 19) (kX7_close (i := 1) rfl) (by decide) (fun c_1 => ?_) (fun c_1 => ?_)
    · have h := it_t c_1 h
      rw [← Option.some.inj h]
      exact x_vret C hM (kX7_close (i := 11) rfl)
    · have h := it_f c_1 h
      refine x_iload_n hx hb (kX7_close (i := 2) rfl) rfl (lv_at hl 1 rfl) ?_
      refine x_iconst hx hb (kX7_close (i := 3) rfl) ?_
      refine x_icmp_ge (a' := wr a0) (b' := 2) hx hb rfl (by decide) (tgt := 19) (kX7_close (i := 4) rfl) (by decide) (fun c_2 => ?_) (fun c_2 => ?_)
      · have h := it_t c_2 h
        rw [← Option.some.inj h]
        exact x_vret C hM (kX7_close (i := 11) rfl)
      · have h := it_f c_2 h
        refine lv_aload_n hx hb (kX7_close (i := 5) rfl) rfl (lv_at hl 0 rfl) ?_
        refine gX7_to r hR C hM q_fX7_21 (kX7_close (i := 6) rfl) ?_
        refine x_iload_n hx hb (kX7_close (i := 7) rfl) rfl (lv_at hl 1 rfl) ?_
        refine lv_aload_n hx hb (kX7_close (i := 8) rfl) rfl (lv_at hl 0 rfl) ?_
        refine gX7_size r hR C hM q_fX7_24 (kX7_close (i := 9) rfl) ?_
        obtain ⟨hi_3, h⟩ := gd_some h
        obtain ⟨g_4, eg_4, h⟩ := bnd_some h
        refine x_iastX C hM (r + 4) (isR_to hR) (eX_isR_to hR) hi_3 eg_4 (kX7_close (i := 10) rfl) (fun H locs hM => ?_)
        rw [← Option.some.inj h]
        exact x_vret C hM (kX7_close (i := 11) rfl)
  exact key _ _ hM

/-! X5_takeJoin -/
def fX5_takeJoin (r : Nat) (a0 : Int) (g : Mem) : Option (Int × Mem) :=
  jn (fun (_ : Unit) =>
    bd (fX5_bindingOf a0) fun r_1 =>
    bd (fX5_release r r_1 g) fun g_5 =>
    bd (fX5_await a0 g_5) fun g_8 =>
    bnd (up g_8 39 9 0) fun g_9 =>
    bnd (up g_9 39 4 1) fun g_10 =>
    some (1, g_10)
  ) fun J14 =>
  if wr a0 = 10011 then (
    J14 ()
  ) else (
    if wr a0 = 10010 then (
      J14 ()
    ) else (
      jn (fun (_ : Unit) =>
        if wr a0 = 10024 then (
          if wr (g 39 8) = 0 then (
            bd (fX5_release r 1 g) fun g_17 =>
            bd (fX7_close r (g_17 39 5) g_17) fun g_20 =>
            bnd (up g_20 39 4 0) fun g_21 =>
            some (1, g_21)
          ) else (
            some (0, g)
          )
        ) else (
          some (0, g)
        )
      ) fun J81 =>
      if wr a0 = 10023 then (
        if wr (g 39 8) ≤ 0 then (
          J81 ()
        ) else (
          bnd (up g 39 8 ((g 39 8) - 1)) fun g_24 =>
          bd (fX5_release r 1 g_24) fun g_27 =>
          bd (fX5_dropOpener g_27) fun g_30 =>
          bnd (up g_30 39 4 4) fun g_31 =>
          some (1, g_31)
        )
      ) else (
        J81 ()
      )
    )
  )
set_option maxRecDepth 100000 in
set_option maxHeartbeats 4000000 in
theorem tX5_takeJoin (l : Launch) (Θ : Th) (r : Nat) (hR : isR r) (a0 : Int) (h0 g : Mem) (rv : Int) (gR : Mem) (h : fX5_takeJoin r a0 g = some (rv, gR)) : Ct l yX5_takeJoin cX5_takeJoin 3 (some .boolean) 2 43 Θ [.ref (Θ.2.2.1 39), vi a0, .ref (Θ.2.2.1 r)] g h0 gR h0 (some (vi rv)) := by
  refine x_start (by decide) (Nat.le_of_ble_eq_true rfl) ?_
  intro p e s m args below meth c ls C hM hl
  have hl : lv_has ls 3 [(0, .ref (Θ.2.2.1 39)), (1, vi a0), (2, .ref (Θ.2.2.1 r))] := hl
  obtain ⟨hx, hb, hml, hown, hts, -⟩ := id C
  unfold fX5_takeJoin at h
  have key : ∀ (H : Heap) (locs : List Loc), Hd Θ s g h0 H locs → W p l e { frames := 2, cells := 0, slots := 0, locals := 43 } s m args below meth c H locs 0 0 (MQ below (Qx Θ s.heap.size gR h0 (some (vi rv))) args s 0 0 (AA Θ s.heap.size)) (F0 m 0 ls []) := by
    intro H locs hM
    refine x_iload_n hx hb (kX5_takeJoin (i := 0) rfl) rfl (lv_at hl 1 rfl) ?_
    refine x_sipush hx hb (by decide) (kX5_takeJoin (i := 1) rfl) ?_
    refine jn_go h (fun J14 : Unit → Option (Int × Mem) => ∀ (H : Heap) (locs : List Loc) (ls : Array Slot), J14 () = some (rv, gR) → Hd Θ s g h0 H locs → lv_has ls 3 [(0, .ref (Θ.2.2.1 39)), (1, vi a0), (2, .ref (Θ.2.2.1 r))] → W p l e { frames := 2, cells := 0, slots := 0, locals := 43 } s m args below meth c H locs 0 0 (MQ below (Qx Θ s.heap.size gR h0 (some (vi rv))) args s 0 0 (AA Θ s.heap.size)) (F0 m 14 ls [])) ?_ ?_
    · intro  H locs ls h hM hl
      refine lv_aload_n hx hb (kX5_takeJoin (i := 6) rfl) rfl (lv_at hl 0 rfl) ?_
      refine x_iload_n hx hb (kX5_takeJoin (i := 7) rfl) rfl (lv_at hl 1 rfl) ?_
      obtain ⟨r_1, hc_2, h⟩ := bd_some h
      refine x_callS (n := 1) (As := [vi a0]) (rest := [.ref (Θ.2.2.1 39)]) C hM (tX5_bindingOf l Θ a0 h0 g r_1 hc_2) q_c_X5_bindingOf q_mX5_154 q_s_X5_bindingOf q_n_X5 (by decide +kernel) ⟨by decide, by decide⟩ rfl hl.1 rfl (Nat.le_of_ble_eq_true rfl) (kX5_takeJoin (i := 8) rfl) (fun H locs hM => ?_)
      refine lv_aload_n hx hb (kX5_takeJoin (i := 9) rfl) rfl (lv_at hl 2 rfl) ?_
      obtain ⟨g_5, hc_4, h⟩ := bd_some h
      refine x_callV (n := 2) (As := [vi r_1, .ref (Θ.2.2.1 r)]) (rest := []) C hM (tX5_release l Θ r hR r_1 h0 g g_5 hc_4) (x_recvX C hM 39 (by decide) (eX_39 Θ _) rfl rfl) q_c_X5_release q_mX5_148 q_i_X5_release q_e_X5_release q_n_X5 (by decide +kernel) ⟨by decide, by decide⟩ rfl hl.1 rfl (Nat.le_of_ble_eq_true rfl) (kX5_takeJoin (i := 10) rfl) (fun H locs hM => ?_)
      refine lv_aload_n hx hb (kX5_takeJoin (i := 11) rfl) rfl (lv_at hl 0 rfl) ?_
      refine x_iload_n hx hb (kX5_takeJoin (i := 12) rfl) rfl (lv_at hl 1 rfl) ?_
      obtain ⟨g_8, hc_7, h⟩ := bd_some h
      refine x_callV (n := 1) (As := [vi a0]) (rest := []) C hM (tX5_await l Θ a0 h0 g_5 g_8 hc_7) (x_recvX C hM 39 (by decide) (eX_39 Θ _) rfl rfl) q_c_X5_await q_mX5_157 q_i_X5_await q_e_X5_await q_n_X5 (by decide +kernel) ⟨by decide, by decide⟩ rfl hl.1 rfl (Nat.le_of_ble_eq_true rfl) (kX5_takeJoin (i := 13) rfl) (fun H locs hM => ?_)
      refine lv_aload_n hx hb (kX5_takeJoin (i := 14) rfl) rfl (lv_at hl 0 rfl) ?_
      refine x_iconst hx hb (kX5_takeJoin (i := 15) rfl) ?_
      obtain ⟨g_9, eg_9, h⟩ := bnd_some h
      refine pX5_compared C hM q_fX5_40 (Or.inl rfl) eg_9 (kX5_takeJoin (i := 16) rfl) (fun H locs hM => ?_)
      refine lv_aload_n hx hb (kX5_takeJoin (i := 17) rfl) rfl (lv_at hl 0 rfl) ?_
      refine x_iconst hx hb (kX5_takeJoin (i := 18) rfl) ?_
      obtain ⟨g_10, eg_10, h⟩ := bnd_some h
      refine pX5_state C hM q_fX5_25 eg_10 (kX5_takeJoin (i := 19) rfl) (fun H locs hM => ?_)
      refine x_iconst hx hb (kX5_takeJoin (i := 20) rfl) ?_
      obtain ⟨q1, q2⟩ := ret2 h
      rw [q1, q2]
      exact x_iret C hM (nar_z (Or.inr rfl)) (kX5_takeJoin (i := 21) rfl)
    intro J14 hJ14 h
    refine x_icmp_eq (a' := wr a0) (b' := 10011) hx hb rfl (by decide) (tgt := 14) (kX5_takeJoin (i := 2) rfl) (by decide) (fun c_11 => ?_) (fun c_11 => ?_)
    · have h := it_t c_11 h
      exact hJ14 H locs ls h hM (lv_sub hl [0, 1, 2] rfl)
    · have h := it_f c_11 h
      refine x_iload_n hx hb (kX5_takeJoin (i := 3) rfl) rfl (lv_at hl 1 rfl) ?_
      refine x_sipush hx hb (by decide) (kX5_takeJoin (i := 4) rfl) ?_
      refine x_icmp_ne (a' := wr a0) (b' := 10010) hx hb rfl (by decide) (tgt := 40) (kX5_takeJoin (i := 5) rfl) (by decide) (fun c_12 => ?_) (fun c_12 => ?_)
      · have h := it_f c_12 h
        refine x_iload_n hx hb (kX5_takeJoin (i := 22) rfl) rfl (lv_at hl 1 rfl) ?_
        refine x_sipush hx hb (by decide) (kX5_takeJoin (i := 23) rfl) ?_
        refine jn_go h (fun J81 : Unit → Option (Int × Mem) => ∀ (H : Heap) (locs : List Loc) (ls : Array Slot), J81 () = some (rv, gR) → Hd Θ s g h0 H locs → lv_has ls 3 [(0, .ref (Θ.2.2.1 39)), (1, vi a0), (2, .ref (Θ.2.2.1 r))] → W p l e { frames := 2, cells := 0, slots := 0, locals := 43 } s m args below meth c H locs 0 0 (MQ below (Qx Θ s.heap.size gR h0 (some (vi rv))) args s 0 0 (AA Θ s.heap.size)) (F0 m 81 ls [])) ?_ ?_
        · intro  H locs ls h hM hl
          refine x_iload_n hx hb (kX5_takeJoin (i := 45) rfl) rfl (lv_at hl 1 rfl) ?_
          refine x_sipush hx hb (by decide) (kX5_takeJoin (i := 46) rfl) ?_
          refine x_icmp_ne (a' := wr a0) (b' := 10024) hx hb rfl (by decide) (tgt := 116) (kX5_takeJoin (i := 47) rfl) (by decide) (fun c_13 => ?_) (fun c_13 => ?_)
          · have h := it_f c_13 h
            refine x_iconst hx hb (kX5_takeJoin (i := 64) rfl) ?_
            obtain ⟨q1, q2⟩ := ret2 h
            rw [q1, q2]
            exact x_iret C hM (nar_z (Or.inl rfl)) (kX5_takeJoin (i := 65) rfl)
          · have h := it_t c_13 h
            refine lv_aload_n hx hb (kX5_takeJoin (i := 48) rfl) rfl (lv_at hl 0 rfl) ?_
            refine gX5_brackets C hM q_fX5_37 (kX5_takeJoin (i := 49) rfl) ?_
            refine x_if_ne (a' := wr (g 39 8)) hx hb rfl (tgt := 116) (kX5_takeJoin (i := 50) rfl) (by decide) (fun c_14 => ?_) (fun c_14 => ?_)
            · have h := it_f c_14 h
              refine x_iconst hx hb (kX5_takeJoin (i := 64) rfl) ?_
              obtain ⟨q1, q2⟩ := ret2 h
              rw [q1, q2]
              exact x_iret C hM (nar_z (Or.inl rfl)) (kX5_takeJoin (i := 65) rfl)
            · have h := it_t c_14 h
              refine lv_aload_n hx hb (kX5_takeJoin (i := 51) rfl) rfl (lv_at hl 0 rfl) ?_
              refine x_iconst hx hb (kX5_takeJoin (i := 52) rfl) ?_
              refine lv_aload_n hx hb (kX5_takeJoin (i := 53) rfl) rfl (lv_at hl 2 rfl) ?_
              obtain ⟨g_17, hc_16, h⟩ := bd_some h
              refine x_callV (n := 2) (As := [vi 1, .ref (Θ.2.2.1 r)]) (rest := []) C hM (tX5_release l Θ r hR 1 h0 g g_17 hc_16) (x_recvX C hM 39 (by decide) (eX_39 Θ _) rfl rfl) q_c_X5_release q_mX5_148 q_i_X5_release q_e_X5_release q_n_X5 (by decide +kernel) ⟨by decide, by decide⟩ rfl hl.1 rfl (Nat.le_of_ble_eq_true rfl) (kX5_takeJoin (i := 54) rfl) (fun H locs hM => ?_)
              refine lv_aload_n hx hb (kX5_takeJoin (i := 55) rfl) rfl (lv_at hl 2 rfl) ?_
              refine lv_aload_n hx hb (kX5_takeJoin (i := 56) rfl) rfl (lv_at hl 0 rfl) ?_
              refine gX5_clause C hM q_fX5_28 (kX5_takeJoin (i := 57) rfl) ?_
              obtain ⟨g_20, hc_19, h⟩ := bd_some h
              refine x_callV (n := 1) (As := [vi (g_17 39 5)]) (rest := []) C hM (tX7_close l Θ r hR (g_17 39 5) h0 g_17 g_20 hc_19) (x_recvX C hM r (isR_lt hR) (eX_isR hR _) rfl rfl) q_c_X7_close q_mX5_160 q_i_X7_close q_e_X7_close q_n_X7 (by decide +kernel) ⟨by decide, by decide⟩ rfl hl.1 rfl (Nat.le_of_ble_eq_true rfl) (kX5_takeJoin (i := 58) rfl) (fun H locs hM => ?_)
              refine lv_aload_n hx hb (kX5_takeJoin (i := 59) rfl) rfl (lv_at hl 0 rfl) ?_
              refine x_iconst hx hb (kX5_takeJoin (i := 60) rfl) ?_
              obtain ⟨g_21, eg_21, h⟩ := bnd_some h
              refine pX5_state C hM q_fX5_25 eg_21 (kX5_takeJoin (i := 61) rfl) (fun H locs hM => ?_)
              refine x_iconst hx hb (kX5_takeJoin (i := 62) rfl) ?_
              obtain ⟨q1, q2⟩ := ret2 h
              rw [q1, q2]
              exact x_iret C hM (nar_z (Or.inr rfl)) (kX5_takeJoin (i := 63) rfl)
        intro J81 hJ81 h
        refine x_icmp_ne (a' := wr a0) (b' := 10023) hx hb rfl (by decide) (tgt := 81) (kX5_takeJoin (i := 24) rfl) (by decide) (fun c_22 => ?_) (fun c_22 => ?_)
        · have h := it_f c_22 h
          exact hJ81 H locs ls h hM (lv_sub hl [0, 1, 2] rfl)
        · have h := it_t c_22 h
          refine lv_aload_n hx hb (kX5_takeJoin (i := 25) rfl) rfl (lv_at hl 0 rfl) ?_
          refine gX5_brackets C hM q_fX5_37 (kX5_takeJoin (i := 26) rfl) ?_
          refine x_if_le (a' := wr (g 39 8)) hx hb rfl (tgt := 81) (kX5_takeJoin (i := 27) rfl) (by decide) (fun c_23 => ?_) (fun c_23 => ?_)
          · have h := it_t c_23 h
            exact hJ81 H locs ls h hM (lv_sub hl [0, 1, 2] rfl)
          · have h := it_f c_23 h
            refine lv_aload_n hx hb (kX5_takeJoin (i := 28) rfl) rfl (lv_at hl 0 rfl) ?_
            refine lv_dup hx hb (kX5_takeJoin (i := 29) rfl) rfl ?_
            refine gX5_brackets C hM q_fX5_37 (kX5_takeJoin (i := 30) rfl) ?_
            refine x_iconst hx hb (kX5_takeJoin (i := 31) rfl) ?_
            refine x_isub hx hb (kX5_takeJoin (i := 32) rfl) ?_
            obtain ⟨g_24, eg_24, h⟩ := bnd_some h
            refine pX5_brackets C hM q_fX5_37 eg_24 (kX5_takeJoin (i := 33) rfl) (fun H locs hM => ?_)
            refine lv_aload_n hx hb (kX5_takeJoin (i := 34) rfl) rfl (lv_at hl 0 rfl) ?_
            refine x_iconst hx hb (kX5_takeJoin (i := 35) rfl) ?_
            refine lv_aload_n hx hb (kX5_takeJoin (i := 36) rfl) rfl (lv_at hl 2 rfl) ?_
            obtain ⟨g_27, hc_26, h⟩ := bd_some h
            refine x_callV (n := 2) (As := [vi 1, .ref (Θ.2.2.1 r)]) (rest := []) C hM (tX5_release l Θ r hR 1 h0 g_24 g_27 hc_26) (x_recvX C hM 39 (by decide) (eX_39 Θ _) rfl rfl) q_c_X5_release q_mX5_148 q_i_X5_release q_e_X5_release q_n_X5 (by decide +kernel) ⟨by decide, by decide⟩ rfl hl.1 rfl (Nat.le_of_ble_eq_true rfl) (kX5_takeJoin (i := 37) rfl) (fun H locs hM => ?_)
            refine lv_aload_n hx hb (kX5_takeJoin (i := 38) rfl) rfl (lv_at hl 0 rfl) ?_
            obtain ⟨g_30, hc_29, h⟩ := bd_some h
            refine x_callV (n := 0) (As := []) (rest := []) C hM (tX5_dropOpener l Θ h0 g_27 g_30 hc_29) (x_recvX C hM 39 (by decide) (eX_39 Θ _) rfl rfl) q_c_X5_dropOpener q_mX5_151 q_i_X5_dropOpener q_e_X5_dropOpener q_n_X5 (by decide +kernel) ⟨by decide, by decide⟩ rfl hl.1 rfl (Nat.le_of_ble_eq_true rfl) (kX5_takeJoin (i := 39) rfl) (fun H locs hM => ?_)
            refine lv_aload_n hx hb (kX5_takeJoin (i := 40) rfl) rfl (lv_at hl 0 rfl) ?_
            refine x_iconst hx hb (kX5_takeJoin (i := 41) rfl) ?_
            obtain ⟨g_31, eg_31, h⟩ := bnd_some h
            refine pX5_state C hM q_fX5_25 eg_31 (kX5_takeJoin (i := 42) rfl) (fun H locs hM => ?_)
            refine x_iconst hx hb (kX5_takeJoin (i := 43) rfl) ?_
            obtain ⟨q1, q2⟩ := ret2 h
            rw [q1, q2]
            exact x_iret C hM (nar_z (Or.inr rfl)) (kX5_takeJoin (i := 44) rfl)
      · have h := it_t c_12 h
        exact hJ14 H locs ls h hM (lv_sub hl [0, 1, 2] rfl)
  exact key _ _ hM

/-! X5_takeBehindOperand -/
def fX5_takeBehindOperand (r : Nat) (a0 : Int) (g : Mem) : Option (Int × Mem) :=
  jn (fun (_ : Unit) =>
    bd (fX5_takeOperator r a0 g) fun g_3 =>
    some (1, g_3)
  ) fun J28 =>
  if wr a0 = 10016 then (
    J28 ()
  ) else (
    if wr a0 = 10017 then (
      J28 ()
    ) else (
      if wr a0 = 10018 then (
        J28 ()
      ) else (
        if wr a0 = 10019 then (
          J28 ()
        ) else (
          if wr (g 39 7) ≤ 0 then (
            if wr (g 39 9) = 0 then (
              jn (fun (_ : Unit) =>
                bnd (up g 39 9 1) fun g_10 =>
                bd (fX5_takeOperator r a0 g_10) fun g_13 =>
                some (1, g_13)
              ) fun J111 =>
              if wr a0 = 10013 then (
                J111 ()
              ) else (
                if wr a0 = 10014 then (
                  J111 ()
                ) else (
                  if wr a0 = 10015 then (
                    J111 ()
                  ) else (
                    some (0, g)
                  )
                )
              )
            ) else (
              bd2 (fX5_takeJoin r a0 g) fun r_17 g_19 =>
              gc (r_17 = 0 ∨ r_17 = 1) <|
              some (r_17, g_19)
            )
          ) else (
            if wr a0 = 10021 then (
              bnd (up g 39 7 ((g 39 7) - 1)) fun g_22 =>
              bd (fX5_release r 1 g_22) fun g_25 =>
              bd (fX5_dropOpener g_25) fun g_28 =>
              some (1, g_28)
            ) else (
              some (0, g)
            )
          )
        )
      )
    )
  )
set_option maxRecDepth 100000 in
set_option maxHeartbeats 4000000 in
theorem tX5_takeBehindOperand (l : Launch) (Θ : Th) (r : Nat) (hR : isR r) (a0 : Int) (h0 g : Mem) (rv : Int) (gR : Mem) (h : fX5_takeBehindOperand r a0 g = some (rv, gR)) : Ct l yX5_takeBehindOperand cX5_takeBehindOperand 3 (some .boolean) 3 65 Θ [.ref (Θ.2.2.1 39), vi a0, .ref (Θ.2.2.1 r)] g h0 gR h0 (some (vi rv)) := by
  refine x_start (by decide) (Nat.le_of_ble_eq_true rfl) ?_
  intro p e s m args below meth c ls C hM hl
  have hl : lv_has ls 3 [(0, .ref (Θ.2.2.1 39)), (1, vi a0), (2, .ref (Θ.2.2.1 r))] := hl
  obtain ⟨hx, hb, hml, hown, hts, -⟩ := id C
  unfold fX5_takeBehindOperand at h
  have key : ∀ (H : Heap) (locs : List Loc), Hd Θ s g h0 H locs → W p l e { frames := 3, cells := 0, slots := 0, locals := 65 } s m args below meth c H locs 0 0 (MQ below (Qx Θ s.heap.size gR h0 (some (vi rv))) args s 0 0 (AA Θ s.heap.size)) (F0 m 0 ls []) := by
    intro H locs hM
    refine x_iload_n hx hb (kX5_takeBehindOperand (i := 0) rfl) rfl (lv_at hl 1 rfl) ?_
    refine x_sipush hx hb (by decide) (kX5_takeBehindOperand (i := 1) rfl) ?_
    refine jn_go h (fun J28 : Unit → Option (Int × Mem) => ∀ (H : Heap) (locs : List Loc) (ls : Array Slot), J28 () = some (rv, gR) → Hd Θ s g h0 H locs → lv_has ls 3 [(0, .ref (Θ.2.2.1 39)), (1, vi a0), (2, .ref (Θ.2.2.1 r))] → W p l e { frames := 3, cells := 0, slots := 0, locals := 65 } s m args below meth c H locs 0 0 (MQ below (Qx Θ s.heap.size gR h0 (some (vi rv))) args s 0 0 (AA Θ s.heap.size)) (F0 m 28 ls [])) ?_ ?_
    · intro  H locs ls h hM hl
      refine lv_aload_n hx hb (kX5_takeBehindOperand (i := 12) rfl) rfl (lv_at hl 0 rfl) ?_
      refine x_iload_n hx hb (kX5_takeBehindOperand (i := 13) rfl) rfl (lv_at hl 1 rfl) ?_
      refine lv_aload_n hx hb (kX5_takeBehindOperand (i := 14) rfl) rfl (lv_at hl 2 rfl) ?_
      obtain ⟨g_3, hc_2, h⟩ := bd_some h
      refine x_callV (n := 2) (As := [vi a0, .ref (Θ.2.2.1 r)]) (rest := []) C hM (tX5_takeOperator l Θ r hR a0 h0 g g_3 hc_2) (x_recvX C hM 39 (by decide) (eX_39 Θ _) rfl rfl) q_c_X5_takeOperator q_mX5_144 q_i_X5_takeOperator q_e_X5_takeOperator q_n_X5 (by decide +kernel) ⟨by decide, by decide⟩ rfl hl.1 rfl (Nat.le_of_ble_eq_true rfl) (kX5_takeBehindOperand (i := 15) rfl) (fun H locs hM => ?_)
      refine x_iconst hx hb (kX5_takeBehindOperand (i := 16) rfl) ?_
      obtain ⟨q1, q2⟩ := ret2 h
      rw [q1, q2]
      exact x_iret C hM (nar_z (Or.inr rfl)) (kX5_takeBehindOperand (i := 17) rfl)
    intro J28 hJ28 h
    refine x_icmp_eq (a' := wr a0) (b' := 10016) hx hb rfl (by decide) (tgt := 28) (kX5_takeBehindOperand (i := 2) rfl) (by decide) (fun c_4 => ?_) (fun c_4 => ?_)
    · have h := it_t c_4 h
      exact hJ28 H locs ls h hM (lv_sub hl [0, 1, 2] rfl)
    · have h := it_f c_4 h
      refine x_iload_n hx hb (kX5_takeBehindOperand (i := 3) rfl) rfl (lv_at hl 1 rfl) ?_
      refine x_sipush hx hb (by decide) (kX5_takeBehindOperand (i := 4) rfl) ?_
      refine x_icmp_eq (a' := wr a0) (b' := 10017) hx hb rfl (by decide) (tgt := 28) (kX5_takeBehindOperand (i := 5) rfl) (by decide) (fun c_5 => ?_) (fun c_5 => ?_)
      · have h := it_t c_5 h
        exact hJ28 H locs ls h hM (lv_sub hl [0, 1, 2] rfl)
      · have h := it_f c_5 h
        refine x_iload_n hx hb (kX5_takeBehindOperand (i := 6) rfl) rfl (lv_at hl 1 rfl) ?_
        refine x_sipush hx hb (by decide) (kX5_takeBehindOperand (i := 7) rfl) ?_
        refine x_icmp_eq (a' := wr a0) (b' := 10018) hx hb rfl (by decide) (tgt := 28) (kX5_takeBehindOperand (i := 8) rfl) (by decide) (fun c_6 => ?_) (fun c_6 => ?_)
        · have h := it_t c_6 h
          exact hJ28 H locs ls h hM (lv_sub hl [0, 1, 2] rfl)
        · have h := it_f c_6 h
          refine x_iload_n hx hb (kX5_takeBehindOperand (i := 9) rfl) rfl (lv_at hl 1 rfl) ?_
          refine x_sipush hx hb (by decide) (kX5_takeBehindOperand (i := 10) rfl) ?_
          refine x_icmp_ne (a' := wr a0) (b' := 10019) hx hb rfl (by decide) (tgt := 36) (kX5_takeBehindOperand (i := 11) rfl) (by decide) (fun c_7 => ?_) (fun c_7 => ?_)
          · have h := it_f c_7 h
            refine lv_aload_n hx hb (kX5_takeBehindOperand (i := 18) rfl) rfl (lv_at hl 0 rfl) ?_
            refine gX5_parens C hM q_fX5_34 (kX5_takeBehindOperand (i := 19) rfl) ?_
            refine x_if_le (a' := wr (g 39 7)) hx hb rfl (tgt := 74) (kX5_takeBehindOperand (i := 20) rfl) (by decide) (fun c_8 => ?_) (fun c_8 => ?_)
            · have h := it_t c_8 h
              refine lv_aload_n hx hb (kX5_takeBehindOperand (i := 40) rfl) rfl (lv_at hl 0 rfl) ?_
              refine gX5_compared C hM q_fX5_40 (kX5_takeBehindOperand (i := 41) rfl) ?_
              refine x_if_eq (a' := wr (g 39 9)) hx hb rfl (tgt := 88) (kX5_takeBehindOperand (i := 42) rfl) (by decide) (fun c_9 => ?_) (fun c_9 => ?_)
              · have h := it_t c_9 h
                refine x_iload_n hx hb (kX5_takeBehindOperand (i := 48) rfl) rfl (lv_at hl 1 rfl) ?_
                refine x_sipush hx hb (by decide) (kX5_takeBehindOperand (i := 49) rfl) ?_
                refine jn_go h (fun J111 : Unit → Option (Int × Mem) => ∀ (H : Heap) (locs : List Loc) (ls : Array Slot), J111 () = some (rv, gR) → Hd Θ s g h0 H locs → lv_has ls 3 [(0, .ref (Θ.2.2.1 39)), (1, vi a0), (2, .ref (Θ.2.2.1 r))] → W p l e { frames := 3, cells := 0, slots := 0, locals := 65 } s m args below meth c H locs 0 0 (MQ below (Qx Θ s.heap.size gR h0 (some (vi rv))) args s 0 0 (AA Θ s.heap.size)) (F0 m 111 ls [])) ?_ ?_
                · intro  H locs ls h hM hl
                  refine lv_aload_n hx hb (kX5_takeBehindOperand (i := 59) rfl) rfl (lv_at hl 0 rfl) ?_
                  refine x_iconst hx hb (kX5_takeBehindOperand (i := 60) rfl) ?_
                  obtain ⟨g_10, eg_10, h⟩ := bnd_some h
                  refine pX5_compared C hM q_fX5_40 (Or.inr rfl) eg_10 (kX5_takeBehindOperand (i := 61) rfl) (fun H locs hM => ?_)
                  refine lv_aload_n hx hb (kX5_takeBehindOperand (i := 62) rfl) rfl (lv_at hl 0 rfl) ?_
                  refine x_iload_n hx hb (kX5_takeBehindOperand (i := 63) rfl) rfl (lv_at hl 1 rfl) ?_
                  refine lv_aload_n hx hb (kX5_takeBehindOperand (i := 64) rfl) rfl (lv_at hl 2 rfl) ?_
                  obtain ⟨g_13, hc_12, h⟩ := bd_some h
                  refine x_callV (n := 2) (As := [vi a0, .ref (Θ.2.2.1 r)]) (rest := []) C hM (tX5_takeOperator l Θ r hR a0 h0 g_10 g_13 hc_12) (x_recvX C hM 39 (by decide) (eX_39 Θ _) rfl rfl) q_c_X5_takeOperator q_mX5_144 q_i_X5_takeOperator q_e_X5_takeOperator q_n_X5 (by decide +kernel) ⟨by decide, by decide⟩ rfl hl.1 rfl (Nat.le_of_ble_eq_true rfl) (kX5_takeBehindOperand (i := 65) rfl) (fun H locs hM => ?_)
                  refine x_iconst hx hb (kX5_takeBehindOperand (i := 66) rfl) ?_
                  obtain ⟨q1, q2⟩ := ret2 h
                  rw [q1, q2]
                  exact x_iret C hM (nar_z (Or.inr rfl)) (kX5_takeBehindOperand (i := 67) rfl)
                intro J111 hJ111 h
                refine x_icmp_eq (a' := wr a0) (b' := 10013) hx hb rfl (by decide) (tgt := 111) (kX5_takeBehindOperand (i := 50) rfl) (by decide) (fun c_14 => ?_) (fun c_14 => ?_)
                · have h := it_t c_14 h
                  exact hJ111 H locs ls h hM (lv_sub hl [0, 1, 2] rfl)
                · have h := it_f c_14 h
                  refine x_iload_n hx hb (kX5_takeBehindOperand (i := 51) rfl) rfl (lv_at hl 1 rfl) ?_
                  refine x_sipush hx hb (by decide) (kX5_takeBehindOperand (i := 52) rfl) ?_
                  refine x_icmp_eq (a' := wr a0) (b' := 10014) hx hb rfl (by decide) (tgt := 111) (kX5_takeBehindOperand (i := 53) rfl) (by decide) (fun c_15 => ?_) (fun c_15 => ?_)
                  · have h := it_t c_15 h
                    exact hJ111 H locs ls h hM (lv_sub hl [0, 1, 2] rfl)
                  · have h := it_f c_15 h
                    refine x_iload_n hx hb (kX5_takeBehindOperand (i := 54) rfl) rfl (lv_at hl 1 rfl) ?_
                    refine x_sipush hx hb (by decide) (kX5_takeBehindOperand (i := 55) rfl) ?_
                    refine x_icmp_eq (a' := wr a0) (b' := 10015) hx hb rfl (by decide) (tgt := 111) (kX5_takeBehindOperand (i := 56) rfl) (by decide) (fun c_16 => ?_) (fun c_16 => ?_)
                    · have h := it_t c_16 h
                      exact hJ111 H locs ls h hM (lv_sub hl [0, 1, 2] rfl)
                    · have h := it_f c_16 h
                      refine x_iconst hx hb (kX5_takeBehindOperand (i := 57) rfl) ?_
                      obtain ⟨q1, q2⟩ := ret2 h
                      rw [q1, q2]
                      exact x_iret C hM (nar_z (Or.inl rfl)) (kX5_takeBehindOperand (i := 58) rfl)
              · have h := it_f c_9 h
                refine lv_aload_n hx hb (kX5_takeBehindOperand (i := 43) rfl) rfl (lv_at hl 0 rfl) ?_
                refine x_iload_n hx hb (kX5_takeBehindOperand (i := 44) rfl) rfl (lv_at hl 1 rfl) ?_
                refine lv_aload_n hx hb (kX5_takeBehindOperand (i := 45) rfl) rfl (lv_at hl 2 rfl) ?_
                obtain ⟨r_17, g_19, hc_18, h⟩ := bd2_some h
                refine x_callV (n := 2) (As := [vi a0, .ref (Θ.2.2.1 r)]) (rest := []) C hM (tX5_takeJoin l Θ r hR a0 h0 g r_17 g_19 hc_18) (x_recvX C hM 39 (by decide) (eX_39 Θ _) rfl rfl) q_c_X5_takeJoin q_mX5_131 q_i_X5_takeJoin q_e_X5_takeJoin q_n_X5 (by decide +kernel) ⟨by decide, by decide⟩ rfl hl.1 rfl (Nat.le_of_ble_eq_true rfl) (kX5_takeBehindOperand (i := 46) rfl) (fun H locs hM => ?_)
                obtain ⟨hz_20, h⟩ := gc_some h
                obtain ⟨q1, q2⟩ := ret2 h
                rw [q1, q2]
                exact x_iret C hM (nar_z hz_20) (kX5_takeBehindOperand (i := 47) rfl)
            · have h := it_f c_8 h
              refine x_iload_n hx hb (kX5_takeBehindOperand (i := 21) rfl) rfl (lv_at hl 1 rfl) ?_
              refine x_sipush hx hb (by decide) (kX5_takeBehindOperand (i := 22) rfl) ?_
              refine x_icmp_eq (a' := wr a0) (b' := 10021) hx hb rfl (by decide) (tgt := 52) (kX5_takeBehindOperand (i := 23) rfl) (by decide) (fun c_21 => ?_) (fun c_21 => ?_)
              · have h := it_t c_21 h
                refine lv_aload_n hx hb (kX5_takeBehindOperand (i := 26) rfl) rfl (lv_at hl 0 rfl) ?_
                refine lv_dup hx hb (kX5_takeBehindOperand (i := 27) rfl) rfl ?_
                refine gX5_parens C hM q_fX5_34 (kX5_takeBehindOperand (i := 28) rfl) ?_
                refine x_iconst hx hb (kX5_takeBehindOperand (i := 29) rfl) ?_
                refine x_isub hx hb (kX5_takeBehindOperand (i := 30) rfl) ?_
                obtain ⟨g_22, eg_22, h⟩ := bnd_some h
                refine pX5_parens C hM q_fX5_34 eg_22 (kX5_takeBehindOperand (i := 31) rfl) (fun H locs hM => ?_)
                refine lv_aload_n hx hb (kX5_takeBehindOperand (i := 32) rfl) rfl (lv_at hl 0 rfl) ?_
                refine x_iconst hx hb (kX5_takeBehindOperand (i := 33) rfl) ?_
                refine lv_aload_n hx hb (kX5_takeBehindOperand (i := 34) rfl) rfl (lv_at hl 2 rfl) ?_
                obtain ⟨g_25, hc_24, h⟩ := bd_some h
                refine x_callV (n := 2) (As := [vi 1, .ref (Θ.2.2.1 r)]) (rest := []) C hM (tX5_release l Θ r hR 1 h0 g_22 g_25 hc_24) (x_recvX C hM 39 (by decide) (eX_39 Θ _) rfl rfl) q_c_X5_release q_mX5_148 q_i_X5_release q_e_X5_release q_n_X5 (by decide +kernel) ⟨by decide, by decide⟩ rfl hl.1 rfl (Nat.le_of_ble_eq_true rfl) (kX5_takeBehindOperand (i := 35) rfl) (fun H locs hM => ?_)
                refine lv_aload_n hx hb (kX5_takeBehindOperand (i := 36) rfl) rfl (lv_at hl 0 rfl) ?_
                obtain ⟨g_28, hc_27, h⟩ := bd_some h
                refine x_callV (n := 0) (As := []) (rest := []) C hM (tX5_dropOpener l Θ h0 g_25 g_28 hc_27) (x_recvX C hM 39 (by decide) (eX_39 Θ _) rfl rfl) q_c_X5_dropOpener q_mX5_151 q_i_X5_dropOpener q_e_X5_dropOpener q_n_X5 (by decide +kernel) ⟨by decide, by decide⟩ rfl hl.1 rfl (Nat.le_of_ble_eq_true rfl) (kX5_takeBehindOperand (i := 37) rfl) (fun H locs hM => ?_)
                refine x_iconst hx hb (kX5_takeBehindOperand (i := 38) rfl) ?_
                obtain ⟨q1, q2⟩ := ret2 h
                rw [q1, q2]
                exact x_iret C hM (nar_z (Or.inr rfl)) (kX5_takeBehindOperand (i := 39) rfl)
              · have h := it_f c_21 h
                refine x_iconst hx hb (kX5_takeBehindOperand (i := 24) rfl) ?_
                obtain ⟨q1, q2⟩ := ret2 h
                rw [q1, q2]
                exact x_iret C hM (nar_z (Or.inl rfl)) (kX5_takeBehindOperand (i := 25) rfl)
          · have h := it_t c_7 h
            exact hJ28 H locs ls h hM (lv_sub hl [0, 1, 2] rfl)
  exact key _ _ hM

/-! X5_take -/
def fX5_take (r : Nat) (a0 : Int) (g : Mem) : Option (Int × Mem) :=
  if wr (g 39 4) = 0 then (
    bd2 (fX5_takeClause r a0 g) fun r_2 g_4 =>
    gc (r_2 = 0 ∨ r_2 = 1) <|
    some (r_2, g_4)
  ) else (
  if wr (g 39 4) = 1 then (
    jn (fun (_ : Unit) =>
      jn (fun (v_7 : Int) =>
        bnd (up g 39 8 ((g 39 8) + v_7)) fun g_8 =>
        bd2 (fX5_goDeeper a0 g_8) fun r_9 g_11 =>
        gc (r_9 = 0 ∨ r_9 = 1) <|
        some (r_9, g_11)
      ) fun J74 =>
      if wr a0 = 10022 then (
        J74 1
      ) else (
        J74 0
      )
    ) fun J57 =>
    if wr a0 = 10012 then (
      J57 ()
    ) else (
      if wr a0 = 10022 then (
        J57 ()
      ) else (
        bd2 (fX5_takeOperand r a0 g) fun r_16 g_18 =>
        gc (r_16 = 0 ∨ r_16 = 1) <|
        some (r_16, g_18)
      )
    )
  ) else (
  if wr (g 39 4) = 2 then (
    bd2 (fX5_takeOperand r a0 g) fun r_21 g_23 =>
    gc (r_21 = 0 ∨ r_21 = 1) <|
    some (r_21, g_23)
  ) else (
  if wr (g 39 4) = 3 then (
    bd2 (fX5_takeBehindOperand r a0 g) fun r_26 g_28 =>
    gc (r_26 = 0 ∨ r_26 = 1) <|
    some (r_26, g_28)
  ) else (
    bd2 (fX5_takeJoin r a0 g) fun r_30 g_32 =>
    gc (r_30 = 0 ∨ r_30 = 1) <|
    some (r_30, g_32)
  ))))
set_option maxRecDepth 100000 in
set_option maxHeartbeats 4000000 in
theorem tX5_take (l : Launch) (Θ : Th) (r : Nat) (hR : isR r) (a0 : Int) (h0 g : Mem) (rv : Int) (gR : Mem) (h : fX5_take r a0 g = some (rv, gR)) : Ct l yX5_take cX5_take 3 (some .boolean) 4 87 Θ [.ref (Θ.2.2.1 39), vi a0, .ref (Θ.2.2.1 r)] g h0 gR h0 (some (vi rv)) := by
  refine x_start (by decide) (Nat.le_of_ble_eq_true rfl) ?_
  intro p e s m args below meth c ls C hM hl
  have hl : lv_has ls 3 [(0, .ref (Θ.2.2.1 39)), (1, vi a0), (2, .ref (Θ.2.2.1 r))] := hl
  obtain ⟨hx, hb, hml, hown, hts, -⟩ := id C
  unfold fX5_take at h
  have key : ∀ (H : Heap) (locs : List Loc), Hd Θ s g h0 H locs → W p l e { frames := 4, cells := 0, slots := 0, locals := 87 } s m args below meth c H locs 0 0 (MQ below (Qx Θ s.heap.size gR h0 (some (vi rv))) args s 0 0 (AA Θ s.heap.size)) (F0 m 0 ls []) := by
    intro H locs hM
    refine lv_aload_n hx hb (kX5_take (i := 0) rfl) rfl (lv_at hl 0 rfl) ?_
    refine gX5_state C hM q_fX5_25 (kX5_take (i := 1) rfl) ?_
    by_cases c_1 : wr (g 39 4) = 0
    · have h := it_t c_1 h
      refine x_tableIn (tgt := 36) 0 c_1 hx hb (kX5_take (i := 2) rfl) (by decide) (by decide) rfl (by decide) ?_
      refine lv_aload_n hx hb (kX5_take (i := 3) rfl) rfl (lv_at hl 0 rfl) ?_
      refine x_iload_n hx hb (kX5_take (i := 4) rfl) rfl (lv_at hl 1 rfl) ?_
      refine lv_aload_n hx hb (kX5_take (i := 5) rfl) rfl (lv_at hl 2 rfl) ?_
      obtain ⟨r_2, g_4, hc_3, h⟩ := bd2_some h
      refine x_callV (n := 2) (As := [vi a0, .ref (Θ.2.2.1 r)]) (rest := []) C hM (tX5_takeClause l Θ r hR a0 h0 g r_2 g_4 hc_3) (x_recvX C hM 39 (by decide) (eX_39 Θ _) rfl rfl) q_c_X5_takeClause q_mX5_119 q_i_X5_takeClause q_e_X5_takeClause q_n_X5 (by decide +kernel) ⟨by decide, by decide⟩ rfl hl.1 rfl (Nat.le_of_ble_eq_true rfl) (kX5_take (i := 6) rfl) (fun H locs hM => ?_)
      obtain ⟨hz_5, h⟩ := gc_some h
      obtain ⟨q1, q2⟩ := ret2 h
      rw [q1, q2]
      exact x_iret C hM (nar_z hz_5) (kX5_take (i := 7) rfl)
    have h := it_f c_1 h
    by_cases c_6 : wr (g 39 4) = 1
    · have h := it_t c_6 h
      refine x_tableIn (tgt := 43) 1 c_6 hx hb (kX5_take (i := 2) rfl) (by decide) (by decide) rfl (by decide) ?_
      refine x_iload_n hx hb (kX5_take (i := 8) rfl) rfl (lv_at hl 1 rfl) ?_
      refine x_sipush hx hb (by decide) (kX5_take (i := 9) rfl) ?_
      refine jn_go h (fun J57 : Unit → Option (Int × Mem) => ∀ (H : Heap) (locs : List Loc) (ls : Array Slot), J57 () = some (rv, gR) → Hd Θ s g h0 H locs → lv_has ls 3 [(0, .ref (Θ.2.2.1 39)), (1, vi a0)] → W p l e { frames := 4, cells := 0, slots := 0, locals := 87 } s m args below meth c H locs 0 0 (MQ below (Qx Θ s.heap.size gR h0 (some (vi rv))) args s 0 0 (AA Θ s.heap.size)) (F0 m 57 ls [])) ?_ ?_
      · intro  H locs ls h hM hl
        refine lv_aload_n hx hb (kX5_take (i := 14) rfl) rfl (lv_at hl 0 rfl) ?_
        refine lv_dup hx hb (kX5_take (i := 15) rfl) rfl ?_
        refine gX5_brackets C hM q_fX5_37 (kX5_take (i := 16) rfl) ?_
        refine x_iload_n hx hb (kX5_take (i := 17) rfl) rfl (lv_at hl 1 rfl) ?_
        refine x_sipush hx hb (by decide) (kX5_take (i := 18) rfl) ?_
        refine jn_go h (fun J74 : Int → Option (Int × Mem) => ∀ (v_7 : Int) (H : Heap) (locs : List Loc) (ls : Array Slot), J74 v_7 = some (rv, gR) → Hd Θ s g h0 H locs → lv_has ls 3 [(0, .ref (Θ.2.2.1 39)), (1, vi a0)] → W p l e { frames := 4, cells := 0, slots := 0, locals := 87 } s m args below meth c H locs 0 0 (MQ below (Qx Θ s.heap.size gR h0 (some (vi rv))) args s 0 0 (AA Θ s.heap.size)) (F0 m 74 ls [vi v_7, vi (g 39 8), .ref (Θ.2.2.1 39)])) ?_ ?_
        · intro v_7 H locs ls h hM hl
          refine x_iadd hx hb (kX5_take (i := 23) rfl) ?_
          obtain ⟨g_8, eg_8, h⟩ := bnd_some h
          refine pX5_brackets C hM q_fX5_37 eg_8 (kX5_take (i := 24) rfl) (fun H locs hM => ?_)
          refine lv_aload_n hx hb (kX5_take (i := 25) rfl) rfl (lv_at hl 0 rfl) ?_
          refine x_iload_n hx hb (kX5_take (i := 26) rfl) rfl (lv_at hl 1 rfl) ?_
          obtain ⟨r_9, g_11, hc_10, h⟩ := bd2_some h
          refine x_callV (n := 1) (As := [vi a0]) (rest := []) C hM (tX5_goDeeper l Θ a0 h0 g_8 r_9 g_11 hc_10) (x_recvX C hM 39 (by decide) (eX_39 Θ _) rfl rfl) q_c_X5_goDeeper q_mX5_122 q_i_X5_goDeeper q_e_X5_goDeeper q_n_X5 (by decide +kernel) ⟨by decide, by decide⟩ rfl hl.1 rfl (Nat.le_of_ble_eq_true rfl) (kX5_take (i := 27) rfl) (fun H locs hM => ?_)
          obtain ⟨hz_12, h⟩ := gc_some h
          obtain ⟨q1, q2⟩ := ret2 h
          rw [q1, q2]
          exact x_iret C hM (nar_z hz_12) (kX5_take (i := 28) rfl)
        intro J74 hJ74 h
        refine x_icmp_ne (a' := wr a0) (b' := 10022) hx hb rfl (by decide) (tgt := 73) (kX5_take (i := 19) rfl) (by decide) (fun c_13 => ?_) (fun c_13 => ?_)
        · have h := it_f c_13 h
          refine x_iconst hx hb (kX5_take (i := 22) rfl) ?_
          exact hJ74 0 H locs ls h hM (lv_sub hl [0, 1] rfl)
        · have h := it_t c_13 h
          refine x_iconst hx hb (kX5_take (i := 20) rfl) ?_
          refine lv_goto (tgt := 74) hx hb (kX5_take (i := 21) rfl) (by decide) ?_
          exact hJ74 1 H locs ls h hM (lv_sub hl [0, 1] rfl)
      intro J57 hJ57 h
      refine x_icmp_eq (a' := wr a0) (b' := 10012) hx hb rfl (by decide) (tgt := 57) (kX5_take (i := 10) rfl) (by decide) (fun c_14 => ?_) (fun c_14 => ?_)
      · have h := it_t c_14 h
        exact hJ57 H locs ls h hM (lv_sub hl [0, 1] rfl)
      · have h := it_f c_14 h
        refine x_iload_n hx hb (kX5_take (i := 11) rfl) rfl (lv_at hl 1 rfl) ?_
        refine x_sipush hx hb (by decide) (kX5_take (i := 12) rfl) ?_
        refine x_icmp_ne (a' := wr a0) (b' := 10022) hx hb rfl (by decide) (tgt := 84) (kX5_take (i := 13) rfl) (by decide) (fun c_15 => ?_) (fun c_15 => ?_)
        · have h := it_f c_15 h
          refine lv_aload_n hx hb (kX5_take (i := 29) rfl) rfl (lv_at hl 0 rfl) ?_
          refine x_iload_n hx hb (kX5_take (i := 30) rfl) rfl (lv_at hl 1 rfl) ?_
          refine lv_aload_n hx hb (kX5_take (i := 31) rfl) rfl (lv_at hl 2 rfl) ?_
          obtain ⟨r_16, g_18, hc_17, h⟩ := bd2_some h
          refine x_callV (n := 2) (As := [vi a0, .ref (Θ.2.2.1 r)]) (rest := []) C hM (tX5_takeOperand l Θ r hR a0 h0 g r_16 g_18 hc_17) (x_recvX C hM 39 (by decide) (eX_39 Θ _) rfl rfl) q_c_X5_takeOperand q_mX5_125 q_i_X5_takeOperand q_e_X5_takeOperand q_n_X5 (by decide +kernel) ⟨by decide, by decide⟩ rfl hl.1 rfl (Nat.le_of_ble_eq_true rfl) (kX5_take (i := 32) rfl) (fun H locs hM => ?_)
          obtain ⟨hz_19, h⟩ := gc_some h
          obtain ⟨q1, q2⟩ := ret2 h
          rw [q1, q2]
          exact x_iret C hM (nar_z hz_19) (kX5_take (i := 33) rfl)
        · have h := it_t c_15 h
          exact hJ57 H locs ls h hM (lv_sub hl [0, 1] rfl)
    have h := it_f c_6 h
    by_cases c_20 : wr (g 39 4) = 2
    · have h := it_t c_20 h
      refine x_tableIn (tgt := 91) 2 c_20 hx hb (kX5_take (i := 2) rfl) (by decide) (by decide) rfl (by decide) ?_
      refine lv_aload_n hx hb (kX5_take (i := 34) rfl) rfl (lv_at hl 0 rfl) ?_
      refine x_iload_n hx hb (kX5_take (i := 35) rfl) rfl (lv_at hl 1 rfl) ?_
      refine lv_aload_n hx hb (kX5_take (i := 36) rfl) rfl (lv_at hl 2 rfl) ?_
      obtain ⟨r_21, g_23, hc_22, h⟩ := bd2_some h
      refine x_callV (n := 2) (As := [vi a0, .ref (Θ.2.2.1 r)]) (rest := []) C hM (tX5_takeOperand l Θ r hR a0 h0 g r_21 g_23 hc_22) (x_recvX C hM 39 (by decide) (eX_39 Θ _) rfl rfl) q_c_X5_takeOperand q_mX5_125 q_i_X5_takeOperand q_e_X5_takeOperand q_n_X5 (by decide +kernel) ⟨by decide, by decide⟩ rfl hl.1 rfl (Nat.le_of_ble_eq_true rfl) (kX5_take (i := 37) rfl) (fun H locs hM => ?_)
      obtain ⟨hz_24, h⟩ := gc_some h
      obtain ⟨q1, q2⟩ := ret2 h
      rw [q1, q2]
      exact x_iret C hM (nar_z hz_24) (kX5_take (i := 38) rfl)
    have h := it_f c_20 h
    by_cases c_25 : wr (g 39 4) = 3
    · have h := it_t c_25 h
      refine x_tableIn (tgt := 98) 3 c_25 hx hb (kX5_take (i := 2) rfl) (by decide) (by decide) rfl (by decide) ?_
      refine lv_aload_n hx hb (kX5_take (i := 39) rfl) rfl (lv_at hl 0 rfl) ?_
      refine x_iload_n hx hb (kX5_take (i := 40) rfl) rfl (lv_at hl 1 rfl) ?_
      refine lv_aload_n hx hb (kX5_take (i := 41) rfl) rfl (lv_at hl 2 rfl) ?_
      obtain ⟨r_26, g_28, hc_27, h⟩ := bd2_some h
      refine x_callV (n := 2) (As := [vi a0, .ref (Θ.2.2.1 r)]) (rest := []) C hM (tX5_takeBehindOperand l Θ r hR a0 h0 g r_26 g_28 hc_27) (x_recvX C hM 39 (by decide) (eX_39 Θ _) rfl rfl) q_c_X5_takeBehindOperand q_mX5_128 q_i_X5_takeBehindOperand q_e_X5_takeBehindOperand q_n_X5 (by decide +kernel) ⟨by decide, by decide⟩ rfl hl.1 rfl (Nat.le_of_ble_eq_true rfl) (kX5_take (i := 42) rfl) (fun H locs hM => ?_)
      obtain ⟨hz_29, h⟩ := gc_some h
      obtain ⟨q1, q2⟩ := ret2 h
      rw [q1, q2]
      exact x_iret C hM (nar_z hz_29) (kX5_take (i := 43) rfl)
    have h := it_f c_25 h
    refine x_tableOut (tgt := 105) hx hb (kX5_take (i := 2) rfl) (by omega) (by decide) ?_
    refine lv_aload_n hx hb (kX5_take (i := 44) rfl) rfl (lv_at hl 0 rfl) ?_
    refine x_iload_n hx hb (kX5_take (i := 45) rfl) rfl (lv_at hl 1 rfl) ?_
    refine lv_aload_n hx hb (kX5_take (i := 46) rfl) rfl (lv_at hl 2 rfl) ?_
    obtain ⟨r_30, g_32, hc_31, h⟩ := bd2_some h
    refine x_callV (n := 2) (As := [vi a0, .ref (Θ.2.2.1 r)]) (rest := []) C hM (tX5_takeJoin l Θ r hR a0 h0 g r_30 g_32 hc_31) (x_recvX C hM 39 (by decide) (eX_39 Θ _) rfl rfl) q_c_X5_takeJoin q_mX5_131 q_i_X5_takeJoin q_e_X5_takeJoin q_n_X5 (by decide +kernel) ⟨by decide, by decide⟩ rfl hl.1 rfl (Nat.le_of_ble_eq_true rfl) (kX5_take (i := 47) rfl) (fun H locs hM => ?_)
    obtain ⟨hz_33, h⟩ := gc_some h
    obtain ⟨q1, q2⟩ := ret2 h
    rw [q1, q2]
    exact x_iret C hM (nar_z hz_33) (kX5_take (i := 48) rfl)
  exact key _ _ hM

/-! X7_join -/
def fX7_join (a0 : Int) (a1 : Int) (a2 : Int) : Option (Int) :=
  if wr a0 = 10010 then (
    some (wr (iOr a1 a2))
  ) else (
  if wr a0 = 10011 then (
    some (wr (iAnd a1 a2))
  ) else (
  if wr a0 = 10012 then (
    some 0
  ) else (
  if wr a0 = 10013 then (
    if wr a2 ≤ wr a1 then (
      some 0
    ) else (
      some 1
    )
  ) else (
  if wr a0 = 10014 then (
    if wr a1 ≤ wr a2 then (
      some 0
    ) else (
      some 1
    )
  ) else (
  if wr a0 = 10015 then (
    if wr a1 = wr a2 then (
      some 1
    ) else (
      some 0
    )
  ) else (
  if wr a0 = 10016 then (
    some ((wr a1) + (wr a2))
  ) else (
  if wr a0 = 10017 then (
    some ((wr a1) - (wr a2))
  ) else (
  if wr a0 = 10018 then (
    some ((wr a1) * (wr a2))
  ) else (
  if wr a0 = 10019 then (
    if wr a2 = 0 then (
      some 0
    ) else (
      gc (¬ wr a2 = 0) <|
      some (wr (Int.tdiv (wr a1) (wr a2)))
    )
  ) else (
    some 0
  ))))))))))
set_option maxRecDepth 100000 in
set_option maxHeartbeats 4000000 in
theorem tX7_join (l : Launch) (Θ : Th) (a0 : Int) (a1 : Int) (a2 : Int) (h0 g0 : Mem) (rv : Int) (h : fX7_join a0 a1 a2 = some rv) : Ct l yX7_join cX7_join 3 (some .long) 0 0 Θ [vi a0, vi a1, vi a2] g0 h0 g0 h0 (some (vl rv)) := by
  refine x_start (by decide) (Nat.le_of_ble_eq_true rfl) ?_
  intro p e s m args below meth c ls C hM hl
  have hl : lv_has ls 3 [(0, vi a0), (1, vi a1), (2, vi a2)] := hl
  obtain ⟨hx, hb, hml, hown, hts, -⟩ := id C
  unfold fX7_join at h
  have key : ∀ (H : Heap) (locs : List Loc), Hd Θ s g0 h0 H locs → W p l e { frames := 0, cells := 0, slots := 0, locals := 0 } s m args below meth c H locs 0 0 (MQ below (Qx Θ s.heap.size g0 h0 (some (vl rv))) args s 0 0 (AA Θ s.heap.size)) (F0 m 0 ls []) := by
    intro H locs hM
    refine x_iload_n hx hb (kX7_join (i := 0) rfl) rfl (lv_at hl 0 rfl) ?_
    by_cases c_1 : wr a0 = 10010
    · have h := it_t c_1 h
      refine x_tableIn (tgt := 56) 10010 c_1 hx hb (kX7_join (i := 1) rfl) (by decide) (by decide) rfl (by decide) ?_
      refine x_iload_n hx hb (kX7_join (i := 2) rfl) rfl (lv_at hl 1 rfl) ?_
      refine x_iload_n hx hb (kX7_join (i := 3) rfl) rfl (lv_at hl 2 rfl) ?_
      refine x_ior hx hb (kX7_join (i := 4) rfl) ?_
      refine x_i2l (a' := wr (iOr a1 a2)) hx hb rfl (kX7_join (i := 5) rfl) ?_
      rw [← Option.some.inj h]
      exact x_lret C hM (kX7_join (i := 6) rfl)
    have h := it_f c_1 h
    by_cases c_2 : wr a0 = 10011
    · have h := it_t c_2 h
      refine x_tableIn (tgt := 61) 10011 c_2 hx hb (kX7_join (i := 1) rfl) (by decide) (by decide) rfl (by decide) ?_
      refine x_iload_n hx hb (kX7_join (i := 7) rfl) rfl (lv_at hl 1 rfl) ?_
      refine x_iload_n hx hb (kX7_join (i := 8) rfl) rfl (lv_at hl 2 rfl) ?_
      refine x_iand hx hb (kX7_join (i := 9) rfl) ?_
      refine x_i2l (a' := wr (iAnd a1 a2)) hx hb rfl (kX7_join (i := 10) rfl) ?_
      rw [← Option.some.inj h]
      exact x_lret C hM (kX7_join (i := 11) rfl)
    have h := it_f c_2 h
    by_cases c_3 : wr a0 = 10012
    · have h := it_t c_3 h
      refine x_tableIn (tgt := 130) 10012 c_3 hx hb (kX7_join (i := 1) rfl) (by decide) (by decide) rfl (by decide) ?_
      refine x_lconst (z := 0) hx hb rfl (kX7_join (i := 60) rfl) ?_
      rw [← Option.some.inj h]
      exact x_lret C hM (kX7_join (i := 61) rfl)
    have h := it_f c_3 h
    by_cases c_4 : wr a0 = 10013
    · have h := it_t c_4 h
      refine x_tableIn (tgt := 66) 10013 c_4 hx hb (kX7_join (i := 1) rfl) (by decide) (by decide) rfl (by decide) ?_
      refine x_iload_n hx hb (kX7_join (i := 12) rfl) rfl (lv_at hl 1 rfl) ?_
      refine x_iload_n hx hb (kX7_join (i := 13) rfl) rfl (lv_at hl 2 rfl) ?_
      refine x_icmp_ge (a' := wr a1) (b' := wr a2) hx hb rfl rfl (tgt := 75) (kX7_join (i := 14) rfl) (by decide) (fun c_5 => ?_) (fun c_5 => ?_)
      · have h := it_t c_5 h
        refine x_lconst (z := 0) hx hb rfl (kX7_join (i := 17) rfl) ?_
        rw [← Option.some.inj h]
        exact x_lret C hM (kX7_join (i := 18) rfl)
      · have h := it_f c_5 h
        refine x_lconst (z := 1) hx hb rfl (kX7_join (i := 15) rfl) ?_
        refine lv_goto (tgt := 76) hx hb (kX7_join (i := 16) rfl) (by decide) ?_
        rw [← Option.some.inj h]
        exact x_lret C hM (kX7_join (i := 18) rfl)
    have h := it_f c_4 h
    by_cases c_6 : wr a0 = 10014
    · have h := it_t c_6 h
      refine x_tableIn (tgt := 77) 10014 c_6 hx hb (kX7_join (i := 1) rfl) (by decide) (by decide) rfl (by decide) ?_
      refine x_iload_n hx hb (kX7_join (i := 19) rfl) rfl (lv_at hl 1 rfl) ?_
      refine x_iload_n hx hb (kX7_join (i := 20) rfl) rfl (lv_at hl 2 rfl) ?_
      refine x_icmp_le (a' := wr a1) (b' := wr a2) hx hb rfl rfl (tgt := 86) (kX7_join (i := 21) rfl) (by decide) (fun c_7 => ?_) (fun c_7 => ?_)
      · have h := it_t c_7 h
        refine x_lconst (z := 0) hx hb rfl (kX7_join (i := 24) rfl) ?_
        rw [← Option.some.inj h]
        exact x_lret C hM (kX7_join (i := 25) rfl)
      · have h := it_f c_7 h
        refine x_lconst (z := 1) hx hb rfl (kX7_join (i := 22) rfl) ?_
        refine lv_goto (tgt := 87) hx hb (kX7_join (i := 23) rfl) (by decide) ?_
        rw [← Option.some.inj h]
        exact x_lret C hM (kX7_join (i := 25) rfl)
    have h := it_f c_6 h
    by_cases c_8 : wr a0 = 10015
    · have h := it_t c_8 h
      refine x_tableIn (tgt := 88) 10015 c_8 hx hb (kX7_join (i := 1) rfl) (by decide) (by decide) rfl (by decide) ?_
      refine x_iload_n hx hb (kX7_join (i := 26) rfl) rfl (lv_at hl 1 rfl) ?_
      refine x_iload_n hx hb (kX7_join (i := 27) rfl) rfl (lv_at hl 2 rfl) ?_
      refine x_icmp_ne (a' := wr a1) (b' := wr a2) hx hb rfl rfl (tgt := 97) (kX7_join (i := 28) rfl) (by decide) (fun c_9 => ?_) (fun c_9 => ?_)
      · have h := it_f c_9 h
        refine x_lconst (z := 0) hx hb rfl (kX7_join (i := 31) rfl) ?_
        rw [← Option.some.inj h]
        exact x_lret C hM (kX7_join (i := 32) rfl)
      · have h := it_t c_9 h
        refine x_lconst (z := 1) hx hb rfl (kX7_join (i := 29) rfl) ?_
        refine lv_goto (tgt := 98) hx hb (kX7_join (i := 30) rfl) (by decide) ?_
        rw [← Option.some.inj h]
        exact x_lret C hM (kX7_join (i := 32) rfl)
    have h := it_f c_8 h
    by_cases c_10 : wr a0 = 10016
    · have h := it_t c_10 h
      refine x_tableIn (tgt := 99) 10016 c_10 hx hb (kX7_join (i := 1) rfl) (by decide) (by decide) rfl (by decide) ?_
      refine x_iload_n hx hb (kX7_join (i := 33) rfl) rfl (lv_at hl 1 rfl) ?_
      refine x_i2l (a' := wr a1) hx hb rfl (kX7_join (i := 34) rfl) ?_
      refine x_iload_n hx hb (kX7_join (i := 35) rfl) rfl (lv_at hl 2 rfl) ?_
      refine x_i2l (a' := wr a2) hx hb rfl (kX7_join (i := 36) rfl) ?_
      refine x_ladd hx hb (kX7_join (i := 37) rfl) ?_
      rw [← Option.some.inj h]
      exact x_lret C hM (kX7_join (i := 38) rfl)
    have h := it_f c_10 h
    by_cases c_11 : wr a0 = 10017
    · have h := it_t c_11 h
      refine x_tableIn (tgt := 105) 10017 c_11 hx hb (kX7_join (i := 1) rfl) (by decide) (by decide) rfl (by decide) ?_
      refine x_iload_n hx hb (kX7_join (i := 39) rfl) rfl (lv_at hl 1 rfl) ?_
      refine x_i2l (a' := wr a1) hx hb rfl (kX7_join (i := 40) rfl) ?_
      refine x_iload_n hx hb (kX7_join (i := 41) rfl) rfl (lv_at hl 2 rfl) ?_
      refine x_i2l (a' := wr a2) hx hb rfl (kX7_join (i := 42) rfl) ?_
      refine x_lsub hx hb (kX7_join (i := 43) rfl) ?_
      rw [← Option.some.inj h]
      exact x_lret C hM (kX7_join (i := 44) rfl)
    have h := it_f c_11 h
    by_cases c_12 : wr a0 = 10018
    · have h := it_t c_12 h
      refine x_tableIn (tgt := 111) 10018 c_12 hx hb (kX7_join (i := 1) rfl) (by decide) (by decide) rfl (by decide) ?_
      refine x_iload_n hx hb (kX7_join (i := 45) rfl) rfl (lv_at hl 1 rfl) ?_
      refine x_i2l (a' := wr a1) hx hb rfl (kX7_join (i := 46) rfl) ?_
      refine x_iload_n hx hb (kX7_join (i := 47) rfl) rfl (lv_at hl 2 rfl) ?_
      refine x_i2l (a' := wr a2) hx hb rfl (kX7_join (i := 48) rfl) ?_
      refine x_lmul hx hb (kX7_join (i := 49) rfl) ?_
      rw [← Option.some.inj h]
      exact x_lret C hM (kX7_join (i := 50) rfl)
    have h := it_f c_12 h
    by_cases c_13 : wr a0 = 10019
    · have h := it_t c_13 h
      refine x_tableIn (tgt := 117) 10019 c_13 hx hb (kX7_join (i := 1) rfl) (by decide) (by decide) rfl (by decide) ?_
      refine x_iload_n hx hb (kX7_join (i := 51) rfl) rfl (lv_at hl 2 rfl) ?_
      refine x_if_ne (a' := wr a2) hx hb rfl (tgt := 125) (kX7_join (i := 52) rfl) (by decide) (fun c_14 => ?_) (fun c_14 => ?_)
      · have h := it_f c_14 h
        refine x_iload_n hx hb (kX7_join (i := 55) rfl) rfl (lv_at hl 1 rfl) ?_
        refine x_iload_n hx hb (kX7_join (i := 56) rfl) rfl (lv_at hl 2 rfl) ?_
        obtain ⟨hz_15, h⟩ := gc_some h
        refine x_idiv (a' := wr a1) (b' := wr a2) hx hb (kX7_join (i := 57) rfl) rfl rfl hz_15 ?_
        refine x_i2l (a' := wr (Int.tdiv (wr a1) (wr a2))) hx hb rfl (kX7_join (i := 58) rfl) ?_
        rw [← Option.some.inj h]
        exact x_lret C hM (kX7_join (i := 59) rfl)
      · have h := it_t c_14 h
        refine x_lconst (z := 0) hx hb rfl (kX7_join (i := 53) rfl) ?_
        refine lv_goto (tgt := 129) hx hb (kX7_join (i := 54) rfl) (by decide) ?_
        rw [← Option.some.inj h]
        exact x_lret C hM (kX7_join (i := 59) rfl)
    have h := it_f c_13 h
    refine x_tableOut (tgt := 130) hx hb (kX7_join (i := 1) rfl) (by omega) (by decide) ?_
    refine x_lconst (z := 0) hx hb rfl (kX7_join (i := 60) rfl) ?_
    rw [← Option.some.inj h]
    exact x_lret C hM (kX7_join (i := 61) rfl)
  exact key _ _ hM

/-! X7_isTrue -/
def fX7_isTrue_L20 (r : Nat) : Nat → Int → Int → Int → Mem → (Int → Mem → Option (Int × Mem)) → Option (Int × Mem)
  | 0, _, _, _, _, _ => none
  | n + 1, y1, y3, y4, g, K190 =>
    gd y1 2 <|
    if wr (g (r + 4) (wr y1).toNat) ≤ wr y4 then (
      K190 y3 g
    ) else (
      if 300 ≤ wr y4 then (
        K190 y3 g
      ) else (
        gd y4 300 <|
        bnd (g (r + 1) (wr y4).toNat) fun x_10 =>
        jn (fun (p_11 : Int) (g_12 : Mem) =>
          bnd (y4 + 1) fun x_13 =>
          fX7_isTrue_L20 r n y1 p_11 x_13 g_12 K190
        ) fun J184 =>
        jn (fun (_ : Unit) =>
          jn (fun (_ : Unit) =>
            if wr y3 < 2 then (
              J184 y3 g
            ) else (
              gd (y3 - 2) 32 <|
              gd (y3 - 1) 32 <|
              bd (fX7_join x_10 (g (r + 2) (wr (y3 - 2)).toNat) (g (r + 2) (wr (y3 - 1)).toNat)) fun r_17 =>
              bd (fX11_bring r_17 1000000) fun r_19 =>
              gd (y3 - 2) 32 <|
              bnd (up g (r + 2) (wr (y3 - 2)).toNat r_19) fun g_22 =>
              bnd (y3 + (-1)) fun x_23 =>
              J184 x_23 g_22
            )
          ) fun J142 =>
          if wr x_10 = 10012 then (
            if wr y3 < 1 then (
              J142 ()
            ) else (
              gd (y3 - 1) 32 <|
              gd (y3 - 1) 32 <|
              bnd (up g (r + 2) (wr (y3 - 1)).toNat (1 - (g (r + 2) (wr (y3 - 1)).toNat))) fun g_28 =>
              J184 y3 g_28
            )
          ) else (
            J142 ()
          )
        ) fun J108 =>
        if 10010 ≤ wr x_10 then (
          J108 ()
        ) else (
          if 32 ≤ wr y3 then (
            J108 ()
          ) else (
            bnd (x_10 - 10000) fun x_31 =>
            jn (fun (v_32 : Int) =>
              gd y3 32 <|
              bnd (up g (r + 2) (wr y3).toNat v_32) fun g_34 =>
              bnd (y3 + 1) fun x_35 =>
              J184 x_35 g_34
            ) fun J101 =>
            jn (fun (_ : Unit) =>
              J101 x_10
            ) fun J99 =>
            if wr x_31 < 0 then (
              J99 ()
            ) else (
              if 7 ≤ wr x_31 then (
                J99 ()
              ) else (
                gd x_31 7 <|
                J101 (g 46 (wr x_31).toNat)
              )
            )
          )
        )
      )
    )
def fX7_isTrue (r : Nat) (a0 : Int) (g : Mem) : Option (Int × Mem) :=
  bd (fX7_has r a0 g) fun r_1 =>
  if wr r_1 = 0 then (
    some (1, g)
  ) else (
    gd a0 2 <|
    bnd (g (r + 3) (wr a0).toNat) fun x_5 =>
    fX7_isTrue_L20 r fuel a0 0 x_5 g
    (fun (z_39 : Int) (g_40 : Mem) =>
      if wr z_39 ≤ 0 then (
        some (0, g_40)
      ) else (
        gd (z_39 - 1) 32 <|
        if wr (g_40 (r + 2) (wr (z_39 - 1)).toNat) = 1 then (
          some (1, g_40)
        ) else (
          some (0, g_40)
        )
      )
    )
  )
set_option maxRecDepth 100000 in
set_option maxHeartbeats 4000000 in
theorem wX7_isTrue_L20 {p : Program} {l : Launch} {e : Env} {s : State} {m : MethodId} {args : Array Value} {below : List Frame} {meth : Method} {c : Code} {Θ : Th} {h0 : Mem} {r : Nat} (hR : isR r) {rv : Int} {gR : Mem} {K190 : Int → Mem → Option (Int × Mem)} (C : Cx p s m args meth c cX7_isTrue 7 RX7 (some .boolean) Θ) : ∀ (n : Nat) (y1 : Int) (y3 : Int) (y4 : Int) (g : Mem) (H : Heap) (locs : List Loc) (ls : Array Slot), fX7_isTrue_L20 r n y1 y3 y4 g K190 = some (rv, gR) → (∀ (z3 : Int) (gz : Mem) (H : Heap) (locs : List Loc) (ls : Array Slot), K190 z3 gz = some (rv, gR) → Hd Θ s gz h0 H locs → lv_has ls 7 [(0, .ref (Θ.2.2.1 r)), (3, vi z3)] → W p l e { frames := 1, cells := 0, slots := 0, locals := 22 } s m args below meth c H locs 0 0 (MQ below (Qx Θ s.heap.size gR h0 (some (vi rv))) args s 0 0 (AA Θ s.heap.size)) (F0 m 190 ls [])) → Hd Θ s g h0 H locs → lv_has ls 7 [(0, .ref (Θ.2.2.1 r)), (1, vi y1), (2, .ref (Θ.2.2.1 46)), (3, vi y3), (4, vi y4)] → W p l e { frames := 1, cells := 0, slots := 0, locals := 22 } s m args below meth c H locs 0 0 (MQ below (Qx Θ s.heap.size gR h0 (some (vi rv))) args s 0 0 (AA Θ s.heap.size)) (F0 m 20 ls []) := by
  intro n
  obtain ⟨hx, hb, hml, hown, hts, -⟩ := id C
  induction n with
  | zero => intro y1 y3 y4 g H locs ls h; cases h
  | succ n ih =>
    intro y1 y3 y4 g H locs ls h hK190 hM hl
    rw [fX7_isTrue_L20] at h
    refine x_iload hx hb (kX7_isTrue (i := 13) rfl) (lv_at hl 4 rfl) ?_
    refine lv_aload_n hx hb (kX7_isTrue (i := 14) rfl) rfl (lv_at hl 0 rfl) ?_
    refine gX7_to r hR C hM q_fX7_21 (kX7_isTrue (i := 15) rfl) ?_
    refine x_iload_n hx hb (kX7_isTrue (i := 16) rfl) rfl (lv_at hl 1 rfl) ?_
    obtain ⟨hi_6, h⟩ := gd_some h
    refine x_ialdX C hM (r + 4) (isR_to hR) (eX_isR_to hR) hi_6 (kX7_isTrue (i := 17) rfl) ?_
    refine x_icmp_ge (a' := wr y4) (b' := wr (g (r + 4) (wr y1).toNat)) hx hb rfl rfl (tgt := 190) (kX7_isTrue (i := 18) rfl) (by decide) (fun c_7 => ?_) (fun c_7 => ?_)
    · have h := it_t c_7 h
      exact hK190 y3 g H locs ls h hM (lv_sub hl [0, 3] rfl)
    · have h := it_f c_7 h
      refine x_iload hx hb (kX7_isTrue (i := 19) rfl) (lv_at hl 4 rfl) ?_
      refine lv_aload_n hx hb (kX7_isTrue (i := 20) rfl) rfl (lv_at hl 0 rfl) ?_
      refine gX7_codes r hR C hM q_fX7_9 (kX7_isTrue (i := 21) rfl) ?_
      refine x_alenX C hM (r + 1) (isR_codes hR) (eX_isR_codes hR) (z0 := 300) rfl (kX7_isTrue (i := 22) rfl) ?_
      refine x_icmp_ge (a' := wr y4) (b' := 300) hx hb rfl (by decide) (tgt := 190) (kX7_isTrue (i := 23) rfl) (by decide) (fun c_8 => ?_) (fun c_8 => ?_)
      · have h := it_t c_8 h
        exact hK190 y3 g H locs ls h hM (lv_sub hl [0, 3] rfl)
      · have h := it_f c_8 h
        refine lv_aload_n hx hb (kX7_isTrue (i := 24) rfl) rfl (lv_at hl 0 rfl) ?_
        refine gX7_codes r hR C hM q_fX7_9 (kX7_isTrue (i := 25) rfl) ?_
        refine x_iload hx hb (kX7_isTrue (i := 26) rfl) (lv_at hl 4 rfl) ?_
        obtain ⟨hi_9, h⟩ := gd_some h
        refine x_ialdX C hM (r + 1) (isR_codes hR) (eX_isR_codes hR) hi_9 (kX7_isTrue (i := 27) rfl) ?_
        obtain ⟨x_10, ex_10, h⟩ := bnd_some h
        refine x_top ex_10 ?_
        refine x_istore (lv' := [(5, vi x_10), (0, .ref (Θ.2.2.1 r)), (1, vi y1), (2, .ref (Θ.2.2.1 46)), (3, vi y3), (4, vi y4)]) hx hb (kX7_isTrue (i := 28) rfl) hl (by decide) rfl (fun ls hl => ?_)
        refine x_iload hx hb (kX7_isTrue (i := 29) rfl) (lv_at hl 0 rfl) ?_
        refine x_sipush hx hb (by decide) (kX7_isTrue (i := 30) rfl) ?_
        refine jn_go h (fun J184 : Int → Mem → Option (Int × Mem) => ∀ (p_11 : Int) (g_12 : Mem) (H : Heap) (locs : List Loc) (ls : Array Slot), J184 p_11 g_12 = some (rv, gR) → Hd Θ s g_12 h0 H locs → lv_has ls 7 [(0, .ref (Θ.2.2.1 r)), (1, vi y1), (2, .ref (Θ.2.2.1 46)), (3, vi p_11), (4, vi y4)] → W p l e { frames := 1, cells := 0, slots := 0, locals := 22 } s m args below meth c H locs 0 0 (MQ below (Qx Θ s.heap.size gR h0 (some (vi rv))) args s 0 0 (AA Θ s.heap.size)) (F0 m 184 ls [])) ?_ ?_
        · intro p_11 g_12 H locs ls h hM hl
          obtain ⟨x_13, ex_13, h⟩ := bnd_some h
          refine x_iinc (k := 4) (lv' := [(4, vi x_13), (0, .ref (Θ.2.2.1 r)), (1, vi y1), (2, .ref (Θ.2.2.1 46)), (3, vi p_11)]) hx hb (kX7_isTrue (i := 105) rfl) hl rfl ex_13 (by decide) rfl (fun ls hl => ?_)
          refine lv_goto (tgt := 20) hx hb (kX7_isTrue (i := 106) rfl) (by decide) ?_
          exact ih y1 p_11 x_13 g_12 H locs ls h hK190 hM (lv_sub hl [1, 2, 3, 4, 0] rfl)
        intro J184 hJ184 h
        refine jn_go h (fun J108 : Unit → Option (Int × Mem) => ∀ (H : Heap) (locs : List Loc) (ls : Array Slot), J108 () = some (rv, gR) → Hd Θ s g h0 H locs → lv_has ls 7 [(0, .ref (Θ.2.2.1 r)), (1, vi y1), (2, .ref (Θ.2.2.1 46)), (3, vi y3), (4, vi y4), (5, vi x_10)] → W p l e { frames := 1, cells := 0, slots := 0, locals := 22 } s m args below meth c H locs 0 0 (MQ below (Qx Θ s.heap.size gR h0 (some (vi rv))) args s 0 0 (AA Θ s.heap.size)) (F0 m 108 ls [])) ?_ ?_
        · intro  H locs ls h hM hl
          refine x_iload hx hb (kX7_isTrue (i := 58) rfl) (lv_at hl 5 rfl) ?_
          refine x_sipush hx hb (by decide) (kX7_isTrue (i := 59) rfl) ?_
          refine jn_go h (fun J142 : Unit → Option (Int × Mem) => ∀ (H : Heap) (locs : List Loc) (ls : Array Slot), J142 () = some (rv, gR) → Hd Θ s g h0 H locs → lv_has ls 7 [(0, .ref (Θ.2.2.1 r)), (1, vi y1), (2, .ref (Θ.2.2.1 46)), (3, vi y3), (4, vi y4), (5, vi x_10)] → W p l e { frames := 1, cells := 0, slots := 0, locals := 22 } s m args below meth c H locs 0 0 (MQ below (Qx Θ s.heap.size gR h0 (some (vi rv))) args s 0 0 (AA Θ s.heap.size)) (F0 m 142 ls [])) ?_ ?_
          · intro  H locs ls h hM hl
            refine x_iload_n hx hb (kX7_isTrue (i := 79) rfl) rfl (lv_at hl 3 rfl) ?_
            refine x_iconst hx hb (kX7_isTrue (i := 80) rfl) ?_
            refine x_icmp_lt (a' := wr y3) (b' := 2) hx hb rfl (by decide) (tgt := 184) (kX7_isTrue (i := 81) rfl) (by decide) (fun c_14 => ?_) (fun c_14 => ?_)
            · have h := it_t c_14 h
              exact hJ184 y3 g H locs ls h hM (lv_sub hl [0, 1, 2, 3, 4] rfl)
            · have h := it_f c_14 h
              refine lv_aload_n hx hb (kX7_isTrue (i := 82) rfl) rfl (lv_at hl 0 rfl) ?_
              refine gX7_stack r hR C hM q_fX7_15 (kX7_isTrue (i := 83) rfl) ?_
              refine x_iload_n hx hb (kX7_isTrue (i := 84) rfl) rfl (lv_at hl 3 rfl) ?_
              refine x_iconst hx hb (kX7_isTrue (i := 85) rfl) ?_
              refine x_isub hx hb (kX7_isTrue (i := 86) rfl) ?_
              refine x_iload hx hb (kX7_isTrue (i := 87) rfl) (lv_at hl 5 rfl) ?_
              refine lv_aload_n hx hb (kX7_isTrue (i := 88) rfl) rfl (lv_at hl 0 rfl) ?_
              refine gX7_stack r hR C hM q_fX7_15 (kX7_isTrue (i := 89) rfl) ?_
              refine x_iload_n hx hb (kX7_isTrue (i := 90) rfl) rfl (lv_at hl 3 rfl) ?_
              refine x_iconst hx hb (kX7_isTrue (i := 91) rfl) ?_
              refine x_isub hx hb (kX7_isTrue (i := 92) rfl) ?_
              obtain ⟨hi_15, h⟩ := gd_some h
              refine x_ialdX C hM (r + 2) (isR_stack hR) (eX_isR_stack hR) hi_15 (kX7_isTrue (i := 93) rfl) ?_
              refine lv_aload_n hx hb (kX7_isTrue (i := 94) rfl) rfl (lv_at hl 0 rfl) ?_
              refine gX7_stack r hR C hM q_fX7_15 (kX7_isTrue (i := 95) rfl) ?_
              refine x_iload_n hx hb (kX7_isTrue (i := 96) rfl) rfl (lv_at hl 3 rfl) ?_
              refine x_iconst hx hb (kX7_isTrue (i := 97) rfl) ?_
              refine x_isub hx hb (kX7_isTrue (i := 98) rfl) ?_
              obtain ⟨hi_16, h⟩ := gd_some h
              refine x_ialdX C hM (r + 2) (isR_stack hR) (eX_isR_stack hR) hi_16 (kX7_isTrue (i := 99) rfl) ?_
              obtain ⟨r_17, hc_18, h⟩ := bd_some h
              refine x_callS (n := 3) (As := [vi x_10, vi (g (r + 2) (wr (y3 - 2)).toNat), vi (g (r + 2) (wr (y3 - 1)).toNat)]) (rest := [vi (y3 - 2), .ref (Θ.2.2.1 (r + 2))]) C hM (tX7_join l Θ x_10 (g (r + 2) (wr (y3 - 2)).toNat) (g (r + 2) (wr (y3 - 1)).toNat) h0 g r_17 hc_18) q_c_X7_join q_mX7_32 q_s_X7_join q_n_X7 (by decide +kernel) ⟨by decide, by decide⟩ rfl hl.1 rfl (Nat.le_of_ble_eq_true rfl) (kX7_isTrue (i := 100) rfl) (fun H locs hM => ?_)
              refine x_ldc (n := 1000000) hx hb hown (hts _ q_kX7_36) (kX7_isTrue (i := 101) rfl) ?_
              obtain ⟨r_19, hc_20, h⟩ := bd_some h
              refine x_callSN (n := 2) (As := [vl r_17, vi 1000000]) (rest := [vi (y3 - 2), .ref (Θ.2.2.1 (r + 2))]) C hM (tX11_bring l Θ r_17 1000000 h0 g r_19 hc_20) q_c_X11_bring (List.mem_of_getElem? (i := 11) rfl) q_s_X11_bring q_n_X11 (by decide +kernel) ⟨by decide, by decide⟩ rfl hl.1 rfl (Nat.le_of_ble_eq_true rfl) (kX7_isTrue (i := 102) rfl) (fun H locs hM => ?_)
              obtain ⟨hi_21, h⟩ := gd_some h
              obtain ⟨g_22, eg_22, h⟩ := bnd_some h
              refine x_iastX C hM (r + 2) (isR_stack hR) (eX_isR_stack hR) hi_21 eg_22 (kX7_isTrue (i := 103) rfl) (fun H locs hM => ?_)
              obtain ⟨x_23, ex_23, h⟩ := bnd_some h
              refine x_iinc (k := 3) (lv' := [(3, vi x_23), (0, .ref (Θ.2.2.1 r)), (1, vi y1), (2, .ref (Θ.2.2.1 46)), (4, vi y4), (5, vi x_10)]) hx hb (kX7_isTrue (i := 104) rfl) hl rfl ex_23 (by decide) rfl (fun ls hl => ?_)
              exact hJ184 x_23 g_22 H locs ls h hM (lv_sub hl [1, 2, 3, 0, 4] rfl)
          intro J142 hJ142 h
          refine x_icmp_ne (a' := wr x_10) (b' := 10012) hx hb rfl (by decide) (tgt := 142) (kX7_isTrue (i := 60) rfl) (by decide) (fun c_24 => ?_) (fun c_24 => ?_)
          · have h := it_f c_24 h
            exact hJ142 H locs ls h hM (lv_sub hl [0, 1, 2, 3, 4, 5] rfl)
          · have h := it_t c_24 h
            refine x_iload_n hx hb (kX7_isTrue (i := 61) rfl) rfl (lv_at hl 3 rfl) ?_
            refine x_iconst hx hb (kX7_isTrue (i := 62) rfl) ?_
            refine x_icmp_lt (a' := wr y3) (b' := 1) hx hb rfl (by decide) (tgt := 142) (kX7_isTrue (i := 63) rfl) (by decide) (fun c_25 => ?_) (fun c_25 => ?_)
            · have h := it_t c_25 h
              exact hJ142 H locs ls h hM (lv_sub hl [0, 1, 2, 3, 4, 5] rfl)
            · have h := it_f c_25 h
              refine lv_aload_n hx hb (kX7_isTrue (i := 64) rfl) rfl (lv_at hl 0 rfl) ?_
              refine gX7_stack r hR C hM q_fX7_15 (kX7_isTrue (i := 65) rfl) ?_
              refine x_iload_n hx hb (kX7_isTrue (i := 66) rfl) rfl (lv_at hl 3 rfl) ?_
              refine x_iconst hx hb (kX7_isTrue (i := 67) rfl) ?_
              refine x_isub hx hb (kX7_isTrue (i := 68) rfl) ?_
              refine x_iconst hx hb (kX7_isTrue (i := 69) rfl) ?_
              refine lv_aload_n hx hb (kX7_isTrue (i := 70) rfl) rfl (lv_at hl 0 rfl) ?_
              refine gX7_stack r hR C hM q_fX7_15 (kX7_isTrue (i := 71) rfl) ?_
              refine x_iload_n hx hb (kX7_isTrue (i := 72) rfl) rfl (lv_at hl 3 rfl) ?_
              refine x_iconst hx hb (kX7_isTrue (i := 73) rfl) ?_
              refine x_isub hx hb (kX7_isTrue (i := 74) rfl) ?_
              obtain ⟨hi_26, h⟩ := gd_some h
              refine x_ialdX C hM (r + 2) (isR_stack hR) (eX_isR_stack hR) hi_26 (kX7_isTrue (i := 75) rfl) ?_
              refine x_isub hx hb (kX7_isTrue (i := 76) rfl) ?_
              obtain ⟨hi_27, h⟩ := gd_some h
              obtain ⟨g_28, eg_28, h⟩ := bnd_some h
              refine x_iastX C hM (r + 2) (isR_stack hR) (eX_isR_stack hR) hi_27 eg_28 (kX7_isTrue (i := 77) rfl) (fun H locs hM => ?_)
              refine lv_goto (tgt := 184) hx hb (kX7_isTrue (i := 78) rfl) (by decide) ?_
              exact hJ184 y3 g_28 H locs ls h hM (lv_sub hl [0, 1, 2, 3, 4] rfl)
        intro J108 hJ108 h
        refine x_icmp_ge (a' := wr x_10) (b' := 10010) hx hb rfl (by decide) (tgt := 108) (kX7_isTrue (i := 31) rfl) (by decide) (fun c_29 => ?_) (fun c_29 => ?_)
        · have h := it_t c_29 h
          exact hJ108 H locs ls h hM (lv_sub hl [1, 2, 3, 4, 5, 0] rfl)
        · have h := it_f c_29 h
          refine x_iload_n hx hb (kX7_isTrue (i := 32) rfl) rfl (lv_at hl 4 rfl) ?_
          refine lv_aload_n hx hb (kX7_isTrue (i := 33) rfl) rfl (lv_at hl 1 rfl) ?_
          refine gX7_stack r hR C hM q_fX7_15 (kX7_isTrue (i := 34) rfl) ?_
          refine x_alenX C hM (r + 2) (isR_stack hR) (eX_isR_stack hR) (z0 := 32) rfl (kX7_isTrue (i := 35) rfl) ?_
          refine x_icmp_ge (a' := wr y3) (b' := 32) hx hb rfl (by decide) (tgt := 108) (kX7_isTrue (i := 36) rfl) (by decide) (fun c_30 => ?_) (fun c_30 => ?_)
          · have h := it_t c_30 h
            exact hJ108 H locs ls h hM (lv_sub hl [1, 2, 3, 4, 5, 0] rfl)
          · have h := it_f c_30 h
            refine x_iload hx hb (kX7_isTrue (i := 37) rfl) (lv_at hl 0 rfl) ?_
            refine x_sipush hx hb (by decide) (kX7_isTrue (i := 38) rfl) ?_
            refine x_isub hx hb (kX7_isTrue (i := 39) rfl) ?_
            obtain ⟨x_31, ex_31, h⟩ := bnd_some h
            refine x_top ex_31 ?_
            refine x_istore (lv' := [(6, vi x_31), (5, vi x_10), (0, .ref (Θ.2.2.1 r)), (1, vi y1), (2, .ref (Θ.2.2.1 46)), (3, vi y3), (4, vi y4)]) hx hb (kX7_isTrue (i := 40) rfl) hl (by decide) rfl (fun ls hl => ?_)
            refine lv_aload_n hx hb (kX7_isTrue (i := 41) rfl) rfl (lv_at hl 2 rfl) ?_
            refine gX7_stack r hR C hM q_fX7_15 (kX7_isTrue (i := 42) rfl) ?_
            refine x_iload_n hx hb (kX7_isTrue (i := 43) rfl) rfl (lv_at hl 5 rfl) ?_
            refine x_iload hx hb (kX7_isTrue (i := 44) rfl) (lv_at hl 0 rfl) ?_
            refine jn_go h (fun J101 : Int → Option (Int × Mem) => ∀ (v_32 : Int) (H : Heap) (locs : List Loc) (ls : Array Slot), J101 v_32 = some (rv, gR) → Hd Θ s g h0 H locs → lv_has ls 7 [(0, .ref (Θ.2.2.1 r)), (1, vi y1), (2, .ref (Θ.2.2.1 46)), (3, vi y3), (4, vi y4)] → W p l e { frames := 1, cells := 0, slots := 0, locals := 22 } s m args below meth c H locs 0 0 (MQ below (Qx Θ s.heap.size gR h0 (some (vi rv))) args s 0 0 (AA Θ s.heap.size)) (F0 m 101 ls [vi v_32, vi y3, .ref (Θ.2.2.1 (r + 2))])) ?_ ?_
            · intro v_32 H locs ls h hM hl
              obtain ⟨hi_33, h⟩ := gd_some h
              obtain ⟨g_34, eg_34, h⟩ := bnd_some h
              refine x_iastX C hM (r + 2) (isR_stack hR) (eX_isR_stack hR) hi_33 eg_34 (kX7_isTrue (i := 55) rfl) (fun H locs hM => ?_)
              obtain ⟨x_35, ex_35, h⟩ := bnd_some h
              refine x_iinc (k := 3) (lv' := [(3, vi x_35), (0, .ref (Θ.2.2.1 r)), (1, vi y1), (2, .ref (Θ.2.2.1 46)), (4, vi y4)]) hx hb (kX7_isTrue (i := 56) rfl) hl rfl ex_35 (by decide) rfl (fun ls hl => ?_)
              refine lv_goto (tgt := 184) hx hb (kX7_isTrue (i := 57) rfl) (by decide) ?_
              exact hJ184 x_35 g_34 H locs ls h hM (lv_sub hl [1, 2, 3, 0, 4] rfl)
            intro J101 hJ101 h
            refine jn_go h (fun J99 : Unit → Option (Int × Mem) => ∀ (H : Heap) (locs : List Loc) (ls : Array Slot), J99 () = some (rv, gR) → Hd Θ s g h0 H locs → lv_has ls 7 [(0, .ref (Θ.2.2.1 r)), (1, vi y1), (2, .ref (Θ.2.2.1 46)), (3, vi y3), (4, vi y4), (5, vi x_10)] → W p l e { frames := 1, cells := 0, slots := 0, locals := 22 } s m args below meth c H locs 0 0 (MQ below (Qx Θ s.heap.size gR h0 (some (vi rv))) args s 0 0 (AA Θ s.heap.size)) (F0 m 99 ls [vi y3, .ref (Θ.2.2.1 (r + 2))])) ?_ ?_
            · intro  H locs ls h hM hl
              refine x_iload hx hb (kX7_isTrue (i := 54) rfl) (lv_at hl 5 rfl) ?_
              exact hJ101 x_10 H locs ls h hM (lv_sub hl [0, 1, 2, 3, 4] rfl)
            intro J99 hJ99 h
            refine x_if_lt (a' := wr x_31) hx hb rfl (tgt := 99) (kX7_isTrue (i := 45) rfl) (by decide) (fun c_36 => ?_) (fun c_36 => ?_)
            · have h := it_t c_36 h
              exact hJ99 H locs ls h hM (lv_sub hl [2, 3, 4, 5, 6, 1] rfl)
            · have h := it_f c_36 h
              refine x_iload hx hb (kX7_isTrue (i := 46) rfl) (lv_at hl 0 rfl) ?_
              refine lv_aload_n hx hb (kX7_isTrue (i := 47) rfl) rfl (lv_at hl 4 rfl) ?_
              refine x_alenX C hM 46 (by decide) (eX_46 Θ) (z0 := 7) rfl (kX7_isTrue (i := 48) rfl) ?_
              refine x_icmp_ge (a' := wr x_31) (b' := 7) hx hb rfl (by decide) (tgt := 99) (kX7_isTrue (i := 49) rfl) (by decide) (fun c_37 => ?_) (fun c_37 => ?_)
              · have h := it_t c_37 h
                exact hJ99 H locs ls h hM (lv_sub hl [2, 3, 4, 5, 6, 1] rfl)
              · have h := it_f c_37 h
                refine lv_aload_n hx hb (kX7_isTrue (i := 50) rfl) rfl (lv_at hl 4 rfl) ?_
                refine x_iload hx hb (kX7_isTrue (i := 51) rfl) (lv_at hl 0 rfl) ?_
                obtain ⟨hi_38, h⟩ := gd_some h
                refine x_ialdX C hM 46 (by decide) (eX_46 Θ) hi_38 (kX7_isTrue (i := 52) rfl) ?_
                refine lv_goto (tgt := 101) hx hb (kX7_isTrue (i := 53) rfl) (by decide) ?_
                exact hJ101 (g 46 (wr x_31).toNat) H locs ls h hM (lv_sub hl [2, 3, 4, 5, 6] rfl)
set_option maxRecDepth 100000 in
set_option maxHeartbeats 4000000 in
theorem tX7_isTrue (l : Launch) (Θ : Th) (r : Nat) (hR : isR r) (a0 : Int) (h0 g : Mem) (rv : Int) (gR : Mem) (h : fX7_isTrue r a0 g = some (rv, gR)) : Ct l yX7_isTrue cX7_isTrue 7 (some .boolean) 1 22 Θ [.ref (Θ.2.2.1 r), vi a0, .ref (Θ.2.2.1 46)] g h0 gR h0 (some (vi rv)) := by
  refine x_start (by decide) (Nat.le_of_ble_eq_true rfl) ?_
  intro p e s m args below meth c ls C hM hl
  have hl : lv_has ls 7 [(0, .ref (Θ.2.2.1 r)), (1, vi a0), (2, .ref (Θ.2.2.1 46))] := hl
  obtain ⟨hx, hb, hml, hown, hts, -⟩ := id C
  unfold fX7_isTrue at h
  have key : ∀ (H : Heap) (locs : List Loc), Hd Θ s g h0 H locs → W p l e { frames := 1, cells := 0, slots := 0, locals := 22 } s m args below meth c H locs 0 0 (MQ below (Qx Θ s.heap.size gR h0 (some (vi rv))) args s 0 0 (AA Θ s.heap.size)) (F0 m 0 ls []) := by
    intro H locs hM
    refine lv_aload_n hx hb (kX7_isTrue (i := 0) rfl) rfl (lv_at hl 0 rfl) ?_
    refine x_iload_n hx hb (kX7_isTrue (i := 1) rfl) rfl (lv_at hl 1 rfl) ?_
    obtain ⟨r_1, hc_2, h⟩ := bd_some h
    refine x_callV (n := 1) (As := [vi a0]) (rest := []) C hM (tX7_has l Θ r hR a0 h0 g r_1 hc_2) (x_recvX C hM r (isR_lt hR) (eX_isR hR _) rfl rfl) q_c_X7_has q_mX7_28 q_i_X7_has q_e_X7_has q_n_X7 (by decide +kernel) ⟨by decide, by decide⟩ rfl hl.1 rfl (Nat.le_of_ble_eq_true rfl) (kX7_isTrue (i := 2) rfl) (fun H locs hM => ?_)
    refine x_if_ne (a' := wr r_1) hx hb rfl (tgt := 10) (kX7_isTrue (i := 3) rfl) (by decide) (fun c_3 => ?_) (fun c_3 => ?_)
    · have h := it_f c_3 h
      refine x_iconst hx hb (kX7_isTrue (i := 6) rfl) ?_
      refine x_istore_n (lv' := [(3, vi 0), (0, .ref (Θ.2.2.1 r)), (1, vi a0), (2, .ref (Θ.2.2.1 46))]) hx hb (kX7_isTrue (i := 7) rfl) rfl hl (by decide) rfl (fun ls hl => ?_)
      refine lv_aload_n hx hb (kX7_isTrue (i := 8) rfl) rfl (lv_at hl 1 rfl) ?_
      refine gX7_from r hR C hM q_fX7_18 (kX7_isTrue (i := 9) rfl) ?_
      refine x_iload_n hx hb (kX7_isTrue (i := 10) rfl) rfl (lv_at hl 2 rfl) ?_
      obtain ⟨hi_4, h⟩ := gd_some h
      refine x_ialdX C hM (r + 3) (isR_from hR) (eX_isR_from hR) hi_4 (kX7_isTrue (i := 11) rfl) ?_
      obtain ⟨x_5, ex_5, h⟩ := bnd_some h
      refine x_top ex_5 ?_
      refine x_istore (lv' := [(4, vi x_5), (3, vi 0), (0, .ref (Θ.2.2.1 r)), (1, vi a0), (2, .ref (Θ.2.2.1 46))]) hx hb (kX7_isTrue (i := 12) rfl) hl (by decide) rfl (fun ls hl => ?_)
      refine wX7_isTrue_L20  hR C fuel a0 0 x_5 g H locs ls h ?_ hM (lv_sub hl [2, 3, 4, 1, 0] rfl)
      · intro z_39 g_40 H locs ls h hM hl
        refine x_iload_n hx hb (kX7_isTrue (i := 107) rfl) rfl (lv_at hl 1 rfl) ?_
        refine x_if_le (a' := wr z_39) hx hb rfl (tgt := 210) (kX7_isTrue (i := 108) rfl) (by decide) (fun c_41 => ?_) (fun c_41 => ?_)
        · have h := it_t c_41 h
          refine x_iconst hx hb (kX7_isTrue (i := 119) rfl) ?_
          obtain ⟨q1, q2⟩ := ret2 h
          rw [q1, q2]
          exact x_iret C hM (nar_z (Or.inl rfl)) (kX7_isTrue (i := 120) rfl)
        · have h := it_f c_41 h
          refine lv_aload_n hx hb (kX7_isTrue (i := 109) rfl) rfl (lv_at hl 0 rfl) ?_
          refine gX7_stack r hR C hM q_fX7_15 (kX7_isTrue (i := 110) rfl) ?_
          refine x_iload_n hx hb (kX7_isTrue (i := 111) rfl) rfl (lv_at hl 1 rfl) ?_
          refine x_iconst hx hb (kX7_isTrue (i := 112) rfl) ?_
          refine x_isub hx hb (kX7_isTrue (i := 113) rfl) ?_
          obtain ⟨hi_42, h⟩ := gd_some h
          refine x_ialdX C hM (r + 2) (isR_stack hR) (eX_isR_stack hR) hi_42 (kX7_isTrue (i := 114) rfl) ?_
          refine x_iconst hx hb (kX7_isTrue (i := 115) rfl) ?_
          refine x_icmp_ne (a' := wr (g_40 (r + 2) (wr (z_39 - 1)).toNat)) (b' := 1) hx hb rfl (by decide) (tgt := 210) (kX7_isTrue (i := 116) rfl) (by decide) (fun c_43 => ?_) (fun c_43 => ?_)
          · have h := it_f c_43 h
            refine x_iconst hx hb (kX7_isTrue (i := 119) rfl) ?_
            obtain ⟨q1, q2⟩ := ret2 h
            rw [q1, q2]
            exact x_iret C hM (nar_z (Or.inl rfl)) (kX7_isTrue (i := 120) rfl)
          · have h := it_t c_43 h
            refine x_iconst hx hb (kX7_isTrue (i := 117) rfl) ?_
            refine lv_goto (tgt := 211) hx hb (kX7_isTrue (i := 118) rfl) (by decide) ?_
            obtain ⟨q1, q2⟩ := ret2 h
            rw [q1, q2]
            exact x_iret C hM (nar_z (Or.inr rfl)) (kX7_isTrue (i := 120) rfl)
    · have h := it_t c_3 h
      refine x_iconst hx hb (kX7_isTrue (i := 4) rfl) ?_
      obtain ⟨q1, q2⟩ := ret2 h
      rw [q1, q2]
      exact x_iret C hM (nar_z (Or.inr rfl)) (kX7_isTrue (i := 5) rfl)
  exact key _ _ hM

/-! X9_hasRoom -/
def fX9_hasRoom (a0 : Int) (g : Mem) : Option (Int) :=
  if 300 < wr ((g 37 1) + a0) then (
    some 0
  ) else (
    some 1
  )
set_option maxRecDepth 100000 in
set_option maxHeartbeats 4000000 in
theorem tX9_hasRoom (l : Launch) (Θ : Th) (a0 : Int) (h0 g : Mem) (rv : Int) (h : fX9_hasRoom a0 g = some rv) : Ct l yX9_hasRoom cX9_hasRoom 2 (some .boolean) 0 0 Θ [.ref (Θ.2.2.1 37), vi a0] g h0 g h0 (some (vi rv)) := by
  refine x_start (by decide) (Nat.le_of_ble_eq_true rfl) ?_
  intro p e s m args below meth c ls C hM hl
  have hl : lv_has ls 2 [(0, .ref (Θ.2.2.1 37)), (1, vi a0)] := hl
  obtain ⟨hx, hb, hml, hown, hts, -⟩ := id C
  unfold fX9_hasRoom at h
  have key : ∀ (H : Heap) (locs : List Loc), Hd Θ s g h0 H locs → W p l e { frames := 0, cells := 0, slots := 0, locals := 0 } s m args below meth c H locs 0 0 (MQ below (Qx Θ s.heap.size g h0 (some (vi rv))) args s 0 0 (AA Θ s.heap.size)) (F0 m 0 ls []) := by
    intro H locs hM
    refine lv_aload_n hx hb (kX9_hasRoom (i := 0) rfl) rfl (lv_at hl 0 rfl) ?_
    refine gX9_length C hM q_fX9_15 (kX9_hasRoom (i := 1) rfl) ?_
    refine x_iload_n hx hb (kX9_hasRoom (i := 2) rfl) rfl (lv_at hl 1 rfl) ?_
    refine x_iadd hx hb (kX9_hasRoom (i := 3) rfl) ?_
    refine x_sipush hx hb (by decide) (kX9_hasRoom (i := 4) rfl) ?_
    refine x_icmp_gt (a' := wr ((g 37 1) + a0)) (b' := 300) hx hb rfl (by decide) (tgt := 16) (kX9_hasRoom (i := 5) rfl) (by decide) (fun c_1 => ?_) (fun c_1 => ?_)
    · have h := it_t c_1 h
      refine x_iconst hx hb (kX9_hasRoom (i := 8) rfl) ?_
      rw [← Option.some.inj h]
      exact x_iret C hM (nar_z (Or.inl rfl)) (kX9_hasRoom (i := 9) rfl)
    · have h := it_f c_1 h
      refine x_iconst hx hb (kX9_hasRoom (i := 6) rfl) ?_
      refine lv_goto (tgt := 17) hx hb (kX9_hasRoom (i := 7) rfl) (by decide) ?_
      rw [← Option.some.inj h]
      exact x_iret C hM (nar_z (Or.inr rfl)) (kX9_hasRoom (i := 9) rfl)
  exact key _ _ hM

/-! X9_append -/
def fX9_append_L3 : Nat → Int → Int → Mem → Option (Mem)
  | 0, _, _, _ => none
  | n + 1, y1, y2, g =>
    if wr y2 < 0 then (
      some g
    ) else (
      if 300 ≤ wr (g 37 1) then (
        some g
      ) else (
        gd (g 37 1) 300 <|
        bnd (up g 38 (wr (g 37 1)).toNat (iAnd (iUshr y1 y2) 255)) fun g_4 =>
        bnd (up g_4 37 1 ((g_4 37 1) + 1)) fun g_5 =>
        bnd (y2 + (-8)) fun x_6 =>
        fX9_append_L3 n y1 x_6 g_5
      )
    )
def fX9_append (a0 : Int) (g : Mem) : Option (Mem) :=
  fX9_append_L3 fuel a0 24 g
set_option maxRecDepth 100000 in
set_option maxHeartbeats 4000000 in
theorem wX9_append_L3 {p : Program} {l : Launch} {e : Env} {s : State} {m : MethodId} {args : Array Value} {below : List Frame} {meth : Method} {c : Code} {Θ : Th} {h0 : Mem} {gR : Mem} (C : Cx p s m args meth c cX9_append 3 RX9 none Θ) : ∀ (n : Nat) (y1 : Int) (y2 : Int) (g : Mem) (H : Heap) (locs : List Loc) (ls : Array Slot), fX9_append_L3 n y1 y2 g = some gR → Hd Θ s g h0 H locs → lv_has ls 3 [(0, .ref (Θ.2.2.1 37)), (1, vi y1), (2, vi y2)] → W p l e { frames := 0, cells := 0, slots := 0, locals := 0 } s m args below meth c H locs 0 0 (MQ below (Qx Θ s.heap.size gR h0 none) args s 0 0 (AA Θ s.heap.size)) (F0 m 3 ls []) := by
  intro n
  obtain ⟨hx, hb, hml, hown, hts, -⟩ := id C
  induction n with
  | zero => intro y1 y2 g H locs ls h; cases h
  | succ n ih =>
    intro y1 y2 g H locs ls h  hM hl
    rw [fX9_append_L3] at h
    refine x_iload_n hx hb (kX9_append (i := 2) rfl) rfl (lv_at hl 2 rfl) ?_
    refine x_if_lt (a' := wr y2) hx hb rfl (tgt := 49) (kX9_append (i := 3) rfl) (by decide) (fun c_1 => ?_) (fun c_1 => ?_)
    · have h := it_t c_1 h
      rw [← Option.some.inj h]
      exact x_vret C hM (kX9_append (i := 26) rfl)
    · have h := it_f c_1 h
      refine lv_aload_n hx hb (kX9_append (i := 4) rfl) rfl (lv_at hl 0 rfl) ?_
      refine gX9_length C hM q_fX9_15 (kX9_append (i := 5) rfl) ?_
      refine x_sipush hx hb (by decide) (kX9_append (i := 6) rfl) ?_
      refine x_icmp_ge (a' := wr (g 37 1)) (b' := 300) hx hb rfl (by decide) (tgt := 49) (kX9_append (i := 7) rfl) (by decide) (fun c_2 => ?_) (fun c_2 => ?_)
      · have h := it_t c_2 h
        rw [← Option.some.inj h]
        exact x_vret C hM (kX9_append (i := 26) rfl)
      · have h := it_f c_2 h
        refine lv_aload_n hx hb (kX9_append (i := 8) rfl) rfl (lv_at hl 0 rfl) ?_
        refine gX9_bytes C hM q_fX9_11 (kX9_append (i := 9) rfl) ?_
        refine lv_aload_n hx hb (kX9_append (i := 10) rfl) rfl (lv_at hl 0 rfl) ?_
        refine gX9_length C hM q_fX9_15 (kX9_append (i := 11) rfl) ?_
        refine x_iload_n hx hb (kX9_append (i := 12) rfl) rfl (lv_at hl 1 rfl) ?_
        refine x_iload_n hx hb (kX9_append (i := 13) rfl) rfl (lv_at hl 2 rfl) ?_
        refine x_iushr hx hb (kX9_append (i := 14) rfl) ?_
        refine x_sipush hx hb (by decide) (kX9_append (i := 15) rfl) ?_
        refine x_iand hx hb (kX9_append (i := 16) rfl) ?_
        obtain ⟨hi_3, h⟩ := gd_some h
        obtain ⟨g_4, eg_4, h⟩ := bnd_some h
        refine x_iastX C hM 38 (by decide) (eX_38 Θ) hi_3 eg_4 (kX9_append (i := 17) rfl) (fun H locs hM => ?_)
        refine lv_aload_n hx hb (kX9_append (i := 18) rfl) rfl (lv_at hl 0 rfl) ?_
        refine lv_dup hx hb (kX9_append (i := 19) rfl) rfl ?_
        refine gX9_length C hM q_fX9_15 (kX9_append (i := 20) rfl) ?_
        refine x_iconst hx hb (kX9_append (i := 21) rfl) ?_
        refine x_iadd hx hb (kX9_append (i := 22) rfl) ?_
        obtain ⟨g_5, eg_5, h⟩ := bnd_some h
        refine pX9_length C hM q_fX9_15 eg_5 (kX9_append (i := 23) rfl) (fun H locs hM => ?_)
        obtain ⟨x_6, ex_6, h⟩ := bnd_some h
        refine x_iinc (k := 2) (lv' := [(2, vi x_6), (0, .ref (Θ.2.2.1 37)), (1, vi y1)]) hx hb (kX9_append (i := 24) rfl) hl rfl ex_6 (by decide) rfl (fun ls hl => ?_)
        refine lv_goto (tgt := 3) hx hb (kX9_append (i := 25) rfl) (by decide) ?_
        exact ih y1 x_6 g_5 H locs ls h hM (lv_sub hl [1, 2, 0] rfl)
set_option maxRecDepth 100000 in
set_option maxHeartbeats 4000000 in
theorem tX9_append (l : Launch) (Θ : Th) (a0 : Int) (h0 g : Mem) (gR : Mem) (h : fX9_append a0 g = some gR) : Ct l yX9_append cX9_append 3 none 0 0 Θ [.ref (Θ.2.2.1 37), vi a0] g h0 gR h0 none := by
  refine x_start (by decide) (Nat.le_of_ble_eq_true rfl) ?_
  intro p e s m args below meth c ls C hM hl
  have hl : lv_has ls 3 [(0, .ref (Θ.2.2.1 37)), (1, vi a0)] := hl
  obtain ⟨hx, hb, hml, hown, hts, -⟩ := id C
  unfold fX9_append at h
  have key : ∀ (H : Heap) (locs : List Loc), Hd Θ s g h0 H locs → W p l e { frames := 0, cells := 0, slots := 0, locals := 0 } s m args below meth c H locs 0 0 (MQ below (Qx Θ s.heap.size gR h0 none) args s 0 0 (AA Θ s.heap.size)) (F0 m 0 ls []) := by
    intro H locs hM
    refine x_bipush hx hb (by decide) (kX9_append (i := 0) rfl) ?_
    refine x_istore_n (lv' := [(2, vi 24), (0, .ref (Θ.2.2.1 37)), (1, vi a0)]) hx hb (kX9_append (i := 1) rfl) rfl hl (by decide) rfl (fun ls hl => ?_)
    refine wX9_append_L3  C fuel a0 24 g H locs ls h  hM (lv_sub hl [1, 2, 0] rfl)
  exact key _ _ hM
