/-! X11_slice -/
def fX11_slice (a0 : Int) (a1 : Int) (a2 : Int) (g : Mem) : Option (Int × Mem) :=
  bd (fX11_within a0 1 20) fun r_1 =>
  if wr r_1 = 0 then (
    some ((-1), g)
  ) else (
    bd (fX11_within a1 0 99999) fun r_4 =>
    if wr r_4 = 0 then (
      some ((-1), g)
    ) else (
      bd (fX11_within a2 0 99999) fun r_7 =>
      if wr r_7 = 0 then (
        some ((-1), g)
      ) else (
        bd2 (fX3_addSlice a0 a1 a2 g) fun r_10 g_12 =>
        some (r_10, g_12)
      )
    )
  )
set_option maxRecDepth 100000 in
set_option maxHeartbeats 4000000 in
theorem tX11_slice (l : Launch) (Θ : Th) (a0 : Int) (a1 : Int) (a2 : Int) (h0 g : Mem) (rv : Int) (gR : Mem) (h : fX11_slice a0 a1 a2 g = some (rv, gR)) : Ct l yX11_slice cX11_slice 4 (some .int) 2 53 Θ [.ref (Θ.2.2.1 0), vi a0, vi a1, vi a2] g h0 gR h0 (some (vi rv)) := by
  refine x_start (by decide) (Nat.le_of_ble_eq_true rfl) ?_
  intro p e s m args below meth c ls C hM hl
  have hl : lv_has ls 4 [(0, .ref (Θ.2.2.1 0)), (1, vi a0), (2, vi a1), (3, vi a2)] := hl
  obtain ⟨hx, hb, hml, hown, hts, -⟩ := id C
  unfold fX11_slice at h
  have key : ∀ (H : Heap) (locs : List Loc), Hd Θ s g h0 H locs → W p l e { frames := 2, cells := 0, slots := 0, locals := 53 } s m args below meth c H locs 0 0 (MQ below (Qx Θ s.heap.size gR h0 (some (vi rv))) args s 0 0 (AA Θ s.heap.size)) (F0 m 0 ls []) := by
    intro H locs hM
    refine x_iload_n hx hb (kX11_slice (i := 0) rfl) rfl (lv_at hl 1 rfl) ?_
    refine x_iconst hx hb (kX11_slice (i := 1) rfl) ?_
    refine x_bipush hx hb (by decide) (kX11_slice (i := 2) rfl) ?_
    obtain ⟨r_1, hc_2, h⟩ := bd_some h
    refine x_callS (n := 3) (As := [vi a0, vi 1, vi 20]) (rest := []) C hM (tX11_within l Θ a0 1 20 h0 g r_1 hc_2) q_c_X11_within q_mX11_109 q_s_X11_within q_n_X11 (by decide +kernel) ⟨by decide, by decide⟩ rfl hl.1 rfl (Nat.le_of_ble_eq_true rfl) (kX11_slice (i := 3) rfl) (fun H locs hM => ?_)
    refine x_if_eq (a' := wr r_1) hx hb rfl (tgt := 30) (kX11_slice (i := 4) rfl) (by decide) (fun c_3 => ?_) (fun c_3 => ?_)
    · have h := it_t c_3 h
      refine x_iconst hx hb (kX11_slice (i := 15) rfl) ?_
      obtain ⟨q1, q2⟩ := ret2 h
      rw [q1, q2]
      exact x_iret C hM (nar_i _) (kX11_slice (i := 16) rfl)
    · have h := it_f c_3 h
      refine x_iload_n hx hb (kX11_slice (i := 5) rfl) rfl (lv_at hl 2 rfl) ?_
      refine x_iconst hx hb (kX11_slice (i := 6) rfl) ?_
      refine x_ldc (n := 99999) hx hb hown (hts _ q_kX11_113) (kX11_slice (i := 7) rfl) ?_
      obtain ⟨r_4, hc_5, h⟩ := bd_some h
      refine x_callS (n := 3) (As := [vi a1, vi 0, vi 99999]) (rest := []) C hM (tX11_within l Θ a1 0 99999 h0 g r_4 hc_5) q_c_X11_within q_mX11_109 q_s_X11_within q_n_X11 (by decide +kernel) ⟨by decide, by decide⟩ rfl hl.1 rfl (Nat.le_of_ble_eq_true rfl) (kX11_slice (i := 8) rfl) (fun H locs hM => ?_)
      refine x_if_eq (a' := wr r_4) hx hb rfl (tgt := 30) (kX11_slice (i := 9) rfl) (by decide) (fun c_6 => ?_) (fun c_6 => ?_)
      · have h := it_t c_6 h
        refine x_iconst hx hb (kX11_slice (i := 15) rfl) ?_
        obtain ⟨q1, q2⟩ := ret2 h
        rw [q1, q2]
        exact x_iret C hM (nar_i _) (kX11_slice (i := 16) rfl)
      · have h := it_f c_6 h
        refine x_iload_n hx hb (kX11_slice (i := 10) rfl) rfl (lv_at hl 3 rfl) ?_
        refine x_iconst hx hb (kX11_slice (i := 11) rfl) ?_
        refine x_ldc (n := 99999) hx hb hown (hts _ q_kX11_113) (kX11_slice (i := 12) rfl) ?_
        obtain ⟨r_7, hc_8, h⟩ := bd_some h
        refine x_callS (n := 3) (As := [vi a2, vi 0, vi 99999]) (rest := []) C hM (tX11_within l Θ a2 0 99999 h0 g r_7 hc_8) q_c_X11_within q_mX11_109 q_s_X11_within q_n_X11 (by decide +kernel) ⟨by decide, by decide⟩ rfl hl.1 rfl (Nat.le_of_ble_eq_true rfl) (kX11_slice (i := 13) rfl) (fun H locs hM => ?_)
        refine x_if_ne (a' := wr r_7) hx hb rfl (tgt := 32) (kX11_slice (i := 14) rfl) (by decide) (fun c_9 => ?_) (fun c_9 => ?_)
        · have h := it_f c_9 h
          refine lv_aload_n hx hb (kX11_slice (i := 17) rfl) rfl (lv_at hl 0 rfl) ?_
          refine gX11_hull C hM q_fX11_10 (kX11_slice (i := 18) rfl) ?_
          refine x_iload_n hx hb (kX11_slice (i := 19) rfl) rfl (lv_at hl 1 rfl) ?_
          refine x_iload_n hx hb (kX11_slice (i := 20) rfl) rfl (lv_at hl 2 rfl) ?_
          refine x_iload_n hx hb (kX11_slice (i := 21) rfl) rfl (lv_at hl 3 rfl) ?_
          obtain ⟨r_10, g_12, hc_11, h⟩ := bd2_some h
          refine x_callV (n := 3) (As := [vi a0, vi a1, vi a2]) (rest := []) C hM (tX3_addSlice l Θ a0 a1 a2 h0 g r_10 g_12 hc_11) (x_recvX C hM 1 (by decide) (eX_1 Θ _) rfl rfl) q_c_X3_addSlice q_mX11_114 q_i_X3_addSlice q_e_X3_addSlice q_n_X3 (by decide +kernel) ⟨by decide, by decide⟩ rfl hl.1 rfl (Nat.le_of_ble_eq_true rfl) (kX11_slice (i := 22) rfl) (fun H locs hM => ?_)
          obtain ⟨q1, q2⟩ := ret2 h
          rw [q1, q2]
          exact x_iret C hM (nar_i _) (kX11_slice (i := 23) rfl)
        · have h := it_t c_9 h
          refine x_iconst hx hb (kX11_slice (i := 15) rfl) ?_
          obtain ⟨q1, q2⟩ := ret2 h
          rw [q1, q2]
          exact x_iret C hM (nar_i _) (kX11_slice (i := 16) rfl)
  exact key _ _ hM

/-! X11_weight -/
def fX11_weight (a0 : Int) (a1 : Int) (a2 : Int) (a3 : Int) (g : Mem) : Option (Int × Mem) :=
  bd (fX11_within a0 1 500) fun r_1 =>
  if wr r_1 = 0 then (
    some ((-1), g)
  ) else (
    bd (fX11_isPoint a1 a2) fun r_4 =>
    if wr r_4 = 0 then (
      some ((-1), g)
    ) else (
      jn (fun (_ : Unit) =>
        bd2 (fX1_addWeight a0 a1 a2 a3 g) fun r_7 g_9 =>
        if wr r_7 = (-1) then (
          some (r_7, g_9)
        ) else (
          bd (fX0_putWeight 24 r_7 a1 g_9) fun g_13 =>
          bd (fX3_carry (g_13 8 10) g_13) fun g_16 =>
          some (r_7, g_16)
        )
      ) fun J40 =>
      if wr a3 = (-1) then (
        J40 ()
      ) else (
        bd (fX11_within a3 0 80) fun r_18 =>
        if wr r_18 = 0 then (
          some ((-1), g)
        ) else (
          J40 ()
        )
      )
    )
  )
set_option maxRecDepth 100000 in
set_option maxHeartbeats 4000000 in
theorem tX11_weight (l : Launch) (Θ : Th) (a0 : Int) (a1 : Int) (a2 : Int) (a3 : Int) (h0 g : Mem) (rv : Int) (gR : Mem) (h : fX11_weight a0 a1 a2 a3 g = some (rv, gR)) : Ct l yX11_weight cX11_weight 6 (some .int) 2 43 Θ [.ref (Θ.2.2.1 0), vi a0, vi a1, vi a2, vi a3] g h0 gR h0 (some (vi rv)) := by
  refine x_start (by decide) (Nat.le_of_ble_eq_true rfl) ?_
  intro p e s m args below meth c ls C hM hl
  have hl : lv_has ls 6 [(0, .ref (Θ.2.2.1 0)), (1, vi a0), (2, vi a1), (3, vi a2), (4, vi a3)] := hl
  obtain ⟨hx, hb, hml, hown, hts, -⟩ := id C
  unfold fX11_weight at h
  have key : ∀ (H : Heap) (locs : List Loc), Hd Θ s g h0 H locs → W p l e { frames := 2, cells := 0, slots := 0, locals := 43 } s m args below meth c H locs 0 0 (MQ below (Qx Θ s.heap.size gR h0 (some (vi rv))) args s 0 0 (AA Θ s.heap.size)) (F0 m 0 ls []) := by
    intro H locs hM
    refine x_iload_n hx hb (kX11_weight (i := 0) rfl) rfl (lv_at hl 1 rfl) ?_
    refine x_iconst hx hb (kX11_weight (i := 1) rfl) ?_
    refine x_sipush hx hb (by decide) (kX11_weight (i := 2) rfl) ?_
    obtain ⟨r_1, hc_2, h⟩ := bd_some h
    refine x_callS (n := 3) (As := [vi a0, vi 1, vi 500]) (rest := []) C hM (tX11_within l Θ a0 1 500 h0 g r_1 hc_2) q_c_X11_within q_mX11_109 q_s_X11_within q_n_X11 (by decide +kernel) ⟨by decide, by decide⟩ rfl hl.1 rfl (Nat.le_of_ble_eq_true rfl) (kX11_weight (i := 3) rfl) (fun H locs hM => ?_)
    refine x_if_eq (a' := wr r_1) hx hb rfl (tgt := 19) (kX11_weight (i := 4) rfl) (by decide) (fun c_3 => ?_) (fun c_3 => ?_)
    · have h := it_t c_3 h
      refine x_iconst hx hb (kX11_weight (i := 9) rfl) ?_
      obtain ⟨q1, q2⟩ := ret2 h
      rw [q1, q2]
      exact x_iret C hM (nar_i _) (kX11_weight (i := 10) rfl)
    · have h := it_f c_3 h
      refine x_iload_n hx hb (kX11_weight (i := 5) rfl) rfl (lv_at hl 2 rfl) ?_
      refine x_iload_n hx hb (kX11_weight (i := 6) rfl) rfl (lv_at hl 3 rfl) ?_
      obtain ⟨r_4, hc_5, h⟩ := bd_some h
      refine x_callS (n := 2) (As := [vi a1, vi a2]) (rest := []) C hM (tX11_isPoint l Θ a1 a2 h0 g r_4 hc_5) q_c_X11_isPoint q_mX11_118 q_s_X11_isPoint q_n_X11 (by decide +kernel) ⟨by decide, by decide⟩ rfl hl.1 rfl (Nat.le_of_ble_eq_true rfl) (kX11_weight (i := 7) rfl) (fun H locs hM => ?_)
      refine x_if_ne (a' := wr r_4) hx hb rfl (tgt := 21) (kX11_weight (i := 8) rfl) (by decide) (fun c_6 => ?_) (fun c_6 => ?_)
      · have h := it_f c_6 h
        refine x_iload hx hb (kX11_weight (i := 11) rfl) (lv_at hl 4 rfl) ?_
        refine x_iconst hx hb (kX11_weight (i := 12) rfl) ?_
        refine jn_go h (fun J40 : Unit → Option (Int × Mem) => ∀ (H : Heap) (locs : List Loc) (ls : Array Slot), J40 () = some (rv, gR) → Hd Θ s g h0 H locs → lv_has ls 6 [(0, .ref (Θ.2.2.1 0)), (1, vi a0), (2, vi a1), (3, vi a2), (4, vi a3)] → W p l e { frames := 2, cells := 0, slots := 0, locals := 43 } s m args below meth c H locs 0 0 (MQ below (Qx Θ s.heap.size gR h0 (some (vi rv))) args s 0 0 (AA Θ s.heap.size)) (F0 m 40 ls [])) ?_ ?_
        · intro  H locs ls h hM hl
          refine lv_aload_n hx hb (kX11_weight (i := 21) rfl) rfl (lv_at hl 0 rfl) ?_
          refine gX11_cargo C hM q_fX11_19 (kX11_weight (i := 22) rfl) ?_
          refine x_iload_n hx hb (kX11_weight (i := 23) rfl) rfl (lv_at hl 1 rfl) ?_
          refine x_iload_n hx hb (kX11_weight (i := 24) rfl) rfl (lv_at hl 2 rfl) ?_
          refine x_iload_n hx hb (kX11_weight (i := 25) rfl) rfl (lv_at hl 3 rfl) ?_
          refine x_iload hx hb (kX11_weight (i := 26) rfl) (lv_at hl 4 rfl) ?_
          obtain ⟨r_7, g_9, hc_8, h⟩ := bd2_some h
          refine x_callV (n := 4) (As := [vi a0, vi a1, vi a2, vi a3]) (rest := []) C hM (tX1_addWeight l Θ a0 a1 a2 a3 h0 g r_7 g_9 hc_8) (x_recvX C hM 8 (by decide) (eX_8 Θ _) rfl rfl) q_c_X1_addWeight q_mX11_122 q_i_X1_addWeight q_e_X1_addWeight q_n_X1 (by decide +kernel) ⟨by decide, by decide⟩ rfl hl.1 rfl (Nat.le_of_ble_eq_true rfl) (kX11_weight (i := 27) rfl) (fun H locs hM => ?_)
          refine x_istore (lv' := [(5, vi r_7), (0, .ref (Θ.2.2.1 0)), (1, vi a0), (2, vi a1), (3, vi a2), (4, vi a3)]) hx hb (kX11_weight (i := 28) rfl) hl (by decide) rfl (fun ls hl => ?_)
          refine x_iload hx hb (kX11_weight (i := 29) rfl) (lv_at hl 0 rfl) ?_
          refine x_iconst hx hb (kX11_weight (i := 30) rfl) ?_
          refine x_icmp_eq (a' := wr r_7) (b' := (-1)) hx hb rfl (by decide) (tgt := 84) (kX11_weight (i := 31) rfl) (by decide) (fun c_10 => ?_) (fun c_10 => ?_)
          · have h := it_t c_10 h
            refine x_iload hx hb (kX11_weight (i := 43) rfl) (lv_at hl 0 rfl) ?_
            obtain ⟨q1, q2⟩ := ret2 h
            rw [q1, q2]
            exact x_iret C hM (nar_i _) (kX11_weight (i := 44) rfl)
          · have h := it_f c_10 h
            refine lv_aload_n hx hb (kX11_weight (i := 32) rfl) rfl (lv_at hl 1 rfl) ?_
            refine gX11_ship C hM q_fX11_40 (kX11_weight (i := 33) rfl) ?_
            refine x_iload hx hb (kX11_weight (i := 34) rfl) (lv_at hl 0 rfl) ?_
            refine x_iload_n hx hb (kX11_weight (i := 35) rfl) rfl (lv_at hl 3 rfl) ?_
            obtain ⟨g_13, hc_12, h⟩ := bd_some h
            refine x_callV (n := 2) (As := [vi r_7, vi a1]) (rest := []) C hM (tX0_putWeight l Θ 24 (Or.inl rfl) r_7 a1 h0 g_9 g_13 hc_12) (x_recvX C hM 24 (isB_lt (Or.inl rfl)) (eX_isB (Or.inl rfl) _) rfl rfl) q_c_X0_putWeight q_mX11_126 q_i_X0_putWeight q_e_X0_putWeight q_n_X0 (by decide +kernel) ⟨by decide, by decide⟩ rfl hl.1 rfl (Nat.le_of_ble_eq_true rfl) (kX11_weight (i := 36) rfl) (fun H locs hM => ?_)
            refine lv_aload_n hx hb (kX11_weight (i := 37) rfl) rfl (lv_at hl 1 rfl) ?_
            refine gX11_hull C hM q_fX11_10 (kX11_weight (i := 38) rfl) ?_
            refine lv_aload_n hx hb (kX11_weight (i := 39) rfl) rfl (lv_at hl 1 rfl) ?_
            refine gX11_cargo C hM q_fX11_19 (kX11_weight (i := 40) rfl) ?_
            refine gX1_heavy C hM q_fX11_130 (kX11_weight (i := 41) rfl) ?_
            obtain ⟨g_16, hc_15, h⟩ := bd_some h
            refine x_callV (n := 1) (As := [vi (g_13 8 10)]) (rest := []) C hM (tX3_carry l Θ (g_13 8 10) h0 g_13 g_16 hc_15) (x_recvX C hM 1 (by decide) (eX_1 Θ _) rfl rfl) q_c_X3_carry q_mX11_133 q_i_X3_carry q_e_X3_carry q_n_X3 (by decide +kernel) ⟨by decide, by decide⟩ rfl hl.1 rfl (Nat.le_of_ble_eq_true rfl) (kX11_weight (i := 42) rfl) (fun H locs hM => ?_)
            refine x_iload hx hb (kX11_weight (i := 43) rfl) (lv_at hl 0 rfl) ?_
            obtain ⟨q1, q2⟩ := ret2 h
            rw [q1, q2]
            exact x_iret C hM (nar_i _) (kX11_weight (i := 44) rfl)
        intro J40 hJ40 h
        refine x_icmp_eq (a' := wr a3) (b' := (-1)) hx hb rfl (by decide) (tgt := 40) (kX11_weight (i := 13) rfl) (by decide) (fun c_17 => ?_) (fun c_17 => ?_)
        · have h := it_t c_17 h
          exact hJ40 H locs ls h hM (lv_sub hl [0, 1, 2, 3, 4] rfl)
        · have h := it_f c_17 h
          refine x_iload hx hb (kX11_weight (i := 14) rfl) (lv_at hl 4 rfl) ?_
          refine x_iconst hx hb (kX11_weight (i := 15) rfl) ?_
          refine x_bipush hx hb (by decide) (kX11_weight (i := 16) rfl) ?_
          obtain ⟨r_18, hc_19, h⟩ := bd_some h
          refine x_callS (n := 3) (As := [vi a3, vi 0, vi 80]) (rest := []) C hM (tX11_within l Θ a3 0 80 h0 g r_18 hc_19) q_c_X11_within q_mX11_109 q_s_X11_within q_n_X11 (by decide +kernel) ⟨by decide, by decide⟩ rfl hl.1 rfl (Nat.le_of_ble_eq_true rfl) (kX11_weight (i := 17) rfl) (fun H locs hM => ?_)
          refine x_if_ne (a' := wr r_18) hx hb rfl (tgt := 40) (kX11_weight (i := 18) rfl) (by decide) (fun c_20 => ?_) (fun c_20 => ?_)
          · have h := it_f c_20 h
            exact hJ40 H locs ls h hM (lv_sub hl [0, 1, 2, 3, 4] rfl)
          · have h := it_t c_20 h
            refine x_iconst hx hb (kX11_weight (i := 19) rfl) ?_
            obtain ⟨q1, q2⟩ := ret2 h
            rw [q1, q2]
            exact x_iret C hM (nar_i _) (kX11_weight (i := 20) rfl)
      · have h := it_t c_6 h
        refine x_iconst hx hb (kX11_weight (i := 9) rfl) ?_
        obtain ⟨q1, q2⟩ := ret2 h
        rw [q1, q2]
        exact x_iret C hM (nar_i _) (kX11_weight (i := 10) rfl)
  exact key _ _ hM

/-! X11_lose -/
def fX11_lose (a0 : Int) (g : Mem) : Option (Int × Mem) :=
  bd (fX1_hasWeight a0 g) fun r_1 =>
  if wr r_1 = 0 then (
    some (0, g)
  ) else (
    bd (fX1_dropWeight a0 g) fun g_6 =>
    bd (fX3_carry (g_6 8 10) g_6) fun g_9 =>
    some (1, g_9)
  )
set_option maxRecDepth 100000 in
set_option maxHeartbeats 4000000 in
theorem tX11_lose (l : Launch) (Θ : Th) (a0 : Int) (h0 g : Mem) (rv : Int) (gR : Mem) (h : fX11_lose a0 g = some (rv, gR)) : Ct l yX11_lose cX11_lose 2 (some .boolean) 2 42 Θ [.ref (Θ.2.2.1 0), vi a0] g h0 gR h0 (some (vi rv)) := by
  refine x_start (by decide) (Nat.le_of_ble_eq_true rfl) ?_
  intro p e s m args below meth c ls C hM hl
  have hl : lv_has ls 2 [(0, .ref (Θ.2.2.1 0)), (1, vi a0)] := hl
  obtain ⟨hx, hb, hml, hown, hts, -⟩ := id C
  unfold fX11_lose at h
  have key : ∀ (H : Heap) (locs : List Loc), Hd Θ s g h0 H locs → W p l e { frames := 2, cells := 0, slots := 0, locals := 42 } s m args below meth c H locs 0 0 (MQ below (Qx Θ s.heap.size gR h0 (some (vi rv))) args s 0 0 (AA Θ s.heap.size)) (F0 m 0 ls []) := by
    intro H locs hM
    refine lv_aload_n hx hb (kX11_lose (i := 0) rfl) rfl (lv_at hl 0 rfl) ?_
    refine gX11_cargo C hM q_fX11_19 (kX11_lose (i := 1) rfl) ?_
    refine x_iload_n hx hb (kX11_lose (i := 2) rfl) rfl (lv_at hl 1 rfl) ?_
    obtain ⟨r_1, hc_2, h⟩ := bd_some h
    refine x_callV (n := 1) (As := [vi a0]) (rest := []) C hM (tX1_hasWeight l Θ a0 h0 g r_1 hc_2) (x_recvX C hM 8 (by decide) (eX_8 Θ _) rfl rfl) q_c_X1_hasWeight q_mX11_137 q_i_X1_hasWeight q_e_X1_hasWeight q_n_X1 (by decide +kernel) ⟨by decide, by decide⟩ rfl hl.1 rfl (Nat.le_of_ble_eq_true rfl) (kX11_lose (i := 3) rfl) (fun H locs hM => ?_)
    refine x_if_ne (a' := wr r_1) hx hb rfl (tgt := 13) (kX11_lose (i := 4) rfl) (by decide) (fun c_3 => ?_) (fun c_3 => ?_)
    · have h := it_f c_3 h
      refine lv_aload_n hx hb (kX11_lose (i := 7) rfl) rfl (lv_at hl 0 rfl) ?_
      refine gX11_cargo C hM q_fX11_19 (kX11_lose (i := 8) rfl) ?_
      refine x_iload_n hx hb (kX11_lose (i := 9) rfl) rfl (lv_at hl 1 rfl) ?_
      obtain ⟨g_6, hc_5, h⟩ := bd_some h
      refine x_callV (n := 1) (As := [vi a0]) (rest := []) C hM (tX1_dropWeight l Θ a0 h0 g g_6 hc_5) (x_recvX C hM 8 (by decide) (eX_8 Θ _) rfl rfl) q_c_X1_dropWeight q_mX11_141 q_i_X1_dropWeight q_e_X1_dropWeight q_n_X1 (by decide +kernel) ⟨by decide, by decide⟩ rfl hl.1 rfl (Nat.le_of_ble_eq_true rfl) (kX11_lose (i := 10) rfl) (fun H locs hM => ?_)
      refine lv_aload_n hx hb (kX11_lose (i := 11) rfl) rfl (lv_at hl 0 rfl) ?_
      refine gX11_hull C hM q_fX11_10 (kX11_lose (i := 12) rfl) ?_
      refine lv_aload_n hx hb (kX11_lose (i := 13) rfl) rfl (lv_at hl 0 rfl) ?_
      refine gX11_cargo C hM q_fX11_19 (kX11_lose (i := 14) rfl) ?_
      refine gX1_heavy C hM q_fX11_130 (kX11_lose (i := 15) rfl) ?_
      obtain ⟨g_9, hc_8, h⟩ := bd_some h
      refine x_callV (n := 1) (As := [vi (g_6 8 10)]) (rest := []) C hM (tX3_carry l Θ (g_6 8 10) h0 g_6 g_9 hc_8) (x_recvX C hM 1 (by decide) (eX_1 Θ _) rfl rfl) q_c_X3_carry q_mX11_133 q_i_X3_carry q_e_X3_carry q_n_X3 (by decide +kernel) ⟨by decide, by decide⟩ rfl hl.1 rfl (Nat.le_of_ble_eq_true rfl) (kX11_lose (i := 16) rfl) (fun H locs hM => ?_)
      refine x_iconst hx hb (kX11_lose (i := 17) rfl) ?_
      obtain ⟨q1, q2⟩ := ret2 h
      rw [q1, q2]
      exact x_iret C hM (nar_z (Or.inr rfl)) (kX11_lose (i := 18) rfl)
    · have h := it_t c_3 h
      refine x_iconst hx hb (kX11_lose (i := 5) rfl) ?_
      obtain ⟨q1, q2⟩ := ret2 h
      rw [q1, q2]
      exact x_iret C hM (nar_z (Or.inl rfl)) (kX11_lose (i := 6) rfl)
  exact key _ _ hM

/-! X11_tank -/
def fX11_tank (a0 : Int) (a1 : Int) (a2 : Int) (g : Mem) : Option (Int × Mem) :=
  bd (fX11_within a0 1 9) fun r_1 =>
  if wr r_1 = 0 then (
    some ((-1), g)
  ) else (
    bd (fX11_within a1 0 40) fun r_4 =>
    if wr r_4 = 0 then (
      some ((-1), g)
    ) else (
      bd (fX11_within a2 1 300) fun r_7 =>
      if wr r_7 = 0 then (
        some ((-1), g)
      ) else (
        bd2 (fX1_addTank a0 a1 a2 g) fun r_10 g_12 =>
        some (r_10, g_12)
      )
    )
  )
set_option maxRecDepth 100000 in
set_option maxHeartbeats 4000000 in
theorem tX11_tank (l : Launch) (Θ : Th) (a0 : Int) (a1 : Int) (a2 : Int) (h0 g : Mem) (rv : Int) (gR : Mem) (h : fX11_tank a0 a1 a2 g = some (rv, gR)) : Ct l yX11_tank cX11_tank 4 (some .int) 1 23 Θ [.ref (Θ.2.2.1 0), vi a0, vi a1, vi a2] g h0 gR h0 (some (vi rv)) := by
  refine x_start (by decide) (Nat.le_of_ble_eq_true rfl) ?_
  intro p e s m args below meth c ls C hM hl
  have hl : lv_has ls 4 [(0, .ref (Θ.2.2.1 0)), (1, vi a0), (2, vi a1), (3, vi a2)] := hl
  obtain ⟨hx, hb, hml, hown, hts, -⟩ := id C
  unfold fX11_tank at h
  have key : ∀ (H : Heap) (locs : List Loc), Hd Θ s g h0 H locs → W p l e { frames := 1, cells := 0, slots := 0, locals := 23 } s m args below meth c H locs 0 0 (MQ below (Qx Θ s.heap.size gR h0 (some (vi rv))) args s 0 0 (AA Θ s.heap.size)) (F0 m 0 ls []) := by
    intro H locs hM
    refine x_iload_n hx hb (kX11_tank (i := 0) rfl) rfl (lv_at hl 1 rfl) ?_
    refine x_iconst hx hb (kX11_tank (i := 1) rfl) ?_
    refine x_bipush hx hb (by decide) (kX11_tank (i := 2) rfl) ?_
    obtain ⟨r_1, hc_2, h⟩ := bd_some h
    refine x_callS (n := 3) (As := [vi a0, vi 1, vi 9]) (rest := []) C hM (tX11_within l Θ a0 1 9 h0 g r_1 hc_2) q_c_X11_within q_mX11_109 q_s_X11_within q_n_X11 (by decide +kernel) ⟨by decide, by decide⟩ rfl hl.1 rfl (Nat.le_of_ble_eq_true rfl) (kX11_tank (i := 3) rfl) (fun H locs hM => ?_)
    refine x_if_eq (a' := wr r_1) hx hb rfl (tgt := 31) (kX11_tank (i := 4) rfl) (by decide) (fun c_3 => ?_) (fun c_3 => ?_)
    · have h := it_t c_3 h
      refine x_iconst hx hb (kX11_tank (i := 15) rfl) ?_
      obtain ⟨q1, q2⟩ := ret2 h
      rw [q1, q2]
      exact x_iret C hM (nar_i _) (kX11_tank (i := 16) rfl)
    · have h := it_f c_3 h
      refine x_iload_n hx hb (kX11_tank (i := 5) rfl) rfl (lv_at hl 2 rfl) ?_
      refine x_iconst hx hb (kX11_tank (i := 6) rfl) ?_
      refine x_bipush hx hb (by decide) (kX11_tank (i := 7) rfl) ?_
      obtain ⟨r_4, hc_5, h⟩ := bd_some h
      refine x_callS (n := 3) (As := [vi a1, vi 0, vi 40]) (rest := []) C hM (tX11_within l Θ a1 0 40 h0 g r_4 hc_5) q_c_X11_within q_mX11_109 q_s_X11_within q_n_X11 (by decide +kernel) ⟨by decide, by decide⟩ rfl hl.1 rfl (Nat.le_of_ble_eq_true rfl) (kX11_tank (i := 8) rfl) (fun H locs hM => ?_)
      refine x_if_eq (a' := wr r_4) hx hb rfl (tgt := 31) (kX11_tank (i := 9) rfl) (by decide) (fun c_6 => ?_) (fun c_6 => ?_)
      · have h := it_t c_6 h
        refine x_iconst hx hb (kX11_tank (i := 15) rfl) ?_
        obtain ⟨q1, q2⟩ := ret2 h
        rw [q1, q2]
        exact x_iret C hM (nar_i _) (kX11_tank (i := 16) rfl)
      · have h := it_f c_6 h
        refine x_iload_n hx hb (kX11_tank (i := 10) rfl) rfl (lv_at hl 3 rfl) ?_
        refine x_iconst hx hb (kX11_tank (i := 11) rfl) ?_
        refine x_sipush hx hb (by decide) (kX11_tank (i := 12) rfl) ?_
        obtain ⟨r_7, hc_8, h⟩ := bd_some h
        refine x_callS (n := 3) (As := [vi a2, vi 1, vi 300]) (rest := []) C hM (tX11_within l Θ a2 1 300 h0 g r_7 hc_8) q_c_X11_within q_mX11_109 q_s_X11_within q_n_X11 (by decide +kernel) ⟨by decide, by decide⟩ rfl hl.1 rfl (Nat.le_of_ble_eq_true rfl) (kX11_tank (i := 13) rfl) (fun H locs hM => ?_)
        refine x_if_ne (a' := wr r_7) hx hb rfl (tgt := 33) (kX11_tank (i := 14) rfl) (by decide) (fun c_9 => ?_) (fun c_9 => ?_)
        · have h := it_f c_9 h
          refine lv_aload_n hx hb (kX11_tank (i := 17) rfl) rfl (lv_at hl 0 rfl) ?_
          refine gX11_cargo C hM q_fX11_19 (kX11_tank (i := 18) rfl) ?_
          refine x_iload_n hx hb (kX11_tank (i := 19) rfl) rfl (lv_at hl 1 rfl) ?_
          refine x_iload_n hx hb (kX11_tank (i := 20) rfl) rfl (lv_at hl 2 rfl) ?_
          refine x_iload_n hx hb (kX11_tank (i := 21) rfl) rfl (lv_at hl 3 rfl) ?_
          obtain ⟨r_10, g_12, hc_11, h⟩ := bd2_some h
          refine x_callV (n := 3) (As := [vi a0, vi a1, vi a2]) (rest := []) C hM (tX1_addTank l Θ a0 a1 a2 h0 g r_10 g_12 hc_11) (x_recvX C hM 8 (by decide) (eX_8 Θ _) rfl rfl) q_c_X1_addTank q_mX11_144 q_i_X1_addTank q_e_X1_addTank q_n_X1 (by decide +kernel) ⟨by decide, by decide⟩ rfl hl.1 rfl (Nat.le_of_ble_eq_true rfl) (kX11_tank (i := 22) rfl) (fun H locs hM => ?_)
          obtain ⟨q1, q2⟩ := ret2 h
          rw [q1, q2]
          exact x_iret C hM (nar_i _) (kX11_tank (i := 23) rfl)
        · have h := it_t c_9 h
          refine x_iconst hx hb (kX11_tank (i := 15) rfl) ?_
          obtain ⟨q1, q2⟩ := ret2 h
          rw [q1, q2]
          exact x_iret C hM (nar_i _) (kX11_tank (i := 16) rfl)
  exact key _ _ hM

/-! X11_fill -/
def fX11_fill (a0 : Int) (a1 : Int) (g : Mem) : Option (Int × Mem) :=
  bd2 (fX1_fillTank a0 a1 g) fun r_1 g_3 =>
  if wr r_1 = 0 then (
    some (0, g_3)
  ) else (
    bd (fX3_carry (g_3 8 10) g_3) fun g_7 =>
    some (1, g_7)
  )
set_option maxRecDepth 100000 in
set_option maxHeartbeats 4000000 in
theorem tX11_fill (l : Launch) (Θ : Th) (a0 : Int) (a1 : Int) (h0 g : Mem) (rv : Int) (gR : Mem) (h : fX11_fill a0 a1 g = some (rv, gR)) : Ct l yX11_fill cX11_fill 3 (some .boolean) 1 22 Θ [.ref (Θ.2.2.1 0), vi a0, vi a1] g h0 gR h0 (some (vi rv)) := by
  refine x_start (by decide) (Nat.le_of_ble_eq_true rfl) ?_
  intro p e s m args below meth c ls C hM hl
  have hl : lv_has ls 3 [(0, .ref (Θ.2.2.1 0)), (1, vi a0), (2, vi a1)] := hl
  obtain ⟨hx, hb, hml, hown, hts, -⟩ := id C
  unfold fX11_fill at h
  have key : ∀ (H : Heap) (locs : List Loc), Hd Θ s g h0 H locs → W p l e { frames := 1, cells := 0, slots := 0, locals := 22 } s m args below meth c H locs 0 0 (MQ below (Qx Θ s.heap.size gR h0 (some (vi rv))) args s 0 0 (AA Θ s.heap.size)) (F0 m 0 ls []) := by
    intro H locs hM
    refine lv_aload_n hx hb (kX11_fill (i := 0) rfl) rfl (lv_at hl 0 rfl) ?_
    refine gX11_cargo C hM q_fX11_19 (kX11_fill (i := 1) rfl) ?_
    refine x_iload_n hx hb (kX11_fill (i := 2) rfl) rfl (lv_at hl 1 rfl) ?_
    refine x_iload_n hx hb (kX11_fill (i := 3) rfl) rfl (lv_at hl 2 rfl) ?_
    obtain ⟨r_1, g_3, hc_2, h⟩ := bd2_some h
    refine x_callV (n := 2) (As := [vi a0, vi a1]) (rest := []) C hM (tX1_fillTank l Θ a0 a1 h0 g r_1 g_3 hc_2) (x_recvX C hM 8 (by decide) (eX_8 Θ _) rfl rfl) q_c_X1_fillTank q_mX11_147 q_i_X1_fillTank q_e_X1_fillTank q_n_X1 (by decide +kernel) ⟨by decide, by decide⟩ rfl hl.1 rfl (Nat.le_of_ble_eq_true rfl) (kX11_fill (i := 4) rfl) (fun H locs hM => ?_)
    refine x_if_ne (a' := wr r_1) hx hb rfl (tgt := 14) (kX11_fill (i := 5) rfl) (by decide) (fun c_4 => ?_) (fun c_4 => ?_)
    · have h := it_f c_4 h
      refine lv_aload_n hx hb (kX11_fill (i := 8) rfl) rfl (lv_at hl 0 rfl) ?_
      refine gX11_hull C hM q_fX11_10 (kX11_fill (i := 9) rfl) ?_
      refine lv_aload_n hx hb (kX11_fill (i := 10) rfl) rfl (lv_at hl 0 rfl) ?_
      refine gX11_cargo C hM q_fX11_19 (kX11_fill (i := 11) rfl) ?_
      refine gX1_heavy C hM q_fX11_130 (kX11_fill (i := 12) rfl) ?_
      obtain ⟨g_7, hc_6, h⟩ := bd_some h
      refine x_callV (n := 1) (As := [vi (g_3 8 10)]) (rest := []) C hM (tX3_carry l Θ (g_3 8 10) h0 g_3 g_7 hc_6) (x_recvX C hM 1 (by decide) (eX_1 Θ _) rfl rfl) q_c_X3_carry q_mX11_133 q_i_X3_carry q_e_X3_carry q_n_X3 (by decide +kernel) ⟨by decide, by decide⟩ rfl hl.1 rfl (Nat.le_of_ble_eq_true rfl) (kX11_fill (i := 13) rfl) (fun H locs hM => ?_)
      refine x_iconst hx hb (kX11_fill (i := 14) rfl) ?_
      obtain ⟨q1, q2⟩ := ret2 h
      rw [q1, q2]
      exact x_iret C hM (nar_z (Or.inr rfl)) (kX11_fill (i := 15) rfl)
    · have h := it_t c_4 h
      refine x_iconst hx hb (kX11_fill (i := 6) rfl) ?_
      obtain ⟨q1, q2⟩ := ret2 h
      rw [q1, q2]
      exact x_iret C hM (nar_z (Or.inl rfl)) (kX11_fill (i := 7) rfl)
  exact key _ _ hM

/-! X11_mark -/
def fX11_mark (a0 : Int) (a1 : Int) (g : Mem) : Option (Int × Mem) :=
  bd (fX11_isPoint a0 a1) fun r_1 =>
  if wr r_1 = 0 then (
    some ((-1), g)
  ) else (
    bd2 (fX4_addMark a0 a1 g) fun r_4 g_6 =>
    some (r_4, g_6)
  )
set_option maxRecDepth 100000 in
set_option maxHeartbeats 4000000 in
theorem tX11_mark (l : Launch) (Θ : Th) (a0 : Int) (a1 : Int) (h0 g : Mem) (rv : Int) (gR : Mem) (h : fX11_mark a0 a1 g = some (rv, gR)) : Ct l yX11_mark cX11_mark 3 (some .int) 2 43 Θ [.ref (Θ.2.2.1 0), vi a0, vi a1] g h0 gR h0 (some (vi rv)) := by
  refine x_start (by decide) (Nat.le_of_ble_eq_true rfl) ?_
  intro p e s m args below meth c ls C hM hl
  have hl : lv_has ls 3 [(0, .ref (Θ.2.2.1 0)), (1, vi a0), (2, vi a1)] := hl
  obtain ⟨hx, hb, hml, hown, hts, -⟩ := id C
  unfold fX11_mark at h
  have key : ∀ (H : Heap) (locs : List Loc), Hd Θ s g h0 H locs → W p l e { frames := 2, cells := 0, slots := 0, locals := 43 } s m args below meth c H locs 0 0 (MQ below (Qx Θ s.heap.size gR h0 (some (vi rv))) args s 0 0 (AA Θ s.heap.size)) (F0 m 0 ls []) := by
    intro H locs hM
    refine x_iload_n hx hb (kX11_mark (i := 0) rfl) rfl (lv_at hl 1 rfl) ?_
    refine x_iload_n hx hb (kX11_mark (i := 1) rfl) rfl (lv_at hl 2 rfl) ?_
    obtain ⟨r_1, hc_2, h⟩ := bd_some h
    refine x_callS (n := 2) (As := [vi a0, vi a1]) (rest := []) C hM (tX11_isPoint l Θ a0 a1 h0 g r_1 hc_2) q_c_X11_isPoint q_mX11_118 q_s_X11_isPoint q_n_X11 (by decide +kernel) ⟨by decide, by decide⟩ rfl hl.1 rfl (Nat.le_of_ble_eq_true rfl) (kX11_mark (i := 2) rfl) (fun H locs hM => ?_)
    refine x_if_ne (a' := wr r_1) hx hb rfl (tgt := 10) (kX11_mark (i := 3) rfl) (by decide) (fun c_3 => ?_) (fun c_3 => ?_)
    · have h := it_f c_3 h
      refine lv_aload_n hx hb (kX11_mark (i := 6) rfl) rfl (lv_at hl 0 rfl) ?_
      refine gX11_marks C hM q_fX11_26 (kX11_mark (i := 7) rfl) ?_
      refine x_iload_n hx hb (kX11_mark (i := 8) rfl) rfl (lv_at hl 1 rfl) ?_
      refine x_iload_n hx hb (kX11_mark (i := 9) rfl) rfl (lv_at hl 2 rfl) ?_
      obtain ⟨r_4, g_6, hc_5, h⟩ := bd2_some h
      refine x_callV (n := 2) (As := [vi a0, vi a1]) (rest := []) C hM (tX4_addMark l Θ a0 a1 h0 g r_4 g_6 hc_5) (x_recvX C hM 17 (by decide) (eX_17 Θ _) rfl rfl) q_c_X4_addMark q_mX11_150 q_i_X4_addMark q_e_X4_addMark q_n_X4 (by decide +kernel) ⟨by decide, by decide⟩ rfl hl.1 rfl (Nat.le_of_ble_eq_true rfl) (kX11_mark (i := 10) rfl) (fun H locs hM => ?_)
      obtain ⟨q1, q2⟩ := ret2 h
      rw [q1, q2]
      exact x_iret C hM (nar_i _) (kX11_mark (i := 11) rfl)
    · have h := it_t c_3 h
      refine x_iconst hx hb (kX11_mark (i := 4) rfl) ?_
      obtain ⟨q1, q2⟩ := ret2 h
      rw [q1, q2]
      exact x_iret C hM (nar_i _) (kX11_mark (i := 5) rfl)
  exact key _ _ hM

/-! X11_armAt -/
def fX11_armAt (q : Nat) (a0 : Int) (g : Mem) : Option (Int) :=
  bd (fX3_pushAt a0 g) fun r_1 =>
  if wr r_1 = 0 then (
    some 0
  ) else (
    bd (fX3_momentAt a0 g) fun r_4 =>
    bd (fJ9_floorDiv_f86c9 ((wr r_4) * (wr (g 8 10))) (wr r_1)) fun r_6 =>
    bd (fX1_momentAt q a0 g) fun r_8 =>
    some (r_6 - (wr r_8))
  )
set_option maxRecDepth 100000 in
set_option maxHeartbeats 4000000 in
theorem tX11_armAt (l : Launch) (Θ : Th) (q : Nat) (hP : isP q) (a0 : Int) (h0 g : Mem) (rv : Int) (h : fX11_armAt q a0 g = some rv) : Ct l yX11_armAt cX11_armAt 6 (some .int) 2 43 Θ [.ref (Θ.2.2.1 0), vi a0, .ref (Θ.2.2.1 q)] g h0 g h0 (some (vi rv)) := by
  refine x_start (by decide) (Nat.le_of_ble_eq_true rfl) ?_
  intro p e s m args below meth c ls C hM hl
  have hl : lv_has ls 6 [(0, .ref (Θ.2.2.1 0)), (1, vi a0), (2, .ref (Θ.2.2.1 q))] := hl
  obtain ⟨hx, hb, hml, hown, hts, -⟩ := id C
  unfold fX11_armAt at h
  have key : ∀ (H : Heap) (locs : List Loc), Hd Θ s g h0 H locs → W p l e { frames := 2, cells := 0, slots := 0, locals := 43 } s m args below meth c H locs 0 0 (MQ below (Qx Θ s.heap.size g h0 (some (vi rv))) args s 0 0 (AA Θ s.heap.size)) (F0 m 0 ls []) := by
    intro H locs hM
    refine lv_aload_n hx hb (kX11_armAt (i := 0) rfl) rfl (lv_at hl 0 rfl) ?_
    refine gX11_hull C hM q_fX11_10 (kX11_armAt (i := 1) rfl) ?_
    refine x_iload_n hx hb (kX11_armAt (i := 2) rfl) rfl (lv_at hl 1 rfl) ?_
    obtain ⟨r_1, hc_2, h⟩ := bd_some h
    refine x_callV (n := 1) (As := [vi a0]) (rest := []) C hM (tX3_pushAt l Θ a0 h0 g r_1 hc_2) (x_recvX C hM 1 (by decide) (eX_1 Θ _) rfl rfl) q_c_X3_pushAt q_mX11_166 q_i_X3_pushAt q_e_X3_pushAt q_n_X3 (by decide +kernel) ⟨by decide, by decide⟩ rfl hl.1 rfl (Nat.le_of_ble_eq_true rfl) (kX11_armAt (i := 3) rfl) (fun H locs hM => ?_)
    refine x_istore_n (lv' := [(3, vi r_1), (0, .ref (Θ.2.2.1 0)), (1, vi a0), (2, .ref (Θ.2.2.1 q))]) hx hb (kX11_armAt (i := 4) rfl) rfl hl (by decide) rfl (fun ls hl => ?_)
    refine x_iload_n hx hb (kX11_armAt (i := 5) rfl) rfl (lv_at hl 0 rfl) ?_
    refine x_if_ne (a' := wr r_1) hx hb rfl (tgt := 15) (kX11_armAt (i := 6) rfl) (by decide) (fun c_3 => ?_) (fun c_3 => ?_)
    · have h := it_f c_3 h
      refine lv_aload_n hx hb (kX11_armAt (i := 9) rfl) rfl (lv_at hl 1 rfl) ?_
      refine gX11_hull C hM q_fX11_10 (kX11_armAt (i := 10) rfl) ?_
      refine x_iload_n hx hb (kX11_armAt (i := 11) rfl) rfl (lv_at hl 2 rfl) ?_
      obtain ⟨r_4, hc_5, h⟩ := bd_some h
      refine x_callV (n := 1) (As := [vi a0]) (rest := []) C hM (tX3_momentAt l Θ a0 h0 g r_4 hc_5) (x_recvX C hM 1 (by decide) (eX_1 Θ _) rfl rfl) q_c_X3_momentAt q_mX11_291 q_i_X3_momentAt q_e_X3_momentAt q_n_X3 (by decide +kernel) ⟨by decide, by decide⟩ rfl hl.1 rfl (Nat.le_of_ble_eq_true rfl) (kX11_armAt (i := 12) rfl) (fun H locs hM => ?_)
      refine x_i2l (a' := wr r_4) hx hb rfl (kX11_armAt (i := 13) rfl) ?_
      refine lv_aload_n hx hb (kX11_armAt (i := 14) rfl) rfl (lv_at hl 1 rfl) ?_
      refine gX11_cargo C hM q_fX11_19 (kX11_armAt (i := 15) rfl) ?_
      refine gX1_heavy C hM q_fX11_130 (kX11_armAt (i := 16) rfl) ?_
      refine x_i2l (a' := wr (g 8 10)) hx hb rfl (kX11_armAt (i := 17) rfl) ?_
      refine x_lmul hx hb (kX11_armAt (i := 18) rfl) ?_
      refine x_iload_n hx hb (kX11_armAt (i := 19) rfl) rfl (lv_at hl 0 rfl) ?_
      refine x_i2l (a' := wr r_1) hx hb rfl (kX11_armAt (i := 20) rfl) ?_
      obtain ⟨r_6, hc_7, h⟩ := bd_some h
      refine x_callS (n := 2) (As := [vl ((wr r_4) * (wr (g 8 10))), vl (wr r_1)]) (rest := []) C hM (tJ9_floorDiv_f86c9 l Θ ((wr r_4) * (wr (g 8 10))) (wr r_1) g h0 r_6 hc_7) q_c_J9_floorDiv_f86c9 q_mX11_294 q_s_J9_floorDiv_f86c9 q_n_J9 (by decide +kernel) ⟨by decide, by decide⟩ rfl hl.1 rfl (Nat.le_of_ble_eq_true rfl) (kX11_armAt (i := 21) rfl) (fun H locs hM => ?_)
      refine x_lstore (lv' := [(4, vl r_6), (3, vi r_1), (0, .ref (Θ.2.2.1 0)), (1, vi a0), (2, .ref (Θ.2.2.1 q))]) hx hb (kX11_armAt (i := 22) rfl) hl (by decide) rfl (fun ls hl => ?_)
      refine x_lload hx hb (kX11_armAt (i := 23) rfl) (lv_at hl 0 rfl) ?_
      refine lv_aload_n hx hb (kX11_armAt (i := 24) rfl) rfl (lv_at hl 2 rfl) ?_
      refine gX11_cargo C hM q_fX11_19 (kX11_armAt (i := 25) rfl) ?_
      refine x_iload_n hx hb (kX11_armAt (i := 26) rfl) rfl (lv_at hl 3 rfl) ?_
      refine lv_aload_n hx hb (kX11_armAt (i := 27) rfl) rfl (lv_at hl 4 rfl) ?_
      obtain ⟨r_8, hc_9, h⟩ := bd_some h
      refine x_callV (n := 2) (As := [vi a0, .ref (Θ.2.2.1 q)]) (rest := [vl r_6]) C hM (tX1_momentAt l Θ q hP a0 h0 g r_8 hc_9) (x_recvX C hM 8 (by decide) (eX_8 Θ _) rfl rfl) q_c_X1_momentAt q_mX11_300 q_i_X1_momentAt q_e_X1_momentAt q_n_X1 (by decide +kernel) ⟨by decide, by decide⟩ rfl hl.1 rfl (Nat.le_of_ble_eq_true rfl) (kX11_armAt (i := 28) rfl) (fun H locs hM => ?_)
      refine x_i2l (a' := wr r_8) hx hb rfl (kX11_armAt (i := 29) rfl) ?_
      refine x_lsub hx hb (kX11_armAt (i := 30) rfl) ?_
      refine x_l2i hx hb (kX11_armAt (i := 31) rfl) ?_
      rw [← Option.some.inj h]
      exact x_iret C hM (nar_i _) (kX11_armAt (i := 32) rfl)
    · have h := it_t c_3 h
      refine x_iconst hx hb (kX11_armAt (i := 7) rfl) ?_
      rw [← Option.some.inj h]
      exact x_iret C hM (nar_i _) (kX11_armAt (i := 8) rfl)
  exact key _ _ hM

/-! X11_at -/
def fX11_at (a0 : Int) (a1 : Int) (g : Mem) : Option (Int × Mem) :=
  bd (fX11_within a0 (-80) 80) fun r_1 =>
  if wr r_1 = 0 then (
    some ((-2147483648), g)
  ) else (
    bd (fX3_floats g) fun r_4 =>
    if wr r_4 = 0 then (
      some ((-2147483648), g)
    ) else (
      bd (fX3_settle a0 g) fun g_9 =>
      if wr a1 = 0 then (
        bd (fX3_levelAt a0 g_9) fun r_11 =>
        some (r_11, g_9)
      ) else (
      if wr a1 = 1 then (
        bd (fX3_pushAt a0 g_9) fun r_14 =>
        some (r_14, g_9)
      ) else (
      if wr a1 = 2 then (
        bd (fX11_armAt (24 + 1) a0 g_9) fun r_17 =>
        some (r_17, g_9)
      ) else (
        some ((-2147483648), g_9)
      )))
    )
  )
set_option maxRecDepth 100000 in
set_option maxHeartbeats 4000000 in
theorem tX11_at (l : Launch) (Θ : Th) (a0 : Int) (a1 : Int) (h0 g : Mem) (rv : Int) (gR : Mem) (h : fX11_at a0 a1 g = some (rv, gR)) : Ct l yX11_at cX11_at 3 (some .int) 4 99 Θ [.ref (Θ.2.2.1 0), vi a0, vi a1] g h0 gR h0 (some (vi rv)) := by
  refine x_start (by decide) (Nat.le_of_ble_eq_true rfl) ?_
  intro p e s m args below meth c ls C hM hl
  have hl : lv_has ls 3 [(0, .ref (Θ.2.2.1 0)), (1, vi a0), (2, vi a1)] := hl
  obtain ⟨hx, hb, hml, hown, hts, -⟩ := id C
  unfold fX11_at at h
  have key : ∀ (H : Heap) (locs : List Loc), Hd Θ s g h0 H locs → W p l e { frames := 4, cells := 0, slots := 0, locals := 99 } s m args below meth c H locs 0 0 (MQ below (Qx Θ s.heap.size gR h0 (some (vi rv))) args s 0 0 (AA Θ s.heap.size)) (F0 m 0 ls []) := by
    intro H locs hM
    refine x_iload_n hx hb (kX11_at (i := 0) rfl) rfl (lv_at hl 1 rfl) ?_
    refine x_bipush hx hb (by decide) (kX11_at (i := 1) rfl) ?_
    refine x_bipush hx hb (by decide) (kX11_at (i := 2) rfl) ?_
    obtain ⟨r_1, hc_2, h⟩ := bd_some h
    refine x_callS (n := 3) (As := [vi a0, vi (-80), vi 80]) (rest := []) C hM (tX11_within l Θ a0 (-80) 80 h0 g r_1 hc_2) q_c_X11_within q_mX11_109 q_s_X11_within q_n_X11 (by decide +kernel) ⟨by decide, by decide⟩ rfl hl.1 rfl (Nat.le_of_ble_eq_true rfl) (kX11_at (i := 3) rfl) (fun H locs hM => ?_)
    refine x_if_eq (a' := wr r_1) hx hb rfl (tgt := 21) (kX11_at (i := 4) rfl) (by decide) (fun c_3 => ?_) (fun c_3 => ?_)
    · have h := it_t c_3 h
      refine x_ldc (n := (-2147483648)) hx hb hown (hts _ q_kX11_158) (kX11_at (i := 9) rfl) ?_
      obtain ⟨q1, q2⟩ := ret2 h
      rw [q1, q2]
      exact x_iret C hM (nar_i _) (kX11_at (i := 10) rfl)
    · have h := it_f c_3 h
      refine lv_aload_n hx hb (kX11_at (i := 5) rfl) rfl (lv_at hl 0 rfl) ?_
      refine gX11_hull C hM q_fX11_10 (kX11_at (i := 6) rfl) ?_
      obtain ⟨r_4, hc_5, h⟩ := bd_some h
      refine x_callV (n := 0) (As := []) (rest := []) C hM (tX3_floats l Θ h0 g r_4 hc_5) (x_recvX C hM 1 (by decide) (eX_1 Θ _) rfl rfl) q_c_X3_floats q_mX11_154 q_i_X3_floats q_e_X3_floats q_n_X3 (by decide +kernel) ⟨by decide, by decide⟩ rfl hl.1 rfl (Nat.le_of_ble_eq_true rfl) (kX11_at (i := 7) rfl) (fun H locs hM => ?_)
      refine x_if_ne (a' := wr r_4) hx hb rfl (tgt := 24) (kX11_at (i := 8) rfl) (by decide) (fun c_6 => ?_) (fun c_6 => ?_)
      · have h := it_f c_6 h
        refine lv_aload_n hx hb (kX11_at (i := 11) rfl) rfl (lv_at hl 0 rfl) ?_
        refine gX11_hull C hM q_fX11_10 (kX11_at (i := 12) rfl) ?_
        refine x_iload_n hx hb (kX11_at (i := 13) rfl) rfl (lv_at hl 1 rfl) ?_
        obtain ⟨g_9, hc_8, h⟩ := bd_some h
        refine x_callV (n := 1) (As := [vi a0]) (rest := []) C hM (tX3_settle l Θ a0 h0 g g_9 hc_8) (x_recvX C hM 1 (by decide) (eX_1 Θ _) rfl rfl) q_c_X3_settle q_mX11_159 q_i_X3_settle q_e_X3_settle q_n_X3 (by decide +kernel) ⟨by decide, by decide⟩ rfl hl.1 rfl (Nat.le_of_ble_eq_true rfl) (kX11_at (i := 14) rfl) (fun H locs hM => ?_)
        refine x_iload_n hx hb (kX11_at (i := 15) rfl) rfl (lv_at hl 2 rfl) ?_
        by_cases c_10 : wr a1 = 0
        · have h := it_t c_10 h
          refine x_tableIn (tgt := 60) 0 c_10 hx hb (kX11_at (i := 16) rfl) (by decide) (by decide) rfl (by decide) ?_
          refine lv_aload_n hx hb (kX11_at (i := 17) rfl) rfl (lv_at hl 0 rfl) ?_
          refine gX11_hull C hM q_fX11_10 (kX11_at (i := 18) rfl) ?_
          refine x_iload_n hx hb (kX11_at (i := 19) rfl) rfl (lv_at hl 1 rfl) ?_
          obtain ⟨r_11, hc_12, h⟩ := bd_some h
          refine x_callV (n := 1) (As := [vi a0]) (rest := []) C hM (tX3_levelAt l Θ a0 h0 g_9 r_11 hc_12) (x_recvX C hM 1 (by decide) (eX_1 Θ _) rfl rfl) q_c_X3_levelAt q_mX11_162 q_i_X3_levelAt q_e_X3_levelAt q_n_X3 (by decide +kernel) ⟨by decide, by decide⟩ rfl hl.1 rfl (Nat.le_of_ble_eq_true rfl) (kX11_at (i := 20) rfl) (fun H locs hM => ?_)
          obtain ⟨q1, q2⟩ := ret2 h
          rw [q1, q2]
          exact x_iret C hM (nar_i _) (kX11_at (i := 21) rfl)
        have h := it_f c_10 h
        by_cases c_13 : wr a1 = 1
        · have h := it_t c_13 h
          refine x_tableIn (tgt := 69) 1 c_13 hx hb (kX11_at (i := 16) rfl) (by decide) (by decide) rfl (by decide) ?_
          refine lv_aload_n hx hb (kX11_at (i := 22) rfl) rfl (lv_at hl 0 rfl) ?_
          refine gX11_hull C hM q_fX11_10 (kX11_at (i := 23) rfl) ?_
          refine x_iload_n hx hb (kX11_at (i := 24) rfl) rfl (lv_at hl 1 rfl) ?_
          obtain ⟨r_14, hc_15, h⟩ := bd_some h
          refine x_callV (n := 1) (As := [vi a0]) (rest := []) C hM (tX3_pushAt l Θ a0 h0 g_9 r_14 hc_15) (x_recvX C hM 1 (by decide) (eX_1 Θ _) rfl rfl) q_c_X3_pushAt q_mX11_166 q_i_X3_pushAt q_e_X3_pushAt q_n_X3 (by decide +kernel) ⟨by decide, by decide⟩ rfl hl.1 rfl (Nat.le_of_ble_eq_true rfl) (kX11_at (i := 25) rfl) (fun H locs hM => ?_)
          obtain ⟨q1, q2⟩ := ret2 h
          rw [q1, q2]
          exact x_iret C hM (nar_i _) (kX11_at (i := 26) rfl)
        have h := it_f c_13 h
        by_cases c_16 : wr a1 = 2
        · have h := it_t c_16 h
          refine x_tableIn (tgt := 78) 2 c_16 hx hb (kX11_at (i := 16) rfl) (by decide) (by decide) rfl (by decide) ?_
          refine lv_aload_n hx hb (kX11_at (i := 27) rfl) rfl (lv_at hl 0 rfl) ?_
          refine x_iload_n hx hb (kX11_at (i := 28) rfl) rfl (lv_at hl 1 rfl) ?_
          refine lv_aload_n hx hb (kX11_at (i := 29) rfl) rfl (lv_at hl 0 rfl) ?_
          refine gX11_ship C hM q_fX11_40 (kX11_at (i := 30) rfl) ?_
          refine gX0_places 24 (Or.inl rfl) C hM q_fX11_169 (kX11_at (i := 31) rfl) ?_
          obtain ⟨r_17, hc_18, h⟩ := bd_some h
          refine x_callV (n := 2) (As := [vi a0, .ref (Θ.2.2.1 (24 + 1))]) (rest := []) C hM (tX11_armAt l Θ (24 + 1) (isB_P (Or.inl rfl)) a0 h0 g_9 r_17 hc_18) (x_recvX C hM 0 (by decide) (eX_0 Θ _) rfl rfl) q_c_X11_armAt q_mX11_172 q_i_X11_armAt q_e_X11_armAt q_n_X11 (by decide +kernel) ⟨by decide, by decide⟩ rfl hl.1 rfl (Nat.le_of_ble_eq_true rfl) (kX11_at (i := 32) rfl) (fun H locs hM => ?_)
          obtain ⟨q1, q2⟩ := ret2 h
          rw [q1, q2]
          exact x_iret C hM (nar_i _) (kX11_at (i := 33) rfl)
        have h := it_f c_16 h
        refine x_tableOut (tgt := 91) hx hb (kX11_at (i := 16) rfl) (by omega) (by decide) ?_
        refine x_ldc (n := (-2147483648)) hx hb hown (hts _ q_kX11_158) (kX11_at (i := 34) rfl) ?_
        obtain ⟨q1, q2⟩ := ret2 h
        rw [q1, q2]
        exact x_iret C hM (nar_i _) (kX11_at (i := 35) rfl)
      · have h := it_t c_6 h
        refine x_ldc (n := (-2147483648)) hx hb hown (hts _ q_kX11_158) (kX11_at (i := 9) rfl) ?_
        obtain ⟨q1, q2⟩ := ret2 h
        rw [q1, q2]
        exact x_iret C hM (nar_i _) (kX11_at (i := 10) rfl)
  exact key _ _ hM

/-! X11_findRest -/
def fX11_findRest_L54 : Nat → Int → Int → Int → Mem → Option (Int × Mem)
  | 0, _, _, _, _ => none
  | n + 1, y2, y3, y4, g =>
    if 80 ≤ wr y4 then (
      some ((-2147483648), g)
    ) else (
      bd (fX3_settle (y4 + 1) g) fun g_14 =>
      bd (fX11_armAt (24 + 1) (y4 + 1) g_14) fun r_15 =>
      jn (fun (v_17 : Int) =>
        jn (fun (p_18 : Int) =>
          bnd (y4 + 1) fun x_19 =>
          fX11_findRest_L54 n p_18 v_17 x_19 g_14
        ) fun J113 =>
        if wr y3 = wr v_17 then (
          J113 y2
        ) else (
          if wr y2 = 0 then (
            some (y4, g_14)
          ) else (
            bnd (y2 + (-1)) fun x_22 =>
            J113 x_22
          )
        )
      ) fun J95 =>
      if wr r_15 ≤ 0 then (
        J95 0
      ) else (
        J95 1
      )
    )
def fX11_findRest (a0 : Int) (g : Mem) : Option (Int × Mem) :=
  if wr a0 < 0 then (
    some ((-2147483648), g)
  ) else (
    bd (fX3_floats g) fun r_2 =>
    if wr r_2 = 0 then (
      some ((-2147483648), g)
    ) else (
      bd (fX3_settle (-80) g) fun g_7 =>
      bd (fX11_armAt (24 + 1) (-80) g_7) fun r_8 =>
      jn (fun (v_10 : Int) =>
        fX11_findRest_L54 fuel a0 v_10 (-80) g_7
      ) fun J49 =>
      if wr r_8 ≤ 0 then (
        J49 0
      ) else (
        J49 1
      )
    )
  )
set_option maxRecDepth 100000 in
set_option maxHeartbeats 4000000 in
theorem wX11_findRest_L54 {p : Program} {l : Launch} {e : Env} {s : State} {m : MethodId} {args : Array Value} {below : List Frame} {meth : Method} {c : Code} {Θ : Th} {h0 : Mem} {rv : Int} {gR : Mem} (C : Cx p s m args meth c cX11_findRest 6 RX11 (some .int) Θ) : ∀ (n : Nat) (y2 : Int) (y3 : Int) (y4 : Int) (g : Mem) (H : Heap) (locs : List Loc) (ls : Array Slot), fX11_findRest_L54 n y2 y3 y4 g = some (rv, gR) → Hd Θ s g h0 H locs → lv_has ls 6 [(0, .ref (Θ.2.2.1 0)), (2, vi y2), (3, vi y3), (4, vi y4)] → W p l e { frames := 4, cells := 0, slots := 0, locals := 99 } s m args below meth c H locs 0 0 (MQ below (Qx Θ s.heap.size gR h0 (some (vi rv))) args s 0 0 (AA Θ s.heap.size)) (F0 m 54 ls []) := by
  intro n
  obtain ⟨hx, hb, hml, hown, hts, -⟩ := id C
  induction n with
  | zero => intro y2 y3 y4 g H locs ls h; cases h
  | succ n ih =>
    intro y2 y3 y4 g H locs ls h  hM hl
    rw [fX11_findRest_L54] at h
    refine x_iload hx hb (kX11_findRest (i := 27) rfl) (lv_at hl 3 rfl) ?_
    refine x_bipush hx hb (by decide) (kX11_findRest (i := 28) rfl) ?_
    refine x_icmp_ge (a' := wr y4) (b' := 80) hx hb rfl (by decide) (tgt := 122) (kX11_findRest (i := 29) rfl) (by decide) (fun c_11 => ?_) (fun c_11 => ?_)
    · have h := it_t c_11 h
      refine x_ldc (n := (-2147483648)) hx hb hown (hts _ q_kX11_158) (kX11_findRest (i := 61) rfl) ?_
      obtain ⟨q1, q2⟩ := ret2 h
      rw [q1, q2]
      exact x_iret C hM (nar_i _) (kX11_findRest (i := 62) rfl)
    · have h := it_f c_11 h
      refine lv_aload_n hx hb (kX11_findRest (i := 30) rfl) rfl (lv_at hl 0 rfl) ?_
      refine gX11_hull C hM q_fX11_10 (kX11_findRest (i := 31) rfl) ?_
      refine x_iload hx hb (kX11_findRest (i := 32) rfl) (lv_at hl 3 rfl) ?_
      refine x_iconst hx hb (kX11_findRest (i := 33) rfl) ?_
      refine x_iadd hx hb (kX11_findRest (i := 34) rfl) ?_
      obtain ⟨g_14, hc_13, h⟩ := bd_some h
      refine x_callV (n := 1) (As := [vi (y4 + 1)]) (rest := []) C hM (tX3_settle l Θ (y4 + 1) h0 g g_14 hc_13) (x_recvX C hM 1 (by decide) (eX_1 Θ _) rfl rfl) q_c_X3_settle q_mX11_159 q_i_X3_settle q_e_X3_settle q_n_X3 (by decide +kernel) ⟨by decide, by decide⟩ rfl hl.1 rfl (Nat.le_of_ble_eq_true rfl) (kX11_findRest (i := 35) rfl) (fun H locs hM => ?_)
      refine lv_aload_n hx hb (kX11_findRest (i := 36) rfl) rfl (lv_at hl 0 rfl) ?_
      refine x_iload hx hb (kX11_findRest (i := 37) rfl) (lv_at hl 3 rfl) ?_
      refine x_iconst hx hb (kX11_findRest (i := 38) rfl) ?_
      refine x_iadd hx hb (kX11_findRest (i := 39) rfl) ?_
      refine lv_aload_n hx hb (kX11_findRest (i := 40) rfl) rfl (lv_at hl 0 rfl) ?_
      refine gX11_ship C hM q_fX11_40 (kX11_findRest (i := 41) rfl) ?_
      refine gX0_places 24 (Or.inl rfl) C hM q_fX11_169 (kX11_findRest (i := 42) rfl) ?_
      obtain ⟨r_15, hc_16, h⟩ := bd_some h
      refine x_callV (n := 2) (As := [vi (y4 + 1), .ref (Θ.2.2.1 (24 + 1))]) (rest := []) C hM (tX11_armAt l Θ (24 + 1) (isB_P (Or.inl rfl)) (y4 + 1) h0 g_14 r_15 hc_16) (x_recvX C hM 0 (by decide) (eX_0 Θ _) rfl rfl) q_c_X11_armAt q_mX11_172 q_i_X11_armAt q_e_X11_armAt q_n_X11 (by decide +kernel) ⟨by decide, by decide⟩ rfl hl.1 rfl (Nat.le_of_ble_eq_true rfl) (kX11_findRest (i := 43) rfl) (fun H locs hM => ?_)
      refine jn_go h (fun J95 : Int → Option (Int × Mem) => ∀ (v_17 : Int) (H : Heap) (locs : List Loc) (ls : Array Slot), J95 v_17 = some (rv, gR) → Hd Θ s g_14 h0 H locs → lv_has ls 6 [(0, .ref (Θ.2.2.1 0)), (2, vi y2), (3, vi y3), (4, vi y4)] → W p l e { frames := 4, cells := 0, slots := 0, locals := 99 } s m args below meth c H locs 0 0 (MQ below (Qx Θ s.heap.size gR h0 (some (vi rv))) args s 0 0 (AA Θ s.heap.size)) (F0 m 95 ls [vi v_17])) ?_ ?_
      · intro v_17 H locs ls h hM hl
        refine x_istore (lv' := [(5, vi v_17), (0, .ref (Θ.2.2.1 0)), (2, vi y2), (3, vi y3), (4, vi y4)]) hx hb (kX11_findRest (i := 48) rfl) hl (by decide) rfl (fun ls hl => ?_)
        refine x_iload_n hx hb (kX11_findRest (i := 49) rfl) rfl (lv_at hl 3 rfl) ?_
        refine x_iload hx hb (kX11_findRest (i := 50) rfl) (lv_at hl 0 rfl) ?_
        refine jn_go h (fun J113 : Int → Option (Int × Mem) => ∀ (p_18 : Int) (H : Heap) (locs : List Loc) (ls : Array Slot), J113 p_18 = some (rv, gR) → Hd Θ s g_14 h0 H locs → lv_has ls 6 [(0, .ref (Θ.2.2.1 0)), (2, vi p_18), (4, vi y4), (5, vi v_17)] → W p l e { frames := 4, cells := 0, slots := 0, locals := 99 } s m args below meth c H locs 0 0 (MQ below (Qx Θ s.heap.size gR h0 (some (vi rv))) args s 0 0 (AA Θ s.heap.size)) (F0 m 113 ls [])) ?_ ?_
        · intro p_18 H locs ls h hM hl
          refine x_iload hx hb (kX11_findRest (i := 57) rfl) (lv_at hl 3 rfl) ?_
          refine x_istore_n (lv' := [(3, vi v_17), (0, .ref (Θ.2.2.1 0)), (2, vi p_18), (4, vi y4), (5, vi v_17)]) hx hb (kX11_findRest (i := 58) rfl) rfl hl (by decide) rfl (fun ls hl => ?_)
          obtain ⟨x_19, ex_19, h⟩ := bnd_some h
          refine x_iinc (k := 3) (lv' := [(4, vi x_19), (3, vi v_17), (0, .ref (Θ.2.2.1 0)), (2, vi p_18), (5, vi v_17)]) hx hb (kX11_findRest (i := 59) rfl) hl rfl ex_19 (by decide) rfl (fun ls hl => ?_)
          refine lv_goto (tgt := 54) hx hb (kX11_findRest (i := 60) rfl) (by decide) ?_
          exact ih p_18 v_17 x_19 g_14 H locs ls h hM (lv_sub hl [2, 3, 1, 0] rfl)
        intro J113 hJ113 h
        refine x_icmp_eq (a' := wr y3) (b' := wr v_17) hx hb rfl rfl (tgt := 113) (kX11_findRest (i := 51) rfl) (by decide) (fun c_20 => ?_) (fun c_20 => ?_)
        · have h := it_t c_20 h
          exact hJ113 y2 H locs ls h hM (lv_sub hl [1, 2, 4, 0] rfl)
        · have h := it_f c_20 h
          refine x_iload_n hx hb (kX11_findRest (i := 52) rfl) rfl (lv_at hl 2 rfl) ?_
          refine x_if_ne (a' := wr y2) hx hb rfl (tgt := 110) (kX11_findRest (i := 53) rfl) (by decide) (fun c_21 => ?_) (fun c_21 => ?_)
          · have h := it_f c_21 h
            obtain ⟨x_22, ex_22, h⟩ := bnd_some h
            refine x_iinc (k := 2) (lv' := [(2, vi x_22), (5, vi v_17), (0, .ref (Θ.2.2.1 0)), (3, vi y3), (4, vi y4)]) hx hb (kX11_findRest (i := 56) rfl) hl rfl ex_22 (by decide) rfl (fun ls hl => ?_)
            exact hJ113 x_22 H locs ls h hM (lv_sub hl [2, 0, 4, 1] rfl)
          · have h := it_t c_21 h
            refine x_iload hx hb (kX11_findRest (i := 54) rfl) (lv_at hl 4 rfl) ?_
            obtain ⟨q1, q2⟩ := ret2 h
            rw [q1, q2]
            exact x_iret C hM (nar_i _) (kX11_findRest (i := 55) rfl)
      intro J95 hJ95 h
      refine x_if_le (a' := wr r_15) hx hb rfl (tgt := 94) (kX11_findRest (i := 44) rfl) (by decide) (fun c_23 => ?_) (fun c_23 => ?_)
      · have h := it_t c_23 h
        refine x_iconst hx hb (kX11_findRest (i := 47) rfl) ?_
        exact hJ95 0 H locs ls h hM (lv_sub hl [0, 1, 2, 3] rfl)
      · have h := it_f c_23 h
        refine x_iconst hx hb (kX11_findRest (i := 45) rfl) ?_
        refine lv_goto (tgt := 95) hx hb (kX11_findRest (i := 46) rfl) (by decide) ?_
        exact hJ95 1 H locs ls h hM (lv_sub hl [0, 1, 2, 3] rfl)
set_option maxRecDepth 100000 in
set_option maxHeartbeats 4000000 in
theorem tX11_findRest (l : Launch) (Θ : Th) (a0 : Int) (h0 g : Mem) (rv : Int) (gR : Mem) (h : fX11_findRest a0 g = some (rv, gR)) : Ct l yX11_findRest cX11_findRest 6 (some .int) 4 99 Θ [.ref (Θ.2.2.1 0), vi a0] g h0 gR h0 (some (vi rv)) := by
  refine x_start (by decide) (Nat.le_of_ble_eq_true rfl) ?_
  intro p e s m args below meth c ls C hM hl
  have hl : lv_has ls 6 [(0, .ref (Θ.2.2.1 0)), (1, vi a0)] := hl
  obtain ⟨hx, hb, hml, hown, hts, -⟩ := id C
  unfold fX11_findRest at h
  have key : ∀ (H : Heap) (locs : List Loc), Hd Θ s g h0 H locs → W p l e { frames := 4, cells := 0, slots := 0, locals := 99 } s m args below meth c H locs 0 0 (MQ below (Qx Θ s.heap.size gR h0 (some (vi rv))) args s 0 0 (AA Θ s.heap.size)) (F0 m 0 ls []) := by
    intro H locs hM
    refine x_iload_n hx hb (kX11_findRest (i := 0) rfl) rfl (lv_at hl 1 rfl) ?_
    refine x_if_lt (a' := wr a0) hx hb rfl (tgt := 14) (kX11_findRest (i := 1) rfl) (by decide) (fun c_1 => ?_) (fun c_1 => ?_)
    · have h := it_t c_1 h
      refine x_ldc (n := (-2147483648)) hx hb hown (hts _ q_kX11_158) (kX11_findRest (i := 6) rfl) ?_
      obtain ⟨q1, q2⟩ := ret2 h
      rw [q1, q2]
      exact x_iret C hM (nar_i _) (kX11_findRest (i := 7) rfl)
    · have h := it_f c_1 h
      refine lv_aload_n hx hb (kX11_findRest (i := 2) rfl) rfl (lv_at hl 0 rfl) ?_
      refine gX11_hull C hM q_fX11_10 (kX11_findRest (i := 3) rfl) ?_
      obtain ⟨r_2, hc_3, h⟩ := bd_some h
      refine x_callV (n := 0) (As := []) (rest := []) C hM (tX3_floats l Θ h0 g r_2 hc_3) (x_recvX C hM 1 (by decide) (eX_1 Θ _) rfl rfl) q_c_X3_floats q_mX11_154 q_i_X3_floats q_e_X3_floats q_n_X3 (by decide +kernel) ⟨by decide, by decide⟩ rfl hl.1 rfl (Nat.le_of_ble_eq_true rfl) (kX11_findRest (i := 4) rfl) (fun H locs hM => ?_)
      refine x_if_ne (a' := wr r_2) hx hb rfl (tgt := 17) (kX11_findRest (i := 5) rfl) (by decide) (fun c_4 => ?_) (fun c_4 => ?_)
      · have h := it_f c_4 h
        refine x_iload_n hx hb (kX11_findRest (i := 8) rfl) rfl (lv_at hl 1 rfl) ?_
        refine x_istore_n (lv' := [(2, vi a0), (0, .ref (Θ.2.2.1 0)), (1, vi a0)]) hx hb (kX11_findRest (i := 9) rfl) rfl hl (by decide) rfl (fun ls hl => ?_)
        refine lv_aload_n hx hb (kX11_findRest (i := 10) rfl) rfl (lv_at hl 1 rfl) ?_
        refine gX11_hull C hM q_fX11_10 (kX11_findRest (i := 11) rfl) ?_
        refine x_bipush hx hb (by decide) (kX11_findRest (i := 12) rfl) ?_
        obtain ⟨g_7, hc_6, h⟩ := bd_some h
        refine x_callV (n := 1) (As := [vi (-80)]) (rest := []) C hM (tX3_settle l Θ (-80) h0 g g_7 hc_6) (x_recvX C hM 1 (by decide) (eX_1 Θ _) rfl rfl) q_c_X3_settle q_mX11_159 q_i_X3_settle q_e_X3_settle q_n_X3 (by decide +kernel) ⟨by decide, by decide⟩ rfl hl.1 rfl (Nat.le_of_ble_eq_true rfl) (kX11_findRest (i := 13) rfl) (fun H locs hM => ?_)
        refine lv_aload_n hx hb (kX11_findRest (i := 14) rfl) rfl (lv_at hl 1 rfl) ?_
        refine x_bipush hx hb (by decide) (kX11_findRest (i := 15) rfl) ?_
        refine lv_aload_n hx hb (kX11_findRest (i := 16) rfl) rfl (lv_at hl 1 rfl) ?_
        refine gX11_ship C hM q_fX11_40 (kX11_findRest (i := 17) rfl) ?_
        refine gX0_places 24 (Or.inl rfl) C hM q_fX11_169 (kX11_findRest (i := 18) rfl) ?_
        obtain ⟨r_8, hc_9, h⟩ := bd_some h
        refine x_callV (n := 2) (As := [vi (-80), .ref (Θ.2.2.1 (24 + 1))]) (rest := []) C hM (tX11_armAt l Θ (24 + 1) (isB_P (Or.inl rfl)) (-80) h0 g_7 r_8 hc_9) (x_recvX C hM 0 (by decide) (eX_0 Θ _) rfl rfl) q_c_X11_armAt q_mX11_172 q_i_X11_armAt q_e_X11_armAt q_n_X11 (by decide +kernel) ⟨by decide, by decide⟩ rfl hl.1 rfl (Nat.le_of_ble_eq_true rfl) (kX11_findRest (i := 19) rfl) (fun H locs hM => ?_)
        refine jn_go h (fun J49 : Int → Option (Int × Mem) => ∀ (v_10 : Int) (H : Heap) (locs : List Loc) (ls : Array Slot), J49 v_10 = some (rv, gR) → Hd Θ s g_7 h0 H locs → lv_has ls 6 [(0, .ref (Θ.2.2.1 0)), (2, vi a0)] → W p l e { frames := 4, cells := 0, slots := 0, locals := 99 } s m args below meth c H locs 0 0 (MQ below (Qx Θ s.heap.size gR h0 (some (vi rv))) args s 0 0 (AA Θ s.heap.size)) (F0 m 49 ls [vi v_10])) ?_ ?_
        · intro v_10 H locs ls h hM hl
          refine x_istore_n (lv' := [(3, vi v_10), (0, .ref (Θ.2.2.1 0)), (2, vi a0)]) hx hb (kX11_findRest (i := 24) rfl) rfl hl (by decide) rfl (fun ls hl => ?_)
          refine x_bipush hx hb (by decide) (kX11_findRest (i := 25) rfl) ?_
          refine x_istore (lv' := [(4, vi (-80)), (3, vi v_10), (0, .ref (Θ.2.2.1 0)), (2, vi a0)]) hx hb (kX11_findRest (i := 26) rfl) hl (by decide) rfl (fun ls hl => ?_)
          refine wX11_findRest_L54  C fuel a0 v_10 (-80) g_7 H locs ls h  hM (lv_sub hl [2, 3, 1, 0] rfl)
        intro J49 hJ49 h
        refine x_if_le (a' := wr r_8) hx hb rfl (tgt := 48) (kX11_findRest (i := 20) rfl) (by decide) (fun c_24 => ?_) (fun c_24 => ?_)
        · have h := it_t c_24 h
          refine x_iconst hx hb (kX11_findRest (i := 23) rfl) ?_
          exact hJ49 0 H locs ls h hM (lv_sub hl [1, 0] rfl)
        · have h := it_f c_24 h
          refine x_iconst hx hb (kX11_findRest (i := 21) rfl) ?_
          refine lv_goto (tgt := 49) hx hb (kX11_findRest (i := 22) rfl) (by decide) ?_
          exact hJ49 1 H locs ls h hM (lv_sub hl [1, 0] rfl)
      · have h := it_t c_4 h
        refine x_ldc (n := (-2147483648)) hx hb hown (hts _ q_kX11_158) (kX11_findRest (i := 6) rfl) ?_
        obtain ⟨q1, q2⟩ := ret2 h
        rw [q1, q2]
        exact x_iret C hM (nar_i _) (kX11_findRest (i := 7) rfl)
  exact key _ _ hM

/-! X11_rest -/
def fX11_rest (a0 : Int) (g : Mem) : Option (Int × Mem) :=
  bd2 (fX11_findRest a0 g) fun r_1 g_3 =>
  some (r_1, g_3)
set_option maxRecDepth 100000 in
set_option maxHeartbeats 4000000 in
theorem tX11_rest (l : Launch) (Θ : Th) (a0 : Int) (h0 g : Mem) (rv : Int) (gR : Mem) (h : fX11_rest a0 g = some (rv, gR)) : Ct l yX11_rest cX11_rest 2 (some .int) 5 124 Θ [.ref (Θ.2.2.1 0), vi a0] g h0 gR h0 (some (vi rv)) := by
  refine x_start (by decide) (Nat.le_of_ble_eq_true rfl) ?_
  intro p e s m args below meth c ls C hM hl
  have hl : lv_has ls 2 [(0, .ref (Θ.2.2.1 0)), (1, vi a0)] := hl
  obtain ⟨hx, hb, hml, hown, hts, -⟩ := id C
  unfold fX11_rest at h
  have key : ∀ (H : Heap) (locs : List Loc), Hd Θ s g h0 H locs → W p l e { frames := 5, cells := 0, slots := 0, locals := 124 } s m args below meth c H locs 0 0 (MQ below (Qx Θ s.heap.size gR h0 (some (vi rv))) args s 0 0 (AA Θ s.heap.size)) (F0 m 0 ls []) := by
    intro H locs hM
    refine lv_aload_n hx hb (kX11_rest (i := 0) rfl) rfl (lv_at hl 0 rfl) ?_
    refine x_iload_n hx hb (kX11_rest (i := 1) rfl) rfl (lv_at hl 1 rfl) ?_
    obtain ⟨r_1, g_3, hc_2, h⟩ := bd2_some h
    refine x_callV (n := 1) (As := [vi a0]) (rest := []) C hM (tX11_findRest l Θ a0 h0 g r_1 g_3 hc_2) (x_recvX C hM 0 (by decide) (eX_0 Θ _) rfl rfl) q_c_X11_findRest q_mX11_176 q_i_X11_findRest q_e_X11_findRest q_n_X11 (by decide +kernel) ⟨by decide, by decide⟩ rfl hl.1 rfl (Nat.le_of_ble_eq_true rfl) (kX11_rest (i := 2) rfl) (fun H locs hM => ?_)
    obtain ⟨q1, q2⟩ := ret2 h
    rw [q1, q2]
    exact x_iret C hM (nar_i _) (kX11_rest (i := 3) rfl)
  exact key _ _ hM

/-! X11_stays -/
def fX11_stays (a0 : Int) (g : Mem) : Option (Int × Mem) :=
  bd2 (fX11_findRest a0 g) fun r_1 g_3 =>
  if wr r_1 = (-2147483648) then (
    some ((-1), g_3)
  ) else (
    bd (fX11_armAt (24 + 1) r_1 g_3) fun r_5 =>
    if wr r_5 ≤ 0 then (
      some (1, g_3)
    ) else (
      some (0, g_3)
    )
  )
set_option maxRecDepth 100000 in
set_option maxHeartbeats 4000000 in
theorem tX11_stays (l : Launch) (Θ : Th) (a0 : Int) (h0 g : Mem) (rv : Int) (gR : Mem) (h : fX11_stays a0 g = some (rv, gR)) : Ct l yX11_stays cX11_stays 3 (some .int) 5 124 Θ [.ref (Θ.2.2.1 0), vi a0] g h0 gR h0 (some (vi rv)) := by
  refine x_start (by decide) (Nat.le_of_ble_eq_true rfl) ?_
  intro p e s m args below meth c ls C hM hl
  have hl : lv_has ls 3 [(0, .ref (Θ.2.2.1 0)), (1, vi a0)] := hl
  obtain ⟨hx, hb, hml, hown, hts, -⟩ := id C
  unfold fX11_stays at h
  have key : ∀ (H : Heap) (locs : List Loc), Hd Θ s g h0 H locs → W p l e { frames := 5, cells := 0, slots := 0, locals := 124 } s m args below meth c H locs 0 0 (MQ below (Qx Θ s.heap.size gR h0 (some (vi rv))) args s 0 0 (AA Θ s.heap.size)) (F0 m 0 ls []) := by
    intro H locs hM
    refine lv_aload_n hx hb (kX11_stays (i := 0) rfl) rfl (lv_at hl 0 rfl) ?_
    refine x_iload_n hx hb (kX11_stays (i := 1) rfl) rfl (lv_at hl 1 rfl) ?_
    obtain ⟨r_1, g_3, hc_2, h⟩ := bd2_some h
    refine x_callV (n := 1) (As := [vi a0]) (rest := []) C hM (tX11_findRest l Θ a0 h0 g r_1 g_3 hc_2) (x_recvX C hM 0 (by decide) (eX_0 Θ _) rfl rfl) q_c_X11_findRest q_mX11_176 q_i_X11_findRest q_e_X11_findRest q_n_X11 (by decide +kernel) ⟨by decide, by decide⟩ rfl hl.1 rfl (Nat.le_of_ble_eq_true rfl) (kX11_stays (i := 2) rfl) (fun H locs hM => ?_)
    refine x_istore_n (lv' := [(2, vi r_1), (0, .ref (Θ.2.2.1 0)), (1, vi a0)]) hx hb (kX11_stays (i := 3) rfl) rfl hl (by decide) rfl (fun ls hl => ?_)
    refine x_iload_n hx hb (kX11_stays (i := 4) rfl) rfl (lv_at hl 0 rfl) ?_
    refine x_ldc (n := (-2147483648)) hx hb hown (hts _ q_kX11_158) (kX11_stays (i := 5) rfl) ?_
    refine x_icmp_ne (a' := wr r_1) (b' := (-2147483648)) hx hb rfl (by decide) (tgt := 14) (kX11_stays (i := 6) rfl) (by decide) (fun c_4 => ?_) (fun c_4 => ?_)
    · have h := it_f c_4 h
      refine lv_aload_n hx hb (kX11_stays (i := 9) rfl) rfl (lv_at hl 1 rfl) ?_
      refine x_iload_n hx hb (kX11_stays (i := 10) rfl) rfl (lv_at hl 0 rfl) ?_
      refine lv_aload_n hx hb (kX11_stays (i := 11) rfl) rfl (lv_at hl 1 rfl) ?_
      refine gX11_ship C hM q_fX11_40 (kX11_stays (i := 12) rfl) ?_
      refine gX0_places 24 (Or.inl rfl) C hM q_fX11_169 (kX11_stays (i := 13) rfl) ?_
      obtain ⟨r_5, hc_6, h⟩ := bd_some h
      refine x_callV (n := 2) (As := [vi r_1, .ref (Θ.2.2.1 (24 + 1))]) (rest := []) C hM (tX11_armAt l Θ (24 + 1) (isB_P (Or.inl rfl)) r_1 h0 g_3 r_5 hc_6) (x_recvX C hM 0 (by decide) (eX_0 Θ _) rfl rfl) q_c_X11_armAt q_mX11_172 q_i_X11_armAt q_e_X11_armAt q_n_X11 (by decide +kernel) ⟨by decide, by decide⟩ rfl hl.1 rfl (Nat.le_of_ble_eq_true rfl) (kX11_stays (i := 14) rfl) (fun H locs hM => ?_)
      refine x_if_le (a' := wr r_5) hx hb rfl (tgt := 33) (kX11_stays (i := 15) rfl) (by decide) (fun c_7 => ?_) (fun c_7 => ?_)
      · have h := it_t c_7 h
        refine x_iconst hx hb (kX11_stays (i := 18) rfl) ?_
        obtain ⟨q1, q2⟩ := ret2 h
        rw [q1, q2]
        exact x_iret C hM (nar_i _) (kX11_stays (i := 19) rfl)
      · have h := it_f c_7 h
        refine x_iconst hx hb (kX11_stays (i := 16) rfl) ?_
        refine lv_goto (tgt := 34) hx hb (kX11_stays (i := 17) rfl) (by decide) ?_
        obtain ⟨q1, q2⟩ := ret2 h
        rw [q1, q2]
        exact x_iret C hM (nar_i _) (kX11_stays (i := 19) rfl)
    · have h := it_t c_4 h
      refine x_iconst hx hb (kX11_stays (i := 7) rfl) ?_
      obtain ⟨q1, q2⟩ := ret2 h
      rw [q1, q2]
      exact x_iret C hM (nar_i _) (kX11_stays (i := 8) rfl)
  exact key _ _ hM

/-! X11_wave -/
def fX11_wave (a0 : Int) (a1 : Int) (a2 : Int) (g : Mem) : Option (Int × Mem) :=
  bd (fX11_within a0 1 60) fun r_1 =>
  if wr r_1 = 0 then (
    some ((-1), g)
  ) else (
    bd (fX11_within a1 4 64) fun r_4 =>
    if wr r_4 = 0 then (
      some ((-1), g)
    ) else (
      bd (fX11_within a2 0 15) fun r_7 =>
      if wr r_7 = 0 then (
        some ((-1), g)
      ) else (
        bd2 (fX10_addWave a0 a1 a2 g) fun r_10 g_12 =>
        some (r_10, g_12)
      )
    )
  )
set_option maxRecDepth 100000 in
set_option maxHeartbeats 4000000 in
theorem tX11_wave (l : Launch) (Θ : Th) (a0 : Int) (a1 : Int) (a2 : Int) (h0 g : Mem) (rv : Int) (gR : Mem) (h : fX11_wave a0 a1 a2 g = some (rv, gR)) : Ct l yX11_wave cX11_wave 4 (some .int) 2 46 Θ [.ref (Θ.2.2.1 0), vi a0, vi a1, vi a2] g h0 gR h0 (some (vi rv)) := by
  refine x_start (by decide) (Nat.le_of_ble_eq_true rfl) ?_
  intro p e s m args below meth c ls C hM hl
  have hl : lv_has ls 4 [(0, .ref (Θ.2.2.1 0)), (1, vi a0), (2, vi a1), (3, vi a2)] := hl
  obtain ⟨hx, hb, hml, hown, hts, -⟩ := id C
  unfold fX11_wave at h
  have key : ∀ (H : Heap) (locs : List Loc), Hd Θ s g h0 H locs → W p l e { frames := 2, cells := 0, slots := 0, locals := 46 } s m args below meth c H locs 0 0 (MQ below (Qx Θ s.heap.size gR h0 (some (vi rv))) args s 0 0 (AA Θ s.heap.size)) (F0 m 0 ls []) := by
    intro H locs hM
    refine x_iload_n hx hb (kX11_wave (i := 0) rfl) rfl (lv_at hl 1 rfl) ?_
    refine x_iconst hx hb (kX11_wave (i := 1) rfl) ?_
    refine x_bipush hx hb (by decide) (kX11_wave (i := 2) rfl) ?_
    obtain ⟨r_1, hc_2, h⟩ := bd_some h
    refine x_callS (n := 3) (As := [vi a0, vi 1, vi 60]) (rest := []) C hM (tX11_within l Θ a0 1 60 h0 g r_1 hc_2) q_c_X11_within q_mX11_109 q_s_X11_within q_n_X11 (by decide +kernel) ⟨by decide, by decide⟩ rfl hl.1 rfl (Nat.le_of_ble_eq_true rfl) (kX11_wave (i := 3) rfl) (fun H locs hM => ?_)
    refine x_if_eq (a' := wr r_1) hx hb rfl (tgt := 30) (kX11_wave (i := 4) rfl) (by decide) (fun c_3 => ?_) (fun c_3 => ?_)
    · have h := it_t c_3 h
      refine x_iconst hx hb (kX11_wave (i := 15) rfl) ?_
      obtain ⟨q1, q2⟩ := ret2 h
      rw [q1, q2]
      exact x_iret C hM (nar_i _) (kX11_wave (i := 16) rfl)
    · have h := it_f c_3 h
      refine x_iload_n hx hb (kX11_wave (i := 5) rfl) rfl (lv_at hl 2 rfl) ?_
      refine x_iconst hx hb (kX11_wave (i := 6) rfl) ?_
      refine x_bipush hx hb (by decide) (kX11_wave (i := 7) rfl) ?_
      obtain ⟨r_4, hc_5, h⟩ := bd_some h
      refine x_callS (n := 3) (As := [vi a1, vi 4, vi 64]) (rest := []) C hM (tX11_within l Θ a1 4 64 h0 g r_4 hc_5) q_c_X11_within q_mX11_109 q_s_X11_within q_n_X11 (by decide +kernel) ⟨by decide, by decide⟩ rfl hl.1 rfl (Nat.le_of_ble_eq_true rfl) (kX11_wave (i := 8) rfl) (fun H locs hM => ?_)
      refine x_if_eq (a' := wr r_4) hx hb rfl (tgt := 30) (kX11_wave (i := 9) rfl) (by decide) (fun c_6 => ?_) (fun c_6 => ?_)
      · have h := it_t c_6 h
        refine x_iconst hx hb (kX11_wave (i := 15) rfl) ?_
        obtain ⟨q1, q2⟩ := ret2 h
        rw [q1, q2]
        exact x_iret C hM (nar_i _) (kX11_wave (i := 16) rfl)
      · have h := it_f c_6 h
        refine x_iload_n hx hb (kX11_wave (i := 10) rfl) rfl (lv_at hl 3 rfl) ?_
        refine x_iconst hx hb (kX11_wave (i := 11) rfl) ?_
        refine x_bipush hx hb (by decide) (kX11_wave (i := 12) rfl) ?_
        obtain ⟨r_7, hc_8, h⟩ := bd_some h
        refine x_callS (n := 3) (As := [vi a2, vi 0, vi 15]) (rest := []) C hM (tX11_within l Θ a2 0 15 h0 g r_7 hc_8) q_c_X11_within q_mX11_109 q_s_X11_within q_n_X11 (by decide +kernel) ⟨by decide, by decide⟩ rfl hl.1 rfl (Nat.le_of_ble_eq_true rfl) (kX11_wave (i := 13) rfl) (fun H locs hM => ?_)
        refine x_if_ne (a' := wr r_7) hx hb rfl (tgt := 32) (kX11_wave (i := 14) rfl) (by decide) (fun c_9 => ?_) (fun c_9 => ?_)
        · have h := it_f c_9 h
          refine lv_aload_n hx hb (kX11_wave (i := 17) rfl) rfl (lv_at hl 0 rfl) ?_
          refine gX11_waves C hM q_fX11_33 (kX11_wave (i := 18) rfl) ?_
          refine x_iload_n hx hb (kX11_wave (i := 19) rfl) rfl (lv_at hl 1 rfl) ?_
          refine x_iload_n hx hb (kX11_wave (i := 20) rfl) rfl (lv_at hl 2 rfl) ?_
          refine x_iload_n hx hb (kX11_wave (i := 21) rfl) rfl (lv_at hl 3 rfl) ?_
          obtain ⟨r_10, g_12, hc_11, h⟩ := bd2_some h
          refine x_callV (n := 3) (As := [vi a0, vi a1, vi a2]) (rest := []) C hM (tX10_addWave l Θ a0 a1 a2 h0 g r_10 g_12 hc_11) (x_recvX C hM 20 (by decide) (eX_20 Θ _) rfl rfl) q_c_X10_addWave q_mX11_179 q_i_X10_addWave q_e_X10_addWave q_n_X10 (by decide +kernel) ⟨by decide, by decide⟩ rfl hl.1 rfl (Nat.le_of_ble_eq_true rfl) (kX11_wave (i := 22) rfl) (fun H locs hM => ?_)
          obtain ⟨q1, q2⟩ := ret2 h
          rw [q1, q2]
          exact x_iret C hM (nar_i _) (kX11_wave (i := 23) rfl)
        · have h := it_t c_9 h
          refine x_iconst hx hb (kX11_wave (i := 15) rfl) ?_
          obtain ⟨q1, q2⟩ := ret2 h
          rw [q1, q2]
          exact x_iret C hM (nar_i _) (kX11_wave (i := 16) rfl)
  exact key _ _ hM

/-! X11_sea -/
def fX11_sea (a0 : Int) (g : Mem) : Option (Int) :=
  bd (fX11_within a0 0 599) fun r_1 =>
  if wr r_1 = 0 then (
    some (-2147483648)
  ) else (
    bd (fX10_pushIn a0 g) fun r_4 =>
    some r_4
  )
set_option maxRecDepth 100000 in
set_option maxHeartbeats 4000000 in
theorem tX11_sea (l : Launch) (Θ : Th) (a0 : Int) (h0 g : Mem) (rv : Int) (h : fX11_sea a0 g = some rv) : Ct l yX11_sea cX11_sea 2 (some .int) 1 22 Θ [.ref (Θ.2.2.1 0), vi a0] g h0 g h0 (some (vi rv)) := by
  refine x_start (by decide) (Nat.le_of_ble_eq_true rfl) ?_
  intro p e s m args below meth c ls C hM hl
  have hl : lv_has ls 2 [(0, .ref (Θ.2.2.1 0)), (1, vi a0)] := hl
  obtain ⟨hx, hb, hml, hown, hts, -⟩ := id C
  unfold fX11_sea at h
  have key : ∀ (H : Heap) (locs : List Loc), Hd Θ s g h0 H locs → W p l e { frames := 1, cells := 0, slots := 0, locals := 22 } s m args below meth c H locs 0 0 (MQ below (Qx Θ s.heap.size g h0 (some (vi rv))) args s 0 0 (AA Θ s.heap.size)) (F0 m 0 ls []) := by
    intro H locs hM
    refine x_iload_n hx hb (kX11_sea (i := 0) rfl) rfl (lv_at hl 1 rfl) ?_
    refine x_iconst hx hb (kX11_sea (i := 1) rfl) ?_
    refine x_sipush hx hb (by decide) (kX11_sea (i := 2) rfl) ?_
    obtain ⟨r_1, hc_2, h⟩ := bd_some h
    refine x_callS (n := 3) (As := [vi a0, vi 0, vi 599]) (rest := []) C hM (tX11_within l Θ a0 0 599 h0 g r_1 hc_2) q_c_X11_within q_mX11_109 q_s_X11_within q_n_X11 (by decide +kernel) ⟨by decide, by decide⟩ rfl hl.1 rfl (Nat.le_of_ble_eq_true rfl) (kX11_sea (i := 3) rfl) (fun H locs hM => ?_)
    refine x_if_ne (a' := wr r_1) hx hb rfl (tgt := 14) (kX11_sea (i := 4) rfl) (by decide) (fun c_3 => ?_) (fun c_3 => ?_)
    · have h := it_f c_3 h
      refine lv_aload_n hx hb (kX11_sea (i := 7) rfl) rfl (lv_at hl 0 rfl) ?_
      refine gX11_waves C hM q_fX11_33 (kX11_sea (i := 8) rfl) ?_
      refine x_iload_n hx hb (kX11_sea (i := 9) rfl) rfl (lv_at hl 1 rfl) ?_
      obtain ⟨r_4, hc_5, h⟩ := bd_some h
      refine x_callV (n := 1) (As := [vi a0]) (rest := []) C hM (tX10_pushIn l Θ a0 h0 g r_4 hc_5) (x_recvX C hM 20 (by decide) (eX_20 Θ _) rfl rfl) q_c_X10_pushIn q_mX11_182 q_i_X10_pushIn q_e_X10_pushIn q_n_X10 (by decide +kernel) ⟨by decide, by decide⟩ rfl hl.1 rfl (Nat.le_of_ble_eq_true rfl) (kX11_sea (i := 10) rfl) (fun H locs hM => ?_)
      rw [← Option.some.inj h]
      exact x_iret C hM (nar_i _) (kX11_sea (i := 11) rfl)
    · have h := it_t c_3 h
      refine x_ldc (n := (-2147483648)) hx hb hown (hts _ q_kX11_158) (kX11_sea (i := 5) rfl) ?_
      rw [← Option.some.inj h]
      exact x_iret C hM (nar_i _) (kX11_sea (i := 6) rfl)
  exact key _ _ hM

/-! X11_set -/
def fX11_set (a0 : Int) (a1 : Int) (g : Mem) : Option (Int × Mem) :=
  jn (fun (_ : Unit) =>
    jn (fun (_ : Unit) =>
      jn (fun (_ : Unit) =>
        if wr a0 = 3 then (
          bd (fX11_within a1 0 9) fun r_2 =>
          if wr r_2 = 0 then (
            some (0, g)
          ) else (
            bnd (up g 0 17 a1) fun g_5 =>
            some (1, g_5)
          )
        ) else (
          some (0, g)
        )
      ) fun J65 =>
      if wr a0 = 2 then (
        bd (fX11_within a1 1 50) fun r_7 =>
        if wr r_7 = 0 then (
          J65 ()
        ) else (
          bnd (up g 0 16 a1) fun g_10 =>
          some (1, g_10)
        )
      ) else (
        J65 ()
      )
    ) fun J43 =>
    if wr a0 = 1 then (
      bd (fX11_within a1 0 50) fun r_12 =>
      if wr r_12 = 0 then (
        J43 ()
      ) else (
        bnd (up g 0 15 a1) fun g_15 =>
        some (1, g_15)
      )
    ) else (
      J43 ()
    )
  ) fun J21 =>
  if wr a0 = 0 then (
    bd (fX11_within a1 1 1000000) fun r_17 =>
    if wr r_17 = 0 then (
      J21 ()
    ) else (
      bnd (up g 0 14 a1) fun g_20 =>
      some (1, g_20)
    )
  ) else (
    J21 ()
  )
set_option maxRecDepth 100000 in
set_option maxHeartbeats 4000000 in
theorem tX11_set (l : Launch) (Θ : Th) (a0 : Int) (a1 : Int) (h0 g : Mem) (rv : Int) (gR : Mem) (h : fX11_set a0 a1 g = some (rv, gR)) : Ct l yX11_set cX11_set 3 (some .boolean) 1 22 Θ [.ref (Θ.2.2.1 0), vi a0, vi a1] g h0 gR h0 (some (vi rv)) := by
  refine x_start (by decide) (Nat.le_of_ble_eq_true rfl) ?_
  intro p e s m args below meth c ls C hM hl
  have hl : lv_has ls 3 [(0, .ref (Θ.2.2.1 0)), (1, vi a0), (2, vi a1)] := hl
  obtain ⟨hx, hb, hml, hown, hts, -⟩ := id C
  unfold fX11_set at h
  have key : ∀ (H : Heap) (locs : List Loc), Hd Θ s g h0 H locs → W p l e { frames := 1, cells := 0, slots := 0, locals := 22 } s m args below meth c H locs 0 0 (MQ below (Qx Θ s.heap.size gR h0 (some (vi rv))) args s 0 0 (AA Θ s.heap.size)) (F0 m 0 ls []) := by
    intro H locs hM
    refine x_iload_n hx hb (kX11_set (i := 0) rfl) rfl (lv_at hl 1 rfl) ?_
    refine jn_go h (fun J21 : Unit → Option (Int × Mem) => ∀ (H : Heap) (locs : List Loc) (ls : Array Slot), J21 () = some (rv, gR) → Hd Θ s g h0 H locs → lv_has ls 3 [(0, .ref (Θ.2.2.1 0)), (1, vi a0), (2, vi a1)] → W p l e { frames := 1, cells := 0, slots := 0, locals := 22 } s m args below meth c H locs 0 0 (MQ below (Qx Θ s.heap.size gR h0 (some (vi rv))) args s 0 0 (AA Θ s.heap.size)) (F0 m 21 ls [])) ?_ ?_
    · intro  H locs ls h hM hl
      refine x_iload_n hx hb (kX11_set (i := 12) rfl) rfl (lv_at hl 1 rfl) ?_
      refine x_iconst hx hb (kX11_set (i := 13) rfl) ?_
      refine jn_go h (fun J43 : Unit → Option (Int × Mem) => ∀ (H : Heap) (locs : List Loc) (ls : Array Slot), J43 () = some (rv, gR) → Hd Θ s g h0 H locs → lv_has ls 3 [(0, .ref (Θ.2.2.1 0)), (1, vi a0), (2, vi a1)] → W p l e { frames := 1, cells := 0, slots := 0, locals := 22 } s m args below meth c H locs 0 0 (MQ below (Qx Θ s.heap.size gR h0 (some (vi rv))) args s 0 0 (AA Θ s.heap.size)) (F0 m 43 ls [])) ?_ ?_
      · intro  H locs ls h hM hl
        refine x_iload_n hx hb (kX11_set (i := 25) rfl) rfl (lv_at hl 1 rfl) ?_
        refine x_iconst hx hb (kX11_set (i := 26) rfl) ?_
        refine jn_go h (fun J65 : Unit → Option (Int × Mem) => ∀ (H : Heap) (locs : List Loc) (ls : Array Slot), J65 () = some (rv, gR) → Hd Θ s g h0 H locs → lv_has ls 3 [(0, .ref (Θ.2.2.1 0)), (1, vi a0), (2, vi a1)] → W p l e { frames := 1, cells := 0, slots := 0, locals := 22 } s m args below meth c H locs 0 0 (MQ below (Qx Θ s.heap.size gR h0 (some (vi rv))) args s 0 0 (AA Θ s.heap.size)) (F0 m 65 ls [])) ?_ ?_
        · intro  H locs ls h hM hl
          refine x_iload_n hx hb (kX11_set (i := 38) rfl) rfl (lv_at hl 1 rfl) ?_
          refine x_iconst hx hb (kX11_set (i := 39) rfl) ?_
          refine x_icmp_ne (a' := wr a0) (b' := 3) hx hb rfl (by decide) (tgt := 87) (kX11_set (i := 40) rfl) (by decide) (fun c_1 => ?_) (fun c_1 => ?_)
          · have h := it_f c_1 h
            refine x_iconst hx hb (kX11_set (i := 51) rfl) ?_
            obtain ⟨q1, q2⟩ := ret2 h
            rw [q1, q2]
            exact x_iret C hM (nar_z (Or.inl rfl)) (kX11_set (i := 52) rfl)
          · have h := it_t c_1 h
            refine x_iload_n hx hb (kX11_set (i := 41) rfl) rfl (lv_at hl 2 rfl) ?_
            refine x_iconst hx hb (kX11_set (i := 42) rfl) ?_
            refine x_bipush hx hb (by decide) (kX11_set (i := 43) rfl) ?_
            obtain ⟨r_2, hc_3, h⟩ := bd_some h
            refine x_callS (n := 3) (As := [vi a1, vi 0, vi 9]) (rest := []) C hM (tX11_within l Θ a1 0 9 h0 g r_2 hc_3) q_c_X11_within q_mX11_109 q_s_X11_within q_n_X11 (by decide +kernel) ⟨by decide, by decide⟩ rfl hl.1 rfl (Nat.le_of_ble_eq_true rfl) (kX11_set (i := 44) rfl) (fun H locs hM => ?_)
            refine x_if_eq (a' := wr r_2) hx hb rfl (tgt := 87) (kX11_set (i := 45) rfl) (by decide) (fun c_4 => ?_) (fun c_4 => ?_)
            · have h := it_t c_4 h
              refine x_iconst hx hb (kX11_set (i := 51) rfl) ?_
              obtain ⟨q1, q2⟩ := ret2 h
              rw [q1, q2]
              exact x_iret C hM (nar_z (Or.inl rfl)) (kX11_set (i := 52) rfl)
            · have h := it_f c_4 h
              refine lv_aload_n hx hb (kX11_set (i := 46) rfl) rfl (lv_at hl 0 rfl) ?_
              refine x_iload_n hx hb (kX11_set (i := 47) rfl) rfl (lv_at hl 2 rfl) ?_
              obtain ⟨g_5, eg_5, h⟩ := bnd_some h
              refine pX11_fins C hM q_fX11_106 eg_5 (kX11_set (i := 48) rfl) (fun H locs hM => ?_)
              refine x_iconst hx hb (kX11_set (i := 49) rfl) ?_
              obtain ⟨q1, q2⟩ := ret2 h
              rw [q1, q2]
              exact x_iret C hM (nar_z (Or.inr rfl)) (kX11_set (i := 50) rfl)
        intro J65 hJ65 h
        refine x_icmp_ne (a' := wr a0) (b' := 2) hx hb rfl (by decide) (tgt := 65) (kX11_set (i := 27) rfl) (by decide) (fun c_6 => ?_) (fun c_6 => ?_)
        · have h := it_f c_6 h
          exact hJ65 H locs ls h hM (lv_sub hl [0, 1, 2] rfl)
        · have h := it_t c_6 h
          refine x_iload_n hx hb (kX11_set (i := 28) rfl) rfl (lv_at hl 2 rfl) ?_
          refine x_iconst hx hb (kX11_set (i := 29) rfl) ?_
          refine x_bipush hx hb (by decide) (kX11_set (i := 30) rfl) ?_
          obtain ⟨r_7, hc_8, h⟩ := bd_some h
          refine x_callS (n := 3) (As := [vi a1, vi 1, vi 50]) (rest := []) C hM (tX11_within l Θ a1 1 50 h0 g r_7 hc_8) q_c_X11_within q_mX11_109 q_s_X11_within q_n_X11 (by decide +kernel) ⟨by decide, by decide⟩ rfl hl.1 rfl (Nat.le_of_ble_eq_true rfl) (kX11_set (i := 31) rfl) (fun H locs hM => ?_)
          refine x_if_eq (a' := wr r_7) hx hb rfl (tgt := 65) (kX11_set (i := 32) rfl) (by decide) (fun c_9 => ?_) (fun c_9 => ?_)
          · have h := it_t c_9 h
            exact hJ65 H locs ls h hM (lv_sub hl [0, 1, 2] rfl)
          · have h := it_f c_9 h
            refine lv_aload_n hx hb (kX11_set (i := 33) rfl) rfl (lv_at hl 0 rfl) ?_
            refine x_iload_n hx hb (kX11_set (i := 34) rfl) rfl (lv_at hl 2 rfl) ?_
            obtain ⟨g_10, eg_10, h⟩ := bnd_some h
            refine pX11_inert C hM q_fX11_103 eg_10 (kX11_set (i := 35) rfl) (fun H locs hM => ?_)
            refine x_iconst hx hb (kX11_set (i := 36) rfl) ?_
            obtain ⟨q1, q2⟩ := ret2 h
            rw [q1, q2]
            exact x_iret C hM (nar_z (Or.inr rfl)) (kX11_set (i := 37) rfl)
      intro J43 hJ43 h
      refine x_icmp_ne (a' := wr a0) (b' := 1) hx hb rfl (by decide) (tgt := 43) (kX11_set (i := 14) rfl) (by decide) (fun c_11 => ?_) (fun c_11 => ?_)
      · have h := it_f c_11 h
        exact hJ43 H locs ls h hM (lv_sub hl [0, 1, 2] rfl)
      · have h := it_t c_11 h
        refine x_iload_n hx hb (kX11_set (i := 15) rfl) rfl (lv_at hl 2 rfl) ?_
        refine x_iconst hx hb (kX11_set (i := 16) rfl) ?_
        refine x_bipush hx hb (by decide) (kX11_set (i := 17) rfl) ?_
        obtain ⟨r_12, hc_13, h⟩ := bd_some h
        refine x_callS (n := 3) (As := [vi a1, vi 0, vi 50]) (rest := []) C hM (tX11_within l Θ a1 0 50 h0 g r_12 hc_13) q_c_X11_within q_mX11_109 q_s_X11_within q_n_X11 (by decide +kernel) ⟨by decide, by decide⟩ rfl hl.1 rfl (Nat.le_of_ble_eq_true rfl) (kX11_set (i := 18) rfl) (fun H locs hM => ?_)
        refine x_if_eq (a' := wr r_12) hx hb rfl (tgt := 43) (kX11_set (i := 19) rfl) (by decide) (fun c_14 => ?_) (fun c_14 => ?_)
        · have h := it_t c_14 h
          exact hJ43 H locs ls h hM (lv_sub hl [0, 1, 2] rfl)
        · have h := it_f c_14 h
          refine lv_aload_n hx hb (kX11_set (i := 20) rfl) rfl (lv_at hl 0 rfl) ?_
          refine x_iload_n hx hb (kX11_set (i := 21) rfl) rfl (lv_at hl 2 rfl) ?_
          obtain ⟨g_15, eg_15, h⟩ := bnd_some h
          refine pX11_slow C hM q_fX11_100 eg_15 (kX11_set (i := 22) rfl) (fun H locs hM => ?_)
          refine x_iconst hx hb (kX11_set (i := 23) rfl) ?_
          obtain ⟨q1, q2⟩ := ret2 h
          rw [q1, q2]
          exact x_iret C hM (nar_z (Or.inr rfl)) (kX11_set (i := 24) rfl)
    intro J21 hJ21 h
    refine x_if_ne (a' := wr a0) hx hb rfl (tgt := 21) (kX11_set (i := 1) rfl) (by decide) (fun c_16 => ?_) (fun c_16 => ?_)
    · have h := it_f c_16 h
      exact hJ21 H locs ls h hM (lv_sub hl [0, 1, 2] rfl)
    · have h := it_t c_16 h
      refine x_iload_n hx hb (kX11_set (i := 2) rfl) rfl (lv_at hl 2 rfl) ?_
      refine x_iconst hx hb (kX11_set (i := 3) rfl) ?_
      refine x_ldc (n := 1000000) hx hb hown (hts _ q_kX11_185) (kX11_set (i := 4) rfl) ?_
      obtain ⟨r_17, hc_18, h⟩ := bd_some h
      refine x_callS (n := 3) (As := [vi a1, vi 1, vi 1000000]) (rest := []) C hM (tX11_within l Θ a1 1 1000000 h0 g r_17 hc_18) q_c_X11_within q_mX11_109 q_s_X11_within q_n_X11 (by decide +kernel) ⟨by decide, by decide⟩ rfl hl.1 rfl (Nat.le_of_ble_eq_true rfl) (kX11_set (i := 5) rfl) (fun H locs hM => ?_)
      refine x_if_eq (a' := wr r_17) hx hb rfl (tgt := 21) (kX11_set (i := 6) rfl) (by decide) (fun c_19 => ?_) (fun c_19 => ?_)
      · have h := it_t c_19 h
        exact hJ21 H locs ls h hM (lv_sub hl [0, 1, 2] rfl)
      · have h := it_f c_19 h
        refine lv_aload_n hx hb (kX11_set (i := 7) rfl) rfl (lv_at hl 0 rfl) ?_
        refine x_iload_n hx hb (kX11_set (i := 8) rfl) rfl (lv_at hl 2 rfl) ?_
        obtain ⟨g_20, eg_20, h⟩ := bnd_some h
        refine pX11_stiff C hM q_fX11_96 eg_20 (kX11_set (i := 9) rfl) (fun H locs hM => ?_)
        refine x_iconst hx hb (kX11_set (i := 10) rfl) ?_
        obtain ⟨q1, q2⟩ := ret2 h
        rw [q1, q2]
        exact x_iret C hM (nar_z (Or.inr rfl)) (kX11_set (i := 11) rfl)
  exact key _ _ hM

/-! X11_clauseHolds -/
def fX11_clauseHolds (b : Nat) (a0 : Int) (g : Mem) : Option (Int × Mem) :=
  bnd ((g 0 12).toNat) fun r_1 => gc (r_1 = 47 ∨ r_1 = 52) <|
  bd (fX7_has r_1 a0 g) fun r_3 =>
  if wr r_3 = 0 then (
    some (1, g)
  ) else (
    gd 0 7 <|
    bnd (up g 46 (wr 0).toNat (g b 4)) fun g_7 =>
    gd 1 7 <|
    bnd (up g_7 46 (wr 1).toNat (g_7 b 5)) fun g_9 =>
    gd 2 7 <|
    bnd (up g_9 46 (wr 2).toNat (g_9 b 3)) fun g_11 =>
    gd 3 7 <|
    bnd (up g_11 46 (wr 3).toNat (g_11 b 7)) fun g_13 =>
    bd (fX10_pushIn (g_13 b 3) g_13) fun r_14 =>
    gd 4 7 <|
    bnd (up g_13 46 (wr 4).toNat r_14) fun g_17 =>
    bd (fJ6_bitCount_0f7a4 (g_17 b 9)) fun r_18 =>
    gd 5 7 <|
    bnd (up g_17 46 (wr 5).toNat r_18) fun g_21 =>
    bd (fX1_countMoved (b + 1) g_21) fun r_22 =>
    gd 6 7 <|
    bnd (up g_21 46 (wr 6).toNat r_22) fun g_25 =>
    bnd ((g_25 0 12).toNat) fun r_26 => gc (r_26 = 47 ∨ r_26 = 52) <|
    bd2 (fX7_isTrue r_26 a0 g_25) fun r_28 g_30 =>
    gc (r_28 = 0 ∨ r_28 = 1) <|
    some (r_28, g_30)
  )
set_option maxRecDepth 100000 in
set_option maxHeartbeats 4000000 in
theorem tX11_clauseHolds (l : Launch) (Θ : Th) (b : Nat) (hB : isB b) (a0 : Int) (h0 g : Mem) (rv : Int) (gR : Mem) (h : fX11_clauseHolds b a0 g = some (rv, gR)) : Ct l yX11_clauseHolds cX11_clauseHolds 3 (some .boolean) 2 48 Θ [.ref (Θ.2.2.1 0), vi a0, .ref (Θ.2.2.1 b)] g h0 gR h0 (some (vi rv)) := by
  refine x_start (by decide) (Nat.le_of_ble_eq_true rfl) ?_
  intro p e s m args below meth c ls C hM hl
  have hl : lv_has ls 3 [(0, .ref (Θ.2.2.1 0)), (1, vi a0), (2, .ref (Θ.2.2.1 b))] := hl
  obtain ⟨hx, hb, hml, hown, hts, -⟩ := id C
  unfold fX11_clauseHolds at h
  have key : ∀ (H : Heap) (locs : List Loc), Hd Θ s g h0 H locs → W p l e { frames := 2, cells := 0, slots := 0, locals := 48 } s m args below meth c H locs 0 0 (MQ below (Qx Θ s.heap.size gR h0 (some (vi rv))) args s 0 0 (AA Θ s.heap.size)) (F0 m 0 ls []) := by
    intro H locs hM
    refine lv_aload_n hx hb (kX11_clauseHolds (i := 0) rfl) rfl (lv_at hl 0 rfl) ?_
    refine gX11_active C hM q_fX11_89 (kX11_clauseHolds (i := 1) rfl) ?_
    obtain ⟨r_1, er_1, h⟩ := bnd_some h
    obtain ⟨hr_2, h⟩ := gc_some h
    rw [← er_1]
    refine x_iload_n hx hb (kX11_clauseHolds (i := 2) rfl) rfl (lv_at hl 1 rfl) ?_
    obtain ⟨r_3, hc_4, h⟩ := bd_some h
    refine x_callV (n := 1) (As := [vi a0]) (rest := []) C hM (tX7_has l Θ r_1 hr_2 a0 h0 g r_3 hc_4) (x_recvX C hM r_1 (isR_lt hr_2) (eX_isR hr_2 _) rfl rfl) q_c_X7_has q_mX11_345 q_i_X7_has q_e_X7_has q_n_X7 (by decide +kernel) ⟨by decide, by decide⟩ rfl hl.1 rfl (Nat.le_of_ble_eq_true rfl) (kX11_clauseHolds (i := 3) rfl) (fun H locs hM => ?_)
    refine x_if_ne (a' := wr r_3) hx hb rfl (tgt := 13) (kX11_clauseHolds (i := 4) rfl) (by decide) (fun c_5 => ?_) (fun c_5 => ?_)
    · have h := it_f c_5 h
      refine lv_aload_n hx hb (kX11_clauseHolds (i := 7) rfl) rfl (lv_at hl 0 rfl) ?_
      refine gX11_names C hM q_fX11_84 (kX11_clauseHolds (i := 8) rfl) ?_
      refine x_iconst hx hb (kX11_clauseHolds (i := 9) rfl) ?_
      refine lv_aload_n hx hb (kX11_clauseHolds (i := 10) rfl) rfl (lv_at hl 2 rfl) ?_
      refine gX0_slope b hB C hM q_fX11_309 (kX11_clauseHolds (i := 11) rfl) ?_
      obtain ⟨hi_6, h⟩ := gd_some h
      obtain ⟨g_7, eg_7, h⟩ := bnd_some h
      refine x_iastX C hM 46 (by decide) (eX_46 Θ) hi_6 eg_7 (kX11_clauseHolds (i := 12) rfl) (fun H locs hM => ?_)
      refine lv_aload_n hx hb (kX11_clauseHolds (i := 13) rfl) rfl (lv_at hl 0 rfl) ?_
      refine gX11_names C hM q_fX11_84 (kX11_clauseHolds (i := 14) rfl) ?_
      refine x_iconst hx hb (kX11_clauseHolds (i := 15) rfl) ?_
      refine lv_aload_n hx hb (kX11_clauseHolds (i := 16) rfl) rfl (lv_at hl 2 rfl) ?_
      refine gX0_speed b hB C hM q_fX11_338 (kX11_clauseHolds (i := 17) rfl) ?_
      obtain ⟨hi_8, h⟩ := gd_some h
      obtain ⟨g_9, eg_9, h⟩ := bnd_some h
      refine x_iastX C hM 46 (by decide) (eX_46 Θ) hi_8 eg_9 (kX11_clauseHolds (i := 18) rfl) (fun H locs hM => ?_)
      refine lv_aload_n hx hb (kX11_clauseHolds (i := 19) rfl) rfl (lv_at hl 0 rfl) ?_
      refine gX11_names C hM q_fX11_84 (kX11_clauseHolds (i := 20) rfl) ?_
      refine x_iconst hx hb (kX11_clauseHolds (i := 21) rfl) ?_
      refine lv_aload_n hx hb (kX11_clauseHolds (i := 22) rfl) rfl (lv_at hl 2 rfl) ?_
      refine gX0_now b hB C hM q_fX11_186 (kX11_clauseHolds (i := 23) rfl) ?_
      obtain ⟨hi_10, h⟩ := gd_some h
      obtain ⟨g_11, eg_11, h⟩ := bnd_some h
      refine x_iastX C hM 46 (by decide) (eX_46 Θ) hi_10 eg_11 (kX11_clauseHolds (i := 24) rfl) (fun H locs hM => ?_)
      refine lv_aload_n hx hb (kX11_clauseHolds (i := 25) rfl) rfl (lv_at hl 0 rfl) ?_
      refine gX11_names C hM q_fX11_84 (kX11_clauseHolds (i := 26) rfl) ?_
      refine x_iconst hx hb (kX11_clauseHolds (i := 27) rfl) ?_
      refine lv_aload_n hx hb (kX11_clauseHolds (i := 28) rfl) rfl (lv_at hl 2 rfl) ?_
      refine gX0_sick b hB C hM q_fX11_227 (kX11_clauseHolds (i := 29) rfl) ?_
      obtain ⟨hi_12, h⟩ := gd_some h
      obtain ⟨g_13, eg_13, h⟩ := bnd_some h
      refine x_iastX C hM 46 (by decide) (eX_46 Θ) hi_12 eg_13 (kX11_clauseHolds (i := 30) rfl) (fun H locs hM => ?_)
      refine lv_aload_n hx hb (kX11_clauseHolds (i := 31) rfl) rfl (lv_at hl 0 rfl) ?_
      refine gX11_names C hM q_fX11_84 (kX11_clauseHolds (i := 32) rfl) ?_
      refine x_iconst hx hb (kX11_clauseHolds (i := 33) rfl) ?_
      refine lv_aload_n hx hb (kX11_clauseHolds (i := 34) rfl) rfl (lv_at hl 0 rfl) ?_
      refine gX11_waves C hM q_fX11_33 (kX11_clauseHolds (i := 35) rfl) ?_
      refine lv_aload_n hx hb (kX11_clauseHolds (i := 36) rfl) rfl (lv_at hl 2 rfl) ?_
      refine gX0_now b hB C hM q_fX11_186 (kX11_clauseHolds (i := 37) rfl) ?_
      obtain ⟨r_14, hc_15, h⟩ := bd_some h
      refine x_callV (n := 1) (As := [vi (g_13 b 3)]) (rest := [vi 4, .ref (Θ.2.2.1 46)]) C hM (tX10_pushIn l Θ (g_13 b 3) h0 g_13 r_14 hc_15) (x_recvX C hM 20 (by decide) (eX_20 Θ _) rfl rfl) q_c_X10_pushIn q_mX11_182 q_i_X10_pushIn q_e_X10_pushIn q_n_X10 (by decide +kernel) ⟨by decide, by decide⟩ rfl hl.1 rfl (Nat.le_of_ble_eq_true rfl) (kX11_clauseHolds (i := 38) rfl) (fun H locs hM => ?_)
      obtain ⟨hi_16, h⟩ := gd_some h
      obtain ⟨g_17, eg_17, h⟩ := bnd_some h
      refine x_iastX C hM 46 (by decide) (eX_46 Θ) hi_16 eg_17 (kX11_clauseHolds (i := 39) rfl) (fun H locs hM => ?_)
      refine lv_aload_n hx hb (kX11_clauseHolds (i := 40) rfl) rfl (lv_at hl 0 rfl) ?_
      refine gX11_names C hM q_fX11_84 (kX11_clauseHolds (i := 41) rfl) ?_
      refine x_iconst hx hb (kX11_clauseHolds (i := 42) rfl) ?_
      refine lv_aload_n hx hb (kX11_clauseHolds (i := 43) rfl) rfl (lv_at hl 2 rfl) ?_
      refine gX0_wet b hB C hM q_fX11_348 (kX11_clauseHolds (i := 44) rfl) ?_
      obtain ⟨r_18, hc_19, h⟩ := bd_some h
      refine x_callS (n := 1) (As := [vi (g_17 b 9)]) (rest := [vi 5, .ref (Θ.2.2.1 46)]) C hM (tJ6_bitCount_0f7a4 l Θ (g_17 b 9) g_17 h0 r_18 hc_19) q_c_J6_bitCount_0f7a4 q_mX11_351 q_s_J6_bitCount_0f7a4 q_n_J6 (by decide +kernel) ⟨by decide, by decide⟩ rfl hl.1 rfl (Nat.le_of_ble_eq_true rfl) (kX11_clauseHolds (i := 45) rfl) (fun H locs hM => ?_)
      obtain ⟨hi_20, h⟩ := gd_some h
      obtain ⟨g_21, eg_21, h⟩ := bnd_some h
      refine x_iastX C hM 46 (by decide) (eX_46 Θ) hi_20 eg_21 (kX11_clauseHolds (i := 46) rfl) (fun H locs hM => ?_)
      refine lv_aload_n hx hb (kX11_clauseHolds (i := 47) rfl) rfl (lv_at hl 0 rfl) ?_
      refine gX11_names C hM q_fX11_84 (kX11_clauseHolds (i := 48) rfl) ?_
      refine x_bipush hx hb (by decide) (kX11_clauseHolds (i := 49) rfl) ?_
      refine lv_aload_n hx hb (kX11_clauseHolds (i := 50) rfl) rfl (lv_at hl 0 rfl) ?_
      refine gX11_cargo C hM q_fX11_19 (kX11_clauseHolds (i := 51) rfl) ?_
      refine lv_aload_n hx hb (kX11_clauseHolds (i := 52) rfl) rfl (lv_at hl 2 rfl) ?_
      refine gX0_places b hB C hM q_fX11_169 (kX11_clauseHolds (i := 53) rfl) ?_
      obtain ⟨r_22, hc_23, h⟩ := bd_some h
      refine x_callV (n := 1) (As := [.ref (Θ.2.2.1 (b + 1))]) (rest := [vi 6, .ref (Θ.2.2.1 46)]) C hM (tX1_countMoved l Θ (b + 1) (isB_P hB) h0 g_21 r_22 hc_23) (x_recvX C hM 8 (by decide) (eX_8 Θ _) rfl rfl) q_c_X1_countMoved q_mX11_356 q_i_X1_countMoved q_e_X1_countMoved q_n_X1 (by decide +kernel) ⟨by decide, by decide⟩ rfl hl.1 rfl (Nat.le_of_ble_eq_true rfl) (kX11_clauseHolds (i := 54) rfl) (fun H locs hM => ?_)
      obtain ⟨hi_24, h⟩ := gd_some h
      obtain ⟨g_25, eg_25, h⟩ := bnd_some h
      refine x_iastX C hM 46 (by decide) (eX_46 Θ) hi_24 eg_25 (kX11_clauseHolds (i := 55) rfl) (fun H locs hM => ?_)
      refine lv_aload_n hx hb (kX11_clauseHolds (i := 56) rfl) rfl (lv_at hl 0 rfl) ?_
      refine gX11_active C hM q_fX11_89 (kX11_clauseHolds (i := 57) rfl) ?_
      obtain ⟨r_26, er_26, h⟩ := bnd_some h
      obtain ⟨hr_27, h⟩ := gc_some h
      rw [← er_26]
      refine x_iload_n hx hb (kX11_clauseHolds (i := 58) rfl) rfl (lv_at hl 1 rfl) ?_
      refine lv_aload_n hx hb (kX11_clauseHolds (i := 59) rfl) rfl (lv_at hl 0 rfl) ?_
      refine gX11_names C hM q_fX11_84 (kX11_clauseHolds (i := 60) rfl) ?_
      obtain ⟨r_28, g_30, hc_29, h⟩ := bd2_some h
      refine x_callV (n := 2) (As := [vi a0, .ref (Θ.2.2.1 46)]) (rest := []) C hM (tX7_isTrue l Θ r_26 hr_27 a0 h0 g_25 r_28 g_30 hc_29) (x_recvX C hM r_26 (isR_lt hr_27) (eX_isR hr_27 _) rfl rfl) q_c_X7_isTrue q_mX11_360 q_i_X7_isTrue q_e_X7_isTrue q_n_X7 (by decide +kernel) ⟨by decide, by decide⟩ rfl hl.1 rfl (Nat.le_of_ble_eq_true rfl) (kX11_clauseHolds (i := 61) rfl) (fun H locs hM => ?_)
      obtain ⟨hz_31, h⟩ := gc_some h
      obtain ⟨q1, q2⟩ := ret2 h
      rw [q1, q2]
      exact x_iret C hM (nar_z hz_31) (kX11_clauseHolds (i := 62) rfl)
    · have h := it_t c_5 h
      refine x_iconst hx hb (kX11_clauseHolds (i := 5) rfl) ?_
      obtain ⟨q1, q2⟩ := ret2 h
      rw [q1, q2]
      exact x_iret C hM (nar_z (Or.inr rfl)) (kX11_clauseHolds (i := 6) rfl)
  exact key _ _ hM

/-! X11_pushOn -/
def fX11_pushOn (b : Nat) (a1 : Int) (g : Mem) : Option (Mem) :=
  bd (fX11_armAt (b + 1) (g b 4) g) fun r_1 =>
  bd (fX11_cut r_1 (g 0 14)) fun r_3 =>
  gd 0 4 <|
  bnd (up g (b + 3) (wr 0).toNat (-r_3)) fun g_6 =>
  bd (fX10_pushIn (g_6 b 3) g_6) fun r_7 =>
  gd 1 4 <|
  bnd (up g_6 (b + 3) (wr 1).toNat r_7) fun g_10 =>
  bd (fX11_cut ((g_10 b 5) * (g_10 0 15)) 10) fun r_11 =>
  gd 2 4 <|
  bnd (up g_10 (b + 3) (wr 2).toNat (-r_11)) fun g_14 =>
  bd2 (fX11_clauseHolds b 1 g_14) fun r_15 g_17 =>
  jn (fun (v_18 : Int) =>
    gd 3 4 <|
    bnd (up g_17 (b + 3) (wr 3).toNat v_18) fun g_20 =>
    gd 0 4 <|
    gd 1 4 <|
    gd 2 4 <|
    gd 3 4 <|
    bd (fX11_bring ((((wr (g_20 (b + 3) (wr 0).toNat)) + (wr (g_20 (b + 3) (wr 1).toNat))) + (wr (g_20 (b + 3) (wr 2).toNat))) + (wr (g_20 (b + 3) (wr 3).toNat))) 1000) fun r_25 =>
    bnd (up g_20 b 6 r_25) fun g_27 =>
    some g_27
  ) fun J86 =>
  if wr r_15 = 0 then (
    J86 0
  ) else (
    bd (fX11_cut ((g_17 b 5) * a1) 4) fun r_29 =>
    J86 (-r_29)
  )
set_option maxRecDepth 100000 in
set_option maxHeartbeats 4000000 in
theorem tX11_pushOn (l : Launch) (Θ : Th) (b : Nat) (hB : isB b) (a1 : Int) (h0 g : Mem) (gR : Mem) (h : fX11_pushOn b a1 g = some gR) : Ct l yX11_pushOn cX11_pushOn 4 none 3 70 Θ [.ref (Θ.2.2.1 0), .ref (Θ.2.2.1 b), vi a1] g h0 gR h0 none := by
  refine x_start (by decide) (Nat.le_of_ble_eq_true rfl) ?_
  intro p e s m args below meth c ls C hM hl
  have hl : lv_has ls 4 [(0, .ref (Θ.2.2.1 0)), (1, .ref (Θ.2.2.1 b)), (2, vi a1)] := hl
  obtain ⟨hx, hb, hml, hown, hts, -⟩ := id C
  unfold fX11_pushOn at h
  have key : ∀ (H : Heap) (locs : List Loc), Hd Θ s g h0 H locs → W p l e { frames := 3, cells := 0, slots := 0, locals := 70 } s m args below meth c H locs 0 0 (MQ below (Qx Θ s.heap.size gR h0 none) args s 0 0 (AA Θ s.heap.size)) (F0 m 0 ls []) := by
    intro H locs hM
    refine lv_aload_n hx hb (kX11_pushOn (i := 0) rfl) rfl (lv_at hl 1 rfl) ?_
    refine gX0_parts b hB C hM q_fX11_204 (kX11_pushOn (i := 1) rfl) ?_
    refine lv_astore_n (lv' := [(3, .ref (Θ.2.2.1 (b + 3))), (0, .ref (Θ.2.2.1 0)), (1, .ref (Θ.2.2.1 b)), (2, vi a1)]) hx hb (kX11_pushOn (i := 2) rfl) rfl hl (by decide) rfl (fun ls hl => ?_)
    refine lv_aload_n hx hb (kX11_pushOn (i := 3) rfl) rfl (lv_at hl 0 rfl) ?_
    refine x_iconst hx hb (kX11_pushOn (i := 4) rfl) ?_
    refine lv_aload_n hx hb (kX11_pushOn (i := 5) rfl) rfl (lv_at hl 1 rfl) ?_
    refine lv_aload_n hx hb (kX11_pushOn (i := 6) rfl) rfl (lv_at hl 2 rfl) ?_
    refine gX0_slope b hB C hM q_fX11_309 (kX11_pushOn (i := 7) rfl) ?_
    refine lv_aload_n hx hb (kX11_pushOn (i := 8) rfl) rfl (lv_at hl 2 rfl) ?_
    refine gX0_places b hB C hM q_fX11_169 (kX11_pushOn (i := 9) rfl) ?_
    obtain ⟨r_1, hc_2, h⟩ := bd_some h
    refine x_callV (n := 2) (As := [vi (g b 4), .ref (Θ.2.2.1 (b + 1))]) (rest := [vi 0, .ref (Θ.2.2.1 (b + 3))]) C hM (tX11_armAt l Θ (b + 1) (isB_P hB) (g b 4) h0 g r_1 hc_2) (x_recvX C hM 0 (by decide) (eX_0 Θ _) rfl rfl) q_c_X11_armAt q_mX11_172 q_i_X11_armAt q_e_X11_armAt q_n_X11 (by decide +kernel) ⟨by decide, by decide⟩ rfl hl.1 rfl (Nat.le_of_ble_eq_true rfl) (kX11_pushOn (i := 10) rfl) (fun H locs hM => ?_)
    refine lv_aload_n hx hb (kX11_pushOn (i := 11) rfl) rfl (lv_at hl 1 rfl) ?_
    refine gX11_stiff C hM q_fX11_96 (kX11_pushOn (i := 12) rfl) ?_
    obtain ⟨r_3, hc_4, h⟩ := bd_some h
    refine x_callS (n := 2) (As := [vi r_1, vi (g 0 14)]) (rest := [vi 0, .ref (Θ.2.2.1 (b + 3))]) C hM (tX11_cut l Θ r_1 (g 0 14) h0 g r_3 hc_4) q_c_X11_cut q_mX11_335 q_s_X11_cut q_n_X11 (by decide +kernel) ⟨by decide, by decide⟩ rfl hl.1 rfl (Nat.le_of_ble_eq_true rfl) (kX11_pushOn (i := 13) rfl) (fun H locs hM => ?_)
    refine x_ineg hx hb (kX11_pushOn (i := 14) rfl) ?_
    obtain ⟨hi_5, h⟩ := gd_some h
    obtain ⟨g_6, eg_6, h⟩ := bnd_some h
    refine x_iastX C hM (b + 3) (isB_parts hB) (eX_isB_parts hB) hi_5 eg_6 (kX11_pushOn (i := 15) rfl) (fun H locs hM => ?_)
    refine lv_aload_n hx hb (kX11_pushOn (i := 16) rfl) rfl (lv_at hl 0 rfl) ?_
    refine x_iconst hx hb (kX11_pushOn (i := 17) rfl) ?_
    refine lv_aload_n hx hb (kX11_pushOn (i := 18) rfl) rfl (lv_at hl 1 rfl) ?_
    refine gX11_waves C hM q_fX11_33 (kX11_pushOn (i := 19) rfl) ?_
    refine lv_aload_n hx hb (kX11_pushOn (i := 20) rfl) rfl (lv_at hl 2 rfl) ?_
    refine gX0_now b hB C hM q_fX11_186 (kX11_pushOn (i := 21) rfl) ?_
    obtain ⟨r_7, hc_8, h⟩ := bd_some h
    refine x_callV (n := 1) (As := [vi (g_6 b 3)]) (rest := [vi 1, .ref (Θ.2.2.1 (b + 3))]) C hM (tX10_pushIn l Θ (g_6 b 3) h0 g_6 r_7 hc_8) (x_recvX C hM 20 (by decide) (eX_20 Θ _) rfl rfl) q_c_X10_pushIn q_mX11_182 q_i_X10_pushIn q_e_X10_pushIn q_n_X10 (by decide +kernel) ⟨by decide, by decide⟩ rfl hl.1 rfl (Nat.le_of_ble_eq_true rfl) (kX11_pushOn (i := 22) rfl) (fun H locs hM => ?_)
    obtain ⟨hi_9, h⟩ := gd_some h
    obtain ⟨g_10, eg_10, h⟩ := bnd_some h
    refine x_iastX C hM (b + 3) (isB_parts hB) (eX_isB_parts hB) hi_9 eg_10 (kX11_pushOn (i := 23) rfl) (fun H locs hM => ?_)
    refine lv_aload_n hx hb (kX11_pushOn (i := 24) rfl) rfl (lv_at hl 0 rfl) ?_
    refine x_iconst hx hb (kX11_pushOn (i := 25) rfl) ?_
    refine lv_aload_n hx hb (kX11_pushOn (i := 26) rfl) rfl (lv_at hl 2 rfl) ?_
    refine gX0_speed b hB C hM q_fX11_338 (kX11_pushOn (i := 27) rfl) ?_
    refine lv_aload_n hx hb (kX11_pushOn (i := 28) rfl) rfl (lv_at hl 1 rfl) ?_
    refine gX11_slow C hM q_fX11_100 (kX11_pushOn (i := 29) rfl) ?_
    refine x_imul hx hb (kX11_pushOn (i := 30) rfl) ?_
    refine x_bipush hx hb (by decide) (kX11_pushOn (i := 31) rfl) ?_
    obtain ⟨r_11, hc_12, h⟩ := bd_some h
    refine x_callS (n := 2) (As := [vi ((g_10 b 5) * (g_10 0 15)), vi 10]) (rest := [vi 2, .ref (Θ.2.2.1 (b + 3))]) C hM (tX11_cut l Θ ((g_10 b 5) * (g_10 0 15)) 10 h0 g_10 r_11 hc_12) q_c_X11_cut q_mX11_335 q_s_X11_cut q_n_X11 (by decide +kernel) ⟨by decide, by decide⟩ rfl hl.1 rfl (Nat.le_of_ble_eq_true rfl) (kX11_pushOn (i := 32) rfl) (fun H locs hM => ?_)
    refine x_ineg hx hb (kX11_pushOn (i := 33) rfl) ?_
    obtain ⟨hi_13, h⟩ := gd_some h
    obtain ⟨g_14, eg_14, h⟩ := bnd_some h
    refine x_iastX C hM (b + 3) (isB_parts hB) (eX_isB_parts hB) hi_13 eg_14 (kX11_pushOn (i := 34) rfl) (fun H locs hM => ?_)
    refine lv_aload_n hx hb (kX11_pushOn (i := 35) rfl) rfl (lv_at hl 0 rfl) ?_
    refine x_iconst hx hb (kX11_pushOn (i := 36) rfl) ?_
    refine lv_aload_n hx hb (kX11_pushOn (i := 37) rfl) rfl (lv_at hl 1 rfl) ?_
    refine x_iconst hx hb (kX11_pushOn (i := 38) rfl) ?_
    refine lv_aload_n hx hb (kX11_pushOn (i := 39) rfl) rfl (lv_at hl 2 rfl) ?_
    obtain ⟨r_15, g_17, hc_16, h⟩ := bd2_some h
    refine x_callV (n := 2) (As := [vi 1, .ref (Θ.2.2.1 b)]) (rest := [vi 3, .ref (Θ.2.2.1 (b + 3))]) C hM (tX11_clauseHolds l Θ b hB 1 h0 g_14 r_15 g_17 hc_16) (x_recvX C hM 0 (by decide) (eX_0 Θ _) rfl rfl) q_c_X11_clauseHolds q_mX11_220 q_i_X11_clauseHolds q_e_X11_clauseHolds q_n_X11 (by decide +kernel) ⟨by decide, by decide⟩ rfl hl.1 rfl (Nat.le_of_ble_eq_true rfl) (kX11_pushOn (i := 40) rfl) (fun H locs hM => ?_)
    refine jn_go h (fun J86 : Int → Option (Mem) => ∀ (v_18 : Int) (H : Heap) (locs : List Loc) (ls : Array Slot), J86 v_18 = some gR → Hd Θ s g_17 h0 H locs → lv_has ls 4 [(1, .ref (Θ.2.2.1 b)), (3, .ref (Θ.2.2.1 (b + 3)))] → W p l e { frames := 3, cells := 0, slots := 0, locals := 70 } s m args below meth c H locs 0 0 (MQ below (Qx Θ s.heap.size gR h0 none) args s 0 0 (AA Θ s.heap.size)) (F0 m 86 ls [vi v_18, vi 3, .ref (Θ.2.2.1 (b + 3))])) ?_ ?_
    · intro v_18 H locs ls h hM hl
      obtain ⟨hi_19, h⟩ := gd_some h
      obtain ⟨g_20, eg_20, h⟩ := bnd_some h
      refine x_iastX C hM (b + 3) (isB_parts hB) (eX_isB_parts hB) hi_19 eg_20 (kX11_pushOn (i := 51) rfl) (fun H locs hM => ?_)
      refine lv_aload_n hx hb (kX11_pushOn (i := 52) rfl) rfl (lv_at hl 0 rfl) ?_
      refine lv_aload_n hx hb (kX11_pushOn (i := 53) rfl) rfl (lv_at hl 1 rfl) ?_
      refine x_iconst hx hb (kX11_pushOn (i := 54) rfl) ?_
      obtain ⟨hi_21, h⟩ := gd_some h
      refine x_ialdX C hM (b + 3) (isB_parts hB) (eX_isB_parts hB) hi_21 (kX11_pushOn (i := 55) rfl) ?_
      refine x_i2l (a' := wr (g_20 (b + 3) (wr 0).toNat)) hx hb rfl (kX11_pushOn (i := 56) rfl) ?_
      refine lv_aload_n hx hb (kX11_pushOn (i := 57) rfl) rfl (lv_at hl 1 rfl) ?_
      refine x_iconst hx hb (kX11_pushOn (i := 58) rfl) ?_
      obtain ⟨hi_22, h⟩ := gd_some h
      refine x_ialdX C hM (b + 3) (isB_parts hB) (eX_isB_parts hB) hi_22 (kX11_pushOn (i := 59) rfl) ?_
      refine x_i2l (a' := wr (g_20 (b + 3) (wr 1).toNat)) hx hb rfl (kX11_pushOn (i := 60) rfl) ?_
      refine x_ladd hx hb (kX11_pushOn (i := 61) rfl) ?_
      refine lv_aload_n hx hb (kX11_pushOn (i := 62) rfl) rfl (lv_at hl 1 rfl) ?_
      refine x_iconst hx hb (kX11_pushOn (i := 63) rfl) ?_
      obtain ⟨hi_23, h⟩ := gd_some h
      refine x_ialdX C hM (b + 3) (isB_parts hB) (eX_isB_parts hB) hi_23 (kX11_pushOn (i := 64) rfl) ?_
      refine x_i2l (a' := wr (g_20 (b + 3) (wr 2).toNat)) hx hb rfl (kX11_pushOn (i := 65) rfl) ?_
      refine x_ladd hx hb (kX11_pushOn (i := 66) rfl) ?_
      refine lv_aload_n hx hb (kX11_pushOn (i := 67) rfl) rfl (lv_at hl 1 rfl) ?_
      refine x_iconst hx hb (kX11_pushOn (i := 68) rfl) ?_
      obtain ⟨hi_24, h⟩ := gd_some h
      refine x_ialdX C hM (b + 3) (isB_parts hB) (eX_isB_parts hB) hi_24 (kX11_pushOn (i := 69) rfl) ?_
      refine x_i2l (a' := wr (g_20 (b + 3) (wr 3).toNat)) hx hb rfl (kX11_pushOn (i := 70) rfl) ?_
      refine x_ladd hx hb (kX11_pushOn (i := 71) rfl) ?_
      refine x_sipush hx hb (by decide) (kX11_pushOn (i := 72) rfl) ?_
      obtain ⟨r_25, hc_26, h⟩ := bd_some h
      refine x_callS (n := 2) (As := [vl ((((wr (g_20 (b + 3) (wr 0).toNat)) + (wr (g_20 (b + 3) (wr 1).toNat))) + (wr (g_20 (b + 3) (wr 2).toNat))) + (wr (g_20 (b + 3) (wr 3).toNat))), vi 1000]) (rest := [.ref (Θ.2.2.1 b)]) C hM (tX11_bring l Θ ((((wr (g_20 (b + 3) (wr 0).toNat)) + (wr (g_20 (b + 3) (wr 1).toNat))) + (wr (g_20 (b + 3) (wr 2).toNat))) + (wr (g_20 (b + 3) (wr 3).toNat))) 1000 h0 g_20 r_25 hc_26) q_c_X11_bring q_mX11_341 q_s_X11_bring q_n_X11 (by decide +kernel) ⟨by decide, by decide⟩ rfl hl.1 rfl (Nat.le_of_ble_eq_true rfl) (kX11_pushOn (i := 73) rfl) (fun H locs hM => ?_)
      obtain ⟨g_27, eg_27, h⟩ := bnd_some h
      refine pX0_force b hB C hM q_fX11_315 eg_27 (kX11_pushOn (i := 74) rfl) (fun H locs hM => ?_)
      rw [← Option.some.inj h]
      exact x_vret C hM (kX11_pushOn (i := 75) rfl)
    intro J86 hJ86 h
    refine x_if_eq (a' := wr r_15) hx hb rfl (tgt := 85) (kX11_pushOn (i := 41) rfl) (by decide) (fun c_28 => ?_) (fun c_28 => ?_)
    · have h := it_t c_28 h
      refine x_iconst hx hb (kX11_pushOn (i := 50) rfl) ?_
      exact hJ86 0 H locs ls h hM (lv_sub hl [2, 0] rfl)
    · have h := it_f c_28 h
      refine lv_aload_n hx hb (kX11_pushOn (i := 42) rfl) rfl (lv_at hl 2 rfl) ?_
      refine gX0_speed b hB C hM q_fX11_338 (kX11_pushOn (i := 43) rfl) ?_
      refine x_iload_n hx hb (kX11_pushOn (i := 44) rfl) rfl (lv_at hl 3 rfl) ?_
      refine x_imul hx hb (kX11_pushOn (i := 45) rfl) ?_
      refine x_iconst hx hb (kX11_pushOn (i := 46) rfl) ?_
      obtain ⟨r_29, hc_30, h⟩ := bd_some h
      refine x_callS (n := 2) (As := [vi ((g_17 b 5) * a1), vi 4]) (rest := [vi 3, .ref (Θ.2.2.1 (b + 3))]) C hM (tX11_cut l Θ ((g_17 b 5) * a1) 4 h0 g_17 r_29 hc_30) q_c_X11_cut q_mX11_335 q_s_X11_cut q_n_X11 (by decide +kernel) ⟨by decide, by decide⟩ rfl hl.1 rfl (Nat.le_of_ble_eq_true rfl) (kX11_pushOn (i := 47) rfl) (fun H locs hM => ?_)
      refine x_ineg hx hb (kX11_pushOn (i := 48) rfl) ?_
      refine lv_goto (tgt := 86) hx hb (kX11_pushOn (i := 49) rfl) (by decide) ?_
      exact hJ86 (-r_29) H locs ls h hM (lv_sub hl [2, 0] rfl)
  exact key _ _ hM

/-! X11_sway -/
def fX11_sway (b : Nat) (a1 : Int) (g : Mem) : Option (Mem) :=
  bnd (up g b 6 0) fun g_1 =>
  bd (fX1_slide (b + 1) (g_1 b 4) g_1) fun g_4 =>
  bd (fX3_floats g_4) fun r_5 =>
  jn (fun (g_7 : Mem) =>
    bnd (up g_7 b 3 ((g_7 b 3) + 1)) fun g_8 =>
    some g_8
  ) fun J116 =>
  if wr r_5 = 0 then (
    bnd (up g_4 b 10 1) fun g_10 =>
    J116 g_10
  ) else (
    bd (fX3_settle (g_4 b 4) g_4) fun g_13 =>
    bd (fX11_pushOn b a1 g_13) fun g_16 =>
    bd (fX0_turn b (g_16 0 16) g_16) fun g_19 =>
    bd (fX0_sicken b g_19) fun g_22 =>
    bd2 (fX11_clauseHolds b 0 g_22) fun r_23 g_25 =>
    jn (fun (g_26 : Mem) =>
      bd (fX3_settle (g_26 b 4) g_26) fun g_29 =>
      bd (fX3_levelAt (g_29 b 4) g_29) fun r_30 =>
      bd (fX0_wash b r_30 g_29) fun g_34 =>
      J116 g_34
    ) fun J78 =>
    if wr r_23 = 0 then (
      J78 g_25
    ) else (
      bnd (up g_25 b 8 ((g_25 b 8) + 1)) fun g_36 =>
      J78 g_36
    )
  )
set_option maxRecDepth 100000 in
set_option maxHeartbeats 4000000 in
theorem tX11_sway (l : Launch) (Θ : Th) (b : Nat) (hB : isB b) (a1 : Int) (h0 g : Mem) (gR : Mem) (h : fX11_sway b a1 g = some gR) : Ct l yX11_sway cX11_sway 3 none 4 99 Θ [.ref (Θ.2.2.1 0), .ref (Θ.2.2.1 b), vi a1] g h0 gR h0 none := by
  refine x_start (by decide) (Nat.le_of_ble_eq_true rfl) ?_
  intro p e s m args below meth c ls C hM hl
  have hl : lv_has ls 3 [(0, .ref (Θ.2.2.1 0)), (1, .ref (Θ.2.2.1 b)), (2, vi a1)] := hl
  obtain ⟨hx, hb, hml, hown, hts, -⟩ := id C
  unfold fX11_sway at h
  have key : ∀ (H : Heap) (locs : List Loc), Hd Θ s g h0 H locs → W p l e { frames := 4, cells := 0, slots := 0, locals := 99 } s m args below meth c H locs 0 0 (MQ below (Qx Θ s.heap.size gR h0 none) args s 0 0 (AA Θ s.heap.size)) (F0 m 0 ls []) := by
    intro H locs hM
    refine lv_aload_n hx hb (kX11_sway (i := 0) rfl) rfl (lv_at hl 1 rfl) ?_
    refine x_iconst hx hb (kX11_sway (i := 1) rfl) ?_
    obtain ⟨g_1, eg_1, h⟩ := bnd_some h
    refine pX0_force b hB C hM q_fX11_315 eg_1 (kX11_sway (i := 2) rfl) (fun H locs hM => ?_)
    refine lv_aload_n hx hb (kX11_sway (i := 3) rfl) rfl (lv_at hl 0 rfl) ?_
    refine gX11_cargo C hM q_fX11_19 (kX11_sway (i := 4) rfl) ?_
    refine lv_aload_n hx hb (kX11_sway (i := 5) rfl) rfl (lv_at hl 1 rfl) ?_
    refine gX0_slope b hB C hM q_fX11_309 (kX11_sway (i := 6) rfl) ?_
    refine lv_aload_n hx hb (kX11_sway (i := 7) rfl) rfl (lv_at hl 1 rfl) ?_
    refine gX0_places b hB C hM q_fX11_169 (kX11_sway (i := 8) rfl) ?_
    obtain ⟨g_4, hc_3, h⟩ := bd_some h
    refine x_callV (n := 2) (As := [vi (g_1 b 4), .ref (Θ.2.2.1 (b + 1))]) (rest := []) C hM (tX1_slide l Θ (b + 1) (isB_P hB) (g_1 b 4) h0 g_1 g_4 hc_3) (x_recvX C hM 8 (by decide) (eX_8 Θ _) rfl rfl) q_c_X1_slide q_mX11_318 q_i_X1_slide q_e_X1_slide q_n_X1 (by decide +kernel) ⟨by decide, by decide⟩ rfl hl.1 rfl (Nat.le_of_ble_eq_true rfl) (kX11_sway (i := 9) rfl) (fun H locs hM => ?_)
    refine lv_aload_n hx hb (kX11_sway (i := 10) rfl) rfl (lv_at hl 0 rfl) ?_
    refine gX11_hull C hM q_fX11_10 (kX11_sway (i := 11) rfl) ?_
    obtain ⟨r_5, hc_6, h⟩ := bd_some h
    refine x_callV (n := 0) (As := []) (rest := []) C hM (tX3_floats l Θ h0 g_4 r_5 hc_6) (x_recvX C hM 1 (by decide) (eX_1 Θ _) rfl rfl) q_c_X3_floats q_mX11_154 q_i_X3_floats q_e_X3_floats q_n_X3 (by decide +kernel) ⟨by decide, by decide⟩ rfl hl.1 rfl (Nat.le_of_ble_eq_true rfl) (kX11_sway (i := 12) rfl) (fun H locs hM => ?_)
    refine jn_go h (fun J116 : Mem → Option (Mem) => ∀ (g_7 : Mem) (H : Heap) (locs : List Loc) (ls : Array Slot), J116 g_7 = some gR → Hd Θ s g_7 h0 H locs → lv_has ls 3 [(1, .ref (Θ.2.2.1 b))] → W p l e { frames := 4, cells := 0, slots := 0, locals := 99 } s m args below meth c H locs 0 0 (MQ below (Qx Θ s.heap.size gR h0 none) args s 0 0 (AA Θ s.heap.size)) (F0 m 116 ls [])) ?_ ?_
    · intro g_7 H locs ls h hM hl
      refine lv_aload_n hx hb (kX11_sway (i := 58) rfl) rfl (lv_at hl 0 rfl) ?_
      refine lv_dup hx hb (kX11_sway (i := 59) rfl) rfl ?_
      refine gX0_now b hB C hM q_fX11_186 (kX11_sway (i := 60) rfl) ?_
      refine x_iconst hx hb (kX11_sway (i := 61) rfl) ?_
      refine x_iadd hx hb (kX11_sway (i := 62) rfl) ?_
      obtain ⟨g_8, eg_8, h⟩ := bnd_some h
      refine pX0_now b hB C hM q_fX11_186 eg_8 (kX11_sway (i := 63) rfl) (fun H locs hM => ?_)
      rw [← Option.some.inj h]
      exact x_vret C hM (kX11_sway (i := 64) rfl)
    intro J116 hJ116 h
    refine x_if_eq (a' := wr r_5) hx hb rfl (tgt := 111) (kX11_sway (i := 13) rfl) (by decide) (fun c_9 => ?_) (fun c_9 => ?_)
    · have h := it_t c_9 h
      refine lv_aload_n hx hb (kX11_sway (i := 55) rfl) rfl (lv_at hl 1 rfl) ?_
      refine x_iconst hx hb (kX11_sway (i := 56) rfl) ?_
      obtain ⟨g_10, eg_10, h⟩ := bnd_some h
      refine pX0_over b hB C hM q_fX11_189 (Or.inr rfl) eg_10 (kX11_sway (i := 57) rfl) (fun H locs hM => ?_)
      exact hJ116 g_10 H locs ls h hM (lv_sub hl [1] rfl)
    · have h := it_f c_9 h
      refine lv_aload_n hx hb (kX11_sway (i := 14) rfl) rfl (lv_at hl 0 rfl) ?_
      refine gX11_hull C hM q_fX11_10 (kX11_sway (i := 15) rfl) ?_
      refine lv_aload_n hx hb (kX11_sway (i := 16) rfl) rfl (lv_at hl 1 rfl) ?_
      refine gX0_slope b hB C hM q_fX11_309 (kX11_sway (i := 17) rfl) ?_
      obtain ⟨g_13, hc_12, h⟩ := bd_some h
      refine x_callV (n := 1) (As := [vi (g_4 b 4)]) (rest := []) C hM (tX3_settle l Θ (g_4 b 4) h0 g_4 g_13 hc_12) (x_recvX C hM 1 (by decide) (eX_1 Θ _) rfl rfl) q_c_X3_settle q_mX11_159 q_i_X3_settle q_e_X3_settle q_n_X3 (by decide +kernel) ⟨by decide, by decide⟩ rfl hl.1 rfl (Nat.le_of_ble_eq_true rfl) (kX11_sway (i := 18) rfl) (fun H locs hM => ?_)
      refine lv_aload_n hx hb (kX11_sway (i := 19) rfl) rfl (lv_at hl 0 rfl) ?_
      refine lv_aload_n hx hb (kX11_sway (i := 20) rfl) rfl (lv_at hl 1 rfl) ?_
      refine x_iload_n hx hb (kX11_sway (i := 21) rfl) rfl (lv_at hl 2 rfl) ?_
      obtain ⟨g_16, hc_15, h⟩ := bd_some h
      refine x_callV (n := 2) (As := [.ref (Θ.2.2.1 b), vi a1]) (rest := []) C hM (tX11_pushOn l Θ b hB a1 h0 g_13 g_16 hc_15) (x_recvX C hM 0 (by decide) (eX_0 Θ _) rfl rfl) q_c_X11_pushOn q_mX11_322 q_i_X11_pushOn q_e_X11_pushOn q_n_X11 (by decide +kernel) ⟨by decide, by decide⟩ rfl hl.1 rfl (Nat.le_of_ble_eq_true rfl) (kX11_sway (i := 22) rfl) (fun H locs hM => ?_)
      refine lv_aload_n hx hb (kX11_sway (i := 23) rfl) rfl (lv_at hl 1 rfl) ?_
      refine lv_aload_n hx hb (kX11_sway (i := 24) rfl) rfl (lv_at hl 0 rfl) ?_
      refine gX11_inert C hM q_fX11_103 (kX11_sway (i := 25) rfl) ?_
      obtain ⟨g_19, hc_18, h⟩ := bd_some h
      refine x_callV (n := 1) (As := [vi (g_16 0 16)]) (rest := []) C hM (tX0_turn l Θ b hB (g_16 0 16) h0 g_16 g_19 hc_18) (x_recvX C hM b (isB_lt hB) (eX_isB hB _) rfl rfl) q_c_X0_turn q_mX11_325 q_i_X0_turn q_e_X0_turn q_n_X0 (by decide +kernel) ⟨by decide, by decide⟩ rfl hl.1 rfl (Nat.le_of_ble_eq_true rfl) (kX11_sway (i := 26) rfl) (fun H locs hM => ?_)
      refine lv_aload_n hx hb (kX11_sway (i := 27) rfl) rfl (lv_at hl 1 rfl) ?_
      obtain ⟨g_22, hc_21, h⟩ := bd_some h
      refine x_callV (n := 0) (As := []) (rest := []) C hM (tX0_sicken l Θ b hB h0 g_19 g_22 hc_21) (x_recvX C hM b (isB_lt hB) (eX_isB hB _) rfl rfl) q_c_X0_sicken q_mX11_328 q_i_X0_sicken q_e_X0_sicken q_n_X0 (by decide +kernel) ⟨by decide, by decide⟩ rfl hl.1 rfl (Nat.le_of_ble_eq_true rfl) (kX11_sway (i := 28) rfl) (fun H locs hM => ?_)
      refine lv_aload_n hx hb (kX11_sway (i := 29) rfl) rfl (lv_at hl 0 rfl) ?_
      refine x_iconst hx hb (kX11_sway (i := 30) rfl) ?_
      refine lv_aload_n hx hb (kX11_sway (i := 31) rfl) rfl (lv_at hl 1 rfl) ?_
      obtain ⟨r_23, g_25, hc_24, h⟩ := bd2_some h
      refine x_callV (n := 2) (As := [vi 0, .ref (Θ.2.2.1 b)]) (rest := []) C hM (tX11_clauseHolds l Θ b hB 0 h0 g_22 r_23 g_25 hc_24) (x_recvX C hM 0 (by decide) (eX_0 Θ _) rfl rfl) q_c_X11_clauseHolds q_mX11_220 q_i_X11_clauseHolds q_e_X11_clauseHolds q_n_X11 (by decide +kernel) ⟨by decide, by decide⟩ rfl hl.1 rfl (Nat.le_of_ble_eq_true rfl) (kX11_sway (i := 32) rfl) (fun H locs hM => ?_)
      refine jn_go h (fun J78 : Mem → Option (Mem) => ∀ (g_26 : Mem) (H : Heap) (locs : List Loc) (ls : Array Slot), J78 g_26 = some gR → Hd Θ s g_26 h0 H locs → lv_has ls 3 [(0, .ref (Θ.2.2.1 0)), (1, .ref (Θ.2.2.1 b))] → W p l e { frames := 4, cells := 0, slots := 0, locals := 99 } s m args below meth c H locs 0 0 (MQ below (Qx Θ s.heap.size gR h0 none) args s 0 0 (AA Θ s.heap.size)) (F0 m 78 ls [])) ?_ ?_
      · intro g_26 H locs ls h hM hl
        refine lv_aload_n hx hb (kX11_sway (i := 40) rfl) rfl (lv_at hl 0 rfl) ?_
        refine gX11_hull C hM q_fX11_10 (kX11_sway (i := 41) rfl) ?_
        refine lv_aload_n hx hb (kX11_sway (i := 42) rfl) rfl (lv_at hl 1 rfl) ?_
        refine gX0_slope b hB C hM q_fX11_309 (kX11_sway (i := 43) rfl) ?_
        obtain ⟨g_29, hc_28, h⟩ := bd_some h
        refine x_callV (n := 1) (As := [vi (g_26 b 4)]) (rest := []) C hM (tX3_settle l Θ (g_26 b 4) h0 g_26 g_29 hc_28) (x_recvX C hM 1 (by decide) (eX_1 Θ _) rfl rfl) q_c_X3_settle q_mX11_159 q_i_X3_settle q_e_X3_settle q_n_X3 (by decide +kernel) ⟨by decide, by decide⟩ rfl hl.1 rfl (Nat.le_of_ble_eq_true rfl) (kX11_sway (i := 44) rfl) (fun H locs hM => ?_)
        refine lv_aload_n hx hb (kX11_sway (i := 45) rfl) rfl (lv_at hl 1 rfl) ?_
        refine lv_aload_n hx hb (kX11_sway (i := 46) rfl) rfl (lv_at hl 0 rfl) ?_
        refine gX11_marks C hM q_fX11_26 (kX11_sway (i := 47) rfl) ?_
        refine lv_aload_n hx hb (kX11_sway (i := 48) rfl) rfl (lv_at hl 0 rfl) ?_
        refine gX11_hull C hM q_fX11_10 (kX11_sway (i := 49) rfl) ?_
        refine lv_aload_n hx hb (kX11_sway (i := 50) rfl) rfl (lv_at hl 1 rfl) ?_
        refine gX0_slope b hB C hM q_fX11_309 (kX11_sway (i := 51) rfl) ?_
        obtain ⟨r_30, hc_31, h⟩ := bd_some h
        refine x_callV (n := 1) (As := [vi (g_29 b 4)]) (rest := [.ref (Θ.2.2.1 17), .ref (Θ.2.2.1 b)]) C hM (tX3_levelAt l Θ (g_29 b 4) h0 g_29 r_30 hc_31) (x_recvX C hM 1 (by decide) (eX_1 Θ _) rfl rfl) q_c_X3_levelAt q_mX11_162 q_i_X3_levelAt q_e_X3_levelAt q_n_X3 (by decide +kernel) ⟨by decide, by decide⟩ rfl hl.1 rfl (Nat.le_of_ble_eq_true rfl) (kX11_sway (i := 52) rfl) (fun H locs hM => ?_)
        obtain ⟨g_34, hc_33, h⟩ := bd_some h
        refine x_callV (n := 2) (As := [.ref (Θ.2.2.1 17), vi r_30]) (rest := []) C hM (tX0_wash l Θ b hB r_30 h0 g_29 g_34 hc_33) (x_recvX C hM b (isB_lt hB) (eX_isB hB _) rfl rfl) q_c_X0_wash q_mX11_331 q_i_X0_wash q_e_X0_wash q_n_X0 (by decide +kernel) ⟨by decide, by decide⟩ rfl hl.1 rfl (Nat.le_of_ble_eq_true rfl) (kX11_sway (i := 53) rfl) (fun H locs hM => ?_)
        refine lv_goto (tgt := 116) hx hb (kX11_sway (i := 54) rfl) (by decide) ?_
        exact hJ116 g_34 H locs ls h hM (lv_sub hl [1] rfl)
      intro J78 hJ78 h
      refine x_if_eq (a' := wr r_23) hx hb rfl (tgt := 78) (kX11_sway (i := 33) rfl) (by decide) (fun c_35 => ?_) (fun c_35 => ?_)
      · have h := it_t c_35 h
        exact hJ78 g_25 H locs ls h hM (lv_sub hl [0, 1] rfl)
      · have h := it_f c_35 h
        refine lv_aload_n hx hb (kX11_sway (i := 34) rfl) rfl (lv_at hl 1 rfl) ?_
        refine lv_dup hx hb (kX11_sway (i := 35) rfl) rfl ?_
        refine gX0_worked b hB C hM q_fX11_230 (kX11_sway (i := 36) rfl) ?_
        refine x_iconst hx hb (kX11_sway (i := 37) rfl) ?_
        refine x_iadd hx hb (kX11_sway (i := 38) rfl) ?_
        obtain ⟨g_36, eg_36, h⟩ := bnd_some h
        refine pX0_worked b hB C hM q_fX11_230 eg_36 (kX11_sway (i := 39) rfl) (fun H locs hM => ?_)
        exact hJ78 g_36 H locs ls h hM (lv_sub hl [0, 1] rfl)
  exact key _ _ hM

/-! X11_go -/
def fX11_go_L14 : Nat → Int → Int → Mem → (Mem → Option (Int × Mem)) → Option (Int × Mem)
  | 0, _, _, _, _ => none
  | n + 1, y1, y2, g, K114 =>
    if wr y1 ≤ wr y2 then (
      K114 g
    ) else (
      if 600 ≤ wr (g 24 3) then (
        K114 g
      ) else (
        jn (fun (g_6 : Mem) =>
          bnd (y2 + 1) fun x_7 =>
          fX11_go_L14 n y1 x_7 g_6 K114
        ) fun J108 =>
        if wr (g 24 10) = 0 then (
          bd (fX11_sway 24 (g 0 17) g) fun g_11 =>
          bd (fX3_floats g_11) fun r_12 =>
          jn (fun (v_14 : Int) =>
            bd (fX2_keep ((g_11 24 3) - 1) v_14 g_11) fun g_17 =>
            J108 g_17
          ) fun J105 =>
          if wr r_12 = 0 then (
            J105 0
          ) else (
            J105 (g_11 0 16)
          )
        ) else (
          bnd (up g 24 3 ((g 24 3) + 1)) fun g_19 =>
          J108 g_19
        )
      )
    )
def fX11_go (a0 : Int) (g : Mem) : Option (Int × Mem) :=
  bd (fX11_within a0 0 100) fun r_1 =>
  if wr r_1 = 0 then (
    some ((-1), g)
  ) else (
    fX11_go_L14 fuel a0 0 g
    (fun (g_20 : Mem) =>
      some (g_20 24 3, g_20)
    )
  )
set_option maxRecDepth 100000 in
set_option maxHeartbeats 4000000 in
theorem wX11_go_L14 {p : Program} {l : Launch} {e : Env} {s : State} {m : MethodId} {args : Array Value} {below : List Frame} {meth : Method} {c : Code} {Θ : Th} {h0 : Mem} {rv : Int} {gR : Mem} {K114 : Mem → Option (Int × Mem)} (C : Cx p s m args meth c cX11_go 3 RX11 (some .int) Θ) : ∀ (n : Nat) (y1 : Int) (y2 : Int) (g : Mem) (H : Heap) (locs : List Loc) (ls : Array Slot), fX11_go_L14 n y1 y2 g K114 = some (rv, gR) → (∀ (gz : Mem) (H : Heap) (locs : List Loc) (ls : Array Slot), K114 gz = some (rv, gR) → Hd Θ s gz h0 H locs → lv_has ls 3 [(0, .ref (Θ.2.2.1 0))] → W p l e { frames := 5, cells := 0, slots := 0, locals := 121 } s m args below meth c H locs 0 0 (MQ below (Qx Θ s.heap.size gR h0 (some (vi rv))) args s 0 0 (AA Θ s.heap.size)) (F0 m 114 ls [])) → Hd Θ s g h0 H locs → lv_has ls 3 [(0, .ref (Θ.2.2.1 0)), (1, vi y1), (2, vi y2)] → W p l e { frames := 5, cells := 0, slots := 0, locals := 121 } s m args below meth c H locs 0 0 (MQ below (Qx Θ s.heap.size gR h0 (some (vi rv))) args s 0 0 (AA Θ s.heap.size)) (F0 m 14 ls []) := by
  intro n
  obtain ⟨hx, hb, hml, hown, hts, -⟩ := id C
  induction n with
  | zero => intro y1 y2 g H locs ls h; cases h
  | succ n ih =>
    intro y1 y2 g H locs ls h hK114 hM hl
    rw [fX11_go_L14] at h
    refine x_iload_n hx hb (kX11_go (i := 9) rfl) rfl (lv_at hl 2 rfl) ?_
    refine x_iload_n hx hb (kX11_go (i := 10) rfl) rfl (lv_at hl 1 rfl) ?_
    refine x_icmp_ge (a' := wr y2) (b' := wr y1) hx hb rfl rfl (tgt := 114) (kX11_go (i := 11) rfl) (by decide) (fun c_4 => ?_) (fun c_4 => ?_)
    · have h := it_t c_4 h
      exact hK114 g H locs ls h hM (lv_sub hl [0] rfl)
    · have h := it_f c_4 h
      refine lv_aload_n hx hb (kX11_go (i := 12) rfl) rfl (lv_at hl 0 rfl) ?_
      refine gX11_ship C hM q_fX11_40 (kX11_go (i := 13) rfl) ?_
      refine gX0_now 24 (Or.inl rfl) C hM q_fX11_186 (kX11_go (i := 14) rfl) ?_
      refine x_sipush hx hb (by decide) (kX11_go (i := 15) rfl) ?_
      refine x_icmp_ge (a' := wr (g 24 3)) (b' := 600) hx hb rfl (by decide) (tgt := 114) (kX11_go (i := 16) rfl) (by decide) (fun c_5 => ?_) (fun c_5 => ?_)
      · have h := it_t c_5 h
        exact hK114 g H locs ls h hM (lv_sub hl [0] rfl)
      · have h := it_f c_5 h
        refine lv_aload_n hx hb (kX11_go (i := 17) rfl) rfl (lv_at hl 0 rfl) ?_
        refine gX11_ship C hM q_fX11_40 (kX11_go (i := 18) rfl) ?_
        refine gX0_over 24 (Or.inl rfl) C hM q_fX11_189 (kX11_go (i := 19) rfl) ?_
        refine jn_go h (fun J108 : Mem → Option (Int × Mem) => ∀ (g_6 : Mem) (H : Heap) (locs : List Loc) (ls : Array Slot), J108 g_6 = some (rv, gR) → Hd Θ s g_6 h0 H locs → lv_has ls 3 [(0, .ref (Θ.2.2.1 0)), (1, vi y1), (2, vi y2)] → W p l e { frames := 5, cells := 0, slots := 0, locals := 121 } s m args below meth c H locs 0 0 (MQ below (Qx Θ s.heap.size gR h0 (some (vi rv))) args s 0 0 (AA Θ s.heap.size)) (F0 m 108 ls [])) ?_ ?_
        · intro g_6 H locs ls h hM hl
          obtain ⟨x_7, ex_7, h⟩ := bnd_some h
          refine x_iinc (k := 2) (lv' := [(2, vi x_7), (0, .ref (Θ.2.2.1 0)), (1, vi y1)]) hx hb (kX11_go (i := 53) rfl) hl rfl ex_7 (by decide) rfl (fun ls hl => ?_)
          refine lv_goto (tgt := 14) hx hb (kX11_go (i := 54) rfl) (by decide) ?_
          exact ih y1 x_7 g_6 H locs ls h hK114 hM (lv_sub hl [1, 2, 0] rfl)
        intro J108 hJ108 h
        refine x_if_eq (a' := wr (g 24 10)) hx hb rfl (tgt := 58) (kX11_go (i := 20) rfl) (by decide) (fun c_8 => ?_) (fun c_8 => ?_)
        · have h := it_t c_8 h
          refine lv_aload_n hx hb (kX11_go (i := 29) rfl) rfl (lv_at hl 0 rfl) ?_
          refine lv_aload_n hx hb (kX11_go (i := 30) rfl) rfl (lv_at hl 0 rfl) ?_
          refine gX11_ship C hM q_fX11_40 (kX11_go (i := 31) rfl) ?_
          refine lv_aload_n hx hb (kX11_go (i := 32) rfl) rfl (lv_at hl 0 rfl) ?_
          refine gX11_fins C hM q_fX11_106 (kX11_go (i := 33) rfl) ?_
          obtain ⟨g_11, hc_10, h⟩ := bd_some h
          refine x_callV (n := 2) (As := [.ref (Θ.2.2.1 24), vi (g 0 17)]) (rest := []) C hM (tX11_sway l Θ 24 (Or.inl rfl) (g 0 17) h0 g g_11 hc_10) (x_recvX C hM 0 (by decide) (eX_0 Θ _) rfl rfl) q_c_X11_sway q_mX11_193 q_i_X11_sway q_e_X11_sway q_n_X11 (by decide +kernel) ⟨by decide, by decide⟩ rfl hl.1 rfl (Nat.le_of_ble_eq_true rfl) (kX11_go (i := 34) rfl) (fun H locs hM => ?_)
          refine lv_aload_n hx hb (kX11_go (i := 35) rfl) rfl (lv_at hl 0 rfl) ?_
          refine gX11_diary C hM q_fX11_50 (kX11_go (i := 36) rfl) ?_
          refine lv_aload_n hx hb (kX11_go (i := 37) rfl) rfl (lv_at hl 0 rfl) ?_
          refine gX11_ship C hM q_fX11_40 (kX11_go (i := 38) rfl) ?_
          refine gX0_now 24 (Or.inl rfl) C hM q_fX11_186 (kX11_go (i := 39) rfl) ?_
          refine x_iconst hx hb (kX11_go (i := 40) rfl) ?_
          refine x_isub hx hb (kX11_go (i := 41) rfl) ?_
          refine lv_aload_n hx hb (kX11_go (i := 42) rfl) rfl (lv_at hl 0 rfl) ?_
          refine gX11_ship C hM q_fX11_40 (kX11_go (i := 43) rfl) ?_
          refine lv_aload_n hx hb (kX11_go (i := 44) rfl) rfl (lv_at hl 0 rfl) ?_
          refine gX11_hull C hM q_fX11_10 (kX11_go (i := 45) rfl) ?_
          obtain ⟨r_12, hc_13, h⟩ := bd_some h
          refine x_callV (n := 0) (As := []) (rest := [.ref (Θ.2.2.1 24), vi ((g_11 24 3) - 1), .ref (Θ.2.2.1 32)]) C hM (tX3_floats l Θ h0 g_11 r_12 hc_13) (x_recvX C hM 1 (by decide) (eX_1 Θ _) rfl rfl) q_c_X3_floats q_mX11_154 q_i_X3_floats q_e_X3_floats q_n_X3 (by decide +kernel) ⟨by decide, by decide⟩ rfl hl.1 rfl (Nat.le_of_ble_eq_true rfl) (kX11_go (i := 46) rfl) (fun H locs hM => ?_)
          refine jn_go h (fun J105 : Int → Option (Int × Mem) => ∀ (v_14 : Int) (H : Heap) (locs : List Loc) (ls : Array Slot), J105 v_14 = some (rv, gR) → Hd Θ s g_11 h0 H locs → lv_has ls 3 [(0, .ref (Θ.2.2.1 0)), (1, vi y1), (2, vi y2)] → W p l e { frames := 5, cells := 0, slots := 0, locals := 121 } s m args below meth c H locs 0 0 (MQ below (Qx Θ s.heap.size gR h0 (some (vi rv))) args s 0 0 (AA Θ s.heap.size)) (F0 m 105 ls [vi v_14, .ref (Θ.2.2.1 24), vi ((g_11 24 3) - 1), .ref (Θ.2.2.1 32)])) ?_ ?_
          · intro v_14 H locs ls h hM hl
            obtain ⟨g_17, hc_16, h⟩ := bd_some h
            refine x_callV (n := 3) (As := [vi ((g_11 24 3) - 1), .ref (Θ.2.2.1 24), vi v_14]) (rest := []) C hM (tX2_keep l Θ ((g_11 24 3) - 1) v_14 h0 g_11 g_17 hc_16) (x_recvX C hM 32 (by decide) (eX_32 Θ _) rfl rfl) q_c_X2_keep q_mX11_197 q_i_X2_keep q_e_X2_keep q_n_X2 (by decide +kernel) ⟨by decide, by decide⟩ rfl hl.1 rfl (Nat.le_of_ble_eq_true rfl) (kX11_go (i := 52) rfl) (fun H locs hM => ?_)
            exact hJ108 g_17 H locs ls h hM (lv_sub hl [0, 1, 2] rfl)
          intro J105 hJ105 h
          refine x_if_eq (a' := wr r_12) hx hb rfl (tgt := 104) (kX11_go (i := 47) rfl) (by decide) (fun c_18 => ?_) (fun c_18 => ?_)
          · have h := it_t c_18 h
            refine x_iconst hx hb (kX11_go (i := 51) rfl) ?_
            exact hJ105 0 H locs ls h hM (lv_sub hl [0, 1, 2] rfl)
          · have h := it_f c_18 h
            refine lv_aload_n hx hb (kX11_go (i := 48) rfl) rfl (lv_at hl 0 rfl) ?_
            refine gX11_inert C hM q_fX11_103 (kX11_go (i := 49) rfl) ?_
            refine lv_goto (tgt := 105) hx hb (kX11_go (i := 50) rfl) (by decide) ?_
            exact hJ105 (g_11 0 16) H locs ls h hM (lv_sub hl [0, 1, 2] rfl)
        · have h := it_f c_8 h
          refine lv_aload_n hx hb (kX11_go (i := 21) rfl) rfl (lv_at hl 0 rfl) ?_
          refine gX11_ship C hM q_fX11_40 (kX11_go (i := 22) rfl) ?_
          refine lv_dup hx hb (kX11_go (i := 23) rfl) rfl ?_
          refine gX0_now 24 (Or.inl rfl) C hM q_fX11_186 (kX11_go (i := 24) rfl) ?_
          refine x_iconst hx hb (kX11_go (i := 25) rfl) ?_
          refine x_iadd hx hb (kX11_go (i := 26) rfl) ?_
          obtain ⟨g_19, eg_19, h⟩ := bnd_some h
          refine pX0_now 24 (Or.inl rfl) C hM q_fX11_186 eg_19 (kX11_go (i := 27) rfl) (fun H locs hM => ?_)
          refine lv_goto (tgt := 108) hx hb (kX11_go (i := 28) rfl) (by decide) ?_
          exact hJ108 g_19 H locs ls h hM (lv_sub hl [0, 1, 2] rfl)
set_option maxRecDepth 100000 in
set_option maxHeartbeats 4000000 in
theorem tX11_go (l : Launch) (Θ : Th) (a0 : Int) (h0 g : Mem) (rv : Int) (gR : Mem) (h : fX11_go a0 g = some (rv, gR)) : Ct l yX11_go cX11_go 3 (some .int) 5 121 Θ [.ref (Θ.2.2.1 0), vi a0] g h0 gR h0 (some (vi rv)) := by
  refine x_start (by decide) (Nat.le_of_ble_eq_true rfl) ?_
  intro p e s m args below meth c ls C hM hl
  have hl : lv_has ls 3 [(0, .ref (Θ.2.2.1 0)), (1, vi a0)] := hl
  obtain ⟨hx, hb, hml, hown, hts, -⟩ := id C
  unfold fX11_go at h
  have key : ∀ (H : Heap) (locs : List Loc), Hd Θ s g h0 H locs → W p l e { frames := 5, cells := 0, slots := 0, locals := 121 } s m args below meth c H locs 0 0 (MQ below (Qx Θ s.heap.size gR h0 (some (vi rv))) args s 0 0 (AA Θ s.heap.size)) (F0 m 0 ls []) := by
    intro H locs hM
    refine x_iload_n hx hb (kX11_go (i := 0) rfl) rfl (lv_at hl 1 rfl) ?_
    refine x_iconst hx hb (kX11_go (i := 1) rfl) ?_
    refine x_bipush hx hb (by decide) (kX11_go (i := 2) rfl) ?_
    obtain ⟨r_1, hc_2, h⟩ := bd_some h
    refine x_callS (n := 3) (As := [vi a0, vi 0, vi 100]) (rest := []) C hM (tX11_within l Θ a0 0 100 h0 g r_1 hc_2) q_c_X11_within q_mX11_109 q_s_X11_within q_n_X11 (by decide +kernel) ⟨by decide, by decide⟩ rfl hl.1 rfl (Nat.le_of_ble_eq_true rfl) (kX11_go (i := 3) rfl) (fun H locs hM => ?_)
    refine x_if_ne (a' := wr r_1) hx hb rfl (tgt := 12) (kX11_go (i := 4) rfl) (by decide) (fun c_3 => ?_) (fun c_3 => ?_)
    · have h := it_f c_3 h
      refine x_iconst hx hb (kX11_go (i := 7) rfl) ?_
      refine x_istore_n (lv' := [(2, vi 0), (0, .ref (Θ.2.2.1 0)), (1, vi a0)]) hx hb (kX11_go (i := 8) rfl) rfl hl (by decide) rfl (fun ls hl => ?_)
      refine wX11_go_L14  C fuel a0 0 g H locs ls h ?_ hM (lv_sub hl [1, 2, 0] rfl)
      · intro g_20 H locs ls h hM hl
        refine lv_aload_n hx hb (kX11_go (i := 55) rfl) rfl (lv_at hl 0 rfl) ?_
        refine gX11_ship C hM q_fX11_40 (kX11_go (i := 56) rfl) ?_
        refine gX0_now 24 (Or.inl rfl) C hM q_fX11_186 (kX11_go (i := 57) rfl) ?_
        obtain ⟨q1, q2⟩ := ret2 h
        rw [q1, q2]
        exact x_iret C hM (nar_i _) (kX11_go (i := 58) rfl)
    · have h := it_t c_3 h
      refine x_iconst hx hb (kX11_go (i := 5) rfl) ?_
      obtain ⟨q1, q2⟩ := ret2 h
      rw [q1, q2]
      exact x_iret C hM (nar_i _) (kX11_go (i := 6) rfl)
  exact key _ _ hM

/-! X11_kept -/
def fX11_kept (a0 : Int) (a1 : Int) (g : Mem) : Option (Int) :=
  bd (fX11_within a0 0 ((g 24 3) - 1)) fun r_1 =>
  if wr r_1 = 0 then (
    some (-2147483648)
  ) else (
    bd (fX2_valueOf a0 a1 g) fun r_4 =>
    some r_4
  )
set_option maxRecDepth 100000 in
set_option maxHeartbeats 4000000 in
theorem tX11_kept (l : Launch) (Θ : Th) (a0 : Int) (a1 : Int) (h0 g : Mem) (rv : Int) (h : fX11_kept a0 a1 g = some rv) : Ct l yX11_kept cX11_kept 3 (some .int) 1 22 Θ [.ref (Θ.2.2.1 0), vi a0, vi a1] g h0 g h0 (some (vi rv)) := by
  refine x_start (by decide) (Nat.le_of_ble_eq_true rfl) ?_
  intro p e s m args below meth c ls C hM hl
  have hl : lv_has ls 3 [(0, .ref (Θ.2.2.1 0)), (1, vi a0), (2, vi a1)] := hl
  obtain ⟨hx, hb, hml, hown, hts, -⟩ := id C
  unfold fX11_kept at h
  have key : ∀ (H : Heap) (locs : List Loc), Hd Θ s g h0 H locs → W p l e { frames := 1, cells := 0, slots := 0, locals := 22 } s m args below meth c H locs 0 0 (MQ below (Qx Θ s.heap.size g h0 (some (vi rv))) args s 0 0 (AA Θ s.heap.size)) (F0 m 0 ls []) := by
    intro H locs hM
    refine x_iload_n hx hb (kX11_kept (i := 0) rfl) rfl (lv_at hl 1 rfl) ?_
    refine x_iconst hx hb (kX11_kept (i := 1) rfl) ?_
    refine lv_aload_n hx hb (kX11_kept (i := 2) rfl) rfl (lv_at hl 0 rfl) ?_
    refine gX11_ship C hM q_fX11_40 (kX11_kept (i := 3) rfl) ?_
    refine gX0_now 24 (Or.inl rfl) C hM q_fX11_186 (kX11_kept (i := 4) rfl) ?_
    refine x_iconst hx hb (kX11_kept (i := 5) rfl) ?_
    refine x_isub hx hb (kX11_kept (i := 6) rfl) ?_
    obtain ⟨r_1, hc_2, h⟩ := bd_some h
    refine x_callS (n := 3) (As := [vi a0, vi 0, vi ((g 24 3) - 1)]) (rest := []) C hM (tX11_within l Θ a0 0 ((g 24 3) - 1) h0 g r_1 hc_2) q_c_X11_within q_mX11_109 q_s_X11_within q_n_X11 (by decide +kernel) ⟨by decide, by decide⟩ rfl hl.1 rfl (Nat.le_of_ble_eq_true rfl) (kX11_kept (i := 7) rfl) (fun H locs hM => ?_)
    refine x_if_ne (a' := wr r_1) hx hb rfl (tgt := 20) (kX11_kept (i := 8) rfl) (by decide) (fun c_3 => ?_) (fun c_3 => ?_)
    · have h := it_f c_3 h
      refine lv_aload_n hx hb (kX11_kept (i := 11) rfl) rfl (lv_at hl 0 rfl) ?_
      refine gX11_diary C hM q_fX11_50 (kX11_kept (i := 12) rfl) ?_
      refine x_iload_n hx hb (kX11_kept (i := 13) rfl) rfl (lv_at hl 1 rfl) ?_
      refine x_iload_n hx hb (kX11_kept (i := 14) rfl) rfl (lv_at hl 2 rfl) ?_
      obtain ⟨r_4, hc_5, h⟩ := bd_some h
      refine x_callV (n := 2) (As := [vi a0, vi a1]) (rest := []) C hM (tX2_valueOf l Θ a0 a1 h0 g r_4 hc_5) (x_recvX C hM 32 (by decide) (eX_32 Θ _) rfl rfl) q_c_X2_valueOf q_mX11_201 q_i_X2_valueOf q_e_X2_valueOf q_n_X2 (by decide +kernel) ⟨by decide, by decide⟩ rfl hl.1 rfl (Nat.le_of_ble_eq_true rfl) (kX11_kept (i := 15) rfl) (fun H locs hM => ?_)
      rw [← Option.some.inj h]
      exact x_iret C hM (nar_i _) (kX11_kept (i := 16) rfl)
    · have h := it_t c_3 h
      refine x_ldc (n := (-2147483648)) hx hb hown (hts _ q_kX11_158) (kX11_kept (i := 9) rfl) ?_
      rw [← Option.some.inj h]
      exact x_iret C hM (nar_i _) (kX11_kept (i := 10) rfl)
  exact key _ _ hM

/-! X11_lead -/
def fX11_lead (a0 : Int) (g : Mem) : Option (Int) :=
  bd (fX11_within a0 0 3) fun r_1 =>
  if wr r_1 = 0 then (
    some (-2147483648)
  ) else (
    gd a0 4 <|
    some (g (24 + 3) (wr a0).toNat)
  )
set_option maxRecDepth 100000 in
set_option maxHeartbeats 4000000 in
theorem tX11_lead (l : Launch) (Θ : Th) (a0 : Int) (h0 g : Mem) (rv : Int) (h : fX11_lead a0 g = some rv) : Ct l yX11_lead cX11_lead 2 (some .int) 1 22 Θ [.ref (Θ.2.2.1 0), vi a0] g h0 g h0 (some (vi rv)) := by
  refine x_start (by decide) (Nat.le_of_ble_eq_true rfl) ?_
  intro p e s m args below meth c ls C hM hl
  have hl : lv_has ls 2 [(0, .ref (Θ.2.2.1 0)), (1, vi a0)] := hl
  obtain ⟨hx, hb, hml, hown, hts, -⟩ := id C
  unfold fX11_lead at h
  have key : ∀ (H : Heap) (locs : List Loc), Hd Θ s g h0 H locs → W p l e { frames := 1, cells := 0, slots := 0, locals := 22 } s m args below meth c H locs 0 0 (MQ below (Qx Θ s.heap.size g h0 (some (vi rv))) args s 0 0 (AA Θ s.heap.size)) (F0 m 0 ls []) := by
    intro H locs hM
    refine x_iload_n hx hb (kX11_lead (i := 0) rfl) rfl (lv_at hl 1 rfl) ?_
    refine x_iconst hx hb (kX11_lead (i := 1) rfl) ?_
    refine x_iconst hx hb (kX11_lead (i := 2) rfl) ?_
    obtain ⟨r_1, hc_2, h⟩ := bd_some h
    refine x_callS (n := 3) (As := [vi a0, vi 0, vi 3]) (rest := []) C hM (tX11_within l Θ a0 0 3 h0 g r_1 hc_2) q_c_X11_within q_mX11_109 q_s_X11_within q_n_X11 (by decide +kernel) ⟨by decide, by decide⟩ rfl hl.1 rfl (Nat.le_of_ble_eq_true rfl) (kX11_lead (i := 3) rfl) (fun H locs hM => ?_)
    refine x_if_ne (a' := wr r_1) hx hb rfl (tgt := 12) (kX11_lead (i := 4) rfl) (by decide) (fun c_3 => ?_) (fun c_3 => ?_)
    · have h := it_f c_3 h
      refine lv_aload_n hx hb (kX11_lead (i := 7) rfl) rfl (lv_at hl 0 rfl) ?_
      refine gX11_ship C hM q_fX11_40 (kX11_lead (i := 8) rfl) ?_
      refine gX0_parts 24 (Or.inl rfl) C hM q_fX11_204 (kX11_lead (i := 9) rfl) ?_
      refine x_iload_n hx hb (kX11_lead (i := 10) rfl) rfl (lv_at hl 1 rfl) ?_
      obtain ⟨hi_4, h⟩ := gd_some h
      refine x_ialdX C hM (24 + 3) (isB_parts (Or.inl rfl)) (eX_isB_parts (Or.inl rfl)) hi_4 (kX11_lead (i := 11) rfl) ?_
      rw [← Option.some.inj h]
      exact x_iret C hM (nar_i _) (kX11_lead (i := 12) rfl)
    · have h := it_t c_3 h
      refine x_ldc (n := (-2147483648)) hx hb hown (hts _ q_kX11_158) (kX11_lead (i := 5) rfl) ?_
      rw [← Option.some.inj h]
      exact x_iret C hM (nar_i _) (kX11_lead (i := 6) rfl)
  exact key _ _ hM

/-! X11_feed -/
def fX11_feed (a0 : Int) (a1 : Int) (a2 : Int) (a3 : Int) (a4 : Int) (g : Mem) : Option (Int × Mem) :=
  bd (fX9_hasRoom 20 g) fun r_1 =>
  if wr r_1 = 0 then (
    some ((-1), g)
  ) else (
    bd (fX9_append a0 g) fun g_6 =>
    bd (fX9_append a1 g_6) fun g_9 =>
    bd (fX9_append a2 g_9) fun g_12 =>
    bd (fX9_append a3 g_12) fun g_15 =>
    bd (fX9_append a4 g_15) fun g_18 =>
    some (g_18 37 1, g_18)
  )
set_option maxRecDepth 100000 in
set_option maxHeartbeats 4000000 in
theorem tX11_feed (l : Launch) (Θ : Th) (a0 : Int) (a1 : Int) (a2 : Int) (a3 : Int) (a4 : Int) (h0 g : Mem) (rv : Int) (gR : Mem) (h : fX11_feed a0 a1 a2 a3 a4 g = some (rv, gR)) : Ct l yX11_feed cX11_feed 6 (some .int) 1 22 Θ [.ref (Θ.2.2.1 0), vi a0, vi a1, vi a2, vi a3, vi a4] g h0 gR h0 (some (vi rv)) := by
  refine x_start (by decide) (Nat.le_of_ble_eq_true rfl) ?_
  intro p e s m args below meth c ls C hM hl
  have hl : lv_has ls 6 [(0, .ref (Θ.2.2.1 0)), (1, vi a0), (2, vi a1), (3, vi a2), (4, vi a3), (5, vi a4)] := hl
  obtain ⟨hx, hb, hml, hown, hts, -⟩ := id C
  unfold fX11_feed at h
  have key : ∀ (H : Heap) (locs : List Loc), Hd Θ s g h0 H locs → W p l e { frames := 1, cells := 0, slots := 0, locals := 22 } s m args below meth c H locs 0 0 (MQ below (Qx Θ s.heap.size gR h0 (some (vi rv))) args s 0 0 (AA Θ s.heap.size)) (F0 m 0 ls []) := by
    intro H locs hM
    refine lv_aload_n hx hb (kX11_feed (i := 0) rfl) rfl (lv_at hl 0 rfl) ?_
    refine gX11_text C hM q_fX11_57 (kX11_feed (i := 1) rfl) ?_
    refine x_bipush hx hb (by decide) (kX11_feed (i := 2) rfl) ?_
    obtain ⟨r_1, hc_2, h⟩ := bd_some h
    refine x_callV (n := 1) (As := [vi 20]) (rest := []) C hM (tX9_hasRoom l Θ 20 h0 g r_1 hc_2) (x_recvX C hM 37 (by decide) (eX_37 Θ _) rfl rfl) q_c_X9_hasRoom q_mX11_207 q_i_X9_hasRoom q_e_X9_hasRoom q_n_X9 (by decide +kernel) ⟨by decide, by decide⟩ rfl hl.1 rfl (Nat.le_of_ble_eq_true rfl) (kX11_feed (i := 3) rfl) (fun H locs hM => ?_)
    refine x_if_ne (a' := wr r_1) hx hb rfl (tgt := 14) (kX11_feed (i := 4) rfl) (by decide) (fun c_3 => ?_) (fun c_3 => ?_)
    · have h := it_f c_3 h
      refine lv_aload_n hx hb (kX11_feed (i := 7) rfl) rfl (lv_at hl 0 rfl) ?_
      refine gX11_text C hM q_fX11_57 (kX11_feed (i := 8) rfl) ?_
      refine x_iload_n hx hb (kX11_feed (i := 9) rfl) rfl (lv_at hl 1 rfl) ?_
      obtain ⟨g_6, hc_5, h⟩ := bd_some h
      refine x_callV (n := 1) (As := [vi a0]) (rest := []) C hM (tX9_append l Θ a0 h0 g g_6 hc_5) (x_recvX C hM 37 (by decide) (eX_37 Θ _) rfl rfl) q_c_X9_append q_mX11_210 q_i_X9_append q_e_X9_append q_n_X9 (by decide +kernel) ⟨by decide, by decide⟩ rfl hl.1 rfl (Nat.le_of_ble_eq_true rfl) (kX11_feed (i := 10) rfl) (fun H locs hM => ?_)
      refine lv_aload_n hx hb (kX11_feed (i := 11) rfl) rfl (lv_at hl 0 rfl) ?_
      refine gX11_text C hM q_fX11_57 (kX11_feed (i := 12) rfl) ?_
      refine x_iload_n hx hb (kX11_feed (i := 13) rfl) rfl (lv_at hl 2 rfl) ?_
      obtain ⟨g_9, hc_8, h⟩ := bd_some h
      refine x_callV (n := 1) (As := [vi a1]) (rest := []) C hM (tX9_append l Θ a1 h0 g_6 g_9 hc_8) (x_recvX C hM 37 (by decide) (eX_37 Θ _) rfl rfl) q_c_X9_append q_mX11_210 q_i_X9_append q_e_X9_append q_n_X9 (by decide +kernel) ⟨by decide, by decide⟩ rfl hl.1 rfl (Nat.le_of_ble_eq_true rfl) (kX11_feed (i := 14) rfl) (fun H locs hM => ?_)
      refine lv_aload_n hx hb (kX11_feed (i := 15) rfl) rfl (lv_at hl 0 rfl) ?_
      refine gX11_text C hM q_fX11_57 (kX11_feed (i := 16) rfl) ?_
      refine x_iload_n hx hb (kX11_feed (i := 17) rfl) rfl (lv_at hl 3 rfl) ?_
      obtain ⟨g_12, hc_11, h⟩ := bd_some h
      refine x_callV (n := 1) (As := [vi a2]) (rest := []) C hM (tX9_append l Θ a2 h0 g_9 g_12 hc_11) (x_recvX C hM 37 (by decide) (eX_37 Θ _) rfl rfl) q_c_X9_append q_mX11_210 q_i_X9_append q_e_X9_append q_n_X9 (by decide +kernel) ⟨by decide, by decide⟩ rfl hl.1 rfl (Nat.le_of_ble_eq_true rfl) (kX11_feed (i := 18) rfl) (fun H locs hM => ?_)
      refine lv_aload_n hx hb (kX11_feed (i := 19) rfl) rfl (lv_at hl 0 rfl) ?_
      refine gX11_text C hM q_fX11_57 (kX11_feed (i := 20) rfl) ?_
      refine x_iload hx hb (kX11_feed (i := 21) rfl) (lv_at hl 4 rfl) ?_
      obtain ⟨g_15, hc_14, h⟩ := bd_some h
      refine x_callV (n := 1) (As := [vi a3]) (rest := []) C hM (tX9_append l Θ a3 h0 g_12 g_15 hc_14) (x_recvX C hM 37 (by decide) (eX_37 Θ _) rfl rfl) q_c_X9_append q_mX11_210 q_i_X9_append q_e_X9_append q_n_X9 (by decide +kernel) ⟨by decide, by decide⟩ rfl hl.1 rfl (Nat.le_of_ble_eq_true rfl) (kX11_feed (i := 22) rfl) (fun H locs hM => ?_)
      refine lv_aload_n hx hb (kX11_feed (i := 23) rfl) rfl (lv_at hl 0 rfl) ?_
      refine gX11_text C hM q_fX11_57 (kX11_feed (i := 24) rfl) ?_
      refine x_iload hx hb (kX11_feed (i := 25) rfl) (lv_at hl 5 rfl) ?_
      obtain ⟨g_18, hc_17, h⟩ := bd_some h
      refine x_callV (n := 1) (As := [vi a4]) (rest := []) C hM (tX9_append l Θ a4 h0 g_15 g_18 hc_17) (x_recvX C hM 37 (by decide) (eX_37 Θ _) rfl rfl) q_c_X9_append q_mX11_210 q_i_X9_append q_e_X9_append q_n_X9 (by decide +kernel) ⟨by decide, by decide⟩ rfl hl.1 rfl (Nat.le_of_ble_eq_true rfl) (kX11_feed (i := 26) rfl) (fun H locs hM => ?_)
      refine lv_aload_n hx hb (kX11_feed (i := 27) rfl) rfl (lv_at hl 0 rfl) ?_
      refine gX11_text C hM q_fX11_57 (kX11_feed (i := 28) rfl) ?_
      refine gX9_length C hM q_fX11_213 (kX11_feed (i := 29) rfl) ?_
      obtain ⟨q1, q2⟩ := ret2 h
      rw [q1, q2]
      exact x_iret C hM (nar_i _) (kX11_feed (i := 30) rfl)
    · have h := it_t c_3 h
      refine x_iconst hx hb (kX11_feed (i := 5) rfl) ?_
      obtain ⟨q1, q2⟩ := ret2 h
      rw [q1, q2]
      exact x_iret C hM (nar_i _) (kX11_feed (i := 6) rfl)
  exact key _ _ hM

/-! X11_end -/
def fX11_end (a0 : Int) (g : Mem) : Option (Int × Mem) :=
  bd (fX11_within a0 0 (g 37 1)) fun r_1 =>
  if wr r_1 = 0 then (
    some (0, g)
  ) else (
    bnd (up g 37 1 a0) fun g_4 =>
    some (1, g_4)
  )
set_option maxRecDepth 100000 in
set_option maxHeartbeats 4000000 in
theorem tX11_end (l : Launch) (Θ : Th) (a0 : Int) (h0 g : Mem) (rv : Int) (gR : Mem) (h : fX11_end a0 g = some (rv, gR)) : Ct l yX11_end cX11_end 2 (some .boolean) 1 22 Θ [.ref (Θ.2.2.1 0), vi a0] g h0 gR h0 (some (vi rv)) := by
  refine x_start (by decide) (Nat.le_of_ble_eq_true rfl) ?_
  intro p e s m args below meth c ls C hM hl
  have hl : lv_has ls 2 [(0, .ref (Θ.2.2.1 0)), (1, vi a0)] := hl
  obtain ⟨hx, hb, hml, hown, hts, -⟩ := id C
  unfold fX11_end at h
  have key : ∀ (H : Heap) (locs : List Loc), Hd Θ s g h0 H locs → W p l e { frames := 1, cells := 0, slots := 0, locals := 22 } s m args below meth c H locs 0 0 (MQ below (Qx Θ s.heap.size gR h0 (some (vi rv))) args s 0 0 (AA Θ s.heap.size)) (F0 m 0 ls []) := by
    intro H locs hM
    refine x_iload_n hx hb (kX11_end (i := 0) rfl) rfl (lv_at hl 1 rfl) ?_
    refine x_iconst hx hb (kX11_end (i := 1) rfl) ?_
    refine lv_aload_n hx hb (kX11_end (i := 2) rfl) rfl (lv_at hl 0 rfl) ?_
    refine gX11_text C hM q_fX11_57 (kX11_end (i := 3) rfl) ?_
    refine gX9_length C hM q_fX11_213 (kX11_end (i := 4) rfl) ?_
    obtain ⟨r_1, hc_2, h⟩ := bd_some h
    refine x_callS (n := 3) (As := [vi a0, vi 0, vi (g 37 1)]) (rest := []) C hM (tX11_within l Θ a0 0 (g 37 1) h0 g r_1 hc_2) q_c_X11_within q_mX11_109 q_s_X11_within q_n_X11 (by decide +kernel) ⟨by decide, by decide⟩ rfl hl.1 rfl (Nat.le_of_ble_eq_true rfl) (kX11_end (i := 5) rfl) (fun H locs hM => ?_)
    refine x_if_ne (a' := wr r_1) hx hb rfl (tgt := 17) (kX11_end (i := 6) rfl) (by decide) (fun c_3 => ?_) (fun c_3 => ?_)
    · have h := it_f c_3 h
      refine lv_aload_n hx hb (kX11_end (i := 9) rfl) rfl (lv_at hl 0 rfl) ?_
      refine gX11_text C hM q_fX11_57 (kX11_end (i := 10) rfl) ?_
      refine x_iload_n hx hb (kX11_end (i := 11) rfl) rfl (lv_at hl 1 rfl) ?_
      obtain ⟨g_4, eg_4, h⟩ := bnd_some h
      refine pX9_length C hM q_fX11_213 eg_4 (kX11_end (i := 12) rfl) (fun H locs hM => ?_)
      refine x_iconst hx hb (kX11_end (i := 13) rfl) ?_
      obtain ⟨q1, q2⟩ := ret2 h
      rw [q1, q2]
      exact x_iret C hM (nar_z (Or.inr rfl)) (kX11_end (i := 14) rfl)
    · have h := it_t c_3 h
      refine x_iconst hx hb (kX11_end (i := 7) rfl) ?_
      obtain ⟨q1, q2⟩ := ret2 h
      rw [q1, q2]
      exact x_iret C hM (nar_z (Or.inl rfl)) (kX11_end (i := 8) rfl)
  exact key _ _ hM

/-! X11_fault -/
def fX11_fault (g : Mem) : Option (Int × Mem) :=
  bnd ((g 0 13).toNat) fun r_1 => gc (r_1 = 47 ∨ r_1 = 52) <|
  bd2 (fX5_parse r_1 g) fun r_3 g_5 =>
  some (r_3, g_5)
set_option maxRecDepth 100000 in
set_option maxHeartbeats 4000000 in
theorem tX11_fault (l : Launch) (Θ : Th) (h0 g : Mem) (rv : Int) (gR : Mem) (h : fX11_fault g = some (rv, gR)) : Ct l yX11_fault cX11_fault 1 (some .int) 9 197 Θ [.ref (Θ.2.2.1 0)] g h0 gR h0 (some (vi rv)) := by
  refine x_start (by decide) (Nat.le_of_ble_eq_true rfl) ?_
  intro p e s m args below meth c ls C hM hl
  have hl : lv_has ls 1 [(0, .ref (Θ.2.2.1 0))] := hl
  obtain ⟨hx, hb, hml, hown, hts, -⟩ := id C
  unfold fX11_fault at h
  have key : ∀ (H : Heap) (locs : List Loc), Hd Θ s g h0 H locs → W p l e { frames := 9, cells := 0, slots := 0, locals := 197 } s m args below meth c H locs 0 0 (MQ below (Qx Θ s.heap.size gR h0 (some (vi rv))) args s 0 0 (AA Θ s.heap.size)) (F0 m 0 ls []) := by
    intro H locs hM
    refine lv_aload_n hx hb (kX11_fault (i := 0) rfl) rfl (lv_at hl 0 rfl) ?_
    refine gX11_parser C hM q_fX11_64 (kX11_fault (i := 1) rfl) ?_
    refine lv_aload_n hx hb (kX11_fault (i := 2) rfl) rfl (lv_at hl 0 rfl) ?_
    refine gX11_text C hM q_fX11_57 (kX11_fault (i := 3) rfl) ?_
    refine lv_aload_n hx hb (kX11_fault (i := 4) rfl) rfl (lv_at hl 0 rfl) ?_
    refine gX11_spare C hM q_fX11_93 (kX11_fault (i := 5) rfl) ?_
    obtain ⟨r_1, er_1, h⟩ := bnd_some h
    obtain ⟨hr_2, h⟩ := gc_some h
    rw [← er_1]
    obtain ⟨r_3, g_5, hc_4, h⟩ := bd2_some h
    refine x_callV (n := 2) (As := [.ref (Θ.2.2.1 37), .ref (Θ.2.2.1 r_1)]) (rest := []) C hM (tX5_parse l Θ r_1 hr_2 h0 g r_3 g_5 hc_4) (x_recvX C hM 39 (by decide) (eX_39 Θ _) rfl rfl) q_c_X5_parse q_mX11_216 q_i_X5_parse q_e_X5_parse q_n_X5 (by decide +kernel) ⟨by decide, by decide⟩ rfl hl.1 rfl (Nat.le_of_ble_eq_true rfl) (kX11_fault (i := 6) rfl) (fun H locs hM => ?_)
    obtain ⟨q1, q2⟩ := ret2 h
    rw [q1, q2]
    exact x_iret C hM (nar_i _) (kX11_fault (i := 7) rfl)
  exact key _ _ hM

/-! X11_rules -/
def fX11_rules (g : Mem) : Option (Int × Mem) :=
  bnd ((g 0 13).toNat) fun r_1 => gc (r_1 = 47 ∨ r_1 = 52) <|
  bd2 (fX5_parse r_1 g) fun r_3 g_5 =>
  if wr r_3 = (-1) then (
    bnd ((g_5 0 12).toNat) fun r_7 => gc (r_7 = 47 ∨ r_7 = 52) <|
    bnd ((g_5 0 13).toNat) fun r_9 => gc (r_9 = 47 ∨ r_9 = 52) <|
    bnd (up g_5 0 12 (r_9 : Int)) fun g_11 =>
    bnd (up g_11 0 13 (r_7 : Int)) fun g_12 =>
    bnd (up g_12 37 1 0) fun g_13 =>
    some (1, g_13)
  ) else (
    some (0, g_5)
  )
set_option maxRecDepth 100000 in
set_option maxHeartbeats 4000000 in
theorem tX11_rules (l : Launch) (Θ : Th) (h0 g : Mem) (rv : Int) (gR : Mem) (h : fX11_rules g = some (rv, gR)) : Ct l yX11_rules cX11_rules 2 (some .boolean) 9 197 Θ [.ref (Θ.2.2.1 0)] g h0 gR h0 (some (vi rv)) := by
  refine x_start (by decide) (Nat.le_of_ble_eq_true rfl) ?_
  intro p e s m args below meth c ls C hM hl
  have hl : lv_has ls 2 [(0, .ref (Θ.2.2.1 0))] := hl
  obtain ⟨hx, hb, hml, hown, hts, -⟩ := id C
  unfold fX11_rules at h
  have key : ∀ (H : Heap) (locs : List Loc), Hd Θ s g h0 H locs → W p l e { frames := 9, cells := 0, slots := 0, locals := 197 } s m args below meth c H locs 0 0 (MQ below (Qx Θ s.heap.size gR h0 (some (vi rv))) args s 0 0 (AA Θ s.heap.size)) (F0 m 0 ls []) := by
    intro H locs hM
    refine lv_aload_n hx hb (kX11_rules (i := 0) rfl) rfl (lv_at hl 0 rfl) ?_
    refine gX11_parser C hM q_fX11_64 (kX11_rules (i := 1) rfl) ?_
    refine lv_aload_n hx hb (kX11_rules (i := 2) rfl) rfl (lv_at hl 0 rfl) ?_
    refine gX11_text C hM q_fX11_57 (kX11_rules (i := 3) rfl) ?_
    refine lv_aload_n hx hb (kX11_rules (i := 4) rfl) rfl (lv_at hl 0 rfl) ?_
    refine gX11_spare C hM q_fX11_93 (kX11_rules (i := 5) rfl) ?_
    obtain ⟨r_1, er_1, h⟩ := bnd_some h
    obtain ⟨hr_2, h⟩ := gc_some h
    rw [← er_1]
    obtain ⟨r_3, g_5, hc_4, h⟩ := bd2_some h
    refine x_callV (n := 2) (As := [.ref (Θ.2.2.1 37), .ref (Θ.2.2.1 r_1)]) (rest := []) C hM (tX5_parse l Θ r_1 hr_2 h0 g r_3 g_5 hc_4) (x_recvX C hM 39 (by decide) (eX_39 Θ _) rfl rfl) q_c_X5_parse q_mX11_216 q_i_X5_parse q_e_X5_parse q_n_X5 (by decide +kernel) ⟨by decide, by decide⟩ rfl hl.1 rfl (Nat.le_of_ble_eq_true rfl) (kX11_rules (i := 6) rfl) (fun H locs hM => ?_)
    refine x_iconst hx hb (kX11_rules (i := 7) rfl) ?_
    refine x_icmp_eq (a' := wr r_3) (b' := (-1)) hx hb rfl (by decide) (tgt := 21) (kX11_rules (i := 8) rfl) (by decide) (fun c_6 => ?_) (fun c_6 => ?_)
    · have h := it_t c_6 h
      refine lv_aload_n hx hb (kX11_rules (i := 11) rfl) rfl (lv_at hl 0 rfl) ?_
      refine gX11_active C hM q_fX11_89 (kX11_rules (i := 12) rfl) ?_
      obtain ⟨r_7, er_7, h⟩ := bnd_some h
      obtain ⟨hr_8, h⟩ := gc_some h
      rw [← er_7]
      refine lv_astore_n (lv' := [(1, .ref (Θ.2.2.1 r_7)), (0, .ref (Θ.2.2.1 0))]) hx hb (kX11_rules (i := 13) rfl) rfl hl (by decide) rfl (fun ls hl => ?_)
      refine lv_aload_n hx hb (kX11_rules (i := 14) rfl) rfl (lv_at hl 1 rfl) ?_
      refine lv_aload_n hx hb (kX11_rules (i := 15) rfl) rfl (lv_at hl 1 rfl) ?_
      refine gX11_spare C hM q_fX11_93 (kX11_rules (i := 16) rfl) ?_
      obtain ⟨r_9, er_9, h⟩ := bnd_some h
      obtain ⟨hr_10, h⟩ := gc_some h
      rw [← er_9]
      obtain ⟨g_11, eg_11, h⟩ := bnd_some h
      refine pX11_active C hM q_fX11_89 eg_11 (kX11_rules (i := 17) rfl) (fun H locs hM => ?_)
      refine lv_aload_n hx hb (kX11_rules (i := 18) rfl) rfl (lv_at hl 1 rfl) ?_
      refine lv_aload_n hx hb (kX11_rules (i := 19) rfl) rfl (lv_at hl 0 rfl) ?_
      obtain ⟨g_12, eg_12, h⟩ := bnd_some h
      refine pX11_spare C hM q_fX11_93 eg_12 (kX11_rules (i := 20) rfl) (fun H locs hM => ?_)
      refine lv_aload_n hx hb (kX11_rules (i := 21) rfl) rfl (lv_at hl 1 rfl) ?_
      refine gX11_text C hM q_fX11_57 (kX11_rules (i := 22) rfl) ?_
      refine x_iconst hx hb (kX11_rules (i := 23) rfl) ?_
      obtain ⟨g_13, eg_13, h⟩ := bnd_some h
      refine pX9_length C hM q_fX11_213 eg_13 (kX11_rules (i := 24) rfl) (fun H locs hM => ?_)
      refine x_iconst hx hb (kX11_rules (i := 25) rfl) ?_
      obtain ⟨q1, q2⟩ := ret2 h
      rw [q1, q2]
      exact x_iret C hM (nar_z (Or.inr rfl)) (kX11_rules (i := 26) rfl)
    · have h := it_f c_6 h
      refine x_iconst hx hb (kX11_rules (i := 9) rfl) ?_
      obtain ⟨q1, q2⟩ := ret2 h
      rw [q1, q2]
      exact x_iret C hM (nar_z (Or.inl rfl)) (kX11_rules (i := 10) rfl)
  exact key _ _ hM

/-! X11_holds -/
def fX11_holds (a0 : Int) (g : Mem) : Option (Int × Mem) :=
  bd (fX11_within a0 0 1) fun r_1 =>
  if wr r_1 = 0 then (
    some ((-1), g)
  ) else (
    if wr (g 24 3) < 600 then (
      bd2 (fX11_clauseHolds 24 a0 g) fun r_5 g_7 =>
      if wr r_5 = 0 then (
        some (0, g_7)
      ) else (
        some (1, g_7)
      )
    ) else (
      some ((-1), g)
    )
  )
set_option maxRecDepth 100000 in
set_option maxHeartbeats 4000000 in
theorem tX11_holds (l : Launch) (Θ : Th) (a0 : Int) (h0 g : Mem) (rv : Int) (gR : Mem) (h : fX11_holds a0 g = some (rv, gR)) : Ct l yX11_holds cX11_holds 2 (some .int) 3 70 Θ [.ref (Θ.2.2.1 0), vi a0] g h0 gR h0 (some (vi rv)) := by
  refine x_start (by decide) (Nat.le_of_ble_eq_true rfl) ?_
  intro p e s m args below meth c ls C hM hl
  have hl : lv_has ls 2 [(0, .ref (Θ.2.2.1 0)), (1, vi a0)] := hl
  obtain ⟨hx, hb, hml, hown, hts, -⟩ := id C
  unfold fX11_holds at h
  have key : ∀ (H : Heap) (locs : List Loc), Hd Θ s g h0 H locs → W p l e { frames := 3, cells := 0, slots := 0, locals := 70 } s m args below meth c H locs 0 0 (MQ below (Qx Θ s.heap.size gR h0 (some (vi rv))) args s 0 0 (AA Θ s.heap.size)) (F0 m 0 ls []) := by
    intro H locs hM
    refine x_iload_n hx hb (kX11_holds (i := 0) rfl) rfl (lv_at hl 1 rfl) ?_
    refine x_iconst hx hb (kX11_holds (i := 1) rfl) ?_
    refine x_iconst hx hb (kX11_holds (i := 2) rfl) ?_
    obtain ⟨r_1, hc_2, h⟩ := bd_some h
    refine x_callS (n := 3) (As := [vi a0, vi 0, vi 1]) (rest := []) C hM (tX11_within l Θ a0 0 1 h0 g r_1 hc_2) q_c_X11_within q_mX11_109 q_s_X11_within q_n_X11 (by decide +kernel) ⟨by decide, by decide⟩ rfl hl.1 rfl (Nat.le_of_ble_eq_true rfl) (kX11_holds (i := 3) rfl) (fun H locs hM => ?_)
    refine x_if_eq (a' := wr r_1) hx hb rfl (tgt := 22) (kX11_holds (i := 4) rfl) (by decide) (fun c_3 => ?_) (fun c_3 => ?_)
    · have h := it_t c_3 h
      refine x_iconst hx hb (kX11_holds (i := 10) rfl) ?_
      obtain ⟨q1, q2⟩ := ret2 h
      rw [q1, q2]
      exact x_iret C hM (nar_i _) (kX11_holds (i := 11) rfl)
    · have h := it_f c_3 h
      refine lv_aload_n hx hb (kX11_holds (i := 5) rfl) rfl (lv_at hl 0 rfl) ?_
      refine gX11_ship C hM q_fX11_40 (kX11_holds (i := 6) rfl) ?_
      refine gX0_now 24 (Or.inl rfl) C hM q_fX11_186 (kX11_holds (i := 7) rfl) ?_
      refine x_sipush hx hb (by decide) (kX11_holds (i := 8) rfl) ?_
      refine x_icmp_lt (a' := wr (g 24 3)) (b' := 600) hx hb rfl (by decide) (tgt := 24) (kX11_holds (i := 9) rfl) (by decide) (fun c_4 => ?_) (fun c_4 => ?_)
      · have h := it_t c_4 h
        refine lv_aload_n hx hb (kX11_holds (i := 12) rfl) rfl (lv_at hl 0 rfl) ?_
        refine x_iload_n hx hb (kX11_holds (i := 13) rfl) rfl (lv_at hl 1 rfl) ?_
        refine lv_aload_n hx hb (kX11_holds (i := 14) rfl) rfl (lv_at hl 0 rfl) ?_
        refine gX11_ship C hM q_fX11_40 (kX11_holds (i := 15) rfl) ?_
        obtain ⟨r_5, g_7, hc_6, h⟩ := bd2_some h
        refine x_callV (n := 2) (As := [vi a0, .ref (Θ.2.2.1 24)]) (rest := []) C hM (tX11_clauseHolds l Θ 24 (Or.inl rfl) a0 h0 g r_5 g_7 hc_6) (x_recvX C hM 0 (by decide) (eX_0 Θ _) rfl rfl) q_c_X11_clauseHolds q_mX11_220 q_i_X11_clauseHolds q_e_X11_clauseHolds q_n_X11 (by decide +kernel) ⟨by decide, by decide⟩ rfl hl.1 rfl (Nat.le_of_ble_eq_true rfl) (kX11_holds (i := 16) rfl) (fun H locs hM => ?_)
        refine x_if_eq (a' := wr r_5) hx hb rfl (tgt := 40) (kX11_holds (i := 17) rfl) (by decide) (fun c_8 => ?_) (fun c_8 => ?_)
        · have h := it_t c_8 h
          refine x_iconst hx hb (kX11_holds (i := 20) rfl) ?_
          obtain ⟨q1, q2⟩ := ret2 h
          rw [q1, q2]
          exact x_iret C hM (nar_i _) (kX11_holds (i := 21) rfl)
        · have h := it_f c_8 h
          refine x_iconst hx hb (kX11_holds (i := 18) rfl) ?_
          refine lv_goto (tgt := 41) hx hb (kX11_holds (i := 19) rfl) (by decide) ?_
          obtain ⟨q1, q2⟩ := ret2 h
          rw [q1, q2]
          exact x_iret C hM (nar_i _) (kX11_holds (i := 21) rfl)
      · have h := it_f c_4 h
        refine x_iconst hx hb (kX11_holds (i := 10) rfl) ?_
        obtain ⟨q1, q2⟩ := ret2 h
        rw [q1, q2]
        exact x_iret C hM (nar_i _) (kX11_holds (i := 11) rfl)
  exact key _ _ hM

/-! X11_tryOut -/
def fX11_tryOut_L25 : Nat → Int → Int → Int → Int → Mem → Option (Int × Mem)
  | 0, _, _, _, _, _ => none
  | n + 1, y1, y2, y3, y4, g =>
    if wr y1 ≤ wr y4 then (
      some (y3, g)
    ) else (
      if 600 ≤ wr (g 28 3) then (
        some (y3, g)
      ) else (
        if wr (g 28 10) = 0 then (
          bd (fX11_sway 28 y2 g) fun g_10 =>
          bnd (mMax y3 (mAbs (g_10 28 4))) fun x_11 =>
          bnd (y4 + 1) fun x_12 =>
          fX11_tryOut_L25 n y1 y2 x_11 x_12 g_10
        ) else (
          some (y3, g)
        )
      )
    )
def fX11_tryOut (a0 : Int) (a1 : Int) (g : Mem) : Option (Int × Mem) :=
  bd (fX0_copyFrom g) fun g_3 =>
  bnd (mAbs (g_3 28 4)) fun x_4 =>
  fX11_tryOut_L25 fuel a0 a1 x_4 0 g_3
set_option maxRecDepth 100000 in
set_option maxHeartbeats 4000000 in
theorem wX11_tryOut_L25 {p : Program} {l : Launch} {e : Env} {s : State} {m : MethodId} {args : Array Value} {below : List Frame} {meth : Method} {c : Code} {Θ : Th} {h0 : Mem} {rv : Int} {gR : Mem} (C : Cx p s m args meth c cX11_tryOut 5 RX11 (some .int) Θ) : ∀ (n : Nat) (y1 : Int) (y2 : Int) (y3 : Int) (y4 : Int) (g : Mem) (H : Heap) (locs : List Loc) (ls : Array Slot), fX11_tryOut_L25 n y1 y2 y3 y4 g = some (rv, gR) → Hd Θ s g h0 H locs → lv_has ls 5 [(0, .ref (Θ.2.2.1 0)), (1, vi y1), (2, vi y2), (3, vi y3), (4, vi y4)] → W p l e { frames := 5, cells := 0, slots := 0, locals := 121 } s m args below meth c H locs 0 0 (MQ below (Qx Θ s.heap.size gR h0 (some (vi rv))) args s 0 0 (AA Θ s.heap.size)) (F0 m 25 ls []) := by
  intro n
  obtain ⟨hx, hb, hml, hown, hts, -⟩ := id C
  induction n with
  | zero => intro y1 y2 y3 y4 g H locs ls h; cases h
  | succ n ih =>
    intro y1 y2 y3 y4 g H locs ls h  hM hl
    rw [fX11_tryOut_L25] at h
    refine x_iload hx hb (kX11_tryOut (i := 12) rfl) (lv_at hl 4 rfl) ?_
    refine x_iload_n hx hb (kX11_tryOut (i := 13) rfl) rfl (lv_at hl 1 rfl) ?_
    refine x_icmp_ge (a' := wr y4) (b' := wr y1) hx hb rfl rfl (tgt := 84) (kX11_tryOut (i := 14) rfl) (by decide) (fun c_5 => ?_) (fun c_5 => ?_)
    · have h := it_t c_5 h
      refine x_iload_n hx hb (kX11_tryOut (i := 38) rfl) rfl (lv_at hl 3 rfl) ?_
      obtain ⟨q1, q2⟩ := ret2 h
      rw [q1, q2]
      exact x_iret C hM (nar_i _) (kX11_tryOut (i := 39) rfl)
    · have h := it_f c_5 h
      refine lv_aload_n hx hb (kX11_tryOut (i := 15) rfl) rfl (lv_at hl 0 rfl) ?_
      refine gX11_trial C hM q_fX11_44 (kX11_tryOut (i := 16) rfl) ?_
      refine gX0_now 28 (Or.inr rfl) C hM q_fX11_186 (kX11_tryOut (i := 17) rfl) ?_
      refine x_sipush hx hb (by decide) (kX11_tryOut (i := 18) rfl) ?_
      refine x_icmp_ge (a' := wr (g 28 3)) (b' := 600) hx hb rfl (by decide) (tgt := 84) (kX11_tryOut (i := 19) rfl) (by decide) (fun c_6 => ?_) (fun c_6 => ?_)
      · have h := it_t c_6 h
        refine x_iload_n hx hb (kX11_tryOut (i := 38) rfl) rfl (lv_at hl 3 rfl) ?_
        obtain ⟨q1, q2⟩ := ret2 h
        rw [q1, q2]
        exact x_iret C hM (nar_i _) (kX11_tryOut (i := 39) rfl)
      · have h := it_f c_6 h
        refine lv_aload_n hx hb (kX11_tryOut (i := 20) rfl) rfl (lv_at hl 0 rfl) ?_
        refine gX11_trial C hM q_fX11_44 (kX11_tryOut (i := 21) rfl) ?_
        refine gX0_over 28 (Or.inr rfl) C hM q_fX11_189 (kX11_tryOut (i := 22) rfl) ?_
        refine x_if_ne (a' := wr (g 28 10)) hx hb rfl (tgt := 84) (kX11_tryOut (i := 23) rfl) (by decide) (fun c_7 => ?_) (fun c_7 => ?_)
        · have h := it_f c_7 h
          refine x_iload_n hx hb (kX11_tryOut (i := 38) rfl) rfl (lv_at hl 3 rfl) ?_
          obtain ⟨q1, q2⟩ := ret2 h
          rw [q1, q2]
          exact x_iret C hM (nar_i _) (kX11_tryOut (i := 39) rfl)
        · have h := it_t c_7 h
          refine lv_aload_n hx hb (kX11_tryOut (i := 24) rfl) rfl (lv_at hl 0 rfl) ?_
          refine lv_aload_n hx hb (kX11_tryOut (i := 25) rfl) rfl (lv_at hl 0 rfl) ?_
          refine gX11_trial C hM q_fX11_44 (kX11_tryOut (i := 26) rfl) ?_
          refine x_iload_n hx hb (kX11_tryOut (i := 27) rfl) rfl (lv_at hl 2 rfl) ?_
          obtain ⟨g_10, hc_9, h⟩ := bd_some h
          refine x_callV (n := 2) (As := [.ref (Θ.2.2.1 28), vi y2]) (rest := []) C hM (tX11_sway l Θ 28 (Or.inr rfl) y2 h0 g g_10 hc_9) (x_recvX C hM 0 (by decide) (eX_0 Θ _) rfl rfl) q_c_X11_sway q_mX11_193 q_i_X11_sway q_e_X11_sway q_n_X11 (by decide +kernel) ⟨by decide, by decide⟩ rfl hl.1 rfl (Nat.le_of_ble_eq_true rfl) (kX11_tryOut (i := 28) rfl) (fun H locs hM => ?_)
          refine x_iload_n hx hb (kX11_tryOut (i := 29) rfl) rfl (lv_at hl 3 rfl) ?_
          refine lv_aload_n hx hb (kX11_tryOut (i := 30) rfl) rfl (lv_at hl 0 rfl) ?_
          refine gX11_trial C hM q_fX11_44 (kX11_tryOut (i := 31) rfl) ?_
          refine gX0_slope 28 (Or.inr rfl) C hM q_fX11_309 (kX11_tryOut (i := 32) rfl) ?_
          refine x_mabs C hl.1 (Nat.le_of_ble_eq_true rfl) (Nat.le_of_ble_eq_true rfl) q_mX11_302 (kX11_tryOut (i := 33) rfl) ?_
          refine x_mmax C hl.1 (Nat.le_of_ble_eq_true rfl) (Nat.le_of_ble_eq_true rfl) q_mX11_312 (kX11_tryOut (i := 34) rfl) ?_
          obtain ⟨x_11, ex_11, h⟩ := bnd_some h
          refine x_top ex_11 ?_
          refine x_istore_n (lv' := [(3, vi x_11), (0, .ref (Θ.2.2.1 0)), (1, vi y1), (2, vi y2), (4, vi y4)]) hx hb (kX11_tryOut (i := 35) rfl) rfl hl (by decide) rfl (fun ls hl => ?_)
          obtain ⟨x_12, ex_12, h⟩ := bnd_some h
          refine x_iinc (k := 4) (lv' := [(4, vi x_12), (3, vi x_11), (0, .ref (Θ.2.2.1 0)), (1, vi y1), (2, vi y2)]) hx hb (kX11_tryOut (i := 36) rfl) hl rfl ex_12 (by decide) rfl (fun ls hl => ?_)
          refine lv_goto (tgt := 25) hx hb (kX11_tryOut (i := 37) rfl) (by decide) ?_
          exact ih y1 y2 x_11 x_12 g_10 H locs ls h hM (lv_sub hl [2, 3, 4, 1, 0] rfl)
set_option maxRecDepth 100000 in
set_option maxHeartbeats 4000000 in
theorem tX11_tryOut (l : Launch) (Θ : Th) (a0 : Int) (a1 : Int) (h0 g : Mem) (rv : Int) (gR : Mem) (h : fX11_tryOut a0 a1 g = some (rv, gR)) : Ct l yX11_tryOut cX11_tryOut 5 (some .int) 5 121 Θ [.ref (Θ.2.2.1 0), vi a0, vi a1] g h0 gR h0 (some (vi rv)) := by
  refine x_start (by decide) (Nat.le_of_ble_eq_true rfl) ?_
  intro p e s m args below meth c ls C hM hl
  have hl : lv_has ls 5 [(0, .ref (Θ.2.2.1 0)), (1, vi a0), (2, vi a1)] := hl
  obtain ⟨hx, hb, hml, hown, hts, -⟩ := id C
  unfold fX11_tryOut at h
  have key : ∀ (H : Heap) (locs : List Loc), Hd Θ s g h0 H locs → W p l e { frames := 5, cells := 0, slots := 0, locals := 121 } s m args below meth c H locs 0 0 (MQ below (Qx Θ s.heap.size gR h0 (some (vi rv))) args s 0 0 (AA Θ s.heap.size)) (F0 m 0 ls []) := by
    intro H locs hM
    refine lv_aload_n hx hb (kX11_tryOut (i := 0) rfl) rfl (lv_at hl 0 rfl) ?_
    refine gX11_trial C hM q_fX11_44 (kX11_tryOut (i := 1) rfl) ?_
    refine lv_aload_n hx hb (kX11_tryOut (i := 2) rfl) rfl (lv_at hl 0 rfl) ?_
    refine gX11_ship C hM q_fX11_40 (kX11_tryOut (i := 3) rfl) ?_
    obtain ⟨g_3, hc_2, h⟩ := bd_some h
    refine x_callV (n := 1) (As := [.ref (Θ.2.2.1 24)]) (rest := []) C hM (tX0_copyFrom l Θ h0 g g_3 hc_2) (x_recvX C hM 28 (isB_lt (Or.inr rfl)) (eX_isB (Or.inr rfl) _) rfl rfl) q_c_X0_copyFrom q_mX11_305 q_i_X0_copyFrom q_e_X0_copyFrom q_n_X0 (by decide +kernel) ⟨by decide, by decide⟩ rfl hl.1 rfl (Nat.le_of_ble_eq_true rfl) (kX11_tryOut (i := 4) rfl) (fun H locs hM => ?_)
    refine lv_aload_n hx hb (kX11_tryOut (i := 5) rfl) rfl (lv_at hl 0 rfl) ?_
    refine gX11_trial C hM q_fX11_44 (kX11_tryOut (i := 6) rfl) ?_
    refine gX0_slope 28 (Or.inr rfl) C hM q_fX11_309 (kX11_tryOut (i := 7) rfl) ?_
    refine x_mabs C hl.1 (Nat.le_of_ble_eq_true rfl) (Nat.le_of_ble_eq_true rfl) q_mX11_302 (kX11_tryOut (i := 8) rfl) ?_
    obtain ⟨x_4, ex_4, h⟩ := bnd_some h
    refine x_top ex_4 ?_
    refine x_istore_n (lv' := [(3, vi x_4), (0, .ref (Θ.2.2.1 0)), (1, vi a0), (2, vi a1)]) hx hb (kX11_tryOut (i := 9) rfl) rfl hl (by decide) rfl (fun ls hl => ?_)
    refine x_iconst hx hb (kX11_tryOut (i := 10) rfl) ?_
    refine x_istore (lv' := [(4, vi 0), (3, vi x_4), (0, .ref (Θ.2.2.1 0)), (1, vi a0), (2, vi a1)]) hx hb (kX11_tryOut (i := 11) rfl) hl (by decide) rfl (fun ls hl => ?_)
    refine wX11_tryOut_L25  C fuel a0 a1 x_4 0 g_3 H locs ls h  hM (lv_sub hl [2, 3, 4, 1, 0] rfl)
  exact key _ _ hM

/-! X11_tried -/
def fX11_tried (a0 : Int) (a1 : Int) (g : Mem) : Option (Int × Mem) :=
  bd (fX11_within a0 0 120) fun r_1 =>
  if wr r_1 = 0 then (
    some ((-1), g)
  ) else (
    bd (fX11_within a1 0 2) fun r_4 =>
    if wr r_4 = 0 then (
      some ((-1), g)
    ) else (
      bd2 (fX11_tryOut a0 (g 0 17) g) fun r_7 g_9 =>
      if wr a1 = 0 then (
        some (r_7, g_9)
      ) else (
        if wr a1 = 1 then (
          some (g_9 28 7, g_9)
        ) else (
          some (g_9 28 8, g_9)
        )
      )
    )
  )
set_option maxRecDepth 100000 in
set_option maxHeartbeats 4000000 in
theorem tX11_tried (l : Launch) (Θ : Th) (a0 : Int) (a1 : Int) (h0 g : Mem) (rv : Int) (gR : Mem) (h : fX11_tried a0 a1 g = some (rv, gR)) : Ct l yX11_tried cX11_tried 4 (some .int) 6 145 Θ [.ref (Θ.2.2.1 0), vi a0, vi a1] g h0 gR h0 (some (vi rv)) := by
  refine x_start (by decide) (Nat.le_of_ble_eq_true rfl) ?_
  intro p e s m args below meth c ls C hM hl
  have hl : lv_has ls 4 [(0, .ref (Θ.2.2.1 0)), (1, vi a0), (2, vi a1)] := hl
  obtain ⟨hx, hb, hml, hown, hts, -⟩ := id C
  unfold fX11_tried at h
  have key : ∀ (H : Heap) (locs : List Loc), Hd Θ s g h0 H locs → W p l e { frames := 6, cells := 0, slots := 0, locals := 145 } s m args below meth c H locs 0 0 (MQ below (Qx Θ s.heap.size gR h0 (some (vi rv))) args s 0 0 (AA Θ s.heap.size)) (F0 m 0 ls []) := by
    intro H locs hM
    refine x_iload_n hx hb (kX11_tried (i := 0) rfl) rfl (lv_at hl 1 rfl) ?_
    refine x_iconst hx hb (kX11_tried (i := 1) rfl) ?_
    refine x_bipush hx hb (by decide) (kX11_tried (i := 2) rfl) ?_
    obtain ⟨r_1, hc_2, h⟩ := bd_some h
    refine x_callS (n := 3) (As := [vi a0, vi 0, vi 120]) (rest := []) C hM (tX11_within l Θ a0 0 120 h0 g r_1 hc_2) q_c_X11_within q_mX11_109 q_s_X11_within q_n_X11 (by decide +kernel) ⟨by decide, by decide⟩ rfl hl.1 rfl (Nat.le_of_ble_eq_true rfl) (kX11_tried (i := 3) rfl) (fun H locs hM => ?_)
    refine x_if_eq (a' := wr r_1) hx hb rfl (tgt := 19) (kX11_tried (i := 4) rfl) (by decide) (fun c_3 => ?_) (fun c_3 => ?_)
    · have h := it_t c_3 h
      refine x_iconst hx hb (kX11_tried (i := 10) rfl) ?_
      obtain ⟨q1, q2⟩ := ret2 h
      rw [q1, q2]
      exact x_iret C hM (nar_i _) (kX11_tried (i := 11) rfl)
    · have h := it_f c_3 h
      refine x_iload_n hx hb (kX11_tried (i := 5) rfl) rfl (lv_at hl 2 rfl) ?_
      refine x_iconst hx hb (kX11_tried (i := 6) rfl) ?_
      refine x_iconst hx hb (kX11_tried (i := 7) rfl) ?_
      obtain ⟨r_4, hc_5, h⟩ := bd_some h
      refine x_callS (n := 3) (As := [vi a1, vi 0, vi 2]) (rest := []) C hM (tX11_within l Θ a1 0 2 h0 g r_4 hc_5) q_c_X11_within q_mX11_109 q_s_X11_within q_n_X11 (by decide +kernel) ⟨by decide, by decide⟩ rfl hl.1 rfl (Nat.le_of_ble_eq_true rfl) (kX11_tried (i := 8) rfl) (fun H locs hM => ?_)
      refine x_if_ne (a' := wr r_4) hx hb rfl (tgt := 21) (kX11_tried (i := 9) rfl) (by decide) (fun c_6 => ?_) (fun c_6 => ?_)
      · have h := it_f c_6 h
        refine lv_aload_n hx hb (kX11_tried (i := 12) rfl) rfl (lv_at hl 0 rfl) ?_
        refine x_iload_n hx hb (kX11_tried (i := 13) rfl) rfl (lv_at hl 1 rfl) ?_
        refine lv_aload_n hx hb (kX11_tried (i := 14) rfl) rfl (lv_at hl 0 rfl) ?_
        refine gX11_fins C hM q_fX11_106 (kX11_tried (i := 15) rfl) ?_
        obtain ⟨r_7, g_9, hc_8, h⟩ := bd2_some h
        refine x_callV (n := 2) (As := [vi a0, vi (g 0 17)]) (rest := []) C hM (tX11_tryOut l Θ a0 (g 0 17) h0 g r_7 g_9 hc_8) (x_recvX C hM 0 (by decide) (eX_0 Θ _) rfl rfl) q_c_X11_tryOut q_mX11_224 q_i_X11_tryOut q_e_X11_tryOut q_n_X11 (by decide +kernel) ⟨by decide, by decide⟩ rfl hl.1 rfl (Nat.le_of_ble_eq_true rfl) (kX11_tried (i := 16) rfl) (fun H locs hM => ?_)
        refine x_istore_n (lv' := [(3, vi r_7), (0, .ref (Θ.2.2.1 0)), (1, vi a0), (2, vi a1)]) hx hb (kX11_tried (i := 17) rfl) rfl hl (by decide) rfl (fun ls hl => ?_)
        refine x_iload_n hx hb (kX11_tried (i := 18) rfl) rfl (lv_at hl 3 rfl) ?_
        refine x_if_ne (a' := wr a1) hx hb rfl (tgt := 37) (kX11_tried (i := 19) rfl) (by decide) (fun c_10 => ?_) (fun c_10 => ?_)
        · have h := it_f c_10 h
          refine x_iload_n hx hb (kX11_tried (i := 22) rfl) rfl (lv_at hl 3 rfl) ?_
          refine x_iconst hx hb (kX11_tried (i := 23) rfl) ?_
          refine x_icmp_ne (a' := wr a1) (b' := 1) hx hb rfl (by decide) (tgt := 52) (kX11_tried (i := 24) rfl) (by decide) (fun c_11 => ?_) (fun c_11 => ?_)
          · have h := it_f c_11 h
            refine lv_aload_n hx hb (kX11_tried (i := 29) rfl) rfl (lv_at hl 1 rfl) ?_
            refine gX11_trial C hM q_fX11_44 (kX11_tried (i := 30) rfl) ?_
            refine gX0_worked 28 (Or.inr rfl) C hM q_fX11_230 (kX11_tried (i := 31) rfl) ?_
            obtain ⟨q1, q2⟩ := ret2 h
            rw [q1, q2]
            exact x_iret C hM (nar_i _) (kX11_tried (i := 32) rfl)
          · have h := it_t c_11 h
            refine lv_aload_n hx hb (kX11_tried (i := 25) rfl) rfl (lv_at hl 1 rfl) ?_
            refine gX11_trial C hM q_fX11_44 (kX11_tried (i := 26) rfl) ?_
            refine gX0_sick 28 (Or.inr rfl) C hM q_fX11_227 (kX11_tried (i := 27) rfl) ?_
            refine lv_goto (tgt := 59) hx hb (kX11_tried (i := 28) rfl) (by decide) ?_
            obtain ⟨q1, q2⟩ := ret2 h
            rw [q1, q2]
            exact x_iret C hM (nar_i _) (kX11_tried (i := 32) rfl)
        · have h := it_t c_10 h
          refine x_iload_n hx hb (kX11_tried (i := 20) rfl) rfl (lv_at hl 0 rfl) ?_
          obtain ⟨q1, q2⟩ := ret2 h
          rw [q1, q2]
          exact x_iret C hM (nar_i _) (kX11_tried (i := 21) rfl)
      · have h := it_t c_6 h
        refine x_iconst hx hb (kX11_tried (i := 10) rfl) ?_
        obtain ⟨q1, q2⟩ := ret2 h
        rw [q1, q2]
        exact x_iret C hM (nar_i _) (kX11_tried (i := 11) rfl)
  exact key _ _ hM

/-! X11_still -/
def fX11_still_L24 : Nat → Int → Int → Int → Int → Mem → Option (Int × Mem)
  | 0, _, _, _, _, _ => none
  | n + 1, y1, y2, y3, y4, g =>
    if 9 < wr y4 then (
      some (y2, g)
    ) else (
      bd2 (fX11_tryOut y1 y4 g) fun r_8 g_10 =>
      jn (fun (p_11 : Int) (p_12 : Int) =>
        bnd (y4 + 1) fun x_13 =>
        fX11_still_L24 n y1 p_11 p_12 x_13 g_10
      ) fun J52 =>
      if wr y3 ≤ wr r_8 then (
        J52 y2 y3
      ) else (
        J52 y4 r_8
      )
    )
def fX11_still (a0 : Int) (g : Mem) : Option (Int × Mem) :=
  bd (fX11_within a0 0 120) fun r_1 =>
  if wr r_1 = 0 then (
    some ((-1), g)
  ) else (
    bd2 (fX11_tryOut a0 0 g) fun r_4 g_6 =>
    fX11_still_L24 fuel a0 0 r_4 1 g_6
  )
set_option maxRecDepth 100000 in
set_option maxHeartbeats 4000000 in
theorem wX11_still_L24 {p : Program} {l : Launch} {e : Env} {s : State} {m : MethodId} {args : Array Value} {below : List Frame} {meth : Method} {c : Code} {Θ : Th} {h0 : Mem} {rv : Int} {gR : Mem} (C : Cx p s m args meth c cX11_still 6 RX11 (some .int) Θ) : ∀ (n : Nat) (y1 : Int) (y2 : Int) (y3 : Int) (y4 : Int) (g : Mem) (H : Heap) (locs : List Loc) (ls : Array Slot), fX11_still_L24 n y1 y2 y3 y4 g = some (rv, gR) → Hd Θ s g h0 H locs → lv_has ls 6 [(0, .ref (Θ.2.2.1 0)), (1, vi y1), (2, vi y2), (3, vi y3), (4, vi y4)] → W p l e { frames := 6, cells := 0, slots := 0, locals := 145 } s m args below meth c H locs 0 0 (MQ below (Qx Θ s.heap.size gR h0 (some (vi rv))) args s 0 0 (AA Θ s.heap.size)) (F0 m 24 ls []) := by
  intro n
  obtain ⟨hx, hb, hml, hown, hts, -⟩ := id C
  induction n with
  | zero => intro y1 y2 y3 y4 g H locs ls h; cases h
  | succ n ih =>
    intro y1 y2 y3 y4 g H locs ls h  hM hl
    rw [fX11_still_L24] at h
    refine x_iload hx hb (kX11_still (i := 16) rfl) (lv_at hl 4 rfl) ?_
    refine x_bipush hx hb (by decide) (kX11_still (i := 17) rfl) ?_
    refine x_icmp_gt (a' := wr y4) (b' := 9) hx hb rfl (by decide) (tgt := 58) (kX11_still (i := 18) rfl) (by decide) (fun c_7 => ?_) (fun c_7 => ?_)
    · have h := it_t c_7 h
      refine x_iload_n hx hb (kX11_still (i := 33) rfl) rfl (lv_at hl 2 rfl) ?_
      obtain ⟨q1, q2⟩ := ret2 h
      rw [q1, q2]
      exact x_iret C hM (nar_i _) (kX11_still (i := 34) rfl)
    · have h := it_f c_7 h
      refine lv_aload_n hx hb (kX11_still (i := 19) rfl) rfl (lv_at hl 0 rfl) ?_
      refine x_iload_n hx hb (kX11_still (i := 20) rfl) rfl (lv_at hl 1 rfl) ?_
      refine x_iload hx hb (kX11_still (i := 21) rfl) (lv_at hl 4 rfl) ?_
      obtain ⟨r_8, g_10, hc_9, h⟩ := bd2_some h
      refine x_callV (n := 2) (As := [vi y1, vi y4]) (rest := []) C hM (tX11_tryOut l Θ y1 y4 h0 g r_8 g_10 hc_9) (x_recvX C hM 0 (by decide) (eX_0 Θ _) rfl rfl) q_c_X11_tryOut q_mX11_224 q_i_X11_tryOut q_e_X11_tryOut q_n_X11 (by decide +kernel) ⟨by decide, by decide⟩ rfl hl.1 rfl (Nat.le_of_ble_eq_true rfl) (kX11_still (i := 22) rfl) (fun H locs hM => ?_)
      refine x_istore (lv' := [(5, vi r_8), (0, .ref (Θ.2.2.1 0)), (1, vi y1), (2, vi y2), (3, vi y3), (4, vi y4)]) hx hb (kX11_still (i := 23) rfl) hl (by decide) rfl (fun ls hl => ?_)
      refine x_iload hx hb (kX11_still (i := 24) rfl) (lv_at hl 0 rfl) ?_
      refine x_iload_n hx hb (kX11_still (i := 25) rfl) rfl (lv_at hl 4 rfl) ?_
      refine jn_go h (fun J52 : Int → Int → Option (Int × Mem) => ∀ (p_11 : Int) (p_12 : Int) (H : Heap) (locs : List Loc) (ls : Array Slot), J52 p_11 p_12 = some (rv, gR) → Hd Θ s g_10 h0 H locs → lv_has ls 6 [(0, .ref (Θ.2.2.1 0)), (1, vi y1), (2, vi p_11), (3, vi p_12), (4, vi y4)] → W p l e { frames := 6, cells := 0, slots := 0, locals := 145 } s m args below meth c H locs 0 0 (MQ below (Qx Θ s.heap.size gR h0 (some (vi rv))) args s 0 0 (AA Θ s.heap.size)) (F0 m 52 ls [])) ?_ ?_
      · intro p_11 p_12 H locs ls h hM hl
        obtain ⟨x_13, ex_13, h⟩ := bnd_some h
        refine x_iinc (k := 4) (lv' := [(4, vi x_13), (0, .ref (Θ.2.2.1 0)), (1, vi y1), (2, vi p_11), (3, vi p_12)]) hx hb (kX11_still (i := 31) rfl) hl rfl ex_13 (by decide) rfl (fun ls hl => ?_)
        refine lv_goto (tgt := 24) hx hb (kX11_still (i := 32) rfl) (by decide) ?_
        exact ih y1 p_11 p_12 x_13 g_10 H locs ls h hM (lv_sub hl [1, 2, 3, 4, 0] rfl)
      intro J52 hJ52 h
      refine x_icmp_ge (a' := wr r_8) (b' := wr y3) hx hb rfl rfl (tgt := 52) (kX11_still (i := 26) rfl) (by decide) (fun c_14 => ?_) (fun c_14 => ?_)
      · have h := it_t c_14 h
        exact hJ52 y2 y3 H locs ls h hM (lv_sub hl [1, 2, 3, 4, 5] rfl)
      · have h := it_f c_14 h
        refine x_iload hx hb (kX11_still (i := 27) rfl) (lv_at hl 0 rfl) ?_
        refine x_istore_n (lv' := [(3, vi r_8), (5, vi r_8), (0, .ref (Θ.2.2.1 0)), (1, vi y1), (2, vi y2), (4, vi y4)]) hx hb (kX11_still (i := 28) rfl) rfl hl (by decide) rfl (fun ls hl => ?_)
        refine x_iload hx hb (kX11_still (i := 29) rfl) (lv_at hl 5 rfl) ?_
        refine x_istore_n (lv' := [(2, vi y4), (3, vi r_8), (5, vi r_8), (0, .ref (Θ.2.2.1 0)), (1, vi y1), (4, vi y4)]) hx hb (kX11_still (i := 30) rfl) rfl hl (by decide) rfl (fun ls hl => ?_)
        exact hJ52 y4 r_8 H locs ls h hM (lv_sub hl [3, 4, 0, 1, 5] rfl)
set_option maxRecDepth 100000 in
set_option maxHeartbeats 4000000 in
theorem tX11_still (l : Launch) (Θ : Th) (a0 : Int) (h0 g : Mem) (rv : Int) (gR : Mem) (h : fX11_still a0 g = some (rv, gR)) : Ct l yX11_still cX11_still 6 (some .int) 6 145 Θ [.ref (Θ.2.2.1 0), vi a0] g h0 gR h0 (some (vi rv)) := by
  refine x_start (by decide) (Nat.le_of_ble_eq_true rfl) ?_
  intro p e s m args below meth c ls C hM hl
  have hl : lv_has ls 6 [(0, .ref (Θ.2.2.1 0)), (1, vi a0)] := hl
  obtain ⟨hx, hb, hml, hown, hts, -⟩ := id C
  unfold fX11_still at h
  have key : ∀ (H : Heap) (locs : List Loc), Hd Θ s g h0 H locs → W p l e { frames := 6, cells := 0, slots := 0, locals := 145 } s m args below meth c H locs 0 0 (MQ below (Qx Θ s.heap.size gR h0 (some (vi rv))) args s 0 0 (AA Θ s.heap.size)) (F0 m 0 ls []) := by
    intro H locs hM
    refine x_iload_n hx hb (kX11_still (i := 0) rfl) rfl (lv_at hl 1 rfl) ?_
    refine x_iconst hx hb (kX11_still (i := 1) rfl) ?_
    refine x_bipush hx hb (by decide) (kX11_still (i := 2) rfl) ?_
    obtain ⟨r_1, hc_2, h⟩ := bd_some h
    refine x_callS (n := 3) (As := [vi a0, vi 0, vi 120]) (rest := []) C hM (tX11_within l Θ a0 0 120 h0 g r_1 hc_2) q_c_X11_within q_mX11_109 q_s_X11_within q_n_X11 (by decide +kernel) ⟨by decide, by decide⟩ rfl hl.1 rfl (Nat.le_of_ble_eq_true rfl) (kX11_still (i := 3) rfl) (fun H locs hM => ?_)
    refine x_if_ne (a' := wr r_1) hx hb rfl (tgt := 12) (kX11_still (i := 4) rfl) (by decide) (fun c_3 => ?_) (fun c_3 => ?_)
    · have h := it_f c_3 h
      refine x_iconst hx hb (kX11_still (i := 7) rfl) ?_
      refine x_istore_n (lv' := [(2, vi 0), (0, .ref (Θ.2.2.1 0)), (1, vi a0)]) hx hb (kX11_still (i := 8) rfl) rfl hl (by decide) rfl (fun ls hl => ?_)
      refine lv_aload_n hx hb (kX11_still (i := 9) rfl) rfl (lv_at hl 1 rfl) ?_
      refine x_iload_n hx hb (kX11_still (i := 10) rfl) rfl (lv_at hl 2 rfl) ?_
      refine x_iconst hx hb (kX11_still (i := 11) rfl) ?_
      obtain ⟨r_4, g_6, hc_5, h⟩ := bd2_some h
      refine x_callV (n := 2) (As := [vi a0, vi 0]) (rest := []) C hM (tX11_tryOut l Θ a0 0 h0 g r_4 g_6 hc_5) (x_recvX C hM 0 (by decide) (eX_0 Θ _) rfl rfl) q_c_X11_tryOut q_mX11_224 q_i_X11_tryOut q_e_X11_tryOut q_n_X11 (by decide +kernel) ⟨by decide, by decide⟩ rfl hl.1 rfl (Nat.le_of_ble_eq_true rfl) (kX11_still (i := 12) rfl) (fun H locs hM => ?_)
      refine x_istore_n (lv' := [(3, vi r_4), (2, vi 0), (0, .ref (Θ.2.2.1 0)), (1, vi a0)]) hx hb (kX11_still (i := 13) rfl) rfl hl (by decide) rfl (fun ls hl => ?_)
      refine x_iconst hx hb (kX11_still (i := 14) rfl) ?_
      refine x_istore (lv' := [(4, vi 1), (3, vi r_4), (2, vi 0), (0, .ref (Θ.2.2.1 0)), (1, vi a0)]) hx hb (kX11_still (i := 15) rfl) hl (by decide) rfl (fun ls hl => ?_)
      refine wX11_still_L24  C fuel a0 0 r_4 1 g_6 H locs ls h  hM (lv_sub hl [3, 4, 2, 1, 0] rfl)
    · have h := it_t c_3 h
      refine x_iconst hx hb (kX11_still (i := 5) rfl) ?_
      obtain ⟨q1, q2⟩ := ret2 h
      rw [q1, q2]
      exact x_iret C hM (nar_i _) (kX11_still (i := 6) rfl)
  exact key _ _ hM

/-! X11_hour -/
def fX11_hour (a0 : Int) (a1 : Int) (g : Mem) : Option (Int × Mem) :=
  bd (fX11_within a0 0 60) fun r_1 =>
  if wr r_1 = 0 then (
    some ((-1), g)
  ) else (
    bd (fX11_within a1 4 64) fun r_4 =>
    if wr r_4 = 0 then (
      some ((-1), g)
    ) else (
      bd2 (fX6_addHour a0 a1 g) fun r_7 g_9 =>
      some (r_7, g_9)
    )
  )
set_option maxRecDepth 100000 in
set_option maxHeartbeats 4000000 in
theorem tX11_hour (l : Launch) (Θ : Th) (a0 : Int) (a1 : Int) (h0 g : Mem) (rv : Int) (gR : Mem) (h : fX11_hour a0 a1 g = some (rv, gR)) : Ct l yX11_hour cX11_hour 3 (some .int) 2 45 Θ [.ref (Θ.2.2.1 0), vi a0, vi a1] g h0 gR h0 (some (vi rv)) := by
  refine x_start (by decide) (Nat.le_of_ble_eq_true rfl) ?_
  intro p e s m args below meth c ls C hM hl
  have hl : lv_has ls 3 [(0, .ref (Θ.2.2.1 0)), (1, vi a0), (2, vi a1)] := hl
  obtain ⟨hx, hb, hml, hown, hts, -⟩ := id C
  unfold fX11_hour at h
  have key : ∀ (H : Heap) (locs : List Loc), Hd Θ s g h0 H locs → W p l e { frames := 2, cells := 0, slots := 0, locals := 45 } s m args below meth c H locs 0 0 (MQ below (Qx Θ s.heap.size gR h0 (some (vi rv))) args s 0 0 (AA Θ s.heap.size)) (F0 m 0 ls []) := by
    intro H locs hM
    refine x_iload_n hx hb (kX11_hour (i := 0) rfl) rfl (lv_at hl 1 rfl) ?_
    refine x_iconst hx hb (kX11_hour (i := 1) rfl) ?_
    refine x_bipush hx hb (by decide) (kX11_hour (i := 2) rfl) ?_
    obtain ⟨r_1, hc_2, h⟩ := bd_some h
    refine x_callS (n := 3) (As := [vi a0, vi 0, vi 60]) (rest := []) C hM (tX11_within l Θ a0 0 60 h0 g r_1 hc_2) q_c_X11_within q_mX11_109 q_s_X11_within q_n_X11 (by decide +kernel) ⟨by decide, by decide⟩ rfl hl.1 rfl (Nat.le_of_ble_eq_true rfl) (kX11_hour (i := 3) rfl) (fun H locs hM => ?_)
    refine x_if_eq (a' := wr r_1) hx hb rfl (tgt := 20) (kX11_hour (i := 4) rfl) (by decide) (fun c_3 => ?_) (fun c_3 => ?_)
    · have h := it_t c_3 h
      refine x_iconst hx hb (kX11_hour (i := 10) rfl) ?_
      obtain ⟨q1, q2⟩ := ret2 h
      rw [q1, q2]
      exact x_iret C hM (nar_i _) (kX11_hour (i := 11) rfl)
    · have h := it_f c_3 h
      refine x_iload_n hx hb (kX11_hour (i := 5) rfl) rfl (lv_at hl 2 rfl) ?_
      refine x_iconst hx hb (kX11_hour (i := 6) rfl) ?_
      refine x_bipush hx hb (by decide) (kX11_hour (i := 7) rfl) ?_
      obtain ⟨r_4, hc_5, h⟩ := bd_some h
      refine x_callS (n := 3) (As := [vi a1, vi 4, vi 64]) (rest := []) C hM (tX11_within l Θ a1 4 64 h0 g r_4 hc_5) q_c_X11_within q_mX11_109 q_s_X11_within q_n_X11 (by decide +kernel) ⟨by decide, by decide⟩ rfl hl.1 rfl (Nat.le_of_ble_eq_true rfl) (kX11_hour (i := 8) rfl) (fun H locs hM => ?_)
      refine x_if_ne (a' := wr r_4) hx hb rfl (tgt := 22) (kX11_hour (i := 9) rfl) (by decide) (fun c_6 => ?_) (fun c_6 => ?_)
      · have h := it_f c_6 h
        refine lv_aload_n hx hb (kX11_hour (i := 12) rfl) rfl (lv_at hl 0 rfl) ?_
        refine gX11_route C hM q_fX11_71 (kX11_hour (i := 13) rfl) ?_
        refine x_iload_n hx hb (kX11_hour (i := 14) rfl) rfl (lv_at hl 1 rfl) ?_
        refine x_iload_n hx hb (kX11_hour (i := 15) rfl) rfl (lv_at hl 2 rfl) ?_
        obtain ⟨r_7, g_9, hc_8, h⟩ := bd2_some h
        refine x_callV (n := 2) (As := [vi a0, vi a1]) (rest := []) C hM (tX6_addHour l Θ a0 a1 h0 g r_7 g_9 hc_8) (x_recvX C hM 41 (by decide) (eX_41 Θ _) rfl rfl) q_c_X6_addHour q_mX11_233 q_i_X6_addHour q_e_X6_addHour q_n_X6 (by decide +kernel) ⟨by decide, by decide⟩ rfl hl.1 rfl (Nat.le_of_ble_eq_true rfl) (kX11_hour (i := 16) rfl) (fun H locs hM => ?_)
        obtain ⟨q1, q2⟩ := ret2 h
        rw [q1, q2]
        exact x_iret C hM (nar_i _) (kX11_hour (i := 17) rfl)
      · have h := it_t c_6 h
        refine x_iconst hx hb (kX11_hour (i := 10) rfl) ?_
        obtain ⟨q1, q2⟩ := ret2 h
        rw [q1, q2]
        exact x_iret C hM (nar_i _) (kX11_hour (i := 11) rfl)
  exact key _ _ hM

/-! X11_begin -/
def fX11_begin (a0 : Int) (g : Mem) : Option (Int × Mem) :=
  bd (fX11_within a0 4 64) fun r_1 =>
  if wr r_1 = 0 then (
    some ((-1), g)
  ) else (
    bd2 (fX6_restart a0 g) fun r_4 g_6 =>
    some (r_4, g_6)
  )
set_option maxRecDepth 100000 in
set_option maxHeartbeats 4000000 in
theorem tX11_begin (l : Launch) (Θ : Th) (a0 : Int) (h0 g : Mem) (rv : Int) (gR : Mem) (h : fX11_begin a0 g = some (rv, gR)) : Ct l yX11_begin cX11_begin 2 (some .int) 1 22 Θ [.ref (Θ.2.2.1 0), vi a0] g h0 gR h0 (some (vi rv)) := by
  refine x_start (by decide) (Nat.le_of_ble_eq_true rfl) ?_
  intro p e s m args below meth c ls C hM hl
  have hl : lv_has ls 2 [(0, .ref (Θ.2.2.1 0)), (1, vi a0)] := hl
  obtain ⟨hx, hb, hml, hown, hts, -⟩ := id C
  unfold fX11_begin at h
  have key : ∀ (H : Heap) (locs : List Loc), Hd Θ s g h0 H locs → W p l e { frames := 1, cells := 0, slots := 0, locals := 22 } s m args below meth c H locs 0 0 (MQ below (Qx Θ s.heap.size gR h0 (some (vi rv))) args s 0 0 (AA Θ s.heap.size)) (F0 m 0 ls []) := by
    intro H locs hM
    refine x_iload_n hx hb (kX11_begin (i := 0) rfl) rfl (lv_at hl 1 rfl) ?_
    refine x_iconst hx hb (kX11_begin (i := 1) rfl) ?_
    refine x_bipush hx hb (by decide) (kX11_begin (i := 2) rfl) ?_
    obtain ⟨r_1, hc_2, h⟩ := bd_some h
    refine x_callS (n := 3) (As := [vi a0, vi 4, vi 64]) (rest := []) C hM (tX11_within l Θ a0 4 64 h0 g r_1 hc_2) q_c_X11_within q_mX11_109 q_s_X11_within q_n_X11 (by decide +kernel) ⟨by decide, by decide⟩ rfl hl.1 rfl (Nat.le_of_ble_eq_true rfl) (kX11_begin (i := 3) rfl) (fun H locs hM => ?_)
    refine x_if_ne (a' := wr r_1) hx hb rfl (tgt := 12) (kX11_begin (i := 4) rfl) (by decide) (fun c_3 => ?_) (fun c_3 => ?_)
    · have h := it_f c_3 h
      refine lv_aload_n hx hb (kX11_begin (i := 7) rfl) rfl (lv_at hl 0 rfl) ?_
      refine gX11_route C hM q_fX11_71 (kX11_begin (i := 8) rfl) ?_
      refine x_iload_n hx hb (kX11_begin (i := 9) rfl) rfl (lv_at hl 1 rfl) ?_
      obtain ⟨r_4, g_6, hc_5, h⟩ := bd2_some h
      refine x_callV (n := 1) (As := [vi a0]) (rest := []) C hM (tX6_restart l Θ a0 h0 g r_4 g_6 hc_5) (x_recvX C hM 41 (by decide) (eX_41 Θ _) rfl rfl) q_c_X6_restart q_mX11_236 q_i_X6_restart q_e_X6_restart q_n_X6 (by decide +kernel) ⟨by decide, by decide⟩ rfl hl.1 rfl (Nat.le_of_ble_eq_true rfl) (kX11_begin (i := 10) rfl) (fun H locs hM => ?_)
      obtain ⟨q1, q2⟩ := ret2 h
      rw [q1, q2]
      exact x_iret C hM (nar_i _) (kX11_begin (i := 11) rfl)
    · have h := it_t c_3 h
      refine x_iconst hx hb (kX11_begin (i := 5) rfl) ?_
      obtain ⟨q1, q2⟩ := ret2 h
      rw [q1, q2]
      exact x_iret C hM (nar_i _) (kX11_begin (i := 6) rfl)
  exact key _ _ hM

/-! X11_best -/
def fX11_best (a0 : Int) (a1 : Int) (g : Mem) : Option (Int × Mem) :=
  bd (fX11_within a0 0 36) fun r_1 =>
  if wr r_1 = 0 then (
    some ((-1), g)
  ) else (
    bd (fX6_solve g) fun g_6 =>
    bd (fX6_leastQueasy a0 g_6) fun r_7 =>
    if wr r_7 = (-1) then (
      some (r_7, g_6)
    ) else (
      if wr a1 = (-1) then (
        some (r_7, g_6)
      ) else (
        bd (fX6_milesIn a1 a0 g_6) fun r_11 =>
        some (r_11, g_6)
      )
    )
  )
set_option maxRecDepth 100000 in
set_option maxHeartbeats 4000000 in
theorem tX11_best (l : Launch) (Θ : Th) (a0 : Int) (a1 : Int) (h0 g : Mem) (rv : Int) (gR : Mem) (h : fX11_best a0 a1 g = some (rv, gR)) : Ct l yX11_best cX11_best 4 (some .int) 3 70 Θ [.ref (Θ.2.2.1 0), vi a0, vi a1] g h0 gR h0 (some (vi rv)) := by
  refine x_start (by decide) (Nat.le_of_ble_eq_true rfl) ?_
  intro p e s m args below meth c ls C hM hl
  have hl : lv_has ls 4 [(0, .ref (Θ.2.2.1 0)), (1, vi a0), (2, vi a1)] := hl
  obtain ⟨hx, hb, hml, hown, hts, -⟩ := id C
  unfold fX11_best at h
  have key : ∀ (H : Heap) (locs : List Loc), Hd Θ s g h0 H locs → W p l e { frames := 3, cells := 0, slots := 0, locals := 70 } s m args below meth c H locs 0 0 (MQ below (Qx Θ s.heap.size gR h0 (some (vi rv))) args s 0 0 (AA Θ s.heap.size)) (F0 m 0 ls []) := by
    intro H locs hM
    refine x_iload_n hx hb (kX11_best (i := 0) rfl) rfl (lv_at hl 1 rfl) ?_
    refine x_iconst hx hb (kX11_best (i := 1) rfl) ?_
    refine x_bipush hx hb (by decide) (kX11_best (i := 2) rfl) ?_
    obtain ⟨r_1, hc_2, h⟩ := bd_some h
    refine x_callS (n := 3) (As := [vi a0, vi 0, vi 36]) (rest := []) C hM (tX11_within l Θ a0 0 36 h0 g r_1 hc_2) q_c_X11_within q_mX11_109 q_s_X11_within q_n_X11 (by decide +kernel) ⟨by decide, by decide⟩ rfl hl.1 rfl (Nat.le_of_ble_eq_true rfl) (kX11_best (i := 3) rfl) (fun H locs hM => ?_)
    refine x_if_ne (a' := wr r_1) hx hb rfl (tgt := 12) (kX11_best (i := 4) rfl) (by decide) (fun c_3 => ?_) (fun c_3 => ?_)
    · have h := it_f c_3 h
      refine lv_aload_n hx hb (kX11_best (i := 7) rfl) rfl (lv_at hl 0 rfl) ?_
      refine gX11_route C hM q_fX11_71 (kX11_best (i := 8) rfl) ?_
      obtain ⟨g_6, hc_5, h⟩ := bd_some h
      refine x_callV (n := 0) (As := []) (rest := []) C hM (tX6_solve l Θ h0 g g_6 hc_5) (x_recvX C hM 41 (by decide) (eX_41 Θ _) rfl rfl) q_c_X6_solve q_mX11_239 q_i_X6_solve q_e_X6_solve q_n_X6 (by decide +kernel) ⟨by decide, by decide⟩ rfl hl.1 rfl (Nat.le_of_ble_eq_true rfl) (kX11_best (i := 9) rfl) (fun H locs hM => ?_)
      refine lv_aload_n hx hb (kX11_best (i := 10) rfl) rfl (lv_at hl 0 rfl) ?_
      refine gX11_route C hM q_fX11_71 (kX11_best (i := 11) rfl) ?_
      refine x_iload_n hx hb (kX11_best (i := 12) rfl) rfl (lv_at hl 1 rfl) ?_
      obtain ⟨r_7, hc_8, h⟩ := bd_some h
      refine x_callV (n := 1) (As := [vi a0]) (rest := []) C hM (tX6_leastQueasy l Θ a0 h0 g_6 r_7 hc_8) (x_recvX C hM 41 (by decide) (eX_41 Θ _) rfl rfl) q_c_X6_leastQueasy q_mX11_242 q_i_X6_leastQueasy q_e_X6_leastQueasy q_n_X6 (by decide +kernel) ⟨by decide, by decide⟩ rfl hl.1 rfl (Nat.le_of_ble_eq_true rfl) (kX11_best (i := 13) rfl) (fun H locs hM => ?_)
      refine x_istore_n (lv' := [(3, vi r_7), (0, .ref (Θ.2.2.1 0)), (1, vi a0), (2, vi a1)]) hx hb (kX11_best (i := 14) rfl) rfl hl (by decide) rfl (fun ls hl => ?_)
      refine x_iload_n hx hb (kX11_best (i := 15) rfl) rfl (lv_at hl 0 rfl) ?_
      refine x_iconst hx hb (kX11_best (i := 16) rfl) ?_
      refine x_icmp_eq (a' := wr r_7) (b' := (-1)) hx hb rfl (by decide) (tgt := 38) (kX11_best (i := 17) rfl) (by decide) (fun c_9 => ?_) (fun c_9 => ?_)
      · have h := it_t c_9 h
        refine x_iload_n hx hb (kX11_best (i := 21) rfl) rfl (lv_at hl 0 rfl) ?_
        obtain ⟨q1, q2⟩ := ret2 h
        rw [q1, q2]
        exact x_iret C hM (nar_i _) (kX11_best (i := 22) rfl)
      · have h := it_f c_9 h
        refine x_iload_n hx hb (kX11_best (i := 18) rfl) rfl (lv_at hl 3 rfl) ?_
        refine x_iconst hx hb (kX11_best (i := 19) rfl) ?_
        refine x_icmp_ne (a' := wr a1) (b' := (-1)) hx hb rfl (by decide) (tgt := 40) (kX11_best (i := 20) rfl) (by decide) (fun c_10 => ?_) (fun c_10 => ?_)
        · have h := it_f c_10 h
          refine lv_aload_n hx hb (kX11_best (i := 23) rfl) rfl (lv_at hl 1 rfl) ?_
          refine gX11_route C hM q_fX11_71 (kX11_best (i := 24) rfl) ?_
          refine x_iload_n hx hb (kX11_best (i := 25) rfl) rfl (lv_at hl 3 rfl) ?_
          refine x_iload_n hx hb (kX11_best (i := 26) rfl) rfl (lv_at hl 2 rfl) ?_
          obtain ⟨r_11, hc_12, h⟩ := bd_some h
          refine x_callV (n := 2) (As := [vi a1, vi a0]) (rest := []) C hM (tX6_milesIn l Θ a1 a0 h0 g_6 r_11 hc_12) (x_recvX C hM 41 (by decide) (eX_41 Θ _) rfl rfl) q_c_X6_milesIn q_mX11_245 q_i_X6_milesIn q_e_X6_milesIn q_n_X6 (by decide +kernel) ⟨by decide, by decide⟩ rfl hl.1 rfl (Nat.le_of_ble_eq_true rfl) (kX11_best (i := 27) rfl) (fun H locs hM => ?_)
          obtain ⟨q1, q2⟩ := ret2 h
          rw [q1, q2]
          exact x_iret C hM (nar_i _) (kX11_best (i := 28) rfl)
        · have h := it_t c_10 h
          refine x_iload_n hx hb (kX11_best (i := 21) rfl) rfl (lv_at hl 0 rfl) ?_
          obtain ⟨q1, q2⟩ := ret2 h
          rw [q1, q2]
          exact x_iret C hM (nar_i _) (kX11_best (i := 22) rfl)
    · have h := it_t c_3 h
      refine x_iconst hx hb (kX11_best (i := 5) rfl) ?_
      obtain ⟨q1, q2⟩ := ret2 h
      rw [q1, q2]
      exact x_iret C hM (nar_i _) (kX11_best (i := 6) rfl)
  exact key _ _ hM

/-! X11_record -/
def fX11_record (a0 : Int) (g : Mem) : Option (Int × Mem) :=
  bd (fX11_within a0 (-80) 80) fun r_1 =>
  if wr r_1 = 0 then (
    some ((-1), g)
  ) else (
    bd2 (fX8_addNumber a0 g) fun r_4 g_6 =>
    some (r_4, g_6)
  )
set_option maxRecDepth 100000 in
set_option maxHeartbeats 4000000 in
theorem tX11_record (l : Launch) (Θ : Th) (a0 : Int) (h0 g : Mem) (rv : Int) (gR : Mem) (h : fX11_record a0 g = some (rv, gR)) : Ct l yX11_record cX11_record 2 (some .int) 1 22 Θ [.ref (Θ.2.2.1 0), vi a0] g h0 gR h0 (some (vi rv)) := by
  refine x_start (by decide) (Nat.le_of_ble_eq_true rfl) ?_
  intro p e s m args below meth c ls C hM hl
  have hl : lv_has ls 2 [(0, .ref (Θ.2.2.1 0)), (1, vi a0)] := hl
  obtain ⟨hx, hb, hml, hown, hts, -⟩ := id C
  unfold fX11_record at h
  have key : ∀ (H : Heap) (locs : List Loc), Hd Θ s g h0 H locs → W p l e { frames := 1, cells := 0, slots := 0, locals := 22 } s m args below meth c H locs 0 0 (MQ below (Qx Θ s.heap.size gR h0 (some (vi rv))) args s 0 0 (AA Θ s.heap.size)) (F0 m 0 ls []) := by
    intro H locs hM
    refine x_iload_n hx hb (kX11_record (i := 0) rfl) rfl (lv_at hl 1 rfl) ?_
    refine x_bipush hx hb (by decide) (kX11_record (i := 1) rfl) ?_
    refine x_bipush hx hb (by decide) (kX11_record (i := 2) rfl) ?_
    obtain ⟨r_1, hc_2, h⟩ := bd_some h
    refine x_callS (n := 3) (As := [vi a0, vi (-80), vi 80]) (rest := []) C hM (tX11_within l Θ a0 (-80) 80 h0 g r_1 hc_2) q_c_X11_within q_mX11_109 q_s_X11_within q_n_X11 (by decide +kernel) ⟨by decide, by decide⟩ rfl hl.1 rfl (Nat.le_of_ble_eq_true rfl) (kX11_record (i := 3) rfl) (fun H locs hM => ?_)
    refine x_if_ne (a' := wr r_1) hx hb rfl (tgt := 13) (kX11_record (i := 4) rfl) (by decide) (fun c_3 => ?_) (fun c_3 => ?_)
    · have h := it_f c_3 h
      refine lv_aload_n hx hb (kX11_record (i := 7) rfl) rfl (lv_at hl 0 rfl) ?_
      refine gX11_tape C hM q_fX11_78 (kX11_record (i := 8) rfl) ?_
      refine x_iload_n hx hb (kX11_record (i := 9) rfl) rfl (lv_at hl 1 rfl) ?_
      obtain ⟨r_4, g_6, hc_5, h⟩ := bd2_some h
      refine x_callV (n := 1) (As := [vi a0]) (rest := []) C hM (tX8_addNumber l Θ a0 h0 g r_4 g_6 hc_5) (x_recvX C hM 44 (by decide) (eX_44 Θ _) rfl rfl) q_c_X8_addNumber q_mX11_248 q_i_X8_addNumber q_e_X8_addNumber q_n_X8 (by decide +kernel) ⟨by decide, by decide⟩ rfl hl.1 rfl (Nat.le_of_ble_eq_true rfl) (kX11_record (i := 10) rfl) (fun H locs hM => ?_)
      obtain ⟨q1, q2⟩ := ret2 h
      rw [q1, q2]
      exact x_iret C hM (nar_i _) (kX11_record (i := 11) rfl)
    · have h := it_t c_3 h
      refine x_iconst hx hb (kX11_record (i := 5) rfl) ?_
      obtain ⟨q1, q2⟩ := ret2 h
      rw [q1, q2]
      exact x_iret C hM (nar_i _) (kX11_record (i := 6) rfl)
  exact key _ _ hM

/-! X11_clear -/
def fX11_clear (g : Mem) : Option (Int × Mem) :=
  bnd (g 44 1) fun x_1 =>
  bnd (up g 44 1 0) fun g_2 =>
  some (x_1, g_2)
set_option maxRecDepth 100000 in
set_option maxHeartbeats 4000000 in
theorem tX11_clear (l : Launch) (Θ : Th) (h0 g : Mem) (rv : Int) (gR : Mem) (h : fX11_clear g = some (rv, gR)) : Ct l yX11_clear cX11_clear 2 (some .int) 0 0 Θ [.ref (Θ.2.2.1 0)] g h0 gR h0 (some (vi rv)) := by
  refine x_start (by decide) (Nat.le_of_ble_eq_true rfl) ?_
  intro p e s m args below meth c ls C hM hl
  have hl : lv_has ls 2 [(0, .ref (Θ.2.2.1 0))] := hl
  obtain ⟨hx, hb, hml, hown, hts, -⟩ := id C
  unfold fX11_clear at h
  have key : ∀ (H : Heap) (locs : List Loc), Hd Θ s g h0 H locs → W p l e { frames := 0, cells := 0, slots := 0, locals := 0 } s m args below meth c H locs 0 0 (MQ below (Qx Θ s.heap.size gR h0 (some (vi rv))) args s 0 0 (AA Θ s.heap.size)) (F0 m 0 ls []) := by
    intro H locs hM
    refine lv_aload_n hx hb (kX11_clear (i := 0) rfl) rfl (lv_at hl 0 rfl) ?_
    refine gX11_tape C hM q_fX11_78 (kX11_clear (i := 1) rfl) ?_
    refine gX8_count C hM q_fX11_251 (kX11_clear (i := 2) rfl) ?_
    obtain ⟨x_1, ex_1, h⟩ := bnd_some h
    refine x_top ex_1 ?_
    refine x_istore_n (lv' := [(1, vi x_1), (0, .ref (Θ.2.2.1 0))]) hx hb (kX11_clear (i := 3) rfl) rfl hl (by decide) rfl (fun ls hl => ?_)
    refine lv_aload_n hx hb (kX11_clear (i := 4) rfl) rfl (lv_at hl 1 rfl) ?_
    refine gX11_tape C hM q_fX11_78 (kX11_clear (i := 5) rfl) ?_
    refine x_iconst hx hb (kX11_clear (i := 6) rfl) ?_
    obtain ⟨g_2, eg_2, h⟩ := bnd_some h
    refine pX8_count C hM q_fX11_251 eg_2 (kX11_clear (i := 7) rfl) (fun H locs hM => ?_)
    refine x_iload_n hx hb (kX11_clear (i := 8) rfl) rfl (lv_at hl 0 rfl) ?_
    obtain ⟨q1, q2⟩ := ret2 h
    rw [q1, q2]
    exact x_iret C hM (nar_i _) (kX11_clear (i := 9) rfl)
  exact key _ _ hM

/-! X11_findSeen -/
def fX11_findSeen_L18 : Nat → Int → Int → Int → Mem → Option (Int)
  | 0, _, _, _, _ => none
  | n + 1, y1, y2, y3, g =>
    if wr (g 20 3) ≤ wr y3 then (
      some y1
    ) else (
      bd (fX10_along y3 g) fun r_3 =>
      bnd (mAbs r_3) fun x_5 =>
      jn (fun (p_6 : Int) (p_7 : Int) =>
        bnd (y3 + 1) fun x_8 =>
        fX11_findSeen_L18 n p_6 p_7 x_8 g
      ) fun J57 =>
      if wr x_5 ≤ wr y2 then (
        J57 y1 y2
      ) else (
        J57 y3 x_5
      )
    )
def fX11_findSeen (g : Mem) : Option (Int) :=
  if wr (g 44 1) = 0 then (
    some (-1)
  ) else (
    fX11_findSeen_L18 fuel (-1) (-1) 0 g
  )
set_option maxRecDepth 100000 in
set_option maxHeartbeats 4000000 in
theorem wX11_findSeen_L18 {p : Program} {l : Launch} {e : Env} {s : State} {m : MethodId} {args : Array Value} {below : List Frame} {meth : Method} {c : Code} {Θ : Th} {h0 : Mem} {g : Mem} {rv : Int} (C : Cx p s m args meth c cX11_findSeen 5 RX11 (some .int) Θ) : ∀ (n : Nat) (y1 : Int) (y2 : Int) (y3 : Int) (H : Heap) (locs : List Loc) (ls : Array Slot), fX11_findSeen_L18 n y1 y2 y3 g = some rv → Hd Θ s g h0 H locs → lv_has ls 5 [(0, .ref (Θ.2.2.1 0)), (1, vi y1), (2, vi y2), (3, vi y3)] → W p l e { frames := 2, cells := 0, slots := 0, locals := 46 } s m args below meth c H locs 0 0 (MQ below (Qx Θ s.heap.size g h0 (some (vi rv))) args s 0 0 (AA Θ s.heap.size)) (F0 m 18 ls []) := by
  intro n
  obtain ⟨hx, hb, hml, hown, hts, -⟩ := id C
  induction n with
  | zero => intro y1 y2 y3 H locs ls h; cases h
  | succ n ih =>
    intro y1 y2 y3 H locs ls h  hM hl
    rw [fX11_findSeen_L18] at h
    refine x_iload_n hx hb (kX11_findSeen (i := 12) rfl) rfl (lv_at hl 3 rfl) ?_
    refine lv_aload_n hx hb (kX11_findSeen (i := 13) rfl) rfl (lv_at hl 0 rfl) ?_
    refine gX11_waves C hM q_fX11_33 (kX11_findSeen (i := 14) rfl) ?_
    refine gX10_count C hM q_fX11_267 (kX11_findSeen (i := 15) rfl) ?_
    refine x_icmp_ge (a' := wr y3) (b' := wr (g 20 3)) hx hb rfl rfl (tgt := 63) (kX11_findSeen (i := 16) rfl) (by decide) (fun c_2 => ?_) (fun c_2 => ?_)
    · have h := it_t c_2 h
      refine x_iload_n hx hb (kX11_findSeen (i := 34) rfl) rfl (lv_at hl 1 rfl) ?_
      rw [← Option.some.inj h]
      exact x_iret C hM (nar_i _) (kX11_findSeen (i := 35) rfl)
    · have h := it_f c_2 h
      refine lv_aload_n hx hb (kX11_findSeen (i := 17) rfl) rfl (lv_at hl 0 rfl) ?_
      refine gX11_waves C hM q_fX11_33 (kX11_findSeen (i := 18) rfl) ?_
      refine x_iload_n hx hb (kX11_findSeen (i := 19) rfl) rfl (lv_at hl 3 rfl) ?_
      refine lv_aload_n hx hb (kX11_findSeen (i := 20) rfl) rfl (lv_at hl 0 rfl) ?_
      refine gX11_tape C hM q_fX11_78 (kX11_findSeen (i := 21) rfl) ?_
      obtain ⟨r_3, hc_4, h⟩ := bd_some h
      refine x_callV (n := 2) (As := [vi y3, .ref (Θ.2.2.1 44)]) (rest := []) C hM (tX10_along l Θ y3 h0 g r_3 hc_4) (x_recvX C hM 20 (by decide) (eX_20 Θ _) rfl rfl) q_c_X10_along q_mX11_268 q_i_X10_along q_e_X10_along q_n_X10 (by decide +kernel) ⟨by decide, by decide⟩ rfl hl.1 rfl (Nat.le_of_ble_eq_true rfl) (kX11_findSeen (i := 22) rfl) (fun H locs hM => ?_)
      refine x_mabs C hl.1 (Nat.le_of_ble_eq_true rfl) (Nat.le_of_ble_eq_true rfl) q_mX11_302 (kX11_findSeen (i := 23) rfl) ?_
      obtain ⟨x_5, ex_5, h⟩ := bnd_some h
      refine x_top ex_5 ?_
      refine x_istore (lv' := [(4, vi x_5), (0, .ref (Θ.2.2.1 0)), (1, vi y1), (2, vi y2), (3, vi y3)]) hx hb (kX11_findSeen (i := 24) rfl) hl (by decide) rfl (fun ls hl => ?_)
      refine x_iload hx hb (kX11_findSeen (i := 25) rfl) (lv_at hl 0 rfl) ?_
      refine x_iload_n hx hb (kX11_findSeen (i := 26) rfl) rfl (lv_at hl 3 rfl) ?_
      refine jn_go h (fun J57 : Int → Int → Option (Int) => ∀ (p_6 : Int) (p_7 : Int) (H : Heap) (locs : List Loc) (ls : Array Slot), J57 p_6 p_7 = some rv → Hd Θ s g h0 H locs → lv_has ls 5 [(0, .ref (Θ.2.2.1 0)), (1, vi p_6), (2, vi p_7), (3, vi y3)] → W p l e { frames := 2, cells := 0, slots := 0, locals := 46 } s m args below meth c H locs 0 0 (MQ below (Qx Θ s.heap.size g h0 (some (vi rv))) args s 0 0 (AA Θ s.heap.size)) (F0 m 57 ls [])) ?_ ?_
      · intro p_6 p_7 H locs ls h hM hl
        obtain ⟨x_8, ex_8, h⟩ := bnd_some h
        refine x_iinc (k := 3) (lv' := [(3, vi x_8), (0, .ref (Θ.2.2.1 0)), (1, vi p_6), (2, vi p_7)]) hx hb (kX11_findSeen (i := 32) rfl) hl rfl ex_8 (by decide) rfl (fun ls hl => ?_)
        refine lv_goto (tgt := 18) hx hb (kX11_findSeen (i := 33) rfl) (by decide) ?_
        exact ih p_6 p_7 x_8 H locs ls h hM (lv_sub hl [1, 2, 3, 0] rfl)
      intro J57 hJ57 h
      refine x_icmp_le (a' := wr x_5) (b' := wr y2) hx hb rfl rfl (tgt := 57) (kX11_findSeen (i := 27) rfl) (by decide) (fun c_9 => ?_) (fun c_9 => ?_)
      · have h := it_t c_9 h
        exact hJ57 y1 y2 H locs ls h hM (lv_sub hl [1, 2, 3, 4] rfl)
      · have h := it_f c_9 h
        refine x_iload hx hb (kX11_findSeen (i := 28) rfl) (lv_at hl 0 rfl) ?_
        refine x_istore_n (lv' := [(2, vi x_5), (4, vi x_5), (0, .ref (Θ.2.2.1 0)), (1, vi y1), (3, vi y3)]) hx hb (kX11_findSeen (i := 29) rfl) rfl hl (by decide) rfl (fun ls hl => ?_)
        refine x_iload_n hx hb (kX11_findSeen (i := 30) rfl) rfl (lv_at hl 4 rfl) ?_
        refine x_istore_n (lv' := [(1, vi y3), (2, vi x_5), (4, vi x_5), (0, .ref (Θ.2.2.1 0)), (3, vi y3)]) hx hb (kX11_findSeen (i := 31) rfl) rfl hl (by decide) rfl (fun ls hl => ?_)
        exact hJ57 y3 x_5 H locs ls h hM (lv_sub hl [3, 0, 1, 4] rfl)
set_option maxRecDepth 100000 in
set_option maxHeartbeats 4000000 in
theorem tX11_findSeen (l : Launch) (Θ : Th) (h0 g : Mem) (rv : Int) (h : fX11_findSeen g = some rv) : Ct l yX11_findSeen cX11_findSeen 5 (some .int) 2 46 Θ [.ref (Θ.2.2.1 0)] g h0 g h0 (some (vi rv)) := by
  refine x_start (by decide) (Nat.le_of_ble_eq_true rfl) ?_
  intro p e s m args below meth c ls C hM hl
  have hl : lv_has ls 5 [(0, .ref (Θ.2.2.1 0))] := hl
  obtain ⟨hx, hb, hml, hown, hts, -⟩ := id C
  unfold fX11_findSeen at h
  have key : ∀ (H : Heap) (locs : List Loc), Hd Θ s g h0 H locs → W p l e { frames := 2, cells := 0, slots := 0, locals := 46 } s m args below meth c H locs 0 0 (MQ below (Qx Θ s.heap.size g h0 (some (vi rv))) args s 0 0 (AA Θ s.heap.size)) (F0 m 0 ls []) := by
    intro H locs hM
    refine lv_aload_n hx hb (kX11_findSeen (i := 0) rfl) rfl (lv_at hl 0 rfl) ?_
    refine gX11_tape C hM q_fX11_78 (kX11_findSeen (i := 1) rfl) ?_
    refine gX8_count C hM q_fX11_251 (kX11_findSeen (i := 2) rfl) ?_
    refine x_if_ne (a' := wr (g 44 1)) hx hb rfl (tgt := 12) (kX11_findSeen (i := 3) rfl) (by decide) (fun c_1 => ?_) (fun c_1 => ?_)
    · have h := it_f c_1 h
      refine x_iconst hx hb (kX11_findSeen (i := 6) rfl) ?_
      refine x_istore_n (lv' := [(1, vi (-1)), (0, .ref (Θ.2.2.1 0))]) hx hb (kX11_findSeen (i := 7) rfl) rfl hl (by decide) rfl (fun ls hl => ?_)
      refine x_iconst hx hb (kX11_findSeen (i := 8) rfl) ?_
      refine x_istore_n (lv' := [(2, vi (-1)), (1, vi (-1)), (0, .ref (Θ.2.2.1 0))]) hx hb (kX11_findSeen (i := 9) rfl) rfl hl (by decide) rfl (fun ls hl => ?_)
      refine x_iconst hx hb (kX11_findSeen (i := 10) rfl) ?_
      refine x_istore_n (lv' := [(3, vi 0), (2, vi (-1)), (1, vi (-1)), (0, .ref (Θ.2.2.1 0))]) hx hb (kX11_findSeen (i := 11) rfl) rfl hl (by decide) rfl (fun ls hl => ?_)
      refine wX11_findSeen_L18  C fuel (-1) (-1) 0 H locs ls h  hM (lv_sub hl [3, 2, 1, 0] rfl)
    · have h := it_t c_1 h
      refine x_iconst hx hb (kX11_findSeen (i := 4) rfl) ?_
      rw [← Option.some.inj h]
      exact x_iret C hM (nar_i _) (kX11_findSeen (i := 5) rfl)
  exact key _ _ hM

/-! X11_read -/
def fX11_read (a0 : Int) (g : Mem) : Option (Int) :=
  if wr a0 = 0 then (
    bd (fX11_findSeen g) fun r_2 =>
    some r_2
  ) else (
  if wr a0 = 1 then (
    bd (fX8_rises g) fun r_5 =>
    some r_5
  ) else (
  if wr a0 = 2 then (
    bd (fX8_squares g) fun r_8 =>
    some r_8
  ) else (
  if wr a0 = 3 then (
    bd (fX8_greatest g) fun r_11 =>
    some r_11
  ) else (
    some (-2147483648)
  ))))
set_option maxRecDepth 100000 in
set_option maxHeartbeats 4000000 in
theorem tX11_read (l : Launch) (Θ : Th) (a0 : Int) (h0 g : Mem) (rv : Int) (h : fX11_read a0 g = some rv) : Ct l yX11_read cX11_read 2 (some .int) 3 70 Θ [.ref (Θ.2.2.1 0), vi a0] g h0 g h0 (some (vi rv)) := by
  refine x_start (by decide) (Nat.le_of_ble_eq_true rfl) ?_
  intro p e s m args below meth c ls C hM hl
  have hl : lv_has ls 2 [(0, .ref (Θ.2.2.1 0)), (1, vi a0)] := hl
  obtain ⟨hx, hb, hml, hown, hts, -⟩ := id C
  unfold fX11_read at h
  have key : ∀ (H : Heap) (locs : List Loc), Hd Θ s g h0 H locs → W p l e { frames := 3, cells := 0, slots := 0, locals := 70 } s m args below meth c H locs 0 0 (MQ below (Qx Θ s.heap.size g h0 (some (vi rv))) args s 0 0 (AA Θ s.heap.size)) (F0 m 0 ls []) := by
    intro H locs hM
    refine x_iload_n hx hb (kX11_read (i := 0) rfl) rfl (lv_at hl 1 rfl) ?_
    by_cases c_1 : wr a0 = 0
    · have h := it_t c_1 h
      refine x_tableIn (tgt := 32) 0 c_1 hx hb (kX11_read (i := 1) rfl) (by decide) (by decide) rfl (by decide) ?_
      refine lv_aload_n hx hb (kX11_read (i := 2) rfl) rfl (lv_at hl 0 rfl) ?_
      obtain ⟨r_2, hc_3, h⟩ := bd_some h
      refine x_callV (n := 0) (As := []) (rest := []) C hM (tX11_findSeen l Θ h0 g r_2 hc_3) (x_recvX C hM 0 (by decide) (eX_0 Θ _) rfl rfl) q_c_X11_findSeen q_mX11_254 q_i_X11_findSeen q_e_X11_findSeen q_n_X11 (by decide +kernel) ⟨by decide, by decide⟩ rfl hl.1 rfl (Nat.le_of_ble_eq_true rfl) (kX11_read (i := 3) rfl) (fun H locs hM => ?_)
      rw [← Option.some.inj h]
      exact x_iret C hM (nar_i _) (kX11_read (i := 4) rfl)
    have h := it_f c_1 h
    by_cases c_4 : wr a0 = 1
    · have h := it_t c_4 h
      refine x_tableIn (tgt := 37) 1 c_4 hx hb (kX11_read (i := 1) rfl) (by decide) (by decide) rfl (by decide) ?_
      refine lv_aload_n hx hb (kX11_read (i := 5) rfl) rfl (lv_at hl 0 rfl) ?_
      refine gX11_tape C hM q_fX11_78 (kX11_read (i := 6) rfl) ?_
      obtain ⟨r_5, hc_6, h⟩ := bd_some h
      refine x_callV (n := 0) (As := []) (rest := []) C hM (tX8_rises l Θ h0 g r_5 hc_6) (x_recvX C hM 44 (by decide) (eX_44 Θ _) rfl rfl) q_c_X8_rises q_mX11_258 q_i_X8_rises q_e_X8_rises q_n_X8 (by decide +kernel) ⟨by decide, by decide⟩ rfl hl.1 rfl (Nat.le_of_ble_eq_true rfl) (kX11_read (i := 7) rfl) (fun H locs hM => ?_)
      rw [← Option.some.inj h]
      exact x_iret C hM (nar_i _) (kX11_read (i := 8) rfl)
    have h := it_f c_4 h
    by_cases c_7 : wr a0 = 2
    · have h := it_t c_7 h
      refine x_tableIn (tgt := 45) 2 c_7 hx hb (kX11_read (i := 1) rfl) (by decide) (by decide) rfl (by decide) ?_
      refine lv_aload_n hx hb (kX11_read (i := 9) rfl) rfl (lv_at hl 0 rfl) ?_
      refine gX11_tape C hM q_fX11_78 (kX11_read (i := 10) rfl) ?_
      obtain ⟨r_8, hc_9, h⟩ := bd_some h
      refine x_callV (n := 0) (As := []) (rest := []) C hM (tX8_squares l Θ h0 g r_8 hc_9) (x_recvX C hM 44 (by decide) (eX_44 Θ _) rfl rfl) q_c_X8_squares q_mX11_261 q_i_X8_squares q_e_X8_squares q_n_X8 (by decide +kernel) ⟨by decide, by decide⟩ rfl hl.1 rfl (Nat.le_of_ble_eq_true rfl) (kX11_read (i := 11) rfl) (fun H locs hM => ?_)
      rw [← Option.some.inj h]
      exact x_iret C hM (nar_i _) (kX11_read (i := 12) rfl)
    have h := it_f c_7 h
    by_cases c_10 : wr a0 = 3
    · have h := it_t c_10 h
      refine x_tableIn (tgt := 53) 3 c_10 hx hb (kX11_read (i := 1) rfl) (by decide) (by decide) rfl (by decide) ?_
      refine lv_aload_n hx hb (kX11_read (i := 13) rfl) rfl (lv_at hl 0 rfl) ?_
      refine gX11_tape C hM q_fX11_78 (kX11_read (i := 14) rfl) ?_
      obtain ⟨r_11, hc_12, h⟩ := bd_some h
      refine x_callV (n := 0) (As := []) (rest := []) C hM (tX8_greatest l Θ h0 g r_11 hc_12) (x_recvX C hM 44 (by decide) (eX_44 Θ _) rfl rfl) q_c_X8_greatest q_mX11_264 q_i_X8_greatest q_e_X8_greatest q_n_X8 (by decide +kernel) ⟨by decide, by decide⟩ rfl hl.1 rfl (Nat.le_of_ble_eq_true rfl) (kX11_read (i := 15) rfl) (fun H locs hM => ?_)
      rw [← Option.some.inj h]
      exact x_iret C hM (nar_i _) (kX11_read (i := 16) rfl)
    have h := it_f c_10 h
    refine x_tableOut (tgt := 61) hx hb (kX11_read (i := 1) rfl) (by omega) (by decide) ?_
    refine x_ldc (n := (-2147483648)) hx hb hown (hts _ q_kX11_158) (kX11_read (i := 17) rfl) ?_
    rw [← Option.some.inj h]
    exact x_iret C hM (nar_i _) (kX11_read (i := 18) rfl)
  exact key _ _ hM

/-! X11_goes -/
def fX11_goes (a0 : Int) (g : Mem) : Option (Int) :=
  bd (fX11_within a0 0 ((g 20 3) - 1)) fun r_1 =>
  if wr r_1 = 0 then (
    some (-2147483648)
  ) else (
    bd (fX10_along a0 g) fun r_4 =>
    some r_4
  )
set_option maxRecDepth 100000 in
set_option maxHeartbeats 4000000 in
theorem tX11_goes (l : Launch) (Θ : Th) (a0 : Int) (h0 g : Mem) (rv : Int) (h : fX11_goes a0 g = some rv) : Ct l yX11_goes cX11_goes 2 (some .int) 2 46 Θ [.ref (Θ.2.2.1 0), vi a0] g h0 g h0 (some (vi rv)) := by
  refine x_start (by decide) (Nat.le_of_ble_eq_true rfl) ?_
  intro p e s m args below meth c ls C hM hl
  have hl : lv_has ls 2 [(0, .ref (Θ.2.2.1 0)), (1, vi a0)] := hl
  obtain ⟨hx, hb, hml, hown, hts, -⟩ := id C
  unfold fX11_goes at h
  have key : ∀ (H : Heap) (locs : List Loc), Hd Θ s g h0 H locs → W p l e { frames := 2, cells := 0, slots := 0, locals := 46 } s m args below meth c H locs 0 0 (MQ below (Qx Θ s.heap.size g h0 (some (vi rv))) args s 0 0 (AA Θ s.heap.size)) (F0 m 0 ls []) := by
    intro H locs hM
    refine x_iload_n hx hb (kX11_goes (i := 0) rfl) rfl (lv_at hl 1 rfl) ?_
    refine x_iconst hx hb (kX11_goes (i := 1) rfl) ?_
    refine lv_aload_n hx hb (kX11_goes (i := 2) rfl) rfl (lv_at hl 0 rfl) ?_
    refine gX11_waves C hM q_fX11_33 (kX11_goes (i := 3) rfl) ?_
    refine gX10_count C hM q_fX11_267 (kX11_goes (i := 4) rfl) ?_
    refine x_iconst hx hb (kX11_goes (i := 5) rfl) ?_
    refine x_isub hx hb (kX11_goes (i := 6) rfl) ?_
    obtain ⟨r_1, hc_2, h⟩ := bd_some h
    refine x_callS (n := 3) (As := [vi a0, vi 0, vi ((g 20 3) - 1)]) (rest := []) C hM (tX11_within l Θ a0 0 ((g 20 3) - 1) h0 g r_1 hc_2) q_c_X11_within q_mX11_109 q_s_X11_within q_n_X11 (by decide +kernel) ⟨by decide, by decide⟩ rfl hl.1 rfl (Nat.le_of_ble_eq_true rfl) (kX11_goes (i := 7) rfl) (fun H locs hM => ?_)
    refine x_if_ne (a' := wr r_1) hx hb rfl (tgt := 20) (kX11_goes (i := 8) rfl) (by decide) (fun c_3 => ?_) (fun c_3 => ?_)
    · have h := it_f c_3 h
      refine lv_aload_n hx hb (kX11_goes (i := 11) rfl) rfl (lv_at hl 0 rfl) ?_
      refine gX11_waves C hM q_fX11_33 (kX11_goes (i := 12) rfl) ?_
      refine x_iload_n hx hb (kX11_goes (i := 13) rfl) rfl (lv_at hl 1 rfl) ?_
      refine lv_aload_n hx hb (kX11_goes (i := 14) rfl) rfl (lv_at hl 0 rfl) ?_
      refine gX11_tape C hM q_fX11_78 (kX11_goes (i := 15) rfl) ?_
      obtain ⟨r_4, hc_5, h⟩ := bd_some h
      refine x_callV (n := 2) (As := [vi a0, .ref (Θ.2.2.1 44)]) (rest := []) C hM (tX10_along l Θ a0 h0 g r_4 hc_5) (x_recvX C hM 20 (by decide) (eX_20 Θ _) rfl rfl) q_c_X10_along q_mX11_268 q_i_X10_along q_e_X10_along q_n_X10 (by decide +kernel) ⟨by decide, by decide⟩ rfl hl.1 rfl (Nat.le_of_ble_eq_true rfl) (kX11_goes (i := 16) rfl) (fun H locs hM => ?_)
      rw [← Option.some.inj h]
      exact x_iret C hM (nar_i _) (kX11_goes (i := 17) rfl)
    · have h := it_t c_3 h
      refine x_ldc (n := (-2147483648)) hx hb hown (hts _ q_kX11_158) (kX11_goes (i := 9) rfl) ?_
      rw [← Option.some.inj h]
      exact x_iret C hM (nar_i _) (kX11_goes (i := 10) rfl)
  exact key _ _ hM

/-! X11_check -/
def fX11_check (a0 : Int) (a1 : Int) (a2 : Int) (g : Mem) : Option (Int) :=
  bd (fX11_within a0 0 ((g 24 3) - 1)) fun r_1 =>
  if wr r_1 = 0 then (
    some (-1)
  ) else (
    bd (fX11_within a1 0 2) fun r_4 =>
    if wr r_4 = 0 then (
      some (-1)
    ) else (
      bd (fX2_verdict a0 a1 a2 g) fun r_7 =>
      some r_7
    )
  )
set_option maxRecDepth 100000 in
set_option maxHeartbeats 4000000 in
theorem tX11_check (l : Launch) (Θ : Th) (a0 : Int) (a1 : Int) (a2 : Int) (h0 g : Mem) (rv : Int) (h : fX11_check a0 a1 a2 g = some rv) : Ct l yX11_check cX11_check 4 (some .int) 3 72 Θ [.ref (Θ.2.2.1 0), vi a0, vi a1, vi a2] g h0 g h0 (some (vi rv)) := by
  refine x_start (by decide) (Nat.le_of_ble_eq_true rfl) ?_
  intro p e s m args below meth c ls C hM hl
  have hl : lv_has ls 4 [(0, .ref (Θ.2.2.1 0)), (1, vi a0), (2, vi a1), (3, vi a2)] := hl
  obtain ⟨hx, hb, hml, hown, hts, -⟩ := id C
  unfold fX11_check at h
  have key : ∀ (H : Heap) (locs : List Loc), Hd Θ s g h0 H locs → W p l e { frames := 3, cells := 0, slots := 0, locals := 72 } s m args below meth c H locs 0 0 (MQ below (Qx Θ s.heap.size g h0 (some (vi rv))) args s 0 0 (AA Θ s.heap.size)) (F0 m 0 ls []) := by
    intro H locs hM
    refine x_iload_n hx hb (kX11_check (i := 0) rfl) rfl (lv_at hl 1 rfl) ?_
    refine x_iconst hx hb (kX11_check (i := 1) rfl) ?_
    refine lv_aload_n hx hb (kX11_check (i := 2) rfl) rfl (lv_at hl 0 rfl) ?_
    refine gX11_ship C hM q_fX11_40 (kX11_check (i := 3) rfl) ?_
    refine gX0_now 24 (Or.inl rfl) C hM q_fX11_186 (kX11_check (i := 4) rfl) ?_
    refine x_iconst hx hb (kX11_check (i := 5) rfl) ?_
    refine x_isub hx hb (kX11_check (i := 6) rfl) ?_
    obtain ⟨r_1, hc_2, h⟩ := bd_some h
    refine x_callS (n := 3) (As := [vi a0, vi 0, vi ((g 24 3) - 1)]) (rest := []) C hM (tX11_within l Θ a0 0 ((g 24 3) - 1) h0 g r_1 hc_2) q_c_X11_within q_mX11_109 q_s_X11_within q_n_X11 (by decide +kernel) ⟨by decide, by decide⟩ rfl hl.1 rfl (Nat.le_of_ble_eq_true rfl) (kX11_check (i := 7) rfl) (fun H locs hM => ?_)
    refine x_if_eq (a' := wr r_1) hx hb rfl (tgt := 26) (kX11_check (i := 8) rfl) (by decide) (fun c_3 => ?_) (fun c_3 => ?_)
    · have h := it_t c_3 h
      refine x_iconst hx hb (kX11_check (i := 14) rfl) ?_
      rw [← Option.some.inj h]
      exact x_iret C hM (nar_i _) (kX11_check (i := 15) rfl)
    · have h := it_f c_3 h
      refine x_iload_n hx hb (kX11_check (i := 9) rfl) rfl (lv_at hl 2 rfl) ?_
      refine x_iconst hx hb (kX11_check (i := 10) rfl) ?_
      refine x_iconst hx hb (kX11_check (i := 11) rfl) ?_
      obtain ⟨r_4, hc_5, h⟩ := bd_some h
      refine x_callS (n := 3) (As := [vi a1, vi 0, vi 2]) (rest := []) C hM (tX11_within l Θ a1 0 2 h0 g r_4 hc_5) q_c_X11_within q_mX11_109 q_s_X11_within q_n_X11 (by decide +kernel) ⟨by decide, by decide⟩ rfl hl.1 rfl (Nat.le_of_ble_eq_true rfl) (kX11_check (i := 12) rfl) (fun H locs hM => ?_)
      refine x_if_ne (a' := wr r_4) hx hb rfl (tgt := 28) (kX11_check (i := 13) rfl) (by decide) (fun c_6 => ?_) (fun c_6 => ?_)
      · have h := it_f c_6 h
        refine lv_aload_n hx hb (kX11_check (i := 16) rfl) rfl (lv_at hl 0 rfl) ?_
        refine gX11_diary C hM q_fX11_50 (kX11_check (i := 17) rfl) ?_
        refine x_iload_n hx hb (kX11_check (i := 18) rfl) rfl (lv_at hl 1 rfl) ?_
        refine x_iload_n hx hb (kX11_check (i := 19) rfl) rfl (lv_at hl 2 rfl) ?_
        refine x_iload_n hx hb (kX11_check (i := 20) rfl) rfl (lv_at hl 3 rfl) ?_
        obtain ⟨r_7, hc_8, h⟩ := bd_some h
        refine x_callV (n := 3) (As := [vi a0, vi a1, vi a2]) (rest := []) C hM (tX2_verdict l Θ a0 a1 a2 h0 g r_7 hc_8) (x_recvX C hM 32 (by decide) (eX_32 Θ _) rfl rfl) q_c_X2_verdict q_mX11_272 q_i_X2_verdict q_e_X2_verdict q_n_X2 (by decide +kernel) ⟨by decide, by decide⟩ rfl hl.1 rfl (Nat.le_of_ble_eq_true rfl) (kX11_check (i := 21) rfl) (fun H locs hM => ?_)
        rw [← Option.some.inj h]
        exact x_iret C hM (nar_i _) (kX11_check (i := 22) rfl)
      · have h := it_t c_6 h
        refine x_iconst hx hb (kX11_check (i := 14) rfl) ?_
        rw [← Option.some.inj h]
        exact x_iret C hM (nar_i _) (kX11_check (i := 15) rfl)
  exact key _ _ hM

/-! X11_count -/
def fX11_count (a0 : Int) (g : Mem) : Option (Int) :=
  if wr a0 = 0 then (
    some (g 24 3)
  ) else (
  if wr a0 = 1 then (
    some (g 1 7)
  ) else (
  if wr a0 = 2 then (
    some (g 8 8)
  ) else (
  if wr a0 = 3 then (
    some (g 8 9)
  ) else (
  if wr a0 = 4 then (
    some (g 20 3)
  ) else (
  if wr a0 = 5 then (
    some (g 17 2)
  ) else (
  if wr a0 = 6 then (
    some (g 37 1)
  ) else (
  if wr a0 = 7 then (
    some (g 24 7)
  ) else (
  if wr a0 = 8 then (
    some (g 24 8)
  ) else (
  if wr a0 = 9 then (
    if wr (g 24 10) = 0 then (
      some 0
    ) else (
      some 1
    )
  ) else (
  if wr a0 = 10 then (
    some (g 41 2)
  ) else (
  if wr a0 = 11 then (
    some (g 44 1)
  ) else (
  if wr a0 = 12 then (
    some (g 8 10)
  ) else (
    some (-1)
  )))))))))))))
set_option maxRecDepth 100000 in
set_option maxHeartbeats 4000000 in
theorem tX11_count (l : Launch) (Θ : Th) (a0 : Int) (h0 g : Mem) (rv : Int) (h : fX11_count a0 g = some rv) : Ct l yX11_count cX11_count 2 (some .int) 0 0 Θ [.ref (Θ.2.2.1 0), vi a0] g h0 g h0 (some (vi rv)) := by
  refine x_start (by decide) (Nat.le_of_ble_eq_true rfl) ?_
  intro p e s m args below meth c ls C hM hl
  have hl : lv_has ls 2 [(0, .ref (Θ.2.2.1 0)), (1, vi a0)] := hl
  obtain ⟨hx, hb, hml, hown, hts, -⟩ := id C
  unfold fX11_count at h
  have key : ∀ (H : Heap) (locs : List Loc), Hd Θ s g h0 H locs → W p l e { frames := 0, cells := 0, slots := 0, locals := 0 } s m args below meth c H locs 0 0 (MQ below (Qx Θ s.heap.size g h0 (some (vi rv))) args s 0 0 (AA Θ s.heap.size)) (F0 m 0 ls []) := by
    intro H locs hM
    refine x_iload_n hx hb (kX11_count (i := 0) rfl) rfl (lv_at hl 1 rfl) ?_
    by_cases c_1 : wr a0 = 0
    · have h := it_t c_1 h
      refine x_tableIn (tgt := 68) 0 c_1 hx hb (kX11_count (i := 1) rfl) (by decide) (by decide) rfl (by decide) ?_
      refine lv_aload_n hx hb (kX11_count (i := 2) rfl) rfl (lv_at hl 0 rfl) ?_
      refine gX11_ship C hM q_fX11_40 (kX11_count (i := 3) rfl) ?_
      refine gX0_now 24 (Or.inl rfl) C hM q_fX11_186 (kX11_count (i := 4) rfl) ?_
      rw [← Option.some.inj h]
      exact x_iret C hM (nar_i _) (kX11_count (i := 5) rfl)
    have h := it_f c_1 h
    by_cases c_2 : wr a0 = 1
    · have h := it_t c_2 h
      refine x_tableIn (tgt := 76) 1 c_2 hx hb (kX11_count (i := 1) rfl) (by decide) (by decide) rfl (by decide) ?_
      refine lv_aload_n hx hb (kX11_count (i := 6) rfl) rfl (lv_at hl 0 rfl) ?_
      refine gX11_hull C hM q_fX11_10 (kX11_count (i := 7) rfl) ?_
      refine gX3_slices C hM q_fX11_275 (kX11_count (i := 8) rfl) ?_
      rw [← Option.some.inj h]
      exact x_iret C hM (nar_i _) (kX11_count (i := 9) rfl)
    have h := it_f c_2 h
    by_cases c_3 : wr a0 = 2
    · have h := it_t c_3 h
      refine x_tableIn (tgt := 84) 2 c_3 hx hb (kX11_count (i := 1) rfl) (by decide) (by decide) rfl (by decide) ?_
      refine lv_aload_n hx hb (kX11_count (i := 10) rfl) rfl (lv_at hl 0 rfl) ?_
      refine gX11_cargo C hM q_fX11_19 (kX11_count (i := 11) rfl) ?_
      refine gX1_weights C hM q_fX11_278 (kX11_count (i := 12) rfl) ?_
      rw [← Option.some.inj h]
      exact x_iret C hM (nar_i _) (kX11_count (i := 13) rfl)
    have h := it_f c_3 h
    by_cases c_4 : wr a0 = 3
    · have h := it_t c_4 h
      refine x_tableIn (tgt := 92) 3 c_4 hx hb (kX11_count (i := 1) rfl) (by decide) (by decide) rfl (by decide) ?_
      refine lv_aload_n hx hb (kX11_count (i := 14) rfl) rfl (lv_at hl 0 rfl) ?_
      refine gX11_cargo C hM q_fX11_19 (kX11_count (i := 15) rfl) ?_
      refine gX1_tanks C hM q_fX11_281 (kX11_count (i := 16) rfl) ?_
      rw [← Option.some.inj h]
      exact x_iret C hM (nar_i _) (kX11_count (i := 17) rfl)
    have h := it_f c_4 h
    by_cases c_5 : wr a0 = 4
    · have h := it_t c_5 h
      refine x_tableIn (tgt := 100) 4 c_5 hx hb (kX11_count (i := 1) rfl) (by decide) (by decide) rfl (by decide) ?_
      refine lv_aload_n hx hb (kX11_count (i := 18) rfl) rfl (lv_at hl 0 rfl) ?_
      refine gX11_waves C hM q_fX11_33 (kX11_count (i := 19) rfl) ?_
      refine gX10_count C hM q_fX11_267 (kX11_count (i := 20) rfl) ?_
      rw [← Option.some.inj h]
      exact x_iret C hM (nar_i _) (kX11_count (i := 21) rfl)
    have h := it_f c_5 h
    by_cases c_6 : wr a0 = 5
    · have h := it_t c_6 h
      refine x_tableIn (tgt := 108) 5 c_6 hx hb (kX11_count (i := 1) rfl) (by decide) (by decide) rfl (by decide) ?_
      refine lv_aload_n hx hb (kX11_count (i := 22) rfl) rfl (lv_at hl 0 rfl) ?_
      refine gX11_marks C hM q_fX11_26 (kX11_count (i := 23) rfl) ?_
      refine gX4_count C hM q_fX11_284 (kX11_count (i := 24) rfl) ?_
      rw [← Option.some.inj h]
      exact x_iret C hM (nar_i _) (kX11_count (i := 25) rfl)
    have h := it_f c_6 h
    by_cases c_7 : wr a0 = 6
    · have h := it_t c_7 h
      refine x_tableIn (tgt := 116) 6 c_7 hx hb (kX11_count (i := 1) rfl) (by decide) (by decide) rfl (by decide) ?_
      refine lv_aload_n hx hb (kX11_count (i := 26) rfl) rfl (lv_at hl 0 rfl) ?_
      refine gX11_text C hM q_fX11_57 (kX11_count (i := 27) rfl) ?_
      refine gX9_length C hM q_fX11_213 (kX11_count (i := 28) rfl) ?_
      rw [← Option.some.inj h]
      exact x_iret C hM (nar_i _) (kX11_count (i := 29) rfl)
    have h := it_f c_7 h
    by_cases c_8 : wr a0 = 7
    · have h := it_t c_8 h
      refine x_tableIn (tgt := 124) 7 c_8 hx hb (kX11_count (i := 1) rfl) (by decide) (by decide) rfl (by decide) ?_
      refine lv_aload_n hx hb (kX11_count (i := 30) rfl) rfl (lv_at hl 0 rfl) ?_
      refine gX11_ship C hM q_fX11_40 (kX11_count (i := 31) rfl) ?_
      refine gX0_sick 24 (Or.inl rfl) C hM q_fX11_227 (kX11_count (i := 32) rfl) ?_
      rw [← Option.some.inj h]
      exact x_iret C hM (nar_i _) (kX11_count (i := 33) rfl)
    have h := it_f c_8 h
    by_cases c_9 : wr a0 = 8
    · have h := it_t c_9 h
      refine x_tableIn (tgt := 132) 8 c_9 hx hb (kX11_count (i := 1) rfl) (by decide) (by decide) rfl (by decide) ?_
      refine lv_aload_n hx hb (kX11_count (i := 34) rfl) rfl (lv_at hl 0 rfl) ?_
      refine gX11_ship C hM q_fX11_40 (kX11_count (i := 35) rfl) ?_
      refine gX0_worked 24 (Or.inl rfl) C hM q_fX11_230 (kX11_count (i := 36) rfl) ?_
      rw [← Option.some.inj h]
      exact x_iret C hM (nar_i _) (kX11_count (i := 37) rfl)
    have h := it_f c_9 h
    by_cases c_10 : wr a0 = 9
    · have h := it_t c_10 h
      refine x_tableIn (tgt := 140) 9 c_10 hx hb (kX11_count (i := 1) rfl) (by decide) (by decide) rfl (by decide) ?_
      refine lv_aload_n hx hb (kX11_count (i := 38) rfl) rfl (lv_at hl 0 rfl) ?_
      refine gX11_ship C hM q_fX11_40 (kX11_count (i := 39) rfl) ?_
      refine gX0_over 24 (Or.inl rfl) C hM q_fX11_189 (kX11_count (i := 40) rfl) ?_
      refine x_if_eq (a' := wr (g 24 10)) hx hb rfl (tgt := 154) (kX11_count (i := 41) rfl) (by decide) (fun c_11 => ?_) (fun c_11 => ?_)
      · have h := it_t c_11 h
        refine x_iconst hx hb (kX11_count (i := 44) rfl) ?_
        rw [← Option.some.inj h]
        exact x_iret C hM (nar_i _) (kX11_count (i := 45) rfl)
      · have h := it_f c_11 h
        refine x_iconst hx hb (kX11_count (i := 42) rfl) ?_
        refine lv_goto (tgt := 155) hx hb (kX11_count (i := 43) rfl) (by decide) ?_
        rw [← Option.some.inj h]
        exact x_iret C hM (nar_i _) (kX11_count (i := 45) rfl)
    have h := it_f c_10 h
    by_cases c_12 : wr a0 = 10
    · have h := it_t c_12 h
      refine x_tableIn (tgt := 156) 10 c_12 hx hb (kX11_count (i := 1) rfl) (by decide) (by decide) rfl (by decide) ?_
      refine lv_aload_n hx hb (kX11_count (i := 46) rfl) rfl (lv_at hl 0 rfl) ?_
      refine gX11_route C hM q_fX11_71 (kX11_count (i := 47) rfl) ?_
      refine gX6_hours C hM q_fX11_285 (kX11_count (i := 48) rfl) ?_
      rw [← Option.some.inj h]
      exact x_iret C hM (nar_i _) (kX11_count (i := 49) rfl)
    have h := it_f c_12 h
    by_cases c_13 : wr a0 = 11
    · have h := it_t c_13 h
      refine x_tableIn (tgt := 164) 11 c_13 hx hb (kX11_count (i := 1) rfl) (by decide) (by decide) rfl (by decide) ?_
      refine lv_aload_n hx hb (kX11_count (i := 50) rfl) rfl (lv_at hl 0 rfl) ?_
      refine gX11_tape C hM q_fX11_78 (kX11_count (i := 51) rfl) ?_
      refine gX8_count C hM q_fX11_251 (kX11_count (i := 52) rfl) ?_
      rw [← Option.some.inj h]
      exact x_iret C hM (nar_i _) (kX11_count (i := 53) rfl)
    have h := it_f c_13 h
    by_cases c_14 : wr a0 = 12
    · have h := it_t c_14 h
      refine x_tableIn (tgt := 172) 12 c_14 hx hb (kX11_count (i := 1) rfl) (by decide) (by decide) rfl (by decide) ?_
      refine lv_aload_n hx hb (kX11_count (i := 54) rfl) rfl (lv_at hl 0 rfl) ?_
      refine gX11_cargo C hM q_fX11_19 (kX11_count (i := 55) rfl) ?_
      refine gX1_heavy C hM q_fX11_130 (kX11_count (i := 56) rfl) ?_
      rw [← Option.some.inj h]
      exact x_iret C hM (nar_i _) (kX11_count (i := 57) rfl)
    have h := it_f c_14 h
    refine x_tableOut (tgt := 180) hx hb (kX11_count (i := 1) rfl) (by omega) (by decide) ?_
    refine x_iconst hx hb (kX11_count (i := 58) rfl) ?_
    rw [← Option.some.inj h]
    exact x_iret C hM (nar_i _) (kX11_count (i := 59) rfl)
  exact key _ _ hM

/-! X11_place -/
def fX11_place (a0 : Int) (g : Mem) : Option (Int) :=
  bd (fX1_hasWeight a0 g) fun r_1 =>
  if wr r_1 = 0 then (
    some (-2147483648)
  ) else (
    gd a0 12 <|
    some (g (24 + 1) (wr a0).toNat)
  )
set_option maxRecDepth 100000 in
set_option maxHeartbeats 4000000 in
theorem tX11_place (l : Launch) (Θ : Th) (a0 : Int) (h0 g : Mem) (rv : Int) (h : fX11_place a0 g = some rv) : Ct l yX11_place cX11_place 2 (some .int) 1 21 Θ [.ref (Θ.2.2.1 0), vi a0] g h0 g h0 (some (vi rv)) := by
  refine x_start (by decide) (Nat.le_of_ble_eq_true rfl) ?_
  intro p e s m args below meth c ls C hM hl
  have hl : lv_has ls 2 [(0, .ref (Θ.2.2.1 0)), (1, vi a0)] := hl
  obtain ⟨hx, hb, hml, hown, hts, -⟩ := id C
  unfold fX11_place at h
  have key : ∀ (H : Heap) (locs : List Loc), Hd Θ s g h0 H locs → W p l e { frames := 1, cells := 0, slots := 0, locals := 21 } s m args below meth c H locs 0 0 (MQ below (Qx Θ s.heap.size g h0 (some (vi rv))) args s 0 0 (AA Θ s.heap.size)) (F0 m 0 ls []) := by
    intro H locs hM
    refine lv_aload_n hx hb (kX11_place (i := 0) rfl) rfl (lv_at hl 0 rfl) ?_
    refine gX11_cargo C hM q_fX11_19 (kX11_place (i := 1) rfl) ?_
    refine x_iload_n hx hb (kX11_place (i := 2) rfl) rfl (lv_at hl 1 rfl) ?_
    obtain ⟨r_1, hc_2, h⟩ := bd_some h
    refine x_callV (n := 1) (As := [vi a0]) (rest := []) C hM (tX1_hasWeight l Θ a0 h0 g r_1 hc_2) (x_recvX C hM 8 (by decide) (eX_8 Θ _) rfl rfl) q_c_X1_hasWeight q_mX11_137 q_i_X1_hasWeight q_e_X1_hasWeight q_n_X1 (by decide +kernel) ⟨by decide, by decide⟩ rfl hl.1 rfl (Nat.le_of_ble_eq_true rfl) (kX11_place (i := 3) rfl) (fun H locs hM => ?_)
    refine x_if_ne (a' := wr r_1) hx hb rfl (tgt := 14) (kX11_place (i := 4) rfl) (by decide) (fun c_3 => ?_) (fun c_3 => ?_)
    · have h := it_f c_3 h
      refine lv_aload_n hx hb (kX11_place (i := 7) rfl) rfl (lv_at hl 0 rfl) ?_
      refine gX11_ship C hM q_fX11_40 (kX11_place (i := 8) rfl) ?_
      refine gX0_places 24 (Or.inl rfl) C hM q_fX11_169 (kX11_place (i := 9) rfl) ?_
      refine x_iload_n hx hb (kX11_place (i := 10) rfl) rfl (lv_at hl 1 rfl) ?_
      obtain ⟨hi_4, h⟩ := gd_some h
      refine x_ialdX C hM (24 + 1) (isP_lt (isB_P (Or.inl rfl))) (eX_P (isB_P (Or.inl rfl))) hi_4 (kX11_place (i := 11) rfl) ?_
      rw [← Option.some.inj h]
      exact x_iret C hM (nar_i _) (kX11_place (i := 12) rfl)
    · have h := it_t c_3 h
      refine x_ldc (n := (-2147483648)) hx hb hown (hts _ q_kX11_158) (kX11_place (i := 5) rfl) ?_
      rw [← Option.some.inj h]
      exact x_iret C hM (nar_i _) (kX11_place (i := 6) rfl)
  exact key _ _ hM

/-! X11_wetted -/
def fX11_wetted (a0 : Int) (g : Mem) : Option (Int) :=
  bd (fX11_within a0 0 ((g 17 2) - 1)) fun r_1 =>
  if wr r_1 = 0 then (
    some (-1)
  ) else (
    gd a0 6 <|
    some (g (24 + 2) (wr a0).toNat)
  )
set_option maxRecDepth 100000 in
set_option maxHeartbeats 4000000 in
theorem tX11_wetted (l : Launch) (Θ : Th) (a0 : Int) (h0 g : Mem) (rv : Int) (h : fX11_wetted a0 g = some rv) : Ct l yX11_wetted cX11_wetted 2 (some .int) 1 22 Θ [.ref (Θ.2.2.1 0), vi a0] g h0 g h0 (some (vi rv)) := by
  refine x_start (by decide) (Nat.le_of_ble_eq_true rfl) ?_
  intro p e s m args below meth c ls C hM hl
  have hl : lv_has ls 2 [(0, .ref (Θ.2.2.1 0)), (1, vi a0)] := hl
  obtain ⟨hx, hb, hml, hown, hts, -⟩ := id C
  unfold fX11_wetted at h
  have key : ∀ (H : Heap) (locs : List Loc), Hd Θ s g h0 H locs → W p l e { frames := 1, cells := 0, slots := 0, locals := 22 } s m args below meth c H locs 0 0 (MQ below (Qx Θ s.heap.size g h0 (some (vi rv))) args s 0 0 (AA Θ s.heap.size)) (F0 m 0 ls []) := by
    intro H locs hM
    refine x_iload_n hx hb (kX11_wetted (i := 0) rfl) rfl (lv_at hl 1 rfl) ?_
    refine x_iconst hx hb (kX11_wetted (i := 1) rfl) ?_
    refine lv_aload_n hx hb (kX11_wetted (i := 2) rfl) rfl (lv_at hl 0 rfl) ?_
    refine gX11_marks C hM q_fX11_26 (kX11_wetted (i := 3) rfl) ?_
    refine gX4_count C hM q_fX11_284 (kX11_wetted (i := 4) rfl) ?_
    refine x_iconst hx hb (kX11_wetted (i := 5) rfl) ?_
    refine x_isub hx hb (kX11_wetted (i := 6) rfl) ?_
    obtain ⟨r_1, hc_2, h⟩ := bd_some h
    refine x_callS (n := 3) (As := [vi a0, vi 0, vi ((g 17 2) - 1)]) (rest := []) C hM (tX11_within l Θ a0 0 ((g 17 2) - 1) h0 g r_1 hc_2) q_c_X11_within q_mX11_109 q_s_X11_within q_n_X11 (by decide +kernel) ⟨by decide, by decide⟩ rfl hl.1 rfl (Nat.le_of_ble_eq_true rfl) (kX11_wetted (i := 7) rfl) (fun H locs hM => ?_)
    refine x_if_ne (a' := wr r_1) hx hb rfl (tgt := 19) (kX11_wetted (i := 8) rfl) (by decide) (fun c_3 => ?_) (fun c_3 => ?_)
    · have h := it_f c_3 h
      refine lv_aload_n hx hb (kX11_wetted (i := 11) rfl) rfl (lv_at hl 0 rfl) ?_
      refine gX11_ship C hM q_fX11_40 (kX11_wetted (i := 12) rfl) ?_
      refine gX0_wetted 24 (Or.inl rfl) C hM q_fX11_288 (kX11_wetted (i := 13) rfl) ?_
      refine x_iload_n hx hb (kX11_wetted (i := 14) rfl) rfl (lv_at hl 1 rfl) ?_
      obtain ⟨hi_4, h⟩ := gd_some h
      refine x_ialdX C hM (24 + 2) (isB_wetted (Or.inl rfl)) (eX_isB_wetted (Or.inl rfl)) hi_4 (kX11_wetted (i := 15) rfl) ?_
      rw [← Option.some.inj h]
      exact x_iret C hM (nar_i _) (kX11_wetted (i := 16) rfl)
    · have h := it_t c_3 h
      refine x_iconst hx hb (kX11_wetted (i := 9) rfl) ?_
      rw [← Option.some.inj h]
      exact x_iret C hM (nar_i _) (kX11_wetted (i := 10) rfl)
  exact key _ _ hM
