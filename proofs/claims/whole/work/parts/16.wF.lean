/-! X12_in -/
def fX12_in (a0 : Int) (a1 : Int) (a2 : Int) : Option (Int) :=
  if wr a0 < wr a1 then (
    some 0
  ) else (
    if wr a2 < wr a0 then (
      some 0
    ) else (
      some 1
    )
  )
set_option maxRecDepth 100000 in
set_option maxHeartbeats 4000000 in
theorem tX12_in (l : Launch) (Θ : Th) (a0 : Int) (a1 : Int) (a2 : Int) (h0 g0 : Mem) (rv : Int) (h : fX12_in a0 a1 a2 = some rv) : Ct l yX12_in cX12_in 3 (some .boolean) 0 0 Θ [vi a0, vi a1, vi a2] h0 g0 h0 g0 (some (vi rv)) := by
  refine x_start (by decide) (Nat.le_of_ble_eq_true rfl) ?_
  intro p e s m args below meth c ls C hM hl
  have hl : lv_has ls 3 [(0, vi a0), (1, vi a1), (2, vi a2)] := hl
  obtain ⟨hx, hb, hml, hown, hts, -⟩ := id C
  unfold fX12_in at h
  have key : ∀ (H : Heap) (locs : List Loc), Hd Θ s h0 g0 H locs → W p l e { frames := 0, cells := 0, slots := 0, locals := 0 } s m args below meth c H locs 0 0 (MQ below (Qx Θ s.heap.size h0 g0 (some (vi rv))) args s 0 0 (AA Θ s.heap.size)) (F0 m 0 ls []) := by
    intro H locs hM
    refine x_iload_n hx hb (kX12_in (i := 0) rfl) rfl (lv_at hl 0 rfl) ?_
    refine x_iload_n hx hb (kX12_in (i := 1) rfl) rfl (lv_at hl 1 rfl) ?_
    refine x_icmp_lt (a' := wr a0) (b' := wr a1) hx hb rfl rfl (tgt := 14) (kX12_in (i := 2) rfl) (by decide) (fun c_1 => ?_) (fun c_1 => ?_)
    · have h := it_t c_1 h
      refine x_iconst hx hb (kX12_in (i := 8) rfl) ?_
      rw [← Option.some.inj h]
      exact x_iret C hM (nar_z (Or.inl rfl)) (kX12_in (i := 9) rfl)
    · have h := it_f c_1 h
      refine x_iload_n hx hb (kX12_in (i := 3) rfl) rfl (lv_at hl 0 rfl) ?_
      refine x_iload_n hx hb (kX12_in (i := 4) rfl) rfl (lv_at hl 2 rfl) ?_
      refine x_icmp_gt (a' := wr a0) (b' := wr a2) hx hb rfl rfl (tgt := 14) (kX12_in (i := 5) rfl) (by decide) (fun c_2 => ?_) (fun c_2 => ?_)
      · have h := it_t c_2 h
        refine x_iconst hx hb (kX12_in (i := 8) rfl) ?_
        rw [← Option.some.inj h]
        exact x_iret C hM (nar_z (Or.inl rfl)) (kX12_in (i := 9) rfl)
      · have h := it_f c_2 h
        refine x_iconst hx hb (kX12_in (i := 6) rfl) ?_
        refine lv_goto (tgt := 15) hx hb (kX12_in (i := 7) rfl) (by decide) ?_
        rw [← Option.some.inj h]
        exact x_iret C hM (nar_z (Or.inr rfl)) (kX12_in (i := 9) rfl)
  exact key _ _ hM

/-! X12_bounded -/
def fX12_bounded (a0 : Int) (a1 : Int) : Option (Int) :=
  if 0 ≤ wr (lCmp a0 (wr (-a1))) then (
    if wr (lCmp a0 (wr a1)) ≤ 0 then (
      some a0
    ) else (
      some a1
    )
  ) else (
    some (-a1)
  )
set_option maxRecDepth 100000 in
set_option maxHeartbeats 4000000 in
theorem tX12_bounded (l : Launch) (Θ : Th) (a0 : Int) (a1 : Int) (h0 g0 : Mem) (rv : Int) (h : fX12_bounded a0 a1 = some rv) : Ct l yX12_bounded cX12_bounded 3 (some .int) 0 0 Θ [vl a0, vi a1] h0 g0 h0 g0 (some (vi rv)) := by
  refine x_start (by decide) (Nat.le_of_ble_eq_true rfl) ?_
  intro p e s m args below meth c ls C hM hl
  have hl : lv_has ls 3 [(0, vl a0), (2, vi a1)] := hl
  obtain ⟨hx, hb, hml, hown, hts, -⟩ := id C
  unfold fX12_bounded at h
  have key : ∀ (H : Heap) (locs : List Loc), Hd Θ s h0 g0 H locs → W p l e { frames := 0, cells := 0, slots := 0, locals := 0 } s m args below meth c H locs 0 0 (MQ below (Qx Θ s.heap.size h0 g0 (some (vi rv))) args s 0 0 (AA Θ s.heap.size)) (F0 m 0 ls []) := by
    intro H locs hM
    refine x_lload_n hx hb (kX12_bounded (i := 0) rfl) rfl (lv_at hl 0 rfl) ?_
    refine x_iload_n hx hb (kX12_bounded (i := 1) rfl) rfl (lv_at hl 1 rfl) ?_
    refine x_ineg hx hb (kX12_bounded (i := 2) rfl) ?_
    refine x_i2l (a' := wr (-a1)) hx hb rfl (kX12_bounded (i := 3) rfl) ?_
    refine x_lcmp hx hb (kX12_bounded (i := 4) rfl) ?_
    refine x_if_ge (a' := wr (lCmp a0 (wr (-a1)))) hx hb rfl (tgt := 13) (kX12_bounded (i := 5) rfl) (by decide) (fun c_1 => ?_) (fun c_1 => ?_)
    · have h := it_t c_1 h
      refine x_lload_n hx hb (kX12_bounded (i := 9) rfl) rfl (lv_at hl 0 rfl) ?_
      refine x_iload_n hx hb (kX12_bounded (i := 10) rfl) rfl (lv_at hl 1 rfl) ?_
      refine x_i2l (a' := wr a1) hx hb rfl (kX12_bounded (i := 11) rfl) ?_
      refine x_lcmp hx hb (kX12_bounded (i := 12) rfl) ?_
      refine x_if_le (a' := wr (lCmp a0 (wr a1))) hx hb rfl (tgt := 24) (kX12_bounded (i := 13) rfl) (by decide) (fun c_2 => ?_) (fun c_2 => ?_)
      · have h := it_t c_2 h
        refine x_lload_n hx hb (kX12_bounded (i := 16) rfl) rfl (lv_at hl 0 rfl) ?_
        refine x_l2i hx hb (kX12_bounded (i := 17) rfl) ?_
        rw [← Option.some.inj h]
        exact x_iret C hM (nar_i _) (kX12_bounded (i := 18) rfl)
      · have h := it_f c_2 h
        refine x_iload_n hx hb (kX12_bounded (i := 14) rfl) rfl (lv_at hl 1 rfl) ?_
        refine lv_goto (tgt := 26) hx hb (kX12_bounded (i := 15) rfl) (by decide) ?_
        rw [← Option.some.inj h]
        exact x_iret C hM (nar_i _) (kX12_bounded (i := 18) rfl)
    · have h := it_f c_1 h
      refine x_iload_n hx hb (kX12_bounded (i := 6) rfl) rfl (lv_at hl 1 rfl) ?_
      refine x_ineg hx hb (kX12_bounded (i := 7) rfl) ?_
      refine lv_goto (tgt := 26) hx hb (kX12_bounded (i := 8) rfl) (by decide) ?_
      rw [← Option.some.inj h]
      exact x_iret C hM (nar_i _) (kX12_bounded (i := 18) rfl)
  exact key _ _ hM

/-! X12_slice -/
def fX12_slice_L60 : Nat → Int → Int → Int → Mem → (Mem → Option (Int × Mem)) → Option (Int × Mem)
  | 0, _, _, _, _, _ => none
  | n + 1, y4, y5, y6, g, K127 =>
    if wr y6 < 0 then (
      K127 g
    ) else (
      gd ((10 * (g 0 1)) + y6) 60 <|
      bnd (up g 3 (wr ((10 * (g 0 1)) + y6)).toNat (Int.tmod (wr y4) (10))) fun g_15 =>
      gd (((10 * (g_15 0 1)) + 5) + y6) 60 <|
      bnd (up g_15 3 (wr (((10 * (g_15 0 1)) + 5) + y6)).toNat (Int.tmod (wr y5) (10))) fun g_17 =>
      bnd (Int.tdiv (wr y4) (10)) fun x_18 =>
      bnd (Int.tdiv (wr y5) (10)) fun x_19 =>
      bnd (y6 + (-1)) fun x_20 =>
      fX12_slice_L60 n x_18 x_19 x_20 g_17 K127
    )
def fX12_slice (a0 : Int) (a1 : Int) (a2 : Int) (g : Mem) : Option (Int × Mem) :=
  bd (fX12_in a0 1 20) fun r_1 =>
  if wr r_1 = 0 then (
    some ((-1), g)
  ) else (
    bd (fX12_in a1 0 99999) fun r_4 =>
    if wr r_4 = 0 then (
      some ((-1), g)
    ) else (
      bd (fX12_in a2 0 99999) fun r_7 =>
      if wr r_7 = 0 then (
        some ((-1), g)
      ) else (
        if wr (g 0 1) = 6 then (
          some ((-1), g)
        ) else (
          gd (g 0 1) 6 <|
          bnd (up g 2 (wr (g 0 1)).toNat a0) fun g_12 =>
          fX12_slice_L60 fuel a1 a2 4 g_12
          (fun (g_21 : Mem) =>
            bnd (up g_21 0 1 ((g_21 0 1) + 1)) fun g_22 =>
            some ((g_22 0 1) - 1, g_22)
          )
        )
      )
    )
  )
set_option maxRecDepth 100000 in
set_option maxHeartbeats 4000000 in
theorem wX12_slice_L60 {p : Program} {l : Launch} {e : Env} {s : State} {m : MethodId} {args : Array Value} {below : List Frame} {meth : Method} {c : Code} {Θ : Th} {h0 : Mem} {rv : Int} {gR : Mem} {K127 : Mem → Option (Int × Mem)} (C : Cx p s m args meth c cX12_slice 7 RX12 (some .int) Θ) : ∀ (n : Nat) (y4 : Int) (y5 : Int) (y6 : Int) (g : Mem) (H : Heap) (locs : List Loc) (ls : Array Slot), fX12_slice_L60 n y4 y5 y6 g K127 = some (rv, gR) → (∀ (gz : Mem) (H : Heap) (locs : List Loc) (ls : Array Slot), K127 gz = some (rv, gR) → Hd Θ s h0 gz H locs → lv_has ls 7 [(0, .ref (Θ.2.2.2 0))] → W p l e { frames := 1, cells := 0, slots := 0, locals := 22 } s m args below meth c H locs 0 0 (MQ below (Qx Θ s.heap.size h0 gR (some (vi rv))) args s 0 0 (AA Θ s.heap.size)) (F0 m 127 ls [])) → Hd Θ s h0 g H locs → lv_has ls 7 [(0, .ref (Θ.2.2.2 0)), (4, vi y4), (5, vi y5), (6, vi y6)] → W p l e { frames := 1, cells := 0, slots := 0, locals := 22 } s m args below meth c H locs 0 0 (MQ below (Qx Θ s.heap.size h0 gR (some (vi rv))) args s 0 0 (AA Θ s.heap.size)) (F0 m 60 ls []) := by
  intro n
  obtain ⟨hx, hb, hml, hown, hts, -⟩ := id C
  induction n with
  | zero => intro y4 y5 y6 g H locs ls h; cases h
  | succ n ih =>
    intro y4 y5 y6 g H locs ls h hK127 hM hl
    rw [fX12_slice_L60] at h
    refine x_iload hx hb (kX12_slice (i := 33) rfl) (lv_at hl 3 rfl) ?_
    refine x_if_lt (a' := wr y6) hx hb rfl (tgt := 127) (kX12_slice (i := 34) rfl) (by decide) (fun c_13 => ?_) (fun c_13 => ?_)
    · have h := it_t c_13 h
      exact hK127 g H locs ls h hM (lv_sub hl [0] rfl)
    · have h := it_f c_13 h
      refine lv_aload_n hx hb (kX12_slice (i := 35) rfl) rfl (lv_at hl 0 rfl) ?_
      refine gX12_half C hM q_fX12_16 (kX12_slice (i := 36) rfl) ?_
      refine x_bipush hx hb (by decide) (kX12_slice (i := 37) rfl) ?_
      refine lv_aload_n hx hb (kX12_slice (i := 38) rfl) rfl (lv_at hl 0 rfl) ?_
      refine gX12_slices C hM q_fX12_178 (kX12_slice (i := 39) rfl) ?_
      refine x_imul hx hb (kX12_slice (i := 40) rfl) ?_
      refine x_iload hx hb (kX12_slice (i := 41) rfl) (lv_at hl 3 rfl) ?_
      refine x_iadd hx hb (kX12_slice (i := 42) rfl) ?_
      refine x_iload hx hb (kX12_slice (i := 43) rfl) (lv_at hl 1 rfl) ?_
      refine x_bipush hx hb (by decide) (kX12_slice (i := 44) rfl) ?_
      refine x_irem (a' := wr y4) (b' := 10) hx hb (kX12_slice (i := 45) rfl) rfl (by decide) (by decide) ?_
      obtain ⟨hi_14, h⟩ := gd_some h
      obtain ⟨g_15, eg_15, h⟩ := bnd_some h
      refine x_iastM C hM 3 (by decide) (eM_3 Θ) hi_14 eg_15 (kX12_slice (i := 46) rfl) (fun H locs hM => ?_)
      refine lv_aload_n hx hb (kX12_slice (i := 47) rfl) rfl (lv_at hl 0 rfl) ?_
      refine gX12_half C hM q_fX12_16 (kX12_slice (i := 48) rfl) ?_
      refine x_bipush hx hb (by decide) (kX12_slice (i := 49) rfl) ?_
      refine lv_aload_n hx hb (kX12_slice (i := 50) rfl) rfl (lv_at hl 0 rfl) ?_
      refine gX12_slices C hM q_fX12_178 (kX12_slice (i := 51) rfl) ?_
      refine x_imul hx hb (kX12_slice (i := 52) rfl) ?_
      refine x_iconst hx hb (kX12_slice (i := 53) rfl) ?_
      refine x_iadd hx hb (kX12_slice (i := 54) rfl) ?_
      refine x_iload hx hb (kX12_slice (i := 55) rfl) (lv_at hl 3 rfl) ?_
      refine x_iadd hx hb (kX12_slice (i := 56) rfl) ?_
      refine x_iload hx hb (kX12_slice (i := 57) rfl) (lv_at hl 2 rfl) ?_
      refine x_bipush hx hb (by decide) (kX12_slice (i := 58) rfl) ?_
      refine x_irem (a' := wr y5) (b' := 10) hx hb (kX12_slice (i := 59) rfl) rfl (by decide) (by decide) ?_
      obtain ⟨hi_16, h⟩ := gd_some h
      obtain ⟨g_17, eg_17, h⟩ := bnd_some h
      refine x_iastM C hM 3 (by decide) (eM_3 Θ) hi_16 eg_17 (kX12_slice (i := 60) rfl) (fun H locs hM => ?_)
      refine x_iload hx hb (kX12_slice (i := 61) rfl) (lv_at hl 1 rfl) ?_
      refine x_bipush hx hb (by decide) (kX12_slice (i := 62) rfl) ?_
      refine x_idiv (a' := wr y4) (b' := 10) hx hb (kX12_slice (i := 63) rfl) rfl (by decide) (by decide) ?_
      obtain ⟨x_18, ex_18, h⟩ := bnd_some h
      refine x_top ex_18 ?_
      refine x_istore (lv' := [(4, vi x_18), (0, .ref (Θ.2.2.2 0)), (5, vi y5), (6, vi y6)]) hx hb (kX12_slice (i := 64) rfl) hl (by decide) rfl (fun ls hl => ?_)
      refine x_iload hx hb (kX12_slice (i := 65) rfl) (lv_at hl 2 rfl) ?_
      refine x_bipush hx hb (by decide) (kX12_slice (i := 66) rfl) ?_
      refine x_idiv (a' := wr y5) (b' := 10) hx hb (kX12_slice (i := 67) rfl) rfl (by decide) (by decide) ?_
      obtain ⟨x_19, ex_19, h⟩ := bnd_some h
      refine x_top ex_19 ?_
      refine x_istore (lv' := [(5, vi x_19), (4, vi x_18), (0, .ref (Θ.2.2.2 0)), (6, vi y6)]) hx hb (kX12_slice (i := 68) rfl) hl (by decide) rfl (fun ls hl => ?_)
      obtain ⟨x_20, ex_20, h⟩ := bnd_some h
      refine x_iinc (k := 3) (lv' := [(6, vi x_20), (5, vi x_19), (4, vi x_18), (0, .ref (Θ.2.2.2 0))]) hx hb (kX12_slice (i := 69) rfl) hl rfl ex_20 (by decide) rfl (fun ls hl => ?_)
      refine lv_goto (tgt := 60) hx hb (kX12_slice (i := 70) rfl) (by decide) ?_
      exact ih x_18 x_19 x_20 g_17 H locs ls h hK127 hM (lv_sub hl [3, 2, 1, 0] rfl)
set_option maxRecDepth 100000 in
set_option maxHeartbeats 4000000 in
theorem tX12_slice (l : Launch) (Θ : Th) (a0 : Int) (a1 : Int) (a2 : Int) (h0 g : Mem) (rv : Int) (gR : Mem) (h : fX12_slice a0 a1 a2 g = some (rv, gR)) : Ct l yX12_slice cX12_slice 7 (some .int) 1 22 Θ [.ref (Θ.2.2.2 0), vi a0, vi a1, vi a2] h0 g h0 gR (some (vi rv)) := by
  refine x_start (by decide) (Nat.le_of_ble_eq_true rfl) ?_
  intro p e s m args below meth c ls C hM hl
  have hl : lv_has ls 7 [(0, .ref (Θ.2.2.2 0)), (1, vi a0), (2, vi a1), (3, vi a2)] := hl
  obtain ⟨hx, hb, hml, hown, hts, -⟩ := id C
  unfold fX12_slice at h
  have key : ∀ (H : Heap) (locs : List Loc), Hd Θ s h0 g H locs → W p l e { frames := 1, cells := 0, slots := 0, locals := 22 } s m args below meth c H locs 0 0 (MQ below (Qx Θ s.heap.size h0 gR (some (vi rv))) args s 0 0 (AA Θ s.heap.size)) (F0 m 0 ls []) := by
    intro H locs hM
    refine x_iload_n hx hb (kX12_slice (i := 0) rfl) rfl (lv_at hl 1 rfl) ?_
    refine x_iconst hx hb (kX12_slice (i := 1) rfl) ?_
    refine x_bipush hx hb (by decide) (kX12_slice (i := 2) rfl) ?_
    obtain ⟨r_1, hc_2, h⟩ := bd_some h
    refine x_callS (n := 3) (As := [vi a0, vi 1, vi 20]) (rest := []) C hM (tX12_in l Θ a0 1 20 h0 g r_1 hc_2) q_c_X12_in q_mX12_173 q_s_X12_in q_n_X12 (by decide +kernel) ⟨by decide, by decide⟩ rfl hl.1 rfl (Nat.le_of_ble_eq_true rfl) (kX12_slice (i := 3) rfl) (fun H locs hM => ?_)
    refine x_if_eq (a' := wr r_1) hx hb rfl (tgt := 39) (kX12_slice (i := 4) rfl) (by decide) (fun c_3 => ?_) (fun c_3 => ?_)
    · have h := it_t c_3 h
      refine x_iconst hx hb (kX12_slice (i := 19) rfl) ?_
      obtain ⟨q1, q2⟩ := ret2 h
      rw [q1, q2]
      exact x_iret C hM (nar_i _) (kX12_slice (i := 20) rfl)
    · have h := it_f c_3 h
      refine x_iload_n hx hb (kX12_slice (i := 5) rfl) rfl (lv_at hl 2 rfl) ?_
      refine x_iconst hx hb (kX12_slice (i := 6) rfl) ?_
      refine x_ldc (n := 99999) hx hb hown (hts _ q_kX12_177) (kX12_slice (i := 7) rfl) ?_
      obtain ⟨r_4, hc_5, h⟩ := bd_some h
      refine x_callS (n := 3) (As := [vi a1, vi 0, vi 99999]) (rest := []) C hM (tX12_in l Θ a1 0 99999 h0 g r_4 hc_5) q_c_X12_in q_mX12_173 q_s_X12_in q_n_X12 (by decide +kernel) ⟨by decide, by decide⟩ rfl hl.1 rfl (Nat.le_of_ble_eq_true rfl) (kX12_slice (i := 8) rfl) (fun H locs hM => ?_)
      refine x_if_eq (a' := wr r_4) hx hb rfl (tgt := 39) (kX12_slice (i := 9) rfl) (by decide) (fun c_6 => ?_) (fun c_6 => ?_)
      · have h := it_t c_6 h
        refine x_iconst hx hb (kX12_slice (i := 19) rfl) ?_
        obtain ⟨q1, q2⟩ := ret2 h
        rw [q1, q2]
        exact x_iret C hM (nar_i _) (kX12_slice (i := 20) rfl)
      · have h := it_f c_6 h
        refine x_iload_n hx hb (kX12_slice (i := 10) rfl) rfl (lv_at hl 3 rfl) ?_
        refine x_iconst hx hb (kX12_slice (i := 11) rfl) ?_
        refine x_ldc (n := 99999) hx hb hown (hts _ q_kX12_177) (kX12_slice (i := 12) rfl) ?_
        obtain ⟨r_7, hc_8, h⟩ := bd_some h
        refine x_callS (n := 3) (As := [vi a2, vi 0, vi 99999]) (rest := []) C hM (tX12_in l Θ a2 0 99999 h0 g r_7 hc_8) q_c_X12_in q_mX12_173 q_s_X12_in q_n_X12 (by decide +kernel) ⟨by decide, by decide⟩ rfl hl.1 rfl (Nat.le_of_ble_eq_true rfl) (kX12_slice (i := 13) rfl) (fun H locs hM => ?_)
        refine x_if_eq (a' := wr r_7) hx hb rfl (tgt := 39) (kX12_slice (i := 14) rfl) (by decide) (fun c_9 => ?_) (fun c_9 => ?_)
        · have h := it_t c_9 h
          refine x_iconst hx hb (kX12_slice (i := 19) rfl) ?_
          obtain ⟨q1, q2⟩ := ret2 h
          rw [q1, q2]
          exact x_iret C hM (nar_i _) (kX12_slice (i := 20) rfl)
        · have h := it_f c_9 h
          refine lv_aload_n hx hb (kX12_slice (i := 15) rfl) rfl (lv_at hl 0 rfl) ?_
          refine gX12_slices C hM q_fX12_178 (kX12_slice (i := 16) rfl) ?_
          refine x_bipush hx hb (by decide) (kX12_slice (i := 17) rfl) ?_
          refine x_icmp_ne (a' := wr (g 0 1)) (b' := 6) hx hb rfl (by decide) (tgt := 41) (kX12_slice (i := 18) rfl) (by decide) (fun c_10 => ?_) (fun c_10 => ?_)
          · have h := it_f c_10 h
            refine lv_aload_n hx hb (kX12_slice (i := 21) rfl) rfl (lv_at hl 0 rfl) ?_
            refine gX12_length C hM q_fX12_13 (kX12_slice (i := 22) rfl) ?_
            refine lv_aload_n hx hb (kX12_slice (i := 23) rfl) rfl (lv_at hl 0 rfl) ?_
            refine gX12_slices C hM q_fX12_178 (kX12_slice (i := 24) rfl) ?_
            refine x_iload_n hx hb (kX12_slice (i := 25) rfl) rfl (lv_at hl 1 rfl) ?_
            obtain ⟨hi_11, h⟩ := gd_some h
            obtain ⟨g_12, eg_12, h⟩ := bnd_some h
            refine x_iastM C hM 2 (by decide) (eM_2 Θ) hi_11 eg_12 (kX12_slice (i := 26) rfl) (fun H locs hM => ?_)
            refine x_iload_n hx hb (kX12_slice (i := 27) rfl) rfl (lv_at hl 2 rfl) ?_
            refine x_istore (lv' := [(4, vi a1), (0, .ref (Θ.2.2.2 0)), (1, vi a0), (2, vi a1), (3, vi a2)]) hx hb (kX12_slice (i := 28) rfl) hl (by decide) rfl (fun ls hl => ?_)
            refine x_iload_n hx hb (kX12_slice (i := 29) rfl) rfl (lv_at hl 4 rfl) ?_
            refine x_istore (lv' := [(5, vi a2), (4, vi a1), (0, .ref (Θ.2.2.2 0)), (1, vi a0), (2, vi a1), (3, vi a2)]) hx hb (kX12_slice (i := 30) rfl) hl (by decide) rfl (fun ls hl => ?_)
            refine x_iconst hx hb (kX12_slice (i := 31) rfl) ?_
            refine x_istore (lv' := [(6, vi 4), (5, vi a2), (4, vi a1), (0, .ref (Θ.2.2.2 0)), (1, vi a0), (2, vi a1), (3, vi a2)]) hx hb (kX12_slice (i := 32) rfl) hl (by decide) rfl (fun ls hl => ?_)
            refine wX12_slice_L60  C fuel a1 a2 4 g_12 H locs ls h ?_ hM (lv_sub hl [3, 2, 1, 0] rfl)
            · intro g_21 H locs ls h hM hl
              refine lv_aload_n hx hb (kX12_slice (i := 71) rfl) rfl (lv_at hl 0 rfl) ?_
              refine lv_dup hx hb (kX12_slice (i := 72) rfl) rfl ?_
              refine gX12_slices C hM q_fX12_178 (kX12_slice (i := 73) rfl) ?_
              refine x_iconst hx hb (kX12_slice (i := 74) rfl) ?_
              refine x_iadd hx hb (kX12_slice (i := 75) rfl) ?_
              obtain ⟨g_22, eg_22, h⟩ := bnd_some h
              refine pX12_slices C hM q_fX12_178 eg_22 (kX12_slice (i := 76) rfl) (fun H locs hM => ?_)
              refine lv_aload_n hx hb (kX12_slice (i := 77) rfl) rfl (lv_at hl 0 rfl) ?_
              refine gX12_slices C hM q_fX12_178 (kX12_slice (i := 78) rfl) ?_
              refine x_iconst hx hb (kX12_slice (i := 79) rfl) ?_
              refine x_isub hx hb (kX12_slice (i := 80) rfl) ?_
              obtain ⟨q1, q2⟩ := ret2 h
              rw [q1, q2]
              exact x_iret C hM (nar_i _) (kX12_slice (i := 81) rfl)
          · have h := it_t c_10 h
            refine x_iconst hx hb (kX12_slice (i := 19) rfl) ?_
            obtain ⟨q1, q2⟩ := ret2 h
            rw [q1, q2]
            exact x_iret C hM (nar_i _) (kX12_slice (i := 20) rfl)
  exact key _ _ hM

/-! X12_weight -/
def fX12_weight (a0 : Int) (a1 : Int) (a2 : Int) (a3 : Int) (g : Mem) : Option (Int × Mem) :=
  bd (fX12_in a0 1 500) fun r_1 =>
  if wr r_1 = 0 then (
    some ((-1), g)
  ) else (
    bd (fX12_in a1 (-19) 19) fun r_4 =>
    if wr r_4 = 0 then (
      some ((-1), g)
    ) else (
      bd (fX12_in a2 0 40) fun r_7 =>
      if wr r_7 = 0 then (
        some ((-1), g)
      ) else (
        bd (fX12_in a3 (-1) 80) fun r_10 =>
        if wr r_10 = 0 then (
          some ((-1), g)
        ) else (
          if wr (g 0 4) = 12 then (
            some ((-1), g)
          ) else (
            gd (g 0 4) 12 <|
            bnd (up g 4 (wr (g 0 4)).toNat a0) fun g_15 =>
            gd (g_15 0 4) 12 <|
            bnd (up g_15 5 (wr (g_15 0 4)).toNat a1) fun g_17 =>
            gd (g_17 0 4) 24 <|
            bnd (up g_17 18 (wr (g_17 0 4)).toNat a1) fun g_19 =>
            gd (g_19 0 4) 12 <|
            bnd (up g_19 6 (wr (g_19 0 4)).toNat a2) fun g_21 =>
            gd (g_21 0 4) 12 <|
            bnd (up g_21 7 (wr (g_21 0 4)).toNat a3) fun g_23 =>
            bnd (up g_23 0 4 ((g_23 0 4) + 1)) fun g_24 =>
            some ((g_24 0 4) - 1, g_24)
          )
        )
      )
    )
  )
set_option maxRecDepth 100000 in
set_option maxHeartbeats 4000000 in
theorem tX12_weight (l : Launch) (Θ : Th) (a0 : Int) (a1 : Int) (a2 : Int) (a3 : Int) (h0 g : Mem) (rv : Int) (gR : Mem) (h : fX12_weight a0 a1 a2 a3 g = some (rv, gR)) : Ct l yX12_weight cX12_weight 5 (some .int) 1 22 Θ [.ref (Θ.2.2.2 0), vi a0, vi a1, vi a2, vi a3] h0 g h0 gR (some (vi rv)) := by
  refine x_start (by decide) (Nat.le_of_ble_eq_true rfl) ?_
  intro p e s m args below meth c ls C hM hl
  have hl : lv_has ls 5 [(0, .ref (Θ.2.2.2 0)), (1, vi a0), (2, vi a1), (3, vi a2), (4, vi a3)] := hl
  obtain ⟨hx, hb, hml, hown, hts, -⟩ := id C
  unfold fX12_weight at h
  have key : ∀ (H : Heap) (locs : List Loc), Hd Θ s h0 g H locs → W p l e { frames := 1, cells := 0, slots := 0, locals := 22 } s m args below meth c H locs 0 0 (MQ below (Qx Θ s.heap.size h0 gR (some (vi rv))) args s 0 0 (AA Θ s.heap.size)) (F0 m 0 ls []) := by
    intro H locs hM
    refine x_iload_n hx hb (kX12_weight (i := 0) rfl) rfl (lv_at hl 1 rfl) ?_
    refine x_iconst hx hb (kX12_weight (i := 1) rfl) ?_
    refine x_sipush hx hb (by decide) (kX12_weight (i := 2) rfl) ?_
    obtain ⟨r_1, hc_2, h⟩ := bd_some h
    refine x_callS (n := 3) (As := [vi a0, vi 1, vi 500]) (rest := []) C hM (tX12_in l Θ a0 1 500 h0 g r_1 hc_2) q_c_X12_in q_mX12_173 q_s_X12_in q_n_X12 (by decide +kernel) ⟨by decide, by decide⟩ rfl hl.1 rfl (Nat.le_of_ble_eq_true rfl) (kX12_weight (i := 3) rfl) (fun H locs hM => ?_)
    refine x_if_eq (a' := wr r_1) hx hb rfl (tgt := 52) (kX12_weight (i := 4) rfl) (by decide) (fun c_3 => ?_) (fun c_3 => ?_)
    · have h := it_t c_3 h
      refine x_iconst hx hb (kX12_weight (i := 24) rfl) ?_
      obtain ⟨q1, q2⟩ := ret2 h
      rw [q1, q2]
      exact x_iret C hM (nar_i _) (kX12_weight (i := 25) rfl)
    · have h := it_f c_3 h
      refine x_iload_n hx hb (kX12_weight (i := 5) rfl) rfl (lv_at hl 2 rfl) ?_
      refine x_bipush hx hb (by decide) (kX12_weight (i := 6) rfl) ?_
      refine x_bipush hx hb (by decide) (kX12_weight (i := 7) rfl) ?_
      obtain ⟨r_4, hc_5, h⟩ := bd_some h
      refine x_callS (n := 3) (As := [vi a1, vi (-19), vi 19]) (rest := []) C hM (tX12_in l Θ a1 (-19) 19 h0 g r_4 hc_5) q_c_X12_in q_mX12_173 q_s_X12_in q_n_X12 (by decide +kernel) ⟨by decide, by decide⟩ rfl hl.1 rfl (Nat.le_of_ble_eq_true rfl) (kX12_weight (i := 8) rfl) (fun H locs hM => ?_)
      refine x_if_eq (a' := wr r_4) hx hb rfl (tgt := 52) (kX12_weight (i := 9) rfl) (by decide) (fun c_6 => ?_) (fun c_6 => ?_)
      · have h := it_t c_6 h
        refine x_iconst hx hb (kX12_weight (i := 24) rfl) ?_
        obtain ⟨q1, q2⟩ := ret2 h
        rw [q1, q2]
        exact x_iret C hM (nar_i _) (kX12_weight (i := 25) rfl)
      · have h := it_f c_6 h
        refine x_iload_n hx hb (kX12_weight (i := 10) rfl) rfl (lv_at hl 3 rfl) ?_
        refine x_iconst hx hb (kX12_weight (i := 11) rfl) ?_
        refine x_bipush hx hb (by decide) (kX12_weight (i := 12) rfl) ?_
        obtain ⟨r_7, hc_8, h⟩ := bd_some h
        refine x_callS (n := 3) (As := [vi a2, vi 0, vi 40]) (rest := []) C hM (tX12_in l Θ a2 0 40 h0 g r_7 hc_8) q_c_X12_in q_mX12_173 q_s_X12_in q_n_X12 (by decide +kernel) ⟨by decide, by decide⟩ rfl hl.1 rfl (Nat.le_of_ble_eq_true rfl) (kX12_weight (i := 13) rfl) (fun H locs hM => ?_)
        refine x_if_eq (a' := wr r_7) hx hb rfl (tgt := 52) (kX12_weight (i := 14) rfl) (by decide) (fun c_9 => ?_) (fun c_9 => ?_)
        · have h := it_t c_9 h
          refine x_iconst hx hb (kX12_weight (i := 24) rfl) ?_
          obtain ⟨q1, q2⟩ := ret2 h
          rw [q1, q2]
          exact x_iret C hM (nar_i _) (kX12_weight (i := 25) rfl)
        · have h := it_f c_9 h
          refine x_iload hx hb (kX12_weight (i := 15) rfl) (lv_at hl 4 rfl) ?_
          refine x_iconst hx hb (kX12_weight (i := 16) rfl) ?_
          refine x_bipush hx hb (by decide) (kX12_weight (i := 17) rfl) ?_
          obtain ⟨r_10, hc_11, h⟩ := bd_some h
          refine x_callS (n := 3) (As := [vi a3, vi (-1), vi 80]) (rest := []) C hM (tX12_in l Θ a3 (-1) 80 h0 g r_10 hc_11) q_c_X12_in q_mX12_173 q_s_X12_in q_n_X12 (by decide +kernel) ⟨by decide, by decide⟩ rfl hl.1 rfl (Nat.le_of_ble_eq_true rfl) (kX12_weight (i := 18) rfl) (fun H locs hM => ?_)
          refine x_if_eq (a' := wr r_10) hx hb rfl (tgt := 52) (kX12_weight (i := 19) rfl) (by decide) (fun c_12 => ?_) (fun c_12 => ?_)
          · have h := it_t c_12 h
            refine x_iconst hx hb (kX12_weight (i := 24) rfl) ?_
            obtain ⟨q1, q2⟩ := ret2 h
            rw [q1, q2]
            exact x_iret C hM (nar_i _) (kX12_weight (i := 25) rfl)
          · have h := it_f c_12 h
            refine lv_aload_n hx hb (kX12_weight (i := 20) rfl) rfl (lv_at hl 0 rfl) ?_
            refine gX12_weights C hM q_fX12_181 (kX12_weight (i := 21) rfl) ?_
            refine x_bipush hx hb (by decide) (kX12_weight (i := 22) rfl) ?_
            refine x_icmp_ne (a' := wr (g 0 4)) (b' := 12) hx hb rfl (by decide) (tgt := 54) (kX12_weight (i := 23) rfl) (by decide) (fun c_13 => ?_) (fun c_13 => ?_)
            · have h := it_f c_13 h
              refine lv_aload_n hx hb (kX12_weight (i := 26) rfl) rfl (lv_at hl 0 rfl) ?_
              refine gX12_mass C hM q_fX12_19 (kX12_weight (i := 27) rfl) ?_
              refine lv_aload_n hx hb (kX12_weight (i := 28) rfl) rfl (lv_at hl 0 rfl) ?_
              refine gX12_weights C hM q_fX12_181 (kX12_weight (i := 29) rfl) ?_
              refine x_iload_n hx hb (kX12_weight (i := 30) rfl) rfl (lv_at hl 1 rfl) ?_
              obtain ⟨hi_14, h⟩ := gd_some h
              obtain ⟨g_15, eg_15, h⟩ := bnd_some h
              refine x_iastM C hM 4 (by decide) (eM_4 Θ) hi_14 eg_15 (kX12_weight (i := 31) rfl) (fun H locs hM => ?_)
              refine lv_aload_n hx hb (kX12_weight (i := 32) rfl) rfl (lv_at hl 0 rfl) ?_
              refine gX12_toldPlace C hM q_fX12_22 (kX12_weight (i := 33) rfl) ?_
              refine lv_aload_n hx hb (kX12_weight (i := 34) rfl) rfl (lv_at hl 0 rfl) ?_
              refine gX12_weights C hM q_fX12_181 (kX12_weight (i := 35) rfl) ?_
              refine x_iload_n hx hb (kX12_weight (i := 36) rfl) rfl (lv_at hl 2 rfl) ?_
              obtain ⟨hi_16, h⟩ := gd_some h
              obtain ⟨g_17, eg_17, h⟩ := bnd_some h
              refine x_iastM C hM 5 (by decide) (eM_5 Θ) hi_16 eg_17 (kX12_weight (i := 37) rfl) (fun H locs hM => ?_)
              refine lv_aload_n hx hb (kX12_weight (i := 38) rfl) rfl (lv_at hl 0 rfl) ?_
              refine gX12_place C hM q_fX12_72 (kX12_weight (i := 39) rfl) ?_
              refine lv_aload_n hx hb (kX12_weight (i := 40) rfl) rfl (lv_at hl 0 rfl) ?_
              refine gX12_weights C hM q_fX12_181 (kX12_weight (i := 41) rfl) ?_
              refine x_iload_n hx hb (kX12_weight (i := 42) rfl) rfl (lv_at hl 2 rfl) ?_
              obtain ⟨hi_18, h⟩ := gd_some h
              obtain ⟨g_19, eg_19, h⟩ := bnd_some h
              refine x_iastM C hM 18 (by decide) (eM_18 Θ) hi_18 eg_19 (kX12_weight (i := 43) rfl) (fun H locs hM => ?_)
              refine lv_aload_n hx hb (kX12_weight (i := 44) rfl) rfl (lv_at hl 0 rfl) ?_
              refine gX12_height C hM q_fX12_25 (kX12_weight (i := 45) rfl) ?_
              refine lv_aload_n hx hb (kX12_weight (i := 46) rfl) rfl (lv_at hl 0 rfl) ?_
              refine gX12_weights C hM q_fX12_181 (kX12_weight (i := 47) rfl) ?_
              refine x_iload_n hx hb (kX12_weight (i := 48) rfl) rfl (lv_at hl 3 rfl) ?_
              obtain ⟨hi_20, h⟩ := gd_some h
              obtain ⟨g_21, eg_21, h⟩ := bnd_some h
              refine x_iastM C hM 6 (by decide) (eM_6 Θ) hi_20 eg_21 (kX12_weight (i := 49) rfl) (fun H locs hM => ?_)
              refine lv_aload_n hx hb (kX12_weight (i := 50) rfl) rfl (lv_at hl 0 rfl) ?_
              refine gX12_loose C hM q_fX12_28 (kX12_weight (i := 51) rfl) ?_
              refine lv_aload_n hx hb (kX12_weight (i := 52) rfl) rfl (lv_at hl 0 rfl) ?_
              refine gX12_weights C hM q_fX12_181 (kX12_weight (i := 53) rfl) ?_
              refine x_iload hx hb (kX12_weight (i := 54) rfl) (lv_at hl 4 rfl) ?_
              obtain ⟨hi_22, h⟩ := gd_some h
              obtain ⟨g_23, eg_23, h⟩ := bnd_some h
              refine x_iastM C hM 7 (by decide) (eM_7 Θ) hi_22 eg_23 (kX12_weight (i := 55) rfl) (fun H locs hM => ?_)
              refine lv_aload_n hx hb (kX12_weight (i := 56) rfl) rfl (lv_at hl 0 rfl) ?_
              refine lv_dup hx hb (kX12_weight (i := 57) rfl) rfl ?_
              refine gX12_weights C hM q_fX12_181 (kX12_weight (i := 58) rfl) ?_
              refine x_iconst hx hb (kX12_weight (i := 59) rfl) ?_
              refine x_iadd hx hb (kX12_weight (i := 60) rfl) ?_
              obtain ⟨g_24, eg_24, h⟩ := bnd_some h
              refine pX12_weights C hM q_fX12_181 eg_24 (kX12_weight (i := 61) rfl) (fun H locs hM => ?_)
              refine lv_aload_n hx hb (kX12_weight (i := 62) rfl) rfl (lv_at hl 0 rfl) ?_
              refine gX12_weights C hM q_fX12_181 (kX12_weight (i := 63) rfl) ?_
              refine x_iconst hx hb (kX12_weight (i := 64) rfl) ?_
              refine x_isub hx hb (kX12_weight (i := 65) rfl) ?_
              obtain ⟨q1, q2⟩ := ret2 h
              rw [q1, q2]
              exact x_iret C hM (nar_i _) (kX12_weight (i := 66) rfl)
            · have h := it_t c_13 h
              refine x_iconst hx hb (kX12_weight (i := 24) rfl) ?_
              obtain ⟨q1, q2⟩ := ret2 h
              rw [q1, q2]
              exact x_iret C hM (nar_i _) (kX12_weight (i := 25) rfl)
  exact key _ _ hM

/-! X12_isWeight -/
def fX12_isWeight (a0 : Int) (g : Mem) : Option (Int) :=
  bd (fX12_in a0 0 ((g 0 4) - 1)) fun r_1 =>
  if wr r_1 = 0 then (
    some 0
  ) else (
    gd a0 12 <|
    if wr (g 8 (wr a0).toNat) = 0 then (
      some 1
    ) else (
      some 0
    )
  )
set_option maxRecDepth 100000 in
set_option maxHeartbeats 4000000 in
theorem tX12_isWeight (l : Launch) (Θ : Th) (a0 : Int) (h0 g : Mem) (rv : Int) (h : fX12_isWeight a0 g = some rv) : Ct l yX12_isWeight cX12_isWeight 2 (some .boolean) 1 22 Θ [.ref (Θ.2.2.2 0), vi a0] h0 g h0 g (some (vi rv)) := by
  refine x_start (by decide) (Nat.le_of_ble_eq_true rfl) ?_
  intro p e s m args below meth c ls C hM hl
  have hl : lv_has ls 2 [(0, .ref (Θ.2.2.2 0)), (1, vi a0)] := hl
  obtain ⟨hx, hb, hml, hown, hts, -⟩ := id C
  unfold fX12_isWeight at h
  have key : ∀ (H : Heap) (locs : List Loc), Hd Θ s h0 g H locs → W p l e { frames := 1, cells := 0, slots := 0, locals := 22 } s m args below meth c H locs 0 0 (MQ below (Qx Θ s.heap.size h0 g (some (vi rv))) args s 0 0 (AA Θ s.heap.size)) (F0 m 0 ls []) := by
    intro H locs hM
    refine x_iload_n hx hb (kX12_isWeight (i := 0) rfl) rfl (lv_at hl 1 rfl) ?_
    refine x_iconst hx hb (kX12_isWeight (i := 1) rfl) ?_
    refine lv_aload_n hx hb (kX12_isWeight (i := 2) rfl) rfl (lv_at hl 0 rfl) ?_
    refine gX12_weights C hM q_fX12_181 (kX12_isWeight (i := 3) rfl) ?_
    refine x_iconst hx hb (kX12_isWeight (i := 4) rfl) ?_
    refine x_isub hx hb (kX12_isWeight (i := 5) rfl) ?_
    obtain ⟨r_1, hc_2, h⟩ := bd_some h
    refine x_callS (n := 3) (As := [vi a0, vi 0, vi ((g 0 4) - 1)]) (rest := []) C hM (tX12_in l Θ a0 0 ((g 0 4) - 1) h0 g r_1 hc_2) q_c_X12_in q_mX12_173 q_s_X12_in q_n_X12 (by decide +kernel) ⟨by decide, by decide⟩ rfl hl.1 rfl (Nat.le_of_ble_eq_true rfl) (kX12_isWeight (i := 6) rfl) (fun H locs hM => ?_)
    refine x_if_eq (a' := wr r_1) hx hb rfl (tgt := 27) (kX12_isWeight (i := 7) rfl) (by decide) (fun c_3 => ?_) (fun c_3 => ?_)
    · have h := it_t c_3 h
      refine x_iconst hx hb (kX12_isWeight (i := 15) rfl) ?_
      rw [← Option.some.inj h]
      exact x_iret C hM (nar_z (Or.inl rfl)) (kX12_isWeight (i := 16) rfl)
    · have h := it_f c_3 h
      refine lv_aload_n hx hb (kX12_isWeight (i := 8) rfl) rfl (lv_at hl 0 rfl) ?_
      refine gX12_isLost C hM q_fX12_31 (kX12_isWeight (i := 9) rfl) ?_
      refine x_iload_n hx hb (kX12_isWeight (i := 10) rfl) rfl (lv_at hl 1 rfl) ?_
      obtain ⟨hi_4, h⟩ := gd_some h
      refine x_zaldM C hM 8 (by decide) (eM_8 Θ) hi_4 (kX12_isWeight (i := 11) rfl) ?_
      refine x_if_ne (a' := wr (g 8 (wr a0).toNat)) hx hb rfl (tgt := 27) (kX12_isWeight (i := 12) rfl) (by decide) (fun c_5 => ?_) (fun c_5 => ?_)
      · have h := it_f c_5 h
        refine x_iconst hx hb (kX12_isWeight (i := 15) rfl) ?_
        rw [← Option.some.inj h]
        exact x_iret C hM (nar_z (Or.inl rfl)) (kX12_isWeight (i := 16) rfl)
      · have h := it_t c_5 h
        refine x_iconst hx hb (kX12_isWeight (i := 13) rfl) ?_
        refine lv_goto (tgt := 28) hx hb (kX12_isWeight (i := 14) rfl) (by decide) ?_
        rw [← Option.some.inj h]
        exact x_iret C hM (nar_z (Or.inr rfl)) (kX12_isWeight (i := 16) rfl)
  exact key _ _ hM

/-! X12_lose -/
def fX12_lose (a0 : Int) (g : Mem) : Option (Int × Mem) :=
  bd (fX12_isWeight a0 g) fun r_1 =>
  if wr r_1 = 0 then (
    some (0, g)
  ) else (
    gd a0 12 <|
    bnd (up g 8 (wr a0).toNat 1) fun g_5 =>
    some (1, g_5)
  )
set_option maxRecDepth 100000 in
set_option maxHeartbeats 4000000 in
theorem tX12_lose (l : Launch) (Θ : Th) (a0 : Int) (h0 g : Mem) (rv : Int) (gR : Mem) (h : fX12_lose a0 g = some (rv, gR)) : Ct l yX12_lose cX12_lose 2 (some .boolean) 2 43 Θ [.ref (Θ.2.2.2 0), vi a0] h0 g h0 gR (some (vi rv)) := by
  refine x_start (by decide) (Nat.le_of_ble_eq_true rfl) ?_
  intro p e s m args below meth c ls C hM hl
  have hl : lv_has ls 2 [(0, .ref (Θ.2.2.2 0)), (1, vi a0)] := hl
  obtain ⟨hx, hb, hml, hown, hts, -⟩ := id C
  unfold fX12_lose at h
  have key : ∀ (H : Heap) (locs : List Loc), Hd Θ s h0 g H locs → W p l e { frames := 2, cells := 0, slots := 0, locals := 43 } s m args below meth c H locs 0 0 (MQ below (Qx Θ s.heap.size h0 gR (some (vi rv))) args s 0 0 (AA Θ s.heap.size)) (F0 m 0 ls []) := by
    intro H locs hM
    refine lv_aload_n hx hb (kX12_lose (i := 0) rfl) rfl (lv_at hl 0 rfl) ?_
    refine x_iload_n hx hb (kX12_lose (i := 1) rfl) rfl (lv_at hl 1 rfl) ?_
    obtain ⟨r_1, hc_2, h⟩ := bd_some h
    refine x_callV (n := 1) (As := [vi a0]) (rest := []) C hM (tX12_isWeight l Θ a0 h0 g r_1 hc_2) (x_recvM C hM 0 (by decide) (eM_0 Θ _) rfl rfl) q_c_X12_isWeight q_mX12_184 q_i_X12_isWeight q_e_X12_isWeight q_n_X12 (by decide +kernel) ⟨by decide, by decide⟩ rfl hl.1 rfl (Nat.le_of_ble_eq_true rfl) (kX12_lose (i := 2) rfl) (fun H locs hM => ?_)
    refine x_if_ne (a' := wr r_1) hx hb rfl (tgt := 10) (kX12_lose (i := 3) rfl) (by decide) (fun c_3 => ?_) (fun c_3 => ?_)
    · have h := it_f c_3 h
      refine lv_aload_n hx hb (kX12_lose (i := 6) rfl) rfl (lv_at hl 0 rfl) ?_
      refine gX12_isLost C hM q_fX12_31 (kX12_lose (i := 7) rfl) ?_
      refine x_iload_n hx hb (kX12_lose (i := 8) rfl) rfl (lv_at hl 1 rfl) ?_
      refine x_iconst hx hb (kX12_lose (i := 9) rfl) ?_
      obtain ⟨hi_4, h⟩ := gd_some h
      obtain ⟨g_5, eg_5, h⟩ := bnd_some h
      refine x_zastM C hM 8 (by decide) (eM_8 Θ) hi_4 (Or.inr rfl) eg_5 (kX12_lose (i := 10) rfl) (fun H locs hM => ?_)
      refine x_iconst hx hb (kX12_lose (i := 11) rfl) ?_
      obtain ⟨q1, q2⟩ := ret2 h
      rw [q1, q2]
      exact x_iret C hM (nar_z (Or.inr rfl)) (kX12_lose (i := 12) rfl)
    · have h := it_t c_3 h
      refine x_iconst hx hb (kX12_lose (i := 4) rfl) ?_
      obtain ⟨q1, q2⟩ := ret2 h
      rw [q1, q2]
      exact x_iret C hM (nar_z (Or.inl rfl)) (kX12_lose (i := 5) rfl)
  exact key _ _ hM

/-! X12_tank -/
def fX12_tank (a0 : Int) (a1 : Int) (a2 : Int) (g : Mem) : Option (Int × Mem) :=
  bd (fX12_in a0 1 9) fun r_1 =>
  if wr r_1 = 0 then (
    some ((-1), g)
  ) else (
    bd (fX12_in a1 0 40) fun r_4 =>
    if wr r_4 = 0 then (
      some ((-1), g)
    ) else (
      bd (fX12_in a2 1 300) fun r_7 =>
      if wr r_7 = 0 then (
        some ((-1), g)
      ) else (
        if wr (g 0 10) = 4 then (
          some ((-1), g)
        ) else (
          gd (g 0 10) 4 <|
          bnd (up g 9 (wr (g 0 10)).toNat a0) fun g_12 =>
          gd (g_12 0 10) 4 <|
          bnd (up g_12 10 (wr (g_12 0 10)).toNat a1) fun g_14 =>
          gd (g_14 0 10) 4 <|
          bnd (up g_14 11 (wr (g_14 0 10)).toNat a2) fun g_16 =>
          bnd (up g_16 0 10 ((g_16 0 10) + 1)) fun g_17 =>
          some ((g_17 0 10) - 1, g_17)
        )
      )
    )
  )
set_option maxRecDepth 100000 in
set_option maxHeartbeats 4000000 in
theorem tX12_tank (l : Launch) (Θ : Th) (a0 : Int) (a1 : Int) (a2 : Int) (h0 g : Mem) (rv : Int) (gR : Mem) (h : fX12_tank a0 a1 a2 g = some (rv, gR)) : Ct l yX12_tank cX12_tank 4 (some .int) 1 22 Θ [.ref (Θ.2.2.2 0), vi a0, vi a1, vi a2] h0 g h0 gR (some (vi rv)) := by
  refine x_start (by decide) (Nat.le_of_ble_eq_true rfl) ?_
  intro p e s m args below meth c ls C hM hl
  have hl : lv_has ls 4 [(0, .ref (Θ.2.2.2 0)), (1, vi a0), (2, vi a1), (3, vi a2)] := hl
  obtain ⟨hx, hb, hml, hown, hts, -⟩ := id C
  unfold fX12_tank at h
  have key : ∀ (H : Heap) (locs : List Loc), Hd Θ s h0 g H locs → W p l e { frames := 1, cells := 0, slots := 0, locals := 22 } s m args below meth c H locs 0 0 (MQ below (Qx Θ s.heap.size h0 gR (some (vi rv))) args s 0 0 (AA Θ s.heap.size)) (F0 m 0 ls []) := by
    intro H locs hM
    refine x_iload_n hx hb (kX12_tank (i := 0) rfl) rfl (lv_at hl 1 rfl) ?_
    refine x_iconst hx hb (kX12_tank (i := 1) rfl) ?_
    refine x_bipush hx hb (by decide) (kX12_tank (i := 2) rfl) ?_
    obtain ⟨r_1, hc_2, h⟩ := bd_some h
    refine x_callS (n := 3) (As := [vi a0, vi 1, vi 9]) (rest := []) C hM (tX12_in l Θ a0 1 9 h0 g r_1 hc_2) q_c_X12_in q_mX12_173 q_s_X12_in q_n_X12 (by decide +kernel) ⟨by decide, by decide⟩ rfl hl.1 rfl (Nat.le_of_ble_eq_true rfl) (kX12_tank (i := 3) rfl) (fun H locs hM => ?_)
    refine x_if_eq (a' := wr r_1) hx hb rfl (tgt := 39) (kX12_tank (i := 4) rfl) (by decide) (fun c_3 => ?_) (fun c_3 => ?_)
    · have h := it_t c_3 h
      refine x_iconst hx hb (kX12_tank (i := 19) rfl) ?_
      obtain ⟨q1, q2⟩ := ret2 h
      rw [q1, q2]
      exact x_iret C hM (nar_i _) (kX12_tank (i := 20) rfl)
    · have h := it_f c_3 h
      refine x_iload_n hx hb (kX12_tank (i := 5) rfl) rfl (lv_at hl 2 rfl) ?_
      refine x_iconst hx hb (kX12_tank (i := 6) rfl) ?_
      refine x_bipush hx hb (by decide) (kX12_tank (i := 7) rfl) ?_
      obtain ⟨r_4, hc_5, h⟩ := bd_some h
      refine x_callS (n := 3) (As := [vi a1, vi 0, vi 40]) (rest := []) C hM (tX12_in l Θ a1 0 40 h0 g r_4 hc_5) q_c_X12_in q_mX12_173 q_s_X12_in q_n_X12 (by decide +kernel) ⟨by decide, by decide⟩ rfl hl.1 rfl (Nat.le_of_ble_eq_true rfl) (kX12_tank (i := 8) rfl) (fun H locs hM => ?_)
      refine x_if_eq (a' := wr r_4) hx hb rfl (tgt := 39) (kX12_tank (i := 9) rfl) (by decide) (fun c_6 => ?_) (fun c_6 => ?_)
      · have h := it_t c_6 h
        refine x_iconst hx hb (kX12_tank (i := 19) rfl) ?_
        obtain ⟨q1, q2⟩ := ret2 h
        rw [q1, q2]
        exact x_iret C hM (nar_i _) (kX12_tank (i := 20) rfl)
      · have h := it_f c_6 h
        refine x_iload_n hx hb (kX12_tank (i := 10) rfl) rfl (lv_at hl 3 rfl) ?_
        refine x_iconst hx hb (kX12_tank (i := 11) rfl) ?_
        refine x_sipush hx hb (by decide) (kX12_tank (i := 12) rfl) ?_
        obtain ⟨r_7, hc_8, h⟩ := bd_some h
        refine x_callS (n := 3) (As := [vi a2, vi 1, vi 300]) (rest := []) C hM (tX12_in l Θ a2 1 300 h0 g r_7 hc_8) q_c_X12_in q_mX12_173 q_s_X12_in q_n_X12 (by decide +kernel) ⟨by decide, by decide⟩ rfl hl.1 rfl (Nat.le_of_ble_eq_true rfl) (kX12_tank (i := 13) rfl) (fun H locs hM => ?_)
        refine x_if_eq (a' := wr r_7) hx hb rfl (tgt := 39) (kX12_tank (i := 14) rfl) (by decide) (fun c_9 => ?_) (fun c_9 => ?_)
        · have h := it_t c_9 h
          refine x_iconst hx hb (kX12_tank (i := 19) rfl) ?_
          obtain ⟨q1, q2⟩ := ret2 h
          rw [q1, q2]
          exact x_iret C hM (nar_i _) (kX12_tank (i := 20) rfl)
        · have h := it_f c_9 h
          refine lv_aload_n hx hb (kX12_tank (i := 15) rfl) rfl (lv_at hl 0 rfl) ?_
          refine gX12_tanks C hM q_fX12_188 (kX12_tank (i := 16) rfl) ?_
          refine x_iconst hx hb (kX12_tank (i := 17) rfl) ?_
          refine x_icmp_ne (a' := wr (g 0 10)) (b' := 4) hx hb rfl (by decide) (tgt := 41) (kX12_tank (i := 18) rfl) (by decide) (fun c_10 => ?_) (fun c_10 => ?_)
          · have h := it_f c_10 h
            refine lv_aload_n hx hb (kX12_tank (i := 21) rfl) rfl (lv_at hl 0 rfl) ?_
            refine gX12_wide C hM q_fX12_35 (kX12_tank (i := 22) rfl) ?_
            refine lv_aload_n hx hb (kX12_tank (i := 23) rfl) rfl (lv_at hl 0 rfl) ?_
            refine gX12_tanks C hM q_fX12_188 (kX12_tank (i := 24) rfl) ?_
            refine x_iload_n hx hb (kX12_tank (i := 25) rfl) rfl (lv_at hl 1 rfl) ?_
            obtain ⟨hi_11, h⟩ := gd_some h
            obtain ⟨g_12, eg_12, h⟩ := bnd_some h
            refine x_iastM C hM 9 (by decide) (eM_9 Θ) hi_11 eg_12 (kX12_tank (i := 26) rfl) (fun H locs hM => ?_)
            refine lv_aload_n hx hb (kX12_tank (i := 27) rfl) rfl (lv_at hl 0 rfl) ?_
            refine gX12_tankHeight C hM q_fX12_38 (kX12_tank (i := 28) rfl) ?_
            refine lv_aload_n hx hb (kX12_tank (i := 29) rfl) rfl (lv_at hl 0 rfl) ?_
            refine gX12_tanks C hM q_fX12_188 (kX12_tank (i := 30) rfl) ?_
            refine x_iload_n hx hb (kX12_tank (i := 31) rfl) rfl (lv_at hl 2 rfl) ?_
            obtain ⟨hi_13, h⟩ := gd_some h
            obtain ⟨g_14, eg_14, h⟩ := bnd_some h
            refine x_iastM C hM 10 (by decide) (eM_10 Θ) hi_13 eg_14 (kX12_tank (i := 32) rfl) (fun H locs hM => ?_)
            refine lv_aload_n hx hb (kX12_tank (i := 33) rfl) rfl (lv_at hl 0 rfl) ?_
            refine gX12_holds C hM q_fX12_41 (kX12_tank (i := 34) rfl) ?_
            refine lv_aload_n hx hb (kX12_tank (i := 35) rfl) rfl (lv_at hl 0 rfl) ?_
            refine gX12_tanks C hM q_fX12_188 (kX12_tank (i := 36) rfl) ?_
            refine x_iload_n hx hb (kX12_tank (i := 37) rfl) rfl (lv_at hl 3 rfl) ?_
            obtain ⟨hi_15, h⟩ := gd_some h
            obtain ⟨g_16, eg_16, h⟩ := bnd_some h
            refine x_iastM C hM 11 (by decide) (eM_11 Θ) hi_15 eg_16 (kX12_tank (i := 38) rfl) (fun H locs hM => ?_)
            refine lv_aload_n hx hb (kX12_tank (i := 39) rfl) rfl (lv_at hl 0 rfl) ?_
            refine lv_dup hx hb (kX12_tank (i := 40) rfl) rfl ?_
            refine gX12_tanks C hM q_fX12_188 (kX12_tank (i := 41) rfl) ?_
            refine x_iconst hx hb (kX12_tank (i := 42) rfl) ?_
            refine x_iadd hx hb (kX12_tank (i := 43) rfl) ?_
            obtain ⟨g_17, eg_17, h⟩ := bnd_some h
            refine pX12_tanks C hM q_fX12_188 eg_17 (kX12_tank (i := 44) rfl) (fun H locs hM => ?_)
            refine lv_aload_n hx hb (kX12_tank (i := 45) rfl) rfl (lv_at hl 0 rfl) ?_
            refine gX12_tanks C hM q_fX12_188 (kX12_tank (i := 46) rfl) ?_
            refine x_iconst hx hb (kX12_tank (i := 47) rfl) ?_
            refine x_isub hx hb (kX12_tank (i := 48) rfl) ?_
            obtain ⟨q1, q2⟩ := ret2 h
            rw [q1, q2]
            exact x_iret C hM (nar_i _) (kX12_tank (i := 49) rfl)
          · have h := it_t c_10 h
            refine x_iconst hx hb (kX12_tank (i := 19) rfl) ?_
            obtain ⟨q1, q2⟩ := ret2 h
            rw [q1, q2]
            exact x_iret C hM (nar_i _) (kX12_tank (i := 20) rfl)
  exact key _ _ hM

/-! X12_fill -/
def fX12_fill (a0 : Int) (a1 : Int) (g : Mem) : Option (Int × Mem) :=
  bd (fX12_in a0 0 ((g 0 10) - 1)) fun r_1 =>
  if wr r_1 = 0 then (
    some (0, g)
  ) else (
    gd a0 4 <|
    bd (fX12_in a1 0 (g 11 (wr a0).toNat)) fun r_5 =>
    if wr r_5 = 0 then (
      some (0, g)
    ) else (
      gd a0 4 <|
      bnd (up g 12 (wr a0).toNat a1) fun g_9 =>
      some (1, g_9)
    )
  )
set_option maxRecDepth 100000 in
set_option maxHeartbeats 4000000 in
theorem tX12_fill (l : Launch) (Θ : Th) (a0 : Int) (a1 : Int) (h0 g : Mem) (rv : Int) (gR : Mem) (h : fX12_fill a0 a1 g = some (rv, gR)) : Ct l yX12_fill cX12_fill 3 (some .boolean) 1 22 Θ [.ref (Θ.2.2.2 0), vi a0, vi a1] h0 g h0 gR (some (vi rv)) := by
  refine x_start (by decide) (Nat.le_of_ble_eq_true rfl) ?_
  intro p e s m args below meth c ls C hM hl
  have hl : lv_has ls 3 [(0, .ref (Θ.2.2.2 0)), (1, vi a0), (2, vi a1)] := hl
  obtain ⟨hx, hb, hml, hown, hts, -⟩ := id C
  unfold fX12_fill at h
  have key : ∀ (H : Heap) (locs : List Loc), Hd Θ s h0 g H locs → W p l e { frames := 1, cells := 0, slots := 0, locals := 22 } s m args below meth c H locs 0 0 (MQ below (Qx Θ s.heap.size h0 gR (some (vi rv))) args s 0 0 (AA Θ s.heap.size)) (F0 m 0 ls []) := by
    intro H locs hM
    refine x_iload_n hx hb (kX12_fill (i := 0) rfl) rfl (lv_at hl 1 rfl) ?_
    refine x_iconst hx hb (kX12_fill (i := 1) rfl) ?_
    refine lv_aload_n hx hb (kX12_fill (i := 2) rfl) rfl (lv_at hl 0 rfl) ?_
    refine gX12_tanks C hM q_fX12_188 (kX12_fill (i := 3) rfl) ?_
    refine x_iconst hx hb (kX12_fill (i := 4) rfl) ?_
    refine x_isub hx hb (kX12_fill (i := 5) rfl) ?_
    obtain ⟨r_1, hc_2, h⟩ := bd_some h
    refine x_callS (n := 3) (As := [vi a0, vi 0, vi ((g 0 10) - 1)]) (rest := []) C hM (tX12_in l Θ a0 0 ((g 0 10) - 1) h0 g r_1 hc_2) q_c_X12_in q_mX12_173 q_s_X12_in q_n_X12 (by decide +kernel) ⟨by decide, by decide⟩ rfl hl.1 rfl (Nat.le_of_ble_eq_true rfl) (kX12_fill (i := 6) rfl) (fun H locs hM => ?_)
    refine x_if_eq (a' := wr r_1) hx hb rfl (tgt := 28) (kX12_fill (i := 7) rfl) (by decide) (fun c_3 => ?_) (fun c_3 => ?_)
    · have h := it_t c_3 h
      refine x_iconst hx hb (kX12_fill (i := 16) rfl) ?_
      obtain ⟨q1, q2⟩ := ret2 h
      rw [q1, q2]
      exact x_iret C hM (nar_z (Or.inl rfl)) (kX12_fill (i := 17) rfl)
    · have h := it_f c_3 h
      refine x_iload_n hx hb (kX12_fill (i := 8) rfl) rfl (lv_at hl 2 rfl) ?_
      refine x_iconst hx hb (kX12_fill (i := 9) rfl) ?_
      refine lv_aload_n hx hb (kX12_fill (i := 10) rfl) rfl (lv_at hl 0 rfl) ?_
      refine gX12_holds C hM q_fX12_41 (kX12_fill (i := 11) rfl) ?_
      refine x_iload_n hx hb (kX12_fill (i := 12) rfl) rfl (lv_at hl 1 rfl) ?_
      obtain ⟨hi_4, h⟩ := gd_some h
      refine x_ialdM C hM 11 (by decide) (eM_11 Θ) hi_4 (kX12_fill (i := 13) rfl) ?_
      obtain ⟨r_5, hc_6, h⟩ := bd_some h
      refine x_callS (n := 3) (As := [vi a1, vi 0, vi (g 11 (wr a0).toNat)]) (rest := []) C hM (tX12_in l Θ a1 0 (g 11 (wr a0).toNat) h0 g r_5 hc_6) q_c_X12_in q_mX12_173 q_s_X12_in q_n_X12 (by decide +kernel) ⟨by decide, by decide⟩ rfl hl.1 rfl (Nat.le_of_ble_eq_true rfl) (kX12_fill (i := 14) rfl) (fun H locs hM => ?_)
      refine x_if_ne (a' := wr r_5) hx hb rfl (tgt := 30) (kX12_fill (i := 15) rfl) (by decide) (fun c_7 => ?_) (fun c_7 => ?_)
      · have h := it_f c_7 h
        refine lv_aload_n hx hb (kX12_fill (i := 18) rfl) rfl (lv_at hl 0 rfl) ?_
        refine gX12_has C hM q_fX12_44 (kX12_fill (i := 19) rfl) ?_
        refine x_iload_n hx hb (kX12_fill (i := 20) rfl) rfl (lv_at hl 1 rfl) ?_
        refine x_iload_n hx hb (kX12_fill (i := 21) rfl) rfl (lv_at hl 2 rfl) ?_
        obtain ⟨hi_8, h⟩ := gd_some h
        obtain ⟨g_9, eg_9, h⟩ := bnd_some h
        refine x_iastM C hM 12 (by decide) (eM_12 Θ) hi_8 eg_9 (kX12_fill (i := 22) rfl) (fun H locs hM => ?_)
        refine x_iconst hx hb (kX12_fill (i := 23) rfl) ?_
        obtain ⟨q1, q2⟩ := ret2 h
        rw [q1, q2]
        exact x_iret C hM (nar_z (Or.inr rfl)) (kX12_fill (i := 24) rfl)
      · have h := it_t c_7 h
        refine x_iconst hx hb (kX12_fill (i := 16) rfl) ?_
        obtain ⟨q1, q2⟩ := ret2 h
        rw [q1, q2]
        exact x_iret C hM (nar_z (Or.inl rfl)) (kX12_fill (i := 17) rfl)
  exact key _ _ hM

/-! X12_mark -/
def fX12_mark (a0 : Int) (a1 : Int) (g : Mem) : Option (Int × Mem) :=
  bd (fX12_in a0 (-19) 19) fun r_1 =>
  if wr r_1 = 0 then (
    some ((-1), g)
  ) else (
    bd (fX12_in a1 0 40) fun r_4 =>
    if wr r_4 = 0 then (
      some ((-1), g)
    ) else (
      if wr (g 0 15) = 6 then (
        some ((-1), g)
      ) else (
        gd (g 0 15) 6 <|
        bnd (up g 13 (wr (g 0 15)).toNat a0) fun g_9 =>
        gd (g_9 0 15) 6 <|
        bnd (up g_9 14 (wr (g_9 0 15)).toNat a1) fun g_11 =>
        bnd (up g_11 0 15 ((g_11 0 15) + 1)) fun g_12 =>
        some ((g_12 0 15) - 1, g_12)
      )
    )
  )
set_option maxRecDepth 100000 in
set_option maxHeartbeats 4000000 in
theorem tX12_mark (l : Launch) (Θ : Th) (a0 : Int) (a1 : Int) (h0 g : Mem) (rv : Int) (gR : Mem) (h : fX12_mark a0 a1 g = some (rv, gR)) : Ct l yX12_mark cX12_mark 3 (some .int) 1 22 Θ [.ref (Θ.2.2.2 0), vi a0, vi a1] h0 g h0 gR (some (vi rv)) := by
  refine x_start (by decide) (Nat.le_of_ble_eq_true rfl) ?_
  intro p e s m args below meth c ls C hM hl
  have hl : lv_has ls 3 [(0, .ref (Θ.2.2.2 0)), (1, vi a0), (2, vi a1)] := hl
  obtain ⟨hx, hb, hml, hown, hts, -⟩ := id C
  unfold fX12_mark at h
  have key : ∀ (H : Heap) (locs : List Loc), Hd Θ s h0 g H locs → W p l e { frames := 1, cells := 0, slots := 0, locals := 22 } s m args below meth c H locs 0 0 (MQ below (Qx Θ s.heap.size h0 gR (some (vi rv))) args s 0 0 (AA Θ s.heap.size)) (F0 m 0 ls []) := by
    intro H locs hM
    refine x_iload_n hx hb (kX12_mark (i := 0) rfl) rfl (lv_at hl 1 rfl) ?_
    refine x_bipush hx hb (by decide) (kX12_mark (i := 1) rfl) ?_
    refine x_bipush hx hb (by decide) (kX12_mark (i := 2) rfl) ?_
    obtain ⟨r_1, hc_2, h⟩ := bd_some h
    refine x_callS (n := 3) (As := [vi a0, vi (-19), vi 19]) (rest := []) C hM (tX12_in l Θ a0 (-19) 19 h0 g r_1 hc_2) q_c_X12_in q_mX12_173 q_s_X12_in q_n_X12 (by decide +kernel) ⟨by decide, by decide⟩ rfl hl.1 rfl (Nat.le_of_ble_eq_true rfl) (kX12_mark (i := 3) rfl) (fun H locs hM => ?_)
    refine x_if_eq (a' := wr r_1) hx hb rfl (tgt := 30) (kX12_mark (i := 4) rfl) (by decide) (fun c_3 => ?_) (fun c_3 => ?_)
    · have h := it_t c_3 h
      refine x_iconst hx hb (kX12_mark (i := 14) rfl) ?_
      obtain ⟨q1, q2⟩ := ret2 h
      rw [q1, q2]
      exact x_iret C hM (nar_i _) (kX12_mark (i := 15) rfl)
    · have h := it_f c_3 h
      refine x_iload_n hx hb (kX12_mark (i := 5) rfl) rfl (lv_at hl 2 rfl) ?_
      refine x_iconst hx hb (kX12_mark (i := 6) rfl) ?_
      refine x_bipush hx hb (by decide) (kX12_mark (i := 7) rfl) ?_
      obtain ⟨r_4, hc_5, h⟩ := bd_some h
      refine x_callS (n := 3) (As := [vi a1, vi 0, vi 40]) (rest := []) C hM (tX12_in l Θ a1 0 40 h0 g r_4 hc_5) q_c_X12_in q_mX12_173 q_s_X12_in q_n_X12 (by decide +kernel) ⟨by decide, by decide⟩ rfl hl.1 rfl (Nat.le_of_ble_eq_true rfl) (kX12_mark (i := 8) rfl) (fun H locs hM => ?_)
      refine x_if_eq (a' := wr r_4) hx hb rfl (tgt := 30) (kX12_mark (i := 9) rfl) (by decide) (fun c_6 => ?_) (fun c_6 => ?_)
      · have h := it_t c_6 h
        refine x_iconst hx hb (kX12_mark (i := 14) rfl) ?_
        obtain ⟨q1, q2⟩ := ret2 h
        rw [q1, q2]
        exact x_iret C hM (nar_i _) (kX12_mark (i := 15) rfl)
      · have h := it_f c_6 h
        refine lv_aload_n hx hb (kX12_mark (i := 10) rfl) rfl (lv_at hl 0 rfl) ?_
        refine gX12_marks C hM q_fX12_191 (kX12_mark (i := 11) rfl) ?_
        refine x_bipush hx hb (by decide) (kX12_mark (i := 12) rfl) ?_
        refine x_icmp_ne (a' := wr (g 0 15)) (b' := 6) hx hb rfl (by decide) (tgt := 32) (kX12_mark (i := 13) rfl) (by decide) (fun c_7 => ?_) (fun c_7 => ?_)
        · have h := it_f c_7 h
          refine lv_aload_n hx hb (kX12_mark (i := 16) rfl) rfl (lv_at hl 0 rfl) ?_
          refine gX12_markPlace C hM q_fX12_47 (kX12_mark (i := 17) rfl) ?_
          refine lv_aload_n hx hb (kX12_mark (i := 18) rfl) rfl (lv_at hl 0 rfl) ?_
          refine gX12_marks C hM q_fX12_191 (kX12_mark (i := 19) rfl) ?_
          refine x_iload_n hx hb (kX12_mark (i := 20) rfl) rfl (lv_at hl 1 rfl) ?_
          obtain ⟨hi_8, h⟩ := gd_some h
          obtain ⟨g_9, eg_9, h⟩ := bnd_some h
          refine x_iastM C hM 13 (by decide) (eM_13 Θ) hi_8 eg_9 (kX12_mark (i := 21) rfl) (fun H locs hM => ?_)
          refine lv_aload_n hx hb (kX12_mark (i := 22) rfl) rfl (lv_at hl 0 rfl) ?_
          refine gX12_markHeight C hM q_fX12_50 (kX12_mark (i := 23) rfl) ?_
          refine lv_aload_n hx hb (kX12_mark (i := 24) rfl) rfl (lv_at hl 0 rfl) ?_
          refine gX12_marks C hM q_fX12_191 (kX12_mark (i := 25) rfl) ?_
          refine x_iload_n hx hb (kX12_mark (i := 26) rfl) rfl (lv_at hl 2 rfl) ?_
          obtain ⟨hi_10, h⟩ := gd_some h
          obtain ⟨g_11, eg_11, h⟩ := bnd_some h
          refine x_iastM C hM 14 (by decide) (eM_14 Θ) hi_10 eg_11 (kX12_mark (i := 27) rfl) (fun H locs hM => ?_)
          refine lv_aload_n hx hb (kX12_mark (i := 28) rfl) rfl (lv_at hl 0 rfl) ?_
          refine lv_dup hx hb (kX12_mark (i := 29) rfl) rfl ?_
          refine gX12_marks C hM q_fX12_191 (kX12_mark (i := 30) rfl) ?_
          refine x_iconst hx hb (kX12_mark (i := 31) rfl) ?_
          refine x_iadd hx hb (kX12_mark (i := 32) rfl) ?_
          obtain ⟨g_12, eg_12, h⟩ := bnd_some h
          refine pX12_marks C hM q_fX12_191 eg_12 (kX12_mark (i := 33) rfl) (fun H locs hM => ?_)
          refine lv_aload_n hx hb (kX12_mark (i := 34) rfl) rfl (lv_at hl 0 rfl) ?_
          refine gX12_marks C hM q_fX12_191 (kX12_mark (i := 35) rfl) ?_
          refine x_iconst hx hb (kX12_mark (i := 36) rfl) ?_
          refine x_isub hx hb (kX12_mark (i := 37) rfl) ?_
          obtain ⟨q1, q2⟩ := ret2 h
          rw [q1, q2]
          exact x_iret C hM (nar_i _) (kX12_mark (i := 38) rfl)
        · have h := it_t c_7 h
          refine x_iconst hx hb (kX12_mark (i := 14) rfl) ?_
          obtain ⟨q1, q2⟩ := ret2 h
          rw [q1, q2]
          exact x_iret C hM (nar_i _) (kX12_mark (i := 15) rfl)
  exact key _ _ hM

/-! X12_heavy -/
def fX12_heavy_L4 : Nat → Int → Int → Mem → (Int → Option (Int)) → Option (Int)
  | 0, _, _, _, _ => none
  | n + 1, y1, y2, g, K40 =>
    if wr (g 0 4) ≤ wr y2 then (
      K40 y1
    ) else (
      gd y2 12 <|
      jn (fun (v_3 : Int) =>
        bnd (y1 + v_3) fun x_4 =>
        bnd (y2 + 1) fun x_5 =>
        fX12_heavy_L4 n x_4 x_5 g K40
      ) fun J32 =>
      if wr (g 8 (wr y2).toNat) = 0 then (
        gd y2 12 <|
        J32 (g 4 (wr y2).toNat)
      ) else (
        J32 0
      )
    )
def fX12_heavy_L42 : Nat → Int → Int → Mem → Option (Int)
  | 0, _, _, _ => none
  | n + 1, y1, y2, g =>
    if wr (g 0 10) ≤ wr y2 then (
      some y1
    ) else (
      gd y2 4 <|
      bnd (y1 + (g 12 (wr y2).toNat)) fun x_12 =>
      bnd (y2 + 1) fun x_13 =>
      fX12_heavy_L42 n x_12 x_13 g
    )
def fX12_heavy (g : Mem) : Option (Int) :=
  fX12_heavy_L4 fuel 0 0 g
  (fun (z_8 : Int) =>
    fX12_heavy_L42 fuel z_8 0 g
  )
set_option maxRecDepth 100000 in
set_option maxHeartbeats 4000000 in
theorem wX12_heavy_L4 {p : Program} {l : Launch} {e : Env} {s : State} {m : MethodId} {args : Array Value} {below : List Frame} {meth : Method} {c : Code} {Θ : Th} {h0 : Mem} {g : Mem} {rv : Int} {K40 : Int → Option (Int)} (C : Cx p s m args meth c cX12_heavy 3 RX12 (some .int) Θ) : ∀ (n : Nat) (y1 : Int) (y2 : Int) (H : Heap) (locs : List Loc) (ls : Array Slot), fX12_heavy_L4 n y1 y2 g K40 = some rv → (∀ (z1 : Int) (H : Heap) (locs : List Loc) (ls : Array Slot), K40 z1 = some rv → Hd Θ s h0 g H locs → lv_has ls 3 [(0, .ref (Θ.2.2.2 0)), (1, vi z1)] → W p l e { frames := 0, cells := 0, slots := 0, locals := 0 } s m args below meth c H locs 0 0 (MQ below (Qx Θ s.heap.size h0 g (some (vi rv))) args s 0 0 (AA Θ s.heap.size)) (F0 m 40 ls [])) → Hd Θ s h0 g H locs → lv_has ls 3 [(0, .ref (Θ.2.2.2 0)), (1, vi y1), (2, vi y2)] → W p l e { frames := 0, cells := 0, slots := 0, locals := 0 } s m args below meth c H locs 0 0 (MQ below (Qx Θ s.heap.size h0 g (some (vi rv))) args s 0 0 (AA Θ s.heap.size)) (F0 m 4 ls []) := by
  intro n
  obtain ⟨hx, hb, hml, hown, hts, -⟩ := id C
  induction n with
  | zero => intro y1 y2 H locs ls h; cases h
  | succ n ih =>
    intro y1 y2 H locs ls h hK40 hM hl
    rw [fX12_heavy_L4] at h
    refine x_iload_n hx hb (kX12_heavy (i := 4) rfl) rfl (lv_at hl 2 rfl) ?_
    refine lv_aload_n hx hb (kX12_heavy (i := 5) rfl) rfl (lv_at hl 0 rfl) ?_
    refine gX12_weights C hM q_fX12_181 (kX12_heavy (i := 6) rfl) ?_
    refine x_icmp_ge (a' := wr y2) (b' := wr (g 0 4)) hx hb rfl rfl (tgt := 40) (kX12_heavy (i := 7) rfl) (by decide) (fun c_1 => ?_) (fun c_1 => ?_)
    · have h := it_t c_1 h
      exact hK40 y1 H locs ls h hM (lv_sub hl [0, 1] rfl)
    · have h := it_f c_1 h
      refine x_iload_n hx hb (kX12_heavy (i := 8) rfl) rfl (lv_at hl 1 rfl) ?_
      refine lv_aload_n hx hb (kX12_heavy (i := 9) rfl) rfl (lv_at hl 0 rfl) ?_
      refine gX12_isLost C hM q_fX12_31 (kX12_heavy (i := 10) rfl) ?_
      refine x_iload_n hx hb (kX12_heavy (i := 11) rfl) rfl (lv_at hl 2 rfl) ?_
      obtain ⟨hi_2, h⟩ := gd_some h
      refine x_zaldM C hM 8 (by decide) (eM_8 Θ) hi_2 (kX12_heavy (i := 12) rfl) ?_
      refine jn_go h (fun J32 : Int → Option (Int) => ∀ (v_3 : Int) (H : Heap) (locs : List Loc) (ls : Array Slot), J32 v_3 = some rv → Hd Θ s h0 g H locs → lv_has ls 3 [(0, .ref (Θ.2.2.2 0)), (2, vi y2)] → W p l e { frames := 0, cells := 0, slots := 0, locals := 0 } s m args below meth c H locs 0 0 (MQ below (Qx Θ s.heap.size h0 g (some (vi rv))) args s 0 0 (AA Θ s.heap.size)) (F0 m 32 ls [vi v_3, vi y1])) ?_ ?_
      · intro v_3 H locs ls h hM hl
        refine x_iadd hx hb (kX12_heavy (i := 20) rfl) ?_
        obtain ⟨x_4, ex_4, h⟩ := bnd_some h
        refine x_top ex_4 ?_
        refine x_istore_n (lv' := [(1, vi x_4), (0, .ref (Θ.2.2.2 0)), (2, vi y2)]) hx hb (kX12_heavy (i := 21) rfl) rfl hl (by decide) rfl (fun ls hl => ?_)
        obtain ⟨x_5, ex_5, h⟩ := bnd_some h
        refine x_iinc (k := 2) (lv' := [(2, vi x_5), (1, vi x_4), (0, .ref (Θ.2.2.2 0))]) hx hb (kX12_heavy (i := 22) rfl) hl rfl ex_5 (by decide) rfl (fun ls hl => ?_)
        refine lv_goto (tgt := 4) hx hb (kX12_heavy (i := 23) rfl) (by decide) ?_
        exact ih x_4 x_5 H locs ls h hK40 hM (lv_sub hl [2, 1, 0] rfl)
      intro J32 hJ32 h
      refine x_if_eq (a' := wr (g 8 (wr y2).toNat)) hx hb rfl (tgt := 26) (kX12_heavy (i := 13) rfl) (by decide) (fun c_6 => ?_) (fun c_6 => ?_)
      · have h := it_t c_6 h
        refine lv_aload_n hx hb (kX12_heavy (i := 16) rfl) rfl (lv_at hl 0 rfl) ?_
        refine gX12_mass C hM q_fX12_19 (kX12_heavy (i := 17) rfl) ?_
        refine x_iload_n hx hb (kX12_heavy (i := 18) rfl) rfl (lv_at hl 2 rfl) ?_
        obtain ⟨hi_7, h⟩ := gd_some h
        refine x_ialdM C hM 4 (by decide) (eM_4 Θ) hi_7 (kX12_heavy (i := 19) rfl) ?_
        exact hJ32 (g 4 (wr y2).toNat) H locs ls h hM (lv_sub hl [0, 2] rfl)
      · have h := it_f c_6 h
        refine x_iconst hx hb (kX12_heavy (i := 14) rfl) ?_
        refine lv_goto (tgt := 32) hx hb (kX12_heavy (i := 15) rfl) (by decide) ?_
        exact hJ32 0 H locs ls h hM (lv_sub hl [0, 2] rfl)
set_option maxRecDepth 100000 in
set_option maxHeartbeats 4000000 in
theorem wX12_heavy_L42 {p : Program} {l : Launch} {e : Env} {s : State} {m : MethodId} {args : Array Value} {below : List Frame} {meth : Method} {c : Code} {Θ : Th} {h0 : Mem} {g : Mem} {rv : Int} (C : Cx p s m args meth c cX12_heavy 3 RX12 (some .int) Θ) : ∀ (n : Nat) (y1 : Int) (y2 : Int) (H : Heap) (locs : List Loc) (ls : Array Slot), fX12_heavy_L42 n y1 y2 g = some rv → Hd Θ s h0 g H locs → lv_has ls 3 [(0, .ref (Θ.2.2.2 0)), (1, vi y1), (2, vi y2)] → W p l e { frames := 0, cells := 0, slots := 0, locals := 0 } s m args below meth c H locs 0 0 (MQ below (Qx Θ s.heap.size h0 g (some (vi rv))) args s 0 0 (AA Θ s.heap.size)) (F0 m 42 ls []) := by
  intro n
  obtain ⟨hx, hb, hml, hown, hts, -⟩ := id C
  induction n with
  | zero => intro y1 y2 H locs ls h; cases h
  | succ n ih =>
    intro y1 y2 H locs ls h  hM hl
    rw [fX12_heavy_L42] at h
    refine x_iload_n hx hb (kX12_heavy (i := 26) rfl) rfl (lv_at hl 2 rfl) ?_
    refine lv_aload_n hx hb (kX12_heavy (i := 27) rfl) rfl (lv_at hl 0 rfl) ?_
    refine gX12_tanks C hM q_fX12_188 (kX12_heavy (i := 28) rfl) ?_
    refine x_icmp_ge (a' := wr y2) (b' := wr (g 0 10)) hx hb rfl rfl (tgt := 65) (kX12_heavy (i := 29) rfl) (by decide) (fun c_10 => ?_) (fun c_10 => ?_)
    · have h := it_t c_10 h
      refine x_iload_n hx hb (kX12_heavy (i := 39) rfl) rfl (lv_at hl 1 rfl) ?_
      rw [← Option.some.inj h]
      exact x_iret C hM (nar_i _) (kX12_heavy (i := 40) rfl)
    · have h := it_f c_10 h
      refine x_iload_n hx hb (kX12_heavy (i := 30) rfl) rfl (lv_at hl 1 rfl) ?_
      refine lv_aload_n hx hb (kX12_heavy (i := 31) rfl) rfl (lv_at hl 0 rfl) ?_
      refine gX12_has C hM q_fX12_44 (kX12_heavy (i := 32) rfl) ?_
      refine x_iload_n hx hb (kX12_heavy (i := 33) rfl) rfl (lv_at hl 2 rfl) ?_
      obtain ⟨hi_11, h⟩ := gd_some h
      refine x_ialdM C hM 12 (by decide) (eM_12 Θ) hi_11 (kX12_heavy (i := 34) rfl) ?_
      refine x_iadd hx hb (kX12_heavy (i := 35) rfl) ?_
      obtain ⟨x_12, ex_12, h⟩ := bnd_some h
      refine x_top ex_12 ?_
      refine x_istore_n (lv' := [(1, vi x_12), (0, .ref (Θ.2.2.2 0)), (2, vi y2)]) hx hb (kX12_heavy (i := 36) rfl) rfl hl (by decide) rfl (fun ls hl => ?_)
      obtain ⟨x_13, ex_13, h⟩ := bnd_some h
      refine x_iinc (k := 2) (lv' := [(2, vi x_13), (1, vi x_12), (0, .ref (Θ.2.2.2 0))]) hx hb (kX12_heavy (i := 37) rfl) hl rfl ex_13 (by decide) rfl (fun ls hl => ?_)
      refine lv_goto (tgt := 42) hx hb (kX12_heavy (i := 38) rfl) (by decide) ?_
      exact ih x_12 x_13 H locs ls h hM (lv_sub hl [2, 1, 0] rfl)
set_option maxRecDepth 100000 in
set_option maxHeartbeats 4000000 in
theorem tX12_heavy (l : Launch) (Θ : Th) (h0 g : Mem) (rv : Int) (h : fX12_heavy g = some rv) : Ct l yX12_heavy cX12_heavy 3 (some .int) 0 0 Θ [.ref (Θ.2.2.2 0)] h0 g h0 g (some (vi rv)) := by
  refine x_start (by decide) (Nat.le_of_ble_eq_true rfl) ?_
  intro p e s m args below meth c ls C hM hl
  have hl : lv_has ls 3 [(0, .ref (Θ.2.2.2 0))] := hl
  obtain ⟨hx, hb, hml, hown, hts, -⟩ := id C
  unfold fX12_heavy at h
  have key : ∀ (H : Heap) (locs : List Loc), Hd Θ s h0 g H locs → W p l e { frames := 0, cells := 0, slots := 0, locals := 0 } s m args below meth c H locs 0 0 (MQ below (Qx Θ s.heap.size h0 g (some (vi rv))) args s 0 0 (AA Θ s.heap.size)) (F0 m 0 ls []) := by
    intro H locs hM
    refine x_iconst hx hb (kX12_heavy (i := 0) rfl) ?_
    refine x_istore_n (lv' := [(1, vi 0), (0, .ref (Θ.2.2.2 0))]) hx hb (kX12_heavy (i := 1) rfl) rfl hl (by decide) rfl (fun ls hl => ?_)
    refine x_iconst hx hb (kX12_heavy (i := 2) rfl) ?_
    refine x_istore_n (lv' := [(2, vi 0), (1, vi 0), (0, .ref (Θ.2.2.2 0))]) hx hb (kX12_heavy (i := 3) rfl) rfl hl (by decide) rfl (fun ls hl => ?_)
    refine wX12_heavy_L4  C fuel 0 0 H locs ls h ?_ hM (lv_sub hl [2, 1, 0] rfl)
    · intro z_8 H locs ls h hM hl
      refine x_iconst hx hb (kX12_heavy (i := 24) rfl) ?_
      refine x_istore_n (lv' := [(2, vi 0), (0, .ref (Θ.2.2.2 0)), (1, vi z_8)]) hx hb (kX12_heavy (i := 25) rfl) rfl hl (by decide) rfl (fun ls hl => ?_)
      refine wX12_heavy_L42  C fuel z_8 0 H locs ls h  hM (lv_sub hl [1, 2, 0] rfl)
  exact key _ _ hM

/-! X12_wets -/
def fX12_wets_L57 : Nat → Int → Int → Int → Int → Int → Int → Int → Mem → (Int → Int → Int → Int → Mem → Option (Mem)) → Option (Mem)
  | 0, _, _, _, _, _, _, _, _, _ => none
  | n + 1, y1, y2, y3, y4, y5, y6, y7, g, K138 =>
    if wr y6 ≤ wr y7 then (
      K138 y1 y2 y3 y4 g
    ) else (
      jn (fun (g_10 : Mem) =>
        bnd (y7 + 1) fun x_11 =>
        fX12_wets_L57 n y1 y2 y3 y4 y5 y6 x_11 g_10 K138
      ) fun J132 =>
      if wr (100 * y5) ≤ wr (y2 + (y1 * ((2 * y7) + 1))) then (
        gd y3 6 <|
        bnd (up g 0 66 ((g 0 66) + (g 2 (wr y3).toNat))) fun g_14 =>
        gd y3 6 <|
        bnd (up g_14 0 67 ((g_14 0 67) + ((wr (g_14 2 (wr y3).toNat)) * (wr ((100 * ((2 * y7) + 1)) + (y1 * y5)))))) fun g_16 =>
        J132 g_16
      ) else (
        J132 g
      )
    )
def fX12_wets_L23 : Nat → Int → Int → Int → Int → Mem → (Int → Int → Int → Mem → Option (Mem)) → Option (Mem)
  | 0, _, _, _, _, _, _ => none
  | n + 1, y1, y2, y3, y4, g, K144 =>
    if 10 ≤ wr y4 then (
      K144 y1 y2 y3 g
    ) else (
      bnd ((2 * y4) + 1) fun x_5 =>
      gd ((10 * y3) + y4) 60 <|
      bnd (g 3 (wr ((10 * y3) + y4)).toNat) fun x_7 =>
      bnd (-x_7) fun x_8 =>
      fX12_wets_L57 fuel y1 y2 y3 y4 x_5 x_7 x_8 g
      (fun (z_17 : Int) (z_18 : Int) (z_19 : Int) (z_20 : Int) (g_21 : Mem) =>
        bnd (z_20 + 1) fun x_22 =>
        fX12_wets_L23 n z_17 z_18 z_19 x_22 g_21 K144
      )
    )
def fX12_wets_L12 : Nat → Int → Int → Int → Mem → Option (Mem)
  | 0, _, _, _, _ => none
  | n + 1, y1, y2, y3, g =>
    if wr (g 0 1) ≤ wr y3 then (
      some g
    ) else (
      fX12_wets_L23 fuel y1 y2 y3 0 g
      (fun (z_23 : Int) (z_24 : Int) (z_25 : Int) (g_26 : Mem) =>
        bnd (z_25 + 1) fun x_27 =>
        fX12_wets_L12 n z_23 z_24 x_27 g_26
      )
    )
def fX12_wets (a0 : Int) (a1 : Int) (g : Mem) : Option (Mem) :=
  bnd (up g 0 66 0) fun g_1 =>
  bnd (up g_1 0 67 0) fun g_2 =>
  fX12_wets_L12 fuel a0 a1 0 g_2
set_option maxRecDepth 100000 in
set_option maxHeartbeats 4000000 in
theorem wX12_wets_L57 {p : Program} {l : Launch} {e : Env} {s : State} {m : MethodId} {args : Array Value} {below : List Frame} {meth : Method} {c : Code} {Θ : Th} {h0 : Mem} {gR : Mem} {K138 : Int → Int → Int → Int → Mem → Option (Mem)} (C : Cx p s m args meth c cX12_wets 8 RX12 none Θ) : ∀ (n : Nat) (y1 : Int) (y2 : Int) (y3 : Int) (y4 : Int) (y5 : Int) (y6 : Int) (y7 : Int) (g : Mem) (H : Heap) (locs : List Loc) (ls : Array Slot), fX12_wets_L57 n y1 y2 y3 y4 y5 y6 y7 g K138 = some gR → (∀ (z1 : Int) (z2 : Int) (z3 : Int) (z4 : Int) (gz : Mem) (H : Heap) (locs : List Loc) (ls : Array Slot), K138 z1 z2 z3 z4 gz = some gR → Hd Θ s h0 gz H locs → lv_has ls 8 [(0, .ref (Θ.2.2.2 0)), (1, vi z1), (2, vi z2), (3, vi z3), (4, vi z4)] → W p l e { frames := 0, cells := 0, slots := 0, locals := 0 } s m args below meth c H locs 0 0 (MQ below (Qx Θ s.heap.size h0 gR none) args s 0 0 (AA Θ s.heap.size)) (F0 m 138 ls [])) → Hd Θ s h0 g H locs → lv_has ls 8 [(0, .ref (Θ.2.2.2 0)), (1, vi y1), (2, vi y2), (3, vi y3), (4, vi y4), (5, vi y5), (6, vi y6), (7, vi y7)] → W p l e { frames := 0, cells := 0, slots := 0, locals := 0 } s m args below meth c H locs 0 0 (MQ below (Qx Θ s.heap.size h0 gR none) args s 0 0 (AA Θ s.heap.size)) (F0 m 57 ls []) := by
  intro n
  obtain ⟨hx, hb, hml, hown, hts, -⟩ := id C
  induction n with
  | zero => intro y1 y2 y3 y4 y5 y6 y7 g H locs ls h; cases h
  | succ n ih =>
    intro y1 y2 y3 y4 y5 y6 y7 g H locs ls h hK138 hM hl
    rw [fX12_wets_L57] at h
    refine x_iload hx hb (kX12_wets (i := 35) rfl) (lv_at hl 7 rfl) ?_
    refine x_iload hx hb (kX12_wets (i := 36) rfl) (lv_at hl 6 rfl) ?_
    refine x_icmp_ge (a' := wr y7) (b' := wr y6) hx hb rfl rfl (tgt := 138) (kX12_wets (i := 37) rfl) (by decide) (fun c_9 => ?_) (fun c_9 => ?_)
    · have h := it_t c_9 h
      exact hK138 y1 y2 y3 y4 g H locs ls h hM (lv_sub hl [0, 1, 2, 3, 4] rfl)
    · have h := it_f c_9 h
      refine x_bipush hx hb (by decide) (kX12_wets (i := 38) rfl) ?_
      refine x_iload hx hb (kX12_wets (i := 39) rfl) (lv_at hl 5 rfl) ?_
      refine x_imul hx hb (kX12_wets (i := 40) rfl) ?_
      refine x_iload_n hx hb (kX12_wets (i := 41) rfl) rfl (lv_at hl 2 rfl) ?_
      refine x_iload_n hx hb (kX12_wets (i := 42) rfl) rfl (lv_at hl 1 rfl) ?_
      refine x_iconst hx hb (kX12_wets (i := 43) rfl) ?_
      refine x_iload hx hb (kX12_wets (i := 44) rfl) (lv_at hl 7 rfl) ?_
      refine x_imul hx hb (kX12_wets (i := 45) rfl) ?_
      refine x_iconst hx hb (kX12_wets (i := 46) rfl) ?_
      refine x_iadd hx hb (kX12_wets (i := 47) rfl) ?_
      refine x_imul hx hb (kX12_wets (i := 48) rfl) ?_
      refine x_iadd hx hb (kX12_wets (i := 49) rfl) ?_
      refine jn_go h (fun J132 : Mem → Option (Mem) => ∀ (g_10 : Mem) (H : Heap) (locs : List Loc) (ls : Array Slot), J132 g_10 = some gR → Hd Θ s h0 g_10 H locs → lv_has ls 8 [(0, .ref (Θ.2.2.2 0)), (1, vi y1), (2, vi y2), (3, vi y3), (4, vi y4), (5, vi y5), (6, vi y6), (7, vi y7)] → W p l e { frames := 0, cells := 0, slots := 0, locals := 0 } s m args below meth c H locs 0 0 (MQ below (Qx Θ s.heap.size h0 gR none) args s 0 0 (AA Θ s.heap.size)) (F0 m 132 ls [])) ?_ ?_
      · intro g_10 H locs ls h hM hl
        obtain ⟨x_11, ex_11, h⟩ := bnd_some h
        refine x_iinc (k := 7) (lv' := [(7, vi x_11), (0, .ref (Θ.2.2.2 0)), (1, vi y1), (2, vi y2), (3, vi y3), (4, vi y4), (5, vi y5), (6, vi y6)]) hx hb (kX12_wets (i := 84) rfl) hl rfl ex_11 (by decide) rfl (fun ls hl => ?_)
        refine lv_goto (tgt := 57) hx hb (kX12_wets (i := 85) rfl) (by decide) ?_
        exact ih y1 y2 y3 y4 y5 y6 x_11 g_10 H locs ls h hK138 hM (lv_sub hl [1, 2, 3, 4, 5, 6, 7, 0] rfl)
      intro J132 hJ132 h
      refine x_icmp_le (a' := wr (100 * y5)) (b' := wr (y2 + (y1 * ((2 * y7) + 1)))) hx hb rfl rfl (tgt := 85) (kX12_wets (i := 50) rfl) (by decide) (fun c_12 => ?_) (fun c_12 => ?_)
      · have h := it_t c_12 h
        refine lv_aload_n hx hb (kX12_wets (i := 52) rfl) rfl (lv_at hl 0 rfl) ?_
        refine lv_dup hx hb (kX12_wets (i := 53) rfl) rfl ?_
        refine gX12_pushes C hM q_fX12_194 (kX12_wets (i := 54) rfl) ?_
        refine lv_aload_n hx hb (kX12_wets (i := 55) rfl) rfl (lv_at hl 0 rfl) ?_
        refine gX12_length C hM q_fX12_13 (kX12_wets (i := 56) rfl) ?_
        refine x_iload_n hx hb (kX12_wets (i := 57) rfl) rfl (lv_at hl 3 rfl) ?_
        obtain ⟨hi_13, h⟩ := gd_some h
        refine x_ialdM C hM 2 (by decide) (eM_2 Θ) hi_13 (kX12_wets (i := 58) rfl) ?_
        refine x_iadd hx hb (kX12_wets (i := 59) rfl) ?_
        obtain ⟨g_14, eg_14, h⟩ := bnd_some h
        refine pX12_pushes C hM q_fX12_194 eg_14 (kX12_wets (i := 60) rfl) (fun H locs hM => ?_)
        refine lv_aload_n hx hb (kX12_wets (i := 61) rfl) rfl (lv_at hl 0 rfl) ?_
        refine lv_dup hx hb (kX12_wets (i := 62) rfl) rfl ?_
        refine gX12_pushed C hM q_fX12_197 (kX12_wets (i := 63) rfl) ?_
        refine lv_aload_n hx hb (kX12_wets (i := 64) rfl) rfl (lv_at hl 0 rfl) ?_
        refine gX12_length C hM q_fX12_13 (kX12_wets (i := 65) rfl) ?_
        refine x_iload_n hx hb (kX12_wets (i := 66) rfl) rfl (lv_at hl 3 rfl) ?_
        obtain ⟨hi_15, h⟩ := gd_some h
        refine x_ialdM C hM 2 (by decide) (eM_2 Θ) hi_15 (kX12_wets (i := 67) rfl) ?_
        refine x_i2l (a' := wr (g_14 2 (wr y3).toNat)) hx hb rfl (kX12_wets (i := 68) rfl) ?_
        refine x_bipush hx hb (by decide) (kX12_wets (i := 69) rfl) ?_
        refine x_iconst hx hb (kX12_wets (i := 70) rfl) ?_
        refine x_iload hx hb (kX12_wets (i := 71) rfl) (lv_at hl 7 rfl) ?_
        refine x_imul hx hb (kX12_wets (i := 72) rfl) ?_
        refine x_iconst hx hb (kX12_wets (i := 73) rfl) ?_
        refine x_iadd hx hb (kX12_wets (i := 74) rfl) ?_
        refine x_imul hx hb (kX12_wets (i := 75) rfl) ?_
        refine x_iload_n hx hb (kX12_wets (i := 76) rfl) rfl (lv_at hl 1 rfl) ?_
        refine x_iload hx hb (kX12_wets (i := 77) rfl) (lv_at hl 5 rfl) ?_
        refine x_imul hx hb (kX12_wets (i := 78) rfl) ?_
        refine x_iadd hx hb (kX12_wets (i := 79) rfl) ?_
        refine x_i2l (a' := wr ((100 * ((2 * y7) + 1)) + (y1 * y5))) hx hb rfl (kX12_wets (i := 80) rfl) ?_
        refine x_lmul hx hb (kX12_wets (i := 81) rfl) ?_
        refine x_ladd hx hb (kX12_wets (i := 82) rfl) ?_
        obtain ⟨g_16, eg_16, h⟩ := bnd_some h
        refine pX12_pushed C hM q_fX12_197 eg_16 (kX12_wets (i := 83) rfl) (fun H locs hM => ?_)
        exact hJ132 g_16 H locs ls h hM (lv_sub hl [0, 1, 2, 3, 4, 5, 6, 7] rfl)
      · have h := it_f c_12 h
        refine lv_goto (tgt := 132) hx hb (kX12_wets (i := 51) rfl) (by decide) ?_
        exact hJ132 g H locs ls h hM (lv_sub hl [0, 1, 2, 3, 4, 5, 6, 7] rfl)
set_option maxRecDepth 100000 in
set_option maxHeartbeats 4000000 in
theorem wX12_wets_L23 {p : Program} {l : Launch} {e : Env} {s : State} {m : MethodId} {args : Array Value} {below : List Frame} {meth : Method} {c : Code} {Θ : Th} {h0 : Mem} {gR : Mem} {K144 : Int → Int → Int → Mem → Option (Mem)} (C : Cx p s m args meth c cX12_wets 8 RX12 none Θ) : ∀ (n : Nat) (y1 : Int) (y2 : Int) (y3 : Int) (y4 : Int) (g : Mem) (H : Heap) (locs : List Loc) (ls : Array Slot), fX12_wets_L23 n y1 y2 y3 y4 g K144 = some gR → (∀ (z1 : Int) (z2 : Int) (z3 : Int) (gz : Mem) (H : Heap) (locs : List Loc) (ls : Array Slot), K144 z1 z2 z3 gz = some gR → Hd Θ s h0 gz H locs → lv_has ls 8 [(0, .ref (Θ.2.2.2 0)), (1, vi z1), (2, vi z2), (3, vi z3)] → W p l e { frames := 0, cells := 0, slots := 0, locals := 0 } s m args below meth c H locs 0 0 (MQ below (Qx Θ s.heap.size h0 gR none) args s 0 0 (AA Θ s.heap.size)) (F0 m 144 ls [])) → Hd Θ s h0 g H locs → lv_has ls 8 [(0, .ref (Θ.2.2.2 0)), (1, vi y1), (2, vi y2), (3, vi y3), (4, vi y4)] → W p l e { frames := 0, cells := 0, slots := 0, locals := 0 } s m args below meth c H locs 0 0 (MQ below (Qx Θ s.heap.size h0 gR none) args s 0 0 (AA Θ s.heap.size)) (F0 m 23 ls []) := by
  intro n
  obtain ⟨hx, hb, hml, hown, hts, -⟩ := id C
  induction n with
  | zero => intro y1 y2 y3 y4 g H locs ls h; cases h
  | succ n ih =>
    intro y1 y2 y3 y4 g H locs ls h hK144 hM hl
    rw [fX12_wets_L23] at h
    refine x_iload hx hb (kX12_wets (i := 14) rfl) (lv_at hl 4 rfl) ?_
    refine x_bipush hx hb (by decide) (kX12_wets (i := 15) rfl) ?_
    refine x_icmp_ge (a' := wr y4) (b' := 10) hx hb rfl (by decide) (tgt := 144) (kX12_wets (i := 16) rfl) (by decide) (fun c_4 => ?_) (fun c_4 => ?_)
    · have h := it_t c_4 h
      exact hK144 y1 y2 y3 g H locs ls h hM (lv_sub hl [0, 1, 2, 3] rfl)
    · have h := it_f c_4 h
      refine x_iconst hx hb (kX12_wets (i := 17) rfl) ?_
      refine x_iload hx hb (kX12_wets (i := 18) rfl) (lv_at hl 4 rfl) ?_
      refine x_imul hx hb (kX12_wets (i := 19) rfl) ?_
      refine x_iconst hx hb (kX12_wets (i := 20) rfl) ?_
      refine x_iadd hx hb (kX12_wets (i := 21) rfl) ?_
      obtain ⟨x_5, ex_5, h⟩ := bnd_some h
      refine x_top ex_5 ?_
      refine x_istore (lv' := [(5, vi x_5), (0, .ref (Θ.2.2.2 0)), (1, vi y1), (2, vi y2), (3, vi y3), (4, vi y4)]) hx hb (kX12_wets (i := 22) rfl) hl (by decide) rfl (fun ls hl => ?_)
      refine lv_aload_n hx hb (kX12_wets (i := 23) rfl) rfl (lv_at hl 1 rfl) ?_
      refine gX12_half C hM q_fX12_16 (kX12_wets (i := 24) rfl) ?_
      refine x_bipush hx hb (by decide) (kX12_wets (i := 25) rfl) ?_
      refine x_iload_n hx hb (kX12_wets (i := 26) rfl) rfl (lv_at hl 4 rfl) ?_
      refine x_imul hx hb (kX12_wets (i := 27) rfl) ?_
      refine x_iload hx hb (kX12_wets (i := 28) rfl) (lv_at hl 5 rfl) ?_
      refine x_iadd hx hb (kX12_wets (i := 29) rfl) ?_
      obtain ⟨hi_6, h⟩ := gd_some h
      refine x_ialdM C hM 3 (by decide) (eM_3 Θ) hi_6 (kX12_wets (i := 30) rfl) ?_
      obtain ⟨x_7, ex_7, h⟩ := bnd_some h
      refine x_top ex_7 ?_
      refine x_istore (lv' := [(6, vi x_7), (5, vi x_5), (0, .ref (Θ.2.2.2 0)), (1, vi y1), (2, vi y2), (3, vi y3), (4, vi y4)]) hx hb (kX12_wets (i := 31) rfl) hl (by decide) rfl (fun ls hl => ?_)
      refine x_iload hx hb (kX12_wets (i := 32) rfl) (lv_at hl 0 rfl) ?_
      refine x_ineg hx hb (kX12_wets (i := 33) rfl) ?_
      obtain ⟨x_8, ex_8, h⟩ := bnd_some h
      refine x_top ex_8 ?_
      refine x_istore (lv' := [(7, vi x_8), (6, vi x_7), (5, vi x_5), (0, .ref (Θ.2.2.2 0)), (1, vi y1), (2, vi y2), (3, vi y3), (4, vi y4)]) hx hb (kX12_wets (i := 34) rfl) hl (by decide) rfl (fun ls hl => ?_)
      refine wX12_wets_L57  C fuel y1 y2 y3 y4 x_5 x_7 x_8 g H locs ls h ?_ hM (lv_sub hl [3, 4, 5, 6, 7, 2, 1, 0] rfl)
      · intro z_17 z_18 z_19 z_20 g_21 H locs ls h hM hl
        obtain ⟨x_22, ex_22, h⟩ := bnd_some h
        refine x_iinc (k := 4) (lv' := [(4, vi x_22), (0, .ref (Θ.2.2.2 0)), (1, vi z_17), (2, vi z_18), (3, vi z_19)]) hx hb (kX12_wets (i := 86) rfl) hl rfl ex_22 (by decide) rfl (fun ls hl => ?_)
        refine lv_goto (tgt := 23) hx hb (kX12_wets (i := 87) rfl) (by decide) ?_
        exact ih z_17 z_18 z_19 x_22 g_21 H locs ls h hK144 hM (lv_sub hl [1, 2, 3, 4, 0] rfl)
set_option maxRecDepth 100000 in
set_option maxHeartbeats 4000000 in
theorem wX12_wets_L12 {p : Program} {l : Launch} {e : Env} {s : State} {m : MethodId} {args : Array Value} {below : List Frame} {meth : Method} {c : Code} {Θ : Th} {h0 : Mem} {gR : Mem} (C : Cx p s m args meth c cX12_wets 8 RX12 none Θ) : ∀ (n : Nat) (y1 : Int) (y2 : Int) (y3 : Int) (g : Mem) (H : Heap) (locs : List Loc) (ls : Array Slot), fX12_wets_L12 n y1 y2 y3 g = some gR → Hd Θ s h0 g H locs → lv_has ls 8 [(0, .ref (Θ.2.2.2 0)), (1, vi y1), (2, vi y2), (3, vi y3)] → W p l e { frames := 0, cells := 0, slots := 0, locals := 0 } s m args below meth c H locs 0 0 (MQ below (Qx Θ s.heap.size h0 gR none) args s 0 0 (AA Θ s.heap.size)) (F0 m 12 ls []) := by
  intro n
  obtain ⟨hx, hb, hml, hown, hts, -⟩ := id C
  induction n with
  | zero => intro y1 y2 y3 g H locs ls h; cases h
  | succ n ih =>
    intro y1 y2 y3 g H locs ls h  hM hl
    rw [fX12_wets_L12] at h
    refine x_iload_n hx hb (kX12_wets (i := 8) rfl) rfl (lv_at hl 3 rfl) ?_
    refine lv_aload_n hx hb (kX12_wets (i := 9) rfl) rfl (lv_at hl 0 rfl) ?_
    refine gX12_slices C hM q_fX12_178 (kX12_wets (i := 10) rfl) ?_
    refine x_icmp_ge (a' := wr y3) (b' := wr (g 0 1)) hx hb rfl rfl (tgt := 150) (kX12_wets (i := 11) rfl) (by decide) (fun c_3 => ?_) (fun c_3 => ?_)
    · have h := it_t c_3 h
      rw [← Option.some.inj h]
      exact x_vret C hM (kX12_wets (i := 90) rfl)
    · have h := it_f c_3 h
      refine x_iconst hx hb (kX12_wets (i := 12) rfl) ?_
      refine x_istore (lv' := [(4, vi 0), (0, .ref (Θ.2.2.2 0)), (1, vi y1), (2, vi y2), (3, vi y3)]) hx hb (kX12_wets (i := 13) rfl) hl (by decide) rfl (fun ls hl => ?_)
      refine wX12_wets_L23  C fuel y1 y2 y3 0 g H locs ls h ?_ hM (lv_sub hl [1, 2, 3, 4, 0] rfl)
      · intro z_23 z_24 z_25 g_26 H locs ls h hM hl
        obtain ⟨x_27, ex_27, h⟩ := bnd_some h
        refine x_iinc (k := 3) (lv' := [(3, vi x_27), (0, .ref (Θ.2.2.2 0)), (1, vi z_23), (2, vi z_24)]) hx hb (kX12_wets (i := 88) rfl) hl rfl ex_27 (by decide) rfl (fun ls hl => ?_)
        refine lv_goto (tgt := 12) hx hb (kX12_wets (i := 89) rfl) (by decide) ?_
        exact ih z_23 z_24 x_27 g_26 H locs ls h hM (lv_sub hl [1, 2, 3, 0] rfl)
set_option maxRecDepth 100000 in
set_option maxHeartbeats 4000000 in
theorem tX12_wets (l : Launch) (Θ : Th) (a0 : Int) (a1 : Int) (h0 g : Mem) (gR : Mem) (h : fX12_wets a0 a1 g = some gR) : Ct l yX12_wets cX12_wets 8 none 0 0 Θ [.ref (Θ.2.2.2 0), vi a0, vi a1] h0 g h0 gR none := by
  refine x_start (by decide) (Nat.le_of_ble_eq_true rfl) ?_
  intro p e s m args below meth c ls C hM hl
  have hl : lv_has ls 8 [(0, .ref (Θ.2.2.2 0)), (1, vi a0), (2, vi a1)] := hl
  obtain ⟨hx, hb, hml, hown, hts, -⟩ := id C
  unfold fX12_wets at h
  have key : ∀ (H : Heap) (locs : List Loc), Hd Θ s h0 g H locs → W p l e { frames := 0, cells := 0, slots := 0, locals := 0 } s m args below meth c H locs 0 0 (MQ below (Qx Θ s.heap.size h0 gR none) args s 0 0 (AA Θ s.heap.size)) (F0 m 0 ls []) := by
    intro H locs hM
    refine lv_aload_n hx hb (kX12_wets (i := 0) rfl) rfl (lv_at hl 0 rfl) ?_
    refine x_iconst hx hb (kX12_wets (i := 1) rfl) ?_
    obtain ⟨g_1, eg_1, h⟩ := bnd_some h
    refine pX12_pushes C hM q_fX12_194 eg_1 (kX12_wets (i := 2) rfl) (fun H locs hM => ?_)
    refine lv_aload_n hx hb (kX12_wets (i := 3) rfl) rfl (lv_at hl 0 rfl) ?_
    refine x_lconst (z := 0) hx hb rfl (kX12_wets (i := 4) rfl) ?_
    obtain ⟨g_2, eg_2, h⟩ := bnd_some h
    refine pX12_pushed C hM q_fX12_197 eg_2 (kX12_wets (i := 5) rfl) (fun H locs hM => ?_)
    refine x_iconst hx hb (kX12_wets (i := 6) rfl) ?_
    refine x_istore_n (lv' := [(3, vi 0), (0, .ref (Θ.2.2.2 0)), (1, vi a0), (2, vi a1)]) hx hb (kX12_wets (i := 7) rfl) rfl hl (by decide) rfl (fun ls hl => ?_)
    refine wX12_wets_L12  C fuel a0 a1 0 g_2 H locs ls h  hM (lv_sub hl [1, 2, 3, 0] rfl)
  exact key _ _ hM

/-! X12_levelAt -/
def fX12_levelAt_L39 : Nat → Int → Int → Int → Int → Mem → (Int → Int → Mem → Option (Int × Mem)) → Option (Int × Mem)
  | 0, _, _, _, _, _, _ => none
  | n + 1, y1, y2, y3, y4, g, K85 =>
    if wr y4 ≤ wr y3 then (
      K85 y1 y3 g
    ) else (
      bnd (y3 + (Int.tdiv (wr (y4 - y3)) (2))) fun x_9 =>
      bd (fX12_wets y1 x_9 g) fun g_12 =>
      jn (fun (p_13 : Int) (p_14 : Int) =>
        fX12_levelAt_L39 n y1 y2 p_13 p_14 g_12 K85
      ) fun J82 =>
      if wr (g_12 0 66) < wr y2 then (
        bnd (x_9 + 1) fun x_16 =>
        J82 x_16 y4
      ) else (
        J82 y3 x_9
      )
    )
def fX12_levelAt (a0 : Int) (g : Mem) : Option (Int × Mem) :=
  bd (fX12_heavy g) fun r_1 =>
  if wr r_1 = 0 then (
    some ((-2147483648), g)
  ) else (
    bd (fX12_wets a0 4000 g) fun g_6 =>
    if wr r_1 ≤ wr (g_6 0 66) then (
      fX12_levelAt_L39 fuel a0 r_1 (-2000) 4000 g_6
      (fun (z_17 : Int) (z_18 : Int) (g_19 : Mem) =>
        bd (fX12_wets z_17 z_18 g_19) fun g_22 =>
        some (z_18, g_22)
      )
    ) else (
      some ((-2147483648), g_6)
    )
  )
set_option maxRecDepth 100000 in
set_option maxHeartbeats 4000000 in
theorem wX12_levelAt_L39 {p : Program} {l : Launch} {e : Env} {s : State} {m : MethodId} {args : Array Value} {below : List Frame} {meth : Method} {c : Code} {Θ : Th} {h0 : Mem} {rv : Int} {gR : Mem} {K85 : Int → Int → Mem → Option (Int × Mem)} (C : Cx p s m args meth c cX12_levelAt 6 RX12 (some .int) Θ) : ∀ (n : Nat) (y1 : Int) (y2 : Int) (y3 : Int) (y4 : Int) (g : Mem) (H : Heap) (locs : List Loc) (ls : Array Slot), fX12_levelAt_L39 n y1 y2 y3 y4 g K85 = some (rv, gR) → (∀ (z1 : Int) (z3 : Int) (gz : Mem) (H : Heap) (locs : List Loc) (ls : Array Slot), K85 z1 z3 gz = some (rv, gR) → Hd Θ s h0 gz H locs → lv_has ls 6 [(0, .ref (Θ.2.2.2 0)), (1, vi z1), (3, vi z3)] → W p l e { frames := 1, cells := 0, slots := 0, locals := 27 } s m args below meth c H locs 0 0 (MQ below (Qx Θ s.heap.size h0 gR (some (vi rv))) args s 0 0 (AA Θ s.heap.size)) (F0 m 85 ls [])) → Hd Θ s h0 g H locs → lv_has ls 6 [(0, .ref (Θ.2.2.2 0)), (1, vi y1), (2, vi y2), (3, vi y3), (4, vi y4)] → W p l e { frames := 1, cells := 0, slots := 0, locals := 27 } s m args below meth c H locs 0 0 (MQ below (Qx Θ s.heap.size h0 gR (some (vi rv))) args s 0 0 (AA Θ s.heap.size)) (F0 m 39 ls []) := by
  intro n
  obtain ⟨hx, hb, hml, hown, hts, -⟩ := id C
  induction n with
  | zero => intro y1 y2 y3 y4 g H locs ls h; cases h
  | succ n ih =>
    intro y1 y2 y3 y4 g H locs ls h hK85 hM hl
    rw [fX12_levelAt_L39] at h
    refine x_iload_n hx hb (kX12_levelAt (i := 21) rfl) rfl (lv_at hl 3 rfl) ?_
    refine x_iload hx hb (kX12_levelAt (i := 22) rfl) (lv_at hl 4 rfl) ?_
    refine x_icmp_ge (a' := wr y3) (b' := wr y4) hx hb rfl rfl (tgt := 85) (kX12_levelAt (i := 23) rfl) (by decide) (fun c_8 => ?_) (fun c_8 => ?_)
    · have h := it_t c_8 h
      exact hK85 y1 y3 g H locs ls h hM (lv_sub hl [0, 1, 3] rfl)
    · have h := it_f c_8 h
      refine x_iload_n hx hb (kX12_levelAt (i := 24) rfl) rfl (lv_at hl 3 rfl) ?_
      refine x_iload hx hb (kX12_levelAt (i := 25) rfl) (lv_at hl 4 rfl) ?_
      refine x_iload_n hx hb (kX12_levelAt (i := 26) rfl) rfl (lv_at hl 3 rfl) ?_
      refine x_isub hx hb (kX12_levelAt (i := 27) rfl) ?_
      refine x_iconst hx hb (kX12_levelAt (i := 28) rfl) ?_
      refine x_idiv (a' := wr (y4 - y3)) (b' := 2) hx hb (kX12_levelAt (i := 29) rfl) rfl (by decide) (by decide) ?_
      refine x_iadd hx hb (kX12_levelAt (i := 30) rfl) ?_
      obtain ⟨x_9, ex_9, h⟩ := bnd_some h
      refine x_top ex_9 ?_
      refine x_istore (lv' := [(5, vi x_9), (0, .ref (Θ.2.2.2 0)), (1, vi y1), (2, vi y2), (3, vi y3), (4, vi y4)]) hx hb (kX12_levelAt (i := 31) rfl) hl (by decide) rfl (fun ls hl => ?_)
      refine lv_aload_n hx hb (kX12_levelAt (i := 32) rfl) rfl (lv_at hl 1 rfl) ?_
      refine x_iload_n hx hb (kX12_levelAt (i := 33) rfl) rfl (lv_at hl 2 rfl) ?_
      refine x_iload hx hb (kX12_levelAt (i := 34) rfl) (lv_at hl 0 rfl) ?_
      obtain ⟨g_12, hc_11, h⟩ := bd_some h
      refine x_callV (n := 2) (As := [vi y1, vi x_9]) (rest := []) C hM (tX12_wets l Θ y1 x_9 h0 g g_12 hc_11) (x_recvM C hM 0 (by decide) (eM_0 Θ _) rfl rfl) q_c_X12_wets q_mX12_206 q_i_X12_wets q_e_X12_wets q_n_X12 (by decide +kernel) ⟨by decide, by decide⟩ rfl hl.1 rfl (Nat.le_of_ble_eq_true rfl) (kX12_levelAt (i := 35) rfl) (fun H locs hM => ?_)
      refine lv_aload_n hx hb (kX12_levelAt (i := 36) rfl) rfl (lv_at hl 1 rfl) ?_
      refine gX12_pushes C hM q_fX12_194 (kX12_levelAt (i := 37) rfl) ?_
      refine x_iload_n hx hb (kX12_levelAt (i := 38) rfl) rfl (lv_at hl 3 rfl) ?_
      refine jn_go h (fun J82 : Int → Int → Option (Int × Mem) => ∀ (p_13 : Int) (p_14 : Int) (H : Heap) (locs : List Loc) (ls : Array Slot), J82 p_13 p_14 = some (rv, gR) → Hd Θ s h0 g_12 H locs → lv_has ls 6 [(0, .ref (Θ.2.2.2 0)), (1, vi y1), (2, vi y2), (3, vi p_13), (4, vi p_14)] → W p l e { frames := 1, cells := 0, slots := 0, locals := 27 } s m args below meth c H locs 0 0 (MQ below (Qx Θ s.heap.size h0 gR (some (vi rv))) args s 0 0 (AA Θ s.heap.size)) (F0 m 82 ls [])) ?_ ?_
      · intro p_13 p_14 H locs ls h hM hl
        refine lv_goto (tgt := 39) hx hb (kX12_levelAt (i := 47) rfl) (by decide) ?_
        exact ih y1 y2 p_13 p_14 g_12 H locs ls h hK85 hM (lv_sub hl [0, 1, 2, 3, 4] rfl)
      intro J82 hJ82 h
      refine x_icmp_lt (a' := wr (g_12 0 66)) (b' := wr y2) hx hb rfl rfl (tgt := 77) (kX12_levelAt (i := 39) rfl) (by decide) (fun c_15 => ?_) (fun c_15 => ?_)
      · have h := it_t c_15 h
        refine x_iload hx hb (kX12_levelAt (i := 43) rfl) (lv_at hl 0 rfl) ?_
        refine x_iconst hx hb (kX12_levelAt (i := 44) rfl) ?_
        refine x_iadd hx hb (kX12_levelAt (i := 45) rfl) ?_
        obtain ⟨x_16, ex_16, h⟩ := bnd_some h
        refine x_top ex_16 ?_
        refine x_istore_n (lv' := [(3, vi x_16), (5, vi x_9), (0, .ref (Θ.2.2.2 0)), (1, vi y1), (2, vi y2), (4, vi y4)]) hx hb (kX12_levelAt (i := 46) rfl) rfl hl (by decide) rfl (fun ls hl => ?_)
        exact hJ82 x_16 y4 H locs ls h hM (lv_sub hl [2, 3, 4, 0, 5] rfl)
      · have h := it_f c_15 h
        refine x_iload hx hb (kX12_levelAt (i := 40) rfl) (lv_at hl 0 rfl) ?_
        refine x_istore (lv' := [(4, vi x_9), (5, vi x_9), (0, .ref (Θ.2.2.2 0)), (1, vi y1), (2, vi y2), (3, vi y3)]) hx hb (kX12_levelAt (i := 41) rfl) hl (by decide) rfl (fun ls hl => ?_)
        refine lv_goto (tgt := 82) hx hb (kX12_levelAt (i := 42) rfl) (by decide) ?_
        exact hJ82 y3 x_9 H locs ls h hM (lv_sub hl [2, 3, 4, 5, 0] rfl)
set_option maxRecDepth 100000 in
set_option maxHeartbeats 4000000 in
theorem tX12_levelAt (l : Launch) (Θ : Th) (a0 : Int) (h0 g : Mem) (rv : Int) (gR : Mem) (h : fX12_levelAt a0 g = some (rv, gR)) : Ct l yX12_levelAt cX12_levelAt 6 (some .int) 1 27 Θ [.ref (Θ.2.2.2 0), vi a0] h0 g h0 gR (some (vi rv)) := by
  refine x_start (by decide) (Nat.le_of_ble_eq_true rfl) ?_
  intro p e s m args below meth c ls C hM hl
  have hl : lv_has ls 6 [(0, .ref (Θ.2.2.2 0)), (1, vi a0)] := hl
  obtain ⟨hx, hb, hml, hown, hts, -⟩ := id C
  unfold fX12_levelAt at h
  have key : ∀ (H : Heap) (locs : List Loc), Hd Θ s h0 g H locs → W p l e { frames := 1, cells := 0, slots := 0, locals := 27 } s m args below meth c H locs 0 0 (MQ below (Qx Θ s.heap.size h0 gR (some (vi rv))) args s 0 0 (AA Θ s.heap.size)) (F0 m 0 ls []) := by
    intro H locs hM
    refine lv_aload_n hx hb (kX12_levelAt (i := 0) rfl) rfl (lv_at hl 0 rfl) ?_
    obtain ⟨r_1, hc_2, h⟩ := bd_some h
    refine x_callV (n := 0) (As := []) (rest := []) C hM (tX12_heavy l Θ h0 g r_1 hc_2) (x_recvM C hM 0 (by decide) (eM_0 Θ _) rfl rfl) q_c_X12_heavy q_mX12_201 q_i_X12_heavy q_e_X12_heavy q_n_X12 (by decide +kernel) ⟨by decide, by decide⟩ rfl hl.1 rfl (Nat.le_of_ble_eq_true rfl) (kX12_levelAt (i := 1) rfl) (fun H locs hM => ?_)
    refine x_istore_n (lv' := [(2, vi r_1), (0, .ref (Θ.2.2.2 0)), (1, vi a0)]) hx hb (kX12_levelAt (i := 2) rfl) rfl hl (by decide) rfl (fun ls hl => ?_)
    refine x_iload_n hx hb (kX12_levelAt (i := 3) rfl) rfl (lv_at hl 0 rfl) ?_
    refine x_if_ne (a' := wr r_1) hx hb rfl (tgt := 12) (kX12_levelAt (i := 4) rfl) (by decide) (fun c_3 => ?_) (fun c_3 => ?_)
    · have h := it_f c_3 h
      refine x_sipush hx hb (by decide) (kX12_levelAt (i := 7) rfl) ?_
      refine x_istore_n (lv' := [(3, vi (-2000)), (2, vi r_1), (0, .ref (Θ.2.2.2 0)), (1, vi a0)]) hx hb (kX12_levelAt (i := 8) rfl) rfl hl (by decide) rfl (fun ls hl => ?_)
      refine x_sipush hx hb (by decide) (kX12_levelAt (i := 9) rfl) ?_
      refine x_istore (lv' := [(4, vi 4000), (3, vi (-2000)), (2, vi r_1), (0, .ref (Θ.2.2.2 0)), (1, vi a0)]) hx hb (kX12_levelAt (i := 10) rfl) hl (by decide) rfl (fun ls hl => ?_)
      refine lv_aload_n hx hb (kX12_levelAt (i := 11) rfl) rfl (lv_at hl 3 rfl) ?_
      refine x_iload_n hx hb (kX12_levelAt (i := 12) rfl) rfl (lv_at hl 4 rfl) ?_
      refine x_iload hx hb (kX12_levelAt (i := 13) rfl) (lv_at hl 0 rfl) ?_
      obtain ⟨g_6, hc_5, h⟩ := bd_some h
      refine x_callV (n := 2) (As := [vi a0, vi 4000]) (rest := []) C hM (tX12_wets l Θ a0 4000 h0 g g_6 hc_5) (x_recvM C hM 0 (by decide) (eM_0 Θ _) rfl rfl) q_c_X12_wets q_mX12_206 q_i_X12_wets q_e_X12_wets q_n_X12 (by decide +kernel) ⟨by decide, by decide⟩ rfl hl.1 rfl (Nat.le_of_ble_eq_true rfl) (kX12_levelAt (i := 14) rfl) (fun H locs hM => ?_)
      refine lv_aload_n hx hb (kX12_levelAt (i := 15) rfl) rfl (lv_at hl 3 rfl) ?_
      refine gX12_pushes C hM q_fX12_194 (kX12_levelAt (i := 16) rfl) ?_
      refine x_iload_n hx hb (kX12_levelAt (i := 17) rfl) rfl (lv_at hl 2 rfl) ?_
      refine x_icmp_ge (a' := wr (g_6 0 66)) (b' := wr r_1) hx hb rfl rfl (tgt := 39) (kX12_levelAt (i := 18) rfl) (by decide) (fun c_7 => ?_) (fun c_7 => ?_)
      · have h := it_t c_7 h
        refine wX12_levelAt_L39  C fuel a0 r_1 (-2000) 4000 g_6 H locs ls h ?_ hM (lv_sub hl [3, 4, 2, 1, 0] rfl)
        · intro z_17 z_18 g_19 H locs ls h hM hl
          refine lv_aload_n hx hb (kX12_levelAt (i := 48) rfl) rfl (lv_at hl 0 rfl) ?_
          refine x_iload_n hx hb (kX12_levelAt (i := 49) rfl) rfl (lv_at hl 1 rfl) ?_
          refine x_iload_n hx hb (kX12_levelAt (i := 50) rfl) rfl (lv_at hl 2 rfl) ?_
          obtain ⟨g_22, hc_21, h⟩ := bd_some h
          refine x_callV (n := 2) (As := [vi z_17, vi z_18]) (rest := []) C hM (tX12_wets l Θ z_17 z_18 h0 g_19 g_22 hc_21) (x_recvM C hM 0 (by decide) (eM_0 Θ _) rfl rfl) q_c_X12_wets q_mX12_206 q_i_X12_wets q_e_X12_wets q_n_X12 (by decide +kernel) ⟨by decide, by decide⟩ rfl hl.1 rfl (Nat.le_of_ble_eq_true rfl) (kX12_levelAt (i := 51) rfl) (fun H locs hM => ?_)
          refine x_iload_n hx hb (kX12_levelAt (i := 52) rfl) rfl (lv_at hl 2 rfl) ?_
          obtain ⟨q1, q2⟩ := ret2 h
          rw [q1, q2]
          exact x_iret C hM (nar_i _) (kX12_levelAt (i := 53) rfl)
      · have h := it_f c_7 h
        refine x_ldc (n := (-2147483648)) hx hb hown (hts _ q_kX12_205) (kX12_levelAt (i := 19) rfl) ?_
        obtain ⟨q1, q2⟩ := ret2 h
        rw [q1, q2]
        exact x_iret C hM (nar_i _) (kX12_levelAt (i := 20) rfl)
    · have h := it_t c_3 h
      refine x_ldc (n := (-2147483648)) hx hb hown (hts _ q_kX12_205) (kX12_levelAt (i := 5) rfl) ?_
      obtain ⟨q1, q2⟩ := ret2 h
      rw [q1, q2]
      exact x_iret C hM (nar_i _) (kX12_levelAt (i := 6) rfl)
  exact key _ _ hM

/-! X12_floor -/
def fX12_floor (a0 : Int) (a1 : Int) : Option (Int) :=
  if wr (lCmp a0 0) < 0 then (
    gc (¬ wl a1 = 0) <|
    some (-(Int.tdiv (wl (((-a0) + a1) - 1)) (wl a1)))
  ) else (
    gc (¬ wl a1 = 0) <|
    some (Int.tdiv (wl a0) (wl a1))
  )
set_option maxRecDepth 100000 in
set_option maxHeartbeats 4000000 in
theorem tX12_floor (l : Launch) (Θ : Th) (a0 : Int) (a1 : Int) (h0 g0 : Mem) (rv : Int) (h : fX12_floor a0 a1 = some rv) : Ct l yX12_floor cX12_floor 4 (some .long) 0 0 Θ [vl a0, vl a1] h0 g0 h0 g0 (some (vl rv)) := by
  refine x_start (by decide) (Nat.le_of_ble_eq_true rfl) ?_
  intro p e s m args below meth c ls C hM hl
  have hl : lv_has ls 4 [(0, vl a0), (2, vl a1)] := hl
  obtain ⟨hx, hb, hml, hown, hts, -⟩ := id C
  unfold fX12_floor at h
  have key : ∀ (H : Heap) (locs : List Loc), Hd Θ s h0 g0 H locs → W p l e { frames := 0, cells := 0, slots := 0, locals := 0 } s m args below meth c H locs 0 0 (MQ below (Qx Θ s.heap.size h0 g0 (some (vl rv))) args s 0 0 (AA Θ s.heap.size)) (F0 m 0 ls []) := by
    intro H locs hM
    refine x_lload_n hx hb (kX12_floor (i := 0) rfl) rfl (lv_at hl 0 rfl) ?_
    refine x_lconst (z := 0) hx hb rfl (kX12_floor (i := 1) rfl) ?_
    refine x_lcmp hx hb (kX12_floor (i := 2) rfl) ?_
    refine x_if_lt (a' := wr (lCmp a0 0)) hx hb rfl (tgt := 12) (kX12_floor (i := 3) rfl) (by decide) (fun c_1 => ?_) (fun c_1 => ?_)
    · have h := it_t c_1 h
      refine x_lload_n hx hb (kX12_floor (i := 8) rfl) rfl (lv_at hl 0 rfl) ?_
      refine x_lneg hx hb (kX12_floor (i := 9) rfl) ?_
      refine x_lload_n hx hb (kX12_floor (i := 10) rfl) rfl (lv_at hl 1 rfl) ?_
      refine x_ladd hx hb (kX12_floor (i := 11) rfl) ?_
      refine x_lconst (z := 1) hx hb rfl (kX12_floor (i := 12) rfl) ?_
      refine x_lsub hx hb (kX12_floor (i := 13) rfl) ?_
      refine x_lload_n hx hb (kX12_floor (i := 14) rfl) rfl (lv_at hl 1 rfl) ?_
      obtain ⟨hz_2, h⟩ := gc_some h
      refine x_ldiv hx hb (kX12_floor (i := 15) rfl) hz_2 ?_
      refine x_lneg hx hb (kX12_floor (i := 16) rfl) ?_
      rw [← Option.some.inj h]
      exact x_lret C hM (kX12_floor (i := 17) rfl)
    · have h := it_f c_1 h
      refine x_lload_n hx hb (kX12_floor (i := 4) rfl) rfl (lv_at hl 0 rfl) ?_
      refine x_lload_n hx hb (kX12_floor (i := 5) rfl) rfl (lv_at hl 1 rfl) ?_
      obtain ⟨hz_3, h⟩ := gc_some h
      refine x_ldiv hx hb (kX12_floor (i := 6) rfl) hz_3 ?_
      refine lv_goto (tgt := 21) hx hb (kX12_floor (i := 7) rfl) (by decide) ?_
      rw [← Option.some.inj h]
      exact x_lret C hM (kX12_floor (i := 17) rfl)
  exact key _ _ hM

/-! X12_armAt -/
def fX12_armAt_L22 : Nat → Int → Int → Int → Int → Mem → (Int → Int → Option (Int)) → Option (Int)
  | 0, _, _, _, _, _, _ => none
  | n + 1, y1, y2, y3, y5, g, K89 =>
    if wr (g 0 4) ≤ wr y5 then (
      K89 y2 y3
    ) else (
      gd y5 12 <|
      jn (fun (v_7 : Int) =>
        bnd (y3 - v_7) fun x_8 =>
        bnd (y5 + 1) fun x_9 =>
        fX12_armAt_L22 n y1 y2 x_8 x_9 g K89
      ) fun J81 =>
      if wr (g 8 (wr y5).toNat) = 0 then (
        gd y5 12 <|
        gd ((12 * y1) + y5) 24 <|
        gd y5 12 <|
        J81 ((wr (g 4 (wr y5).toNat)) * (wr ((100 * (g 18 (wr ((12 * y1) + y5)).toNat)) + (y2 * (g 6 (wr y5).toNat)))))
      ) else (
        J81 0
      )
    )
def fX12_armAt_L92 : Nat → Int → Int → Int → Mem → Option (Int)
  | 0, _, _, _, _ => none
  | n + 1, y2, y3, y5, g =>
    if wr (g 0 10) ≤ wr y5 then (
      some y3
    ) else (
      gd y5 4 <|
      jn (fun (v_19 : Int) =>
        gd y5 4 <|
        gd y5 4 <|
        bnd (y3 - ((wr (g 12 (wr y5).toNat)) * (wr ((100 * v_19) + (y2 * (g 10 (wr y5).toNat)))))) fun x_22 =>
        bnd (y5 + 1) fun x_23 =>
        fX12_armAt_L92 n y2 x_22 x_23 g
      ) fun J144 =>
      jn (fun (_ : Unit) =>
        J144 0
      ) fun J143 =>
      if wr (g 12 (wr y5).toNat) ≤ 0 then (
        J143 ()
      ) else (
        gd y5 4 <|
        gd y5 4 <|
        if wr (g 11 (wr y5).toNat) ≤ wr (g 12 (wr y5).toNat) then (
          J143 ()
        ) else (
          gd y5 4 <|
          J144 (Int.tdiv (wr (y2 * (g 9 (wr y5).toNat))) (100))
        )
      )
    )
def fX12_armAt (a0 : Int) (a1 : Int) (g : Mem) : Option (Int) :=
  bd (fX12_heavy g) fun r_1 =>
  bd (fX12_floor ((g 0 67) * (wr r_1)) (wr (g 0 66))) fun r_3 =>
  fX12_armAt_L22 fuel a0 a1 r_3 0 g
  (fun (z_14 : Int) (z_15 : Int) =>
    fX12_armAt_L92 fuel z_14 z_15 0 g
  )
set_option maxRecDepth 100000 in
set_option maxHeartbeats 4000000 in
theorem wX12_armAt_L22 {p : Program} {l : Launch} {e : Env} {s : State} {m : MethodId} {args : Array Value} {below : List Frame} {meth : Method} {c : Code} {Θ : Th} {h0 : Mem} {g : Mem} {rv : Int} {K89 : Int → Int → Option (Int)} (C : Cx p s m args meth c cX12_armAt 7 RX12 (some .long) Θ) : ∀ (n : Nat) (y1 : Int) (y2 : Int) (y3 : Int) (y5 : Int) (H : Heap) (locs : List Loc) (ls : Array Slot), fX12_armAt_L22 n y1 y2 y3 y5 g K89 = some rv → (∀ (z2 : Int) (z3 : Int) (H : Heap) (locs : List Loc) (ls : Array Slot), K89 z2 z3 = some rv → Hd Θ s h0 g H locs → lv_has ls 7 [(0, .ref (Θ.2.2.2 0)), (2, vi z2), (3, vl z3)] → W p l e { frames := 1, cells := 0, slots := 0, locals := 23 } s m args below meth c H locs 0 0 (MQ below (Qx Θ s.heap.size h0 g (some (vl rv))) args s 0 0 (AA Θ s.heap.size)) (F0 m 89 ls [])) → Hd Θ s h0 g H locs → lv_has ls 7 [(0, .ref (Θ.2.2.2 0)), (1, vi y1), (2, vi y2), (3, vl y3), (5, vi y5)] → W p l e { frames := 1, cells := 0, slots := 0, locals := 23 } s m args below meth c H locs 0 0 (MQ below (Qx Θ s.heap.size h0 g (some (vl rv))) args s 0 0 (AA Θ s.heap.size)) (F0 m 22 ls []) := by
  intro n
  obtain ⟨hx, hb, hml, hown, hts, -⟩ := id C
  induction n with
  | zero => intro y1 y2 y3 y5 H locs ls h; cases h
  | succ n ih =>
    intro y1 y2 y3 y5 H locs ls h hK89 hM hl
    rw [fX12_armAt_L22] at h
    refine x_iload hx hb (kX12_armAt (i := 13) rfl) (lv_at hl 4 rfl) ?_
    refine lv_aload_n hx hb (kX12_armAt (i := 14) rfl) rfl (lv_at hl 0 rfl) ?_
    refine gX12_weights C hM q_fX12_181 (kX12_armAt (i := 15) rfl) ?_
    refine x_icmp_ge (a' := wr y5) (b' := wr (g 0 4)) hx hb rfl rfl (tgt := 89) (kX12_armAt (i := 16) rfl) (by decide) (fun c_5 => ?_) (fun c_5 => ?_)
    · have h := it_t c_5 h
      exact hK89 y2 y3 H locs ls h hM (lv_sub hl [0, 2, 3] rfl)
    · have h := it_f c_5 h
      refine x_lload_n hx hb (kX12_armAt (i := 17) rfl) rfl (lv_at hl 3 rfl) ?_
      refine lv_aload_n hx hb (kX12_armAt (i := 18) rfl) rfl (lv_at hl 0 rfl) ?_
      refine gX12_isLost C hM q_fX12_31 (kX12_armAt (i := 19) rfl) ?_
      refine x_iload hx hb (kX12_armAt (i := 20) rfl) (lv_at hl 4 rfl) ?_
      obtain ⟨hi_6, h⟩ := gd_some h
      refine x_zaldM C hM 8 (by decide) (eM_8 Θ) hi_6 (kX12_armAt (i := 21) rfl) ?_
      refine jn_go h (fun J81 : Int → Option (Int) => ∀ (v_7 : Int) (H : Heap) (locs : List Loc) (ls : Array Slot), J81 v_7 = some rv → Hd Θ s h0 g H locs → lv_has ls 7 [(0, .ref (Θ.2.2.2 0)), (1, vi y1), (2, vi y2), (5, vi y5)] → W p l e { frames := 1, cells := 0, slots := 0, locals := 23 } s m args below meth c H locs 0 0 (MQ below (Qx Θ s.heap.size h0 g (some (vl rv))) args s 0 0 (AA Θ s.heap.size)) (F0 m 81 ls [vl v_7, vl y3])) ?_ ?_
      · intro v_7 H locs ls h hM hl
        refine x_lsub hx hb (kX12_armAt (i := 49) rfl) ?_
        obtain ⟨x_8, ex_8, h⟩ := bnd_some h
        refine x_topl ex_8 ?_
        refine x_lstore_n (lv' := [(3, vl x_8), (0, .ref (Θ.2.2.2 0)), (1, vi y1), (2, vi y2), (5, vi y5)]) hx hb (kX12_armAt (i := 50) rfl) rfl hl (by decide) rfl (fun ls hl => ?_)
        obtain ⟨x_9, ex_9, h⟩ := bnd_some h
        refine x_iinc (k := 4) (lv' := [(5, vi x_9), (3, vl x_8), (0, .ref (Θ.2.2.2 0)), (1, vi y1), (2, vi y2)]) hx hb (kX12_armAt (i := 51) rfl) hl rfl ex_9 (by decide) rfl (fun ls hl => ?_)
        refine lv_goto (tgt := 22) hx hb (kX12_armAt (i := 52) rfl) (by decide) ?_
        exact ih y1 y2 x_8 x_9 H locs ls h hK89 hM (lv_sub hl [2, 3, 4, 1, 0] rfl)
      intro J81 hJ81 h
      refine x_if_eq (a' := wr (g 8 (wr y5).toNat)) hx hb rfl (tgt := 46) (kX12_armAt (i := 22) rfl) (by decide) (fun c_10 => ?_) (fun c_10 => ?_)
      · have h := it_t c_10 h
        refine lv_aload_n hx hb (kX12_armAt (i := 25) rfl) rfl (lv_at hl 0 rfl) ?_
        refine gX12_mass C hM q_fX12_19 (kX12_armAt (i := 26) rfl) ?_
        refine x_iload hx hb (kX12_armAt (i := 27) rfl) (lv_at hl 4 rfl) ?_
        obtain ⟨hi_11, h⟩ := gd_some h
        refine x_ialdM C hM 4 (by decide) (eM_4 Θ) hi_11 (kX12_armAt (i := 28) rfl) ?_
        refine x_i2l (a' := wr (g 4 (wr y5).toNat)) hx hb rfl (kX12_armAt (i := 29) rfl) ?_
        refine x_bipush hx hb (by decide) (kX12_armAt (i := 30) rfl) ?_
        refine lv_aload_n hx hb (kX12_armAt (i := 31) rfl) rfl (lv_at hl 0 rfl) ?_
        refine gX12_place C hM q_fX12_72 (kX12_armAt (i := 32) rfl) ?_
        refine x_bipush hx hb (by decide) (kX12_armAt (i := 33) rfl) ?_
        refine x_iload_n hx hb (kX12_armAt (i := 34) rfl) rfl (lv_at hl 1 rfl) ?_
        refine x_imul hx hb (kX12_armAt (i := 35) rfl) ?_
        refine x_iload hx hb (kX12_armAt (i := 36) rfl) (lv_at hl 4 rfl) ?_
        refine x_iadd hx hb (kX12_armAt (i := 37) rfl) ?_
        obtain ⟨hi_12, h⟩ := gd_some h
        refine x_ialdM C hM 18 (by decide) (eM_18 Θ) hi_12 (kX12_armAt (i := 38) rfl) ?_
        refine x_imul hx hb (kX12_armAt (i := 39) rfl) ?_
        refine x_iload_n hx hb (kX12_armAt (i := 40) rfl) rfl (lv_at hl 2 rfl) ?_
        refine lv_aload_n hx hb (kX12_armAt (i := 41) rfl) rfl (lv_at hl 0 rfl) ?_
        refine gX12_height C hM q_fX12_25 (kX12_armAt (i := 42) rfl) ?_
        refine x_iload hx hb (kX12_armAt (i := 43) rfl) (lv_at hl 4 rfl) ?_
        obtain ⟨hi_13, h⟩ := gd_some h
        refine x_ialdM C hM 6 (by decide) (eM_6 Θ) hi_13 (kX12_armAt (i := 44) rfl) ?_
        refine x_imul hx hb (kX12_armAt (i := 45) rfl) ?_
        refine x_iadd hx hb (kX12_armAt (i := 46) rfl) ?_
        refine x_i2l (a' := wr ((100 * (g 18 (wr ((12 * y1) + y5)).toNat)) + (y2 * (g 6 (wr y5).toNat)))) hx hb rfl (kX12_armAt (i := 47) rfl) ?_
        refine x_lmul hx hb (kX12_armAt (i := 48) rfl) ?_
        exact hJ81 ((wr (g 4 (wr y5).toNat)) * (wr ((100 * (g 18 (wr ((12 * y1) + y5)).toNat)) + (y2 * (g 6 (wr y5).toNat))))) H locs ls h hM (lv_sub hl [0, 1, 2, 4] rfl)
      · have h := it_f c_10 h
        refine x_lconst (z := 0) hx hb rfl (kX12_armAt (i := 23) rfl) ?_
        refine lv_goto (tgt := 81) hx hb (kX12_armAt (i := 24) rfl) (by decide) ?_
        exact hJ81 0 H locs ls h hM (lv_sub hl [0, 1, 2, 4] rfl)
set_option maxRecDepth 100000 in
set_option maxHeartbeats 4000000 in
theorem wX12_armAt_L92 {p : Program} {l : Launch} {e : Env} {s : State} {m : MethodId} {args : Array Value} {below : List Frame} {meth : Method} {c : Code} {Θ : Th} {h0 : Mem} {g : Mem} {rv : Int} (C : Cx p s m args meth c cX12_armAt 7 RX12 (some .long) Θ) : ∀ (n : Nat) (y2 : Int) (y3 : Int) (y5 : Int) (H : Heap) (locs : List Loc) (ls : Array Slot), fX12_armAt_L92 n y2 y3 y5 g = some rv → Hd Θ s h0 g H locs → lv_has ls 7 [(0, .ref (Θ.2.2.2 0)), (2, vi y2), (3, vl y3), (5, vi y5)] → W p l e { frames := 1, cells := 0, slots := 0, locals := 23 } s m args below meth c H locs 0 0 (MQ below (Qx Θ s.heap.size h0 g (some (vl rv))) args s 0 0 (AA Θ s.heap.size)) (F0 m 92 ls []) := by
  intro n
  obtain ⟨hx, hb, hml, hown, hts, -⟩ := id C
  induction n with
  | zero => intro y2 y3 y5 H locs ls h; cases h
  | succ n ih =>
    intro y2 y3 y5 H locs ls h  hM hl
    rw [fX12_armAt_L92] at h
    refine x_iload hx hb (kX12_armAt (i := 55) rfl) (lv_at hl 3 rfl) ?_
    refine lv_aload_n hx hb (kX12_armAt (i := 56) rfl) rfl (lv_at hl 0 rfl) ?_
    refine gX12_tanks C hM q_fX12_188 (kX12_armAt (i := 57) rfl) ?_
    refine x_icmp_ge (a' := wr y5) (b' := wr (g 0 10)) hx hb rfl rfl (tgt := 180) (kX12_armAt (i := 58) rfl) (by decide) (fun c_17 => ?_) (fun c_17 => ?_)
    · have h := it_t c_17 h
      refine x_lload_n hx hb (kX12_armAt (i := 106) rfl) rfl (lv_at hl 2 rfl) ?_
      rw [← Option.some.inj h]
      exact x_lret C hM (kX12_armAt (i := 107) rfl)
    · have h := it_f c_17 h
      refine lv_aload_n hx hb (kX12_armAt (i := 59) rfl) rfl (lv_at hl 0 rfl) ?_
      refine gX12_has C hM q_fX12_44 (kX12_armAt (i := 60) rfl) ?_
      refine x_iload hx hb (kX12_armAt (i := 61) rfl) (lv_at hl 3 rfl) ?_
      obtain ⟨hi_18, h⟩ := gd_some h
      refine x_ialdM C hM 12 (by decide) (eM_12 Θ) hi_18 (kX12_armAt (i := 62) rfl) ?_
      refine jn_go h (fun J144 : Int → Option (Int) => ∀ (v_19 : Int) (H : Heap) (locs : List Loc) (ls : Array Slot), J144 v_19 = some rv → Hd Θ s h0 g H locs → lv_has ls 7 [(0, .ref (Θ.2.2.2 0)), (2, vi y2), (3, vl y3), (5, vi y5)] → W p l e { frames := 1, cells := 0, slots := 0, locals := 23 } s m args below meth c H locs 0 0 (MQ below (Qx Θ s.heap.size h0 g (some (vl rv))) args s 0 0 (AA Θ s.heap.size)) (F0 m 144 ls [vi v_19])) ?_ ?_
      · intro v_19 H locs ls h hM hl
        refine x_istore (lv' := [(6, vi v_19), (0, .ref (Θ.2.2.2 0)), (2, vi y2), (3, vl y3), (5, vi y5)]) hx hb (kX12_armAt (i := 83) rfl) hl (by decide) rfl (fun ls hl => ?_)
        refine x_lload_n hx hb (kX12_armAt (i := 84) rfl) rfl (lv_at hl 3 rfl) ?_
        refine lv_aload_n hx hb (kX12_armAt (i := 85) rfl) rfl (lv_at hl 1 rfl) ?_
        refine gX12_has C hM q_fX12_44 (kX12_armAt (i := 86) rfl) ?_
        refine x_iload hx hb (kX12_armAt (i := 87) rfl) (lv_at hl 4 rfl) ?_
        obtain ⟨hi_20, h⟩ := gd_some h
        refine x_ialdM C hM 12 (by decide) (eM_12 Θ) hi_20 (kX12_armAt (i := 88) rfl) ?_
        refine x_i2l (a' := wr (g 12 (wr y5).toNat)) hx hb rfl (kX12_armAt (i := 89) rfl) ?_
        refine x_bipush hx hb (by decide) (kX12_armAt (i := 90) rfl) ?_
        refine x_iload hx hb (kX12_armAt (i := 91) rfl) (lv_at hl 0 rfl) ?_
        refine x_imul hx hb (kX12_armAt (i := 92) rfl) ?_
        refine x_iload_n hx hb (kX12_armAt (i := 93) rfl) rfl (lv_at hl 2 rfl) ?_
        refine lv_aload_n hx hb (kX12_armAt (i := 94) rfl) rfl (lv_at hl 1 rfl) ?_
        refine gX12_tankHeight C hM q_fX12_38 (kX12_armAt (i := 95) rfl) ?_
        refine x_iload hx hb (kX12_armAt (i := 96) rfl) (lv_at hl 4 rfl) ?_
        obtain ⟨hi_21, h⟩ := gd_some h
        refine x_ialdM C hM 10 (by decide) (eM_10 Θ) hi_21 (kX12_armAt (i := 97) rfl) ?_
        refine x_imul hx hb (kX12_armAt (i := 98) rfl) ?_
        refine x_iadd hx hb (kX12_armAt (i := 99) rfl) ?_
        refine x_i2l (a' := wr ((100 * v_19) + (y2 * (g 10 (wr y5).toNat)))) hx hb rfl (kX12_armAt (i := 100) rfl) ?_
        refine x_lmul hx hb (kX12_armAt (i := 101) rfl) ?_
        refine x_lsub hx hb (kX12_armAt (i := 102) rfl) ?_
        obtain ⟨x_22, ex_22, h⟩ := bnd_some h
        refine x_topl ex_22 ?_
        refine x_lstore_n (lv' := [(3, vl x_22), (6, vi v_19), (0, .ref (Θ.2.2.2 0)), (2, vi y2), (5, vi y5)]) hx hb (kX12_armAt (i := 103) rfl) rfl hl (by decide) rfl (fun ls hl => ?_)
        obtain ⟨x_23, ex_23, h⟩ := bnd_some h
        refine x_iinc (k := 4) (lv' := [(5, vi x_23), (3, vl x_22), (6, vi v_19), (0, .ref (Θ.2.2.2 0)), (2, vi y2)]) hx hb (kX12_armAt (i := 104) rfl) hl rfl ex_23 (by decide) rfl (fun ls hl => ?_)
        refine lv_goto (tgt := 92) hx hb (kX12_armAt (i := 105) rfl) (by decide) ?_
        exact ih y2 x_22 x_23 H locs ls h hM (lv_sub hl [3, 4, 1, 0] rfl)
      intro J144 hJ144 h
      refine jn_go h (fun J143 : Unit → Option (Int) => ∀ (H : Heap) (locs : List Loc) (ls : Array Slot), J143 () = some rv → Hd Θ s h0 g H locs → lv_has ls 7 [(0, .ref (Θ.2.2.2 0)), (2, vi y2), (3, vl y3), (5, vi y5)] → W p l e { frames := 1, cells := 0, slots := 0, locals := 23 } s m args below meth c H locs 0 0 (MQ below (Qx Θ s.heap.size h0 g (some (vl rv))) args s 0 0 (AA Θ s.heap.size)) (F0 m 143 ls [])) ?_ ?_
      · intro  H locs ls h hM hl
        refine x_iconst hx hb (kX12_armAt (i := 82) rfl) ?_
        exact hJ144 0 H locs ls h hM (lv_sub hl [0, 1, 2, 3] rfl)
      intro J143 hJ143 h
      refine x_if_le (a' := wr (g 12 (wr y5).toNat)) hx hb rfl (tgt := 143) (kX12_armAt (i := 63) rfl) (by decide) (fun c_24 => ?_) (fun c_24 => ?_)
      · have h := it_t c_24 h
        exact hJ143 H locs ls h hM (lv_sub hl [0, 1, 2, 3] rfl)
      · have h := it_f c_24 h
        refine lv_aload_n hx hb (kX12_armAt (i := 64) rfl) rfl (lv_at hl 0 rfl) ?_
        refine gX12_has C hM q_fX12_44 (kX12_armAt (i := 65) rfl) ?_
        refine x_iload hx hb (kX12_armAt (i := 66) rfl) (lv_at hl 3 rfl) ?_
        obtain ⟨hi_25, h⟩ := gd_some h
        refine x_ialdM C hM 12 (by decide) (eM_12 Θ) hi_25 (kX12_armAt (i := 67) rfl) ?_
        refine lv_aload_n hx hb (kX12_armAt (i := 68) rfl) rfl (lv_at hl 0 rfl) ?_
        refine gX12_holds C hM q_fX12_41 (kX12_armAt (i := 69) rfl) ?_
        refine x_iload hx hb (kX12_armAt (i := 70) rfl) (lv_at hl 3 rfl) ?_
        obtain ⟨hi_26, h⟩ := gd_some h
        refine x_ialdM C hM 11 (by decide) (eM_11 Θ) hi_26 (kX12_armAt (i := 71) rfl) ?_
        refine x_icmp_ge (a' := wr (g 12 (wr y5).toNat)) (b' := wr (g 11 (wr y5).toNat)) hx hb rfl rfl (tgt := 143) (kX12_armAt (i := 72) rfl) (by decide) (fun c_27 => ?_) (fun c_27 => ?_)
        · have h := it_t c_27 h
          exact hJ143 H locs ls h hM (lv_sub hl [0, 1, 2, 3] rfl)
        · have h := it_f c_27 h
          refine x_iload_n hx hb (kX12_armAt (i := 73) rfl) rfl (lv_at hl 1 rfl) ?_
          refine lv_aload_n hx hb (kX12_armAt (i := 74) rfl) rfl (lv_at hl 0 rfl) ?_
          refine gX12_wide C hM q_fX12_35 (kX12_armAt (i := 75) rfl) ?_
          refine x_iload hx hb (kX12_armAt (i := 76) rfl) (lv_at hl 3 rfl) ?_
          obtain ⟨hi_28, h⟩ := gd_some h
          refine x_ialdM C hM 9 (by decide) (eM_9 Θ) hi_28 (kX12_armAt (i := 77) rfl) ?_
          refine x_imul hx hb (kX12_armAt (i := 78) rfl) ?_
          refine x_bipush hx hb (by decide) (kX12_armAt (i := 79) rfl) ?_
          refine x_idiv (a' := wr (y2 * (g 9 (wr y5).toNat))) (b' := 100) hx hb (kX12_armAt (i := 80) rfl) rfl (by decide) (by decide) ?_
          refine lv_goto (tgt := 144) hx hb (kX12_armAt (i := 81) rfl) (by decide) ?_
          exact hJ144 (Int.tdiv (wr (y2 * (g 9 (wr y5).toNat))) (100)) H locs ls h hM (lv_sub hl [0, 1, 2, 3] rfl)
set_option maxRecDepth 100000 in
set_option maxHeartbeats 4000000 in
theorem tX12_armAt (l : Launch) (Θ : Th) (a0 : Int) (a1 : Int) (h0 g : Mem) (rv : Int) (h : fX12_armAt a0 a1 g = some rv) : Ct l yX12_armAt cX12_armAt 7 (some .long) 1 23 Θ [.ref (Θ.2.2.2 0), vi a0, vi a1] h0 g h0 g (some (vl rv)) := by
  refine x_start (by decide) (Nat.le_of_ble_eq_true rfl) ?_
  intro p e s m args below meth c ls C hM hl
  have hl : lv_has ls 7 [(0, .ref (Θ.2.2.2 0)), (1, vi a0), (2, vi a1)] := hl
  obtain ⟨hx, hb, hml, hown, hts, -⟩ := id C
  unfold fX12_armAt at h
  have key : ∀ (H : Heap) (locs : List Loc), Hd Θ s h0 g H locs → W p l e { frames := 1, cells := 0, slots := 0, locals := 23 } s m args below meth c H locs 0 0 (MQ below (Qx Θ s.heap.size h0 g (some (vl rv))) args s 0 0 (AA Θ s.heap.size)) (F0 m 0 ls []) := by
    intro H locs hM
    refine lv_aload_n hx hb (kX12_armAt (i := 0) rfl) rfl (lv_at hl 0 rfl) ?_
    refine gX12_pushed C hM q_fX12_197 (kX12_armAt (i := 1) rfl) ?_
    refine lv_aload_n hx hb (kX12_armAt (i := 2) rfl) rfl (lv_at hl 0 rfl) ?_
    obtain ⟨r_1, hc_2, h⟩ := bd_some h
    refine x_callV (n := 0) (As := []) (rest := [vl (g 0 67)]) C hM (tX12_heavy l Θ h0 g r_1 hc_2) (x_recvM C hM 0 (by decide) (eM_0 Θ _) rfl rfl) q_c_X12_heavy q_mX12_201 q_i_X12_heavy q_e_X12_heavy q_n_X12 (by decide +kernel) ⟨by decide, by decide⟩ rfl hl.1 rfl (Nat.le_of_ble_eq_true rfl) (kX12_armAt (i := 3) rfl) (fun H locs hM => ?_)
    refine x_i2l (a' := wr r_1) hx hb rfl (kX12_armAt (i := 4) rfl) ?_
    refine x_lmul hx hb (kX12_armAt (i := 5) rfl) ?_
    refine lv_aload_n hx hb (kX12_armAt (i := 6) rfl) rfl (lv_at hl 0 rfl) ?_
    refine gX12_pushes C hM q_fX12_194 (kX12_armAt (i := 7) rfl) ?_
    refine x_i2l (a' := wr (g 0 66)) hx hb rfl (kX12_armAt (i := 8) rfl) ?_
    obtain ⟨r_3, hc_4, h⟩ := bd_some h
    refine x_callS (n := 2) (As := [vl ((g 0 67) * (wr r_1)), vl (wr (g 0 66))]) (rest := []) C hM (tX12_floor l Θ ((g 0 67) * (wr r_1)) (wr (g 0 66)) h0 g r_3 hc_4) q_c_X12_floor q_mX12_210 q_s_X12_floor q_n_X12 (by decide +kernel) ⟨by decide, by decide⟩ rfl hl.1 rfl (Nat.le_of_ble_eq_true rfl) (kX12_armAt (i := 9) rfl) (fun H locs hM => ?_)
    refine x_lstore_n (lv' := [(3, vl r_3), (0, .ref (Θ.2.2.2 0)), (1, vi a0), (2, vi a1)]) hx hb (kX12_armAt (i := 10) rfl) rfl hl (by decide) rfl (fun ls hl => ?_)
    refine x_iconst hx hb (kX12_armAt (i := 11) rfl) ?_
    refine x_istore (lv' := [(5, vi 0), (3, vl r_3), (0, .ref (Θ.2.2.2 0)), (1, vi a0), (2, vi a1)]) hx hb (kX12_armAt (i := 12) rfl) hl (by decide) rfl (fun ls hl => ?_)
    refine wX12_armAt_L22  C fuel a0 a1 r_3 0 H locs ls h ?_ hM (lv_sub hl [2, 3, 4, 1, 0] rfl)
    · intro z_14 z_15 H locs ls h hM hl
      refine x_iconst hx hb (kX12_armAt (i := 53) rfl) ?_
      refine x_istore (lv' := [(5, vi 0), (0, .ref (Θ.2.2.2 0)), (2, vi z_14), (3, vl z_15)]) hx hb (kX12_armAt (i := 54) rfl) hl (by decide) rfl (fun ls hl => ?_)
      refine wX12_armAt_L92  C fuel z_14 z_15 0 H locs ls h  hM (lv_sub hl [1, 2, 3, 0] rfl)
  exact key _ _ hM

/-! X12_at -/
def fX12_at (a0 : Int) (a1 : Int) (g : Mem) : Option (Int × Mem) :=
  bd (fX12_in a0 (-80) 80) fun r_1 =>
  if wr r_1 = 0 then (
    some ((-2147483648), g)
  ) else (
    bd (fX12_in a1 0 2) fun r_4 =>
    if wr r_4 = 0 then (
      some ((-2147483648), g)
    ) else (
      bd2 (fX12_levelAt a0 g) fun r_7 g_9 =>
      if wr r_7 = (-2147483648) then (
        some ((-2147483648), g_9)
      ) else (
        if wr a1 = 0 then (
          some (r_7, g_9)
        ) else (
          if wr a1 = 1 then (
            some (g_9 0 66, g_9)
          ) else (
            bd (fX12_armAt 0 a0 g_9) fun r_13 =>
            some (r_13, g_9)
          )
        )
      )
    )
  )
set_option maxRecDepth 100000 in
set_option maxHeartbeats 4000000 in
theorem tX12_at (l : Launch) (Θ : Th) (a0 : Int) (a1 : Int) (h0 g : Mem) (rv : Int) (gR : Mem) (h : fX12_at a0 a1 g = some (rv, gR)) : Ct l yX12_at cX12_at 4 (some .int) 2 52 Θ [.ref (Θ.2.2.2 0), vi a0, vi a1] h0 g h0 gR (some (vi rv)) := by
  refine x_start (by decide) (Nat.le_of_ble_eq_true rfl) ?_
  intro p e s m args below meth c ls C hM hl
  have hl : lv_has ls 4 [(0, .ref (Θ.2.2.2 0)), (1, vi a0), (2, vi a1)] := hl
  obtain ⟨hx, hb, hml, hown, hts, -⟩ := id C
  unfold fX12_at at h
  have key : ∀ (H : Heap) (locs : List Loc), Hd Θ s h0 g H locs → W p l e { frames := 2, cells := 0, slots := 0, locals := 52 } s m args below meth c H locs 0 0 (MQ below (Qx Θ s.heap.size h0 gR (some (vi rv))) args s 0 0 (AA Θ s.heap.size)) (F0 m 0 ls []) := by
    intro H locs hM
    refine x_iload_n hx hb (kX12_at (i := 0) rfl) rfl (lv_at hl 1 rfl) ?_
    refine x_bipush hx hb (by decide) (kX12_at (i := 1) rfl) ?_
    refine x_bipush hx hb (by decide) (kX12_at (i := 2) rfl) ?_
    obtain ⟨r_1, hc_2, h⟩ := bd_some h
    refine x_callS (n := 3) (As := [vi a0, vi (-80), vi 80]) (rest := []) C hM (tX12_in l Θ a0 (-80) 80 h0 g r_1 hc_2) q_c_X12_in q_mX12_173 q_s_X12_in q_n_X12 (by decide +kernel) ⟨by decide, by decide⟩ rfl hl.1 rfl (Nat.le_of_ble_eq_true rfl) (kX12_at (i := 3) rfl) (fun H locs hM => ?_)
    refine x_if_eq (a' := wr r_1) hx hb rfl (tgt := 20) (kX12_at (i := 4) rfl) (by decide) (fun c_3 => ?_) (fun c_3 => ?_)
    · have h := it_t c_3 h
      refine x_ldc (n := (-2147483648)) hx hb hown (hts _ q_kX12_205) (kX12_at (i := 10) rfl) ?_
      obtain ⟨q1, q2⟩ := ret2 h
      rw [q1, q2]
      exact x_iret C hM (nar_i _) (kX12_at (i := 11) rfl)
    · have h := it_f c_3 h
      refine x_iload_n hx hb (kX12_at (i := 5) rfl) rfl (lv_at hl 2 rfl) ?_
      refine x_iconst hx hb (kX12_at (i := 6) rfl) ?_
      refine x_iconst hx hb (kX12_at (i := 7) rfl) ?_
      obtain ⟨r_4, hc_5, h⟩ := bd_some h
      refine x_callS (n := 3) (As := [vi a1, vi 0, vi 2]) (rest := []) C hM (tX12_in l Θ a1 0 2 h0 g r_4 hc_5) q_c_X12_in q_mX12_173 q_s_X12_in q_n_X12 (by decide +kernel) ⟨by decide, by decide⟩ rfl hl.1 rfl (Nat.le_of_ble_eq_true rfl) (kX12_at (i := 8) rfl) (fun H locs hM => ?_)
      refine x_if_ne (a' := wr r_4) hx hb rfl (tgt := 23) (kX12_at (i := 9) rfl) (by decide) (fun c_6 => ?_) (fun c_6 => ?_)
      · have h := it_f c_6 h
        refine lv_aload_n hx hb (kX12_at (i := 12) rfl) rfl (lv_at hl 0 rfl) ?_
        refine x_iload_n hx hb (kX12_at (i := 13) rfl) rfl (lv_at hl 1 rfl) ?_
        obtain ⟨r_7, g_9, hc_8, h⟩ := bd2_some h
        refine x_callV (n := 1) (As := [vi a0]) (rest := []) C hM (tX12_levelAt l Θ a0 h0 g r_7 g_9 hc_8) (x_recvM C hM 0 (by decide) (eM_0 Θ _) rfl rfl) q_c_X12_levelAt q_mX12_214 q_i_X12_levelAt q_e_X12_levelAt q_n_X12 (by decide +kernel) ⟨by decide, by decide⟩ rfl hl.1 rfl (Nat.le_of_ble_eq_true rfl) (kX12_at (i := 14) rfl) (fun H locs hM => ?_)
        refine x_istore_n (lv' := [(3, vi r_7), (0, .ref (Θ.2.2.2 0)), (1, vi a0), (2, vi a1)]) hx hb (kX12_at (i := 15) rfl) rfl hl (by decide) rfl (fun ls hl => ?_)
        refine x_iload_n hx hb (kX12_at (i := 16) rfl) rfl (lv_at hl 0 rfl) ?_
        refine x_ldc (n := (-2147483648)) hx hb hown (hts _ q_kX12_205) (kX12_at (i := 17) rfl) ?_
        refine x_icmp_ne (a' := wr r_7) (b' := (-2147483648)) hx hb rfl (by decide) (tgt := 40) (kX12_at (i := 18) rfl) (by decide) (fun c_10 => ?_) (fun c_10 => ?_)
        · have h := it_f c_10 h
          refine x_iload_n hx hb (kX12_at (i := 21) rfl) rfl (lv_at hl 3 rfl) ?_
          refine x_if_ne (a' := wr a1) hx hb rfl (tgt := 48) (kX12_at (i := 22) rfl) (by decide) (fun c_11 => ?_) (fun c_11 => ?_)
          · have h := it_f c_11 h
            refine x_iload_n hx hb (kX12_at (i := 25) rfl) rfl (lv_at hl 3 rfl) ?_
            refine x_iconst hx hb (kX12_at (i := 26) rfl) ?_
            refine x_icmp_ne (a' := wr a1) (b' := 1) hx hb rfl (by decide) (tgt := 60) (kX12_at (i := 27) rfl) (by decide) (fun c_12 => ?_) (fun c_12 => ?_)
            · have h := it_f c_12 h
              refine lv_aload_n hx hb (kX12_at (i := 31) rfl) rfl (lv_at hl 1 rfl) ?_
              refine x_iconst hx hb (kX12_at (i := 32) rfl) ?_
              refine x_iload_n hx hb (kX12_at (i := 33) rfl) rfl (lv_at hl 2 rfl) ?_
              obtain ⟨r_13, hc_14, h⟩ := bd_some h
              refine x_callV (n := 2) (As := [vi 0, vi a0]) (rest := []) C hM (tX12_armAt l Θ 0 a0 h0 g_9 r_13 hc_14) (x_recvM C hM 0 (by decide) (eM_0 Θ _) rfl rfl) q_c_X12_armAt q_mX12_218 q_i_X12_armAt q_e_X12_armAt q_n_X12 (by decide +kernel) ⟨by decide, by decide⟩ rfl hl.1 rfl (Nat.le_of_ble_eq_true rfl) (kX12_at (i := 34) rfl) (fun H locs hM => ?_)
              refine x_l2i hx hb (kX12_at (i := 35) rfl) ?_
              obtain ⟨q1, q2⟩ := ret2 h
              rw [q1, q2]
              exact x_iret C hM (nar_i _) (kX12_at (i := 36) rfl)
            · have h := it_t c_12 h
              refine lv_aload_n hx hb (kX12_at (i := 28) rfl) rfl (lv_at hl 1 rfl) ?_
              refine gX12_pushes C hM q_fX12_194 (kX12_at (i := 29) rfl) ?_
              refine lv_goto (tgt := 67) hx hb (kX12_at (i := 30) rfl) (by decide) ?_
              obtain ⟨q1, q2⟩ := ret2 h
              rw [q1, q2]
              exact x_iret C hM (nar_i _) (kX12_at (i := 36) rfl)
          · have h := it_t c_11 h
            refine x_iload_n hx hb (kX12_at (i := 23) rfl) rfl (lv_at hl 0 rfl) ?_
            refine lv_goto (tgt := 67) hx hb (kX12_at (i := 24) rfl) (by decide) ?_
            obtain ⟨q1, q2⟩ := ret2 h
            rw [q1, q2]
            exact x_iret C hM (nar_i _) (kX12_at (i := 36) rfl)
        · have h := it_t c_10 h
          refine x_ldc (n := (-2147483648)) hx hb hown (hts _ q_kX12_205) (kX12_at (i := 19) rfl) ?_
          refine lv_goto (tgt := 67) hx hb (kX12_at (i := 20) rfl) (by decide) ?_
          obtain ⟨q1, q2⟩ := ret2 h
          rw [q1, q2]
          exact x_iret C hM (nar_i _) (kX12_at (i := 36) rfl)
      · have h := it_t c_6 h
        refine x_ldc (n := (-2147483648)) hx hb hown (hts _ q_kX12_205) (kX12_at (i := 10) rfl) ?_
        obtain ⟨q1, q2⟩ := ret2 h
        rw [q1, q2]
        exact x_iret C hM (nar_i _) (kX12_at (i := 11) rfl)
  exact key _ _ hM

/-! X12_restOf -/
def fX12_restOf_L3 : Nat → Int → Int → Int → Mem → (Int → Int → Mem → Option (Int × Mem)) → Option (Int × Mem)
  | 0, _, _, _, _, _ => none
  | n + 1, y1, y2, y3, g, K70 =>
    if 80 < wr y3 then (
      K70 y1 y2 g
    ) else (
      bd2 (fX12_levelAt y3 g) fun r_2 g_4 =>
      jn (fun (v_5 : Int) =>
        gd (y3 + 80) 161 <|
        gc (v_5 = 0 ∨ v_5 = 1) <|
        bnd (up g_4 46 (wr (y3 + 80)).toNat v_5) fun g_8 =>
        gd (y3 + 80) 161 <|
        jn (fun (v_10 : Int) =>
          gd (y3 + 80) 161 <|
          bnd (up g_8 45 (wr (y3 + 80)).toNat v_10) fun g_12 =>
          bnd (y3 + 1) fun x_13 =>
          fX12_restOf_L3 n y1 y2 x_13 g_12 K70
        ) fun J63 =>
        if wr (g_8 46 (wr (y3 + 80)).toNat) = 0 then (
          J63 0
        ) else (
          bd (fX12_armAt 0 y3 g_8) fun r_15 =>
          J63 r_15
        )
      ) fun J32 =>
      if wr r_2 = (-2147483648) then (
        J32 0
      ) else (
        J32 1
      )
    )
def fX12_restOf_L75 : Nat → Int → Int → Int → Int → Mem → (Int → Int → Mem → Option (Int × Mem)) → Option (Int × Mem)
  | 0, _, _, _, _, _, _ => none
  | n + 1, y1, y2, y3, y4, g, K155 =>
    if 160 ≤ wr y4 then (
      some ((-2147483648), g)
    ) else (
      if wr y1 < 0 then (
        some ((-2147483648), g)
      ) else (
        gd y4 161 <|
        jn (fun (p_24 : Int) =>
          bnd (y4 + 1) fun x_25 =>
          fX12_restOf_L75 n y1 y2 p_24 x_25 g K155
        ) fun J188 =>
        if wr (g 46 (wr y4).toNat) = 0 then (
          J188 y3
        ) else (
          gd (y4 + 1) 161 <|
          if wr (g 46 (wr (y4 + 1)).toNat) = 0 then (
            J188 y3
          ) else (
            gd y4 161 <|
            jn (fun (v_30 : Int) =>
              gd (y4 + 1) 161 <|
              jn (fun (v_32 : Int) =>
                if wr v_30 = wr v_32 then (
                  J188 y3
                ) else (
                  if wr y3 = 0 then (
                    K155 y2 y4 g
                  ) else (
                    bnd (y3 + (-1)) fun x_35 =>
                    J188 x_35
                  )
                )
              ) fun J145 =>
              if wr (lCmp (g 45 (wr (y4 + 1)).toNat) 0) ≤ 0 then (
                J145 0
              ) else (
                J145 1
              )
            ) fun J126 =>
            if wr (lCmp (g 45 (wr y4).toNat) 0) ≤ 0 then (
              J126 0
            ) else (
              J126 1
            )
          )
        )
      )
    )
def fX12_restOf (a0 : Int) (a1 : Int) (g : Mem) : Option (Int × Mem) :=
  fX12_restOf_L3 fuel a0 a1 (-80) g
  (fun (z_18 : Int) (z_19 : Int) (g_20 : Mem) =>
    fX12_restOf_L75 fuel z_18 z_19 z_18 0 g_20
    (fun (z_38 : Int) (z_39 : Int) (g_40 : Mem) =>
      if wr z_38 = 0 then (
        gd z_39 161 <|
        if wr (lCmp (g_40 45 (wr z_39).toNat) 0) ≤ 0 then (
          some (1, g_40)
        ) else (
          some (0, g_40)
        )
      ) else (
        some (z_39 - 80, g_40)
      )
    )
  )
set_option maxRecDepth 100000 in
set_option maxHeartbeats 4000000 in
theorem wX12_restOf_L3 {p : Program} {l : Launch} {e : Env} {s : State} {m : MethodId} {args : Array Value} {below : List Frame} {meth : Method} {c : Code} {Θ : Th} {h0 : Mem} {rv : Int} {gR : Mem} {K70 : Int → Int → Mem → Option (Int × Mem)} (C : Cx p s m args meth c cX12_restOf 5 RX12 (some .int) Θ) : ∀ (n : Nat) (y1 : Int) (y2 : Int) (y3 : Int) (g : Mem) (H : Heap) (locs : List Loc) (ls : Array Slot), fX12_restOf_L3 n y1 y2 y3 g K70 = some (rv, gR) → (∀ (z1 : Int) (z2 : Int) (gz : Mem) (H : Heap) (locs : List Loc) (ls : Array Slot), K70 z1 z2 gz = some (rv, gR) → Hd Θ s h0 gz H locs → lv_has ls 5 [(0, .ref (Θ.2.2.2 0)), (1, vi z1), (2, vi z2)] → W p l e { frames := 2, cells := 0, slots := 0, locals := 52 } s m args below meth c H locs 0 0 (MQ below (Qx Θ s.heap.size h0 gR (some (vi rv))) args s 0 0 (AA Θ s.heap.size)) (F0 m 70 ls [])) → Hd Θ s h0 g H locs → lv_has ls 5 [(0, .ref (Θ.2.2.2 0)), (1, vi y1), (2, vi y2), (3, vi y3)] → W p l e { frames := 2, cells := 0, slots := 0, locals := 52 } s m args below meth c H locs 0 0 (MQ below (Qx Θ s.heap.size h0 gR (some (vi rv))) args s 0 0 (AA Θ s.heap.size)) (F0 m 3 ls []) := by
  intro n
  obtain ⟨hx, hb, hml, hown, hts, -⟩ := id C
  induction n with
  | zero => intro y1 y2 y3 g H locs ls h; cases h
  | succ n ih =>
    intro y1 y2 y3 g H locs ls h hK70 hM hl
    rw [fX12_restOf_L3] at h
    refine x_iload_n hx hb (kX12_restOf (i := 2) rfl) rfl (lv_at hl 3 rfl) ?_
    refine x_bipush hx hb (by decide) (kX12_restOf (i := 3) rfl) ?_
    refine x_icmp_gt (a' := wr y3) (b' := 80) hx hb rfl (by decide) (tgt := 70) (kX12_restOf (i := 4) rfl) (by decide) (fun c_1 => ?_) (fun c_1 => ?_)
    · have h := it_t c_1 h
      exact hK70 y1 y2 g H locs ls h hM (lv_sub hl [0, 1, 2] rfl)
    · have h := it_f c_1 h
      refine lv_aload_n hx hb (kX12_restOf (i := 5) rfl) rfl (lv_at hl 0 rfl) ?_
      refine gX12_hasArm C hM q_fX12_161 (kX12_restOf (i := 6) rfl) ?_
      refine x_iload_n hx hb (kX12_restOf (i := 7) rfl) rfl (lv_at hl 3 rfl) ?_
      refine x_bipush hx hb (by decide) (kX12_restOf (i := 8) rfl) ?_
      refine x_iadd hx hb (kX12_restOf (i := 9) rfl) ?_
      refine lv_aload_n hx hb (kX12_restOf (i := 10) rfl) rfl (lv_at hl 0 rfl) ?_
      refine x_iload_n hx hb (kX12_restOf (i := 11) rfl) rfl (lv_at hl 3 rfl) ?_
      obtain ⟨r_2, g_4, hc_3, h⟩ := bd2_some h
      refine x_callV (n := 1) (As := [vi y3]) (rest := [vi (y3 + 80), .ref (Θ.2.2.2 46)]) C hM (tX12_levelAt l Θ y3 h0 g r_2 g_4 hc_3) (x_recvM C hM 0 (by decide) (eM_0 Θ _) rfl rfl) q_c_X12_levelAt q_mX12_214 q_i_X12_levelAt q_e_X12_levelAt q_n_X12 (by decide +kernel) ⟨by decide, by decide⟩ rfl hl.1 rfl (Nat.le_of_ble_eq_true rfl) (kX12_restOf (i := 12) rfl) (fun H locs hM => ?_)
      refine x_ldc (n := (-2147483648)) hx hb hown (hts _ q_kX12_205) (kX12_restOf (i := 13) rfl) ?_
      refine jn_go h (fun J32 : Int → Option (Int × Mem) => ∀ (v_5 : Int) (H : Heap) (locs : List Loc) (ls : Array Slot), J32 v_5 = some (rv, gR) → Hd Θ s h0 g_4 H locs → lv_has ls 5 [(0, .ref (Θ.2.2.2 0)), (1, vi y1), (2, vi y2), (3, vi y3)] → W p l e { frames := 2, cells := 0, slots := 0, locals := 52 } s m args below meth c H locs 0 0 (MQ below (Qx Θ s.heap.size h0 gR (some (vi rv))) args s 0 0 (AA Θ s.heap.size)) (F0 m 32 ls [vi v_5, vi (y3 + 80), .ref (Θ.2.2.2 46)])) ?_ ?_
      · intro v_5 H locs ls h hM hl
        obtain ⟨hi_6, h⟩ := gd_some h
        obtain ⟨hz_7, h⟩ := gc_some h
        obtain ⟨g_8, eg_8, h⟩ := bnd_some h
        refine x_zastM C hM 46 (by decide) (eM_46 Θ) hi_6 hz_7 eg_8 (kX12_restOf (i := 18) rfl) (fun H locs hM => ?_)
        refine lv_aload_n hx hb (kX12_restOf (i := 19) rfl) rfl (lv_at hl 0 rfl) ?_
        refine gX12_arms C hM q_fX12_157 (kX12_restOf (i := 20) rfl) ?_
        refine x_iload_n hx hb (kX12_restOf (i := 21) rfl) rfl (lv_at hl 3 rfl) ?_
        refine x_bipush hx hb (by decide) (kX12_restOf (i := 22) rfl) ?_
        refine x_iadd hx hb (kX12_restOf (i := 23) rfl) ?_
        refine lv_aload_n hx hb (kX12_restOf (i := 24) rfl) rfl (lv_at hl 0 rfl) ?_
        refine gX12_hasArm C hM q_fX12_161 (kX12_restOf (i := 25) rfl) ?_
        refine x_iload_n hx hb (kX12_restOf (i := 26) rfl) rfl (lv_at hl 3 rfl) ?_
        refine x_bipush hx hb (by decide) (kX12_restOf (i := 27) rfl) ?_
        refine x_iadd hx hb (kX12_restOf (i := 28) rfl) ?_
        obtain ⟨hi_9, h⟩ := gd_some h
        refine x_zaldM C hM 46 (by decide) (eM_46 Θ) hi_9 (kX12_restOf (i := 29) rfl) ?_
        refine jn_go h (fun J63 : Int → Option (Int × Mem) => ∀ (v_10 : Int) (H : Heap) (locs : List Loc) (ls : Array Slot), J63 v_10 = some (rv, gR) → Hd Θ s h0 g_8 H locs → lv_has ls 5 [(0, .ref (Θ.2.2.2 0)), (1, vi y1), (2, vi y2), (3, vi y3)] → W p l e { frames := 2, cells := 0, slots := 0, locals := 52 } s m args below meth c H locs 0 0 (MQ below (Qx Θ s.heap.size h0 gR (some (vi rv))) args s 0 0 (AA Θ s.heap.size)) (F0 m 63 ls [vl v_10, vi (y3 + 80), .ref (Θ.2.2.2 45)])) ?_ ?_
        · intro v_10 H locs ls h hM hl
          obtain ⟨hi_11, h⟩ := gd_some h
          obtain ⟨g_12, eg_12, h⟩ := bnd_some h
          refine x_lastM C hM 45 (by decide) (eM_45 Θ) hi_11 eg_12 (kX12_restOf (i := 37) rfl) (fun H locs hM => ?_)
          obtain ⟨x_13, ex_13, h⟩ := bnd_some h
          refine x_iinc (k := 3) (lv' := [(3, vi x_13), (0, .ref (Θ.2.2.2 0)), (1, vi y1), (2, vi y2)]) hx hb (kX12_restOf (i := 38) rfl) hl rfl ex_13 (by decide) rfl (fun ls hl => ?_)
          refine lv_goto (tgt := 3) hx hb (kX12_restOf (i := 39) rfl) (by decide) ?_
          exact ih y1 y2 x_13 g_12 H locs ls h hK70 hM (lv_sub hl [1, 2, 3, 0] rfl)
        intro J63 hJ63 h
        refine x_if_eq (a' := wr (g_8 46 (wr (y3 + 80)).toNat)) hx hb rfl (tgt := 62) (kX12_restOf (i := 30) rfl) (by decide) (fun c_14 => ?_) (fun c_14 => ?_)
        · have h := it_t c_14 h
          refine x_lconst (z := 0) hx hb rfl (kX12_restOf (i := 36) rfl) ?_
          exact hJ63 0 H locs ls h hM (lv_sub hl [0, 1, 2, 3] rfl)
        · have h := it_f c_14 h
          refine lv_aload_n hx hb (kX12_restOf (i := 31) rfl) rfl (lv_at hl 0 rfl) ?_
          refine x_iconst hx hb (kX12_restOf (i := 32) rfl) ?_
          refine x_iload_n hx hb (kX12_restOf (i := 33) rfl) rfl (lv_at hl 3 rfl) ?_
          obtain ⟨r_15, hc_16, h⟩ := bd_some h
          refine x_callV (n := 2) (As := [vi 0, vi y3]) (rest := [vi (y3 + 80), .ref (Θ.2.2.2 45)]) C hM (tX12_armAt l Θ 0 y3 h0 g_8 r_15 hc_16) (x_recvM C hM 0 (by decide) (eM_0 Θ _) rfl rfl) q_c_X12_armAt q_mX12_218 q_i_X12_armAt q_e_X12_armAt q_n_X12 (by decide +kernel) ⟨by decide, by decide⟩ rfl hl.1 rfl (Nat.le_of_ble_eq_true rfl) (kX12_restOf (i := 34) rfl) (fun H locs hM => ?_)
          refine lv_goto (tgt := 63) hx hb (kX12_restOf (i := 35) rfl) (by decide) ?_
          exact hJ63 r_15 H locs ls h hM (lv_sub hl [0, 1, 2, 3] rfl)
      intro J32 hJ32 h
      refine x_icmp_eq (a' := wr r_2) (b' := (-2147483648)) hx hb rfl (by decide) (tgt := 31) (kX12_restOf (i := 14) rfl) (by decide) (fun c_17 => ?_) (fun c_17 => ?_)
      · have h := it_t c_17 h
        refine x_iconst hx hb (kX12_restOf (i := 17) rfl) ?_
        exact hJ32 0 H locs ls h hM (lv_sub hl [0, 1, 2, 3] rfl)
      · have h := it_f c_17 h
        refine x_iconst hx hb (kX12_restOf (i := 15) rfl) ?_
        refine lv_goto (tgt := 32) hx hb (kX12_restOf (i := 16) rfl) (by decide) ?_
        exact hJ32 1 H locs ls h hM (lv_sub hl [0, 1, 2, 3] rfl)
set_option maxRecDepth 100000 in
set_option maxHeartbeats 4000000 in
theorem wX12_restOf_L75 {p : Program} {l : Launch} {e : Env} {s : State} {m : MethodId} {args : Array Value} {below : List Frame} {meth : Method} {c : Code} {Θ : Th} {h0 : Mem} {rv : Int} {gR : Mem} {K155 : Int → Int → Mem → Option (Int × Mem)} (C : Cx p s m args meth c cX12_restOf 5 RX12 (some .int) Θ) : ∀ (n : Nat) (y1 : Int) (y2 : Int) (y3 : Int) (y4 : Int) (g : Mem) (H : Heap) (locs : List Loc) (ls : Array Slot), fX12_restOf_L75 n y1 y2 y3 y4 g K155 = some (rv, gR) → (∀ (z2 : Int) (z4 : Int) (gz : Mem) (H : Heap) (locs : List Loc) (ls : Array Slot), K155 z2 z4 gz = some (rv, gR) → Hd Θ s h0 gz H locs → lv_has ls 5 [(0, .ref (Θ.2.2.2 0)), (2, vi z2), (4, vi z4)] → W p l e { frames := 2, cells := 0, slots := 0, locals := 52 } s m args below meth c H locs 0 0 (MQ below (Qx Θ s.heap.size h0 gR (some (vi rv))) args s 0 0 (AA Θ s.heap.size)) (F0 m 155 ls [])) → Hd Θ s h0 g H locs → lv_has ls 5 [(0, .ref (Θ.2.2.2 0)), (1, vi y1), (2, vi y2), (3, vi y3), (4, vi y4)] → W p l e { frames := 2, cells := 0, slots := 0, locals := 52 } s m args below meth c H locs 0 0 (MQ below (Qx Θ s.heap.size h0 gR (some (vi rv))) args s 0 0 (AA Θ s.heap.size)) (F0 m 75 ls []) := by
  intro n
  obtain ⟨hx, hb, hml, hown, hts, -⟩ := id C
  induction n with
  | zero => intro y1 y2 y3 y4 g H locs ls h; cases h
  | succ n ih =>
    intro y1 y2 y3 y4 g H locs ls h hK155 hM hl
    rw [fX12_restOf_L75] at h
    refine x_iload hx hb (kX12_restOf (i := 44) rfl) (lv_at hl 4 rfl) ?_
    refine x_sipush hx hb (by decide) (kX12_restOf (i := 45) rfl) ?_
    refine x_icmp_ge (a' := wr y4) (b' := 160) hx hb rfl (by decide) (tgt := 194) (kX12_restOf (i := 46) rfl) (by decide) (fun c_21 => ?_) (fun c_21 => ?_)
    · have h := it_t c_21 h
      refine x_ldc (n := (-2147483648)) hx hb hown (hts _ q_kX12_205) (kX12_restOf (i := 107) rfl) ?_
      obtain ⟨q1, q2⟩ := ret2 h
      rw [q1, q2]
      exact x_iret C hM (nar_i _) (kX12_restOf (i := 108) rfl)
    · have h := it_f c_21 h
      refine x_iload_n hx hb (kX12_restOf (i := 47) rfl) rfl (lv_at hl 1 rfl) ?_
      refine x_if_lt (a' := wr y1) hx hb rfl (tgt := 194) (kX12_restOf (i := 48) rfl) (by decide) (fun c_22 => ?_) (fun c_22 => ?_)
      · have h := it_t c_22 h
        refine x_ldc (n := (-2147483648)) hx hb hown (hts _ q_kX12_205) (kX12_restOf (i := 107) rfl) ?_
        obtain ⟨q1, q2⟩ := ret2 h
        rw [q1, q2]
        exact x_iret C hM (nar_i _) (kX12_restOf (i := 108) rfl)
      · have h := it_f c_22 h
        refine lv_aload_n hx hb (kX12_restOf (i := 49) rfl) rfl (lv_at hl 0 rfl) ?_
        refine gX12_hasArm C hM q_fX12_161 (kX12_restOf (i := 50) rfl) ?_
        refine x_iload hx hb (kX12_restOf (i := 51) rfl) (lv_at hl 4 rfl) ?_
        obtain ⟨hi_23, h⟩ := gd_some h
        refine x_zaldM C hM 46 (by decide) (eM_46 Θ) hi_23 (kX12_restOf (i := 52) rfl) ?_
        refine jn_go h (fun J188 : Int → Option (Int × Mem) => ∀ (p_24 : Int) (H : Heap) (locs : List Loc) (ls : Array Slot), J188 p_24 = some (rv, gR) → Hd Θ s h0 g H locs → lv_has ls 5 [(0, .ref (Θ.2.2.2 0)), (1, vi y1), (2, vi y2), (3, vi p_24), (4, vi y4)] → W p l e { frames := 2, cells := 0, slots := 0, locals := 52 } s m args below meth c H locs 0 0 (MQ below (Qx Θ s.heap.size h0 gR (some (vi rv))) args s 0 0 (AA Θ s.heap.size)) (F0 m 188 ls [])) ?_ ?_
        · intro p_24 H locs ls h hM hl
          obtain ⟨x_25, ex_25, h⟩ := bnd_some h
          refine x_iinc (k := 4) (lv' := [(4, vi x_25), (0, .ref (Θ.2.2.2 0)), (1, vi y1), (2, vi y2), (3, vi p_24)]) hx hb (kX12_restOf (i := 105) rfl) hl rfl ex_25 (by decide) rfl (fun ls hl => ?_)
          refine lv_goto (tgt := 75) hx hb (kX12_restOf (i := 106) rfl) (by decide) ?_
          exact ih y1 y2 p_24 x_25 g H locs ls h hK155 hM (lv_sub hl [1, 2, 3, 4, 0] rfl)
        intro J188 hJ188 h
        refine x_if_eq (a' := wr (g 46 (wr y4).toNat)) hx hb rfl (tgt := 188) (kX12_restOf (i := 53) rfl) (by decide) (fun c_26 => ?_) (fun c_26 => ?_)
        · have h := it_t c_26 h
          exact hJ188 y3 H locs ls h hM (lv_sub hl [0, 1, 2, 3, 4] rfl)
        · have h := it_f c_26 h
          refine lv_aload_n hx hb (kX12_restOf (i := 54) rfl) rfl (lv_at hl 0 rfl) ?_
          refine gX12_hasArm C hM q_fX12_161 (kX12_restOf (i := 55) rfl) ?_
          refine x_iload hx hb (kX12_restOf (i := 56) rfl) (lv_at hl 4 rfl) ?_
          refine x_iconst hx hb (kX12_restOf (i := 57) rfl) ?_
          refine x_iadd hx hb (kX12_restOf (i := 58) rfl) ?_
          obtain ⟨hi_27, h⟩ := gd_some h
          refine x_zaldM C hM 46 (by decide) (eM_46 Θ) hi_27 (kX12_restOf (i := 59) rfl) ?_
          refine x_if_eq (a' := wr (g 46 (wr (y4 + 1)).toNat)) hx hb rfl (tgt := 188) (kX12_restOf (i := 60) rfl) (by decide) (fun c_28 => ?_) (fun c_28 => ?_)
          · have h := it_t c_28 h
            exact hJ188 y3 H locs ls h hM (lv_sub hl [0, 1, 2, 3, 4] rfl)
          · have h := it_f c_28 h
            refine lv_aload_n hx hb (kX12_restOf (i := 61) rfl) rfl (lv_at hl 0 rfl) ?_
            refine gX12_arms C hM q_fX12_157 (kX12_restOf (i := 62) rfl) ?_
            refine x_iload hx hb (kX12_restOf (i := 63) rfl) (lv_at hl 4 rfl) ?_
            obtain ⟨hi_29, h⟩ := gd_some h
            refine x_laldM C hM 45 (by decide) (eM_45 Θ) hi_29 (kX12_restOf (i := 64) rfl) ?_
            refine x_lconst (z := 0) hx hb rfl (kX12_restOf (i := 65) rfl) ?_
            refine x_lcmp hx hb (kX12_restOf (i := 66) rfl) ?_
            refine jn_go h (fun J126 : Int → Option (Int × Mem) => ∀ (v_30 : Int) (H : Heap) (locs : List Loc) (ls : Array Slot), J126 v_30 = some (rv, gR) → Hd Θ s h0 g H locs → lv_has ls 5 [(0, .ref (Θ.2.2.2 0)), (1, vi y1), (2, vi y2), (3, vi y3), (4, vi y4)] → W p l e { frames := 2, cells := 0, slots := 0, locals := 52 } s m args below meth c H locs 0 0 (MQ below (Qx Θ s.heap.size h0 gR (some (vi rv))) args s 0 0 (AA Θ s.heap.size)) (F0 m 126 ls [vi v_30])) ?_ ?_
            · intro v_30 H locs ls h hM hl
              refine lv_aload_n hx hb (kX12_restOf (i := 71) rfl) rfl (lv_at hl 0 rfl) ?_
              refine gX12_arms C hM q_fX12_157 (kX12_restOf (i := 72) rfl) ?_
              refine x_iload hx hb (kX12_restOf (i := 73) rfl) (lv_at hl 4 rfl) ?_
              refine x_iconst hx hb (kX12_restOf (i := 74) rfl) ?_
              refine x_iadd hx hb (kX12_restOf (i := 75) rfl) ?_
              obtain ⟨hi_31, h⟩ := gd_some h
              refine x_laldM C hM 45 (by decide) (eM_45 Θ) hi_31 (kX12_restOf (i := 76) rfl) ?_
              refine x_lconst (z := 0) hx hb rfl (kX12_restOf (i := 77) rfl) ?_
              refine x_lcmp hx hb (kX12_restOf (i := 78) rfl) ?_
              refine jn_go h (fun J145 : Int → Option (Int × Mem) => ∀ (v_32 : Int) (H : Heap) (locs : List Loc) (ls : Array Slot), J145 v_32 = some (rv, gR) → Hd Θ s h0 g H locs → lv_has ls 5 [(0, .ref (Θ.2.2.2 0)), (1, vi y1), (2, vi y2), (3, vi y3), (4, vi y4)] → W p l e { frames := 2, cells := 0, slots := 0, locals := 52 } s m args below meth c H locs 0 0 (MQ below (Qx Θ s.heap.size h0 gR (some (vi rv))) args s 0 0 (AA Θ s.heap.size)) (F0 m 145 ls [vi v_32, vi v_30])) ?_ ?_
              · intro v_32 H locs ls h hM hl
                refine x_icmp_ne (a' := wr v_30) (b' := wr v_32) hx hb rfl rfl (tgt := 151) (kX12_restOf (i := 83) rfl) (by decide) (fun c_33 => ?_) (fun c_33 => ?_)
                · have h := it_f c_33 h
                  refine x_iload_n hx hb (kX12_restOf (i := 85) rfl) rfl (lv_at hl 3 rfl) ?_
                  refine x_if_ne (a' := wr y3) hx hb rfl (tgt := 185) (kX12_restOf (i := 86) rfl) (by decide) (fun c_34 => ?_) (fun c_34 => ?_)
                  · have h := it_f c_34 h
                    obtain ⟨x_35, ex_35, h⟩ := bnd_some h
                    refine x_iinc (k := 3) (lv' := [(3, vi x_35), (0, .ref (Θ.2.2.2 0)), (1, vi y1), (2, vi y2), (4, vi y4)]) hx hb (kX12_restOf (i := 104) rfl) hl rfl ex_35 (by decide) rfl (fun ls hl => ?_)
                    exact hJ188 x_35 H locs ls h hM (lv_sub hl [1, 2, 3, 0, 4] rfl)
                  · have h := it_t c_34 h
                    exact hK155 y2 y4 g H locs ls h hM (lv_sub hl [0, 2, 4] rfl)
                · have h := it_t c_33 h
                  refine lv_goto (tgt := 188) hx hb (kX12_restOf (i := 84) rfl) (by decide) ?_
                  exact hJ188 y3 H locs ls h hM (lv_sub hl [0, 1, 2, 3, 4] rfl)
              intro J145 hJ145 h
              refine x_if_le (a' := wr (lCmp (g 45 (wr (y4 + 1)).toNat) 0)) hx hb rfl (tgt := 144) (kX12_restOf (i := 79) rfl) (by decide) (fun c_36 => ?_) (fun c_36 => ?_)
              · have h := it_t c_36 h
                refine x_iconst hx hb (kX12_restOf (i := 82) rfl) ?_
                exact hJ145 0 H locs ls h hM (lv_sub hl [0, 1, 2, 3, 4] rfl)
              · have h := it_f c_36 h
                refine x_iconst hx hb (kX12_restOf (i := 80) rfl) ?_
                refine lv_goto (tgt := 145) hx hb (kX12_restOf (i := 81) rfl) (by decide) ?_
                exact hJ145 1 H locs ls h hM (lv_sub hl [0, 1, 2, 3, 4] rfl)
            intro J126 hJ126 h
            refine x_if_le (a' := wr (lCmp (g 45 (wr y4).toNat) 0)) hx hb rfl (tgt := 125) (kX12_restOf (i := 67) rfl) (by decide) (fun c_37 => ?_) (fun c_37 => ?_)
            · have h := it_t c_37 h
              refine x_iconst hx hb (kX12_restOf (i := 70) rfl) ?_
              exact hJ126 0 H locs ls h hM (lv_sub hl [0, 1, 2, 3, 4] rfl)
            · have h := it_f c_37 h
              refine x_iconst hx hb (kX12_restOf (i := 68) rfl) ?_
              refine lv_goto (tgt := 126) hx hb (kX12_restOf (i := 69) rfl) (by decide) ?_
              exact hJ126 1 H locs ls h hM (lv_sub hl [0, 1, 2, 3, 4] rfl)
set_option maxRecDepth 100000 in
set_option maxHeartbeats 4000000 in
theorem tX12_restOf (l : Launch) (Θ : Th) (a0 : Int) (a1 : Int) (h0 g : Mem) (rv : Int) (gR : Mem) (h : fX12_restOf a0 a1 g = some (rv, gR)) : Ct l yX12_restOf cX12_restOf 5 (some .int) 2 52 Θ [.ref (Θ.2.2.2 0), vi a0, vi a1] h0 g h0 gR (some (vi rv)) := by
  refine x_start (by decide) (Nat.le_of_ble_eq_true rfl) ?_
  intro p e s m args below meth c ls C hM hl
  have hl : lv_has ls 5 [(0, .ref (Θ.2.2.2 0)), (1, vi a0), (2, vi a1)] := hl
  obtain ⟨hx, hb, hml, hown, hts, -⟩ := id C
  unfold fX12_restOf at h
  have key : ∀ (H : Heap) (locs : List Loc), Hd Θ s h0 g H locs → W p l e { frames := 2, cells := 0, slots := 0, locals := 52 } s m args below meth c H locs 0 0 (MQ below (Qx Θ s.heap.size h0 gR (some (vi rv))) args s 0 0 (AA Θ s.heap.size)) (F0 m 0 ls []) := by
    intro H locs hM
    refine x_bipush hx hb (by decide) (kX12_restOf (i := 0) rfl) ?_
    refine x_istore_n (lv' := [(3, vi (-80)), (0, .ref (Θ.2.2.2 0)), (1, vi a0), (2, vi a1)]) hx hb (kX12_restOf (i := 1) rfl) rfl hl (by decide) rfl (fun ls hl => ?_)
    refine wX12_restOf_L3  C fuel a0 a1 (-80) g H locs ls h ?_ hM (lv_sub hl [1, 2, 3, 0] rfl)
    · intro z_18 z_19 g_20 H locs ls h hM hl
      refine x_iload_n hx hb (kX12_restOf (i := 40) rfl) rfl (lv_at hl 1 rfl) ?_
      refine x_istore_n (lv' := [(3, vi z_18), (0, .ref (Θ.2.2.2 0)), (1, vi z_18), (2, vi z_19)]) hx hb (kX12_restOf (i := 41) rfl) rfl hl (by decide) rfl (fun ls hl => ?_)
      refine x_iconst hx hb (kX12_restOf (i := 42) rfl) ?_
      refine x_istore (lv' := [(4, vi 0), (3, vi z_18), (0, .ref (Θ.2.2.2 0)), (1, vi z_18), (2, vi z_19)]) hx hb (kX12_restOf (i := 43) rfl) hl (by decide) rfl (fun ls hl => ?_)
      refine wX12_restOf_L75  C fuel z_18 z_19 z_18 0 g_20 H locs ls h ?_ hM (lv_sub hl [2, 3, 4, 1, 0] rfl)
      · intro z_38 z_39 g_40 H locs ls h hM hl
        refine x_iload_n hx hb (kX12_restOf (i := 87) rfl) rfl (lv_at hl 1 rfl) ?_
        refine x_if_eq (a' := wr z_38) hx hb rfl (tgt := 167) (kX12_restOf (i := 88) rfl) (by decide) (fun c_41 => ?_) (fun c_41 => ?_)
        · have h := it_t c_41 h
          refine lv_aload_n hx hb (kX12_restOf (i := 93) rfl) rfl (lv_at hl 0 rfl) ?_
          refine gX12_arms C hM q_fX12_157 (kX12_restOf (i := 94) rfl) ?_
          refine x_iload hx hb (kX12_restOf (i := 95) rfl) (lv_at hl 2 rfl) ?_
          obtain ⟨hi_42, h⟩ := gd_some h
          refine x_laldM C hM 45 (by decide) (eM_45 Θ) hi_42 (kX12_restOf (i := 96) rfl) ?_
          refine x_lconst (z := 0) hx hb rfl (kX12_restOf (i := 97) rfl) ?_
          refine x_lcmp hx hb (kX12_restOf (i := 98) rfl) ?_
          refine x_if_le (a' := wr (lCmp (g_40 45 (wr z_39).toNat) 0)) hx hb rfl (tgt := 183) (kX12_restOf (i := 99) rfl) (by decide) (fun c_43 => ?_) (fun c_43 => ?_)
          · have h := it_t c_43 h
            refine x_iconst hx hb (kX12_restOf (i := 102) rfl) ?_
            obtain ⟨q1, q2⟩ := ret2 h
            rw [q1, q2]
            exact x_iret C hM (nar_i _) (kX12_restOf (i := 103) rfl)
          · have h := it_f c_43 h
            refine x_iconst hx hb (kX12_restOf (i := 100) rfl) ?_
            refine lv_goto (tgt := 184) hx hb (kX12_restOf (i := 101) rfl) (by decide) ?_
            obtain ⟨q1, q2⟩ := ret2 h
            rw [q1, q2]
            exact x_iret C hM (nar_i _) (kX12_restOf (i := 103) rfl)
        · have h := it_f c_41 h
          refine x_iload hx hb (kX12_restOf (i := 89) rfl) (lv_at hl 2 rfl) ?_
          refine x_bipush hx hb (by decide) (kX12_restOf (i := 90) rfl) ?_
          refine x_isub hx hb (kX12_restOf (i := 91) rfl) ?_
          refine lv_goto (tgt := 184) hx hb (kX12_restOf (i := 92) rfl) (by decide) ?_
          obtain ⟨q1, q2⟩ := ret2 h
          rw [q1, q2]
          exact x_iret C hM (nar_i _) (kX12_restOf (i := 103) rfl)
  exact key _ _ hM

/-! X12_rest -/
def fX12_rest (a0 : Int) (g : Mem) : Option (Int × Mem) :=
  bd2 (fX12_restOf a0 1 g) fun r_1 g_3 =>
  some (r_1, g_3)
set_option maxRecDepth 100000 in
set_option maxHeartbeats 4000000 in
theorem tX12_rest (l : Launch) (Θ : Th) (a0 : Int) (h0 g : Mem) (rv : Int) (gR : Mem) (h : fX12_rest a0 g = some (rv, gR)) : Ct l yX12_rest cX12_rest 2 (some .int) 3 76 Θ [.ref (Θ.2.2.2 0), vi a0] h0 g h0 gR (some (vi rv)) := by
  refine x_start (by decide) (Nat.le_of_ble_eq_true rfl) ?_
  intro p e s m args below meth c ls C hM hl
  have hl : lv_has ls 2 [(0, .ref (Θ.2.2.2 0)), (1, vi a0)] := hl
  obtain ⟨hx, hb, hml, hown, hts, -⟩ := id C
  unfold fX12_rest at h
  have key : ∀ (H : Heap) (locs : List Loc), Hd Θ s h0 g H locs → W p l e { frames := 3, cells := 0, slots := 0, locals := 76 } s m args below meth c H locs 0 0 (MQ below (Qx Θ s.heap.size h0 gR (some (vi rv))) args s 0 0 (AA Θ s.heap.size)) (F0 m 0 ls []) := by
    intro H locs hM
    refine lv_aload_n hx hb (kX12_rest (i := 0) rfl) rfl (lv_at hl 0 rfl) ?_
    refine x_iload_n hx hb (kX12_rest (i := 1) rfl) rfl (lv_at hl 1 rfl) ?_
    refine x_iconst hx hb (kX12_rest (i := 2) rfl) ?_
    obtain ⟨r_1, g_3, hc_2, h⟩ := bd2_some h
    refine x_callV (n := 2) (As := [vi a0, vi 1]) (rest := []) C hM (tX12_restOf l Θ a0 1 h0 g r_1 g_3 hc_2) (x_recvM C hM 0 (by decide) (eM_0 Θ _) rfl rfl) q_c_X12_restOf q_mX12_222 q_i_X12_restOf q_e_X12_restOf q_n_X12 (by decide +kernel) ⟨by decide, by decide⟩ rfl hl.1 rfl (Nat.le_of_ble_eq_true rfl) (kX12_rest (i := 3) rfl) (fun H locs hM => ?_)
    obtain ⟨q1, q2⟩ := ret2 h
    rw [q1, q2]
    exact x_iret C hM (nar_i _) (kX12_rest (i := 4) rfl)
  exact key _ _ hM

/-! X12_stays -/
def fX12_stays (a0 : Int) (g : Mem) : Option (Int × Mem) :=
  bd2 (fX12_restOf a0 0 g) fun r_1 g_3 =>
  if wr r_1 = (-2147483648) then (
    some ((-1), g_3)
  ) else (
    some (r_1, g_3)
  )
set_option maxRecDepth 100000 in
set_option maxHeartbeats 4000000 in
theorem tX12_stays (l : Launch) (Θ : Th) (a0 : Int) (h0 g : Mem) (rv : Int) (gR : Mem) (h : fX12_stays a0 g = some (rv, gR)) : Ct l yX12_stays cX12_stays 3 (some .int) 3 76 Θ [.ref (Θ.2.2.2 0), vi a0] h0 g h0 gR (some (vi rv)) := by
  refine x_start (by decide) (Nat.le_of_ble_eq_true rfl) ?_
  intro p e s m args below meth c ls C hM hl
  have hl : lv_has ls 3 [(0, .ref (Θ.2.2.2 0)), (1, vi a0)] := hl
  obtain ⟨hx, hb, hml, hown, hts, -⟩ := id C
  unfold fX12_stays at h
  have key : ∀ (H : Heap) (locs : List Loc), Hd Θ s h0 g H locs → W p l e { frames := 3, cells := 0, slots := 0, locals := 76 } s m args below meth c H locs 0 0 (MQ below (Qx Θ s.heap.size h0 gR (some (vi rv))) args s 0 0 (AA Θ s.heap.size)) (F0 m 0 ls []) := by
    intro H locs hM
    refine lv_aload_n hx hb (kX12_stays (i := 0) rfl) rfl (lv_at hl 0 rfl) ?_
    refine x_iload_n hx hb (kX12_stays (i := 1) rfl) rfl (lv_at hl 1 rfl) ?_
    refine x_iconst hx hb (kX12_stays (i := 2) rfl) ?_
    obtain ⟨r_1, g_3, hc_2, h⟩ := bd2_some h
    refine x_callV (n := 2) (As := [vi a0, vi 0]) (rest := []) C hM (tX12_restOf l Θ a0 0 h0 g r_1 g_3 hc_2) (x_recvM C hM 0 (by decide) (eM_0 Θ _) rfl rfl) q_c_X12_restOf q_mX12_222 q_i_X12_restOf q_e_X12_restOf q_n_X12 (by decide +kernel) ⟨by decide, by decide⟩ rfl hl.1 rfl (Nat.le_of_ble_eq_true rfl) (kX12_stays (i := 3) rfl) (fun H locs hM => ?_)
    refine x_istore_n (lv' := [(2, vi r_1), (0, .ref (Θ.2.2.2 0)), (1, vi a0)]) hx hb (kX12_stays (i := 4) rfl) rfl hl (by decide) rfl (fun ls hl => ?_)
    refine x_iload_n hx hb (kX12_stays (i := 5) rfl) rfl (lv_at hl 0 rfl) ?_
    refine x_ldc (n := (-2147483648)) hx hb hown (hts _ q_kX12_205) (kX12_stays (i := 6) rfl) ?_
    refine x_icmp_ne (a' := wr r_1) (b' := (-2147483648)) hx hb rfl (by decide) (tgt := 17) (kX12_stays (i := 7) rfl) (by decide) (fun c_4 => ?_) (fun c_4 => ?_)
    · have h := it_f c_4 h
      refine x_iload_n hx hb (kX12_stays (i := 10) rfl) rfl (lv_at hl 0 rfl) ?_
      obtain ⟨q1, q2⟩ := ret2 h
      rw [q1, q2]
      exact x_iret C hM (nar_i _) (kX12_stays (i := 11) rfl)
    · have h := it_t c_4 h
      refine x_iconst hx hb (kX12_stays (i := 8) rfl) ?_
      refine lv_goto (tgt := 18) hx hb (kX12_stays (i := 9) rfl) (by decide) ?_
      obtain ⟨q1, q2⟩ := ret2 h
      rw [q1, q2]
      exact x_iret C hM (nar_i _) (kX12_stays (i := 11) rfl)
  exact key _ _ hM

/-! X12_wave -/
def fX12_wave (a0 : Int) (a1 : Int) (a2 : Int) (g : Mem) : Option (Int × Mem) :=
  bd (fX12_in a0 1 60) fun r_1 =>
  if wr r_1 = 0 then (
    some ((-1), g)
  ) else (
    bd (fX12_in a1 4 64) fun r_4 =>
    if wr r_4 = 0 then (
      some ((-1), g)
    ) else (
      bd (fX12_in a2 0 15) fun r_7 =>
      if wr r_7 = 0 then (
        some ((-1), g)
      ) else (
        if wr (g 0 18) = 8 then (
          some ((-1), g)
        ) else (
          gd (g 0 18) 8 <|
          bnd (up g 15 (wr (g 0 18)).toNat a0) fun g_12 =>
          gd (g_12 0 18) 8 <|
          bnd (up g_12 16 (wr (g_12 0 18)).toNat a1) fun g_14 =>
          gd (g_14 0 18) 8 <|
          bnd (up g_14 17 (wr (g_14 0 18)).toNat a2) fun g_16 =>
          bnd (up g_16 0 18 ((g_16 0 18) + 1)) fun g_17 =>
          some ((g_17 0 18) - 1, g_17)
        )
      )
    )
  )
set_option maxRecDepth 100000 in
set_option maxHeartbeats 4000000 in
theorem tX12_wave (l : Launch) (Θ : Th) (a0 : Int) (a1 : Int) (a2 : Int) (h0 g : Mem) (rv : Int) (gR : Mem) (h : fX12_wave a0 a1 a2 g = some (rv, gR)) : Ct l yX12_wave cX12_wave 4 (some .int) 1 22 Θ [.ref (Θ.2.2.2 0), vi a0, vi a1, vi a2] h0 g h0 gR (some (vi rv)) := by
  refine x_start (by decide) (Nat.le_of_ble_eq_true rfl) ?_
  intro p e s m args below meth c ls C hM hl
  have hl : lv_has ls 4 [(0, .ref (Θ.2.2.2 0)), (1, vi a0), (2, vi a1), (3, vi a2)] := hl
  obtain ⟨hx, hb, hml, hown, hts, -⟩ := id C
  unfold fX12_wave at h
  have key : ∀ (H : Heap) (locs : List Loc), Hd Θ s h0 g H locs → W p l e { frames := 1, cells := 0, slots := 0, locals := 22 } s m args below meth c H locs 0 0 (MQ below (Qx Θ s.heap.size h0 gR (some (vi rv))) args s 0 0 (AA Θ s.heap.size)) (F0 m 0 ls []) := by
    intro H locs hM
    refine x_iload_n hx hb (kX12_wave (i := 0) rfl) rfl (lv_at hl 1 rfl) ?_
    refine x_iconst hx hb (kX12_wave (i := 1) rfl) ?_
    refine x_bipush hx hb (by decide) (kX12_wave (i := 2) rfl) ?_
    obtain ⟨r_1, hc_2, h⟩ := bd_some h
    refine x_callS (n := 3) (As := [vi a0, vi 1, vi 60]) (rest := []) C hM (tX12_in l Θ a0 1 60 h0 g r_1 hc_2) q_c_X12_in q_mX12_173 q_s_X12_in q_n_X12 (by decide +kernel) ⟨by decide, by decide⟩ rfl hl.1 rfl (Nat.le_of_ble_eq_true rfl) (kX12_wave (i := 3) rfl) (fun H locs hM => ?_)
    refine x_if_eq (a' := wr r_1) hx hb rfl (tgt := 39) (kX12_wave (i := 4) rfl) (by decide) (fun c_3 => ?_) (fun c_3 => ?_)
    · have h := it_t c_3 h
      refine x_iconst hx hb (kX12_wave (i := 19) rfl) ?_
      obtain ⟨q1, q2⟩ := ret2 h
      rw [q1, q2]
      exact x_iret C hM (nar_i _) (kX12_wave (i := 20) rfl)
    · have h := it_f c_3 h
      refine x_iload_n hx hb (kX12_wave (i := 5) rfl) rfl (lv_at hl 2 rfl) ?_
      refine x_iconst hx hb (kX12_wave (i := 6) rfl) ?_
      refine x_bipush hx hb (by decide) (kX12_wave (i := 7) rfl) ?_
      obtain ⟨r_4, hc_5, h⟩ := bd_some h
      refine x_callS (n := 3) (As := [vi a1, vi 4, vi 64]) (rest := []) C hM (tX12_in l Θ a1 4 64 h0 g r_4 hc_5) q_c_X12_in q_mX12_173 q_s_X12_in q_n_X12 (by decide +kernel) ⟨by decide, by decide⟩ rfl hl.1 rfl (Nat.le_of_ble_eq_true rfl) (kX12_wave (i := 8) rfl) (fun H locs hM => ?_)
      refine x_if_eq (a' := wr r_4) hx hb rfl (tgt := 39) (kX12_wave (i := 9) rfl) (by decide) (fun c_6 => ?_) (fun c_6 => ?_)
      · have h := it_t c_6 h
        refine x_iconst hx hb (kX12_wave (i := 19) rfl) ?_
        obtain ⟨q1, q2⟩ := ret2 h
        rw [q1, q2]
        exact x_iret C hM (nar_i _) (kX12_wave (i := 20) rfl)
      · have h := it_f c_6 h
        refine x_iload_n hx hb (kX12_wave (i := 10) rfl) rfl (lv_at hl 3 rfl) ?_
        refine x_iconst hx hb (kX12_wave (i := 11) rfl) ?_
        refine x_bipush hx hb (by decide) (kX12_wave (i := 12) rfl) ?_
        obtain ⟨r_7, hc_8, h⟩ := bd_some h
        refine x_callS (n := 3) (As := [vi a2, vi 0, vi 15]) (rest := []) C hM (tX12_in l Θ a2 0 15 h0 g r_7 hc_8) q_c_X12_in q_mX12_173 q_s_X12_in q_n_X12 (by decide +kernel) ⟨by decide, by decide⟩ rfl hl.1 rfl (Nat.le_of_ble_eq_true rfl) (kX12_wave (i := 13) rfl) (fun H locs hM => ?_)
        refine x_if_eq (a' := wr r_7) hx hb rfl (tgt := 39) (kX12_wave (i := 14) rfl) (by decide) (fun c_9 => ?_) (fun c_9 => ?_)
        · have h := it_t c_9 h
          refine x_iconst hx hb (kX12_wave (i := 19) rfl) ?_
          obtain ⟨q1, q2⟩ := ret2 h
          rw [q1, q2]
          exact x_iret C hM (nar_i _) (kX12_wave (i := 20) rfl)
        · have h := it_f c_9 h
          refine lv_aload_n hx hb (kX12_wave (i := 15) rfl) rfl (lv_at hl 0 rfl) ?_
          refine gX12_waves C hM q_fX12_226 (kX12_wave (i := 16) rfl) ?_
          refine x_bipush hx hb (by decide) (kX12_wave (i := 17) rfl) ?_
          refine x_icmp_ne (a' := wr (g 0 18)) (b' := 8) hx hb rfl (by decide) (tgt := 41) (kX12_wave (i := 18) rfl) (by decide) (fun c_10 => ?_) (fun c_10 => ?_)
          · have h := it_f c_10 h
            refine lv_aload_n hx hb (kX12_wave (i := 21) rfl) rfl (lv_at hl 0 rfl) ?_
            refine gX12_waveHeight C hM q_fX12_53 (kX12_wave (i := 22) rfl) ?_
            refine lv_aload_n hx hb (kX12_wave (i := 23) rfl) rfl (lv_at hl 0 rfl) ?_
            refine gX12_waves C hM q_fX12_226 (kX12_wave (i := 24) rfl) ?_
            refine x_iload_n hx hb (kX12_wave (i := 25) rfl) rfl (lv_at hl 1 rfl) ?_
            obtain ⟨hi_11, h⟩ := gd_some h
            obtain ⟨g_12, eg_12, h⟩ := bnd_some h
            refine x_iastM C hM 15 (by decide) (eM_15 Θ) hi_11 eg_12 (kX12_wave (i := 26) rfl) (fun H locs hM => ?_)
            refine lv_aload_n hx hb (kX12_wave (i := 27) rfl) rfl (lv_at hl 0 rfl) ?_
            refine gX12_wavePeriod C hM q_fX12_56 (kX12_wave (i := 28) rfl) ?_
            refine lv_aload_n hx hb (kX12_wave (i := 29) rfl) rfl (lv_at hl 0 rfl) ?_
            refine gX12_waves C hM q_fX12_226 (kX12_wave (i := 30) rfl) ?_
            refine x_iload_n hx hb (kX12_wave (i := 31) rfl) rfl (lv_at hl 2 rfl) ?_
            obtain ⟨hi_13, h⟩ := gd_some h
            obtain ⟨g_14, eg_14, h⟩ := bnd_some h
            refine x_iastM C hM 16 (by decide) (eM_16 Θ) hi_13 eg_14 (kX12_wave (i := 32) rfl) (fun H locs hM => ?_)
            refine lv_aload_n hx hb (kX12_wave (i := 33) rfl) rfl (lv_at hl 0 rfl) ?_
            refine gX12_wavePhase C hM q_fX12_59 (kX12_wave (i := 34) rfl) ?_
            refine lv_aload_n hx hb (kX12_wave (i := 35) rfl) rfl (lv_at hl 0 rfl) ?_
            refine gX12_waves C hM q_fX12_226 (kX12_wave (i := 36) rfl) ?_
            refine x_iload_n hx hb (kX12_wave (i := 37) rfl) rfl (lv_at hl 3 rfl) ?_
            obtain ⟨hi_15, h⟩ := gd_some h
            obtain ⟨g_16, eg_16, h⟩ := bnd_some h
            refine x_iastM C hM 17 (by decide) (eM_17 Θ) hi_15 eg_16 (kX12_wave (i := 38) rfl) (fun H locs hM => ?_)
            refine lv_aload_n hx hb (kX12_wave (i := 39) rfl) rfl (lv_at hl 0 rfl) ?_
            refine lv_dup hx hb (kX12_wave (i := 40) rfl) rfl ?_
            refine gX12_waves C hM q_fX12_226 (kX12_wave (i := 41) rfl) ?_
            refine x_iconst hx hb (kX12_wave (i := 42) rfl) ?_
            refine x_iadd hx hb (kX12_wave (i := 43) rfl) ?_
            obtain ⟨g_17, eg_17, h⟩ := bnd_some h
            refine pX12_waves C hM q_fX12_226 eg_17 (kX12_wave (i := 44) rfl) (fun H locs hM => ?_)
            refine lv_aload_n hx hb (kX12_wave (i := 45) rfl) rfl (lv_at hl 0 rfl) ?_
            refine gX12_waves C hM q_fX12_226 (kX12_wave (i := 46) rfl) ?_
            refine x_iconst hx hb (kX12_wave (i := 47) rfl) ?_
            refine x_isub hx hb (kX12_wave (i := 48) rfl) ?_
            obtain ⟨q1, q2⟩ := ret2 h
            rw [q1, q2]
            exact x_iret C hM (nar_i _) (kX12_wave (i := 49) rfl)
          · have h := it_t c_10 h
            refine x_iconst hx hb (kX12_wave (i := 19) rfl) ?_
            obtain ⟨q1, q2⟩ := ret2 h
            rw [q1, q2]
            exact x_iret C hM (nar_i _) (kX12_wave (i := 20) rfl)
  exact key _ _ hM

/-! X12_sineOf -/
def fX12_sineOf (a0 : Int) (a1 : Int) (g : Mem) : Option (Int) :=
  gd a0 8 <|
  gc (¬ wr (g 16 (wr a0).toNat) = 0) <|
  gd a0 8 <|
  gd (Int.tmod (wr ((Int.tdiv (wr (16 * a1)) (wr (g 16 (wr a0).toNat))) + (g 17 (wr a0).toNat))) (16)) 16 <|
  some (g 1 (wr (Int.tmod (wr ((Int.tdiv (wr (16 * a1)) (wr (g 16 (wr a0).toNat))) + (g 17 (wr a0).toNat))) (16))).toNat)
set_option maxRecDepth 100000 in
set_option maxHeartbeats 4000000 in
theorem tX12_sineOf (l : Launch) (Θ : Th) (a0 : Int) (a1 : Int) (h0 g : Mem) (rv : Int) (h : fX12_sineOf a0 a1 g = some rv) : Ct l yX12_sineOf cX12_sineOf 3 (some .int) 0 0 Θ [.ref (Θ.2.2.2 0), vi a0, vi a1] h0 g h0 g (some (vi rv)) := by
  refine x_start (by decide) (Nat.le_of_ble_eq_true rfl) ?_
  intro p e s m args below meth c ls C hM hl
  have hl : lv_has ls 3 [(0, .ref (Θ.2.2.2 0)), (1, vi a0), (2, vi a1)] := hl
  obtain ⟨hx, hb, hml, hown, hts, -⟩ := id C
  unfold fX12_sineOf at h
  have key : ∀ (H : Heap) (locs : List Loc), Hd Θ s h0 g H locs → W p l e { frames := 0, cells := 0, slots := 0, locals := 0 } s m args below meth c H locs 0 0 (MQ below (Qx Θ s.heap.size h0 g (some (vi rv))) args s 0 0 (AA Θ s.heap.size)) (F0 m 0 ls []) := by
    intro H locs hM
    refine lv_aload_n hx hb (kX12_sineOf (i := 0) rfl) rfl (lv_at hl 0 rfl) ?_
    refine gX12_sines C hM q_fX12_7 (kX12_sineOf (i := 1) rfl) ?_
    refine x_bipush hx hb (by decide) (kX12_sineOf (i := 2) rfl) ?_
    refine x_iload_n hx hb (kX12_sineOf (i := 3) rfl) rfl (lv_at hl 2 rfl) ?_
    refine x_imul hx hb (kX12_sineOf (i := 4) rfl) ?_
    refine lv_aload_n hx hb (kX12_sineOf (i := 5) rfl) rfl (lv_at hl 0 rfl) ?_
    refine gX12_wavePeriod C hM q_fX12_56 (kX12_sineOf (i := 6) rfl) ?_
    refine x_iload_n hx hb (kX12_sineOf (i := 7) rfl) rfl (lv_at hl 1 rfl) ?_
    obtain ⟨hi_1, h⟩ := gd_some h
    refine x_ialdM C hM 16 (by decide) (eM_16 Θ) hi_1 (kX12_sineOf (i := 8) rfl) ?_
    obtain ⟨hz_2, h⟩ := gc_some h
    refine x_idiv (a' := wr (16 * a1)) (b' := wr (g 16 (wr a0).toNat)) hx hb (kX12_sineOf (i := 9) rfl) rfl rfl hz_2 ?_
    refine lv_aload_n hx hb (kX12_sineOf (i := 10) rfl) rfl (lv_at hl 0 rfl) ?_
    refine gX12_wavePhase C hM q_fX12_59 (kX12_sineOf (i := 11) rfl) ?_
    refine x_iload_n hx hb (kX12_sineOf (i := 12) rfl) rfl (lv_at hl 1 rfl) ?_
    obtain ⟨hi_3, h⟩ := gd_some h
    refine x_ialdM C hM 17 (by decide) (eM_17 Θ) hi_3 (kX12_sineOf (i := 13) rfl) ?_
    refine x_iadd hx hb (kX12_sineOf (i := 14) rfl) ?_
    refine x_bipush hx hb (by decide) (kX12_sineOf (i := 15) rfl) ?_
    refine x_irem (a' := wr ((Int.tdiv (wr (16 * a1)) (wr (g 16 (wr a0).toNat))) + (g 17 (wr a0).toNat))) (b' := 16) hx hb (kX12_sineOf (i := 16) rfl) rfl (by decide) (by decide) ?_
    obtain ⟨hi_4, h⟩ := gd_some h
    refine x_ialdM C hM 1 (by decide) (eM_1 Θ) hi_4 (kX12_sineOf (i := 17) rfl) ?_
    rw [← Option.some.inj h]
    exact x_iret C hM (nar_i _) (kX12_sineOf (i := 18) rfl)
  exact key _ _ hM

/-! X12_seaIn -/
def fX12_seaIn_L4 : Nat → Int → Int → Int → Mem → Option (Int)
  | 0, _, _, _, _ => none
  | n + 1, y1, y2, y3, g =>
    if wr (g 0 18) ≤ wr y3 then (
      some y2
    ) else (
      gd y3 8 <|
      bd (fX12_sineOf y3 y1 g) fun r_3 =>
      bnd (y2 + (Int.tdiv (wr ((g 15 (wr y3).toNat) * r_3)) (1000))) fun x_5 =>
      bnd (y3 + 1) fun x_6 =>
      fX12_seaIn_L4 n y1 x_5 x_6 g
    )
def fX12_seaIn (a0 : Int) (g : Mem) : Option (Int) :=
  fX12_seaIn_L4 fuel a0 0 0 g
set_option maxRecDepth 100000 in
set_option maxHeartbeats 4000000 in
theorem wX12_seaIn_L4 {p : Program} {l : Launch} {e : Env} {s : State} {m : MethodId} {args : Array Value} {below : List Frame} {meth : Method} {c : Code} {Θ : Th} {h0 : Mem} {g : Mem} {rv : Int} (C : Cx p s m args meth c cX12_seaIn 4 RX12 (some .int) Θ) : ∀ (n : Nat) (y1 : Int) (y2 : Int) (y3 : Int) (H : Heap) (locs : List Loc) (ls : Array Slot), fX12_seaIn_L4 n y1 y2 y3 g = some rv → Hd Θ s h0 g H locs → lv_has ls 4 [(0, .ref (Θ.2.2.2 0)), (1, vi y1), (2, vi y2), (3, vi y3)] → W p l e { frames := 1, cells := 0, slots := 0, locals := 22 } s m args below meth c H locs 0 0 (MQ below (Qx Θ s.heap.size h0 g (some (vi rv))) args s 0 0 (AA Θ s.heap.size)) (F0 m 4 ls []) := by
  intro n
  obtain ⟨hx, hb, hml, hown, hts, -⟩ := id C
  induction n with
  | zero => intro y1 y2 y3 H locs ls h; cases h
  | succ n ih =>
    intro y1 y2 y3 H locs ls h  hM hl
    rw [fX12_seaIn_L4] at h
    refine x_iload_n hx hb (kX12_seaIn (i := 4) rfl) rfl (lv_at hl 3 rfl) ?_
    refine lv_aload_n hx hb (kX12_seaIn (i := 5) rfl) rfl (lv_at hl 0 rfl) ?_
    refine gX12_waves C hM q_fX12_226 (kX12_seaIn (i := 6) rfl) ?_
    refine x_icmp_ge (a' := wr y3) (b' := wr (g 0 18)) hx hb rfl rfl (tgt := 38) (kX12_seaIn (i := 7) rfl) (by decide) (fun c_1 => ?_) (fun c_1 => ?_)
    · have h := it_t c_1 h
      refine x_iload_n hx hb (kX12_seaIn (i := 24) rfl) rfl (lv_at hl 2 rfl) ?_
      rw [← Option.some.inj h]
      exact x_iret C hM (nar_i _) (kX12_seaIn (i := 25) rfl)
    · have h := it_f c_1 h
      refine x_iload_n hx hb (kX12_seaIn (i := 8) rfl) rfl (lv_at hl 2 rfl) ?_
      refine lv_aload_n hx hb (kX12_seaIn (i := 9) rfl) rfl (lv_at hl 0 rfl) ?_
      refine gX12_waveHeight C hM q_fX12_53 (kX12_seaIn (i := 10) rfl) ?_
      refine x_iload_n hx hb (kX12_seaIn (i := 11) rfl) rfl (lv_at hl 3 rfl) ?_
      obtain ⟨hi_2, h⟩ := gd_some h
      refine x_ialdM C hM 15 (by decide) (eM_15 Θ) hi_2 (kX12_seaIn (i := 12) rfl) ?_
      refine lv_aload_n hx hb (kX12_seaIn (i := 13) rfl) rfl (lv_at hl 0 rfl) ?_
      refine x_iload_n hx hb (kX12_seaIn (i := 14) rfl) rfl (lv_at hl 3 rfl) ?_
      refine x_iload_n hx hb (kX12_seaIn (i := 15) rfl) rfl (lv_at hl 1 rfl) ?_
      obtain ⟨r_3, hc_4, h⟩ := bd_some h
      refine x_callV (n := 2) (As := [vi y3, vi y1]) (rest := [vi (g 15 (wr y3).toNat), vi y2]) C hM (tX12_sineOf l Θ y3 y1 h0 g r_3 hc_4) (x_recvM C hM 0 (by decide) (eM_0 Θ _) rfl rfl) q_c_X12_sineOf q_mX12_229 q_i_X12_sineOf q_e_X12_sineOf q_n_X12 (by decide +kernel) ⟨by decide, by decide⟩ rfl hl.1 rfl (Nat.le_of_ble_eq_true rfl) (kX12_seaIn (i := 16) rfl) (fun H locs hM => ?_)
      refine x_imul hx hb (kX12_seaIn (i := 17) rfl) ?_
      refine x_sipush hx hb (by decide) (kX12_seaIn (i := 18) rfl) ?_
      refine x_idiv (a' := wr ((g 15 (wr y3).toNat) * r_3)) (b' := 1000) hx hb (kX12_seaIn (i := 19) rfl) rfl (by decide) (by decide) ?_
      refine x_iadd hx hb (kX12_seaIn (i := 20) rfl) ?_
      obtain ⟨x_5, ex_5, h⟩ := bnd_some h
      refine x_top ex_5 ?_
      refine x_istore_n (lv' := [(2, vi x_5), (0, .ref (Θ.2.2.2 0)), (1, vi y1), (3, vi y3)]) hx hb (kX12_seaIn (i := 21) rfl) rfl hl (by decide) rfl (fun ls hl => ?_)
      obtain ⟨x_6, ex_6, h⟩ := bnd_some h
      refine x_iinc (k := 3) (lv' := [(3, vi x_6), (2, vi x_5), (0, .ref (Θ.2.2.2 0)), (1, vi y1)]) hx hb (kX12_seaIn (i := 22) rfl) hl rfl ex_6 (by decide) rfl (fun ls hl => ?_)
      refine lv_goto (tgt := 4) hx hb (kX12_seaIn (i := 23) rfl) (by decide) ?_
      exact ih y1 x_5 x_6 H locs ls h hM (lv_sub hl [2, 3, 1, 0] rfl)
set_option maxRecDepth 100000 in
set_option maxHeartbeats 4000000 in
theorem tX12_seaIn (l : Launch) (Θ : Th) (a0 : Int) (h0 g : Mem) (rv : Int) (h : fX12_seaIn a0 g = some rv) : Ct l yX12_seaIn cX12_seaIn 4 (some .int) 1 22 Θ [.ref (Θ.2.2.2 0), vi a0] h0 g h0 g (some (vi rv)) := by
  refine x_start (by decide) (Nat.le_of_ble_eq_true rfl) ?_
  intro p e s m args below meth c ls C hM hl
  have hl : lv_has ls 4 [(0, .ref (Θ.2.2.2 0)), (1, vi a0)] := hl
  obtain ⟨hx, hb, hml, hown, hts, -⟩ := id C
  unfold fX12_seaIn at h
  have key : ∀ (H : Heap) (locs : List Loc), Hd Θ s h0 g H locs → W p l e { frames := 1, cells := 0, slots := 0, locals := 22 } s m args below meth c H locs 0 0 (MQ below (Qx Θ s.heap.size h0 g (some (vi rv))) args s 0 0 (AA Θ s.heap.size)) (F0 m 0 ls []) := by
    intro H locs hM
    refine x_iconst hx hb (kX12_seaIn (i := 0) rfl) ?_
    refine x_istore_n (lv' := [(2, vi 0), (0, .ref (Θ.2.2.2 0)), (1, vi a0)]) hx hb (kX12_seaIn (i := 1) rfl) rfl hl (by decide) rfl (fun ls hl => ?_)
    refine x_iconst hx hb (kX12_seaIn (i := 2) rfl) ?_
    refine x_istore_n (lv' := [(3, vi 0), (2, vi 0), (0, .ref (Θ.2.2.2 0)), (1, vi a0)]) hx hb (kX12_seaIn (i := 3) rfl) rfl hl (by decide) rfl (fun ls hl => ?_)
    refine wX12_seaIn_L4  C fuel a0 0 0 H locs ls h  hM (lv_sub hl [2, 3, 1, 0] rfl)
  exact key _ _ hM

/-! X12_sea -/
def fX12_sea (a0 : Int) (g : Mem) : Option (Int) :=
  bd (fX12_in a0 0 599) fun r_1 =>
  if wr r_1 = 0 then (
    some (-2147483648)
  ) else (
    bd (fX12_seaIn a0 g) fun r_4 =>
    some r_4
  )
set_option maxRecDepth 100000 in
set_option maxHeartbeats 4000000 in
theorem tX12_sea (l : Launch) (Θ : Th) (a0 : Int) (h0 g : Mem) (rv : Int) (h : fX12_sea a0 g = some rv) : Ct l yX12_sea cX12_sea 2 (some .int) 2 45 Θ [.ref (Θ.2.2.2 0), vi a0] h0 g h0 g (some (vi rv)) := by
  refine x_start (by decide) (Nat.le_of_ble_eq_true rfl) ?_
  intro p e s m args below meth c ls C hM hl
  have hl : lv_has ls 2 [(0, .ref (Θ.2.2.2 0)), (1, vi a0)] := hl
  obtain ⟨hx, hb, hml, hown, hts, -⟩ := id C
  unfold fX12_sea at h
  have key : ∀ (H : Heap) (locs : List Loc), Hd Θ s h0 g H locs → W p l e { frames := 2, cells := 0, slots := 0, locals := 45 } s m args below meth c H locs 0 0 (MQ below (Qx Θ s.heap.size h0 g (some (vi rv))) args s 0 0 (AA Θ s.heap.size)) (F0 m 0 ls []) := by
    intro H locs hM
    refine x_iload_n hx hb (kX12_sea (i := 0) rfl) rfl (lv_at hl 1 rfl) ?_
    refine x_iconst hx hb (kX12_sea (i := 1) rfl) ?_
    refine x_sipush hx hb (by decide) (kX12_sea (i := 2) rfl) ?_
    obtain ⟨r_1, hc_2, h⟩ := bd_some h
    refine x_callS (n := 3) (As := [vi a0, vi 0, vi 599]) (rest := []) C hM (tX12_in l Θ a0 0 599 h0 g r_1 hc_2) q_c_X12_in q_mX12_173 q_s_X12_in q_n_X12 (by decide +kernel) ⟨by decide, by decide⟩ rfl hl.1 rfl (Nat.le_of_ble_eq_true rfl) (kX12_sea (i := 3) rfl) (fun H locs hM => ?_)
    refine x_if_eq (a' := wr r_1) hx hb rfl (tgt := 19) (kX12_sea (i := 4) rfl) (by decide) (fun c_3 => ?_) (fun c_3 => ?_)
    · have h := it_t c_3 h
      refine x_ldc (n := (-2147483648)) hx hb hown (hts _ q_kX12_205) (kX12_sea (i := 9) rfl) ?_
      rw [← Option.some.inj h]
      exact x_iret C hM (nar_i _) (kX12_sea (i := 10) rfl)
    · have h := it_f c_3 h
      refine lv_aload_n hx hb (kX12_sea (i := 5) rfl) rfl (lv_at hl 0 rfl) ?_
      refine x_iload_n hx hb (kX12_sea (i := 6) rfl) rfl (lv_at hl 1 rfl) ?_
      obtain ⟨r_4, hc_5, h⟩ := bd_some h
      refine x_callV (n := 1) (As := [vi a0]) (rest := []) C hM (tX12_seaIn l Θ a0 h0 g r_4 hc_5) (x_recvM C hM 0 (by decide) (eM_0 Θ _) rfl rfl) q_c_X12_seaIn q_mX12_233 q_i_X12_seaIn q_e_X12_seaIn q_n_X12 (by decide +kernel) ⟨by decide, by decide⟩ rfl hl.1 rfl (Nat.le_of_ble_eq_true rfl) (kX12_sea (i := 7) rfl) (fun H locs hM => ?_)
      refine lv_goto (tgt := 21) hx hb (kX12_sea (i := 8) rfl) (by decide) ?_
      rw [← Option.some.inj h]
      exact x_iret C hM (nar_i _) (kX12_sea (i := 10) rfl)
  exact key _ _ hM

/-! X12_set -/
def fX12_set (a0 : Int) (a1 : Int) (g : Mem) : Option (Int × Mem) :=
  jn (fun (v_1 : Int) =>
    jn (fun (v_2 : Int) =>
      bd (fX12_in a0 0 3) fun r_3 =>
      if wr r_3 = 0 then (
        some (0, g)
      ) else (
        bd (fX12_in a1 v_1 v_2) fun r_6 =>
        if wr r_6 = 0 then (
          some (0, g)
        ) else (
          if wr a0 = 0 then (
            bnd (up g 0 22 a1) fun g_15 =>
            some (1, g_15)
          ) else (
            if wr a0 = 1 then (
              bnd (up g 0 23 a1) fun g_14 =>
              some (1, g_14)
            ) else (
              if wr a0 = 2 then (
                bnd (up g 0 24 a1) fun g_13 =>
                some (1, g_13)
              ) else (
                bnd (up g 0 25 a1) fun g_12 =>
                some (1, g_12)
              )
            )
          )
        )
      )
    ) fun J36 =>
    if wr a0 = 0 then (
      J36 1000000
    ) else (
      if wr a0 = 3 then (
        J36 9
      ) else (
        J36 50
      )
    )
  ) fun J14 =>
  jn (fun (_ : Unit) =>
    J14 1
  ) fun J9 =>
  if wr a0 = 0 then (
    J9 ()
  ) else (
    if wr a0 = 2 then (
      J9 ()
    ) else (
      J14 0
    )
  )
set_option maxRecDepth 100000 in
set_option maxHeartbeats 4000000 in
theorem tX12_set (l : Launch) (Θ : Th) (a0 : Int) (a1 : Int) (h0 g : Mem) (rv : Int) (gR : Mem) (h : fX12_set a0 a1 g = some (rv, gR)) : Ct l yX12_set cX12_set 5 (some .boolean) 1 22 Θ [.ref (Θ.2.2.2 0), vi a0, vi a1] h0 g h0 gR (some (vi rv)) := by
  refine x_start (by decide) (Nat.le_of_ble_eq_true rfl) ?_
  intro p e s m args below meth c ls C hM hl
  have hl : lv_has ls 5 [(0, .ref (Θ.2.2.2 0)), (1, vi a0), (2, vi a1)] := hl
  obtain ⟨hx, hb, hml, hown, hts, -⟩ := id C
  unfold fX12_set at h
  have key : ∀ (H : Heap) (locs : List Loc), Hd Θ s h0 g H locs → W p l e { frames := 1, cells := 0, slots := 0, locals := 22 } s m args below meth c H locs 0 0 (MQ below (Qx Θ s.heap.size h0 gR (some (vi rv))) args s 0 0 (AA Θ s.heap.size)) (F0 m 0 ls []) := by
    intro H locs hM
    refine x_iload_n hx hb (kX12_set (i := 0) rfl) rfl (lv_at hl 1 rfl) ?_
    refine jn_go h (fun J14 : Int → Option (Int × Mem) => ∀ (v_1 : Int) (H : Heap) (locs : List Loc) (ls : Array Slot), J14 v_1 = some (rv, gR) → Hd Θ s h0 g H locs → lv_has ls 5 [(0, .ref (Θ.2.2.2 0)), (1, vi a0), (2, vi a1)] → W p l e { frames := 1, cells := 0, slots := 0, locals := 22 } s m args below meth c H locs 0 0 (MQ below (Qx Θ s.heap.size h0 gR (some (vi rv))) args s 0 0 (AA Θ s.heap.size)) (F0 m 14 ls [vi v_1])) ?_ ?_
    · intro v_1 H locs ls h hM hl
      refine x_istore_n (lv' := [(3, vi v_1), (0, .ref (Θ.2.2.2 0)), (1, vi a0), (2, vi a1)]) hx hb (kX12_set (i := 8) rfl) rfl hl (by decide) rfl (fun ls hl => ?_)
      refine x_iload_n hx hb (kX12_set (i := 9) rfl) rfl (lv_at hl 2 rfl) ?_
      refine jn_go h (fun J36 : Int → Option (Int × Mem) => ∀ (v_2 : Int) (H : Heap) (locs : List Loc) (ls : Array Slot), J36 v_2 = some (rv, gR) → Hd Θ s h0 g H locs → lv_has ls 5 [(0, .ref (Θ.2.2.2 0)), (1, vi a0), (2, vi a1), (3, vi v_1)] → W p l e { frames := 1, cells := 0, slots := 0, locals := 22 } s m args below meth c H locs 0 0 (MQ below (Qx Θ s.heap.size h0 gR (some (vi rv))) args s 0 0 (AA Θ s.heap.size)) (F0 m 36 ls [vi v_2])) ?_ ?_
      · intro v_2 H locs ls h hM hl
        refine x_istore (lv' := [(4, vi v_2), (0, .ref (Θ.2.2.2 0)), (1, vi a0), (2, vi a1), (3, vi v_1)]) hx hb (kX12_set (i := 19) rfl) hl (by decide) rfl (fun ls hl => ?_)
        refine x_iload_n hx hb (kX12_set (i := 20) rfl) rfl (lv_at hl 2 rfl) ?_
        refine x_iconst hx hb (kX12_set (i := 21) rfl) ?_
        refine x_iconst hx hb (kX12_set (i := 22) rfl) ?_
        obtain ⟨r_3, hc_4, h⟩ := bd_some h
        refine x_callS (n := 3) (As := [vi a0, vi 0, vi 3]) (rest := []) C hM (tX12_in l Θ a0 0 3 h0 g r_3 hc_4) q_c_X12_in q_mX12_173 q_s_X12_in q_n_X12 (by decide +kernel) ⟨by decide, by decide⟩ rfl hl.1 rfl (Nat.le_of_ble_eq_true rfl) (kX12_set (i := 23) rfl) (fun H locs hM => ?_)
        refine x_if_eq (a' := wr r_3) hx hb rfl (tgt := 57) (kX12_set (i := 24) rfl) (by decide) (fun c_5 => ?_) (fun c_5 => ?_)
        · have h := it_t c_5 h
          refine x_iconst hx hb (kX12_set (i := 30) rfl) ?_
          obtain ⟨q1, q2⟩ := ret2 h
          rw [q1, q2]
          exact x_iret C hM (nar_z (Or.inl rfl)) (kX12_set (i := 31) rfl)
        · have h := it_f c_5 h
          refine x_iload_n hx hb (kX12_set (i := 25) rfl) rfl (lv_at hl 3 rfl) ?_
          refine x_iload_n hx hb (kX12_set (i := 26) rfl) rfl (lv_at hl 4 rfl) ?_
          refine x_iload hx hb (kX12_set (i := 27) rfl) (lv_at hl 0 rfl) ?_
          obtain ⟨r_6, hc_7, h⟩ := bd_some h
          refine x_callS (n := 3) (As := [vi a1, vi v_1, vi v_2]) (rest := []) C hM (tX12_in l Θ a1 v_1 v_2 h0 g r_6 hc_7) q_c_X12_in q_mX12_173 q_s_X12_in q_n_X12 (by decide +kernel) ⟨by decide, by decide⟩ rfl hl.1 rfl (Nat.le_of_ble_eq_true rfl) (kX12_set (i := 28) rfl) (fun H locs hM => ?_)
          refine x_if_ne (a' := wr r_6) hx hb rfl (tgt := 59) (kX12_set (i := 29) rfl) (by decide) (fun c_8 => ?_) (fun c_8 => ?_)
          · have h := it_f c_8 h
            refine x_iload_n hx hb (kX12_set (i := 32) rfl) rfl (lv_at hl 2 rfl) ?_
            refine x_if_ne (a' := wr a0) hx hb rfl (tgt := 71) (kX12_set (i := 33) rfl) (by decide) (fun c_9 => ?_) (fun c_9 => ?_)
            · have h := it_f c_9 h
              refine x_iload_n hx hb (kX12_set (i := 38) rfl) rfl (lv_at hl 2 rfl) ?_
              refine x_iconst hx hb (kX12_set (i := 39) rfl) ?_
              refine x_icmp_ne (a' := wr a0) (b' := 1) hx hb rfl (by decide) (tgt := 84) (kX12_set (i := 40) rfl) (by decide) (fun c_10 => ?_) (fun c_10 => ?_)
              · have h := it_f c_10 h
                refine x_iload_n hx hb (kX12_set (i := 45) rfl) rfl (lv_at hl 2 rfl) ?_
                refine x_iconst hx hb (kX12_set (i := 46) rfl) ?_
                refine x_icmp_ne (a' := wr a0) (b' := 2) hx hb rfl (by decide) (tgt := 97) (kX12_set (i := 47) rfl) (by decide) (fun c_11 => ?_) (fun c_11 => ?_)
                · have h := it_f c_11 h
                  refine lv_aload_n hx hb (kX12_set (i := 52) rfl) rfl (lv_at hl 1 rfl) ?_
                  refine x_iload_n hx hb (kX12_set (i := 53) rfl) rfl (lv_at hl 3 rfl) ?_
                  obtain ⟨g_12, eg_12, h⟩ := bnd_some h
                  refine pX12_fins C hM q_fX12_237 eg_12 (kX12_set (i := 54) rfl) (fun H locs hM => ?_)
                  refine x_iconst hx hb (kX12_set (i := 55) rfl) ?_
                  obtain ⟨q1, q2⟩ := ret2 h
                  rw [q1, q2]
                  exact x_iret C hM (nar_z (Or.inr rfl)) (kX12_set (i := 56) rfl)
                · have h := it_t c_11 h
                  refine lv_aload_n hx hb (kX12_set (i := 48) rfl) rfl (lv_at hl 1 rfl) ?_
                  refine x_iload_n hx hb (kX12_set (i := 49) rfl) rfl (lv_at hl 3 rfl) ?_
                  obtain ⟨g_13, eg_13, h⟩ := bnd_some h
                  refine pX12_inert C hM q_fX12_69 eg_13 (kX12_set (i := 50) rfl) (fun H locs hM => ?_)
                  refine lv_goto (tgt := 102) hx hb (kX12_set (i := 51) rfl) (by decide) ?_
                  refine x_iconst hx hb (kX12_set (i := 55) rfl) ?_
                  obtain ⟨q1, q2⟩ := ret2 h
                  rw [q1, q2]
                  exact x_iret C hM (nar_z (Or.inr rfl)) (kX12_set (i := 56) rfl)
              · have h := it_t c_10 h
                refine lv_aload_n hx hb (kX12_set (i := 41) rfl) rfl (lv_at hl 1 rfl) ?_
                refine x_iload_n hx hb (kX12_set (i := 42) rfl) rfl (lv_at hl 3 rfl) ?_
                obtain ⟨g_14, eg_14, h⟩ := bnd_some h
                refine pX12_slow C hM q_fX12_66 eg_14 (kX12_set (i := 43) rfl) (fun H locs hM => ?_)
                refine lv_goto (tgt := 102) hx hb (kX12_set (i := 44) rfl) (by decide) ?_
                refine x_iconst hx hb (kX12_set (i := 55) rfl) ?_
                obtain ⟨q1, q2⟩ := ret2 h
                rw [q1, q2]
                exact x_iret C hM (nar_z (Or.inr rfl)) (kX12_set (i := 56) rfl)
            · have h := it_t c_9 h
              refine lv_aload_n hx hb (kX12_set (i := 34) rfl) rfl (lv_at hl 1 rfl) ?_
              refine x_iload_n hx hb (kX12_set (i := 35) rfl) rfl (lv_at hl 3 rfl) ?_
              obtain ⟨g_15, eg_15, h⟩ := bnd_some h
              refine pX12_stiff C hM q_fX12_62 eg_15 (kX12_set (i := 36) rfl) (fun H locs hM => ?_)
              refine lv_goto (tgt := 102) hx hb (kX12_set (i := 37) rfl) (by decide) ?_
              refine x_iconst hx hb (kX12_set (i := 55) rfl) ?_
              obtain ⟨q1, q2⟩ := ret2 h
              rw [q1, q2]
              exact x_iret C hM (nar_z (Or.inr rfl)) (kX12_set (i := 56) rfl)
          · have h := it_t c_8 h
            refine x_iconst hx hb (kX12_set (i := 30) rfl) ?_
            obtain ⟨q1, q2⟩ := ret2 h
            rw [q1, q2]
            exact x_iret C hM (nar_z (Or.inl rfl)) (kX12_set (i := 31) rfl)
      intro J36 hJ36 h
      refine x_if_ne (a' := wr a0) hx hb rfl (tgt := 24) (kX12_set (i := 10) rfl) (by decide) (fun c_16 => ?_) (fun c_16 => ?_)
      · have h := it_f c_16 h
        refine x_iload_n hx hb (kX12_set (i := 13) rfl) rfl (lv_at hl 2 rfl) ?_
        refine x_iconst hx hb (kX12_set (i := 14) rfl) ?_
        refine x_icmp_ne (a' := wr a0) (b' := 3) hx hb rfl (by decide) (tgt := 34) (kX12_set (i := 15) rfl) (by decide) (fun c_17 => ?_) (fun c_17 => ?_)
        · have h := it_f c_17 h
          refine x_bipush hx hb (by decide) (kX12_set (i := 18) rfl) ?_
          exact hJ36 50 H locs ls h hM (lv_sub hl [1, 2, 3, 0] rfl)
        · have h := it_t c_17 h
          refine x_bipush hx hb (by decide) (kX12_set (i := 16) rfl) ?_
          refine lv_goto (tgt := 36) hx hb (kX12_set (i := 17) rfl) (by decide) ?_
          exact hJ36 9 H locs ls h hM (lv_sub hl [1, 2, 3, 0] rfl)
      · have h := it_t c_16 h
        refine x_ldc (n := 1000000) hx hb hown (hts _ q_kX12_236) (kX12_set (i := 11) rfl) ?_
        refine lv_goto (tgt := 36) hx hb (kX12_set (i := 12) rfl) (by decide) ?_
        exact hJ36 1000000 H locs ls h hM (lv_sub hl [1, 2, 3, 0] rfl)
    intro J14 hJ14 h
    refine jn_go h (fun J9 : Unit → Option (Int × Mem) => ∀ (H : Heap) (locs : List Loc) (ls : Array Slot), J9 () = some (rv, gR) → Hd Θ s h0 g H locs → lv_has ls 5 [(0, .ref (Θ.2.2.2 0)), (1, vi a0), (2, vi a1)] → W p l e { frames := 1, cells := 0, slots := 0, locals := 22 } s m args below meth c H locs 0 0 (MQ below (Qx Θ s.heap.size h0 gR (some (vi rv))) args s 0 0 (AA Θ s.heap.size)) (F0 m 9 ls [])) ?_ ?_
    · intro  H locs ls h hM hl
      refine x_iconst hx hb (kX12_set (i := 5) rfl) ?_
      refine lv_goto (tgt := 14) hx hb (kX12_set (i := 6) rfl) (by decide) ?_
      exact hJ14 1 H locs ls h hM (lv_sub hl [0, 1, 2] rfl)
    intro J9 hJ9 h
    refine x_if_eq (a' := wr a0) hx hb rfl (tgt := 9) (kX12_set (i := 1) rfl) (by decide) (fun c_18 => ?_) (fun c_18 => ?_)
    · have h := it_t c_18 h
      exact hJ9 H locs ls h hM (lv_sub hl [0, 1, 2] rfl)
    · have h := it_f c_18 h
      refine x_iload_n hx hb (kX12_set (i := 2) rfl) rfl (lv_at hl 1 rfl) ?_
      refine x_iconst hx hb (kX12_set (i := 3) rfl) ?_
      refine x_icmp_ne (a' := wr a0) (b' := 2) hx hb rfl (by decide) (tgt := 13) (kX12_set (i := 4) rfl) (by decide) (fun c_19 => ?_) (fun c_19 => ?_)
      · have h := it_f c_19 h
        refine x_iconst hx hb (kX12_set (i := 7) rfl) ?_
        exact hJ14 0 H locs ls h hM (lv_sub hl [0, 1, 2] rfl)
      · have h := it_t c_19 h
        exact hJ9 H locs ls h hM (lv_sub hl [0, 1, 2] rfl)
  exact key _ _ hM

/-! X12_slides -/
def fX12_slides_L2 : Nat → Int → Int → Mem → Option (Mem)
  | 0, _, _, _ => none
  | n + 1, y1, y2, g =>
    if wr (g 0 4) ≤ wr y2 then (
      some g
    ) else (
      bnd ((12 * y1) + y2) fun x_2 =>
      gd y2 12 <|
      jn (fun (g_4 : Mem) =>
        bnd (y2 + 1) fun x_5 =>
        fX12_slides_L2 n y1 x_5 g_4
      ) fun J112 =>
      if wr (g 8 (wr y2).toNat) = 0 then (
        gd y2 12 <|
        if wr (g 7 (wr y2).toNat) = (-1) then (
          J112 g
        ) else (
          gd y1 2 <|
          gd y2 12 <|
          jn (fun (g_11 : Mem) =>
            gd y1 2 <|
            gd y2 12 <|
            if wr (-(g_11 7 (wr y2).toNat)) ≤ wr (g_11 19 (wr y1).toNat) then (
              J112 g_11
            ) else (
              gd x_2 24 <|
              if wr (g_11 18 (wr x_2).toNat) ≤ (-19) then (
                J112 g_11
              ) else (
                gd x_2 24 <|
                gd x_2 24 <|
                bnd (up g_11 18 (wr x_2).toNat ((g_11 18 (wr x_2).toNat) - 1)) fun g_19 =>
                J112 g_19
              )
            )
          ) fun J75 =>
          if wr (g 19 (wr y1).toNat) ≤ wr (g 7 (wr y2).toNat) then (
            J75 g
          ) else (
            gd x_2 24 <|
            if 19 ≤ wr (g 18 (wr x_2).toNat) then (
              J75 g
            ) else (
              gd x_2 24 <|
              gd x_2 24 <|
              bnd (up g 18 (wr x_2).toNat ((g 18 (wr x_2).toNat) + 1)) fun g_25 =>
              J75 g_25
            )
          )
        )
      ) else (
        J112 g
      )
    )
def fX12_slides (a0 : Int) (g : Mem) : Option (Mem) :=
  fX12_slides_L2 fuel a0 0 g
set_option maxRecDepth 100000 in
set_option maxHeartbeats 4000000 in
theorem wX12_slides_L2 {p : Program} {l : Launch} {e : Env} {s : State} {m : MethodId} {args : Array Value} {below : List Frame} {meth : Method} {c : Code} {Θ : Th} {h0 : Mem} {gR : Mem} (C : Cx p s m args meth c cX12_slides 4 RX12 none Θ) : ∀ (n : Nat) (y1 : Int) (y2 : Int) (g : Mem) (H : Heap) (locs : List Loc) (ls : Array Slot), fX12_slides_L2 n y1 y2 g = some gR → Hd Θ s h0 g H locs → lv_has ls 4 [(0, .ref (Θ.2.2.2 0)), (1, vi y1), (2, vi y2)] → W p l e { frames := 0, cells := 0, slots := 0, locals := 0 } s m args below meth c H locs 0 0 (MQ below (Qx Θ s.heap.size h0 gR none) args s 0 0 (AA Θ s.heap.size)) (F0 m 2 ls []) := by
  intro n
  obtain ⟨hx, hb, hml, hown, hts, -⟩ := id C
  induction n with
  | zero => intro y1 y2 g H locs ls h; cases h
  | succ n ih =>
    intro y1 y2 g H locs ls h  hM hl
    rw [fX12_slides_L2] at h
    refine x_iload_n hx hb (kX12_slides (i := 2) rfl) rfl (lv_at hl 2 rfl) ?_
    refine lv_aload_n hx hb (kX12_slides (i := 3) rfl) rfl (lv_at hl 0 rfl) ?_
    refine gX12_weights C hM q_fX12_181 (kX12_slides (i := 4) rfl) ?_
    refine x_icmp_ge (a' := wr y2) (b' := wr (g 0 4)) hx hb rfl rfl (tgt := 118) (kX12_slides (i := 5) rfl) (by decide) (fun c_1 => ?_) (fun c_1 => ?_)
    · have h := it_t c_1 h
      rw [← Option.some.inj h]
      exact x_vret C hM (kX12_slides (i := 73) rfl)
    · have h := it_f c_1 h
      refine x_bipush hx hb (by decide) (kX12_slides (i := 6) rfl) ?_
      refine x_iload_n hx hb (kX12_slides (i := 7) rfl) rfl (lv_at hl 1 rfl) ?_
      refine x_imul hx hb (kX12_slides (i := 8) rfl) ?_
      refine x_iload_n hx hb (kX12_slides (i := 9) rfl) rfl (lv_at hl 2 rfl) ?_
      refine x_iadd hx hb (kX12_slides (i := 10) rfl) ?_
      obtain ⟨x_2, ex_2, h⟩ := bnd_some h
      refine x_top ex_2 ?_
      refine x_istore_n (lv' := [(3, vi x_2), (0, .ref (Θ.2.2.2 0)), (1, vi y1), (2, vi y2)]) hx hb (kX12_slides (i := 11) rfl) rfl hl (by decide) rfl (fun ls hl => ?_)
      refine lv_aload_n hx hb (kX12_slides (i := 12) rfl) rfl (lv_at hl 1 rfl) ?_
      refine gX12_isLost C hM q_fX12_31 (kX12_slides (i := 13) rfl) ?_
      refine x_iload_n hx hb (kX12_slides (i := 14) rfl) rfl (lv_at hl 3 rfl) ?_
      obtain ⟨hi_3, h⟩ := gd_some h
      refine x_zaldM C hM 8 (by decide) (eM_8 Θ) hi_3 (kX12_slides (i := 15) rfl) ?_
      refine jn_go h (fun J112 : Mem → Option (Mem) => ∀ (g_4 : Mem) (H : Heap) (locs : List Loc) (ls : Array Slot), J112 g_4 = some gR → Hd Θ s h0 g_4 H locs → lv_has ls 4 [(0, .ref (Θ.2.2.2 0)), (1, vi y1), (2, vi y2)] → W p l e { frames := 0, cells := 0, slots := 0, locals := 0 } s m args below meth c H locs 0 0 (MQ below (Qx Θ s.heap.size h0 gR none) args s 0 0 (AA Θ s.heap.size)) (F0 m 112 ls [])) ?_ ?_
      · intro g_4 H locs ls h hM hl
        obtain ⟨x_5, ex_5, h⟩ := bnd_some h
        refine x_iinc (k := 2) (lv' := [(2, vi x_5), (0, .ref (Θ.2.2.2 0)), (1, vi y1)]) hx hb (kX12_slides (i := 71) rfl) hl rfl ex_5 (by decide) rfl (fun ls hl => ?_)
        refine lv_goto (tgt := 2) hx hb (kX12_slides (i := 72) rfl) (by decide) ?_
        exact ih y1 x_5 g_4 H locs ls h hM (lv_sub hl [1, 2, 0] rfl)
      intro J112 hJ112 h
      refine x_if_ne (a' := wr (g 8 (wr y2).toNat)) hx hb rfl (tgt := 112) (kX12_slides (i := 16) rfl) (by decide) (fun c_6 => ?_) (fun c_6 => ?_)
      · have h := it_f c_6 h
        exact hJ112 g H locs ls h hM (lv_sub hl [1, 2, 3] rfl)
      · have h := it_t c_6 h
        refine lv_aload_n hx hb (kX12_slides (i := 17) rfl) rfl (lv_at hl 1 rfl) ?_
        refine gX12_loose C hM q_fX12_28 (kX12_slides (i := 18) rfl) ?_
        refine x_iload_n hx hb (kX12_slides (i := 19) rfl) rfl (lv_at hl 3 rfl) ?_
        obtain ⟨hi_7, h⟩ := gd_some h
        refine x_ialdM C hM 7 (by decide) (eM_7 Θ) hi_7 (kX12_slides (i := 20) rfl) ?_
        refine x_iconst hx hb (kX12_slides (i := 21) rfl) ?_
        refine x_icmp_ne (a' := wr (g 7 (wr y2).toNat)) (b' := (-1)) hx hb rfl (by decide) (tgt := 39) (kX12_slides (i := 22) rfl) (by decide) (fun c_8 => ?_) (fun c_8 => ?_)
        · have h := it_f c_8 h
          refine lv_aload_n hx hb (kX12_slides (i := 24) rfl) rfl (lv_at hl 1 rfl) ?_
          refine gX12_slope C hM q_fX12_75 (kX12_slides (i := 25) rfl) ?_
          refine x_iload_n hx hb (kX12_slides (i := 26) rfl) rfl (lv_at hl 2 rfl) ?_
          obtain ⟨hi_9, h⟩ := gd_some h
          refine x_ialdM C hM 19 (by decide) (eM_19 Θ) hi_9 (kX12_slides (i := 27) rfl) ?_
          refine lv_aload_n hx hb (kX12_slides (i := 28) rfl) rfl (lv_at hl 1 rfl) ?_
          refine gX12_loose C hM q_fX12_28 (kX12_slides (i := 29) rfl) ?_
          refine x_iload_n hx hb (kX12_slides (i := 30) rfl) rfl (lv_at hl 3 rfl) ?_
          obtain ⟨hi_10, h⟩ := gd_some h
          refine x_ialdM C hM 7 (by decide) (eM_7 Θ) hi_10 (kX12_slides (i := 31) rfl) ?_
          refine jn_go h (fun J75 : Mem → Option (Mem) => ∀ (g_11 : Mem) (H : Heap) (locs : List Loc) (ls : Array Slot), J75 g_11 = some gR → Hd Θ s h0 g_11 H locs → lv_has ls 4 [(0, .ref (Θ.2.2.2 0)), (1, vi y1), (2, vi y2), (3, vi x_2)] → W p l e { frames := 0, cells := 0, slots := 0, locals := 0 } s m args below meth c H locs 0 0 (MQ below (Qx Θ s.heap.size h0 gR none) args s 0 0 (AA Θ s.heap.size)) (F0 m 75 ls [])) ?_ ?_
          · intro g_11 H locs ls h hM hl
            refine lv_aload_n hx hb (kX12_slides (i := 47) rfl) rfl (lv_at hl 0 rfl) ?_
            refine gX12_slope C hM q_fX12_75 (kX12_slides (i := 48) rfl) ?_
            refine x_iload_n hx hb (kX12_slides (i := 49) rfl) rfl (lv_at hl 1 rfl) ?_
            obtain ⟨hi_12, h⟩ := gd_some h
            refine x_ialdM C hM 19 (by decide) (eM_19 Θ) hi_12 (kX12_slides (i := 50) rfl) ?_
            refine lv_aload_n hx hb (kX12_slides (i := 51) rfl) rfl (lv_at hl 0 rfl) ?_
            refine gX12_loose C hM q_fX12_28 (kX12_slides (i := 52) rfl) ?_
            refine x_iload_n hx hb (kX12_slides (i := 53) rfl) rfl (lv_at hl 2 rfl) ?_
            obtain ⟨hi_13, h⟩ := gd_some h
            refine x_ialdM C hM 7 (by decide) (eM_7 Θ) hi_13 (kX12_slides (i := 54) rfl) ?_
            refine x_ineg hx hb (kX12_slides (i := 55) rfl) ?_
            refine x_icmp_ge (a' := wr (g_11 19 (wr y1).toNat)) (b' := wr (-(g_11 7 (wr y2).toNat))) hx hb rfl rfl (tgt := 112) (kX12_slides (i := 56) rfl) (by decide) (fun c_14 => ?_) (fun c_14 => ?_)
            · have h := it_t c_14 h
              exact hJ112 g_11 H locs ls h hM (lv_sub hl [0, 1, 2] rfl)
            · have h := it_f c_14 h
              refine lv_aload_n hx hb (kX12_slides (i := 57) rfl) rfl (lv_at hl 0 rfl) ?_
              refine gX12_place C hM q_fX12_72 (kX12_slides (i := 58) rfl) ?_
              refine x_iload_n hx hb (kX12_slides (i := 59) rfl) rfl (lv_at hl 3 rfl) ?_
              obtain ⟨hi_15, h⟩ := gd_some h
              refine x_ialdM C hM 18 (by decide) (eM_18 Θ) hi_15 (kX12_slides (i := 60) rfl) ?_
              refine x_bipush hx hb (by decide) (kX12_slides (i := 61) rfl) ?_
              refine x_icmp_le (a' := wr (g_11 18 (wr x_2).toNat)) (b' := (-19)) hx hb rfl (by decide) (tgt := 112) (kX12_slides (i := 62) rfl) (by decide) (fun c_16 => ?_) (fun c_16 => ?_)
              · have h := it_t c_16 h
                exact hJ112 g_11 H locs ls h hM (lv_sub hl [0, 1, 2] rfl)
              · have h := it_f c_16 h
                refine lv_aload_n hx hb (kX12_slides (i := 63) rfl) rfl (lv_at hl 0 rfl) ?_
                refine gX12_place C hM q_fX12_72 (kX12_slides (i := 64) rfl) ?_
                refine x_iload_n hx hb (kX12_slides (i := 65) rfl) rfl (lv_at hl 3 rfl) ?_
                refine lv_dup2_11 hx hb (kX12_slides (i := 66) rfl) rfl rfl ?_
                obtain ⟨hi_17, h⟩ := gd_some h
                refine x_ialdM C hM 18 (by decide) (eM_18 Θ) hi_17 (kX12_slides (i := 67) rfl) ?_
                refine x_iconst hx hb (kX12_slides (i := 68) rfl) ?_
                refine x_isub hx hb (kX12_slides (i := 69) rfl) ?_
                obtain ⟨hi_18, h⟩ := gd_some h
                obtain ⟨g_19, eg_19, h⟩ := bnd_some h
                refine x_iastM C hM 18 (by decide) (eM_18 Θ) hi_18 eg_19 (kX12_slides (i := 70) rfl) (fun H locs hM => ?_)
                exact hJ112 g_19 H locs ls h hM (lv_sub hl [0, 1, 2] rfl)
          intro J75 hJ75 h
          refine x_icmp_le (a' := wr (g 19 (wr y1).toNat)) (b' := wr (g 7 (wr y2).toNat)) hx hb rfl rfl (tgt := 75) (kX12_slides (i := 32) rfl) (by decide) (fun c_20 => ?_) (fun c_20 => ?_)
          · have h := it_t c_20 h
            exact hJ75 g H locs ls h hM (lv_sub hl [1, 2, 3, 0] rfl)
          · have h := it_f c_20 h
            refine lv_aload_n hx hb (kX12_slides (i := 33) rfl) rfl (lv_at hl 1 rfl) ?_
            refine gX12_place C hM q_fX12_72 (kX12_slides (i := 34) rfl) ?_
            refine x_iload_n hx hb (kX12_slides (i := 35) rfl) rfl (lv_at hl 0 rfl) ?_
            obtain ⟨hi_21, h⟩ := gd_some h
            refine x_ialdM C hM 18 (by decide) (eM_18 Θ) hi_21 (kX12_slides (i := 36) rfl) ?_
            refine x_bipush hx hb (by decide) (kX12_slides (i := 37) rfl) ?_
            refine x_icmp_ge (a' := wr (g 18 (wr x_2).toNat)) (b' := 19) hx hb rfl (by decide) (tgt := 75) (kX12_slides (i := 38) rfl) (by decide) (fun c_22 => ?_) (fun c_22 => ?_)
            · have h := it_t c_22 h
              exact hJ75 g H locs ls h hM (lv_sub hl [1, 2, 3, 0] rfl)
            · have h := it_f c_22 h
              refine lv_aload_n hx hb (kX12_slides (i := 39) rfl) rfl (lv_at hl 1 rfl) ?_
              refine gX12_place C hM q_fX12_72 (kX12_slides (i := 40) rfl) ?_
              refine x_iload_n hx hb (kX12_slides (i := 41) rfl) rfl (lv_at hl 0 rfl) ?_
              refine lv_dup2_11 hx hb (kX12_slides (i := 42) rfl) rfl rfl ?_
              obtain ⟨hi_23, h⟩ := gd_some h
              refine x_ialdM C hM 18 (by decide) (eM_18 Θ) hi_23 (kX12_slides (i := 43) rfl) ?_
              refine x_iconst hx hb (kX12_slides (i := 44) rfl) ?_
              refine x_iadd hx hb (kX12_slides (i := 45) rfl) ?_
              obtain ⟨hi_24, h⟩ := gd_some h
              obtain ⟨g_25, eg_25, h⟩ := bnd_some h
              refine x_iastM C hM 18 (by decide) (eM_18 Θ) hi_24 eg_25 (kX12_slides (i := 46) rfl) (fun H locs hM => ?_)
              exact hJ75 g_25 H locs ls h hM (lv_sub hl [1, 2, 3, 0] rfl)
        · have h := it_t c_8 h
          refine lv_goto (tgt := 112) hx hb (kX12_slides (i := 23) rfl) (by decide) ?_
          exact hJ112 g H locs ls h hM (lv_sub hl [1, 2, 3] rfl)
set_option maxRecDepth 100000 in
set_option maxHeartbeats 4000000 in
theorem tX12_slides (l : Launch) (Θ : Th) (a0 : Int) (h0 g : Mem) (gR : Mem) (h : fX12_slides a0 g = some gR) : Ct l yX12_slides cX12_slides 4 none 0 0 Θ [.ref (Θ.2.2.2 0), vi a0] h0 g h0 gR none := by
  refine x_start (by decide) (Nat.le_of_ble_eq_true rfl) ?_
  intro p e s m args below meth c ls C hM hl
  have hl : lv_has ls 4 [(0, .ref (Θ.2.2.2 0)), (1, vi a0)] := hl
  obtain ⟨hx, hb, hml, hown, hts, -⟩ := id C
  unfold fX12_slides at h
  have key : ∀ (H : Heap) (locs : List Loc), Hd Θ s h0 g H locs → W p l e { frames := 0, cells := 0, slots := 0, locals := 0 } s m args below meth c H locs 0 0 (MQ below (Qx Θ s.heap.size h0 gR none) args s 0 0 (AA Θ s.heap.size)) (F0 m 0 ls []) := by
    intro H locs hM
    refine x_iconst hx hb (kX12_slides (i := 0) rfl) ?_
    refine x_istore_n (lv' := [(2, vi 0), (0, .ref (Θ.2.2.2 0)), (1, vi a0)]) hx hb (kX12_slides (i := 1) rfl) rfl hl (by decide) rfl (fun ls hl => ?_)
    refine wX12_slides_L2  C fuel a0 0 g H locs ls h  hM (lv_sub hl [1, 2, 0] rfl)
  exact key _ _ hM

/-! X12_of -/
def fX12_of (a0 : Int) (a1 : Int) (a2 : Int) : Option (Int) :=
  if wr a0 = 2 then (
    bd (fX12_bounded ((wr a1) + (wr a2)) 1000000) fun r_2 =>
    some r_2
  ) else (
  if wr a0 = 3 then (
    bd (fX12_bounded ((wr a1) - (wr a2)) 1000000) fun r_5 =>
    some r_5
  ) else (
  if wr a0 = 4 then (
    bd (fX12_bounded ((wr a1) * (wr a2)) 1000000) fun r_8 =>
    some r_8
  ) else (
  if wr a0 = 5 then (
    if wr a2 = 0 then (
      some 0
    ) else (
      gc (¬ wr a2 = 0) <|
      some (Int.tdiv (wr a1) (wr a2))
    )
  ) else (
  if wr a0 = 6 then (
    if wr a2 ≤ wr a1 then (
      some 0
    ) else (
      some 1
    )
  ) else (
  if wr a0 = 7 then (
    if wr a1 ≤ wr a2 then (
      some 0
    ) else (
      some 1
    )
  ) else (
  if wr a0 = 8 then (
    if wr a1 = wr a2 then (
      some 1
    ) else (
      some 0
    )
  ) else (
  if wr a0 = 9 then (
    if wr (a1 + a2) = 2 then (
      some 1
    ) else (
      some 0
    )
  ) else (
    if wr (a1 + a2) ≤ 0 then (
      some 0
    ) else (
      some 1
    )
  ))))))))
set_option maxRecDepth 100000 in
set_option maxHeartbeats 4000000 in
theorem tX12_of (l : Launch) (Θ : Th) (a0 : Int) (a1 : Int) (a2 : Int) (h0 g0 : Mem) (rv : Int) (h : fX12_of a0 a1 a2 = some rv) : Ct l yX12_of cX12_of 3 (some .int) 1 22 Θ [vi a0, vi a1, vi a2] h0 g0 h0 g0 (some (vi rv)) := by
  refine x_start (by decide) (Nat.le_of_ble_eq_true rfl) ?_
  intro p e s m args below meth c ls C hM hl
  have hl : lv_has ls 3 [(0, vi a0), (1, vi a1), (2, vi a2)] := hl
  obtain ⟨hx, hb, hml, hown, hts, -⟩ := id C
  unfold fX12_of at h
  have key : ∀ (H : Heap) (locs : List Loc), Hd Θ s h0 g0 H locs → W p l e { frames := 1, cells := 0, slots := 0, locals := 22 } s m args below meth c H locs 0 0 (MQ below (Qx Θ s.heap.size h0 g0 (some (vi rv))) args s 0 0 (AA Θ s.heap.size)) (F0 m 0 ls []) := by
    intro H locs hM
    refine x_iload_n hx hb (kX12_of (i := 0) rfl) rfl (lv_at hl 0 rfl) ?_
    by_cases c_1 : wr a0 = 2
    · have h := it_t c_1 h
      refine x_tableIn (tgt := 48) 2 c_1 hx hb (kX12_of (i := 1) rfl) (by decide) (by decide) rfl (by decide) ?_
      refine x_iload_n hx hb (kX12_of (i := 2) rfl) rfl (lv_at hl 1 rfl) ?_
      refine x_i2l (a' := wr a1) hx hb rfl (kX12_of (i := 3) rfl) ?_
      refine x_iload_n hx hb (kX12_of (i := 4) rfl) rfl (lv_at hl 2 rfl) ?_
      refine x_i2l (a' := wr a2) hx hb rfl (kX12_of (i := 5) rfl) ?_
      refine x_ladd hx hb (kX12_of (i := 6) rfl) ?_
      refine x_ldc (n := 1000000) hx hb hown (hts _ q_kX12_236) (kX12_of (i := 7) rfl) ?_
      obtain ⟨r_2, hc_3, h⟩ := bd_some h
      refine x_callS (n := 2) (As := [vl ((wr a1) + (wr a2)), vi 1000000]) (rest := []) C hM (tX12_bounded l Θ ((wr a1) + (wr a2)) 1000000 h0 g0 r_2 hc_3) q_c_X12_bounded q_mX12_250 q_s_X12_bounded q_n_X12 (by decide +kernel) ⟨by decide, by decide⟩ rfl hl.1 rfl (Nat.le_of_ble_eq_true rfl) (kX12_of (i := 8) rfl) (fun H locs hM => ?_)
      rw [← Option.some.inj h]
      exact x_iret C hM (nar_i _) (kX12_of (i := 9) rfl)
    have h := it_f c_1 h
    by_cases c_4 : wr a0 = 3
    · have h := it_t c_4 h
      refine x_tableIn (tgt := 59) 3 c_4 hx hb (kX12_of (i := 1) rfl) (by decide) (by decide) rfl (by decide) ?_
      refine x_iload_n hx hb (kX12_of (i := 10) rfl) rfl (lv_at hl 1 rfl) ?_
      refine x_i2l (a' := wr a1) hx hb rfl (kX12_of (i := 11) rfl) ?_
      refine x_iload_n hx hb (kX12_of (i := 12) rfl) rfl (lv_at hl 2 rfl) ?_
      refine x_i2l (a' := wr a2) hx hb rfl (kX12_of (i := 13) rfl) ?_
      refine x_lsub hx hb (kX12_of (i := 14) rfl) ?_
      refine x_ldc (n := 1000000) hx hb hown (hts _ q_kX12_236) (kX12_of (i := 15) rfl) ?_
      obtain ⟨r_5, hc_6, h⟩ := bd_some h
      refine x_callS (n := 2) (As := [vl ((wr a1) - (wr a2)), vi 1000000]) (rest := []) C hM (tX12_bounded l Θ ((wr a1) - (wr a2)) 1000000 h0 g0 r_5 hc_6) q_c_X12_bounded q_mX12_250 q_s_X12_bounded q_n_X12 (by decide +kernel) ⟨by decide, by decide⟩ rfl hl.1 rfl (Nat.le_of_ble_eq_true rfl) (kX12_of (i := 16) rfl) (fun H locs hM => ?_)
      rw [← Option.some.inj h]
      exact x_iret C hM (nar_i _) (kX12_of (i := 17) rfl)
    have h := it_f c_4 h
    by_cases c_7 : wr a0 = 4
    · have h := it_t c_7 h
      refine x_tableIn (tgt := 70) 4 c_7 hx hb (kX12_of (i := 1) rfl) (by decide) (by decide) rfl (by decide) ?_
      refine x_iload_n hx hb (kX12_of (i := 18) rfl) rfl (lv_at hl 1 rfl) ?_
      refine x_i2l (a' := wr a1) hx hb rfl (kX12_of (i := 19) rfl) ?_
      refine x_iload_n hx hb (kX12_of (i := 20) rfl) rfl (lv_at hl 2 rfl) ?_
      refine x_i2l (a' := wr a2) hx hb rfl (kX12_of (i := 21) rfl) ?_
      refine x_lmul hx hb (kX12_of (i := 22) rfl) ?_
      refine x_ldc (n := 1000000) hx hb hown (hts _ q_kX12_236) (kX12_of (i := 23) rfl) ?_
      obtain ⟨r_8, hc_9, h⟩ := bd_some h
      refine x_callS (n := 2) (As := [vl ((wr a1) * (wr a2)), vi 1000000]) (rest := []) C hM (tX12_bounded l Θ ((wr a1) * (wr a2)) 1000000 h0 g0 r_8 hc_9) q_c_X12_bounded q_mX12_250 q_s_X12_bounded q_n_X12 (by decide +kernel) ⟨by decide, by decide⟩ rfl hl.1 rfl (Nat.le_of_ble_eq_true rfl) (kX12_of (i := 24) rfl) (fun H locs hM => ?_)
      rw [← Option.some.inj h]
      exact x_iret C hM (nar_i _) (kX12_of (i := 25) rfl)
    have h := it_f c_7 h
    by_cases c_10 : wr a0 = 5
    · have h := it_t c_10 h
      refine x_tableIn (tgt := 81) 5 c_10 hx hb (kX12_of (i := 1) rfl) (by decide) (by decide) rfl (by decide) ?_
      refine x_iload_n hx hb (kX12_of (i := 26) rfl) rfl (lv_at hl 2 rfl) ?_
      refine x_if_ne (a' := wr a2) hx hb rfl (tgt := 89) (kX12_of (i := 27) rfl) (by decide) (fun c_11 => ?_) (fun c_11 => ?_)
      · have h := it_f c_11 h
        refine x_iload_n hx hb (kX12_of (i := 30) rfl) rfl (lv_at hl 1 rfl) ?_
        refine x_iload_n hx hb (kX12_of (i := 31) rfl) rfl (lv_at hl 2 rfl) ?_
        obtain ⟨hz_12, h⟩ := gc_some h
        refine x_idiv (a' := wr a1) (b' := wr a2) hx hb (kX12_of (i := 32) rfl) rfl rfl hz_12 ?_
        rw [← Option.some.inj h]
        exact x_iret C hM (nar_i _) (kX12_of (i := 33) rfl)
      · have h := it_t c_11 h
        refine x_iconst hx hb (kX12_of (i := 28) rfl) ?_
        refine lv_goto (tgt := 92) hx hb (kX12_of (i := 29) rfl) (by decide) ?_
        rw [← Option.some.inj h]
        exact x_iret C hM (nar_i _) (kX12_of (i := 33) rfl)
    have h := it_f c_10 h
    by_cases c_13 : wr a0 = 6
    · have h := it_t c_13 h
      refine x_tableIn (tgt := 93) 6 c_13 hx hb (kX12_of (i := 1) rfl) (by decide) (by decide) rfl (by decide) ?_
      refine x_iload_n hx hb (kX12_of (i := 34) rfl) rfl (lv_at hl 1 rfl) ?_
      refine x_iload_n hx hb (kX12_of (i := 35) rfl) rfl (lv_at hl 2 rfl) ?_
      refine x_icmp_ge (a' := wr a1) (b' := wr a2) hx hb rfl rfl (tgt := 102) (kX12_of (i := 36) rfl) (by decide) (fun c_14 => ?_) (fun c_14 => ?_)
      · have h := it_t c_14 h
        refine x_iconst hx hb (kX12_of (i := 39) rfl) ?_
        rw [← Option.some.inj h]
        exact x_iret C hM (nar_i _) (kX12_of (i := 40) rfl)
      · have h := it_f c_14 h
        refine x_iconst hx hb (kX12_of (i := 37) rfl) ?_
        refine lv_goto (tgt := 103) hx hb (kX12_of (i := 38) rfl) (by decide) ?_
        rw [← Option.some.inj h]
        exact x_iret C hM (nar_i _) (kX12_of (i := 40) rfl)
    have h := it_f c_13 h
    by_cases c_15 : wr a0 = 7
    · have h := it_t c_15 h
      refine x_tableIn (tgt := 104) 7 c_15 hx hb (kX12_of (i := 1) rfl) (by decide) (by decide) rfl (by decide) ?_
      refine x_iload_n hx hb (kX12_of (i := 41) rfl) rfl (lv_at hl 1 rfl) ?_
      refine x_iload_n hx hb (kX12_of (i := 42) rfl) rfl (lv_at hl 2 rfl) ?_
      refine x_icmp_le (a' := wr a1) (b' := wr a2) hx hb rfl rfl (tgt := 113) (kX12_of (i := 43) rfl) (by decide) (fun c_16 => ?_) (fun c_16 => ?_)
      · have h := it_t c_16 h
        refine x_iconst hx hb (kX12_of (i := 46) rfl) ?_
        rw [← Option.some.inj h]
        exact x_iret C hM (nar_i _) (kX12_of (i := 47) rfl)
      · have h := it_f c_16 h
        refine x_iconst hx hb (kX12_of (i := 44) rfl) ?_
        refine lv_goto (tgt := 114) hx hb (kX12_of (i := 45) rfl) (by decide) ?_
        rw [← Option.some.inj h]
        exact x_iret C hM (nar_i _) (kX12_of (i := 47) rfl)
    have h := it_f c_15 h
    by_cases c_17 : wr a0 = 8
    · have h := it_t c_17 h
      refine x_tableIn (tgt := 115) 8 c_17 hx hb (kX12_of (i := 1) rfl) (by decide) (by decide) rfl (by decide) ?_
      refine x_iload_n hx hb (kX12_of (i := 48) rfl) rfl (lv_at hl 1 rfl) ?_
      refine x_iload_n hx hb (kX12_of (i := 49) rfl) rfl (lv_at hl 2 rfl) ?_
      refine x_icmp_ne (a' := wr a1) (b' := wr a2) hx hb rfl rfl (tgt := 124) (kX12_of (i := 50) rfl) (by decide) (fun c_18 => ?_) (fun c_18 => ?_)
      · have h := it_f c_18 h
        refine x_iconst hx hb (kX12_of (i := 53) rfl) ?_
        rw [← Option.some.inj h]
        exact x_iret C hM (nar_i _) (kX12_of (i := 54) rfl)
      · have h := it_t c_18 h
        refine x_iconst hx hb (kX12_of (i := 51) rfl) ?_
        refine lv_goto (tgt := 125) hx hb (kX12_of (i := 52) rfl) (by decide) ?_
        rw [← Option.some.inj h]
        exact x_iret C hM (nar_i _) (kX12_of (i := 54) rfl)
    have h := it_f c_17 h
    by_cases c_19 : wr a0 = 9
    · have h := it_t c_19 h
      refine x_tableIn (tgt := 126) 9 c_19 hx hb (kX12_of (i := 1) rfl) (by decide) (by decide) rfl (by decide) ?_
      refine x_iload_n hx hb (kX12_of (i := 55) rfl) rfl (lv_at hl 1 rfl) ?_
      refine x_iload_n hx hb (kX12_of (i := 56) rfl) rfl (lv_at hl 2 rfl) ?_
      refine x_iadd hx hb (kX12_of (i := 57) rfl) ?_
      refine x_iconst hx hb (kX12_of (i := 58) rfl) ?_
      refine x_icmp_ne (a' := wr (a1 + a2)) (b' := 2) hx hb rfl (by decide) (tgt := 137) (kX12_of (i := 59) rfl) (by decide) (fun c_20 => ?_) (fun c_20 => ?_)
      · have h := it_f c_20 h
        refine x_iconst hx hb (kX12_of (i := 62) rfl) ?_
        rw [← Option.some.inj h]
        exact x_iret C hM (nar_i _) (kX12_of (i := 63) rfl)
      · have h := it_t c_20 h
        refine x_iconst hx hb (kX12_of (i := 60) rfl) ?_
        refine lv_goto (tgt := 138) hx hb (kX12_of (i := 61) rfl) (by decide) ?_
        rw [← Option.some.inj h]
        exact x_iret C hM (nar_i _) (kX12_of (i := 63) rfl)
    have h := it_f c_19 h
    refine x_tableOut (tgt := 139) hx hb (kX12_of (i := 1) rfl) (by omega) (by decide) ?_
    refine x_iload_n hx hb (kX12_of (i := 64) rfl) rfl (lv_at hl 1 rfl) ?_
    refine x_iload_n hx hb (kX12_of (i := 65) rfl) rfl (lv_at hl 2 rfl) ?_
    refine x_iadd hx hb (kX12_of (i := 66) rfl) ?_
    refine x_if_le (a' := wr (a1 + a2)) hx hb rfl (tgt := 149) (kX12_of (i := 67) rfl) (by decide) (fun c_21 => ?_) (fun c_21 => ?_)
    · have h := it_t c_21 h
      refine x_iconst hx hb (kX12_of (i := 70) rfl) ?_
      rw [← Option.some.inj h]
      exact x_iret C hM (nar_i _) (kX12_of (i := 71) rfl)
    · have h := it_f c_21 h
      refine x_iconst hx hb (kX12_of (i := 68) rfl) ?_
      refine lv_goto (tgt := 150) hx hb (kX12_of (i := 69) rfl) (by decide) ?_
      rw [← Option.some.inj h]
      exact x_iret C hM (nar_i _) (kX12_of (i := 71) rfl)
  exact key _ _ hM

/-! X12_isSo -/
def fX12_isSo_L84 : Nat → Int → Int → Int → Mem → (Int → Int → Mem → Option (Int × Mem)) → Option (Int × Mem)
  | 0, _, _, _, _, _ => none
  | n + 1, y1, y2, y4, g, K128 =>
    if wr (g 0 15) ≤ wr y4 then (
      K128 y1 y2 g
    ) else (
      gd 5 7 <|
      gd ((6 * y2) + y4) 12 <|
      jn (fun (v_25 : Int) =>
        gd 5 7 <|
        bnd (up g 47 (wr 5).toNat ((g 47 (wr 5).toNat) + v_25)) fun g_27 =>
        bnd (y4 + 1) fun x_28 =>
        fX12_isSo_L84 n y1 y2 x_28 g_27 K128
      ) fun J120 =>
      if wr (g 24 (wr ((6 * y2) + y4)).toNat) = 0 then (
        J120 0
      ) else (
        J120 1
      )
    )
def fX12_isSo_L131 : Nat → Int → Int → Int → Mem → (Int → Mem → Option (Int × Mem)) → Option (Int × Mem)
  | 0, _, _, _, _, _ => none
  | n + 1, y1, y2, y4, g, K193 =>
    if wr (g 0 4) ≤ wr y4 then (
      K193 y1 g
    ) else (
      gd 6 7 <|
      gd y4 12 <|
      jn (fun (v_36 : Int) =>
        gd 6 7 <|
        bnd (up g 47 (wr 6).toNat ((g 47 (wr 6).toNat) + v_36)) fun g_38 =>
        bnd (y4 + 1) fun x_39 =>
        fX12_isSo_L131 n y1 y2 x_39 g_38 K193
      ) fun J185 =>
      jn (fun (_ : Unit) =>
        J185 0
      ) fun J184 =>
      if wr (g 8 (wr y4).toNat) = 0 then (
        gd ((12 * y2) + y4) 24 <|
        gd y4 12 <|
        if wr (g 18 (wr ((12 * y2) + y4)).toNat) = wr (g 5 (wr y4).toNat) then (
          J184 ()
        ) else (
          J185 1
        )
      ) else (
        J184 ()
      )
    )
def fX12_isSo_L204 : Nat → Int → Int → Int → Mem → (Mem → Option (Int × Mem)) → Option (Int × Mem)
  | 0, _, _, _, _, _ => none
  | n + 1, y1, y4, y5, g, K339 =>
    gd y1 2 <|
    if wr (g 44 (wr y1).toNat) ≤ wr y5 then (
      K339 g
    ) else (
      gd y5 300 <|
      bnd (g 41 (wr y5).toNat) fun x_51 =>
      jn (fun (p_52 : Int) (g_53 : Mem) =>
        bnd (y5 + 1) fun x_54 =>
        fX12_isSo_L204 n y1 p_52 x_54 g_53 K339
      ) fun J333 =>
      if 1 < wr x_51 then (
        if wr x_51 = 11 then (
          gd (y4 - 1) 300 <|
          gd (y4 - 1) 300 <|
          bnd (up g 48 (wr (y4 - 1)).toNat (1 - (g 48 (wr (y4 - 1)).toNat))) fun g_66 =>
          J333 y4 g_66
        ) else (
          bnd (y4 + (-1)) fun x_57 =>
          gd (x_57 - 1) 300 <|
          gd x_57 300 <|
          bd (fX12_of x_51 (g 48 (wr (x_57 - 1)).toNat) (g 48 (wr x_57).toNat)) fun r_60 =>
          gd (x_57 - 1) 300 <|
          bnd (up g 48 (wr (x_57 - 1)).toNat r_60) fun g_63 =>
          J333 x_57 g_63
        )
      ) else (
        jn (fun (v_67 : Int) =>
          gd y4 300 <|
          bnd (up g 48 (wr y4).toNat v_67) fun g_69 =>
          bnd (y4 + 1) fun x_70 =>
          J333 x_70 g_69
        ) fun J263 =>
        if wr x_51 = 0 then (
          gd y5 300 <|
          J263 (g 42 (wr y5).toNat)
        ) else (
          gd y5 300 <|
          gd (g 42 (wr y5).toNat) 7 <|
          J263 (g 47 (wr (g 42 (wr y5).toNat)).toNat)
        )
      )
    )
def fX12_isSo (a0 : Int) (a1 : Int) (a2 : Int) (g : Mem) : Option (Int × Mem) :=
  gd a0 2 <|
  if wr (g 43 (wr a0).toNat) = (-1) then (
    some (1, g)
  ) else (
    gd a1 2 <|
    gd 0 7 <|
    bnd (up g 47 (wr 0).toNat (g 19 (wr a1).toNat)) fun g_5 =>
    gd a1 2 <|
    gd 1 7 <|
    bnd (up g_5 47 (wr 1).toNat (g_5 20 (wr a1).toNat)) fun g_8 =>
    gd 2 7 <|
    bnd (up g_8 47 (wr 2).toNat a2) fun g_10 =>
    gd a1 2 <|
    gd 3 7 <|
    bnd (up g_10 47 (wr 3).toNat (g_10 21 (wr a1).toNat)) fun g_13 =>
    bd (fX12_seaIn a2 g_13) fun r_14 =>
    gd 4 7 <|
    bnd (up g_13 47 (wr 4).toNat r_14) fun g_17 =>
    gd 5 7 <|
    bnd (up g_17 47 (wr 5).toNat 0) fun g_19 =>
    gd 6 7 <|
    bnd (up g_19 47 (wr 6).toNat 0) fun g_21 =>
    fX12_isSo_L84 fuel a0 a1 0 g_21
    (fun (z_30 : Int) (z_31 : Int) (g_32 : Mem) =>
      fX12_isSo_L131 fuel z_30 z_31 0 g_32
      (fun (z_44 : Int) (g_45 : Mem) =>
        gd z_44 2 <|
        bnd (g_45 43 (wr z_44).toNat) fun x_47 =>
        fX12_isSo_L204 fuel z_44 0 x_47 g_45
        (fun (g_75 : Mem) =>
          gd 0 300 <|
          if wr (g_75 48 (wr 0).toNat) = 0 then (
            some (0, g_75)
          ) else (
            some (1, g_75)
          )
        )
      )
    )
  )
set_option maxRecDepth 100000 in
set_option maxHeartbeats 4000000 in
theorem wX12_isSo_L84 {p : Program} {l : Launch} {e : Env} {s : State} {m : MethodId} {args : Array Value} {below : List Frame} {meth : Method} {c : Code} {Θ : Th} {h0 : Mem} {rv : Int} {gR : Mem} {K128 : Int → Int → Mem → Option (Int × Mem)} (C : Cx p s m args meth c cX12_isSo 7 RX12 (some .boolean) Θ) : ∀ (n : Nat) (y1 : Int) (y2 : Int) (y4 : Int) (g : Mem) (H : Heap) (locs : List Loc) (ls : Array Slot), fX12_isSo_L84 n y1 y2 y4 g K128 = some (rv, gR) → (∀ (z1 : Int) (z2 : Int) (gz : Mem) (H : Heap) (locs : List Loc) (ls : Array Slot), K128 z1 z2 gz = some (rv, gR) → Hd Θ s h0 gz H locs → lv_has ls 7 [(0, .ref (Θ.2.2.2 0)), (1, vi z1), (2, vi z2)] → W p l e { frames := 2, cells := 0, slots := 0, locals := 45 } s m args below meth c H locs 0 0 (MQ below (Qx Θ s.heap.size h0 gR (some (vi rv))) args s 0 0 (AA Θ s.heap.size)) (F0 m 128 ls [])) → Hd Θ s h0 g H locs → lv_has ls 7 [(0, .ref (Θ.2.2.2 0)), (1, vi y1), (2, vi y2), (4, vi y4)] → W p l e { frames := 2, cells := 0, slots := 0, locals := 45 } s m args below meth c H locs 0 0 (MQ below (Qx Θ s.heap.size h0 gR (some (vi rv))) args s 0 0 (AA Θ s.heap.size)) (F0 m 84 ls []) := by
  intro n
  obtain ⟨hx, hb, hml, hown, hts, -⟩ := id C
  induction n with
  | zero => intro y1 y2 y4 g H locs ls h; cases h
  | succ n ih =>
    intro y1 y2 y4 g H locs ls h hK128 hM hl
    rw [fX12_isSo_L84] at h
    refine x_iload hx hb (kX12_isSo (i := 56) rfl) (lv_at hl 3 rfl) ?_
    refine lv_aload_n hx hb (kX12_isSo (i := 57) rfl) rfl (lv_at hl 0 rfl) ?_
    refine gX12_marks C hM q_fX12_191 (kX12_isSo (i := 58) rfl) ?_
    refine x_icmp_ge (a' := wr y4) (b' := wr (g 0 15)) hx hb rfl rfl (tgt := 128) (kX12_isSo (i := 59) rfl) (by decide) (fun c_22 => ?_) (fun c_22 => ?_)
    · have h := it_t c_22 h
      exact hK128 y1 y2 g H locs ls h hM (lv_sub hl [0, 1, 2] rfl)
    · have h := it_f c_22 h
      refine lv_aload_n hx hb (kX12_isSo (i := 60) rfl) rfl (lv_at hl 0 rfl) ?_
      refine gX12_names C hM q_fX12_164 (kX12_isSo (i := 61) rfl) ?_
      refine x_iconst hx hb (kX12_isSo (i := 62) rfl) ?_
      refine lv_dup2_11 hx hb (kX12_isSo (i := 63) rfl) rfl rfl ?_
      obtain ⟨hi_23, h⟩ := gd_some h
      refine x_ialdM C hM 47 (by decide) (eM_47 Θ) hi_23 (kX12_isSo (i := 64) rfl) ?_
      refine lv_aload_n hx hb (kX12_isSo (i := 65) rfl) rfl (lv_at hl 0 rfl) ?_
      refine gX12_isWet C hM q_fX12_90 (kX12_isSo (i := 66) rfl) ?_
      refine x_bipush hx hb (by decide) (kX12_isSo (i := 67) rfl) ?_
      refine x_iload_n hx hb (kX12_isSo (i := 68) rfl) rfl (lv_at hl 2 rfl) ?_
      refine x_imul hx hb (kX12_isSo (i := 69) rfl) ?_
      refine x_iload hx hb (kX12_isSo (i := 70) rfl) (lv_at hl 3 rfl) ?_
      refine x_iadd hx hb (kX12_isSo (i := 71) rfl) ?_
      obtain ⟨hi_24, h⟩ := gd_some h
      refine x_zaldM C hM 24 (by decide) (eM_24 Θ) hi_24 (kX12_isSo (i := 72) rfl) ?_
      refine jn_go h (fun J120 : Int → Option (Int × Mem) => ∀ (v_25 : Int) (H : Heap) (locs : List Loc) (ls : Array Slot), J120 v_25 = some (rv, gR) → Hd Θ s h0 g H locs → lv_has ls 7 [(0, .ref (Θ.2.2.2 0)), (1, vi y1), (2, vi y2), (4, vi y4)] → W p l e { frames := 2, cells := 0, slots := 0, locals := 45 } s m args below meth c H locs 0 0 (MQ below (Qx Θ s.heap.size h0 gR (some (vi rv))) args s 0 0 (AA Θ s.heap.size)) (F0 m 120 ls [vi v_25, vi (g 47 (wr 5).toNat), vi 5, .ref (Θ.2.2.2 47)])) ?_ ?_
      · intro v_25 H locs ls h hM hl
        refine x_iadd hx hb (kX12_isSo (i := 77) rfl) ?_
        obtain ⟨hi_26, h⟩ := gd_some h
        obtain ⟨g_27, eg_27, h⟩ := bnd_some h
        refine x_iastM C hM 47 (by decide) (eM_47 Θ) hi_26 eg_27 (kX12_isSo (i := 78) rfl) (fun H locs hM => ?_)
        obtain ⟨x_28, ex_28, h⟩ := bnd_some h
        refine x_iinc (k := 3) (lv' := [(4, vi x_28), (0, .ref (Θ.2.2.2 0)), (1, vi y1), (2, vi y2)]) hx hb (kX12_isSo (i := 79) rfl) hl rfl ex_28 (by decide) rfl (fun ls hl => ?_)
        refine lv_goto (tgt := 84) hx hb (kX12_isSo (i := 80) rfl) (by decide) ?_
        exact ih y1 y2 x_28 g_27 H locs ls h hK128 hM (lv_sub hl [1, 2, 3, 0] rfl)
      intro J120 hJ120 h
      refine x_if_eq (a' := wr (g 24 (wr ((6 * y2) + y4)).toNat)) hx hb rfl (tgt := 119) (kX12_isSo (i := 73) rfl) (by decide) (fun c_29 => ?_) (fun c_29 => ?_)
      · have h := it_t c_29 h
        refine x_iconst hx hb (kX12_isSo (i := 76) rfl) ?_
        exact hJ120 0 H locs ls h hM (lv_sub hl [0, 1, 2, 3] rfl)
      · have h := it_f c_29 h
        refine x_iconst hx hb (kX12_isSo (i := 74) rfl) ?_
        refine lv_goto (tgt := 120) hx hb (kX12_isSo (i := 75) rfl) (by decide) ?_
        exact hJ120 1 H locs ls h hM (lv_sub hl [0, 1, 2, 3] rfl)
set_option maxRecDepth 100000 in
set_option maxHeartbeats 4000000 in
theorem wX12_isSo_L131 {p : Program} {l : Launch} {e : Env} {s : State} {m : MethodId} {args : Array Value} {below : List Frame} {meth : Method} {c : Code} {Θ : Th} {h0 : Mem} {rv : Int} {gR : Mem} {K193 : Int → Mem → Option (Int × Mem)} (C : Cx p s m args meth c cX12_isSo 7 RX12 (some .boolean) Θ) : ∀ (n : Nat) (y1 : Int) (y2 : Int) (y4 : Int) (g : Mem) (H : Heap) (locs : List Loc) (ls : Array Slot), fX12_isSo_L131 n y1 y2 y4 g K193 = some (rv, gR) → (∀ (z1 : Int) (gz : Mem) (H : Heap) (locs : List Loc) (ls : Array Slot), K193 z1 gz = some (rv, gR) → Hd Θ s h0 gz H locs → lv_has ls 7 [(0, .ref (Θ.2.2.2 0)), (1, vi z1)] → W p l e { frames := 2, cells := 0, slots := 0, locals := 45 } s m args below meth c H locs 0 0 (MQ below (Qx Θ s.heap.size h0 gR (some (vi rv))) args s 0 0 (AA Θ s.heap.size)) (F0 m 193 ls [])) → Hd Θ s h0 g H locs → lv_has ls 7 [(0, .ref (Θ.2.2.2 0)), (1, vi y1), (2, vi y2), (4, vi y4)] → W p l e { frames := 2, cells := 0, slots := 0, locals := 45 } s m args below meth c H locs 0 0 (MQ below (Qx Θ s.heap.size h0 gR (some (vi rv))) args s 0 0 (AA Θ s.heap.size)) (F0 m 131 ls []) := by
  intro n
  obtain ⟨hx, hb, hml, hown, hts, -⟩ := id C
  induction n with
  | zero => intro y1 y2 y4 g H locs ls h; cases h
  | succ n ih =>
    intro y1 y2 y4 g H locs ls h hK193 hM hl
    rw [fX12_isSo_L131] at h
    refine x_iload hx hb (kX12_isSo (i := 83) rfl) (lv_at hl 3 rfl) ?_
    refine lv_aload_n hx hb (kX12_isSo (i := 84) rfl) rfl (lv_at hl 0 rfl) ?_
    refine gX12_weights C hM q_fX12_181 (kX12_isSo (i := 85) rfl) ?_
    refine x_icmp_ge (a' := wr y4) (b' := wr (g 0 4)) hx hb rfl rfl (tgt := 193) (kX12_isSo (i := 86) rfl) (by decide) (fun c_33 => ?_) (fun c_33 => ?_)
    · have h := it_t c_33 h
      exact hK193 y1 g H locs ls h hM (lv_sub hl [0, 1] rfl)
    · have h := it_f c_33 h
      refine lv_aload_n hx hb (kX12_isSo (i := 87) rfl) rfl (lv_at hl 0 rfl) ?_
      refine gX12_names C hM q_fX12_164 (kX12_isSo (i := 88) rfl) ?_
      refine x_bipush hx hb (by decide) (kX12_isSo (i := 89) rfl) ?_
      refine lv_dup2_11 hx hb (kX12_isSo (i := 90) rfl) rfl rfl ?_
      obtain ⟨hi_34, h⟩ := gd_some h
      refine x_ialdM C hM 47 (by decide) (eM_47 Θ) hi_34 (kX12_isSo (i := 91) rfl) ?_
      refine lv_aload_n hx hb (kX12_isSo (i := 92) rfl) rfl (lv_at hl 0 rfl) ?_
      refine gX12_isLost C hM q_fX12_31 (kX12_isSo (i := 93) rfl) ?_
      refine x_iload hx hb (kX12_isSo (i := 94) rfl) (lv_at hl 3 rfl) ?_
      obtain ⟨hi_35, h⟩ := gd_some h
      refine x_zaldM C hM 8 (by decide) (eM_8 Θ) hi_35 (kX12_isSo (i := 95) rfl) ?_
      refine jn_go h (fun J185 : Int → Option (Int × Mem) => ∀ (v_36 : Int) (H : Heap) (locs : List Loc) (ls : Array Slot), J185 v_36 = some (rv, gR) → Hd Θ s h0 g H locs → lv_has ls 7 [(0, .ref (Θ.2.2.2 0)), (1, vi y1), (2, vi y2), (4, vi y4)] → W p l e { frames := 2, cells := 0, slots := 0, locals := 45 } s m args below meth c H locs 0 0 (MQ below (Qx Θ s.heap.size h0 gR (some (vi rv))) args s 0 0 (AA Θ s.heap.size)) (F0 m 185 ls [vi v_36, vi (g 47 (wr 6).toNat), vi 6, .ref (Θ.2.2.2 47)])) ?_ ?_
      · intro v_36 H locs ls h hM hl
        refine x_iadd hx hb (kX12_isSo (i := 113) rfl) ?_
        obtain ⟨hi_37, h⟩ := gd_some h
        obtain ⟨g_38, eg_38, h⟩ := bnd_some h
        refine x_iastM C hM 47 (by decide) (eM_47 Θ) hi_37 eg_38 (kX12_isSo (i := 114) rfl) (fun H locs hM => ?_)
        obtain ⟨x_39, ex_39, h⟩ := bnd_some h
        refine x_iinc (k := 3) (lv' := [(4, vi x_39), (0, .ref (Θ.2.2.2 0)), (1, vi y1), (2, vi y2)]) hx hb (kX12_isSo (i := 115) rfl) hl rfl ex_39 (by decide) rfl (fun ls hl => ?_)
        refine lv_goto (tgt := 131) hx hb (kX12_isSo (i := 116) rfl) (by decide) ?_
        exact ih y1 y2 x_39 g_38 H locs ls h hK193 hM (lv_sub hl [1, 2, 3, 0] rfl)
      intro J185 hJ185 h
      refine jn_go h (fun J184 : Unit → Option (Int × Mem) => ∀ (H : Heap) (locs : List Loc) (ls : Array Slot), J184 () = some (rv, gR) → Hd Θ s h0 g H locs → lv_has ls 7 [(0, .ref (Θ.2.2.2 0)), (1, vi y1), (2, vi y2), (4, vi y4)] → W p l e { frames := 2, cells := 0, slots := 0, locals := 45 } s m args below meth c H locs 0 0 (MQ below (Qx Θ s.heap.size h0 gR (some (vi rv))) args s 0 0 (AA Θ s.heap.size)) (F0 m 184 ls [vi (g 47 (wr 6).toNat), vi 6, .ref (Θ.2.2.2 47)])) ?_ ?_
      · intro  H locs ls h hM hl
        refine x_iconst hx hb (kX12_isSo (i := 112) rfl) ?_
        exact hJ185 0 H locs ls h hM (lv_sub hl [0, 1, 2, 3] rfl)
      intro J184 hJ184 h
      refine x_if_ne (a' := wr (g 8 (wr y4).toNat)) hx hb rfl (tgt := 184) (kX12_isSo (i := 96) rfl) (by decide) (fun c_40 => ?_) (fun c_40 => ?_)
      · have h := it_f c_40 h
        exact hJ184 H locs ls h hM (lv_sub hl [0, 1, 2, 3] rfl)
      · have h := it_t c_40 h
        refine lv_aload_n hx hb (kX12_isSo (i := 97) rfl) rfl (lv_at hl 0 rfl) ?_
        refine gX12_place C hM q_fX12_72 (kX12_isSo (i := 98) rfl) ?_
        refine x_bipush hx hb (by decide) (kX12_isSo (i := 99) rfl) ?_
        refine x_iload_n hx hb (kX12_isSo (i := 100) rfl) rfl (lv_at hl 2 rfl) ?_
        refine x_imul hx hb (kX12_isSo (i := 101) rfl) ?_
        refine x_iload hx hb (kX12_isSo (i := 102) rfl) (lv_at hl 3 rfl) ?_
        refine x_iadd hx hb (kX12_isSo (i := 103) rfl) ?_
        obtain ⟨hi_41, h⟩ := gd_some h
        refine x_ialdM C hM 18 (by decide) (eM_18 Θ) hi_41 (kX12_isSo (i := 104) rfl) ?_
        refine lv_aload_n hx hb (kX12_isSo (i := 105) rfl) rfl (lv_at hl 0 rfl) ?_
        refine gX12_toldPlace C hM q_fX12_22 (kX12_isSo (i := 106) rfl) ?_
        refine x_iload hx hb (kX12_isSo (i := 107) rfl) (lv_at hl 3 rfl) ?_
        obtain ⟨hi_42, h⟩ := gd_some h
        refine x_ialdM C hM 5 (by decide) (eM_5 Θ) hi_42 (kX12_isSo (i := 108) rfl) ?_
        refine x_icmp_eq (a' := wr (g 18 (wr ((12 * y2) + y4)).toNat)) (b' := wr (g 5 (wr y4).toNat)) hx hb rfl rfl (tgt := 184) (kX12_isSo (i := 109) rfl) (by decide) (fun c_43 => ?_) (fun c_43 => ?_)
        · have h := it_t c_43 h
          exact hJ184 H locs ls h hM (lv_sub hl [0, 1, 2, 3] rfl)
        · have h := it_f c_43 h
          refine x_iconst hx hb (kX12_isSo (i := 110) rfl) ?_
          refine lv_goto (tgt := 185) hx hb (kX12_isSo (i := 111) rfl) (by decide) ?_
          exact hJ185 1 H locs ls h hM (lv_sub hl [0, 1, 2, 3] rfl)
set_option maxRecDepth 100000 in
set_option maxHeartbeats 4000000 in
theorem wX12_isSo_L204 {p : Program} {l : Launch} {e : Env} {s : State} {m : MethodId} {args : Array Value} {below : List Frame} {meth : Method} {c : Code} {Θ : Th} {h0 : Mem} {rv : Int} {gR : Mem} {K339 : Mem → Option (Int × Mem)} (C : Cx p s m args meth c cX12_isSo 7 RX12 (some .boolean) Θ) : ∀ (n : Nat) (y1 : Int) (y4 : Int) (y5 : Int) (g : Mem) (H : Heap) (locs : List Loc) (ls : Array Slot), fX12_isSo_L204 n y1 y4 y5 g K339 = some (rv, gR) → (∀ (gz : Mem) (H : Heap) (locs : List Loc) (ls : Array Slot), K339 gz = some (rv, gR) → Hd Θ s h0 gz H locs → lv_has ls 7 [(0, .ref (Θ.2.2.2 0))] → W p l e { frames := 2, cells := 0, slots := 0, locals := 45 } s m args below meth c H locs 0 0 (MQ below (Qx Θ s.heap.size h0 gR (some (vi rv))) args s 0 0 (AA Θ s.heap.size)) (F0 m 339 ls [])) → Hd Θ s h0 g H locs → lv_has ls 7 [(0, .ref (Θ.2.2.2 0)), (1, vi y1), (4, vi y4), (5, vi y5)] → W p l e { frames := 2, cells := 0, slots := 0, locals := 45 } s m args below meth c H locs 0 0 (MQ below (Qx Θ s.heap.size h0 gR (some (vi rv))) args s 0 0 (AA Θ s.heap.size)) (F0 m 204 ls []) := by
  intro n
  obtain ⟨hx, hb, hml, hown, hts, -⟩ := id C
  induction n with
  | zero => intro y1 y4 y5 g H locs ls h; cases h
  | succ n ih =>
    intro y1 y4 y5 g H locs ls h hK339 hM hl
    rw [fX12_isSo_L204] at h
    refine x_iload hx hb (kX12_isSo (i := 124) rfl) (lv_at hl 3 rfl) ?_
    refine lv_aload_n hx hb (kX12_isSo (i := 125) rfl) rfl (lv_at hl 0 rfl) ?_
    refine gX12_ruleEnd C hM q_fX12_154 (kX12_isSo (i := 126) rfl) ?_
    refine x_iload_n hx hb (kX12_isSo (i := 127) rfl) rfl (lv_at hl 1 rfl) ?_
    obtain ⟨hi_48, h⟩ := gd_some h
    refine x_ialdM C hM 44 (by decide) (eM_44 Θ) hi_48 (kX12_isSo (i := 128) rfl) ?_
    refine x_icmp_ge (a' := wr y5) (b' := wr (g 44 (wr y1).toNat)) hx hb rfl rfl (tgt := 339) (kX12_isSo (i := 129) rfl) (by decide) (fun c_49 => ?_) (fun c_49 => ?_)
    · have h := it_t c_49 h
      exact hK339 g H locs ls h hM (lv_sub hl [0] rfl)
    · have h := it_f c_49 h
      refine lv_aload_n hx hb (kX12_isSo (i := 130) rfl) rfl (lv_at hl 0 rfl) ?_
      refine gX12_ruleDoes C hM q_fX12_145 (kX12_isSo (i := 131) rfl) ?_
      refine x_iload hx hb (kX12_isSo (i := 132) rfl) (lv_at hl 3 rfl) ?_
      obtain ⟨hi_50, h⟩ := gd_some h
      refine x_ialdM C hM 41 (by decide) (eM_41 Θ) hi_50 (kX12_isSo (i := 133) rfl) ?_
      obtain ⟨x_51, ex_51, h⟩ := bnd_some h
      refine x_top ex_51 ?_
      refine x_istore (lv' := [(6, vi x_51), (0, .ref (Θ.2.2.2 0)), (1, vi y1), (4, vi y4), (5, vi y5)]) hx hb (kX12_isSo (i := 134) rfl) hl (by decide) rfl (fun ls hl => ?_)
      refine x_iload hx hb (kX12_isSo (i := 135) rfl) (lv_at hl 0 rfl) ?_
      refine x_iconst hx hb (kX12_isSo (i := 136) rfl) ?_
      refine jn_go h (fun J333 : Int → Mem → Option (Int × Mem) => ∀ (p_52 : Int) (g_53 : Mem) (H : Heap) (locs : List Loc) (ls : Array Slot), J333 p_52 g_53 = some (rv, gR) → Hd Θ s h0 g_53 H locs → lv_has ls 7 [(0, .ref (Θ.2.2.2 0)), (1, vi y1), (4, vi p_52), (5, vi y5)] → W p l e { frames := 2, cells := 0, slots := 0, locals := 45 } s m args below meth c H locs 0 0 (MQ below (Qx Θ s.heap.size h0 gR (some (vi rv))) args s 0 0 (AA Θ s.heap.size)) (F0 m 333 ls [])) ?_ ?_
      · intro p_52 g_53 H locs ls h hM hl
        obtain ⟨x_54, ex_54, h⟩ := bnd_some h
        refine x_iinc (k := 3) (lv' := [(5, vi x_54), (0, .ref (Θ.2.2.2 0)), (1, vi y1), (4, vi p_52)]) hx hb (kX12_isSo (i := 195) rfl) hl rfl ex_54 (by decide) rfl (fun ls hl => ?_)
        refine lv_goto (tgt := 204) hx hb (kX12_isSo (i := 196) rfl) (by decide) ?_
        exact ih y1 p_52 x_54 g_53 H locs ls h hK339 hM (lv_sub hl [1, 2, 3, 0] rfl)
      intro J333 hJ333 h
      refine x_icmp_gt (a' := wr x_51) (b' := 1) hx hb rfl (by decide) (tgt := 270) (kX12_isSo (i := 137) rfl) (by decide) (fun c_55 => ?_) (fun c_55 => ?_)
      · have h := it_t c_55 h
        refine x_iload hx hb (kX12_isSo (i := 158) rfl) (lv_at hl 0 rfl) ?_
        refine x_bipush hx hb (by decide) (kX12_isSo (i := 159) rfl) ?_
        refine x_icmp_ne (a' := wr x_51) (b' := 11) hx hb rfl (by decide) (tgt := 300) (kX12_isSo (i := 160) rfl) (by decide) (fun c_56 => ?_) (fun c_56 => ?_)
        · have h := it_f c_56 h
          obtain ⟨x_57, ex_57, h⟩ := bnd_some h
          refine x_iinc (k := 3) (lv' := [(4, vi x_57), (6, vi x_51), (0, .ref (Θ.2.2.2 0)), (1, vi y1), (5, vi y5)]) hx hb (kX12_isSo (i := 176) rfl) hl rfl ex_57 (by decide) rfl (fun ls hl => ?_)
          refine lv_aload_n hx hb (kX12_isSo (i := 177) rfl) rfl (lv_at hl 2 rfl) ?_
          refine gX12_heap C hM q_fX12_167 (kX12_isSo (i := 178) rfl) ?_
          refine x_iload hx hb (kX12_isSo (i := 179) rfl) (lv_at hl 0 rfl) ?_
          refine x_iconst hx hb (kX12_isSo (i := 180) rfl) ?_
          refine x_isub hx hb (kX12_isSo (i := 181) rfl) ?_
          refine x_iload hx hb (kX12_isSo (i := 182) rfl) (lv_at hl 1 rfl) ?_
          refine lv_aload_n hx hb (kX12_isSo (i := 183) rfl) rfl (lv_at hl 2 rfl) ?_
          refine gX12_heap C hM q_fX12_167 (kX12_isSo (i := 184) rfl) ?_
          refine x_iload hx hb (kX12_isSo (i := 185) rfl) (lv_at hl 0 rfl) ?_
          refine x_iconst hx hb (kX12_isSo (i := 186) rfl) ?_
          refine x_isub hx hb (kX12_isSo (i := 187) rfl) ?_
          obtain ⟨hi_58, h⟩ := gd_some h
          refine x_ialdM C hM 48 (by decide) (eM_48 Θ) hi_58 (kX12_isSo (i := 188) rfl) ?_
          refine lv_aload_n hx hb (kX12_isSo (i := 189) rfl) rfl (lv_at hl 2 rfl) ?_
          refine gX12_heap C hM q_fX12_167 (kX12_isSo (i := 190) rfl) ?_
          refine x_iload hx hb (kX12_isSo (i := 191) rfl) (lv_at hl 0 rfl) ?_
          obtain ⟨hi_59, h⟩ := gd_some h
          refine x_ialdM C hM 48 (by decide) (eM_48 Θ) hi_59 (kX12_isSo (i := 192) rfl) ?_
          obtain ⟨r_60, hc_61, h⟩ := bd_some h
          refine x_callS (n := 3) (As := [vi x_51, vi (g 48 (wr (x_57 - 1)).toNat), vi (g 48 (wr x_57).toNat)]) (rest := [vi (x_57 - 1), .ref (Θ.2.2.2 48)]) C hM (tX12_of l Θ x_51 (g 48 (wr (x_57 - 1)).toNat) (g 48 (wr x_57).toNat) h0 g r_60 hc_61) q_c_X12_of q_mX12_358 q_s_X12_of q_n_X12 (by decide +kernel) ⟨by decide, by decide⟩ rfl hl.1 rfl (Nat.le_of_ble_eq_true rfl) (kX12_isSo (i := 193) rfl) (fun H locs hM => ?_)
          obtain ⟨hi_62, h⟩ := gd_some h
          obtain ⟨g_63, eg_63, h⟩ := bnd_some h
          refine x_iastM C hM 48 (by decide) (eM_48 Θ) hi_62 eg_63 (kX12_isSo (i := 194) rfl) (fun H locs hM => ?_)
          exact hJ333 x_57 g_63 H locs ls h hM (lv_sub hl [2, 3, 0, 4] rfl)
        · have h := it_t c_56 h
          refine lv_aload_n hx hb (kX12_isSo (i := 161) rfl) rfl (lv_at hl 1 rfl) ?_
          refine gX12_heap C hM q_fX12_167 (kX12_isSo (i := 162) rfl) ?_
          refine x_iload hx hb (kX12_isSo (i := 163) rfl) (lv_at hl 3 rfl) ?_
          refine x_iconst hx hb (kX12_isSo (i := 164) rfl) ?_
          refine x_isub hx hb (kX12_isSo (i := 165) rfl) ?_
          refine x_iconst hx hb (kX12_isSo (i := 166) rfl) ?_
          refine lv_aload_n hx hb (kX12_isSo (i := 167) rfl) rfl (lv_at hl 1 rfl) ?_
          refine gX12_heap C hM q_fX12_167 (kX12_isSo (i := 168) rfl) ?_
          refine x_iload hx hb (kX12_isSo (i := 169) rfl) (lv_at hl 3 rfl) ?_
          refine x_iconst hx hb (kX12_isSo (i := 170) rfl) ?_
          refine x_isub hx hb (kX12_isSo (i := 171) rfl) ?_
          obtain ⟨hi_64, h⟩ := gd_some h
          refine x_ialdM C hM 48 (by decide) (eM_48 Θ) hi_64 (kX12_isSo (i := 172) rfl) ?_
          refine x_isub hx hb (kX12_isSo (i := 173) rfl) ?_
          obtain ⟨hi_65, h⟩ := gd_some h
          obtain ⟨g_66, eg_66, h⟩ := bnd_some h
          refine x_iastM C hM 48 (by decide) (eM_48 Θ) hi_65 eg_66 (kX12_isSo (i := 174) rfl) (fun H locs hM => ?_)
          refine lv_goto (tgt := 333) hx hb (kX12_isSo (i := 175) rfl) (by decide) ?_
          exact hJ333 y4 g_66 H locs ls h hM (lv_sub hl [1, 2, 3, 4] rfl)
      · have h := it_f c_55 h
        refine lv_aload_n hx hb (kX12_isSo (i := 138) rfl) rfl (lv_at hl 1 rfl) ?_
        refine gX12_heap C hM q_fX12_167 (kX12_isSo (i := 139) rfl) ?_
        refine x_iload hx hb (kX12_isSo (i := 140) rfl) (lv_at hl 3 rfl) ?_
        refine x_iload hx hb (kX12_isSo (i := 141) rfl) (lv_at hl 0 rfl) ?_
        refine jn_go h (fun J263 : Int → Option (Int × Mem) => ∀ (v_67 : Int) (H : Heap) (locs : List Loc) (ls : Array Slot), J263 v_67 = some (rv, gR) → Hd Θ s h0 g H locs → lv_has ls 7 [(0, .ref (Θ.2.2.2 0)), (1, vi y1), (4, vi y4), (5, vi y5)] → W p l e { frames := 2, cells := 0, slots := 0, locals := 45 } s m args below meth c H locs 0 0 (MQ below (Qx Θ s.heap.size h0 gR (some (vi rv))) args s 0 0 (AA Θ s.heap.size)) (F0 m 263 ls [vi v_67, vi y4, .ref (Θ.2.2.2 48)])) ?_ ?_
        · intro v_67 H locs ls h hM hl
          obtain ⟨hi_68, h⟩ := gd_some h
          obtain ⟨g_69, eg_69, h⟩ := bnd_some h
          refine x_iastM C hM 48 (by decide) (eM_48 Θ) hi_68 eg_69 (kX12_isSo (i := 155) rfl) (fun H locs hM => ?_)
          obtain ⟨x_70, ex_70, h⟩ := bnd_some h
          refine x_iinc (k := 2) (lv' := [(4, vi x_70), (0, .ref (Θ.2.2.2 0)), (1, vi y1), (5, vi y5)]) hx hb (kX12_isSo (i := 156) rfl) hl rfl ex_70 (by decide) rfl (fun ls hl => ?_)
          refine lv_goto (tgt := 333) hx hb (kX12_isSo (i := 157) rfl) (by decide) ?_
          exact hJ333 x_70 g_69 H locs ls h hM (lv_sub hl [1, 2, 0, 3] rfl)
        intro J263 hJ263 h
        refine x_if_ne (a' := wr x_51) hx hb rfl (tgt := 251) (kX12_isSo (i := 142) rfl) (by decide) (fun c_71 => ?_) (fun c_71 => ?_)
        · have h := it_f c_71 h
          refine lv_aload_n hx hb (kX12_isSo (i := 148) rfl) rfl (lv_at hl 1 rfl) ?_
          refine gX12_names C hM q_fX12_164 (kX12_isSo (i := 149) rfl) ?_
          refine lv_aload_n hx hb (kX12_isSo (i := 150) rfl) rfl (lv_at hl 1 rfl) ?_
          refine gX12_ruleWith C hM q_fX12_148 (kX12_isSo (i := 151) rfl) ?_
          refine x_iload hx hb (kX12_isSo (i := 152) rfl) (lv_at hl 4 rfl) ?_
          obtain ⟨hi_72, h⟩ := gd_some h
          refine x_ialdM C hM 42 (by decide) (eM_42 Θ) hi_72 (kX12_isSo (i := 153) rfl) ?_
          obtain ⟨hi_73, h⟩ := gd_some h
          refine x_ialdM C hM 47 (by decide) (eM_47 Θ) hi_73 (kX12_isSo (i := 154) rfl) ?_
          exact hJ263 (g 47 (wr (g 42 (wr y5).toNat)).toNat) H locs ls h hM (lv_sub hl [1, 2, 3, 4] rfl)
        · have h := it_t c_71 h
          refine lv_aload_n hx hb (kX12_isSo (i := 143) rfl) rfl (lv_at hl 1 rfl) ?_
          refine gX12_ruleWith C hM q_fX12_148 (kX12_isSo (i := 144) rfl) ?_
          refine x_iload hx hb (kX12_isSo (i := 145) rfl) (lv_at hl 4 rfl) ?_
          obtain ⟨hi_74, h⟩ := gd_some h
          refine x_ialdM C hM 42 (by decide) (eM_42 Θ) hi_74 (kX12_isSo (i := 146) rfl) ?_
          refine lv_goto (tgt := 263) hx hb (kX12_isSo (i := 147) rfl) (by decide) ?_
          exact hJ263 (g 42 (wr y5).toNat) H locs ls h hM (lv_sub hl [1, 2, 3, 4] rfl)
set_option maxRecDepth 100000 in
set_option maxHeartbeats 4000000 in
theorem tX12_isSo (l : Launch) (Θ : Th) (a0 : Int) (a1 : Int) (a2 : Int) (h0 g : Mem) (rv : Int) (gR : Mem) (h : fX12_isSo a0 a1 a2 g = some (rv, gR)) : Ct l yX12_isSo cX12_isSo 7 (some .boolean) 2 45 Θ [.ref (Θ.2.2.2 0), vi a0, vi a1, vi a2] h0 g h0 gR (some (vi rv)) := by
  refine x_start (by decide) (Nat.le_of_ble_eq_true rfl) ?_
  intro p e s m args below meth c ls C hM hl
  have hl : lv_has ls 7 [(0, .ref (Θ.2.2.2 0)), (1, vi a0), (2, vi a1), (3, vi a2)] := hl
  obtain ⟨hx, hb, hml, hown, hts, -⟩ := id C
  unfold fX12_isSo at h
  have key : ∀ (H : Heap) (locs : List Loc), Hd Θ s h0 g H locs → W p l e { frames := 2, cells := 0, slots := 0, locals := 45 } s m args below meth c H locs 0 0 (MQ below (Qx Θ s.heap.size h0 gR (some (vi rv))) args s 0 0 (AA Θ s.heap.size)) (F0 m 0 ls []) := by
    intro H locs hM
    refine lv_aload_n hx hb (kX12_isSo (i := 0) rfl) rfl (lv_at hl 0 rfl) ?_
    refine gX12_ruleBegin C hM q_fX12_151 (kX12_isSo (i := 1) rfl) ?_
    refine x_iload_n hx hb (kX12_isSo (i := 2) rfl) rfl (lv_at hl 1 rfl) ?_
    obtain ⟨hi_1, h⟩ := gd_some h
    refine x_ialdM C hM 43 (by decide) (eM_43 Θ) hi_1 (kX12_isSo (i := 3) rfl) ?_
    refine x_iconst hx hb (kX12_isSo (i := 4) rfl) ?_
    refine x_icmp_ne (a' := wr (g 43 (wr a0).toNat)) (b' := (-1)) hx hb rfl (by decide) (tgt := 12) (kX12_isSo (i := 5) rfl) (by decide) (fun c_2 => ?_) (fun c_2 => ?_)
    · have h := it_f c_2 h
      refine lv_aload_n hx hb (kX12_isSo (i := 8) rfl) rfl (lv_at hl 0 rfl) ?_
      refine gX12_names C hM q_fX12_164 (kX12_isSo (i := 9) rfl) ?_
      refine x_iconst hx hb (kX12_isSo (i := 10) rfl) ?_
      refine lv_aload_n hx hb (kX12_isSo (i := 11) rfl) rfl (lv_at hl 0 rfl) ?_
      refine gX12_slope C hM q_fX12_75 (kX12_isSo (i := 12) rfl) ?_
      refine x_iload_n hx hb (kX12_isSo (i := 13) rfl) rfl (lv_at hl 2 rfl) ?_
      obtain ⟨hi_3, h⟩ := gd_some h
      refine x_ialdM C hM 19 (by decide) (eM_19 Θ) hi_3 (kX12_isSo (i := 14) rfl) ?_
      obtain ⟨hi_4, h⟩ := gd_some h
      obtain ⟨g_5, eg_5, h⟩ := bnd_some h
      refine x_iastM C hM 47 (by decide) (eM_47 Θ) hi_4 eg_5 (kX12_isSo (i := 15) rfl) (fun H locs hM => ?_)
      refine lv_aload_n hx hb (kX12_isSo (i := 16) rfl) rfl (lv_at hl 0 rfl) ?_
      refine gX12_names C hM q_fX12_164 (kX12_isSo (i := 17) rfl) ?_
      refine x_iconst hx hb (kX12_isSo (i := 18) rfl) ?_
      refine lv_aload_n hx hb (kX12_isSo (i := 19) rfl) rfl (lv_at hl 0 rfl) ?_
      refine gX12_speed C hM q_fX12_78 (kX12_isSo (i := 20) rfl) ?_
      refine x_iload_n hx hb (kX12_isSo (i := 21) rfl) rfl (lv_at hl 2 rfl) ?_
      obtain ⟨hi_6, h⟩ := gd_some h
      refine x_ialdM C hM 20 (by decide) (eM_20 Θ) hi_6 (kX12_isSo (i := 22) rfl) ?_
      obtain ⟨hi_7, h⟩ := gd_some h
      obtain ⟨g_8, eg_8, h⟩ := bnd_some h
      refine x_iastM C hM 47 (by decide) (eM_47 Θ) hi_7 eg_8 (kX12_isSo (i := 23) rfl) (fun H locs hM => ?_)
      refine lv_aload_n hx hb (kX12_isSo (i := 24) rfl) rfl (lv_at hl 0 rfl) ?_
      refine gX12_names C hM q_fX12_164 (kX12_isSo (i := 25) rfl) ?_
      refine x_iconst hx hb (kX12_isSo (i := 26) rfl) ?_
      refine x_iload_n hx hb (kX12_isSo (i := 27) rfl) rfl (lv_at hl 3 rfl) ?_
      obtain ⟨hi_9, h⟩ := gd_some h
      obtain ⟨g_10, eg_10, h⟩ := bnd_some h
      refine x_iastM C hM 47 (by decide) (eM_47 Θ) hi_9 eg_10 (kX12_isSo (i := 28) rfl) (fun H locs hM => ?_)
      refine lv_aload_n hx hb (kX12_isSo (i := 29) rfl) rfl (lv_at hl 0 rfl) ?_
      refine gX12_names C hM q_fX12_164 (kX12_isSo (i := 30) rfl) ?_
      refine x_iconst hx hb (kX12_isSo (i := 31) rfl) ?_
      refine lv_aload_n hx hb (kX12_isSo (i := 32) rfl) rfl (lv_at hl 0 rfl) ?_
      refine gX12_sick C hM q_fX12_81 (kX12_isSo (i := 33) rfl) ?_
      refine x_iload_n hx hb (kX12_isSo (i := 34) rfl) rfl (lv_at hl 2 rfl) ?_
      obtain ⟨hi_11, h⟩ := gd_some h
      refine x_ialdM C hM 21 (by decide) (eM_21 Θ) hi_11 (kX12_isSo (i := 35) rfl) ?_
      obtain ⟨hi_12, h⟩ := gd_some h
      obtain ⟨g_13, eg_13, h⟩ := bnd_some h
      refine x_iastM C hM 47 (by decide) (eM_47 Θ) hi_12 eg_13 (kX12_isSo (i := 36) rfl) (fun H locs hM => ?_)
      refine lv_aload_n hx hb (kX12_isSo (i := 37) rfl) rfl (lv_at hl 0 rfl) ?_
      refine gX12_names C hM q_fX12_164 (kX12_isSo (i := 38) rfl) ?_
      refine x_iconst hx hb (kX12_isSo (i := 39) rfl) ?_
      refine lv_aload_n hx hb (kX12_isSo (i := 40) rfl) rfl (lv_at hl 0 rfl) ?_
      refine x_iload_n hx hb (kX12_isSo (i := 41) rfl) rfl (lv_at hl 3 rfl) ?_
      obtain ⟨r_14, hc_15, h⟩ := bd_some h
      refine x_callV (n := 1) (As := [vi a2]) (rest := [vi 4, .ref (Θ.2.2.2 47)]) C hM (tX12_seaIn l Θ a2 h0 g_13 r_14 hc_15) (x_recvM C hM 0 (by decide) (eM_0 Θ _) rfl rfl) q_c_X12_seaIn q_mX12_233 q_i_X12_seaIn q_e_X12_seaIn q_n_X12 (by decide +kernel) ⟨by decide, by decide⟩ rfl hl.1 rfl (Nat.le_of_ble_eq_true rfl) (kX12_isSo (i := 42) rfl) (fun H locs hM => ?_)
      obtain ⟨hi_16, h⟩ := gd_some h
      obtain ⟨g_17, eg_17, h⟩ := bnd_some h
      refine x_iastM C hM 47 (by decide) (eM_47 Θ) hi_16 eg_17 (kX12_isSo (i := 43) rfl) (fun H locs hM => ?_)
      refine lv_aload_n hx hb (kX12_isSo (i := 44) rfl) rfl (lv_at hl 0 rfl) ?_
      refine gX12_names C hM q_fX12_164 (kX12_isSo (i := 45) rfl) ?_
      refine x_iconst hx hb (kX12_isSo (i := 46) rfl) ?_
      refine x_iconst hx hb (kX12_isSo (i := 47) rfl) ?_
      obtain ⟨hi_18, h⟩ := gd_some h
      obtain ⟨g_19, eg_19, h⟩ := bnd_some h
      refine x_iastM C hM 47 (by decide) (eM_47 Θ) hi_18 eg_19 (kX12_isSo (i := 48) rfl) (fun H locs hM => ?_)
      refine lv_aload_n hx hb (kX12_isSo (i := 49) rfl) rfl (lv_at hl 0 rfl) ?_
      refine gX12_names C hM q_fX12_164 (kX12_isSo (i := 50) rfl) ?_
      refine x_bipush hx hb (by decide) (kX12_isSo (i := 51) rfl) ?_
      refine x_iconst hx hb (kX12_isSo (i := 52) rfl) ?_
      obtain ⟨hi_20, h⟩ := gd_some h
      obtain ⟨g_21, eg_21, h⟩ := bnd_some h
      refine x_iastM C hM 47 (by decide) (eM_47 Θ) hi_20 eg_21 (kX12_isSo (i := 53) rfl) (fun H locs hM => ?_)
      refine x_iconst hx hb (kX12_isSo (i := 54) rfl) ?_
      refine x_istore (lv' := [(4, vi 0), (0, .ref (Θ.2.2.2 0)), (1, vi a0), (2, vi a1), (3, vi a2)]) hx hb (kX12_isSo (i := 55) rfl) hl (by decide) rfl (fun ls hl => ?_)
      refine wX12_isSo_L84  C fuel a0 a1 0 g_21 H locs ls h ?_ hM (lv_sub hl [1, 2, 3, 0] rfl)
      · intro z_30 z_31 g_32 H locs ls h hM hl
        refine x_iconst hx hb (kX12_isSo (i := 81) rfl) ?_
        refine x_istore (lv' := [(4, vi 0), (0, .ref (Θ.2.2.2 0)), (1, vi z_30), (2, vi z_31)]) hx hb (kX12_isSo (i := 82) rfl) hl (by decide) rfl (fun ls hl => ?_)
        refine wX12_isSo_L131  C fuel z_30 z_31 0 g_32 H locs ls h ?_ hM (lv_sub hl [1, 2, 3, 0] rfl)
        · intro z_44 g_45 H locs ls h hM hl
          refine x_iconst hx hb (kX12_isSo (i := 117) rfl) ?_
          refine x_istore (lv' := [(4, vi 0), (0, .ref (Θ.2.2.2 0)), (1, vi z_44)]) hx hb (kX12_isSo (i := 118) rfl) hl (by decide) rfl (fun ls hl => ?_)
          refine lv_aload_n hx hb (kX12_isSo (i := 119) rfl) rfl (lv_at hl 1 rfl) ?_
          refine gX12_ruleBegin C hM q_fX12_151 (kX12_isSo (i := 120) rfl) ?_
          refine x_iload_n hx hb (kX12_isSo (i := 121) rfl) rfl (lv_at hl 2 rfl) ?_
          obtain ⟨hi_46, h⟩ := gd_some h
          refine x_ialdM C hM 43 (by decide) (eM_43 Θ) hi_46 (kX12_isSo (i := 122) rfl) ?_
          obtain ⟨x_47, ex_47, h⟩ := bnd_some h
          refine x_top ex_47 ?_
          refine x_istore (lv' := [(5, vi x_47), (4, vi 0), (0, .ref (Θ.2.2.2 0)), (1, vi z_44)]) hx hb (kX12_isSo (i := 123) rfl) hl (by decide) rfl (fun ls hl => ?_)
          refine wX12_isSo_L204  C fuel z_44 0 x_47 g_45 H locs ls h ?_ hM (lv_sub hl [2, 3, 1, 0] rfl)
          · intro g_75 H locs ls h hM hl
            refine lv_aload_n hx hb (kX12_isSo (i := 197) rfl) rfl (lv_at hl 0 rfl) ?_
            refine gX12_heap C hM q_fX12_167 (kX12_isSo (i := 198) rfl) ?_
            refine x_iconst hx hb (kX12_isSo (i := 199) rfl) ?_
            obtain ⟨hi_76, h⟩ := gd_some h
            refine x_ialdM C hM 48 (by decide) (eM_48 Θ) hi_76 (kX12_isSo (i := 200) rfl) ?_
            refine x_if_eq (a' := wr (g_75 48 (wr 0).toNat)) hx hb rfl (tgt := 352) (kX12_isSo (i := 201) rfl) (by decide) (fun c_77 => ?_) (fun c_77 => ?_)
            · have h := it_t c_77 h
              refine x_iconst hx hb (kX12_isSo (i := 204) rfl) ?_
              obtain ⟨q1, q2⟩ := ret2 h
              rw [q1, q2]
              exact x_iret C hM (nar_z (Or.inl rfl)) (kX12_isSo (i := 205) rfl)
            · have h := it_f c_77 h
              refine x_iconst hx hb (kX12_isSo (i := 202) rfl) ?_
              refine lv_goto (tgt := 353) hx hb (kX12_isSo (i := 203) rfl) (by decide) ?_
              obtain ⟨q1, q2⟩ := ret2 h
              rw [q1, q2]
              exact x_iret C hM (nar_z (Or.inr rfl)) (kX12_isSo (i := 205) rfl)
    · have h := it_t c_2 h
      refine x_iconst hx hb (kX12_isSo (i := 6) rfl) ?_
      obtain ⟨q1, q2⟩ := ret2 h
      rw [q1, q2]
      exact x_iret C hM (nar_z (Or.inr rfl)) (kX12_isSo (i := 7) rfl)
  exact key _ _ hM

/-! X12_goesOn -/
def fX12_goesOn_L363 : Nat → Int → Int → Int → Mem → Option (Int × Mem)
  | 0, _, _, _, _ => none
  | n + 1, y1, y7, y8, g =>
    if wr (g 0 15) ≤ wr y8 then (
      some (1, g)
    ) else (
      bnd ((6 * y1) + y8) fun x_72 =>
      jn (fun (v_73 : Int) =>
        jn (fun (g_74 : Mem) =>
          gd x_72 12 <|
          gc (v_73 = 0 ∨ v_73 = 1) <|
          bnd (up g_74 24 (wr x_72).toNat v_73) fun g_77 =>
          bnd (y8 + 1) fun x_78 =>
          fX12_goesOn_L363 n y1 y7 x_78 g_77
        ) fun J451 =>
        if wr v_73 = 0 then (
          J451 g
        ) else (
          gd x_72 12 <|
          if wr (g 24 (wr x_72).toNat) = 0 then (
            gd x_72 12 <|
            gd x_72 12 <|
            bnd (up g 25 (wr x_72).toNat ((g 25 (wr x_72).toNat) + 1)) fun g_84 =>
            J451 g_84
          ) else (
            J451 g
          )
        )
      ) fun J423 =>
      jn (fun (_ : Unit) =>
        J423 0
      ) fun J422 =>
      if wr y7 = (-2147483648) then (
        J422 ()
      ) else (
        gd y8 6 <|
        gd y1 2 <|
        gd y8 6 <|
        if wr (y7 + ((g 19 (wr y1).toNat) * (g 13 (wr y8).toNat))) < wr (100 * (g 14 (wr y8).toNat)) then (
          J422 ()
        ) else (
          J423 1
        )
      )
    )
def fX12_goesOn (a0 : Int) (a1 : Int) (a2 : Int) (g : Mem) : Option (Int × Mem) :=
  bnd (up g 0 70 0) fun g_1 =>
  gd a0 2 <|
  if wr (g_1 23 (wr a0).toNat) = 0 then (
    bd (fX12_slides a0 g_1) fun g_6 =>
    gd a0 2 <|
    bd2 (fX12_levelAt (g_6 19 (wr a0).toNat) g_6) fun r_8 g_10 =>
    if wr r_8 = (-2147483648) then (
      gd a0 2 <|
      bnd (up g_10 23 (wr a0).toNat 1) fun g_102 =>
      some (0, g_102)
    ) else (
      bnd (4 * a0) fun x_12 =>
      gd a0 2 <|
      bd (fX12_armAt a0 (g_10 19 (wr a0).toNat) g_10) fun r_14 =>
      gc (¬ wl (wr (g_10 0 22)) = 0) <|
      gd x_12 8 <|
      bnd (up g_10 26 (wr x_12).toNat (Int.tdiv (wl (-r_14)) (wl (wr (g_10 0 22))))) fun g_18 =>
      bd (fX12_seaIn a1 g_18) fun r_19 =>
      gd (x_12 + 1) 8 <|
      bnd (up g_18 26 (wr (x_12 + 1)).toNat r_19) fun g_22 =>
      gd a0 2 <|
      gd (x_12 + 2) 8 <|
      bnd (up g_22 26 (wr (x_12 + 2)).toNat (Int.tdiv (wr ((-(g_22 20 (wr a0).toNat)) * (g_22 0 23))) (10))) fun g_25 =>
      bd2 (fX12_isSo 1 a0 a1 g_25) fun r_26 g_28 =>
      jn (fun (v_29 : Int) =>
        gd (x_12 + 3) 8 <|
        bnd (up g_28 26 (wr (x_12 + 3)).toNat v_29) fun g_31 =>
        gd x_12 8 <|
        gd (x_12 + 1) 8 <|
        gd (x_12 + 2) 8 <|
        gd (x_12 + 3) 8 <|
        bd (fX12_bounded ((((wr (g_31 26 (wr x_12).toNat)) + (wr (g_31 26 (wr (x_12 + 1)).toNat))) + (wr (g_31 26 (wr (x_12 + 2)).toNat))) + (wr (g_31 26 (wr (x_12 + 3)).toNat))) 1000) fun r_36 =>
        bnd (up g_31 0 70 r_36) fun g_38 =>
        gd a0 2 <|
        gc (¬ wr (g_38 0 24) = 0) <|
        bd (fX12_bounded (wr ((g_38 20 (wr a0).toNat) + (Int.tdiv (wr (g_38 0 70)) (wr (g_38 0 24))))) 30) fun r_41 =>
        gd a0 2 <|
        bnd (up g_38 20 (wr a0).toNat r_41) fun g_44 =>
        gd a0 2 <|
        gd a0 2 <|
        bnd ((g_44 19 (wr a0).toNat) + (g_44 20 (wr a0).toNat)) fun x_47 =>
        bd (fX12_bounded (wr x_47) 80) fun r_48 =>
        gd a0 2 <|
        bnd (up g_44 19 (wr a0).toNat r_48) fun g_51 =>
        gd a0 2 <|
        jn (fun (v_53 : Int) =>
          gd a0 2 <|
          gc (v_53 = 0 ∨ v_53 = 1) <|
          bnd (up g_51 23 (wr a0).toNat v_53) fun g_56 =>
          gd a0 2 <|
          jn (fun (v_58 : Int) =>
            gd a0 2 <|
            jn (fun (v_60 : Int) =>
              gd a0 2 <|
              bnd (up g_56 21 (wr a0).toNat ((g_56 21 (wr a0).toNat) + v_60)) fun g_62 =>
              bd2 (fX12_isSo 0 a0 a1 g_62) fun r_63 g_65 =>
              jn (fun (g_66 : Mem) =>
                gd a0 2 <|
                bd2 (fX12_levelAt (g_66 19 (wr a0).toNat) g_66) fun r_68 g_70 =>
                fX12_goesOn_L363 fuel a0 r_68 0 g_70
              ) fun J348 =>
              if wr r_63 = 0 then (
                J348 g_65
              ) else (
                gd a0 2 <|
                gd a0 2 <|
                bnd (up g_65 22 (wr a0).toNat ((g_65 22 (wr a0).toNat) + 1)) fun g_93 =>
                J348 g_93
              )
            ) fun J326 =>
            if wr v_58 ≤ 4 then (
              J326 0
            ) else (
              J326 (v_58 - 4)
            )
          ) fun J303 =>
          if 0 ≤ wr (g_56 20 (wr a0).toNat) then (
            gd a0 2 <|
            J303 (g_56 20 (wr a0).toNat)
          ) else (
            gd a0 2 <|
            J303 (-(g_56 20 (wr a0).toNat))
          )
        ) fun J277 =>
        if wr x_47 = wr (g_51 19 (wr a0).toNat) then (
          J277 0
        ) else (
          J277 1
        )
      ) fun J147 =>
      if wr r_26 = 0 then (
        J147 0
      ) else (
        gd a0 2 <|
        J147 (Int.tdiv (wr ((-(g_28 20 (wr a0).toNat)) * a2)) (4))
      )
    )
  ) else (
    some (0, g_1)
  )
set_option maxRecDepth 100000 in
set_option maxHeartbeats 4000000 in
theorem wX12_goesOn_L363 {p : Program} {l : Launch} {e : Env} {s : State} {m : MethodId} {args : Array Value} {below : List Frame} {meth : Method} {c : Code} {Θ : Th} {h0 : Mem} {rv : Int} {gR : Mem} (C : Cx p s m args meth c cX12_goesOn 11 RX12 (some .boolean) Θ) : ∀ (n : Nat) (y1 : Int) (y7 : Int) (y8 : Int) (g : Mem) (H : Heap) (locs : List Loc) (ls : Array Slot), fX12_goesOn_L363 n y1 y7 y8 g = some (rv, gR) → Hd Θ s h0 g H locs → lv_has ls 11 [(0, .ref (Θ.2.2.2 0)), (1, vi y1), (7, vi y7), (8, vi y8)] → W p l e { frames := 3, cells := 0, slots := 0, locals := 71 } s m args below meth c H locs 0 0 (MQ below (Qx Θ s.heap.size h0 gR (some (vi rv))) args s 0 0 (AA Θ s.heap.size)) (F0 m 363 ls []) := by
  intro n
  obtain ⟨hx, hb, hml, hown, hts, -⟩ := id C
  induction n with
  | zero => intro y1 y7 y8 g H locs ls h; cases h
  | succ n ih =>
    intro y1 y7 y8 g H locs ls h  hM hl
    rw [fX12_goesOn_L363] at h
    refine x_iload hx hb (kX12_goesOn (i := 232) rfl) (lv_at hl 3 rfl) ?_
    refine lv_aload_n hx hb (kX12_goesOn (i := 233) rfl) rfl (lv_at hl 0 rfl) ?_
    refine gX12_marks C hM q_fX12_191 (kX12_goesOn (i := 234) rfl) ?_
    refine x_icmp_ge (a' := wr y8) (b' := wr (g 0 15)) hx hb rfl rfl (tgt := 466) (kX12_goesOn (i := 235) rfl) (by decide) (fun c_71 => ?_) (fun c_71 => ?_)
    · have h := it_t c_71 h
      refine x_iconst hx hb (kX12_goesOn (i := 289) rfl) ?_
      obtain ⟨q1, q2⟩ := ret2 h
      rw [q1, q2]
      exact x_iret C hM (nar_z (Or.inr rfl)) (kX12_goesOn (i := 290) rfl)
    · have h := it_f c_71 h
      refine x_bipush hx hb (by decide) (kX12_goesOn (i := 236) rfl) ?_
      refine x_iload_n hx hb (kX12_goesOn (i := 237) rfl) rfl (lv_at hl 1 rfl) ?_
      refine x_imul hx hb (kX12_goesOn (i := 238) rfl) ?_
      refine x_iload hx hb (kX12_goesOn (i := 239) rfl) (lv_at hl 3 rfl) ?_
      refine x_iadd hx hb (kX12_goesOn (i := 240) rfl) ?_
      obtain ⟨x_72, ex_72, h⟩ := bnd_some h
      refine x_top ex_72 ?_
      refine x_istore (lv' := [(9, vi x_72), (0, .ref (Θ.2.2.2 0)), (1, vi y1), (7, vi y7), (8, vi y8)]) hx hb (kX12_goesOn (i := 241) rfl) hl (by decide) rfl (fun ls hl => ?_)
      refine x_iload hx hb (kX12_goesOn (i := 242) rfl) (lv_at hl 3 rfl) ?_
      refine x_ldc (n := (-2147483648)) hx hb hown (hts _ q_kX12_205) (kX12_goesOn (i := 243) rfl) ?_
      refine jn_go h (fun J423 : Int → Option (Int × Mem) => ∀ (v_73 : Int) (H : Heap) (locs : List Loc) (ls : Array Slot), J423 v_73 = some (rv, gR) → Hd Θ s h0 g H locs → lv_has ls 11 [(0, .ref (Θ.2.2.2 0)), (1, vi y1), (7, vi y7), (8, vi y8), (9, vi x_72)] → W p l e { frames := 3, cells := 0, slots := 0, locals := 71 } s m args below meth c H locs 0 0 (MQ below (Qx Θ s.heap.size h0 gR (some (vi rv))) args s 0 0 (AA Θ s.heap.size)) (F0 m 423 ls [vi v_73])) ?_ ?_
      · intro v_73 H locs ls h hM hl
        refine x_istore (lv' := [(10, vi v_73), (0, .ref (Θ.2.2.2 0)), (1, vi y1), (7, vi y7), (8, vi y8), (9, vi x_72)]) hx hb (kX12_goesOn (i := 266) rfl) hl (by decide) rfl (fun ls hl => ?_)
        refine x_iload hx hb (kX12_goesOn (i := 267) rfl) (lv_at hl 0 rfl) ?_
        refine jn_go h (fun J451 : Mem → Option (Int × Mem) => ∀ (g_74 : Mem) (H : Heap) (locs : List Loc) (ls : Array Slot), J451 g_74 = some (rv, gR) → Hd Θ s h0 g_74 H locs → lv_has ls 11 [(0, .ref (Θ.2.2.2 0)), (1, vi y1), (7, vi y7), (8, vi y8), (9, vi x_72), (10, vi v_73)] → W p l e { frames := 3, cells := 0, slots := 0, locals := 71 } s m args below meth c H locs 0 0 (MQ below (Qx Θ s.heap.size h0 gR (some (vi rv))) args s 0 0 (AA Θ s.heap.size)) (F0 m 451 ls [])) ?_ ?_
        · intro g_74 H locs ls h hM hl
          refine lv_aload_n hx hb (kX12_goesOn (i := 282) rfl) rfl (lv_at hl 0 rfl) ?_
          refine gX12_isWet C hM q_fX12_90 (kX12_goesOn (i := 283) rfl) ?_
          refine x_iload hx hb (kX12_goesOn (i := 284) rfl) (lv_at hl 4 rfl) ?_
          refine x_iload hx hb (kX12_goesOn (i := 285) rfl) (lv_at hl 5 rfl) ?_
          obtain ⟨hi_75, h⟩ := gd_some h
          obtain ⟨hz_76, h⟩ := gc_some h
          obtain ⟨g_77, eg_77, h⟩ := bnd_some h
          refine x_zastM C hM 24 (by decide) (eM_24 Θ) hi_75 hz_76 eg_77 (kX12_goesOn (i := 286) rfl) (fun H locs hM => ?_)
          obtain ⟨x_78, ex_78, h⟩ := bnd_some h
          refine x_iinc (k := 3) (lv' := [(8, vi x_78), (0, .ref (Θ.2.2.2 0)), (1, vi y1), (7, vi y7), (9, vi x_72), (10, vi v_73)]) hx hb (kX12_goesOn (i := 287) rfl) hl rfl ex_78 (by decide) rfl (fun ls hl => ?_)
          refine lv_goto (tgt := 363) hx hb (kX12_goesOn (i := 288) rfl) (by decide) ?_
          exact ih y1 y7 x_78 g_77 H locs ls h hM (lv_sub hl [1, 2, 3, 0] rfl)
        intro J451 hJ451 h
        refine x_if_eq (a' := wr v_73) hx hb rfl (tgt := 451) (kX12_goesOn (i := 268) rfl) (by decide) (fun c_79 => ?_) (fun c_79 => ?_)
        · have h := it_t c_79 h
          exact hJ451 g H locs ls h hM (lv_sub hl [1, 2, 3, 4, 5, 0] rfl)
        · have h := it_f c_79 h
          refine lv_aload_n hx hb (kX12_goesOn (i := 269) rfl) rfl (lv_at hl 1 rfl) ?_
          refine gX12_isWet C hM q_fX12_90 (kX12_goesOn (i := 270) rfl) ?_
          refine x_iload hx hb (kX12_goesOn (i := 271) rfl) (lv_at hl 5 rfl) ?_
          obtain ⟨hi_80, h⟩ := gd_some h
          refine x_zaldM C hM 24 (by decide) (eM_24 Θ) hi_80 (kX12_goesOn (i := 272) rfl) ?_
          refine x_if_ne (a' := wr (g 24 (wr x_72).toNat)) hx hb rfl (tgt := 451) (kX12_goesOn (i := 273) rfl) (by decide) (fun c_81 => ?_) (fun c_81 => ?_)
          · have h := it_f c_81 h
            exact hJ451 g H locs ls h hM (lv_sub hl [1, 2, 3, 4, 5, 0] rfl)
          · have h := it_t c_81 h
            refine lv_aload_n hx hb (kX12_goesOn (i := 274) rfl) rfl (lv_at hl 1 rfl) ?_
            refine gX12_wetted C hM q_fX12_93 (kX12_goesOn (i := 275) rfl) ?_
            refine x_iload hx hb (kX12_goesOn (i := 276) rfl) (lv_at hl 5 rfl) ?_
            refine lv_dup2_11 hx hb (kX12_goesOn (i := 277) rfl) rfl rfl ?_
            obtain ⟨hi_82, h⟩ := gd_some h
            refine x_ialdM C hM 25 (by decide) (eM_25 Θ) hi_82 (kX12_goesOn (i := 278) rfl) ?_
            refine x_iconst hx hb (kX12_goesOn (i := 279) rfl) ?_
            refine x_iadd hx hb (kX12_goesOn (i := 280) rfl) ?_
            obtain ⟨hi_83, h⟩ := gd_some h
            obtain ⟨g_84, eg_84, h⟩ := bnd_some h
            refine x_iastM C hM 25 (by decide) (eM_25 Θ) hi_83 eg_84 (kX12_goesOn (i := 281) rfl) (fun H locs hM => ?_)
            exact hJ451 g_84 H locs ls h hM (lv_sub hl [1, 2, 3, 4, 5, 0] rfl)
      intro J423 hJ423 h
      refine jn_go h (fun J422 : Unit → Option (Int × Mem) => ∀ (H : Heap) (locs : List Loc) (ls : Array Slot), J422 () = some (rv, gR) → Hd Θ s h0 g H locs → lv_has ls 11 [(0, .ref (Θ.2.2.2 0)), (1, vi y1), (7, vi y7), (8, vi y8), (9, vi x_72)] → W p l e { frames := 3, cells := 0, slots := 0, locals := 71 } s m args below meth c H locs 0 0 (MQ below (Qx Θ s.heap.size h0 gR (some (vi rv))) args s 0 0 (AA Θ s.heap.size)) (F0 m 422 ls [])) ?_ ?_
      · intro  H locs ls h hM hl
        refine x_iconst hx hb (kX12_goesOn (i := 265) rfl) ?_
        exact hJ423 0 H locs ls h hM (lv_sub hl [0, 1, 2, 3, 4] rfl)
      intro J422 hJ422 h
      refine x_icmp_eq (a' := wr y7) (b' := (-2147483648)) hx hb rfl (by decide) (tgt := 422) (kX12_goesOn (i := 244) rfl) (by decide) (fun c_85 => ?_) (fun c_85 => ?_)
      · have h := it_t c_85 h
        exact hJ422 H locs ls h hM (lv_sub hl [1, 2, 3, 4, 0] rfl)
      · have h := it_f c_85 h
        refine x_bipush hx hb (by decide) (kX12_goesOn (i := 245) rfl) ?_
        refine lv_aload_n hx hb (kX12_goesOn (i := 246) rfl) rfl (lv_at hl 1 rfl) ?_
        refine gX12_markHeight C hM q_fX12_50 (kX12_goesOn (i := 247) rfl) ?_
        refine x_iload hx hb (kX12_goesOn (i := 248) rfl) (lv_at hl 4 rfl) ?_
        obtain ⟨hi_86, h⟩ := gd_some h
        refine x_ialdM C hM 14 (by decide) (eM_14 Θ) hi_86 (kX12_goesOn (i := 249) rfl) ?_
        refine x_imul hx hb (kX12_goesOn (i := 250) rfl) ?_
        refine x_iload hx hb (kX12_goesOn (i := 251) rfl) (lv_at hl 3 rfl) ?_
        refine lv_aload_n hx hb (kX12_goesOn (i := 252) rfl) rfl (lv_at hl 1 rfl) ?_
        refine gX12_slope C hM q_fX12_75 (kX12_goesOn (i := 253) rfl) ?_
        refine x_iload_n hx hb (kX12_goesOn (i := 254) rfl) rfl (lv_at hl 2 rfl) ?_
        obtain ⟨hi_87, h⟩ := gd_some h
        refine x_ialdM C hM 19 (by decide) (eM_19 Θ) hi_87 (kX12_goesOn (i := 255) rfl) ?_
        refine lv_aload_n hx hb (kX12_goesOn (i := 256) rfl) rfl (lv_at hl 1 rfl) ?_
        refine gX12_markPlace C hM q_fX12_47 (kX12_goesOn (i := 257) rfl) ?_
        refine x_iload hx hb (kX12_goesOn (i := 258) rfl) (lv_at hl 4 rfl) ?_
        obtain ⟨hi_88, h⟩ := gd_some h
        refine x_ialdM C hM 13 (by decide) (eM_13 Θ) hi_88 (kX12_goesOn (i := 259) rfl) ?_
        refine x_imul hx hb (kX12_goesOn (i := 260) rfl) ?_
        refine x_iadd hx hb (kX12_goesOn (i := 261) rfl) ?_
        refine x_icmp_gt (a' := wr (100 * (g 14 (wr y8).toNat))) (b' := wr (y7 + ((g 19 (wr y1).toNat) * (g 13 (wr y8).toNat)))) hx hb rfl rfl (tgt := 422) (kX12_goesOn (i := 262) rfl) (by decide) (fun c_89 => ?_) (fun c_89 => ?_)
        · have h := it_t c_89 h
          exact hJ422 H locs ls h hM (lv_sub hl [1, 2, 3, 4, 0] rfl)
        · have h := it_f c_89 h
          refine x_iconst hx hb (kX12_goesOn (i := 263) rfl) ?_
          refine lv_goto (tgt := 423) hx hb (kX12_goesOn (i := 264) rfl) (by decide) ?_
          exact hJ423 1 H locs ls h hM (lv_sub hl [1, 2, 3, 4, 0] rfl)
set_option maxRecDepth 100000 in
set_option maxHeartbeats 4000000 in
theorem tX12_goesOn (l : Launch) (Θ : Th) (a0 : Int) (a1 : Int) (a2 : Int) (h0 g : Mem) (rv : Int) (gR : Mem) (h : fX12_goesOn a0 a1 a2 g = some (rv, gR)) : Ct l yX12_goesOn cX12_goesOn 11 (some .boolean) 3 71 Θ [.ref (Θ.2.2.2 0), vi a0, vi a1, vi a2] h0 g h0 gR (some (vi rv)) := by
  refine x_start (by decide) (Nat.le_of_ble_eq_true rfl) ?_
  intro p e s m args below meth c ls C hM hl
  have hl : lv_has ls 11 [(0, .ref (Θ.2.2.2 0)), (1, vi a0), (2, vi a1), (3, vi a2)] := hl
  obtain ⟨hx, hb, hml, hown, hts, -⟩ := id C
  unfold fX12_goesOn at h
  have key : ∀ (H : Heap) (locs : List Loc), Hd Θ s h0 g H locs → W p l e { frames := 3, cells := 0, slots := 0, locals := 71 } s m args below meth c H locs 0 0 (MQ below (Qx Θ s.heap.size h0 gR (some (vi rv))) args s 0 0 (AA Θ s.heap.size)) (F0 m 0 ls []) := by
    intro H locs hM
    refine lv_aload_n hx hb (kX12_goesOn (i := 0) rfl) rfl (lv_at hl 0 rfl) ?_
    refine x_iconst hx hb (kX12_goesOn (i := 1) rfl) ?_
    obtain ⟨g_1, eg_1, h⟩ := bnd_some h
    refine pX12_force C hM q_fX12_240 eg_1 (kX12_goesOn (i := 2) rfl) (fun H locs hM => ?_)
    refine lv_aload_n hx hb (kX12_goesOn (i := 3) rfl) rfl (lv_at hl 0 rfl) ?_
    refine gX12_isOver C hM q_fX12_87 (kX12_goesOn (i := 4) rfl) ?_
    refine x_iload_n hx hb (kX12_goesOn (i := 5) rfl) rfl (lv_at hl 1 rfl) ?_
    obtain ⟨hi_2, h⟩ := gd_some h
    refine x_zaldM C hM 23 (by decide) (eM_23 Θ) hi_2 (kX12_goesOn (i := 6) rfl) ?_
    refine x_if_eq (a' := wr (g_1 23 (wr a0).toNat)) hx hb rfl (tgt := 16) (kX12_goesOn (i := 7) rfl) (by decide) (fun c_3 => ?_) (fun c_3 => ?_)
    · have h := it_t c_3 h
      refine lv_aload_n hx hb (kX12_goesOn (i := 10) rfl) rfl (lv_at hl 0 rfl) ?_
      refine x_iload_n hx hb (kX12_goesOn (i := 11) rfl) rfl (lv_at hl 1 rfl) ?_
      obtain ⟨g_6, hc_5, h⟩ := bd_some h
      refine x_callV (n := 1) (As := [vi a0]) (rest := []) C hM (tX12_slides l Θ a0 h0 g_1 g_6 hc_5) (x_recvM C hM 0 (by decide) (eM_0 Θ _) rfl rfl) q_c_X12_slides q_mX12_243 q_i_X12_slides q_e_X12_slides q_n_X12 (by decide +kernel) ⟨by decide, by decide⟩ rfl hl.1 rfl (Nat.le_of_ble_eq_true rfl) (kX12_goesOn (i := 12) rfl) (fun H locs hM => ?_)
      refine lv_aload_n hx hb (kX12_goesOn (i := 13) rfl) rfl (lv_at hl 0 rfl) ?_
      refine lv_aload_n hx hb (kX12_goesOn (i := 14) rfl) rfl (lv_at hl 0 rfl) ?_
      refine gX12_slope C hM q_fX12_75 (kX12_goesOn (i := 15) rfl) ?_
      refine x_iload_n hx hb (kX12_goesOn (i := 16) rfl) rfl (lv_at hl 1 rfl) ?_
      obtain ⟨hi_7, h⟩ := gd_some h
      refine x_ialdM C hM 19 (by decide) (eM_19 Θ) hi_7 (kX12_goesOn (i := 17) rfl) ?_
      obtain ⟨r_8, g_10, hc_9, h⟩ := bd2_some h
      refine x_callV (n := 1) (As := [vi (g_6 19 (wr a0).toNat)]) (rest := []) C hM (tX12_levelAt l Θ (g_6 19 (wr a0).toNat) h0 g_6 r_8 g_10 hc_9) (x_recvM C hM 0 (by decide) (eM_0 Θ _) rfl rfl) q_c_X12_levelAt q_mX12_214 q_i_X12_levelAt q_e_X12_levelAt q_n_X12 (by decide +kernel) ⟨by decide, by decide⟩ rfl hl.1 rfl (Nat.le_of_ble_eq_true rfl) (kX12_goesOn (i := 18) rfl) (fun H locs hM => ?_)
      refine x_ldc (n := (-2147483648)) hx hb hown (hts _ q_kX12_205) (kX12_goesOn (i := 19) rfl) ?_
      refine x_icmp_ne (a' := wr r_8) (b' := (-2147483648)) hx hb rfl (by decide) (tgt := 45) (kX12_goesOn (i := 20) rfl) (by decide) (fun c_11 => ?_) (fun c_11 => ?_)
      · have h := it_f c_11 h
        refine x_iconst hx hb (kX12_goesOn (i := 28) rfl) ?_
        refine x_iload_n hx hb (kX12_goesOn (i := 29) rfl) rfl (lv_at hl 1 rfl) ?_
        refine x_imul hx hb (kX12_goesOn (i := 30) rfl) ?_
        obtain ⟨x_12, ex_12, h⟩ := bnd_some h
        refine x_top ex_12 ?_
        refine x_istore (lv' := [(4, vi x_12), (0, .ref (Θ.2.2.2 0)), (1, vi a0), (2, vi a1), (3, vi a2)]) hx hb (kX12_goesOn (i := 31) rfl) hl (by decide) rfl (fun ls hl => ?_)
        refine lv_aload_n hx hb (kX12_goesOn (i := 32) rfl) rfl (lv_at hl 1 rfl) ?_
        refine gX12_part C hM q_fX12_96 (kX12_goesOn (i := 33) rfl) ?_
        refine x_iload hx hb (kX12_goesOn (i := 34) rfl) (lv_at hl 0 rfl) ?_
        refine lv_aload_n hx hb (kX12_goesOn (i := 35) rfl) rfl (lv_at hl 1 rfl) ?_
        refine x_iload_n hx hb (kX12_goesOn (i := 36) rfl) rfl (lv_at hl 2 rfl) ?_
        refine lv_aload_n hx hb (kX12_goesOn (i := 37) rfl) rfl (lv_at hl 1 rfl) ?_
        refine gX12_slope C hM q_fX12_75 (kX12_goesOn (i := 38) rfl) ?_
        refine x_iload_n hx hb (kX12_goesOn (i := 39) rfl) rfl (lv_at hl 2 rfl) ?_
        obtain ⟨hi_13, h⟩ := gd_some h
        refine x_ialdM C hM 19 (by decide) (eM_19 Θ) hi_13 (kX12_goesOn (i := 40) rfl) ?_
        obtain ⟨r_14, hc_15, h⟩ := bd_some h
        refine x_callV (n := 2) (As := [vi a0, vi (g_10 19 (wr a0).toNat)]) (rest := [vi x_12, .ref (Θ.2.2.2 26)]) C hM (tX12_armAt l Θ a0 (g_10 19 (wr a0).toNat) h0 g_10 r_14 hc_15) (x_recvM C hM 0 (by decide) (eM_0 Θ _) rfl rfl) q_c_X12_armAt q_mX12_218 q_i_X12_armAt q_e_X12_armAt q_n_X12 (by decide +kernel) ⟨by decide, by decide⟩ rfl hl.1 rfl (Nat.le_of_ble_eq_true rfl) (kX12_goesOn (i := 41) rfl) (fun H locs hM => ?_)
        refine x_lneg hx hb (kX12_goesOn (i := 42) rfl) ?_
        refine lv_aload_n hx hb (kX12_goesOn (i := 43) rfl) rfl (lv_at hl 1 rfl) ?_
        refine gX12_stiff C hM q_fX12_62 (kX12_goesOn (i := 44) rfl) ?_
        refine x_i2l (a' := wr (g_10 0 22)) hx hb rfl (kX12_goesOn (i := 45) rfl) ?_
        obtain ⟨hz_16, h⟩ := gc_some h
        refine x_ldiv hx hb (kX12_goesOn (i := 46) rfl) hz_16 ?_
        refine x_l2i hx hb (kX12_goesOn (i := 47) rfl) ?_
        obtain ⟨hi_17, h⟩ := gd_some h
        obtain ⟨g_18, eg_18, h⟩ := bnd_some h
        refine x_iastM C hM 26 (by decide) (eM_26 Θ) hi_17 eg_18 (kX12_goesOn (i := 48) rfl) (fun H locs hM => ?_)
        refine lv_aload_n hx hb (kX12_goesOn (i := 49) rfl) rfl (lv_at hl 1 rfl) ?_
        refine gX12_part C hM q_fX12_96 (kX12_goesOn (i := 50) rfl) ?_
        refine x_iload hx hb (kX12_goesOn (i := 51) rfl) (lv_at hl 0 rfl) ?_
        refine x_iconst hx hb (kX12_goesOn (i := 52) rfl) ?_
        refine x_iadd hx hb (kX12_goesOn (i := 53) rfl) ?_
        refine lv_aload_n hx hb (kX12_goesOn (i := 54) rfl) rfl (lv_at hl 1 rfl) ?_
        refine x_iload_n hx hb (kX12_goesOn (i := 55) rfl) rfl (lv_at hl 3 rfl) ?_
        obtain ⟨r_19, hc_20, h⟩ := bd_some h
        refine x_callV (n := 1) (As := [vi a1]) (rest := [vi (x_12 + 1), .ref (Θ.2.2.2 26)]) C hM (tX12_seaIn l Θ a1 h0 g_18 r_19 hc_20) (x_recvM C hM 0 (by decide) (eM_0 Θ _) rfl rfl) q_c_X12_seaIn q_mX12_233 q_i_X12_seaIn q_e_X12_seaIn q_n_X12 (by decide +kernel) ⟨by decide, by decide⟩ rfl hl.1 rfl (Nat.le_of_ble_eq_true rfl) (kX12_goesOn (i := 56) rfl) (fun H locs hM => ?_)
        obtain ⟨hi_21, h⟩ := gd_some h
        obtain ⟨g_22, eg_22, h⟩ := bnd_some h
        refine x_iastM C hM 26 (by decide) (eM_26 Θ) hi_21 eg_22 (kX12_goesOn (i := 57) rfl) (fun H locs hM => ?_)
        refine lv_aload_n hx hb (kX12_goesOn (i := 58) rfl) rfl (lv_at hl 1 rfl) ?_
        refine gX12_part C hM q_fX12_96 (kX12_goesOn (i := 59) rfl) ?_
        refine x_iload hx hb (kX12_goesOn (i := 60) rfl) (lv_at hl 0 rfl) ?_
        refine x_iconst hx hb (kX12_goesOn (i := 61) rfl) ?_
        refine x_iadd hx hb (kX12_goesOn (i := 62) rfl) ?_
        refine lv_aload_n hx hb (kX12_goesOn (i := 63) rfl) rfl (lv_at hl 1 rfl) ?_
        refine gX12_speed C hM q_fX12_78 (kX12_goesOn (i := 64) rfl) ?_
        refine x_iload_n hx hb (kX12_goesOn (i := 65) rfl) rfl (lv_at hl 2 rfl) ?_
        obtain ⟨hi_23, h⟩ := gd_some h
        refine x_ialdM C hM 20 (by decide) (eM_20 Θ) hi_23 (kX12_goesOn (i := 66) rfl) ?_
        refine x_ineg hx hb (kX12_goesOn (i := 67) rfl) ?_
        refine lv_aload_n hx hb (kX12_goesOn (i := 68) rfl) rfl (lv_at hl 1 rfl) ?_
        refine gX12_slow C hM q_fX12_66 (kX12_goesOn (i := 69) rfl) ?_
        refine x_imul hx hb (kX12_goesOn (i := 70) rfl) ?_
        refine x_bipush hx hb (by decide) (kX12_goesOn (i := 71) rfl) ?_
        refine x_idiv (a' := wr ((-(g_22 20 (wr a0).toNat)) * (g_22 0 23))) (b' := 10) hx hb (kX12_goesOn (i := 72) rfl) rfl (by decide) (by decide) ?_
        obtain ⟨hi_24, h⟩ := gd_some h
        obtain ⟨g_25, eg_25, h⟩ := bnd_some h
        refine x_iastM C hM 26 (by decide) (eM_26 Θ) hi_24 eg_25 (kX12_goesOn (i := 73) rfl) (fun H locs hM => ?_)
        refine lv_aload_n hx hb (kX12_goesOn (i := 74) rfl) rfl (lv_at hl 1 rfl) ?_
        refine gX12_part C hM q_fX12_96 (kX12_goesOn (i := 75) rfl) ?_
        refine x_iload hx hb (kX12_goesOn (i := 76) rfl) (lv_at hl 0 rfl) ?_
        refine x_iconst hx hb (kX12_goesOn (i := 77) rfl) ?_
        refine x_iadd hx hb (kX12_goesOn (i := 78) rfl) ?_
        refine lv_aload_n hx hb (kX12_goesOn (i := 79) rfl) rfl (lv_at hl 1 rfl) ?_
        refine x_iconst hx hb (kX12_goesOn (i := 80) rfl) ?_
        refine x_iload_n hx hb (kX12_goesOn (i := 81) rfl) rfl (lv_at hl 2 rfl) ?_
        refine x_iload_n hx hb (kX12_goesOn (i := 82) rfl) rfl (lv_at hl 3 rfl) ?_
        obtain ⟨r_26, g_28, hc_27, h⟩ := bd2_some h
        refine x_callV (n := 3) (As := [vi 1, vi a0, vi a1]) (rest := [vi (x_12 + 3), .ref (Θ.2.2.2 26)]) C hM (tX12_isSo l Θ 1 a0 a1 h0 g_25 r_26 g_28 hc_27) (x_recvM C hM 0 (by decide) (eM_0 Θ _) rfl rfl) q_c_X12_isSo q_mX12_247 q_i_X12_isSo q_e_X12_isSo q_n_X12 (by decide +kernel) ⟨by decide, by decide⟩ rfl hl.1 rfl (Nat.le_of_ble_eq_true rfl) (kX12_goesOn (i := 83) rfl) (fun H locs hM => ?_)
        refine jn_go h (fun J147 : Int → Option (Int × Mem) => ∀ (v_29 : Int) (H : Heap) (locs : List Loc) (ls : Array Slot), J147 v_29 = some (rv, gR) → Hd Θ s h0 g_28 H locs → lv_has ls 11 [(0, .ref (Θ.2.2.2 0)), (1, vi a0), (2, vi a1), (4, vi x_12)] → W p l e { frames := 3, cells := 0, slots := 0, locals := 71 } s m args below meth c H locs 0 0 (MQ below (Qx Θ s.heap.size h0 gR (some (vi rv))) args s 0 0 (AA Θ s.heap.size)) (F0 m 147 ls [vi v_29, vi (x_12 + 3), .ref (Θ.2.2.2 26)])) ?_ ?_
        · intro v_29 H locs ls h hM hl
          obtain ⟨hi_30, h⟩ := gd_some h
          obtain ⟨g_31, eg_31, h⟩ := bnd_some h
          refine x_iastM C hM 26 (by decide) (eM_26 Θ) hi_30 eg_31 (kX12_goesOn (i := 96) rfl) (fun H locs hM => ?_)
          refine lv_aload_n hx hb (kX12_goesOn (i := 97) rfl) rfl (lv_at hl 0 rfl) ?_
          refine lv_aload_n hx hb (kX12_goesOn (i := 98) rfl) rfl (lv_at hl 0 rfl) ?_
          refine gX12_part C hM q_fX12_96 (kX12_goesOn (i := 99) rfl) ?_
          refine x_iload hx hb (kX12_goesOn (i := 100) rfl) (lv_at hl 3 rfl) ?_
          obtain ⟨hi_32, h⟩ := gd_some h
          refine x_ialdM C hM 26 (by decide) (eM_26 Θ) hi_32 (kX12_goesOn (i := 101) rfl) ?_
          refine x_i2l (a' := wr (g_31 26 (wr x_12).toNat)) hx hb rfl (kX12_goesOn (i := 102) rfl) ?_
          refine lv_aload_n hx hb (kX12_goesOn (i := 103) rfl) rfl (lv_at hl 0 rfl) ?_
          refine gX12_part C hM q_fX12_96 (kX12_goesOn (i := 104) rfl) ?_
          refine x_iload hx hb (kX12_goesOn (i := 105) rfl) (lv_at hl 3 rfl) ?_
          refine x_iconst hx hb (kX12_goesOn (i := 106) rfl) ?_
          refine x_iadd hx hb (kX12_goesOn (i := 107) rfl) ?_
          obtain ⟨hi_33, h⟩ := gd_some h
          refine x_ialdM C hM 26 (by decide) (eM_26 Θ) hi_33 (kX12_goesOn (i := 108) rfl) ?_
          refine x_i2l (a' := wr (g_31 26 (wr (x_12 + 1)).toNat)) hx hb rfl (kX12_goesOn (i := 109) rfl) ?_
          refine x_ladd hx hb (kX12_goesOn (i := 110) rfl) ?_
          refine lv_aload_n hx hb (kX12_goesOn (i := 111) rfl) rfl (lv_at hl 0 rfl) ?_
          refine gX12_part C hM q_fX12_96 (kX12_goesOn (i := 112) rfl) ?_
          refine x_iload hx hb (kX12_goesOn (i := 113) rfl) (lv_at hl 3 rfl) ?_
          refine x_iconst hx hb (kX12_goesOn (i := 114) rfl) ?_
          refine x_iadd hx hb (kX12_goesOn (i := 115) rfl) ?_
          obtain ⟨hi_34, h⟩ := gd_some h
          refine x_ialdM C hM 26 (by decide) (eM_26 Θ) hi_34 (kX12_goesOn (i := 116) rfl) ?_
          refine x_i2l (a' := wr (g_31 26 (wr (x_12 + 2)).toNat)) hx hb rfl (kX12_goesOn (i := 117) rfl) ?_
          refine x_ladd hx hb (kX12_goesOn (i := 118) rfl) ?_
          refine lv_aload_n hx hb (kX12_goesOn (i := 119) rfl) rfl (lv_at hl 0 rfl) ?_
          refine gX12_part C hM q_fX12_96 (kX12_goesOn (i := 120) rfl) ?_
          refine x_iload hx hb (kX12_goesOn (i := 121) rfl) (lv_at hl 3 rfl) ?_
          refine x_iconst hx hb (kX12_goesOn (i := 122) rfl) ?_
          refine x_iadd hx hb (kX12_goesOn (i := 123) rfl) ?_
          obtain ⟨hi_35, h⟩ := gd_some h
          refine x_ialdM C hM 26 (by decide) (eM_26 Θ) hi_35 (kX12_goesOn (i := 124) rfl) ?_
          refine x_i2l (a' := wr (g_31 26 (wr (x_12 + 3)).toNat)) hx hb rfl (kX12_goesOn (i := 125) rfl) ?_
          refine x_ladd hx hb (kX12_goesOn (i := 126) rfl) ?_
          refine x_sipush hx hb (by decide) (kX12_goesOn (i := 127) rfl) ?_
          obtain ⟨r_36, hc_37, h⟩ := bd_some h
          refine x_callS (n := 2) (As := [vl ((((wr (g_31 26 (wr x_12).toNat)) + (wr (g_31 26 (wr (x_12 + 1)).toNat))) + (wr (g_31 26 (wr (x_12 + 2)).toNat))) + (wr (g_31 26 (wr (x_12 + 3)).toNat))), vi 1000]) (rest := [.ref (Θ.2.2.2 0)]) C hM (tX12_bounded l Θ ((((wr (g_31 26 (wr x_12).toNat)) + (wr (g_31 26 (wr (x_12 + 1)).toNat))) + (wr (g_31 26 (wr (x_12 + 2)).toNat))) + (wr (g_31 26 (wr (x_12 + 3)).toNat))) 1000 h0 g_31 r_36 hc_37) q_c_X12_bounded q_mX12_250 q_s_X12_bounded q_n_X12 (by decide +kernel) ⟨by decide, by decide⟩ rfl hl.1 rfl (Nat.le_of_ble_eq_true rfl) (kX12_goesOn (i := 128) rfl) (fun H locs hM => ?_)
          obtain ⟨g_38, eg_38, h⟩ := bnd_some h
          refine pX12_force C hM q_fX12_240 eg_38 (kX12_goesOn (i := 129) rfl) (fun H locs hM => ?_)
          refine lv_aload_n hx hb (kX12_goesOn (i := 130) rfl) rfl (lv_at hl 0 rfl) ?_
          refine gX12_speed C hM q_fX12_78 (kX12_goesOn (i := 131) rfl) ?_
          refine x_iload_n hx hb (kX12_goesOn (i := 132) rfl) rfl (lv_at hl 1 rfl) ?_
          refine lv_aload_n hx hb (kX12_goesOn (i := 133) rfl) rfl (lv_at hl 0 rfl) ?_
          refine gX12_speed C hM q_fX12_78 (kX12_goesOn (i := 134) rfl) ?_
          refine x_iload_n hx hb (kX12_goesOn (i := 135) rfl) rfl (lv_at hl 1 rfl) ?_
          obtain ⟨hi_39, h⟩ := gd_some h
          refine x_ialdM C hM 20 (by decide) (eM_20 Θ) hi_39 (kX12_goesOn (i := 136) rfl) ?_
          refine lv_aload_n hx hb (kX12_goesOn (i := 137) rfl) rfl (lv_at hl 0 rfl) ?_
          refine gX12_force C hM q_fX12_240 (kX12_goesOn (i := 138) rfl) ?_
          refine lv_aload_n hx hb (kX12_goesOn (i := 139) rfl) rfl (lv_at hl 0 rfl) ?_
          refine gX12_inert C hM q_fX12_69 (kX12_goesOn (i := 140) rfl) ?_
          obtain ⟨hz_40, h⟩ := gc_some h
          refine x_idiv (a' := wr (g_38 0 70)) (b' := wr (g_38 0 24)) hx hb (kX12_goesOn (i := 141) rfl) rfl rfl hz_40 ?_
          refine x_iadd hx hb (kX12_goesOn (i := 142) rfl) ?_
          refine x_i2l (a' := wr ((g_38 20 (wr a0).toNat) + (Int.tdiv (wr (g_38 0 70)) (wr (g_38 0 24))))) hx hb rfl (kX12_goesOn (i := 143) rfl) ?_
          refine x_bipush hx hb (by decide) (kX12_goesOn (i := 144) rfl) ?_
          obtain ⟨r_41, hc_42, h⟩ := bd_some h
          refine x_callS (n := 2) (As := [vl (wr ((g_38 20 (wr a0).toNat) + (Int.tdiv (wr (g_38 0 70)) (wr (g_38 0 24))))), vi 30]) (rest := [vi a0, .ref (Θ.2.2.2 20)]) C hM (tX12_bounded l Θ (wr ((g_38 20 (wr a0).toNat) + (Int.tdiv (wr (g_38 0 70)) (wr (g_38 0 24))))) 30 h0 g_38 r_41 hc_42) q_c_X12_bounded q_mX12_250 q_s_X12_bounded q_n_X12 (by decide +kernel) ⟨by decide, by decide⟩ rfl hl.1 rfl (Nat.le_of_ble_eq_true rfl) (kX12_goesOn (i := 145) rfl) (fun H locs hM => ?_)
          obtain ⟨hi_43, h⟩ := gd_some h
          obtain ⟨g_44, eg_44, h⟩ := bnd_some h
          refine x_iastM C hM 20 (by decide) (eM_20 Θ) hi_43 eg_44 (kX12_goesOn (i := 146) rfl) (fun H locs hM => ?_)
          refine lv_aload_n hx hb (kX12_goesOn (i := 147) rfl) rfl (lv_at hl 0 rfl) ?_
          refine gX12_slope C hM q_fX12_75 (kX12_goesOn (i := 148) rfl) ?_
          refine x_iload_n hx hb (kX12_goesOn (i := 149) rfl) rfl (lv_at hl 1 rfl) ?_
          obtain ⟨hi_45, h⟩ := gd_some h
          refine x_ialdM C hM 19 (by decide) (eM_19 Θ) hi_45 (kX12_goesOn (i := 150) rfl) ?_
          refine lv_aload_n hx hb (kX12_goesOn (i := 151) rfl) rfl (lv_at hl 0 rfl) ?_
          refine gX12_speed C hM q_fX12_78 (kX12_goesOn (i := 152) rfl) ?_
          refine x_iload_n hx hb (kX12_goesOn (i := 153) rfl) rfl (lv_at hl 1 rfl) ?_
          obtain ⟨hi_46, h⟩ := gd_some h
          refine x_ialdM C hM 20 (by decide) (eM_20 Θ) hi_46 (kX12_goesOn (i := 154) rfl) ?_
          refine x_iadd hx hb (kX12_goesOn (i := 155) rfl) ?_
          obtain ⟨x_47, ex_47, h⟩ := bnd_some h
          refine x_top ex_47 ?_
          refine x_istore (lv' := [(5, vi x_47), (0, .ref (Θ.2.2.2 0)), (1, vi a0), (2, vi a1), (4, vi x_12)]) hx hb (kX12_goesOn (i := 156) rfl) hl (by decide) rfl (fun ls hl => ?_)
          refine lv_aload_n hx hb (kX12_goesOn (i := 157) rfl) rfl (lv_at hl 1 rfl) ?_
          refine gX12_slope C hM q_fX12_75 (kX12_goesOn (i := 158) rfl) ?_
          refine x_iload_n hx hb (kX12_goesOn (i := 159) rfl) rfl (lv_at hl 2 rfl) ?_
          refine x_iload hx hb (kX12_goesOn (i := 160) rfl) (lv_at hl 0 rfl) ?_
          refine x_i2l (a' := wr x_47) hx hb rfl (kX12_goesOn (i := 161) rfl) ?_
          refine x_bipush hx hb (by decide) (kX12_goesOn (i := 162) rfl) ?_
          obtain ⟨r_48, hc_49, h⟩ := bd_some h
          refine x_callS (n := 2) (As := [vl (wr x_47), vi 80]) (rest := [vi a0, .ref (Θ.2.2.2 19)]) C hM (tX12_bounded l Θ (wr x_47) 80 h0 g_44 r_48 hc_49) q_c_X12_bounded q_mX12_250 q_s_X12_bounded q_n_X12 (by decide +kernel) ⟨by decide, by decide⟩ rfl hl.1 rfl (Nat.le_of_ble_eq_true rfl) (kX12_goesOn (i := 163) rfl) (fun H locs hM => ?_)
          obtain ⟨hi_50, h⟩ := gd_some h
          obtain ⟨g_51, eg_51, h⟩ := bnd_some h
          refine x_iastM C hM 19 (by decide) (eM_19 Θ) hi_50 eg_51 (kX12_goesOn (i := 164) rfl) (fun H locs hM => ?_)
          refine lv_aload_n hx hb (kX12_goesOn (i := 165) rfl) rfl (lv_at hl 1 rfl) ?_
          refine gX12_isOver C hM q_fX12_87 (kX12_goesOn (i := 166) rfl) ?_
          refine x_iload_n hx hb (kX12_goesOn (i := 167) rfl) rfl (lv_at hl 2 rfl) ?_
          refine x_iload hx hb (kX12_goesOn (i := 168) rfl) (lv_at hl 0 rfl) ?_
          refine lv_aload_n hx hb (kX12_goesOn (i := 169) rfl) rfl (lv_at hl 1 rfl) ?_
          refine gX12_slope C hM q_fX12_75 (kX12_goesOn (i := 170) rfl) ?_
          refine x_iload_n hx hb (kX12_goesOn (i := 171) rfl) rfl (lv_at hl 2 rfl) ?_
          obtain ⟨hi_52, h⟩ := gd_some h
          refine x_ialdM C hM 19 (by decide) (eM_19 Θ) hi_52 (kX12_goesOn (i := 172) rfl) ?_
          refine jn_go h (fun J277 : Int → Option (Int × Mem) => ∀ (v_53 : Int) (H : Heap) (locs : List Loc) (ls : Array Slot), J277 v_53 = some (rv, gR) → Hd Θ s h0 g_51 H locs → lv_has ls 11 [(0, .ref (Θ.2.2.2 0)), (1, vi a0), (2, vi a1)] → W p l e { frames := 3, cells := 0, slots := 0, locals := 71 } s m args below meth c H locs 0 0 (MQ below (Qx Θ s.heap.size h0 gR (some (vi rv))) args s 0 0 (AA Θ s.heap.size)) (F0 m 277 ls [vi v_53, vi a0, .ref (Θ.2.2.2 23)])) ?_ ?_
          · intro v_53 H locs ls h hM hl
            obtain ⟨hi_54, h⟩ := gd_some h
            obtain ⟨hz_55, h⟩ := gc_some h
            obtain ⟨g_56, eg_56, h⟩ := bnd_some h
            refine x_zastM C hM 23 (by decide) (eM_23 Θ) hi_54 hz_55 eg_56 (kX12_goesOn (i := 177) rfl) (fun H locs hM => ?_)
            refine lv_aload_n hx hb (kX12_goesOn (i := 178) rfl) rfl (lv_at hl 0 rfl) ?_
            refine gX12_speed C hM q_fX12_78 (kX12_goesOn (i := 179) rfl) ?_
            refine x_iload_n hx hb (kX12_goesOn (i := 180) rfl) rfl (lv_at hl 1 rfl) ?_
            obtain ⟨hi_57, h⟩ := gd_some h
            refine x_ialdM C hM 20 (by decide) (eM_20 Θ) hi_57 (kX12_goesOn (i := 181) rfl) ?_
            refine jn_go h (fun J303 : Int → Option (Int × Mem) => ∀ (v_58 : Int) (H : Heap) (locs : List Loc) (ls : Array Slot), J303 v_58 = some (rv, gR) → Hd Θ s h0 g_56 H locs → lv_has ls 11 [(0, .ref (Θ.2.2.2 0)), (1, vi a0), (2, vi a1)] → W p l e { frames := 3, cells := 0, slots := 0, locals := 71 } s m args below meth c H locs 0 0 (MQ below (Qx Θ s.heap.size h0 gR (some (vi rv))) args s 0 0 (AA Θ s.heap.size)) (F0 m 303 ls [vi v_58])) ?_ ?_
            · intro v_58 H locs ls h hM hl
              refine x_istore (lv' := [(6, vi v_58), (0, .ref (Θ.2.2.2 0)), (1, vi a0), (2, vi a1)]) hx hb (kX12_goesOn (i := 193) rfl) hl (by decide) rfl (fun ls hl => ?_)
              refine lv_aload_n hx hb (kX12_goesOn (i := 194) rfl) rfl (lv_at hl 1 rfl) ?_
              refine gX12_sick C hM q_fX12_81 (kX12_goesOn (i := 195) rfl) ?_
              refine x_iload_n hx hb (kX12_goesOn (i := 196) rfl) rfl (lv_at hl 2 rfl) ?_
              refine lv_dup2_11 hx hb (kX12_goesOn (i := 197) rfl) rfl rfl ?_
              obtain ⟨hi_59, h⟩ := gd_some h
              refine x_ialdM C hM 21 (by decide) (eM_21 Θ) hi_59 (kX12_goesOn (i := 198) rfl) ?_
              refine x_iload hx hb (kX12_goesOn (i := 199) rfl) (lv_at hl 0 rfl) ?_
              refine x_iconst hx hb (kX12_goesOn (i := 200) rfl) ?_
              refine jn_go h (fun J326 : Int → Option (Int × Mem) => ∀ (v_60 : Int) (H : Heap) (locs : List Loc) (ls : Array Slot), J326 v_60 = some (rv, gR) → Hd Θ s h0 g_56 H locs → lv_has ls 11 [(0, .ref (Θ.2.2.2 0)), (1, vi a0), (2, vi a1)] → W p l e { frames := 3, cells := 0, slots := 0, locals := 71 } s m args below meth c H locs 0 0 (MQ below (Qx Θ s.heap.size h0 gR (some (vi rv))) args s 0 0 (AA Θ s.heap.size)) (F0 m 326 ls [vi v_60, vi (g_56 21 (wr a0).toNat), vi a0, .ref (Θ.2.2.2 21)])) ?_ ?_
              · intro v_60 H locs ls h hM hl
                refine x_iadd hx hb (kX12_goesOn (i := 207) rfl) ?_
                obtain ⟨hi_61, h⟩ := gd_some h
                obtain ⟨g_62, eg_62, h⟩ := bnd_some h
                refine x_iastM C hM 21 (by decide) (eM_21 Θ) hi_61 eg_62 (kX12_goesOn (i := 208) rfl) (fun H locs hM => ?_)
                refine lv_aload_n hx hb (kX12_goesOn (i := 209) rfl) rfl (lv_at hl 0 rfl) ?_
                refine x_iconst hx hb (kX12_goesOn (i := 210) rfl) ?_
                refine x_iload_n hx hb (kX12_goesOn (i := 211) rfl) rfl (lv_at hl 1 rfl) ?_
                refine x_iload_n hx hb (kX12_goesOn (i := 212) rfl) rfl (lv_at hl 2 rfl) ?_
                obtain ⟨r_63, g_65, hc_64, h⟩ := bd2_some h
                refine x_callV (n := 3) (As := [vi 0, vi a0, vi a1]) (rest := []) C hM (tX12_isSo l Θ 0 a0 a1 h0 g_62 r_63 g_65 hc_64) (x_recvM C hM 0 (by decide) (eM_0 Θ _) rfl rfl) q_c_X12_isSo q_mX12_247 q_i_X12_isSo q_e_X12_isSo q_n_X12 (by decide +kernel) ⟨by decide, by decide⟩ rfl hl.1 rfl (Nat.le_of_ble_eq_true rfl) (kX12_goesOn (i := 213) rfl) (fun H locs hM => ?_)
                refine jn_go h (fun J348 : Mem → Option (Int × Mem) => ∀ (g_66 : Mem) (H : Heap) (locs : List Loc) (ls : Array Slot), J348 g_66 = some (rv, gR) → Hd Θ s h0 g_66 H locs → lv_has ls 11 [(0, .ref (Θ.2.2.2 0)), (1, vi a0)] → W p l e { frames := 3, cells := 0, slots := 0, locals := 71 } s m args below meth c H locs 0 0 (MQ below (Qx Θ s.heap.size h0 gR (some (vi rv))) args s 0 0 (AA Θ s.heap.size)) (F0 m 348 ls [])) ?_ ?_
                · intro g_66 H locs ls h hM hl
                  refine lv_aload_n hx hb (kX12_goesOn (i := 223) rfl) rfl (lv_at hl 0 rfl) ?_
                  refine lv_aload_n hx hb (kX12_goesOn (i := 224) rfl) rfl (lv_at hl 0 rfl) ?_
                  refine gX12_slope C hM q_fX12_75 (kX12_goesOn (i := 225) rfl) ?_
                  refine x_iload_n hx hb (kX12_goesOn (i := 226) rfl) rfl (lv_at hl 1 rfl) ?_
                  obtain ⟨hi_67, h⟩ := gd_some h
                  refine x_ialdM C hM 19 (by decide) (eM_19 Θ) hi_67 (kX12_goesOn (i := 227) rfl) ?_
                  obtain ⟨r_68, g_70, hc_69, h⟩ := bd2_some h
                  refine x_callV (n := 1) (As := [vi (g_66 19 (wr a0).toNat)]) (rest := []) C hM (tX12_levelAt l Θ (g_66 19 (wr a0).toNat) h0 g_66 r_68 g_70 hc_69) (x_recvM C hM 0 (by decide) (eM_0 Θ _) rfl rfl) q_c_X12_levelAt q_mX12_214 q_i_X12_levelAt q_e_X12_levelAt q_n_X12 (by decide +kernel) ⟨by decide, by decide⟩ rfl hl.1 rfl (Nat.le_of_ble_eq_true rfl) (kX12_goesOn (i := 228) rfl) (fun H locs hM => ?_)
                  refine x_istore (lv' := [(7, vi r_68), (0, .ref (Θ.2.2.2 0)), (1, vi a0)]) hx hb (kX12_goesOn (i := 229) rfl) hl (by decide) rfl (fun ls hl => ?_)
                  refine x_iconst hx hb (kX12_goesOn (i := 230) rfl) ?_
                  refine x_istore (lv' := [(8, vi 0), (7, vi r_68), (0, .ref (Θ.2.2.2 0)), (1, vi a0)]) hx hb (kX12_goesOn (i := 231) rfl) hl (by decide) rfl (fun ls hl => ?_)
                  refine wX12_goesOn_L363  C fuel a0 r_68 0 g_70 H locs ls h  hM (lv_sub hl [2, 3, 1, 0] rfl)
                intro J348 hJ348 h
                refine x_if_eq (a' := wr r_63) hx hb rfl (tgt := 348) (kX12_goesOn (i := 214) rfl) (by decide) (fun c_90 => ?_) (fun c_90 => ?_)
                · have h := it_t c_90 h
                  exact hJ348 g_65 H locs ls h hM (lv_sub hl [0, 1] rfl)
                · have h := it_f c_90 h
                  refine lv_aload_n hx hb (kX12_goesOn (i := 215) rfl) rfl (lv_at hl 0 rfl) ?_
                  refine gX12_worked C hM q_fX12_84 (kX12_goesOn (i := 216) rfl) ?_
                  refine x_iload_n hx hb (kX12_goesOn (i := 217) rfl) rfl (lv_at hl 1 rfl) ?_
                  refine lv_dup2_11 hx hb (kX12_goesOn (i := 218) rfl) rfl rfl ?_
                  obtain ⟨hi_91, h⟩ := gd_some h
                  refine x_ialdM C hM 22 (by decide) (eM_22 Θ) hi_91 (kX12_goesOn (i := 219) rfl) ?_
                  refine x_iconst hx hb (kX12_goesOn (i := 220) rfl) ?_
                  refine x_iadd hx hb (kX12_goesOn (i := 221) rfl) ?_
                  obtain ⟨hi_92, h⟩ := gd_some h
                  obtain ⟨g_93, eg_93, h⟩ := bnd_some h
                  refine x_iastM C hM 22 (by decide) (eM_22 Θ) hi_92 eg_93 (kX12_goesOn (i := 222) rfl) (fun H locs hM => ?_)
                  exact hJ348 g_93 H locs ls h hM (lv_sub hl [0, 1] rfl)
              intro J326 hJ326 h
              refine x_icmp_le (a' := wr v_58) (b' := 4) hx hb rfl (by decide) (tgt := 325) (kX12_goesOn (i := 201) rfl) (by decide) (fun c_94 => ?_) (fun c_94 => ?_)
              · have h := it_t c_94 h
                refine x_iconst hx hb (kX12_goesOn (i := 206) rfl) ?_
                exact hJ326 0 H locs ls h hM (lv_sub hl [1, 2, 3] rfl)
              · have h := it_f c_94 h
                refine x_iload hx hb (kX12_goesOn (i := 202) rfl) (lv_at hl 0 rfl) ?_
                refine x_iconst hx hb (kX12_goesOn (i := 203) rfl) ?_
                refine x_isub hx hb (kX12_goesOn (i := 204) rfl) ?_
                refine lv_goto (tgt := 326) hx hb (kX12_goesOn (i := 205) rfl) (by decide) ?_
                exact hJ326 (v_58 - 4) H locs ls h hM (lv_sub hl [1, 2, 3] rfl)
            intro J303 hJ303 h
            refine x_if_ge (a' := wr (g_56 20 (wr a0).toNat)) hx hb rfl (tgt := 297) (kX12_goesOn (i := 182) rfl) (by decide) (fun c_95 => ?_) (fun c_95 => ?_)
            · have h := it_t c_95 h
              refine lv_aload_n hx hb (kX12_goesOn (i := 189) rfl) rfl (lv_at hl 0 rfl) ?_
              refine gX12_speed C hM q_fX12_78 (kX12_goesOn (i := 190) rfl) ?_
              refine x_iload_n hx hb (kX12_goesOn (i := 191) rfl) rfl (lv_at hl 1 rfl) ?_
              obtain ⟨hi_96, h⟩ := gd_some h
              refine x_ialdM C hM 20 (by decide) (eM_20 Θ) hi_96 (kX12_goesOn (i := 192) rfl) ?_
              exact hJ303 (g_56 20 (wr a0).toNat) H locs ls h hM (lv_sub hl [0, 1, 2] rfl)
            · have h := it_f c_95 h
              refine lv_aload_n hx hb (kX12_goesOn (i := 183) rfl) rfl (lv_at hl 0 rfl) ?_
              refine gX12_speed C hM q_fX12_78 (kX12_goesOn (i := 184) rfl) ?_
              refine x_iload_n hx hb (kX12_goesOn (i := 185) rfl) rfl (lv_at hl 1 rfl) ?_
              obtain ⟨hi_97, h⟩ := gd_some h
              refine x_ialdM C hM 20 (by decide) (eM_20 Θ) hi_97 (kX12_goesOn (i := 186) rfl) ?_
              refine x_ineg hx hb (kX12_goesOn (i := 187) rfl) ?_
              refine lv_goto (tgt := 303) hx hb (kX12_goesOn (i := 188) rfl) (by decide) ?_
              exact hJ303 (-(g_56 20 (wr a0).toNat)) H locs ls h hM (lv_sub hl [0, 1, 2] rfl)
          intro J277 hJ277 h
          refine x_icmp_eq (a' := wr x_47) (b' := wr (g_51 19 (wr a0).toNat)) hx hb rfl rfl (tgt := 276) (kX12_goesOn (i := 173) rfl) (by decide) (fun c_98 => ?_) (fun c_98 => ?_)
          · have h := it_t c_98 h
            refine x_iconst hx hb (kX12_goesOn (i := 176) rfl) ?_
            exact hJ277 0 H locs ls h hM (lv_sub hl [1, 2, 3] rfl)
          · have h := it_f c_98 h
            refine x_iconst hx hb (kX12_goesOn (i := 174) rfl) ?_
            refine lv_goto (tgt := 277) hx hb (kX12_goesOn (i := 175) rfl) (by decide) ?_
            exact hJ277 1 H locs ls h hM (lv_sub hl [1, 2, 3] rfl)
        intro J147 hJ147 h
        refine x_if_eq (a' := wr r_26) hx hb rfl (tgt := 146) (kX12_goesOn (i := 84) rfl) (by decide) (fun c_99 => ?_) (fun c_99 => ?_)
        · have h := it_t c_99 h
          refine x_iconst hx hb (kX12_goesOn (i := 95) rfl) ?_
          exact hJ147 0 H locs ls h hM (lv_sub hl [1, 2, 3, 0] rfl)
        · have h := it_f c_99 h
          refine lv_aload_n hx hb (kX12_goesOn (i := 85) rfl) rfl (lv_at hl 1 rfl) ?_
          refine gX12_speed C hM q_fX12_78 (kX12_goesOn (i := 86) rfl) ?_
          refine x_iload_n hx hb (kX12_goesOn (i := 87) rfl) rfl (lv_at hl 2 rfl) ?_
          obtain ⟨hi_100, h⟩ := gd_some h
          refine x_ialdM C hM 20 (by decide) (eM_20 Θ) hi_100 (kX12_goesOn (i := 88) rfl) ?_
          refine x_ineg hx hb (kX12_goesOn (i := 89) rfl) ?_
          refine x_iload_n hx hb (kX12_goesOn (i := 90) rfl) rfl (lv_at hl 4 rfl) ?_
          refine x_imul hx hb (kX12_goesOn (i := 91) rfl) ?_
          refine x_iconst hx hb (kX12_goesOn (i := 92) rfl) ?_
          refine x_idiv (a' := wr ((-(g_28 20 (wr a0).toNat)) * a2)) (b' := 4) hx hb (kX12_goesOn (i := 93) rfl) rfl (by decide) (by decide) ?_
          refine lv_goto (tgt := 147) hx hb (kX12_goesOn (i := 94) rfl) (by decide) ?_
          exact hJ147 (Int.tdiv (wr ((-(g_28 20 (wr a0).toNat)) * a2)) (4)) H locs ls h hM (lv_sub hl [1, 2, 3, 0] rfl)
      · have h := it_t c_11 h
        refine lv_aload_n hx hb (kX12_goesOn (i := 21) rfl) rfl (lv_at hl 0 rfl) ?_
        refine gX12_isOver C hM q_fX12_87 (kX12_goesOn (i := 22) rfl) ?_
        refine x_iload_n hx hb (kX12_goesOn (i := 23) rfl) rfl (lv_at hl 1 rfl) ?_
        refine x_iconst hx hb (kX12_goesOn (i := 24) rfl) ?_
        obtain ⟨hi_101, h⟩ := gd_some h
        obtain ⟨g_102, eg_102, h⟩ := bnd_some h
        refine x_zastM C hM 23 (by decide) (eM_23 Θ) hi_101 (Or.inr rfl) eg_102 (kX12_goesOn (i := 25) rfl) (fun H locs hM => ?_)
        refine x_iconst hx hb (kX12_goesOn (i := 26) rfl) ?_
        obtain ⟨q1, q2⟩ := ret2 h
        rw [q1, q2]
        exact x_iret C hM (nar_z (Or.inl rfl)) (kX12_goesOn (i := 27) rfl)
    · have h := it_f c_3 h
      refine x_iconst hx hb (kX12_goesOn (i := 8) rfl) ?_
      obtain ⟨q1, q2⟩ := ret2 h
      rw [q1, q2]
      exact x_iret C hM (nar_z (Or.inl rfl)) (kX12_goesOn (i := 9) rfl)
  exact key _ _ hM

/-! X12_go -/
def fX12_go_L14 : Nat → Int → Int → Mem → (Mem → Option (Int × Mem)) → Option (Int × Mem)
  | 0, _, _, _, _ => none
  | n + 1, y1, y2, g, K146 =>
    if wr y1 ≤ wr y2 then (
      K146 g
    ) else (
      if 600 ≤ wr (g 0 26) then (
        K146 g
      ) else (
        gd 0 2 <|
        bnd (g 23 (wr 0).toNat) fun x_7 =>
        bd2 (fX12_goesOn 0 (g 0 26) (g 0 25) g) fun r_8 g_10 =>
        gd (g 0 26) 600 <|
        gc (r_8 = 0 ∨ r_8 = 1) <|
        bnd (up g_10 31 (wr (g 0 26)).toNat r_8) fun g_13 =>
        jn (fun (v_14 : Int) =>
          gd (g_13 0 26) 600 <|
          bnd (up g_13 27 (wr (g_13 0 26)).toNat v_14) fun g_16 =>
          jn (fun (v_17 : Int) =>
            gd (g_16 0 26) 600 <|
            bnd (up g_16 28 (wr (g_16 0 26)).toNat v_17) fun g_19 =>
            gd (g_19 0 26) 600 <|
            bnd (up g_19 29 (wr (g_19 0 26)).toNat (g_19 0 70)) fun g_21 =>
            gd (g_21 0 26) 600 <|
            bnd (up g_21 30 (wr (g_21 0 26)).toNat (g_21 0 24)) fun g_23 =>
            bnd (up g_23 0 26 ((g_23 0 26) + 1)) fun g_24 =>
            bnd (y2 + 1) fun x_25 =>
            fX12_go_L14 n y1 x_25 g_24 K146
          ) fun J103 =>
          if wr x_7 = 0 then (
            gd 0 2 <|
            J103 (g_16 20 (wr 0).toNat)
          ) else (
            J103 0
          )
        ) fun J80 =>
        if wr x_7 = 0 then (
          gd 0 2 <|
          J80 (g_13 19 (wr 0).toNat)
        ) else (
          J80 0
        )
      )
    )
def fX12_go (a0 : Int) (g : Mem) : Option (Int × Mem) :=
  bd (fX12_in a0 0 100) fun r_1 =>
  if wr r_1 = 0 then (
    some ((-1), g)
  ) else (
    fX12_go_L14 fuel a0 0 g
    (fun (g_30 : Mem) =>
      some (g_30 0 26, g_30)
    )
  )
set_option maxRecDepth 100000 in
set_option maxHeartbeats 4000000 in
theorem wX12_go_L14 {p : Program} {l : Launch} {e : Env} {s : State} {m : MethodId} {args : Array Value} {below : List Frame} {meth : Method} {c : Code} {Θ : Th} {h0 : Mem} {rv : Int} {gR : Mem} {K146 : Mem → Option (Int × Mem)} (C : Cx p s m args meth c cX12_go 4 RX12 (some .int) Θ) : ∀ (n : Nat) (y1 : Int) (y2 : Int) (g : Mem) (H : Heap) (locs : List Loc) (ls : Array Slot), fX12_go_L14 n y1 y2 g K146 = some (rv, gR) → (∀ (gz : Mem) (H : Heap) (locs : List Loc) (ls : Array Slot), K146 gz = some (rv, gR) → Hd Θ s h0 gz H locs → lv_has ls 4 [(0, .ref (Θ.2.2.2 0))] → W p l e { frames := 4, cells := 0, slots := 0, locals := 101 } s m args below meth c H locs 0 0 (MQ below (Qx Θ s.heap.size h0 gR (some (vi rv))) args s 0 0 (AA Θ s.heap.size)) (F0 m 146 ls [])) → Hd Θ s h0 g H locs → lv_has ls 4 [(0, .ref (Θ.2.2.2 0)), (1, vi y1), (2, vi y2)] → W p l e { frames := 4, cells := 0, slots := 0, locals := 101 } s m args below meth c H locs 0 0 (MQ below (Qx Θ s.heap.size h0 gR (some (vi rv))) args s 0 0 (AA Θ s.heap.size)) (F0 m 14 ls []) := by
  intro n
  obtain ⟨hx, hb, hml, hown, hts, -⟩ := id C
  induction n with
  | zero => intro y1 y2 g H locs ls h; cases h
  | succ n ih =>
    intro y1 y2 g H locs ls h hK146 hM hl
    rw [fX12_go_L14] at h
    refine x_iload_n hx hb (kX12_go (i := 9) rfl) rfl (lv_at hl 2 rfl) ?_
    refine x_iload_n hx hb (kX12_go (i := 10) rfl) rfl (lv_at hl 1 rfl) ?_
    refine x_icmp_ge (a' := wr y2) (b' := wr y1) hx hb rfl rfl (tgt := 146) (kX12_go (i := 11) rfl) (by decide) (fun c_4 => ?_) (fun c_4 => ?_)
    · have h := it_t c_4 h
      exact hK146 g H locs ls h hM (lv_sub hl [0] rfl)
    · have h := it_f c_4 h
      refine lv_aload_n hx hb (kX12_go (i := 12) rfl) rfl (lv_at hl 0 rfl) ?_
      refine gX12_now C hM q_fX12_254 (kX12_go (i := 13) rfl) ?_
      refine x_sipush hx hb (by decide) (kX12_go (i := 14) rfl) ?_
      refine x_icmp_ge (a' := wr (g 0 26)) (b' := 600) hx hb rfl (by decide) (tgt := 146) (kX12_go (i := 15) rfl) (by decide) (fun c_5 => ?_) (fun c_5 => ?_)
      · have h := it_t c_5 h
        exact hK146 g H locs ls h hM (lv_sub hl [0] rfl)
      · have h := it_f c_5 h
        refine lv_aload_n hx hb (kX12_go (i := 16) rfl) rfl (lv_at hl 0 rfl) ?_
        refine gX12_isOver C hM q_fX12_87 (kX12_go (i := 17) rfl) ?_
        refine x_iconst hx hb (kX12_go (i := 18) rfl) ?_
        obtain ⟨hi_6, h⟩ := gd_some h
        refine x_zaldM C hM 23 (by decide) (eM_23 Θ) hi_6 (kX12_go (i := 19) rfl) ?_
        obtain ⟨x_7, ex_7, h⟩ := bnd_some h
        refine x_top ex_7 ?_
        refine x_istore_n (lv' := [(3, vi x_7), (0, .ref (Θ.2.2.2 0)), (1, vi y1), (2, vi y2)]) hx hb (kX12_go (i := 20) rfl) rfl hl (by decide) rfl (fun ls hl => ?_)
        refine lv_aload_n hx hb (kX12_go (i := 21) rfl) rfl (lv_at hl 1 rfl) ?_
        refine gX12_isWhole C hM q_fX12_111 (kX12_go (i := 22) rfl) ?_
        refine lv_aload_n hx hb (kX12_go (i := 23) rfl) rfl (lv_at hl 1 rfl) ?_
        refine gX12_now C hM q_fX12_254 (kX12_go (i := 24) rfl) ?_
        refine lv_aload_n hx hb (kX12_go (i := 25) rfl) rfl (lv_at hl 1 rfl) ?_
        refine x_iconst hx hb (kX12_go (i := 26) rfl) ?_
        refine lv_aload_n hx hb (kX12_go (i := 27) rfl) rfl (lv_at hl 1 rfl) ?_
        refine gX12_now C hM q_fX12_254 (kX12_go (i := 28) rfl) ?_
        refine lv_aload_n hx hb (kX12_go (i := 29) rfl) rfl (lv_at hl 1 rfl) ?_
        refine gX12_fins C hM q_fX12_237 (kX12_go (i := 30) rfl) ?_
        obtain ⟨r_8, g_10, hc_9, h⟩ := bd2_some h
        refine x_callV (n := 3) (As := [vi 0, vi (g 0 26), vi (g 0 25)]) (rest := [vi (g 0 26), .ref (Θ.2.2.2 31)]) C hM (tX12_goesOn l Θ 0 (g 0 26) (g 0 25) h0 g r_8 g_10 hc_9) (x_recvM C hM 0 (by decide) (eM_0 Θ _) rfl rfl) q_c_X12_goesOn q_mX12_257 q_i_X12_goesOn q_e_X12_goesOn q_n_X12 (by decide +kernel) ⟨by decide, by decide⟩ rfl hl.1 rfl (Nat.le_of_ble_eq_true rfl) (kX12_go (i := 31) rfl) (fun H locs hM => ?_)
        obtain ⟨hi_11, h⟩ := gd_some h
        obtain ⟨hz_12, h⟩ := gc_some h
        obtain ⟨g_13, eg_13, h⟩ := bnd_some h
        refine x_zastM C hM 31 (by decide) (eM_31 Θ) hi_11 hz_12 eg_13 (kX12_go (i := 32) rfl) (fun H locs hM => ?_)
        refine lv_aload_n hx hb (kX12_go (i := 33) rfl) rfl (lv_at hl 1 rfl) ?_
        refine gX12_keptSlope C hM q_fX12_99 (kX12_go (i := 34) rfl) ?_
        refine lv_aload_n hx hb (kX12_go (i := 35) rfl) rfl (lv_at hl 1 rfl) ?_
        refine gX12_now C hM q_fX12_254 (kX12_go (i := 36) rfl) ?_
        refine x_iload_n hx hb (kX12_go (i := 37) rfl) rfl (lv_at hl 0 rfl) ?_
        refine jn_go h (fun J80 : Int → Option (Int × Mem) => ∀ (v_14 : Int) (H : Heap) (locs : List Loc) (ls : Array Slot), J80 v_14 = some (rv, gR) → Hd Θ s h0 g_13 H locs → lv_has ls 4 [(0, .ref (Θ.2.2.2 0)), (1, vi y1), (2, vi y2), (3, vi x_7)] → W p l e { frames := 4, cells := 0, slots := 0, locals := 101 } s m args below meth c H locs 0 0 (MQ below (Qx Θ s.heap.size h0 gR (some (vi rv))) args s 0 0 (AA Θ s.heap.size)) (F0 m 80 ls [vi v_14, vi (g_13 0 26), .ref (Θ.2.2.2 27)])) ?_ ?_
        · intro v_14 H locs ls h hM hl
          obtain ⟨hi_15, h⟩ := gd_some h
          obtain ⟨g_16, eg_16, h⟩ := bnd_some h
          refine x_iastM C hM 27 (by decide) (eM_27 Θ) hi_15 eg_16 (kX12_go (i := 45) rfl) (fun H locs hM => ?_)
          refine lv_aload_n hx hb (kX12_go (i := 46) rfl) rfl (lv_at hl 0 rfl) ?_
          refine gX12_keptSpeed C hM q_fX12_102 (kX12_go (i := 47) rfl) ?_
          refine lv_aload_n hx hb (kX12_go (i := 48) rfl) rfl (lv_at hl 0 rfl) ?_
          refine gX12_now C hM q_fX12_254 (kX12_go (i := 49) rfl) ?_
          refine x_iload_n hx hb (kX12_go (i := 50) rfl) rfl (lv_at hl 3 rfl) ?_
          refine jn_go h (fun J103 : Int → Option (Int × Mem) => ∀ (v_17 : Int) (H : Heap) (locs : List Loc) (ls : Array Slot), J103 v_17 = some (rv, gR) → Hd Θ s h0 g_16 H locs → lv_has ls 4 [(0, .ref (Θ.2.2.2 0)), (1, vi y1), (2, vi y2)] → W p l e { frames := 4, cells := 0, slots := 0, locals := 101 } s m args below meth c H locs 0 0 (MQ below (Qx Θ s.heap.size h0 gR (some (vi rv))) args s 0 0 (AA Θ s.heap.size)) (F0 m 103 ls [vi v_17, vi (g_16 0 26), .ref (Θ.2.2.2 28)])) ?_ ?_
          · intro v_17 H locs ls h hM hl
            obtain ⟨hi_18, h⟩ := gd_some h
            obtain ⟨g_19, eg_19, h⟩ := bnd_some h
            refine x_iastM C hM 28 (by decide) (eM_28 Θ) hi_18 eg_19 (kX12_go (i := 58) rfl) (fun H locs hM => ?_)
            refine lv_aload_n hx hb (kX12_go (i := 59) rfl) rfl (lv_at hl 0 rfl) ?_
            refine gX12_keptForce C hM q_fX12_105 (kX12_go (i := 60) rfl) ?_
            refine lv_aload_n hx hb (kX12_go (i := 61) rfl) rfl (lv_at hl 0 rfl) ?_
            refine gX12_now C hM q_fX12_254 (kX12_go (i := 62) rfl) ?_
            refine lv_aload_n hx hb (kX12_go (i := 63) rfl) rfl (lv_at hl 0 rfl) ?_
            refine gX12_force C hM q_fX12_240 (kX12_go (i := 64) rfl) ?_
            obtain ⟨hi_20, h⟩ := gd_some h
            obtain ⟨g_21, eg_21, h⟩ := bnd_some h
            refine x_iastM C hM 29 (by decide) (eM_29 Θ) hi_20 eg_21 (kX12_go (i := 65) rfl) (fun H locs hM => ?_)
            refine lv_aload_n hx hb (kX12_go (i := 66) rfl) rfl (lv_at hl 0 rfl) ?_
            refine gX12_keptInert C hM q_fX12_108 (kX12_go (i := 67) rfl) ?_
            refine lv_aload_n hx hb (kX12_go (i := 68) rfl) rfl (lv_at hl 0 rfl) ?_
            refine gX12_now C hM q_fX12_254 (kX12_go (i := 69) rfl) ?_
            refine lv_aload_n hx hb (kX12_go (i := 70) rfl) rfl (lv_at hl 0 rfl) ?_
            refine gX12_inert C hM q_fX12_69 (kX12_go (i := 71) rfl) ?_
            obtain ⟨hi_22, h⟩ := gd_some h
            obtain ⟨g_23, eg_23, h⟩ := bnd_some h
            refine x_iastM C hM 30 (by decide) (eM_30 Θ) hi_22 eg_23 (kX12_go (i := 72) rfl) (fun H locs hM => ?_)
            refine lv_aload_n hx hb (kX12_go (i := 73) rfl) rfl (lv_at hl 0 rfl) ?_
            refine lv_dup hx hb (kX12_go (i := 74) rfl) rfl ?_
            refine gX12_now C hM q_fX12_254 (kX12_go (i := 75) rfl) ?_
            refine x_iconst hx hb (kX12_go (i := 76) rfl) ?_
            refine x_iadd hx hb (kX12_go (i := 77) rfl) ?_
            obtain ⟨g_24, eg_24, h⟩ := bnd_some h
            refine pX12_now C hM q_fX12_254 eg_24 (kX12_go (i := 78) rfl) (fun H locs hM => ?_)
            obtain ⟨x_25, ex_25, h⟩ := bnd_some h
            refine x_iinc (k := 2) (lv' := [(2, vi x_25), (0, .ref (Θ.2.2.2 0)), (1, vi y1)]) hx hb (kX12_go (i := 79) rfl) hl rfl ex_25 (by decide) rfl (fun ls hl => ?_)
            refine lv_goto (tgt := 14) hx hb (kX12_go (i := 80) rfl) (by decide) ?_
            exact ih y1 x_25 g_24 H locs ls h hK146 hM (lv_sub hl [1, 2, 0] rfl)
          intro J103 hJ103 h
          refine x_if_eq (a' := wr x_7) hx hb rfl (tgt := 97) (kX12_go (i := 51) rfl) (by decide) (fun c_26 => ?_) (fun c_26 => ?_)
          · have h := it_t c_26 h
            refine lv_aload_n hx hb (kX12_go (i := 54) rfl) rfl (lv_at hl 0 rfl) ?_
            refine gX12_speed C hM q_fX12_78 (kX12_go (i := 55) rfl) ?_
            refine x_iconst hx hb (kX12_go (i := 56) rfl) ?_
            obtain ⟨hi_27, h⟩ := gd_some h
            refine x_ialdM C hM 20 (by decide) (eM_20 Θ) hi_27 (kX12_go (i := 57) rfl) ?_
            exact hJ103 (g_16 20 (wr 0).toNat) H locs ls h hM (lv_sub hl [0, 1, 2] rfl)
          · have h := it_f c_26 h
            refine x_iconst hx hb (kX12_go (i := 52) rfl) ?_
            refine lv_goto (tgt := 103) hx hb (kX12_go (i := 53) rfl) (by decide) ?_
            exact hJ103 0 H locs ls h hM (lv_sub hl [0, 1, 2] rfl)
        intro J80 hJ80 h
        refine x_if_eq (a' := wr x_7) hx hb rfl (tgt := 74) (kX12_go (i := 38) rfl) (by decide) (fun c_28 => ?_) (fun c_28 => ?_)
        · have h := it_t c_28 h
          refine lv_aload_n hx hb (kX12_go (i := 41) rfl) rfl (lv_at hl 1 rfl) ?_
          refine gX12_slope C hM q_fX12_75 (kX12_go (i := 42) rfl) ?_
          refine x_iconst hx hb (kX12_go (i := 43) rfl) ?_
          obtain ⟨hi_29, h⟩ := gd_some h
          refine x_ialdM C hM 19 (by decide) (eM_19 Θ) hi_29 (kX12_go (i := 44) rfl) ?_
          exact hJ80 (g_13 19 (wr 0).toNat) H locs ls h hM (lv_sub hl [1, 2, 3, 0] rfl)
        · have h := it_f c_28 h
          refine x_iconst hx hb (kX12_go (i := 39) rfl) ?_
          refine lv_goto (tgt := 80) hx hb (kX12_go (i := 40) rfl) (by decide) ?_
          exact hJ80 0 H locs ls h hM (lv_sub hl [1, 2, 3, 0] rfl)
set_option maxRecDepth 100000 in
set_option maxHeartbeats 4000000 in
theorem tX12_go (l : Launch) (Θ : Th) (a0 : Int) (h0 g : Mem) (rv : Int) (gR : Mem) (h : fX12_go a0 g = some (rv, gR)) : Ct l yX12_go cX12_go 4 (some .int) 4 101 Θ [.ref (Θ.2.2.2 0), vi a0] h0 g h0 gR (some (vi rv)) := by
  refine x_start (by decide) (Nat.le_of_ble_eq_true rfl) ?_
  intro p e s m args below meth c ls C hM hl
  have hl : lv_has ls 4 [(0, .ref (Θ.2.2.2 0)), (1, vi a0)] := hl
  obtain ⟨hx, hb, hml, hown, hts, -⟩ := id C
  unfold fX12_go at h
  have key : ∀ (H : Heap) (locs : List Loc), Hd Θ s h0 g H locs → W p l e { frames := 4, cells := 0, slots := 0, locals := 101 } s m args below meth c H locs 0 0 (MQ below (Qx Θ s.heap.size h0 gR (some (vi rv))) args s 0 0 (AA Θ s.heap.size)) (F0 m 0 ls []) := by
    intro H locs hM
    refine x_iload_n hx hb (kX12_go (i := 0) rfl) rfl (lv_at hl 1 rfl) ?_
    refine x_iconst hx hb (kX12_go (i := 1) rfl) ?_
    refine x_bipush hx hb (by decide) (kX12_go (i := 2) rfl) ?_
    obtain ⟨r_1, hc_2, h⟩ := bd_some h
    refine x_callS (n := 3) (As := [vi a0, vi 0, vi 100]) (rest := []) C hM (tX12_in l Θ a0 0 100 h0 g r_1 hc_2) q_c_X12_in q_mX12_173 q_s_X12_in q_n_X12 (by decide +kernel) ⟨by decide, by decide⟩ rfl hl.1 rfl (Nat.le_of_ble_eq_true rfl) (kX12_go (i := 3) rfl) (fun H locs hM => ?_)
    refine x_if_ne (a' := wr r_1) hx hb rfl (tgt := 12) (kX12_go (i := 4) rfl) (by decide) (fun c_3 => ?_) (fun c_3 => ?_)
    · have h := it_f c_3 h
      refine x_iconst hx hb (kX12_go (i := 7) rfl) ?_
      refine x_istore_n (lv' := [(2, vi 0), (0, .ref (Θ.2.2.2 0)), (1, vi a0)]) hx hb (kX12_go (i := 8) rfl) rfl hl (by decide) rfl (fun ls hl => ?_)
      refine wX12_go_L14  C fuel a0 0 g H locs ls h ?_ hM (lv_sub hl [1, 2, 0] rfl)
      · intro g_30 H locs ls h hM hl
        refine lv_aload_n hx hb (kX12_go (i := 81) rfl) rfl (lv_at hl 0 rfl) ?_
        refine gX12_now C hM q_fX12_254 (kX12_go (i := 82) rfl) ?_
        obtain ⟨q1, q2⟩ := ret2 h
        rw [q1, q2]
        exact x_iret C hM (nar_i _) (kX12_go (i := 83) rfl)
    · have h := it_t c_3 h
      refine x_iconst hx hb (kX12_go (i := 5) rfl) ?_
      obtain ⟨q1, q2⟩ := ret2 h
      rw [q1, q2]
      exact x_iret C hM (nar_i _) (kX12_go (i := 6) rfl)
  exact key _ _ hM

/-! X12_kept -/
def fX12_kept (a0 : Int) (a1 : Int) (g : Mem) : Option (Int) :=
  bd (fX12_in a0 0 ((g 0 26) - 1)) fun r_1 =>
  if wr r_1 = 0 then (
    some (-2147483648)
  ) else (
    bd (fX12_in a1 0 2) fun r_4 =>
    if wr r_4 = 0 then (
      some (-2147483648)
    ) else (
      if wr a1 = 0 then (
        gd a0 600 <|
        some (g 27 (wr a0).toNat)
      ) else (
        if wr a1 = 1 then (
          gd a0 600 <|
          some (g 28 (wr a0).toNat)
        ) else (
          gd a0 600 <|
          some (g 29 (wr a0).toNat)
        )
      )
    )
  )
set_option maxRecDepth 100000 in
set_option maxHeartbeats 4000000 in
theorem tX12_kept (l : Launch) (Θ : Th) (a0 : Int) (a1 : Int) (h0 g : Mem) (rv : Int) (h : fX12_kept a0 a1 g = some rv) : Ct l yX12_kept cX12_kept 3 (some .int) 1 22 Θ [.ref (Θ.2.2.2 0), vi a0, vi a1] h0 g h0 g (some (vi rv)) := by
  refine x_start (by decide) (Nat.le_of_ble_eq_true rfl) ?_
  intro p e s m args below meth c ls C hM hl
  have hl : lv_has ls 3 [(0, .ref (Θ.2.2.2 0)), (1, vi a0), (2, vi a1)] := hl
  obtain ⟨hx, hb, hml, hown, hts, -⟩ := id C
  unfold fX12_kept at h
  have key : ∀ (H : Heap) (locs : List Loc), Hd Θ s h0 g H locs → W p l e { frames := 1, cells := 0, slots := 0, locals := 22 } s m args below meth c H locs 0 0 (MQ below (Qx Θ s.heap.size h0 g (some (vi rv))) args s 0 0 (AA Θ s.heap.size)) (F0 m 0 ls []) := by
    intro H locs hM
    refine x_iload_n hx hb (kX12_kept (i := 0) rfl) rfl (lv_at hl 1 rfl) ?_
    refine x_iconst hx hb (kX12_kept (i := 1) rfl) ?_
    refine lv_aload_n hx hb (kX12_kept (i := 2) rfl) rfl (lv_at hl 0 rfl) ?_
    refine gX12_now C hM q_fX12_254 (kX12_kept (i := 3) rfl) ?_
    refine x_iconst hx hb (kX12_kept (i := 4) rfl) ?_
    refine x_isub hx hb (kX12_kept (i := 5) rfl) ?_
    obtain ⟨r_1, hc_2, h⟩ := bd_some h
    refine x_callS (n := 3) (As := [vi a0, vi 0, vi ((g 0 26) - 1)]) (rest := []) C hM (tX12_in l Θ a0 0 ((g 0 26) - 1) h0 g r_1 hc_2) q_c_X12_in q_mX12_173 q_s_X12_in q_n_X12 (by decide +kernel) ⟨by decide, by decide⟩ rfl hl.1 rfl (Nat.le_of_ble_eq_true rfl) (kX12_kept (i := 6) rfl) (fun H locs hM => ?_)
    refine x_if_eq (a' := wr r_1) hx hb rfl (tgt := 23) (kX12_kept (i := 7) rfl) (by decide) (fun c_3 => ?_) (fun c_3 => ?_)
    · have h := it_t c_3 h
      refine x_ldc (n := (-2147483648)) hx hb hown (hts _ q_kX12_205) (kX12_kept (i := 13) rfl) ?_
      rw [← Option.some.inj h]
      exact x_iret C hM (nar_i _) (kX12_kept (i := 14) rfl)
    · have h := it_f c_3 h
      refine x_iload_n hx hb (kX12_kept (i := 8) rfl) rfl (lv_at hl 2 rfl) ?_
      refine x_iconst hx hb (kX12_kept (i := 9) rfl) ?_
      refine x_iconst hx hb (kX12_kept (i := 10) rfl) ?_
      obtain ⟨r_4, hc_5, h⟩ := bd_some h
      refine x_callS (n := 3) (As := [vi a1, vi 0, vi 2]) (rest := []) C hM (tX12_in l Θ a1 0 2 h0 g r_4 hc_5) q_c_X12_in q_mX12_173 q_s_X12_in q_n_X12 (by decide +kernel) ⟨by decide, by decide⟩ rfl hl.1 rfl (Nat.le_of_ble_eq_true rfl) (kX12_kept (i := 11) rfl) (fun H locs hM => ?_)
      refine x_if_ne (a' := wr r_4) hx hb rfl (tgt := 26) (kX12_kept (i := 12) rfl) (by decide) (fun c_6 => ?_) (fun c_6 => ?_)
      · have h := it_f c_6 h
        refine x_iload_n hx hb (kX12_kept (i := 15) rfl) rfl (lv_at hl 2 rfl) ?_
        refine x_if_ne (a' := wr a1) hx hb rfl (tgt := 39) (kX12_kept (i := 16) rfl) (by decide) (fun c_7 => ?_) (fun c_7 => ?_)
        · have h := it_f c_7 h
          refine x_iload_n hx hb (kX12_kept (i := 22) rfl) rfl (lv_at hl 2 rfl) ?_
          refine x_iconst hx hb (kX12_kept (i := 23) rfl) ?_
          refine x_icmp_ne (a' := wr a1) (b' := 1) hx hb rfl (by decide) (tgt := 53) (kX12_kept (i := 24) rfl) (by decide) (fun c_8 => ?_) (fun c_8 => ?_)
          · have h := it_f c_8 h
            refine lv_aload_n hx hb (kX12_kept (i := 30) rfl) rfl (lv_at hl 0 rfl) ?_
            refine gX12_keptForce C hM q_fX12_105 (kX12_kept (i := 31) rfl) ?_
            refine x_iload_n hx hb (kX12_kept (i := 32) rfl) rfl (lv_at hl 1 rfl) ?_
            obtain ⟨hi_9, h⟩ := gd_some h
            refine x_ialdM C hM 29 (by decide) (eM_29 Θ) hi_9 (kX12_kept (i := 33) rfl) ?_
            rw [← Option.some.inj h]
            exact x_iret C hM (nar_i _) (kX12_kept (i := 34) rfl)
          · have h := it_t c_8 h
            refine lv_aload_n hx hb (kX12_kept (i := 25) rfl) rfl (lv_at hl 0 rfl) ?_
            refine gX12_keptSpeed C hM q_fX12_102 (kX12_kept (i := 26) rfl) ?_
            refine x_iload_n hx hb (kX12_kept (i := 27) rfl) rfl (lv_at hl 1 rfl) ?_
            obtain ⟨hi_10, h⟩ := gd_some h
            refine x_ialdM C hM 28 (by decide) (eM_28 Θ) hi_10 (kX12_kept (i := 28) rfl) ?_
            refine lv_goto (tgt := 59) hx hb (kX12_kept (i := 29) rfl) (by decide) ?_
            rw [← Option.some.inj h]
            exact x_iret C hM (nar_i _) (kX12_kept (i := 34) rfl)
        · have h := it_t c_7 h
          refine lv_aload_n hx hb (kX12_kept (i := 17) rfl) rfl (lv_at hl 0 rfl) ?_
          refine gX12_keptSlope C hM q_fX12_99 (kX12_kept (i := 18) rfl) ?_
          refine x_iload_n hx hb (kX12_kept (i := 19) rfl) rfl (lv_at hl 1 rfl) ?_
          obtain ⟨hi_11, h⟩ := gd_some h
          refine x_ialdM C hM 27 (by decide) (eM_27 Θ) hi_11 (kX12_kept (i := 20) rfl) ?_
          refine lv_goto (tgt := 59) hx hb (kX12_kept (i := 21) rfl) (by decide) ?_
          rw [← Option.some.inj h]
          exact x_iret C hM (nar_i _) (kX12_kept (i := 34) rfl)
      · have h := it_t c_6 h
        refine x_ldc (n := (-2147483648)) hx hb hown (hts _ q_kX12_205) (kX12_kept (i := 13) rfl) ?_
        rw [← Option.some.inj h]
        exact x_iret C hM (nar_i _) (kX12_kept (i := 14) rfl)
  exact key _ _ hM

/-! X12_lead -/
def fX12_lead (a0 : Int) (g : Mem) : Option (Int) :=
  bd (fX12_in a0 0 3) fun r_1 =>
  if wr r_1 = 0 then (
    some (-2147483648)
  ) else (
    gd a0 8 <|
    some (g 26 (wr a0).toNat)
  )
set_option maxRecDepth 100000 in
set_option maxHeartbeats 4000000 in
theorem tX12_lead (l : Launch) (Θ : Th) (a0 : Int) (h0 g : Mem) (rv : Int) (h : fX12_lead a0 g = some rv) : Ct l yX12_lead cX12_lead 2 (some .int) 1 22 Θ [.ref (Θ.2.2.2 0), vi a0] h0 g h0 g (some (vi rv)) := by
  refine x_start (by decide) (Nat.le_of_ble_eq_true rfl) ?_
  intro p e s m args below meth c ls C hM hl
  have hl : lv_has ls 2 [(0, .ref (Θ.2.2.2 0)), (1, vi a0)] := hl
  obtain ⟨hx, hb, hml, hown, hts, -⟩ := id C
  unfold fX12_lead at h
  have key : ∀ (H : Heap) (locs : List Loc), Hd Θ s h0 g H locs → W p l e { frames := 1, cells := 0, slots := 0, locals := 22 } s m args below meth c H locs 0 0 (MQ below (Qx Θ s.heap.size h0 g (some (vi rv))) args s 0 0 (AA Θ s.heap.size)) (F0 m 0 ls []) := by
    intro H locs hM
    refine x_iload_n hx hb (kX12_lead (i := 0) rfl) rfl (lv_at hl 1 rfl) ?_
    refine x_iconst hx hb (kX12_lead (i := 1) rfl) ?_
    refine x_iconst hx hb (kX12_lead (i := 2) rfl) ?_
    obtain ⟨r_1, hc_2, h⟩ := bd_some h
    refine x_callS (n := 3) (As := [vi a0, vi 0, vi 3]) (rest := []) C hM (tX12_in l Θ a0 0 3 h0 g r_1 hc_2) q_c_X12_in q_mX12_173 q_s_X12_in q_n_X12 (by decide +kernel) ⟨by decide, by decide⟩ rfl hl.1 rfl (Nat.le_of_ble_eq_true rfl) (kX12_lead (i := 3) rfl) (fun H locs hM => ?_)
    refine x_if_eq (a' := wr r_1) hx hb rfl (tgt := 18) (kX12_lead (i := 4) rfl) (by decide) (fun c_3 => ?_) (fun c_3 => ?_)
    · have h := it_t c_3 h
      refine x_ldc (n := (-2147483648)) hx hb hown (hts _ q_kX12_205) (kX12_lead (i := 10) rfl) ?_
      rw [← Option.some.inj h]
      exact x_iret C hM (nar_i _) (kX12_lead (i := 11) rfl)
    · have h := it_f c_3 h
      refine lv_aload_n hx hb (kX12_lead (i := 5) rfl) rfl (lv_at hl 0 rfl) ?_
      refine gX12_part C hM q_fX12_96 (kX12_lead (i := 6) rfl) ?_
      refine x_iload_n hx hb (kX12_lead (i := 7) rfl) rfl (lv_at hl 1 rfl) ?_
      obtain ⟨hi_4, h⟩ := gd_some h
      refine x_ialdM C hM 26 (by decide) (eM_26 Θ) hi_4 (kX12_lead (i := 8) rfl) ?_
      refine lv_goto (tgt := 20) hx hb (kX12_lead (i := 9) rfl) (by decide) ?_
      rw [← Option.some.inj h]
      exact x_iret C hM (nar_i _) (kX12_lead (i := 11) rfl)
  exact key _ _ hM

/-! X12_feed -/
def fX12_feed_L18 : Nat → Int → Int → Int → Int → Int → Int → Mem → (Mem → Option (Int × Mem)) → Option (Int × Mem)
  | 0, _, _, _, _, _, _, _, _ => none
  | n + 1, y1, y2, y3, y4, y5, y6, g, K112 =>
    if 20 ≤ wr y6 then (
      K112 g
    ) else (
      jn (fun (v_3 : Int) =>
        gd (g 0 48) 300 <|
        bnd (up g 35 (wr (g 0 48)).toNat (w8 (w8 (iShr v_3 (24 - (8 * (Int.tmod (wr y6) (4)))))))) fun g_5 =>
        bnd (up g_5 0 48 ((g_5 0 48) + 1)) fun g_6 =>
        bnd (y6 + 1) fun x_7 =>
        fX12_feed_L18 n y1 y2 y3 y4 y5 x_7 g_6 K112
      ) fun J71 =>
      if 4 ≤ wr y6 then (
        if 8 ≤ wr y6 then (
          if 12 ≤ wr y6 then (
            if 16 ≤ wr y6 then (
              J71 y5
            ) else (
              J71 y4
            )
          ) else (
            J71 y3
          )
        ) else (
          J71 y2
        )
      ) else (
        J71 y1
      )
    )
def fX12_feed (a0 : Int) (a1 : Int) (a2 : Int) (a3 : Int) (a4 : Int) (g : Mem) : Option (Int × Mem) :=
  if wr ((g 0 48) + 20) ≤ 300 then (
    fX12_feed_L18 fuel a0 a1 a2 a3 a4 0 g
    (fun (g_12 : Mem) =>
      some (g_12 0 48, g_12)
    )
  ) else (
    some ((-1), g)
  )
set_option maxRecDepth 100000 in
set_option maxHeartbeats 4000000 in
theorem wX12_feed_L18 {p : Program} {l : Launch} {e : Env} {s : State} {m : MethodId} {args : Array Value} {below : List Frame} {meth : Method} {c : Code} {Θ : Th} {h0 : Mem} {rv : Int} {gR : Mem} {K112 : Mem → Option (Int × Mem)} (C : Cx p s m args meth c cX12_feed 8 RX12 (some .int) Θ) : ∀ (n : Nat) (y1 : Int) (y2 : Int) (y3 : Int) (y4 : Int) (y5 : Int) (y6 : Int) (g : Mem) (H : Heap) (locs : List Loc) (ls : Array Slot), fX12_feed_L18 n y1 y2 y3 y4 y5 y6 g K112 = some (rv, gR) → (∀ (gz : Mem) (H : Heap) (locs : List Loc) (ls : Array Slot), K112 gz = some (rv, gR) → Hd Θ s h0 gz H locs → lv_has ls 8 [(0, .ref (Θ.2.2.2 0))] → W p l e { frames := 0, cells := 0, slots := 0, locals := 0 } s m args below meth c H locs 0 0 (MQ below (Qx Θ s.heap.size h0 gR (some (vi rv))) args s 0 0 (AA Θ s.heap.size)) (F0 m 112 ls [])) → Hd Θ s h0 g H locs → lv_has ls 8 [(0, .ref (Θ.2.2.2 0)), (1, vi y1), (2, vi y2), (3, vi y3), (4, vi y4), (5, vi y5), (6, vi y6)] → W p l e { frames := 0, cells := 0, slots := 0, locals := 0 } s m args below meth c H locs 0 0 (MQ below (Qx Θ s.heap.size h0 gR (some (vi rv))) args s 0 0 (AA Θ s.heap.size)) (F0 m 18 ls []) := by
  intro n
  obtain ⟨hx, hb, hml, hown, hts, -⟩ := id C
  induction n with
  | zero => intro y1 y2 y3 y4 y5 y6 g H locs ls h; cases h
  | succ n ih =>
    intro y1 y2 y3 y4 y5 y6 g H locs ls h hK112 hM hl
    rw [fX12_feed_L18] at h
    refine x_iload hx hb (kX12_feed (i := 10) rfl) (lv_at hl 6 rfl) ?_
    refine x_bipush hx hb (by decide) (kX12_feed (i := 11) rfl) ?_
    refine x_icmp_ge (a' := wr y6) (b' := 20) hx hb rfl (by decide) (tgt := 112) (kX12_feed (i := 12) rfl) (by decide) (fun c_2 => ?_) (fun c_2 => ?_)
    · have h := it_t c_2 h
      exact hK112 g H locs ls h hM (lv_sub hl [0] rfl)
    · have h := it_f c_2 h
      refine x_iload hx hb (kX12_feed (i := 13) rfl) (lv_at hl 6 rfl) ?_
      refine x_iconst hx hb (kX12_feed (i := 14) rfl) ?_
      refine jn_go h (fun J71 : Int → Option (Int × Mem) => ∀ (v_3 : Int) (H : Heap) (locs : List Loc) (ls : Array Slot), J71 v_3 = some (rv, gR) → Hd Θ s h0 g H locs → lv_has ls 8 [(0, .ref (Θ.2.2.2 0)), (1, vi y1), (2, vi y2), (3, vi y3), (4, vi y4), (5, vi y5), (6, vi y6)] → W p l e { frames := 0, cells := 0, slots := 0, locals := 0 } s m args below meth c H locs 0 0 (MQ below (Qx Θ s.heap.size h0 gR (some (vi rv))) args s 0 0 (AA Θ s.heap.size)) (F0 m 71 ls [vi v_3])) ?_ ?_
      · intro v_3 H locs ls h hM hl
        refine x_istore (lv' := [(7, vi v_3), (0, .ref (Θ.2.2.2 0)), (1, vi y1), (2, vi y2), (3, vi y3), (4, vi y4), (5, vi y5), (6, vi y6)]) hx hb (kX12_feed (i := 34) rfl) hl (by decide) rfl (fun ls hl => ?_)
        refine lv_aload_n hx hb (kX12_feed (i := 35) rfl) rfl (lv_at hl 1 rfl) ?_
        refine gX12_text C hM q_fX12_126 (kX12_feed (i := 36) rfl) ?_
        refine lv_aload_n hx hb (kX12_feed (i := 37) rfl) rfl (lv_at hl 1 rfl) ?_
        refine gX12_size C hM q_fX12_260 (kX12_feed (i := 38) rfl) ?_
        refine x_iload hx hb (kX12_feed (i := 39) rfl) (lv_at hl 0 rfl) ?_
        refine x_bipush hx hb (by decide) (kX12_feed (i := 40) rfl) ?_
        refine x_bipush hx hb (by decide) (kX12_feed (i := 41) rfl) ?_
        refine x_iload hx hb (kX12_feed (i := 42) rfl) (lv_at hl 7 rfl) ?_
        refine x_iconst hx hb (kX12_feed (i := 43) rfl) ?_
        refine x_irem (a' := wr y6) (b' := 4) hx hb (kX12_feed (i := 44) rfl) rfl (by decide) (by decide) ?_
        refine x_imul hx hb (kX12_feed (i := 45) rfl) ?_
        refine x_isub hx hb (kX12_feed (i := 46) rfl) ?_
        refine x_ishr hx hb (kX12_feed (i := 47) rfl) ?_
        refine x_i2b hx hb (kX12_feed (i := 48) rfl) ?_
        obtain ⟨hi_4, h⟩ := gd_some h
        obtain ⟨g_5, eg_5, h⟩ := bnd_some h
        refine x_bastM C hM 35 (by decide) (eM_35 Θ) hi_4 eg_5 (kX12_feed (i := 49) rfl) (fun H locs hM => ?_)
        refine lv_aload_n hx hb (kX12_feed (i := 50) rfl) rfl (lv_at hl 1 rfl) ?_
        refine lv_dup hx hb (kX12_feed (i := 51) rfl) rfl ?_
        refine gX12_size C hM q_fX12_260 (kX12_feed (i := 52) rfl) ?_
        refine x_iconst hx hb (kX12_feed (i := 53) rfl) ?_
        refine x_iadd hx hb (kX12_feed (i := 54) rfl) ?_
        obtain ⟨g_6, eg_6, h⟩ := bnd_some h
        refine pX12_size C hM q_fX12_260 eg_6 (kX12_feed (i := 55) rfl) (fun H locs hM => ?_)
        obtain ⟨x_7, ex_7, h⟩ := bnd_some h
        refine x_iinc (k := 7) (lv' := [(6, vi x_7), (7, vi v_3), (0, .ref (Θ.2.2.2 0)), (1, vi y1), (2, vi y2), (3, vi y3), (4, vi y4), (5, vi y5)]) hx hb (kX12_feed (i := 56) rfl) hl rfl ex_7 (by decide) rfl (fun ls hl => ?_)
        refine lv_goto (tgt := 18) hx hb (kX12_feed (i := 57) rfl) (by decide) ?_
        exact ih y1 y2 y3 y4 y5 x_7 g_6 H locs ls h hK112 hM (lv_sub hl [2, 3, 4, 5, 6, 7, 0] rfl)
      intro J71 hJ71 h
      refine x_icmp_ge (a' := wr y6) (b' := 4) hx hb rfl (by decide) (tgt := 35) (kX12_feed (i := 15) rfl) (by decide) (fun c_8 => ?_) (fun c_8 => ?_)
      · have h := it_t c_8 h
        refine x_iload hx hb (kX12_feed (i := 18) rfl) (lv_at hl 6 rfl) ?_
        refine x_bipush hx hb (by decide) (kX12_feed (i := 19) rfl) ?_
        refine x_icmp_ge (a' := wr y6) (b' := 8) hx hb rfl (by decide) (tgt := 46) (kX12_feed (i := 20) rfl) (by decide) (fun c_9 => ?_) (fun c_9 => ?_)
        · have h := it_t c_9 h
          refine x_iload hx hb (kX12_feed (i := 23) rfl) (lv_at hl 6 rfl) ?_
          refine x_bipush hx hb (by decide) (kX12_feed (i := 24) rfl) ?_
          refine x_icmp_ge (a' := wr y6) (b' := 12) hx hb rfl (by decide) (tgt := 57) (kX12_feed (i := 25) rfl) (by decide) (fun c_10 => ?_) (fun c_10 => ?_)
          · have h := it_t c_10 h
            refine x_iload hx hb (kX12_feed (i := 28) rfl) (lv_at hl 6 rfl) ?_
            refine x_bipush hx hb (by decide) (kX12_feed (i := 29) rfl) ?_
            refine x_icmp_ge (a' := wr y6) (b' := 16) hx hb rfl (by decide) (tgt := 69) (kX12_feed (i := 30) rfl) (by decide) (fun c_11 => ?_) (fun c_11 => ?_)
            · have h := it_t c_11 h
              refine x_iload hx hb (kX12_feed (i := 33) rfl) (lv_at hl 5 rfl) ?_
              exact hJ71 y5 H locs ls h hM (lv_sub hl [0, 1, 2, 3, 4, 5, 6] rfl)
            · have h := it_f c_11 h
              refine x_iload hx hb (kX12_feed (i := 31) rfl) (lv_at hl 4 rfl) ?_
              refine lv_goto (tgt := 71) hx hb (kX12_feed (i := 32) rfl) (by decide) ?_
              exact hJ71 y4 H locs ls h hM (lv_sub hl [0, 1, 2, 3, 4, 5, 6] rfl)
          · have h := it_f c_10 h
            refine x_iload_n hx hb (kX12_feed (i := 26) rfl) rfl (lv_at hl 3 rfl) ?_
            refine lv_goto (tgt := 71) hx hb (kX12_feed (i := 27) rfl) (by decide) ?_
            exact hJ71 y3 H locs ls h hM (lv_sub hl [0, 1, 2, 3, 4, 5, 6] rfl)
        · have h := it_f c_9 h
          refine x_iload_n hx hb (kX12_feed (i := 21) rfl) rfl (lv_at hl 2 rfl) ?_
          refine lv_goto (tgt := 71) hx hb (kX12_feed (i := 22) rfl) (by decide) ?_
          exact hJ71 y2 H locs ls h hM (lv_sub hl [0, 1, 2, 3, 4, 5, 6] rfl)
      · have h := it_f c_8 h
        refine x_iload_n hx hb (kX12_feed (i := 16) rfl) rfl (lv_at hl 1 rfl) ?_
        refine lv_goto (tgt := 71) hx hb (kX12_feed (i := 17) rfl) (by decide) ?_
        exact hJ71 y1 H locs ls h hM (lv_sub hl [0, 1, 2, 3, 4, 5, 6] rfl)
set_option maxRecDepth 100000 in
set_option maxHeartbeats 4000000 in
theorem tX12_feed (l : Launch) (Θ : Th) (a0 : Int) (a1 : Int) (a2 : Int) (a3 : Int) (a4 : Int) (h0 g : Mem) (rv : Int) (gR : Mem) (h : fX12_feed a0 a1 a2 a3 a4 g = some (rv, gR)) : Ct l yX12_feed cX12_feed 8 (some .int) 0 0 Θ [.ref (Θ.2.2.2 0), vi a0, vi a1, vi a2, vi a3, vi a4] h0 g h0 gR (some (vi rv)) := by
  refine x_start (by decide) (Nat.le_of_ble_eq_true rfl) ?_
  intro p e s m args below meth c ls C hM hl
  have hl : lv_has ls 8 [(0, .ref (Θ.2.2.2 0)), (1, vi a0), (2, vi a1), (3, vi a2), (4, vi a3), (5, vi a4)] := hl
  obtain ⟨hx, hb, hml, hown, hts, -⟩ := id C
  unfold fX12_feed at h
  have key : ∀ (H : Heap) (locs : List Loc), Hd Θ s h0 g H locs → W p l e { frames := 0, cells := 0, slots := 0, locals := 0 } s m args below meth c H locs 0 0 (MQ below (Qx Θ s.heap.size h0 gR (some (vi rv))) args s 0 0 (AA Θ s.heap.size)) (F0 m 0 ls []) := by
    intro H locs hM
    refine lv_aload_n hx hb (kX12_feed (i := 0) rfl) rfl (lv_at hl 0 rfl) ?_
    refine gX12_size C hM q_fX12_260 (kX12_feed (i := 1) rfl) ?_
    refine x_bipush hx hb (by decide) (kX12_feed (i := 2) rfl) ?_
    refine x_iadd hx hb (kX12_feed (i := 3) rfl) ?_
    refine x_sipush hx hb (by decide) (kX12_feed (i := 4) rfl) ?_
    refine x_icmp_le (a' := wr ((g 0 48) + 20)) (b' := 300) hx hb rfl (by decide) (tgt := 15) (kX12_feed (i := 5) rfl) (by decide) (fun c_1 => ?_) (fun c_1 => ?_)
    · have h := it_t c_1 h
      refine x_iconst hx hb (kX12_feed (i := 8) rfl) ?_
      refine x_istore (lv' := [(6, vi 0), (0, .ref (Θ.2.2.2 0)), (1, vi a0), (2, vi a1), (3, vi a2), (4, vi a3), (5, vi a4)]) hx hb (kX12_feed (i := 9) rfl) hl (by decide) rfl (fun ls hl => ?_)
      refine wX12_feed_L18  C fuel a0 a1 a2 a3 a4 0 g H locs ls h ?_ hM (lv_sub hl [1, 2, 3, 4, 5, 6, 0] rfl)
      · intro g_12 H locs ls h hM hl
        refine lv_aload_n hx hb (kX12_feed (i := 58) rfl) rfl (lv_at hl 0 rfl) ?_
        refine gX12_size C hM q_fX12_260 (kX12_feed (i := 59) rfl) ?_
        obtain ⟨q1, q2⟩ := ret2 h
        rw [q1, q2]
        exact x_iret C hM (nar_i _) (kX12_feed (i := 60) rfl)
    · have h := it_f c_1 h
      refine x_iconst hx hb (kX12_feed (i := 6) rfl) ?_
      obtain ⟨q1, q2⟩ := ret2 h
      rw [q1, q2]
      exact x_iret C hM (nar_i _) (kX12_feed (i := 7) rfl)
  exact key _ _ hM

/-! X12_end -/
def fX12_end (a0 : Int) (g : Mem) : Option (Int × Mem) :=
  bd (fX12_in a0 0 (g 0 48)) fun r_1 =>
  if wr r_1 = 0 then (
    some (0, g)
  ) else (
    bnd (up g 0 48 a0) fun g_4 =>
    some (1, g_4)
  )
set_option maxRecDepth 100000 in
set_option maxHeartbeats 4000000 in
theorem tX12_end (l : Launch) (Θ : Th) (a0 : Int) (h0 g : Mem) (rv : Int) (gR : Mem) (h : fX12_end a0 g = some (rv, gR)) : Ct l yX12_end cX12_end 2 (some .boolean) 1 22 Θ [.ref (Θ.2.2.2 0), vi a0] h0 g h0 gR (some (vi rv)) := by
  refine x_start (by decide) (Nat.le_of_ble_eq_true rfl) ?_
  intro p e s m args below meth c ls C hM hl
  have hl : lv_has ls 2 [(0, .ref (Θ.2.2.2 0)), (1, vi a0)] := hl
  obtain ⟨hx, hb, hml, hown, hts, -⟩ := id C
  unfold fX12_end at h
  have key : ∀ (H : Heap) (locs : List Loc), Hd Θ s h0 g H locs → W p l e { frames := 1, cells := 0, slots := 0, locals := 22 } s m args below meth c H locs 0 0 (MQ below (Qx Θ s.heap.size h0 gR (some (vi rv))) args s 0 0 (AA Θ s.heap.size)) (F0 m 0 ls []) := by
    intro H locs hM
    refine x_iload_n hx hb (kX12_end (i := 0) rfl) rfl (lv_at hl 1 rfl) ?_
    refine x_iconst hx hb (kX12_end (i := 1) rfl) ?_
    refine lv_aload_n hx hb (kX12_end (i := 2) rfl) rfl (lv_at hl 0 rfl) ?_
    refine gX12_size C hM q_fX12_260 (kX12_end (i := 3) rfl) ?_
    obtain ⟨r_1, hc_2, h⟩ := bd_some h
    refine x_callS (n := 3) (As := [vi a0, vi 0, vi (g 0 48)]) (rest := []) C hM (tX12_in l Θ a0 0 (g 0 48) h0 g r_1 hc_2) q_c_X12_in q_mX12_173 q_s_X12_in q_n_X12 (by decide +kernel) ⟨by decide, by decide⟩ rfl hl.1 rfl (Nat.le_of_ble_eq_true rfl) (kX12_end (i := 4) rfl) (fun H locs hM => ?_)
    refine x_if_ne (a' := wr r_1) hx hb rfl (tgt := 14) (kX12_end (i := 5) rfl) (by decide) (fun c_3 => ?_) (fun c_3 => ?_)
    · have h := it_f c_3 h
      refine lv_aload_n hx hb (kX12_end (i := 8) rfl) rfl (lv_at hl 0 rfl) ?_
      refine x_iload_n hx hb (kX12_end (i := 9) rfl) rfl (lv_at hl 1 rfl) ?_
      obtain ⟨g_4, eg_4, h⟩ := bnd_some h
      refine pX12_size C hM q_fX12_260 eg_4 (kX12_end (i := 10) rfl) (fun H locs hM => ?_)
      refine x_iconst hx hb (kX12_end (i := 11) rfl) ?_
      obtain ⟨q1, q2⟩ := ret2 h
      rw [q1, q2]
      exact x_iret C hM (nar_z (Or.inr rfl)) (kX12_end (i := 12) rfl)
    · have h := it_t c_3 h
      refine x_iconst hx hb (kX12_end (i := 6) rfl) ?_
      obtain ⟨q1, q2⟩ := ret2 h
      rw [q1, q2]
      exact x_iret C hM (nar_z (Or.inl rfl)) (kX12_end (i := 7) rfl)
  exact key _ _ hM

/-! X12_isLetter -/
def fX12_isLetter (a0 : Int) : Option (Int) :=
  if wr a0 < 97 then (
    some 0
  ) else (
    if 122 < wr a0 then (
      some 0
    ) else (
      some 1
    )
  )
set_option maxRecDepth 100000 in
set_option maxHeartbeats 4000000 in
theorem tX12_isLetter (l : Launch) (Θ : Th) (a0 : Int) (h0 g0 : Mem) (rv : Int) (h : fX12_isLetter a0 = some rv) : Ct l yX12_isLetter cX12_isLetter 1 (some .boolean) 0 0 Θ [vi a0] h0 g0 h0 g0 (some (vi rv)) := by
  refine x_start (by decide) (Nat.le_of_ble_eq_true rfl) ?_
  intro p e s m args below meth c ls C hM hl
  have hl : lv_has ls 1 [(0, vi a0)] := hl
  obtain ⟨hx, hb, hml, hown, hts, -⟩ := id C
  unfold fX12_isLetter at h
  have key : ∀ (H : Heap) (locs : List Loc), Hd Θ s h0 g0 H locs → W p l e { frames := 0, cells := 0, slots := 0, locals := 0 } s m args below meth c H locs 0 0 (MQ below (Qx Θ s.heap.size h0 g0 (some (vi rv))) args s 0 0 (AA Θ s.heap.size)) (F0 m 0 ls []) := by
    intro H locs hM
    refine x_iload_n hx hb (kX12_isLetter (i := 0) rfl) rfl (lv_at hl 0 rfl) ?_
    refine x_bipush hx hb (by decide) (kX12_isLetter (i := 1) rfl) ?_
    refine x_icmp_lt (a' := wr a0) (b' := 97) hx hb rfl (by decide) (tgt := 16) (kX12_isLetter (i := 2) rfl) (by decide) (fun c_1 => ?_) (fun c_1 => ?_)
    · have h := it_t c_1 h
      refine x_iconst hx hb (kX12_isLetter (i := 8) rfl) ?_
      rw [← Option.some.inj h]
      exact x_iret C hM (nar_z (Or.inl rfl)) (kX12_isLetter (i := 9) rfl)
    · have h := it_f c_1 h
      refine x_iload_n hx hb (kX12_isLetter (i := 3) rfl) rfl (lv_at hl 0 rfl) ?_
      refine x_bipush hx hb (by decide) (kX12_isLetter (i := 4) rfl) ?_
      refine x_icmp_gt (a' := wr a0) (b' := 122) hx hb rfl (by decide) (tgt := 16) (kX12_isLetter (i := 5) rfl) (by decide) (fun c_2 => ?_) (fun c_2 => ?_)
      · have h := it_t c_2 h
        refine x_iconst hx hb (kX12_isLetter (i := 8) rfl) ?_
        rw [← Option.some.inj h]
        exact x_iret C hM (nar_z (Or.inl rfl)) (kX12_isLetter (i := 9) rfl)
      · have h := it_f c_2 h
        refine x_iconst hx hb (kX12_isLetter (i := 6) rfl) ?_
        refine lv_goto (tgt := 17) hx hb (kX12_isLetter (i := 7) rfl) (by decide) ?_
        rw [← Option.some.inj h]
        exact x_iret C hM (nar_z (Or.inr rfl)) (kX12_isLetter (i := 9) rfl)
  exact key _ _ hM

/-! X12_isDigit -/
def fX12_isDigit (a0 : Int) : Option (Int) :=
  if wr a0 < 48 then (
    some 0
  ) else (
    if 57 < wr a0 then (
      some 0
    ) else (
      some 1
    )
  )
set_option maxRecDepth 100000 in
set_option maxHeartbeats 4000000 in
theorem tX12_isDigit (l : Launch) (Θ : Th) (a0 : Int) (h0 g0 : Mem) (rv : Int) (h : fX12_isDigit a0 = some rv) : Ct l yX12_isDigit cX12_isDigit 1 (some .boolean) 0 0 Θ [vi a0] h0 g0 h0 g0 (some (vi rv)) := by
  refine x_start (by decide) (Nat.le_of_ble_eq_true rfl) ?_
  intro p e s m args below meth c ls C hM hl
  have hl : lv_has ls 1 [(0, vi a0)] := hl
  obtain ⟨hx, hb, hml, hown, hts, -⟩ := id C
  unfold fX12_isDigit at h
  have key : ∀ (H : Heap) (locs : List Loc), Hd Θ s h0 g0 H locs → W p l e { frames := 0, cells := 0, slots := 0, locals := 0 } s m args below meth c H locs 0 0 (MQ below (Qx Θ s.heap.size h0 g0 (some (vi rv))) args s 0 0 (AA Θ s.heap.size)) (F0 m 0 ls []) := by
    intro H locs hM
    refine x_iload_n hx hb (kX12_isDigit (i := 0) rfl) rfl (lv_at hl 0 rfl) ?_
    refine x_bipush hx hb (by decide) (kX12_isDigit (i := 1) rfl) ?_
    refine x_icmp_lt (a' := wr a0) (b' := 48) hx hb rfl (by decide) (tgt := 16) (kX12_isDigit (i := 2) rfl) (by decide) (fun c_1 => ?_) (fun c_1 => ?_)
    · have h := it_t c_1 h
      refine x_iconst hx hb (kX12_isDigit (i := 8) rfl) ?_
      rw [← Option.some.inj h]
      exact x_iret C hM (nar_z (Or.inl rfl)) (kX12_isDigit (i := 9) rfl)
    · have h := it_f c_1 h
      refine x_iload_n hx hb (kX12_isDigit (i := 3) rfl) rfl (lv_at hl 0 rfl) ?_
      refine x_bipush hx hb (by decide) (kX12_isDigit (i := 4) rfl) ?_
      refine x_icmp_gt (a' := wr a0) (b' := 57) hx hb rfl (by decide) (tgt := 16) (kX12_isDigit (i := 5) rfl) (by decide) (fun c_2 => ?_) (fun c_2 => ?_)
      · have h := it_t c_2 h
        refine x_iconst hx hb (kX12_isDigit (i := 8) rfl) ?_
        rw [← Option.some.inj h]
        exact x_iret C hM (nar_z (Or.inl rfl)) (kX12_isDigit (i := 9) rfl)
      · have h := it_f c_2 h
        refine x_iconst hx hb (kX12_isDigit (i := 6) rfl) ?_
        refine lv_goto (tgt := 17) hx hb (kX12_isDigit (i := 7) rfl) (by decide) ?_
        rw [← Option.some.inj h]
        exact x_iret C hM (nar_z (Or.inr rfl)) (kX12_isDigit (i := 9) rfl)
  exact key _ _ hM

/-! X12_isSign -/
def fX12_isSign (a0 : Int) (g : Mem) : Option (Int) :=
  if wr (g 0 50) = 3 then (
    if wr (g 0 52) = wr a0 then (
      some 1
    ) else (
      some 0
    )
  ) else (
    some 0
  )
set_option maxRecDepth 100000 in
set_option maxHeartbeats 4000000 in
theorem tX12_isSign (l : Launch) (Θ : Th) (a0 : Int) (h0 g : Mem) (rv : Int) (h : fX12_isSign a0 g = some rv) : Ct l yX12_isSign cX12_isSign 2 (some .boolean) 0 0 Θ [.ref (Θ.2.2.2 0), vi a0] h0 g h0 g (some (vi rv)) := by
  refine x_start (by decide) (Nat.le_of_ble_eq_true rfl) ?_
  intro p e s m args below meth c ls C hM hl
  have hl : lv_has ls 2 [(0, .ref (Θ.2.2.2 0)), (1, vi a0)] := hl
  obtain ⟨hx, hb, hml, hown, hts, -⟩ := id C
  unfold fX12_isSign at h
  have key : ∀ (H : Heap) (locs : List Loc), Hd Θ s h0 g H locs → W p l e { frames := 0, cells := 0, slots := 0, locals := 0 } s m args below meth c H locs 0 0 (MQ below (Qx Θ s.heap.size h0 g (some (vi rv))) args s 0 0 (AA Θ s.heap.size)) (F0 m 0 ls []) := by
    intro H locs hM
    refine lv_aload_n hx hb (kX12_isSign (i := 0) rfl) rfl (lv_at hl 0 rfl) ?_
    refine gX12_token C hM q_fX12_282 (kX12_isSign (i := 1) rfl) ?_
    refine x_iconst hx hb (kX12_isSign (i := 2) rfl) ?_
    refine x_icmp_ne (a' := wr (g 0 50)) (b' := 3) hx hb rfl (by decide) (tgt := 20) (kX12_isSign (i := 3) rfl) (by decide) (fun c_1 => ?_) (fun c_1 => ?_)
    · have h := it_f c_1 h
      refine x_iconst hx hb (kX12_isSign (i := 10) rfl) ?_
      rw [← Option.some.inj h]
      exact x_iret C hM (nar_z (Or.inl rfl)) (kX12_isSign (i := 11) rfl)
    · have h := it_t c_1 h
      refine lv_aload_n hx hb (kX12_isSign (i := 4) rfl) rfl (lv_at hl 0 rfl) ?_
      refine gX12_tokenValue C hM q_fX12_279 (kX12_isSign (i := 5) rfl) ?_
      refine x_iload_n hx hb (kX12_isSign (i := 6) rfl) rfl (lv_at hl 1 rfl) ?_
      refine x_icmp_ne (a' := wr (g 0 52)) (b' := wr a0) hx hb rfl rfl (tgt := 20) (kX12_isSign (i := 7) rfl) (by decide) (fun c_2 => ?_) (fun c_2 => ?_)
      · have h := it_f c_2 h
        refine x_iconst hx hb (kX12_isSign (i := 10) rfl) ?_
        rw [← Option.some.inj h]
        exact x_iret C hM (nar_z (Or.inl rfl)) (kX12_isSign (i := 11) rfl)
      · have h := it_t c_2 h
        refine x_iconst hx hb (kX12_isSign (i := 8) rfl) ?_
        refine lv_goto (tgt := 21) hx hb (kX12_isSign (i := 9) rfl) (by decide) ?_
        rw [← Option.some.inj h]
        exact x_iret C hM (nar_z (Or.inr rfl)) (kX12_isSign (i := 11) rfl)
  exact key _ _ hM

/-! X12_isWord -/
def fX12_isWord (a0 : Int) (g : Mem) : Option (Int) :=
  if wr (g 0 50) = 2 then (
    if wr (g 0 52) = wr a0 then (
      some 1
    ) else (
      some 0
    )
  ) else (
    some 0
  )
set_option maxRecDepth 100000 in
set_option maxHeartbeats 4000000 in
theorem tX12_isWord (l : Launch) (Θ : Th) (a0 : Int) (h0 g : Mem) (rv : Int) (h : fX12_isWord a0 g = some rv) : Ct l yX12_isWord cX12_isWord 2 (some .boolean) 0 0 Θ [.ref (Θ.2.2.2 0), vi a0] h0 g h0 g (some (vi rv)) := by
  refine x_start (by decide) (Nat.le_of_ble_eq_true rfl) ?_
  intro p e s m args below meth c ls C hM hl
  have hl : lv_has ls 2 [(0, .ref (Θ.2.2.2 0)), (1, vi a0)] := hl
  obtain ⟨hx, hb, hml, hown, hts, -⟩ := id C
  unfold fX12_isWord at h
  have key : ∀ (H : Heap) (locs : List Loc), Hd Θ s h0 g H locs → W p l e { frames := 0, cells := 0, slots := 0, locals := 0 } s m args below meth c H locs 0 0 (MQ below (Qx Θ s.heap.size h0 g (some (vi rv))) args s 0 0 (AA Θ s.heap.size)) (F0 m 0 ls []) := by
    intro H locs hM
    refine lv_aload_n hx hb (kX12_isWord (i := 0) rfl) rfl (lv_at hl 0 rfl) ?_
    refine gX12_token C hM q_fX12_282 (kX12_isWord (i := 1) rfl) ?_
    refine x_iconst hx hb (kX12_isWord (i := 2) rfl) ?_
    refine x_icmp_ne (a' := wr (g 0 50)) (b' := 2) hx hb rfl (by decide) (tgt := 20) (kX12_isWord (i := 3) rfl) (by decide) (fun c_1 => ?_) (fun c_1 => ?_)
    · have h := it_f c_1 h
      refine x_iconst hx hb (kX12_isWord (i := 10) rfl) ?_
      rw [← Option.some.inj h]
      exact x_iret C hM (nar_z (Or.inl rfl)) (kX12_isWord (i := 11) rfl)
    · have h := it_t c_1 h
      refine lv_aload_n hx hb (kX12_isWord (i := 4) rfl) rfl (lv_at hl 0 rfl) ?_
      refine gX12_tokenValue C hM q_fX12_279 (kX12_isWord (i := 5) rfl) ?_
      refine x_iload_n hx hb (kX12_isWord (i := 6) rfl) rfl (lv_at hl 1 rfl) ?_
      refine x_icmp_ne (a' := wr (g 0 52)) (b' := wr a0) hx hb rfl rfl (tgt := 20) (kX12_isWord (i := 7) rfl) (by decide) (fun c_2 => ?_) (fun c_2 => ?_)
      · have h := it_f c_2 h
        refine x_iconst hx hb (kX12_isWord (i := 10) rfl) ?_
        rw [← Option.some.inj h]
        exact x_iret C hM (nar_z (Or.inl rfl)) (kX12_isWord (i := 11) rfl)
      · have h := it_t c_2 h
        refine x_iconst hx hb (kX12_isWord (i := 8) rfl) ?_
        refine lv_goto (tgt := 21) hx hb (kX12_isWord (i := 9) rfl) (by decide) ?_
        rw [← Option.some.inj h]
        exact x_iret C hM (nar_z (Or.inr rfl)) (kX12_isWord (i := 11) rfl)
  exact key _ _ hM

/-! X12_push -/
def fX12_push (a0 : Int) (g : Mem) : Option (Mem) :=
  gd (g 0 54) 600 <|
  bnd (up g 36 (wr (g 0 54)).toNat a0) fun g_2 =>
  bnd (up g_2 0 54 ((g_2 0 54) + 1)) fun g_3 =>
  some g_3
set_option maxRecDepth 100000 in
set_option maxHeartbeats 4000000 in
theorem tX12_push (l : Launch) (Θ : Th) (a0 : Int) (h0 g : Mem) (gR : Mem) (h : fX12_push a0 g = some gR) : Ct l yX12_push cX12_push 2 none 0 0 Θ [.ref (Θ.2.2.2 0), vi a0] h0 g h0 gR none := by
  refine x_start (by decide) (Nat.le_of_ble_eq_true rfl) ?_
  intro p e s m args below meth c ls C hM hl
  have hl : lv_has ls 2 [(0, .ref (Θ.2.2.2 0)), (1, vi a0)] := hl
  obtain ⟨hx, hb, hml, hown, hts, -⟩ := id C
  unfold fX12_push at h
  have key : ∀ (H : Heap) (locs : List Loc), Hd Θ s h0 g H locs → W p l e { frames := 0, cells := 0, slots := 0, locals := 0 } s m args below meth c H locs 0 0 (MQ below (Qx Θ s.heap.size h0 gR none) args s 0 0 (AA Θ s.heap.size)) (F0 m 0 ls []) := by
    intro H locs hM
    refine lv_aload_n hx hb (kX12_push (i := 0) rfl) rfl (lv_at hl 0 rfl) ?_
    refine gX12_toCome C hM q_fX12_130 (kX12_push (i := 1) rfl) ?_
    refine lv_aload_n hx hb (kX12_push (i := 2) rfl) rfl (lv_at hl 0 rfl) ?_
    refine gX12_coming C hM q_fX12_294 (kX12_push (i := 3) rfl) ?_
    refine x_iload_n hx hb (kX12_push (i := 4) rfl) rfl (lv_at hl 1 rfl) ?_
    obtain ⟨hi_1, h⟩ := gd_some h
    obtain ⟨g_2, eg_2, h⟩ := bnd_some h
    refine x_iastM C hM 36 (by decide) (eM_36 Θ) hi_1 eg_2 (kX12_push (i := 5) rfl) (fun H locs hM => ?_)
    refine lv_aload_n hx hb (kX12_push (i := 6) rfl) rfl (lv_at hl 0 rfl) ?_
    refine lv_dup hx hb (kX12_push (i := 7) rfl) rfl ?_
    refine gX12_coming C hM q_fX12_294 (kX12_push (i := 8) rfl) ?_
    refine x_iconst hx hb (kX12_push (i := 9) rfl) ?_
    refine x_iadd hx hb (kX12_push (i := 10) rfl) ?_
    obtain ⟨g_3, eg_3, h⟩ := bnd_some h
    refine pX12_coming C hM q_fX12_294 eg_3 (kX12_push (i := 11) rfl) (fun H locs hM => ?_)
    rw [← Option.some.inj h]
    exact x_vret C hM (kX12_push (i := 12) rfl)
  exact key _ _ hM

/-! X12_emits -/
def fX12_emits (a0 : Int) (a1 : Int) (g : Mem) : Option (Mem) :=
  gd (g 0 59) 300 <|
  bnd (up g 37 (wr (g 0 59)).toNat a0) fun g_2 =>
  gd (g_2 0 59) 300 <|
  bnd (up g_2 38 (wr (g_2 0 59)).toNat a1) fun g_4 =>
  bnd (up g_4 0 59 ((g_4 0 59) + 1)) fun g_5 =>
  some g_5
set_option maxRecDepth 100000 in
set_option maxHeartbeats 4000000 in
theorem tX12_emits (l : Launch) (Θ : Th) (a0 : Int) (a1 : Int) (h0 g : Mem) (gR : Mem) (h : fX12_emits a0 a1 g = some gR) : Ct l yX12_emits cX12_emits 3 none 0 0 Θ [.ref (Θ.2.2.2 0), vi a0, vi a1] h0 g h0 gR none := by
  refine x_start (by decide) (Nat.le_of_ble_eq_true rfl) ?_
  intro p e s m args below meth c ls C hM hl
  have hl : lv_has ls 3 [(0, .ref (Θ.2.2.2 0)), (1, vi a0), (2, vi a1)] := hl
  obtain ⟨hx, hb, hml, hown, hts, -⟩ := id C
  unfold fX12_emits at h
  have key : ∀ (H : Heap) (locs : List Loc), Hd Θ s h0 g H locs → W p l e { frames := 0, cells := 0, slots := 0, locals := 0 } s m args below meth c H locs 0 0 (MQ below (Qx Θ s.heap.size h0 gR none) args s 0 0 (AA Θ s.heap.size)) (F0 m 0 ls []) := by
    intro H locs hM
    refine lv_aload_n hx hb (kX12_emits (i := 0) rfl) rfl (lv_at hl 0 rfl) ?_
    refine gX12_does C hM q_fX12_133 (kX12_emits (i := 1) rfl) ?_
    refine lv_aload_n hx hb (kX12_emits (i := 2) rfl) rfl (lv_at hl 0 rfl) ?_
    refine gX12_doing C hM q_fX12_297 (kX12_emits (i := 3) rfl) ?_
    refine x_iload_n hx hb (kX12_emits (i := 4) rfl) rfl (lv_at hl 1 rfl) ?_
    obtain ⟨hi_1, h⟩ := gd_some h
    obtain ⟨g_2, eg_2, h⟩ := bnd_some h
    refine x_iastM C hM 37 (by decide) (eM_37 Θ) hi_1 eg_2 (kX12_emits (i := 5) rfl) (fun H locs hM => ?_)
    refine lv_aload_n hx hb (kX12_emits (i := 6) rfl) rfl (lv_at hl 0 rfl) ?_
    refine gX12_doesWith C hM q_fX12_136 (kX12_emits (i := 7) rfl) ?_
    refine lv_aload_n hx hb (kX12_emits (i := 8) rfl) rfl (lv_at hl 0 rfl) ?_
    refine gX12_doing C hM q_fX12_297 (kX12_emits (i := 9) rfl) ?_
    refine x_iload_n hx hb (kX12_emits (i := 10) rfl) rfl (lv_at hl 2 rfl) ?_
    obtain ⟨hi_3, h⟩ := gd_some h
    obtain ⟨g_4, eg_4, h⟩ := bnd_some h
    refine x_iastM C hM 38 (by decide) (eM_38 Θ) hi_3 eg_4 (kX12_emits (i := 11) rfl) (fun H locs hM => ?_)
    refine lv_aload_n hx hb (kX12_emits (i := 12) rfl) rfl (lv_at hl 0 rfl) ?_
    refine lv_dup hx hb (kX12_emits (i := 13) rfl) rfl ?_
    refine gX12_doing C hM q_fX12_297 (kX12_emits (i := 14) rfl) ?_
    refine x_iconst hx hb (kX12_emits (i := 15) rfl) ?_
    refine x_iadd hx hb (kX12_emits (i := 16) rfl) ?_
    obtain ⟨g_5, eg_5, h⟩ := bnd_some h
    refine pX12_doing C hM q_fX12_297 eg_5 (kX12_emits (i := 17) rfl) (fun H locs hM => ?_)
    rw [← Option.some.inj h]
    exact x_vret C hM (kX12_emits (i := 18) rfl)
  exact key _ _ hM

/-! X12_deeper -/
def fX12_deeper (g : Mem) : Option (Int × Mem) :=
  if wr (g 0 55) = 8 then (
    some (0, g)
  ) else (
    bnd (up g 0 55 ((g 0 55) + 1)) fun g_2 =>
    bd (fX12_push 12 g_2) fun g_5 =>
    some (1, g_5)
  )
set_option maxRecDepth 100000 in
set_option maxHeartbeats 4000000 in
theorem tX12_deeper (l : Launch) (Θ : Th) (h0 g : Mem) (rv : Int) (gR : Mem) (h : fX12_deeper g = some (rv, gR)) : Ct l yX12_deeper cX12_deeper 1 (some .boolean) 1 21 Θ [.ref (Θ.2.2.2 0)] h0 g h0 gR (some (vi rv)) := by
  refine x_start (by decide) (Nat.le_of_ble_eq_true rfl) ?_
  intro p e s m args below meth c ls C hM hl
  have hl : lv_has ls 1 [(0, .ref (Θ.2.2.2 0))] := hl
  obtain ⟨hx, hb, hml, hown, hts, -⟩ := id C
  unfold fX12_deeper at h
  have key : ∀ (H : Heap) (locs : List Loc), Hd Θ s h0 g H locs → W p l e { frames := 1, cells := 0, slots := 0, locals := 21 } s m args below meth c H locs 0 0 (MQ below (Qx Θ s.heap.size h0 gR (some (vi rv))) args s 0 0 (AA Θ s.heap.size)) (F0 m 0 ls []) := by
    intro H locs hM
    refine lv_aload_n hx hb (kX12_deeper (i := 0) rfl) rfl (lv_at hl 0 rfl) ?_
    refine gX12_deep C hM q_fX12_303 (kX12_deeper (i := 1) rfl) ?_
    refine x_bipush hx hb (by decide) (kX12_deeper (i := 2) rfl) ?_
    refine x_icmp_ne (a' := wr (g 0 55)) (b' := 8) hx hb rfl (by decide) (tgt := 11) (kX12_deeper (i := 3) rfl) (by decide) (fun c_1 => ?_) (fun c_1 => ?_)
    · have h := it_f c_1 h
      refine lv_aload_n hx hb (kX12_deeper (i := 6) rfl) rfl (lv_at hl 0 rfl) ?_
      refine lv_dup hx hb (kX12_deeper (i := 7) rfl) rfl ?_
      refine gX12_deep C hM q_fX12_303 (kX12_deeper (i := 8) rfl) ?_
      refine x_iconst hx hb (kX12_deeper (i := 9) rfl) ?_
      refine x_iadd hx hb (kX12_deeper (i := 10) rfl) ?_
      obtain ⟨g_2, eg_2, h⟩ := bnd_some h
      refine pX12_deep C hM q_fX12_303 eg_2 (kX12_deeper (i := 11) rfl) (fun H locs hM => ?_)
      refine lv_aload_n hx hb (kX12_deeper (i := 12) rfl) rfl (lv_at hl 0 rfl) ?_
      refine x_bipush hx hb (by decide) (kX12_deeper (i := 13) rfl) ?_
      obtain ⟨g_5, hc_4, h⟩ := bd_some h
      refine x_callV (n := 1) (As := [vi 12]) (rest := []) C hM (tX12_push l Θ 12 h0 g_2 g_5 hc_4) (x_recvM C hM 0 (by decide) (eM_0 Θ _) rfl rfl) q_c_X12_push q_mX12_306 q_i_X12_push q_e_X12_push q_n_X12 (by decide +kernel) ⟨by decide, by decide⟩ rfl hl.1 rfl (Nat.le_of_ble_eq_true rfl) (kX12_deeper (i := 14) rfl) (fun H locs hM => ?_)
      refine x_iconst hx hb (kX12_deeper (i := 15) rfl) ?_
      obtain ⟨q1, q2⟩ := ret2 h
      rw [q1, q2]
      exact x_iret C hM (nar_z (Or.inr rfl)) (kX12_deeper (i := 16) rfl)
    · have h := it_t c_1 h
      refine x_iconst hx hb (kX12_deeper (i := 4) rfl) ?_
      obtain ⟨q1, q2⟩ := ret2 h
      rw [q1, q2]
      exact x_iret C hM (nar_z (Or.inl rfl)) (kX12_deeper (i := 5) rfl)
  exact key _ _ hM

/-! X12_both -/
def fX12_both (a0 : Int) (a1 : Int) (g : Mem) : Option (Int × Mem) :=
  bd (fX12_push a0 g) fun g_3 =>
  bd (fX12_push a1 g_3) fun g_6 =>
  some (1, g_6)
set_option maxRecDepth 100000 in
set_option maxHeartbeats 4000000 in
theorem tX12_both (l : Launch) (Θ : Th) (a0 : Int) (a1 : Int) (h0 g : Mem) (rv : Int) (gR : Mem) (h : fX12_both a0 a1 g = some (rv, gR)) : Ct l yX12_both cX12_both 3 (some .boolean) 1 21 Θ [.ref (Θ.2.2.2 0), vi a0, vi a1] h0 g h0 gR (some (vi rv)) := by
  refine x_start (by decide) (Nat.le_of_ble_eq_true rfl) ?_
  intro p e s m args below meth c ls C hM hl
  have hl : lv_has ls 3 [(0, .ref (Θ.2.2.2 0)), (1, vi a0), (2, vi a1)] := hl
  obtain ⟨hx, hb, hml, hown, hts, -⟩ := id C
  unfold fX12_both at h
  have key : ∀ (H : Heap) (locs : List Loc), Hd Θ s h0 g H locs → W p l e { frames := 1, cells := 0, slots := 0, locals := 21 } s m args below meth c H locs 0 0 (MQ below (Qx Θ s.heap.size h0 gR (some (vi rv))) args s 0 0 (AA Θ s.heap.size)) (F0 m 0 ls []) := by
    intro H locs hM
    refine lv_aload_n hx hb (kX12_both (i := 0) rfl) rfl (lv_at hl 0 rfl) ?_
    refine x_iload_n hx hb (kX12_both (i := 1) rfl) rfl (lv_at hl 1 rfl) ?_
    obtain ⟨g_3, hc_2, h⟩ := bd_some h
    refine x_callV (n := 1) (As := [vi a0]) (rest := []) C hM (tX12_push l Θ a0 h0 g g_3 hc_2) (x_recvM C hM 0 (by decide) (eM_0 Θ _) rfl rfl) q_c_X12_push q_mX12_306 q_i_X12_push q_e_X12_push q_n_X12 (by decide +kernel) ⟨by decide, by decide⟩ rfl hl.1 rfl (Nat.le_of_ble_eq_true rfl) (kX12_both (i := 2) rfl) (fun H locs hM => ?_)
    refine lv_aload_n hx hb (kX12_both (i := 3) rfl) rfl (lv_at hl 0 rfl) ?_
    refine x_iload_n hx hb (kX12_both (i := 4) rfl) rfl (lv_at hl 2 rfl) ?_
    obtain ⟨g_6, hc_5, h⟩ := bd_some h
    refine x_callV (n := 1) (As := [vi a1]) (rest := []) C hM (tX12_push l Θ a1 h0 g_3 g_6 hc_5) (x_recvM C hM 0 (by decide) (eM_0 Θ _) rfl rfl) q_c_X12_push q_mX12_306 q_i_X12_push q_e_X12_push q_n_X12 (by decide +kernel) ⟨by decide, by decide⟩ rfl hl.1 rfl (Nat.le_of_ble_eq_true rfl) (kX12_both (i := 5) rfl) (fun H locs hM => ?_)
    refine x_iconst hx hb (kX12_both (i := 6) rfl) ?_
    obtain ⟨q1, q2⟩ := ret2 h
    rw [q1, q2]
    exact x_iret C hM (nar_z (Or.inr rfl)) (kX12_both (i := 7) rfl)
  exact key _ _ hM

/-! X12_holds -/
def fX12_holds (a0 : Int) (g : Mem) : Option (Int × Mem) :=
  bd (fX12_in a0 0 1) fun r_1 =>
  if wr r_1 = 0 then (
    some ((-1), g)
  ) else (
    if 600 ≤ wr (g 0 26) then (
      some ((-1), g)
    ) else (
      bd2 (fX12_isSo a0 0 (g 0 26) g) fun r_5 g_7 =>
      if wr r_5 = 0 then (
        some (0, g_7)
      ) else (
        some (1, g_7)
      )
    )
  )
set_option maxRecDepth 100000 in
set_option maxHeartbeats 4000000 in
theorem tX12_holds (l : Launch) (Θ : Th) (a0 : Int) (h0 g : Mem) (rv : Int) (gR : Mem) (h : fX12_holds a0 g = some (rv, gR)) : Ct l yX12_holds cX12_holds 2 (some .int) 3 71 Θ [.ref (Θ.2.2.2 0), vi a0] h0 g h0 gR (some (vi rv)) := by
  refine x_start (by decide) (Nat.le_of_ble_eq_true rfl) ?_
  intro p e s m args below meth c ls C hM hl
  have hl : lv_has ls 2 [(0, .ref (Θ.2.2.2 0)), (1, vi a0)] := hl
  obtain ⟨hx, hb, hml, hown, hts, -⟩ := id C
  unfold fX12_holds at h
  have key : ∀ (H : Heap) (locs : List Loc), Hd Θ s h0 g H locs → W p l e { frames := 3, cells := 0, slots := 0, locals := 71 } s m args below meth c H locs 0 0 (MQ below (Qx Θ s.heap.size h0 gR (some (vi rv))) args s 0 0 (AA Θ s.heap.size)) (F0 m 0 ls []) := by
    intro H locs hM
    refine x_iload_n hx hb (kX12_holds (i := 0) rfl) rfl (lv_at hl 1 rfl) ?_
    refine x_iconst hx hb (kX12_holds (i := 1) rfl) ?_
    refine x_iconst hx hb (kX12_holds (i := 2) rfl) ?_
    obtain ⟨r_1, hc_2, h⟩ := bd_some h
    refine x_callS (n := 3) (As := [vi a0, vi 0, vi 1]) (rest := []) C hM (tX12_in l Θ a0 0 1 h0 g r_1 hc_2) q_c_X12_in q_mX12_173 q_s_X12_in q_n_X12 (by decide +kernel) ⟨by decide, by decide⟩ rfl hl.1 rfl (Nat.le_of_ble_eq_true rfl) (kX12_holds (i := 3) rfl) (fun H locs hM => ?_)
    refine x_if_eq (a' := wr r_1) hx hb rfl (tgt := 40) (kX12_holds (i := 4) rfl) (by decide) (fun c_3 => ?_) (fun c_3 => ?_)
    · have h := it_t c_3 h
      refine x_iconst hx hb (kX12_holds (i := 20) rfl) ?_
      obtain ⟨q1, q2⟩ := ret2 h
      rw [q1, q2]
      exact x_iret C hM (nar_i _) (kX12_holds (i := 21) rfl)
    · have h := it_f c_3 h
      refine lv_aload_n hx hb (kX12_holds (i := 5) rfl) rfl (lv_at hl 0 rfl) ?_
      refine gX12_now C hM q_fX12_254 (kX12_holds (i := 6) rfl) ?_
      refine x_sipush hx hb (by decide) (kX12_holds (i := 7) rfl) ?_
      refine x_icmp_ge (a' := wr (g 0 26)) (b' := 600) hx hb rfl (by decide) (tgt := 40) (kX12_holds (i := 8) rfl) (by decide) (fun c_4 => ?_) (fun c_4 => ?_)
      · have h := it_t c_4 h
        refine x_iconst hx hb (kX12_holds (i := 20) rfl) ?_
        obtain ⟨q1, q2⟩ := ret2 h
        rw [q1, q2]
        exact x_iret C hM (nar_i _) (kX12_holds (i := 21) rfl)
      · have h := it_f c_4 h
        refine lv_aload_n hx hb (kX12_holds (i := 9) rfl) rfl (lv_at hl 0 rfl) ?_
        refine x_iload_n hx hb (kX12_holds (i := 10) rfl) rfl (lv_at hl 1 rfl) ?_
        refine x_iconst hx hb (kX12_holds (i := 11) rfl) ?_
        refine lv_aload_n hx hb (kX12_holds (i := 12) rfl) rfl (lv_at hl 0 rfl) ?_
        refine gX12_now C hM q_fX12_254 (kX12_holds (i := 13) rfl) ?_
        obtain ⟨r_5, g_7, hc_6, h⟩ := bd2_some h
        refine x_callV (n := 3) (As := [vi a0, vi 0, vi (g 0 26)]) (rest := []) C hM (tX12_isSo l Θ a0 0 (g 0 26) h0 g r_5 g_7 hc_6) (x_recvM C hM 0 (by decide) (eM_0 Θ _) rfl rfl) q_c_X12_isSo q_mX12_247 q_i_X12_isSo q_e_X12_isSo q_n_X12 (by decide +kernel) ⟨by decide, by decide⟩ rfl hl.1 rfl (Nat.le_of_ble_eq_true rfl) (kX12_holds (i := 14) rfl) (fun H locs hM => ?_)
        refine x_if_eq (a' := wr r_5) hx hb rfl (tgt := 36) (kX12_holds (i := 15) rfl) (by decide) (fun c_8 => ?_) (fun c_8 => ?_)
        · have h := it_t c_8 h
          refine x_iconst hx hb (kX12_holds (i := 18) rfl) ?_
          refine lv_goto (tgt := 41) hx hb (kX12_holds (i := 19) rfl) (by decide) ?_
          obtain ⟨q1, q2⟩ := ret2 h
          rw [q1, q2]
          exact x_iret C hM (nar_i _) (kX12_holds (i := 21) rfl)
        · have h := it_f c_8 h
          refine x_iconst hx hb (kX12_holds (i := 16) rfl) ?_
          refine lv_goto (tgt := 41) hx hb (kX12_holds (i := 17) rfl) (by decide) ?_
          obtain ⟨q1, q2⟩ := ret2 h
          rw [q1, q2]
          exact x_iret C hM (nar_i _) (kX12_holds (i := 21) rfl)
  exact key _ _ hM

/-! X12_tries -/
def fX12_tries_L2 : Nat → Int → Int → Int → Mem → (Int → Int → Mem → Option (Mem)) → Option (Mem)
  | 0, _, _, _, _, _ => none
  | n + 1, y1, y2, y3, g, K29 =>
    if 12 ≤ wr y3 then (
      K29 y1 y2 g
    ) else (
      gd y3 24 <|
      gd (12 + y3) 24 <|
      bnd (up g 18 (wr (12 + y3)).toNat (g 18 (wr y3).toNat)) fun g_4 =>
      bnd (y3 + 1) fun x_5 =>
      fX12_tries_L2 n y1 y2 x_5 g_4 K29
    )
def fX12_tries_L31 : Nat → Int → Int → Int → Mem → (Int → Int → Mem → Option (Mem)) → Option (Mem)
  | 0, _, _, _, _, _ => none
  | n + 1, y1, y2, y3, g, K58 =>
    if 6 ≤ wr y3 then (
      K58 y1 y2 g
    ) else (
      gd y3 12 <|
      gd (6 + y3) 12 <|
      gc (g 24 (wr y3).toNat = 0 ∨ g 24 (wr y3).toNat = 1) <|
      bnd (up g 24 (wr (6 + y3)).toNat (g 24 (wr y3).toNat)) fun g_13 =>
      bnd (y3 + 1) fun x_14 =>
      fX12_tries_L31 n y1 y2 x_14 g_13 K58
    )
def fX12_tries_L131 : Nat → Int → Int → Int → Int → Mem → (Int → Mem → Option (Mem)) → Option (Mem)
  | 0, _, _, _, _, _, _ => none
  | n + 1, y1, y2, y3, y4, g, K227 =>
    if wr y1 < wr y4 then (
      K227 y3 g
    ) else (
      gd 1 2 <|
      jn (fun (v_38 : Int) =>
        jn (fun (g_39 : Mem) =>
          jn (fun (v_40 : Int) (g_41 : Mem) =>
            bnd (y4 + 1) fun x_42 =>
            fX12_tries_L131 n y1 y2 y3 x_42 g_41 K227
          ) fun J219 =>
          jn (fun (g_43 : Mem) =>
            J219 0 g_43
          ) fun J218 =>
          if wr y1 ≤ wr y4 then (
            J218 g_39
          ) else (
            if 600 ≤ wr ((g_39 0 26) + y4) then (
              J218 g_39
            ) else (
              bd2 (fX12_goesOn 1 ((g_39 0 26) + y4) y2 g_39) fun r_46 g_48 =>
              if wr r_46 = 0 then (
                J218 g_48
              ) else (
                J219 1 g_48
              )
            )
          )
        ) fun J179 =>
        if wr v_38 ≤ wr (g 0 73) then (
          J179 g
        ) else (
          bnd (up g 0 73 v_38) fun g_51 =>
          J179 g_51
        )
      ) fun J162 =>
      if 0 ≤ wr (g 19 (wr 1).toNat) then (
        gd 1 2 <|
        J162 (g 19 (wr 1).toNat)
      ) else (
        gd 1 2 <|
        J162 (-(g 19 (wr 1).toNat))
      )
    )
def fX12_tries (a0 : Int) (a1 : Int) (g : Mem) : Option (Mem) :=
  fX12_tries_L2 fuel a0 a1 0 g
  (fun (z_6 : Int) (z_7 : Int) (g_8 : Mem) =>
    fX12_tries_L31 fuel z_6 z_7 0 g_8
    (fun (z_15 : Int) (z_16 : Int) (g_17 : Mem) =>
      gd 0 2 <|
      gd 1 2 <|
      bnd (up g_17 19 (wr 1).toNat (g_17 19 (wr 0).toNat)) fun g_20 =>
      gd 0 2 <|
      gd 1 2 <|
      bnd (up g_20 20 (wr 1).toNat (g_20 20 (wr 0).toNat)) fun g_23 =>
      gd 0 2 <|
      gd 1 2 <|
      bnd (up g_23 21 (wr 1).toNat (g_23 21 (wr 0).toNat)) fun g_26 =>
      gd 0 2 <|
      gd 1 2 <|
      bnd (up g_26 22 (wr 1).toNat (g_26 22 (wr 0).toNat)) fun g_29 =>
      gd 0 2 <|
      gd 1 2 <|
      gc (g_29 23 (wr 0).toNat = 0 ∨ g_29 23 (wr 0).toNat = 1) <|
      bnd (up g_29 23 (wr 1).toNat (g_29 23 (wr 0).toNat)) fun g_33 =>
      bnd (g_33 0 70) fun x_34 =>
      bnd (up g_33 0 73 0) fun g_35 =>
      fX12_tries_L131 fuel z_15 z_16 x_34 0 g_35
      (fun (z_55 : Int) (g_56 : Mem) =>
        bnd (up g_56 0 70 z_55) fun g_57 =>
        some g_57
      )
    )
  )
set_option maxRecDepth 100000 in
set_option maxHeartbeats 4000000 in
theorem wX12_tries_L2 {p : Program} {l : Launch} {e : Env} {s : State} {m : MethodId} {args : Array Value} {below : List Frame} {meth : Method} {c : Code} {Θ : Th} {h0 : Mem} {gR : Mem} {K29 : Int → Int → Mem → Option (Mem)} (C : Cx p s m args meth c cX12_tries 7 RX12 none Θ) : ∀ (n : Nat) (y1 : Int) (y2 : Int) (y3 : Int) (g : Mem) (H : Heap) (locs : List Loc) (ls : Array Slot), fX12_tries_L2 n y1 y2 y3 g K29 = some gR → (∀ (z1 : Int) (z2 : Int) (gz : Mem) (H : Heap) (locs : List Loc) (ls : Array Slot), K29 z1 z2 gz = some gR → Hd Θ s h0 gz H locs → lv_has ls 7 [(0, .ref (Θ.2.2.2 0)), (1, vi z1), (2, vi z2)] → W p l e { frames := 4, cells := 0, slots := 0, locals := 101 } s m args below meth c H locs 0 0 (MQ below (Qx Θ s.heap.size h0 gR none) args s 0 0 (AA Θ s.heap.size)) (F0 m 29 ls [])) → Hd Θ s h0 g H locs → lv_has ls 7 [(0, .ref (Θ.2.2.2 0)), (1, vi y1), (2, vi y2), (3, vi y3)] → W p l e { frames := 4, cells := 0, slots := 0, locals := 101 } s m args below meth c H locs 0 0 (MQ below (Qx Θ s.heap.size h0 gR none) args s 0 0 (AA Θ s.heap.size)) (F0 m 2 ls []) := by
  intro n
  obtain ⟨hx, hb, hml, hown, hts, -⟩ := id C
  induction n with
  | zero => intro y1 y2 y3 g H locs ls h; cases h
  | succ n ih =>
    intro y1 y2 y3 g H locs ls h hK29 hM hl
    rw [fX12_tries_L2] at h
    refine x_iload_n hx hb (kX12_tries (i := 2) rfl) rfl (lv_at hl 3 rfl) ?_
    refine x_bipush hx hb (by decide) (kX12_tries (i := 3) rfl) ?_
    refine x_icmp_ge (a' := wr y3) (b' := 12) hx hb rfl (by decide) (tgt := 29) (kX12_tries (i := 4) rfl) (by decide) (fun c_1 => ?_) (fun c_1 => ?_)
    · have h := it_t c_1 h
      exact hK29 y1 y2 g H locs ls h hM (lv_sub hl [0, 1, 2] rfl)
    · have h := it_f c_1 h
      refine lv_aload_n hx hb (kX12_tries (i := 5) rfl) rfl (lv_at hl 0 rfl) ?_
      refine gX12_place C hM q_fX12_72 (kX12_tries (i := 6) rfl) ?_
      refine x_bipush hx hb (by decide) (kX12_tries (i := 7) rfl) ?_
      refine x_iload_n hx hb (kX12_tries (i := 8) rfl) rfl (lv_at hl 3 rfl) ?_
      refine x_iadd hx hb (kX12_tries (i := 9) rfl) ?_
      refine lv_aload_n hx hb (kX12_tries (i := 10) rfl) rfl (lv_at hl 0 rfl) ?_
      refine gX12_place C hM q_fX12_72 (kX12_tries (i := 11) rfl) ?_
      refine x_iload_n hx hb (kX12_tries (i := 12) rfl) rfl (lv_at hl 3 rfl) ?_
      obtain ⟨hi_2, h⟩ := gd_some h
      refine x_ialdM C hM 18 (by decide) (eM_18 Θ) hi_2 (kX12_tries (i := 13) rfl) ?_
      obtain ⟨hi_3, h⟩ := gd_some h
      obtain ⟨g_4, eg_4, h⟩ := bnd_some h
      refine x_iastM C hM 18 (by decide) (eM_18 Θ) hi_3 eg_4 (kX12_tries (i := 14) rfl) (fun H locs hM => ?_)
      obtain ⟨x_5, ex_5, h⟩ := bnd_some h
      refine x_iinc (k := 3) (lv' := [(3, vi x_5), (0, .ref (Θ.2.2.2 0)), (1, vi y1), (2, vi y2)]) hx hb (kX12_tries (i := 15) rfl) hl rfl ex_5 (by decide) rfl (fun ls hl => ?_)
      refine lv_goto (tgt := 2) hx hb (kX12_tries (i := 16) rfl) (by decide) ?_
      exact ih y1 y2 x_5 g_4 H locs ls h hK29 hM (lv_sub hl [1, 2, 3, 0] rfl)
set_option maxRecDepth 100000 in
set_option maxHeartbeats 4000000 in
theorem wX12_tries_L31 {p : Program} {l : Launch} {e : Env} {s : State} {m : MethodId} {args : Array Value} {below : List Frame} {meth : Method} {c : Code} {Θ : Th} {h0 : Mem} {gR : Mem} {K58 : Int → Int → Mem → Option (Mem)} (C : Cx p s m args meth c cX12_tries 7 RX12 none Θ) : ∀ (n : Nat) (y1 : Int) (y2 : Int) (y3 : Int) (g : Mem) (H : Heap) (locs : List Loc) (ls : Array Slot), fX12_tries_L31 n y1 y2 y3 g K58 = some gR → (∀ (z1 : Int) (z2 : Int) (gz : Mem) (H : Heap) (locs : List Loc) (ls : Array Slot), K58 z1 z2 gz = some gR → Hd Θ s h0 gz H locs → lv_has ls 7 [(0, .ref (Θ.2.2.2 0)), (1, vi z1), (2, vi z2)] → W p l e { frames := 4, cells := 0, slots := 0, locals := 101 } s m args below meth c H locs 0 0 (MQ below (Qx Θ s.heap.size h0 gR none) args s 0 0 (AA Θ s.heap.size)) (F0 m 58 ls [])) → Hd Θ s h0 g H locs → lv_has ls 7 [(0, .ref (Θ.2.2.2 0)), (1, vi y1), (2, vi y2), (3, vi y3)] → W p l e { frames := 4, cells := 0, slots := 0, locals := 101 } s m args below meth c H locs 0 0 (MQ below (Qx Θ s.heap.size h0 gR none) args s 0 0 (AA Θ s.heap.size)) (F0 m 31 ls []) := by
  intro n
  obtain ⟨hx, hb, hml, hown, hts, -⟩ := id C
  induction n with
  | zero => intro y1 y2 y3 g H locs ls h; cases h
  | succ n ih =>
    intro y1 y2 y3 g H locs ls h hK58 hM hl
    rw [fX12_tries_L31] at h
    refine x_iload_n hx hb (kX12_tries (i := 19) rfl) rfl (lv_at hl 3 rfl) ?_
    refine x_bipush hx hb (by decide) (kX12_tries (i := 20) rfl) ?_
    refine x_icmp_ge (a' := wr y3) (b' := 6) hx hb rfl (by decide) (tgt := 58) (kX12_tries (i := 21) rfl) (by decide) (fun c_9 => ?_) (fun c_9 => ?_)
    · have h := it_t c_9 h
      exact hK58 y1 y2 g H locs ls h hM (lv_sub hl [0, 1, 2] rfl)
    · have h := it_f c_9 h
      refine lv_aload_n hx hb (kX12_tries (i := 22) rfl) rfl (lv_at hl 0 rfl) ?_
      refine gX12_isWet C hM q_fX12_90 (kX12_tries (i := 23) rfl) ?_
      refine x_bipush hx hb (by decide) (kX12_tries (i := 24) rfl) ?_
      refine x_iload_n hx hb (kX12_tries (i := 25) rfl) rfl (lv_at hl 3 rfl) ?_
      refine x_iadd hx hb (kX12_tries (i := 26) rfl) ?_
      refine lv_aload_n hx hb (kX12_tries (i := 27) rfl) rfl (lv_at hl 0 rfl) ?_
      refine gX12_isWet C hM q_fX12_90 (kX12_tries (i := 28) rfl) ?_
      refine x_iload_n hx hb (kX12_tries (i := 29) rfl) rfl (lv_at hl 3 rfl) ?_
      obtain ⟨hi_10, h⟩ := gd_some h
      refine x_zaldM C hM 24 (by decide) (eM_24 Θ) hi_10 (kX12_tries (i := 30) rfl) ?_
      obtain ⟨hi_11, h⟩ := gd_some h
      obtain ⟨hz_12, h⟩ := gc_some h
      obtain ⟨g_13, eg_13, h⟩ := bnd_some h
      refine x_zastM C hM 24 (by decide) (eM_24 Θ) hi_11 hz_12 eg_13 (kX12_tries (i := 31) rfl) (fun H locs hM => ?_)
      obtain ⟨x_14, ex_14, h⟩ := bnd_some h
      refine x_iinc (k := 3) (lv' := [(3, vi x_14), (0, .ref (Θ.2.2.2 0)), (1, vi y1), (2, vi y2)]) hx hb (kX12_tries (i := 32) rfl) hl rfl ex_14 (by decide) rfl (fun ls hl => ?_)
      refine lv_goto (tgt := 31) hx hb (kX12_tries (i := 33) rfl) (by decide) ?_
      exact ih y1 y2 x_14 g_13 H locs ls h hK58 hM (lv_sub hl [1, 2, 3, 0] rfl)
set_option maxRecDepth 100000 in
set_option maxHeartbeats 4000000 in
theorem wX12_tries_L131 {p : Program} {l : Launch} {e : Env} {s : State} {m : MethodId} {args : Array Value} {below : List Frame} {meth : Method} {c : Code} {Θ : Th} {h0 : Mem} {gR : Mem} {K227 : Int → Mem → Option (Mem)} (C : Cx p s m args meth c cX12_tries 7 RX12 none Θ) : ∀ (n : Nat) (y1 : Int) (y2 : Int) (y3 : Int) (y4 : Int) (g : Mem) (H : Heap) (locs : List Loc) (ls : Array Slot), fX12_tries_L131 n y1 y2 y3 y4 g K227 = some gR → (∀ (z3 : Int) (gz : Mem) (H : Heap) (locs : List Loc) (ls : Array Slot), K227 z3 gz = some gR → Hd Θ s h0 gz H locs → lv_has ls 7 [(0, .ref (Θ.2.2.2 0)), (3, vi z3)] → W p l e { frames := 4, cells := 0, slots := 0, locals := 101 } s m args below meth c H locs 0 0 (MQ below (Qx Θ s.heap.size h0 gR none) args s 0 0 (AA Θ s.heap.size)) (F0 m 227 ls [])) → Hd Θ s h0 g H locs → lv_has ls 7 [(0, .ref (Θ.2.2.2 0)), (1, vi y1), (2, vi y2), (3, vi y3), (4, vi y4)] → W p l e { frames := 4, cells := 0, slots := 0, locals := 101 } s m args below meth c H locs 0 0 (MQ below (Qx Θ s.heap.size h0 gR none) args s 0 0 (AA Θ s.heap.size)) (F0 m 131 ls []) := by
  intro n
  obtain ⟨hx, hb, hml, hown, hts, -⟩ := id C
  induction n with
  | zero => intro y1 y2 y3 y4 g H locs ls h; cases h
  | succ n ih =>
    intro y1 y2 y3 y4 g H locs ls h hK227 hM hl
    rw [fX12_tries_L131] at h
    refine x_iload hx hb (kX12_tries (i := 82) rfl) (lv_at hl 4 rfl) ?_
    refine x_iload_n hx hb (kX12_tries (i := 83) rfl) rfl (lv_at hl 1 rfl) ?_
    refine x_icmp_gt (a' := wr y4) (b' := wr y1) hx hb rfl rfl (tgt := 227) (kX12_tries (i := 84) rfl) (by decide) (fun c_36 => ?_) (fun c_36 => ?_)
    · have h := it_t c_36 h
      exact hK227 y3 g H locs ls h hM (lv_sub hl [0, 3] rfl)
    · have h := it_f c_36 h
      refine lv_aload_n hx hb (kX12_tries (i := 85) rfl) rfl (lv_at hl 0 rfl) ?_
      refine gX12_slope C hM q_fX12_75 (kX12_tries (i := 86) rfl) ?_
      refine x_iconst hx hb (kX12_tries (i := 87) rfl) ?_
      obtain ⟨hi_37, h⟩ := gd_some h
      refine x_ialdM C hM 19 (by decide) (eM_19 Θ) hi_37 (kX12_tries (i := 88) rfl) ?_
      refine jn_go h (fun J162 : Int → Option (Mem) => ∀ (v_38 : Int) (H : Heap) (locs : List Loc) (ls : Array Slot), J162 v_38 = some gR → Hd Θ s h0 g H locs → lv_has ls 7 [(0, .ref (Θ.2.2.2 0)), (1, vi y1), (2, vi y2), (3, vi y3), (4, vi y4)] → W p l e { frames := 4, cells := 0, slots := 0, locals := 101 } s m args below meth c H locs 0 0 (MQ below (Qx Θ s.heap.size h0 gR none) args s 0 0 (AA Θ s.heap.size)) (F0 m 162 ls [vi v_38])) ?_ ?_
      · intro v_38 H locs ls h hM hl
        refine x_istore (lv' := [(5, vi v_38), (0, .ref (Θ.2.2.2 0)), (1, vi y1), (2, vi y2), (3, vi y3), (4, vi y4)]) hx hb (kX12_tries (i := 100) rfl) hl (by decide) rfl (fun ls hl => ?_)
        refine x_iload hx hb (kX12_tries (i := 101) rfl) (lv_at hl 0 rfl) ?_
        refine lv_aload_n hx hb (kX12_tries (i := 102) rfl) rfl (lv_at hl 1 rfl) ?_
        refine gX12_greatest C hM q_fX12_362 (kX12_tries (i := 103) rfl) ?_
        refine jn_go h (fun J179 : Mem → Option (Mem) => ∀ (g_39 : Mem) (H : Heap) (locs : List Loc) (ls : Array Slot), J179 g_39 = some gR → Hd Θ s h0 g_39 H locs → lv_has ls 7 [(0, .ref (Θ.2.2.2 0)), (1, vi y1), (2, vi y2), (3, vi y3), (4, vi y4)] → W p l e { frames := 4, cells := 0, slots := 0, locals := 101 } s m args below meth c H locs 0 0 (MQ below (Qx Θ s.heap.size h0 gR none) args s 0 0 (AA Θ s.heap.size)) (F0 m 179 ls [])) ?_ ?_
        · intro g_39 H locs ls h hM hl
          refine x_iload hx hb (kX12_tries (i := 108) rfl) (lv_at hl 4 rfl) ?_
          refine x_iload_n hx hb (kX12_tries (i := 109) rfl) rfl (lv_at hl 1 rfl) ?_
          refine jn_go h (fun J219 : Int → Mem → Option (Mem) => ∀ (v_40 : Int) (g_41 : Mem) (H : Heap) (locs : List Loc) (ls : Array Slot), J219 v_40 g_41 = some gR → Hd Θ s h0 g_41 H locs → lv_has ls 7 [(0, .ref (Θ.2.2.2 0)), (1, vi y1), (2, vi y2), (3, vi y3), (4, vi y4)] → W p l e { frames := 4, cells := 0, slots := 0, locals := 101 } s m args below meth c H locs 0 0 (MQ below (Qx Θ s.heap.size h0 gR none) args s 0 0 (AA Θ s.heap.size)) (F0 m 219 ls [vi v_40])) ?_ ?_
          · intro v_40 g_41 H locs ls h hM hl
            refine x_istore (lv' := [(6, vi v_40), (0, .ref (Θ.2.2.2 0)), (1, vi y1), (2, vi y2), (3, vi y3), (4, vi y4)]) hx hb (kX12_tries (i := 129) rfl) hl (by decide) rfl (fun ls hl => ?_)
            obtain ⟨x_42, ex_42, h⟩ := bnd_some h
            refine x_iinc (k := 5) (lv' := [(4, vi x_42), (6, vi v_40), (0, .ref (Θ.2.2.2 0)), (1, vi y1), (2, vi y2), (3, vi y3)]) hx hb (kX12_tries (i := 130) rfl) hl rfl ex_42 (by decide) rfl (fun ls hl => ?_)
            refine lv_goto (tgt := 131) hx hb (kX12_tries (i := 131) rfl) (by decide) ?_
            exact ih y1 y2 y3 x_42 g_41 H locs ls h hK227 hM (lv_sub hl [2, 3, 4, 5, 0] rfl)
          intro J219 hJ219 h
          refine jn_go h (fun J218 : Mem → Option (Mem) => ∀ (g_43 : Mem) (H : Heap) (locs : List Loc) (ls : Array Slot), J218 g_43 = some gR → Hd Θ s h0 g_43 H locs → lv_has ls 7 [(0, .ref (Θ.2.2.2 0)), (1, vi y1), (2, vi y2), (3, vi y3), (4, vi y4)] → W p l e { frames := 4, cells := 0, slots := 0, locals := 101 } s m args below meth c H locs 0 0 (MQ below (Qx Θ s.heap.size h0 gR none) args s 0 0 (AA Θ s.heap.size)) (F0 m 218 ls [])) ?_ ?_
          · intro g_43 H locs ls h hM hl
            refine x_iconst hx hb (kX12_tries (i := 128) rfl) ?_
            exact hJ219 0 g_43 H locs ls h hM (lv_sub hl [0, 1, 2, 3, 4] rfl)
          intro J218 hJ218 h
          refine x_icmp_ge (a' := wr y4) (b' := wr y1) hx hb rfl rfl (tgt := 218) (kX12_tries (i := 110) rfl) (by decide) (fun c_44 => ?_) (fun c_44 => ?_)
          · have h := it_t c_44 h
            exact hJ218 g_39 H locs ls h hM (lv_sub hl [0, 1, 2, 3, 4] rfl)
          · have h := it_f c_44 h
            refine lv_aload_n hx hb (kX12_tries (i := 111) rfl) rfl (lv_at hl 0 rfl) ?_
            refine gX12_now C hM q_fX12_254 (kX12_tries (i := 112) rfl) ?_
            refine x_iload hx hb (kX12_tries (i := 113) rfl) (lv_at hl 4 rfl) ?_
            refine x_iadd hx hb (kX12_tries (i := 114) rfl) ?_
            refine x_sipush hx hb (by decide) (kX12_tries (i := 115) rfl) ?_
            refine x_icmp_ge (a' := wr ((g_39 0 26) + y4)) (b' := 600) hx hb rfl (by decide) (tgt := 218) (kX12_tries (i := 116) rfl) (by decide) (fun c_45 => ?_) (fun c_45 => ?_)
            · have h := it_t c_45 h
              exact hJ218 g_39 H locs ls h hM (lv_sub hl [0, 1, 2, 3, 4] rfl)
            · have h := it_f c_45 h
              refine lv_aload_n hx hb (kX12_tries (i := 117) rfl) rfl (lv_at hl 0 rfl) ?_
              refine x_iconst hx hb (kX12_tries (i := 118) rfl) ?_
              refine lv_aload_n hx hb (kX12_tries (i := 119) rfl) rfl (lv_at hl 0 rfl) ?_
              refine gX12_now C hM q_fX12_254 (kX12_tries (i := 120) rfl) ?_
              refine x_iload hx hb (kX12_tries (i := 121) rfl) (lv_at hl 4 rfl) ?_
              refine x_iadd hx hb (kX12_tries (i := 122) rfl) ?_
              refine x_iload_n hx hb (kX12_tries (i := 123) rfl) rfl (lv_at hl 2 rfl) ?_
              obtain ⟨r_46, g_48, hc_47, h⟩ := bd2_some h
              refine x_callV (n := 3) (As := [vi 1, vi ((g_39 0 26) + y4), vi y2]) (rest := []) C hM (tX12_goesOn l Θ 1 ((g_39 0 26) + y4) y2 h0 g_39 r_46 g_48 hc_47) (x_recvM C hM 0 (by decide) (eM_0 Θ _) rfl rfl) q_c_X12_goesOn q_mX12_257 q_i_X12_goesOn q_e_X12_goesOn q_n_X12 (by decide +kernel) ⟨by decide, by decide⟩ rfl hl.1 rfl (Nat.le_of_ble_eq_true rfl) (kX12_tries (i := 124) rfl) (fun H locs hM => ?_)
              refine x_if_eq (a' := wr r_46) hx hb rfl (tgt := 218) (kX12_tries (i := 125) rfl) (by decide) (fun c_49 => ?_) (fun c_49 => ?_)
              · have h := it_t c_49 h
                exact hJ218 g_48 H locs ls h hM (lv_sub hl [0, 1, 2, 3, 4] rfl)
              · have h := it_f c_49 h
                refine x_iconst hx hb (kX12_tries (i := 126) rfl) ?_
                refine lv_goto (tgt := 219) hx hb (kX12_tries (i := 127) rfl) (by decide) ?_
                exact hJ219 1 g_48 H locs ls h hM (lv_sub hl [0, 1, 2, 3, 4] rfl)
        intro J179 hJ179 h
        refine x_icmp_le (a' := wr v_38) (b' := wr (g 0 73)) hx hb rfl rfl (tgt := 179) (kX12_tries (i := 104) rfl) (by decide) (fun c_50 => ?_) (fun c_50 => ?_)
        · have h := it_t c_50 h
          exact hJ179 g H locs ls h hM (lv_sub hl [1, 2, 3, 4, 5] rfl)
        · have h := it_f c_50 h
          refine lv_aload_n hx hb (kX12_tries (i := 105) rfl) rfl (lv_at hl 1 rfl) ?_
          refine x_iload hx hb (kX12_tries (i := 106) rfl) (lv_at hl 0 rfl) ?_
          obtain ⟨g_51, eg_51, h⟩ := bnd_some h
          refine pX12_greatest C hM q_fX12_362 eg_51 (kX12_tries (i := 107) rfl) (fun H locs hM => ?_)
          exact hJ179 g_51 H locs ls h hM (lv_sub hl [1, 2, 3, 4, 5] rfl)
      intro J162 hJ162 h
      refine x_if_ge (a' := wr (g 19 (wr 1).toNat)) hx hb rfl (tgt := 156) (kX12_tries (i := 89) rfl) (by decide) (fun c_52 => ?_) (fun c_52 => ?_)
      · have h := it_t c_52 h
        refine lv_aload_n hx hb (kX12_tries (i := 96) rfl) rfl (lv_at hl 0 rfl) ?_
        refine gX12_slope C hM q_fX12_75 (kX12_tries (i := 97) rfl) ?_
        refine x_iconst hx hb (kX12_tries (i := 98) rfl) ?_
        obtain ⟨hi_53, h⟩ := gd_some h
        refine x_ialdM C hM 19 (by decide) (eM_19 Θ) hi_53 (kX12_tries (i := 99) rfl) ?_
        exact hJ162 (g 19 (wr 1).toNat) H locs ls h hM (lv_sub hl [0, 1, 2, 3, 4] rfl)
      · have h := it_f c_52 h
        refine lv_aload_n hx hb (kX12_tries (i := 90) rfl) rfl (lv_at hl 0 rfl) ?_
        refine gX12_slope C hM q_fX12_75 (kX12_tries (i := 91) rfl) ?_
        refine x_iconst hx hb (kX12_tries (i := 92) rfl) ?_
        obtain ⟨hi_54, h⟩ := gd_some h
        refine x_ialdM C hM 19 (by decide) (eM_19 Θ) hi_54 (kX12_tries (i := 93) rfl) ?_
        refine x_ineg hx hb (kX12_tries (i := 94) rfl) ?_
        refine lv_goto (tgt := 162) hx hb (kX12_tries (i := 95) rfl) (by decide) ?_
        exact hJ162 (-(g 19 (wr 1).toNat)) H locs ls h hM (lv_sub hl [0, 1, 2, 3, 4] rfl)
set_option maxRecDepth 100000 in
set_option maxHeartbeats 4000000 in
theorem tX12_tries (l : Launch) (Θ : Th) (a0 : Int) (a1 : Int) (h0 g : Mem) (gR : Mem) (h : fX12_tries a0 a1 g = some gR) : Ct l yX12_tries cX12_tries 7 none 4 101 Θ [.ref (Θ.2.2.2 0), vi a0, vi a1] h0 g h0 gR none := by
  refine x_start (by decide) (Nat.le_of_ble_eq_true rfl) ?_
  intro p e s m args below meth c ls C hM hl
  have hl : lv_has ls 7 [(0, .ref (Θ.2.2.2 0)), (1, vi a0), (2, vi a1)] := hl
  obtain ⟨hx, hb, hml, hown, hts, -⟩ := id C
  unfold fX12_tries at h
  have key : ∀ (H : Heap) (locs : List Loc), Hd Θ s h0 g H locs → W p l e { frames := 4, cells := 0, slots := 0, locals := 101 } s m args below meth c H locs 0 0 (MQ below (Qx Θ s.heap.size h0 gR none) args s 0 0 (AA Θ s.heap.size)) (F0 m 0 ls []) := by
    intro H locs hM
    refine x_iconst hx hb (kX12_tries (i := 0) rfl) ?_
    refine x_istore_n (lv' := [(3, vi 0), (0, .ref (Θ.2.2.2 0)), (1, vi a0), (2, vi a1)]) hx hb (kX12_tries (i := 1) rfl) rfl hl (by decide) rfl (fun ls hl => ?_)
    refine wX12_tries_L2  C fuel a0 a1 0 g H locs ls h ?_ hM (lv_sub hl [1, 2, 3, 0] rfl)
    · intro z_6 z_7 g_8 H locs ls h hM hl
      refine x_iconst hx hb (kX12_tries (i := 17) rfl) ?_
      refine x_istore_n (lv' := [(3, vi 0), (0, .ref (Θ.2.2.2 0)), (1, vi z_6), (2, vi z_7)]) hx hb (kX12_tries (i := 18) rfl) rfl hl (by decide) rfl (fun ls hl => ?_)
      refine wX12_tries_L31  C fuel z_6 z_7 0 g_8 H locs ls h ?_ hM (lv_sub hl [1, 2, 3, 0] rfl)
      · intro z_15 z_16 g_17 H locs ls h hM hl
        refine lv_aload_n hx hb (kX12_tries (i := 34) rfl) rfl (lv_at hl 0 rfl) ?_
        refine gX12_slope C hM q_fX12_75 (kX12_tries (i := 35) rfl) ?_
        refine x_iconst hx hb (kX12_tries (i := 36) rfl) ?_
        refine lv_aload_n hx hb (kX12_tries (i := 37) rfl) rfl (lv_at hl 0 rfl) ?_
        refine gX12_slope C hM q_fX12_75 (kX12_tries (i := 38) rfl) ?_
        refine x_iconst hx hb (kX12_tries (i := 39) rfl) ?_
        obtain ⟨hi_18, h⟩ := gd_some h
        refine x_ialdM C hM 19 (by decide) (eM_19 Θ) hi_18 (kX12_tries (i := 40) rfl) ?_
        obtain ⟨hi_19, h⟩ := gd_some h
        obtain ⟨g_20, eg_20, h⟩ := bnd_some h
        refine x_iastM C hM 19 (by decide) (eM_19 Θ) hi_19 eg_20 (kX12_tries (i := 41) rfl) (fun H locs hM => ?_)
        refine lv_aload_n hx hb (kX12_tries (i := 42) rfl) rfl (lv_at hl 0 rfl) ?_
        refine gX12_speed C hM q_fX12_78 (kX12_tries (i := 43) rfl) ?_
        refine x_iconst hx hb (kX12_tries (i := 44) rfl) ?_
        refine lv_aload_n hx hb (kX12_tries (i := 45) rfl) rfl (lv_at hl 0 rfl) ?_
        refine gX12_speed C hM q_fX12_78 (kX12_tries (i := 46) rfl) ?_
        refine x_iconst hx hb (kX12_tries (i := 47) rfl) ?_
        obtain ⟨hi_21, h⟩ := gd_some h
        refine x_ialdM C hM 20 (by decide) (eM_20 Θ) hi_21 (kX12_tries (i := 48) rfl) ?_
        obtain ⟨hi_22, h⟩ := gd_some h
        obtain ⟨g_23, eg_23, h⟩ := bnd_some h
        refine x_iastM C hM 20 (by decide) (eM_20 Θ) hi_22 eg_23 (kX12_tries (i := 49) rfl) (fun H locs hM => ?_)
        refine lv_aload_n hx hb (kX12_tries (i := 50) rfl) rfl (lv_at hl 0 rfl) ?_
        refine gX12_sick C hM q_fX12_81 (kX12_tries (i := 51) rfl) ?_
        refine x_iconst hx hb (kX12_tries (i := 52) rfl) ?_
        refine lv_aload_n hx hb (kX12_tries (i := 53) rfl) rfl (lv_at hl 0 rfl) ?_
        refine gX12_sick C hM q_fX12_81 (kX12_tries (i := 54) rfl) ?_
        refine x_iconst hx hb (kX12_tries (i := 55) rfl) ?_
        obtain ⟨hi_24, h⟩ := gd_some h
        refine x_ialdM C hM 21 (by decide) (eM_21 Θ) hi_24 (kX12_tries (i := 56) rfl) ?_
        obtain ⟨hi_25, h⟩ := gd_some h
        obtain ⟨g_26, eg_26, h⟩ := bnd_some h
        refine x_iastM C hM 21 (by decide) (eM_21 Θ) hi_25 eg_26 (kX12_tries (i := 57) rfl) (fun H locs hM => ?_)
        refine lv_aload_n hx hb (kX12_tries (i := 58) rfl) rfl (lv_at hl 0 rfl) ?_
        refine gX12_worked C hM q_fX12_84 (kX12_tries (i := 59) rfl) ?_
        refine x_iconst hx hb (kX12_tries (i := 60) rfl) ?_
        refine lv_aload_n hx hb (kX12_tries (i := 61) rfl) rfl (lv_at hl 0 rfl) ?_
        refine gX12_worked C hM q_fX12_84 (kX12_tries (i := 62) rfl) ?_
        refine x_iconst hx hb (kX12_tries (i := 63) rfl) ?_
        obtain ⟨hi_27, h⟩ := gd_some h
        refine x_ialdM C hM 22 (by decide) (eM_22 Θ) hi_27 (kX12_tries (i := 64) rfl) ?_
        obtain ⟨hi_28, h⟩ := gd_some h
        obtain ⟨g_29, eg_29, h⟩ := bnd_some h
        refine x_iastM C hM 22 (by decide) (eM_22 Θ) hi_28 eg_29 (kX12_tries (i := 65) rfl) (fun H locs hM => ?_)
        refine lv_aload_n hx hb (kX12_tries (i := 66) rfl) rfl (lv_at hl 0 rfl) ?_
        refine gX12_isOver C hM q_fX12_87 (kX12_tries (i := 67) rfl) ?_
        refine x_iconst hx hb (kX12_tries (i := 68) rfl) ?_
        refine lv_aload_n hx hb (kX12_tries (i := 69) rfl) rfl (lv_at hl 0 rfl) ?_
        refine gX12_isOver C hM q_fX12_87 (kX12_tries (i := 70) rfl) ?_
        refine x_iconst hx hb (kX12_tries (i := 71) rfl) ?_
        obtain ⟨hi_30, h⟩ := gd_some h
        refine x_zaldM C hM 23 (by decide) (eM_23 Θ) hi_30 (kX12_tries (i := 72) rfl) ?_
        obtain ⟨hi_31, h⟩ := gd_some h
        obtain ⟨hz_32, h⟩ := gc_some h
        obtain ⟨g_33, eg_33, h⟩ := bnd_some h
        refine x_zastM C hM 23 (by decide) (eM_23 Θ) hi_31 hz_32 eg_33 (kX12_tries (i := 73) rfl) (fun H locs hM => ?_)
        refine lv_aload_n hx hb (kX12_tries (i := 74) rfl) rfl (lv_at hl 0 rfl) ?_
        refine gX12_force C hM q_fX12_240 (kX12_tries (i := 75) rfl) ?_
        obtain ⟨x_34, ex_34, h⟩ := bnd_some h
        refine x_top ex_34 ?_
        refine x_istore_n (lv' := [(3, vi x_34), (0, .ref (Θ.2.2.2 0)), (1, vi z_15), (2, vi z_16)]) hx hb (kX12_tries (i := 76) rfl) rfl hl (by decide) rfl (fun ls hl => ?_)
        refine lv_aload_n hx hb (kX12_tries (i := 77) rfl) rfl (lv_at hl 1 rfl) ?_
        refine x_iconst hx hb (kX12_tries (i := 78) rfl) ?_
        obtain ⟨g_35, eg_35, h⟩ := bnd_some h
        refine pX12_greatest C hM q_fX12_362 eg_35 (kX12_tries (i := 79) rfl) (fun H locs hM => ?_)
        refine x_iconst hx hb (kX12_tries (i := 80) rfl) ?_
        refine x_istore (lv' := [(4, vi 0), (3, vi x_34), (0, .ref (Θ.2.2.2 0)), (1, vi z_15), (2, vi z_16)]) hx hb (kX12_tries (i := 81) rfl) hl (by decide) rfl (fun ls hl => ?_)
        refine wX12_tries_L131  C fuel z_15 z_16 x_34 0 g_35 H locs ls h ?_ hM (lv_sub hl [2, 3, 4, 1, 0] rfl)
        · intro z_55 g_56 H locs ls h hM hl
          refine lv_aload_n hx hb (kX12_tries (i := 132) rfl) rfl (lv_at hl 0 rfl) ?_
          refine x_iload_n hx hb (kX12_tries (i := 133) rfl) rfl (lv_at hl 1 rfl) ?_
          obtain ⟨g_57, eg_57, h⟩ := bnd_some h
          refine pX12_force C hM q_fX12_240 eg_57 (kX12_tries (i := 134) rfl) (fun H locs hM => ?_)
          rw [← Option.some.inj h]
          exact x_vret C hM (kX12_tries (i := 135) rfl)
  exact key _ _ hM

/-! X12_tried -/
def fX12_tried (a0 : Int) (a1 : Int) (g : Mem) : Option (Int × Mem) :=
  bd (fX12_in a0 0 120) fun r_1 =>
  if wr r_1 = 0 then (
    some ((-1), g)
  ) else (
    bd (fX12_in a1 0 2) fun r_4 =>
    if wr r_4 = 0 then (
      some ((-1), g)
    ) else (
      bd (fX12_tries a0 (g 0 25) g) fun g_9 =>
      if wr a1 = 0 then (
        some (g_9 0 73, g_9)
      ) else (
        if wr a1 = 1 then (
          gd 1 2 <|
          some (g_9 21 (wr 1).toNat, g_9)
        ) else (
          gd 1 2 <|
          some (g_9 22 (wr 1).toNat, g_9)
        )
      )
    )
  )
set_option maxRecDepth 100000 in
set_option maxHeartbeats 4000000 in
theorem tX12_tried (l : Launch) (Θ : Th) (a0 : Int) (a1 : Int) (h0 g : Mem) (rv : Int) (gR : Mem) (h : fX12_tried a0 a1 g = some (rv, gR)) : Ct l yX12_tried cX12_tried 3 (some .int) 5 127 Θ [.ref (Θ.2.2.2 0), vi a0, vi a1] h0 g h0 gR (some (vi rv)) := by
  refine x_start (by decide) (Nat.le_of_ble_eq_true rfl) ?_
  intro p e s m args below meth c ls C hM hl
  have hl : lv_has ls 3 [(0, .ref (Θ.2.2.2 0)), (1, vi a0), (2, vi a1)] := hl
  obtain ⟨hx, hb, hml, hown, hts, -⟩ := id C
  unfold fX12_tried at h
  have key : ∀ (H : Heap) (locs : List Loc), Hd Θ s h0 g H locs → W p l e { frames := 5, cells := 0, slots := 0, locals := 127 } s m args below meth c H locs 0 0 (MQ below (Qx Θ s.heap.size h0 gR (some (vi rv))) args s 0 0 (AA Θ s.heap.size)) (F0 m 0 ls []) := by
    intro H locs hM
    refine x_iload_n hx hb (kX12_tried (i := 0) rfl) rfl (lv_at hl 1 rfl) ?_
    refine x_iconst hx hb (kX12_tried (i := 1) rfl) ?_
    refine x_bipush hx hb (by decide) (kX12_tried (i := 2) rfl) ?_
    obtain ⟨r_1, hc_2, h⟩ := bd_some h
    refine x_callS (n := 3) (As := [vi a0, vi 0, vi 120]) (rest := []) C hM (tX12_in l Θ a0 0 120 h0 g r_1 hc_2) q_c_X12_in q_mX12_173 q_s_X12_in q_n_X12 (by decide +kernel) ⟨by decide, by decide⟩ rfl hl.1 rfl (Nat.le_of_ble_eq_true rfl) (kX12_tried (i := 3) rfl) (fun H locs hM => ?_)
    refine x_if_eq (a' := wr r_1) hx hb rfl (tgt := 19) (kX12_tried (i := 4) rfl) (by decide) (fun c_3 => ?_) (fun c_3 => ?_)
    · have h := it_t c_3 h
      refine x_iconst hx hb (kX12_tried (i := 10) rfl) ?_
      obtain ⟨q1, q2⟩ := ret2 h
      rw [q1, q2]
      exact x_iret C hM (nar_i _) (kX12_tried (i := 11) rfl)
    · have h := it_f c_3 h
      refine x_iload_n hx hb (kX12_tried (i := 5) rfl) rfl (lv_at hl 2 rfl) ?_
      refine x_iconst hx hb (kX12_tried (i := 6) rfl) ?_
      refine x_iconst hx hb (kX12_tried (i := 7) rfl) ?_
      obtain ⟨r_4, hc_5, h⟩ := bd_some h
      refine x_callS (n := 3) (As := [vi a1, vi 0, vi 2]) (rest := []) C hM (tX12_in l Θ a1 0 2 h0 g r_4 hc_5) q_c_X12_in q_mX12_173 q_s_X12_in q_n_X12 (by decide +kernel) ⟨by decide, by decide⟩ rfl hl.1 rfl (Nat.le_of_ble_eq_true rfl) (kX12_tried (i := 8) rfl) (fun H locs hM => ?_)
      refine x_if_ne (a' := wr r_4) hx hb rfl (tgt := 21) (kX12_tried (i := 9) rfl) (by decide) (fun c_6 => ?_) (fun c_6 => ?_)
      · have h := it_f c_6 h
        refine lv_aload_n hx hb (kX12_tried (i := 12) rfl) rfl (lv_at hl 0 rfl) ?_
        refine x_iload_n hx hb (kX12_tried (i := 13) rfl) rfl (lv_at hl 1 rfl) ?_
        refine lv_aload_n hx hb (kX12_tried (i := 14) rfl) rfl (lv_at hl 0 rfl) ?_
        refine gX12_fins C hM q_fX12_237 (kX12_tried (i := 15) rfl) ?_
        obtain ⟨g_9, hc_8, h⟩ := bd_some h
        refine x_callV (n := 2) (As := [vi a0, vi (g 0 25)]) (rest := []) C hM (tX12_tries l Θ a0 (g 0 25) h0 g g_9 hc_8) (x_recvM C hM 0 (by decide) (eM_0 Θ _) rfl rfl) q_c_X12_tries q_mX12_365 q_i_X12_tries q_e_X12_tries q_n_X12 (by decide +kernel) ⟨by decide, by decide⟩ rfl hl.1 rfl (Nat.le_of_ble_eq_true rfl) (kX12_tried (i := 16) rfl) (fun H locs hM => ?_)
        refine x_iload_n hx hb (kX12_tried (i := 17) rfl) rfl (lv_at hl 2 rfl) ?_
        refine x_if_ne (a' := wr a1) hx hb rfl (tgt := 41) (kX12_tried (i := 18) rfl) (by decide) (fun c_10 => ?_) (fun c_10 => ?_)
        · have h := it_f c_10 h
          refine x_iload_n hx hb (kX12_tried (i := 22) rfl) rfl (lv_at hl 2 rfl) ?_
          refine x_iconst hx hb (kX12_tried (i := 23) rfl) ?_
          refine x_icmp_ne (a' := wr a1) (b' := 1) hx hb rfl (by decide) (tgt := 55) (kX12_tried (i := 24) rfl) (by decide) (fun c_11 => ?_) (fun c_11 => ?_)
          · have h := it_f c_11 h
            refine lv_aload_n hx hb (kX12_tried (i := 30) rfl) rfl (lv_at hl 0 rfl) ?_
            refine gX12_worked C hM q_fX12_84 (kX12_tried (i := 31) rfl) ?_
            refine x_iconst hx hb (kX12_tried (i := 32) rfl) ?_
            obtain ⟨hi_12, h⟩ := gd_some h
            refine x_ialdM C hM 22 (by decide) (eM_22 Θ) hi_12 (kX12_tried (i := 33) rfl) ?_
            obtain ⟨q1, q2⟩ := ret2 h
            rw [q1, q2]
            exact x_iret C hM (nar_i _) (kX12_tried (i := 34) rfl)
          · have h := it_t c_11 h
            refine lv_aload_n hx hb (kX12_tried (i := 25) rfl) rfl (lv_at hl 0 rfl) ?_
            refine gX12_sick C hM q_fX12_81 (kX12_tried (i := 26) rfl) ?_
            refine x_iconst hx hb (kX12_tried (i := 27) rfl) ?_
            obtain ⟨hi_13, h⟩ := gd_some h
            refine x_ialdM C hM 21 (by decide) (eM_21 Θ) hi_13 (kX12_tried (i := 28) rfl) ?_
            refine lv_goto (tgt := 61) hx hb (kX12_tried (i := 29) rfl) (by decide) ?_
            obtain ⟨q1, q2⟩ := ret2 h
            rw [q1, q2]
            exact x_iret C hM (nar_i _) (kX12_tried (i := 34) rfl)
        · have h := it_t c_10 h
          refine lv_aload_n hx hb (kX12_tried (i := 19) rfl) rfl (lv_at hl 0 rfl) ?_
          refine gX12_greatest C hM q_fX12_362 (kX12_tried (i := 20) rfl) ?_
          refine lv_goto (tgt := 61) hx hb (kX12_tried (i := 21) rfl) (by decide) ?_
          obtain ⟨q1, q2⟩ := ret2 h
          rw [q1, q2]
          exact x_iret C hM (nar_i _) (kX12_tried (i := 34) rfl)
      · have h := it_t c_6 h
        refine x_iconst hx hb (kX12_tried (i := 10) rfl) ?_
        obtain ⟨q1, q2⟩ := ret2 h
        rw [q1, q2]
        exact x_iret C hM (nar_i _) (kX12_tried (i := 11) rfl)
  exact key _ _ hM

/-! X12_still -/
def fX12_still_L20 : Nat → Int → Int → Int → Int → Mem → Option (Int × Mem)
  | 0, _, _, _, _, _ => none
  | n + 1, y1, y2, y3, y4, g =>
    if 10 ≤ wr y4 then (
      some (y2, g)
    ) else (
      bd (fX12_tries y1 y4 g) fun g_7 =>
      jn (fun (p_8 : Int) (p_9 : Int) =>
        bnd (y4 + 1) fun x_10 =>
        fX12_still_L20 n y1 p_8 p_9 x_10 g_7
      ) fun J53 =>
      if wr (g_7 0 73) < wr y3 then (
        bnd (g_7 0 73) fun x_12 =>
        J53 y4 x_12
      ) else (
        J53 y2 y3
      )
    )
def fX12_still (a0 : Int) (g : Mem) : Option (Int × Mem) :=
  bd (fX12_in a0 0 120) fun r_1 =>
  if wr r_1 = 0 then (
    some ((-1), g)
  ) else (
    fX12_still_L20 fuel a0 0 81 0 g
  )
set_option maxRecDepth 100000 in
set_option maxHeartbeats 4000000 in
theorem wX12_still_L20 {p : Program} {l : Launch} {e : Env} {s : State} {m : MethodId} {args : Array Value} {below : List Frame} {meth : Method} {c : Code} {Θ : Th} {h0 : Mem} {rv : Int} {gR : Mem} (C : Cx p s m args meth c cX12_still 5 RX12 (some .int) Θ) : ∀ (n : Nat) (y1 : Int) (y2 : Int) (y3 : Int) (y4 : Int) (g : Mem) (H : Heap) (locs : List Loc) (ls : Array Slot), fX12_still_L20 n y1 y2 y3 y4 g = some (rv, gR) → Hd Θ s h0 g H locs → lv_has ls 5 [(0, .ref (Θ.2.2.2 0)), (1, vi y1), (2, vi y2), (3, vi y3), (4, vi y4)] → W p l e { frames := 5, cells := 0, slots := 0, locals := 127 } s m args below meth c H locs 0 0 (MQ below (Qx Θ s.heap.size h0 gR (some (vi rv))) args s 0 0 (AA Θ s.heap.size)) (F0 m 20 ls []) := by
  intro n
  obtain ⟨hx, hb, hml, hown, hts, -⟩ := id C
  induction n with
  | zero => intro y1 y2 y3 y4 g H locs ls h; cases h
  | succ n ih =>
    intro y1 y2 y3 y4 g H locs ls h  hM hl
    rw [fX12_still_L20] at h
    refine x_iload hx hb (kX12_still (i := 13) rfl) (lv_at hl 4 rfl) ?_
    refine x_bipush hx hb (by decide) (kX12_still (i := 14) rfl) ?_
    refine x_icmp_ge (a' := wr y4) (b' := 10) hx hb rfl (by decide) (tgt := 59) (kX12_still (i := 15) rfl) (by decide) (fun c_4 => ?_) (fun c_4 => ?_)
    · have h := it_t c_4 h
      refine x_iload_n hx hb (kX12_still (i := 32) rfl) rfl (lv_at hl 2 rfl) ?_
      obtain ⟨q1, q2⟩ := ret2 h
      rw [q1, q2]
      exact x_iret C hM (nar_i _) (kX12_still (i := 33) rfl)
    · have h := it_f c_4 h
      refine lv_aload_n hx hb (kX12_still (i := 16) rfl) rfl (lv_at hl 0 rfl) ?_
      refine x_iload_n hx hb (kX12_still (i := 17) rfl) rfl (lv_at hl 1 rfl) ?_
      refine x_iload hx hb (kX12_still (i := 18) rfl) (lv_at hl 4 rfl) ?_
      obtain ⟨g_7, hc_6, h⟩ := bd_some h
      refine x_callV (n := 2) (As := [vi y1, vi y4]) (rest := []) C hM (tX12_tries l Θ y1 y4 h0 g g_7 hc_6) (x_recvM C hM 0 (by decide) (eM_0 Θ _) rfl rfl) q_c_X12_tries q_mX12_365 q_i_X12_tries q_e_X12_tries q_n_X12 (by decide +kernel) ⟨by decide, by decide⟩ rfl hl.1 rfl (Nat.le_of_ble_eq_true rfl) (kX12_still (i := 19) rfl) (fun H locs hM => ?_)
      refine lv_aload_n hx hb (kX12_still (i := 20) rfl) rfl (lv_at hl 0 rfl) ?_
      refine gX12_greatest C hM q_fX12_362 (kX12_still (i := 21) rfl) ?_
      refine x_iload_n hx hb (kX12_still (i := 22) rfl) rfl (lv_at hl 3 rfl) ?_
      refine jn_go h (fun J53 : Int → Int → Option (Int × Mem) => ∀ (p_8 : Int) (p_9 : Int) (H : Heap) (locs : List Loc) (ls : Array Slot), J53 p_8 p_9 = some (rv, gR) → Hd Θ s h0 g_7 H locs → lv_has ls 5 [(0, .ref (Θ.2.2.2 0)), (1, vi y1), (2, vi p_8), (3, vi p_9), (4, vi y4)] → W p l e { frames := 5, cells := 0, slots := 0, locals := 127 } s m args below meth c H locs 0 0 (MQ below (Qx Θ s.heap.size h0 gR (some (vi rv))) args s 0 0 (AA Θ s.heap.size)) (F0 m 53 ls [])) ?_ ?_
      · intro p_8 p_9 H locs ls h hM hl
        obtain ⟨x_10, ex_10, h⟩ := bnd_some h
        refine x_iinc (k := 4) (lv' := [(4, vi x_10), (0, .ref (Θ.2.2.2 0)), (1, vi y1), (2, vi p_8), (3, vi p_9)]) hx hb (kX12_still (i := 30) rfl) hl rfl ex_10 (by decide) rfl (fun ls hl => ?_)
        refine lv_goto (tgt := 20) hx hb (kX12_still (i := 31) rfl) (by decide) ?_
        exact ih y1 p_8 p_9 x_10 g_7 H locs ls h hM (lv_sub hl [1, 2, 3, 4, 0] rfl)
      intro J53 hJ53 h
      refine x_icmp_lt (a' := wr (g_7 0 73)) (b' := wr y3) hx hb rfl rfl (tgt := 45) (kX12_still (i := 23) rfl) (by decide) (fun c_11 => ?_) (fun c_11 => ?_)
      · have h := it_t c_11 h
        refine lv_aload_n hx hb (kX12_still (i := 25) rfl) rfl (lv_at hl 0 rfl) ?_
        refine gX12_greatest C hM q_fX12_362 (kX12_still (i := 26) rfl) ?_
        obtain ⟨x_12, ex_12, h⟩ := bnd_some h
        refine x_top ex_12 ?_
        refine x_istore_n (lv' := [(3, vi x_12), (0, .ref (Θ.2.2.2 0)), (1, vi y1), (2, vi y2), (4, vi y4)]) hx hb (kX12_still (i := 27) rfl) rfl hl (by decide) rfl (fun ls hl => ?_)
        refine x_iload hx hb (kX12_still (i := 28) rfl) (lv_at hl 4 rfl) ?_
        refine x_istore_n (lv' := [(2, vi y4), (3, vi x_12), (0, .ref (Θ.2.2.2 0)), (1, vi y1), (4, vi y4)]) hx hb (kX12_still (i := 29) rfl) rfl hl (by decide) rfl (fun ls hl => ?_)
        exact hJ53 y4 x_12 H locs ls h hM (lv_sub hl [2, 3, 0, 1, 4] rfl)
      · have h := it_f c_11 h
        refine lv_goto (tgt := 53) hx hb (kX12_still (i := 24) rfl) (by decide) ?_
        exact hJ53 y2 y3 H locs ls h hM (lv_sub hl [0, 1, 2, 3, 4] rfl)
set_option maxRecDepth 100000 in
set_option maxHeartbeats 4000000 in
theorem tX12_still (l : Launch) (Θ : Th) (a0 : Int) (h0 g : Mem) (rv : Int) (gR : Mem) (h : fX12_still a0 g = some (rv, gR)) : Ct l yX12_still cX12_still 5 (some .int) 5 127 Θ [.ref (Θ.2.2.2 0), vi a0] h0 g h0 gR (some (vi rv)) := by
  refine x_start (by decide) (Nat.le_of_ble_eq_true rfl) ?_
  intro p e s m args below meth c ls C hM hl
  have hl : lv_has ls 5 [(0, .ref (Θ.2.2.2 0)), (1, vi a0)] := hl
  obtain ⟨hx, hb, hml, hown, hts, -⟩ := id C
  unfold fX12_still at h
  have key : ∀ (H : Heap) (locs : List Loc), Hd Θ s h0 g H locs → W p l e { frames := 5, cells := 0, slots := 0, locals := 127 } s m args below meth c H locs 0 0 (MQ below (Qx Θ s.heap.size h0 gR (some (vi rv))) args s 0 0 (AA Θ s.heap.size)) (F0 m 0 ls []) := by
    intro H locs hM
    refine x_iload_n hx hb (kX12_still (i := 0) rfl) rfl (lv_at hl 1 rfl) ?_
    refine x_iconst hx hb (kX12_still (i := 1) rfl) ?_
    refine x_bipush hx hb (by decide) (kX12_still (i := 2) rfl) ?_
    obtain ⟨r_1, hc_2, h⟩ := bd_some h
    refine x_callS (n := 3) (As := [vi a0, vi 0, vi 120]) (rest := []) C hM (tX12_in l Θ a0 0 120 h0 g r_1 hc_2) q_c_X12_in q_mX12_173 q_s_X12_in q_n_X12 (by decide +kernel) ⟨by decide, by decide⟩ rfl hl.1 rfl (Nat.le_of_ble_eq_true rfl) (kX12_still (i := 3) rfl) (fun H locs hM => ?_)
    refine x_if_ne (a' := wr r_1) hx hb rfl (tgt := 12) (kX12_still (i := 4) rfl) (by decide) (fun c_3 => ?_) (fun c_3 => ?_)
    · have h := it_f c_3 h
      refine x_iconst hx hb (kX12_still (i := 7) rfl) ?_
      refine x_istore_n (lv' := [(2, vi 0), (0, .ref (Θ.2.2.2 0)), (1, vi a0)]) hx hb (kX12_still (i := 8) rfl) rfl hl (by decide) rfl (fun ls hl => ?_)
      refine x_bipush hx hb (by decide) (kX12_still (i := 9) rfl) ?_
      refine x_istore_n (lv' := [(3, vi 81), (2, vi 0), (0, .ref (Θ.2.2.2 0)), (1, vi a0)]) hx hb (kX12_still (i := 10) rfl) rfl hl (by decide) rfl (fun ls hl => ?_)
      refine x_iconst hx hb (kX12_still (i := 11) rfl) ?_
      refine x_istore (lv' := [(4, vi 0), (3, vi 81), (2, vi 0), (0, .ref (Θ.2.2.2 0)), (1, vi a0)]) hx hb (kX12_still (i := 12) rfl) hl (by decide) rfl (fun ls hl => ?_)
      refine wX12_still_L20  C fuel a0 0 81 0 g H locs ls h  hM (lv_sub hl [3, 4, 2, 1, 0] rfl)
    · have h := it_t c_3 h
      refine x_iconst hx hb (kX12_still (i := 5) rfl) ?_
      obtain ⟨q1, q2⟩ := ret2 h
      rw [q1, q2]
      exact x_iret C hM (nar_i _) (kX12_still (i := 6) rfl)
  exact key _ _ hM

/-! X12_hour -/
def fX12_hour (a0 : Int) (a1 : Int) (g : Mem) : Option (Int × Mem) :=
  bd (fX12_in a0 0 60) fun r_1 =>
  if wr r_1 = 0 then (
    some ((-1), g)
  ) else (
    bd (fX12_in a1 4 64) fun r_4 =>
    if wr r_4 = 0 then (
      some ((-1), g)
    ) else (
      if wr (g 0 41) = 12 then (
        some ((-1), g)
      ) else (
        gd (g 0 41) 12 <|
        bnd (up g 32 (wr (g 0 41)).toNat a0) fun g_9 =>
        gd (g_9 0 41) 12 <|
        bnd (up g_9 33 (wr (g_9 0 41)).toNat a1) fun g_11 =>
        bnd (up g_11 0 41 ((g_11 0 41) + 1)) fun g_12 =>
        some (g_12 0 41, g_12)
      )
    )
  )
set_option maxRecDepth 100000 in
set_option maxHeartbeats 4000000 in
theorem tX12_hour (l : Launch) (Θ : Th) (a0 : Int) (a1 : Int) (h0 g : Mem) (rv : Int) (gR : Mem) (h : fX12_hour a0 a1 g = some (rv, gR)) : Ct l yX12_hour cX12_hour 3 (some .int) 1 22 Θ [.ref (Θ.2.2.2 0), vi a0, vi a1] h0 g h0 gR (some (vi rv)) := by
  refine x_start (by decide) (Nat.le_of_ble_eq_true rfl) ?_
  intro p e s m args below meth c ls C hM hl
  have hl : lv_has ls 3 [(0, .ref (Θ.2.2.2 0)), (1, vi a0), (2, vi a1)] := hl
  obtain ⟨hx, hb, hml, hown, hts, -⟩ := id C
  unfold fX12_hour at h
  have key : ∀ (H : Heap) (locs : List Loc), Hd Θ s h0 g H locs → W p l e { frames := 1, cells := 0, slots := 0, locals := 22 } s m args below meth c H locs 0 0 (MQ below (Qx Θ s.heap.size h0 gR (some (vi rv))) args s 0 0 (AA Θ s.heap.size)) (F0 m 0 ls []) := by
    intro H locs hM
    refine x_iload_n hx hb (kX12_hour (i := 0) rfl) rfl (lv_at hl 1 rfl) ?_
    refine x_iconst hx hb (kX12_hour (i := 1) rfl) ?_
    refine x_bipush hx hb (by decide) (kX12_hour (i := 2) rfl) ?_
    obtain ⟨r_1, hc_2, h⟩ := bd_some h
    refine x_callS (n := 3) (As := [vi a0, vi 0, vi 60]) (rest := []) C hM (tX12_in l Θ a0 0 60 h0 g r_1 hc_2) q_c_X12_in q_mX12_173 q_s_X12_in q_n_X12 (by decide +kernel) ⟨by decide, by decide⟩ rfl hl.1 rfl (Nat.le_of_ble_eq_true rfl) (kX12_hour (i := 3) rfl) (fun H locs hM => ?_)
    refine x_if_eq (a' := wr r_1) hx hb rfl (tgt := 29) (kX12_hour (i := 4) rfl) (by decide) (fun c_3 => ?_) (fun c_3 => ?_)
    · have h := it_t c_3 h
      refine x_iconst hx hb (kX12_hour (i := 14) rfl) ?_
      obtain ⟨q1, q2⟩ := ret2 h
      rw [q1, q2]
      exact x_iret C hM (nar_i _) (kX12_hour (i := 15) rfl)
    · have h := it_f c_3 h
      refine x_iload_n hx hb (kX12_hour (i := 5) rfl) rfl (lv_at hl 2 rfl) ?_
      refine x_iconst hx hb (kX12_hour (i := 6) rfl) ?_
      refine x_bipush hx hb (by decide) (kX12_hour (i := 7) rfl) ?_
      obtain ⟨r_4, hc_5, h⟩ := bd_some h
      refine x_callS (n := 3) (As := [vi a1, vi 4, vi 64]) (rest := []) C hM (tX12_in l Θ a1 4 64 h0 g r_4 hc_5) q_c_X12_in q_mX12_173 q_s_X12_in q_n_X12 (by decide +kernel) ⟨by decide, by decide⟩ rfl hl.1 rfl (Nat.le_of_ble_eq_true rfl) (kX12_hour (i := 8) rfl) (fun H locs hM => ?_)
      refine x_if_eq (a' := wr r_4) hx hb rfl (tgt := 29) (kX12_hour (i := 9) rfl) (by decide) (fun c_6 => ?_) (fun c_6 => ?_)
      · have h := it_t c_6 h
        refine x_iconst hx hb (kX12_hour (i := 14) rfl) ?_
        obtain ⟨q1, q2⟩ := ret2 h
        rw [q1, q2]
        exact x_iret C hM (nar_i _) (kX12_hour (i := 15) rfl)
      · have h := it_f c_6 h
        refine lv_aload_n hx hb (kX12_hour (i := 10) rfl) rfl (lv_at hl 0 rfl) ?_
        refine gX12_hours C hM q_fX12_368 (kX12_hour (i := 11) rfl) ?_
        refine x_bipush hx hb (by decide) (kX12_hour (i := 12) rfl) ?_
        refine x_icmp_ne (a' := wr (g 0 41)) (b' := 12) hx hb rfl (by decide) (tgt := 31) (kX12_hour (i := 13) rfl) (by decide) (fun c_7 => ?_) (fun c_7 => ?_)
        · have h := it_f c_7 h
          refine lv_aload_n hx hb (kX12_hour (i := 16) rfl) rfl (lv_at hl 0 rfl) ?_
          refine gX12_hourHeight C hM q_fX12_114 (kX12_hour (i := 17) rfl) ?_
          refine lv_aload_n hx hb (kX12_hour (i := 18) rfl) rfl (lv_at hl 0 rfl) ?_
          refine gX12_hours C hM q_fX12_368 (kX12_hour (i := 19) rfl) ?_
          refine x_iload_n hx hb (kX12_hour (i := 20) rfl) rfl (lv_at hl 1 rfl) ?_
          obtain ⟨hi_8, h⟩ := gd_some h
          obtain ⟨g_9, eg_9, h⟩ := bnd_some h
          refine x_iastM C hM 32 (by decide) (eM_32 Θ) hi_8 eg_9 (kX12_hour (i := 21) rfl) (fun H locs hM => ?_)
          refine lv_aload_n hx hb (kX12_hour (i := 22) rfl) rfl (lv_at hl 0 rfl) ?_
          refine gX12_hourPeriod C hM q_fX12_117 (kX12_hour (i := 23) rfl) ?_
          refine lv_aload_n hx hb (kX12_hour (i := 24) rfl) rfl (lv_at hl 0 rfl) ?_
          refine gX12_hours C hM q_fX12_368 (kX12_hour (i := 25) rfl) ?_
          refine x_iload_n hx hb (kX12_hour (i := 26) rfl) rfl (lv_at hl 2 rfl) ?_
          obtain ⟨hi_10, h⟩ := gd_some h
          obtain ⟨g_11, eg_11, h⟩ := bnd_some h
          refine x_iastM C hM 33 (by decide) (eM_33 Θ) hi_10 eg_11 (kX12_hour (i := 27) rfl) (fun H locs hM => ?_)
          refine lv_aload_n hx hb (kX12_hour (i := 28) rfl) rfl (lv_at hl 0 rfl) ?_
          refine lv_dup hx hb (kX12_hour (i := 29) rfl) rfl ?_
          refine gX12_hours C hM q_fX12_368 (kX12_hour (i := 30) rfl) ?_
          refine x_iconst hx hb (kX12_hour (i := 31) rfl) ?_
          refine x_iadd hx hb (kX12_hour (i := 32) rfl) ?_
          obtain ⟨g_12, eg_12, h⟩ := bnd_some h
          refine pX12_hours C hM q_fX12_368 eg_12 (kX12_hour (i := 33) rfl) (fun H locs hM => ?_)
          refine lv_aload_n hx hb (kX12_hour (i := 34) rfl) rfl (lv_at hl 0 rfl) ?_
          refine gX12_hours C hM q_fX12_368 (kX12_hour (i := 35) rfl) ?_
          obtain ⟨q1, q2⟩ := ret2 h
          rw [q1, q2]
          exact x_iret C hM (nar_i _) (kX12_hour (i := 36) rfl)
        · have h := it_t c_7 h
          refine x_iconst hx hb (kX12_hour (i := 14) rfl) ?_
          obtain ⟨q1, q2⟩ := ret2 h
          rw [q1, q2]
          exact x_iret C hM (nar_i _) (kX12_hour (i := 15) rfl)
  exact key _ _ hM

/-! X12_begin -/
def fX12_begin (a0 : Int) (g : Mem) : Option (Int × Mem) :=
  bd (fX12_in a0 4 64) fun r_1 =>
  if wr r_1 = 0 then (
    some ((-1), g)
  ) else (
    bnd (g 0 41) fun x_4 =>
    bnd (up g 0 41 0) fun g_5 =>
    bnd (up g_5 0 44 a0) fun g_6 =>
    some (x_4, g_6)
  )
set_option maxRecDepth 100000 in
set_option maxHeartbeats 4000000 in
theorem tX12_begin (l : Launch) (Θ : Th) (a0 : Int) (h0 g : Mem) (rv : Int) (gR : Mem) (h : fX12_begin a0 g = some (rv, gR)) : Ct l yX12_begin cX12_begin 3 (some .int) 1 22 Θ [.ref (Θ.2.2.2 0), vi a0] h0 g h0 gR (some (vi rv)) := by
  refine x_start (by decide) (Nat.le_of_ble_eq_true rfl) ?_
  intro p e s m args below meth c ls C hM hl
  have hl : lv_has ls 3 [(0, .ref (Θ.2.2.2 0)), (1, vi a0)] := hl
  obtain ⟨hx, hb, hml, hown, hts, -⟩ := id C
  unfold fX12_begin at h
  have key : ∀ (H : Heap) (locs : List Loc), Hd Θ s h0 g H locs → W p l e { frames := 1, cells := 0, slots := 0, locals := 22 } s m args below meth c H locs 0 0 (MQ below (Qx Θ s.heap.size h0 gR (some (vi rv))) args s 0 0 (AA Θ s.heap.size)) (F0 m 0 ls []) := by
    intro H locs hM
    refine x_iload_n hx hb (kX12_begin (i := 0) rfl) rfl (lv_at hl 1 rfl) ?_
    refine x_iconst hx hb (kX12_begin (i := 1) rfl) ?_
    refine x_bipush hx hb (by decide) (kX12_begin (i := 2) rfl) ?_
    obtain ⟨r_1, hc_2, h⟩ := bd_some h
    refine x_callS (n := 3) (As := [vi a0, vi 4, vi 64]) (rest := []) C hM (tX12_in l Θ a0 4 64 h0 g r_1 hc_2) q_c_X12_in q_mX12_173 q_s_X12_in q_n_X12 (by decide +kernel) ⟨by decide, by decide⟩ rfl hl.1 rfl (Nat.le_of_ble_eq_true rfl) (kX12_begin (i := 3) rfl) (fun H locs hM => ?_)
    refine x_if_ne (a' := wr r_1) hx hb rfl (tgt := 12) (kX12_begin (i := 4) rfl) (by decide) (fun c_3 => ?_) (fun c_3 => ?_)
    · have h := it_f c_3 h
      refine lv_aload_n hx hb (kX12_begin (i := 7) rfl) rfl (lv_at hl 0 rfl) ?_
      refine gX12_hours C hM q_fX12_368 (kX12_begin (i := 8) rfl) ?_
      obtain ⟨x_4, ex_4, h⟩ := bnd_some h
      refine x_top ex_4 ?_
      refine x_istore_n (lv' := [(2, vi x_4), (0, .ref (Θ.2.2.2 0)), (1, vi a0)]) hx hb (kX12_begin (i := 9) rfl) rfl hl (by decide) rfl (fun ls hl => ?_)
      refine lv_aload_n hx hb (kX12_begin (i := 10) rfl) rfl (lv_at hl 1 rfl) ?_
      refine x_iconst hx hb (kX12_begin (i := 11) rfl) ?_
      obtain ⟨g_5, eg_5, h⟩ := bnd_some h
      refine pX12_hours C hM q_fX12_368 eg_5 (kX12_begin (i := 12) rfl) (fun H locs hM => ?_)
      refine lv_aload_n hx hb (kX12_begin (i := 13) rfl) rfl (lv_at hl 1 rfl) ?_
      refine x_iload_n hx hb (kX12_begin (i := 14) rfl) rfl (lv_at hl 2 rfl) ?_
      obtain ⟨g_6, eg_6, h⟩ := bnd_some h
      refine pX12_own C hM q_fX12_120 eg_6 (kX12_begin (i := 15) rfl) (fun H locs hM => ?_)
      refine x_iload_n hx hb (kX12_begin (i := 16) rfl) rfl (lv_at hl 0 rfl) ?_
      obtain ⟨q1, q2⟩ := ret2 h
      rw [q1, q2]
      exact x_iret C hM (nar_i _) (kX12_begin (i := 17) rfl)
    · have h := it_t c_3 h
      refine x_iconst hx hb (kX12_begin (i := 5) rfl) ?_
      obtain ⟨q1, q2⟩ := ret2 h
      rw [q1, q2]
      exact x_iret C hM (nar_i _) (kX12_begin (i := 6) rfl)
  exact key _ _ hM

/-! X12_queasy -/
def fX12_queasy (a0 : Int) (a1 : Int) (g : Mem) : Option (Int) :=
  gd a0 12 <|
  bnd (((g 33 (wr a0).toNat) - a1) - (g 0 44)) fun x_2 =>
  gd a0 12 <|
  gc (¬ wr (1 + (x_2 * x_2)) = 0) <|
  some (Int.tdiv (wr (64 * (g 32 (wr a0).toNat))) (wr (1 + (x_2 * x_2))))
set_option maxRecDepth 100000 in
set_option maxHeartbeats 4000000 in
theorem tX12_queasy (l : Launch) (Θ : Th) (a0 : Int) (a1 : Int) (h0 g : Mem) (rv : Int) (h : fX12_queasy a0 a1 g = some rv) : Ct l yX12_queasy cX12_queasy 4 (some .int) 0 0 Θ [.ref (Θ.2.2.2 0), vi a0, vi a1] h0 g h0 g (some (vi rv)) := by
  refine x_start (by decide) (Nat.le_of_ble_eq_true rfl) ?_
  intro p e s m args below meth c ls C hM hl
  have hl : lv_has ls 4 [(0, .ref (Θ.2.2.2 0)), (1, vi a0), (2, vi a1)] := hl
  obtain ⟨hx, hb, hml, hown, hts, -⟩ := id C
  unfold fX12_queasy at h
  have key : ∀ (H : Heap) (locs : List Loc), Hd Θ s h0 g H locs → W p l e { frames := 0, cells := 0, slots := 0, locals := 0 } s m args below meth c H locs 0 0 (MQ below (Qx Θ s.heap.size h0 g (some (vi rv))) args s 0 0 (AA Θ s.heap.size)) (F0 m 0 ls []) := by
    intro H locs hM
    refine lv_aload_n hx hb (kX12_queasy (i := 0) rfl) rfl (lv_at hl 0 rfl) ?_
    refine gX12_hourPeriod C hM q_fX12_117 (kX12_queasy (i := 1) rfl) ?_
    refine x_iload_n hx hb (kX12_queasy (i := 2) rfl) rfl (lv_at hl 1 rfl) ?_
    obtain ⟨hi_1, h⟩ := gd_some h
    refine x_ialdM C hM 33 (by decide) (eM_33 Θ) hi_1 (kX12_queasy (i := 3) rfl) ?_
    refine x_iload_n hx hb (kX12_queasy (i := 4) rfl) rfl (lv_at hl 2 rfl) ?_
    refine x_isub hx hb (kX12_queasy (i := 5) rfl) ?_
    refine lv_aload_n hx hb (kX12_queasy (i := 6) rfl) rfl (lv_at hl 0 rfl) ?_
    refine gX12_own C hM q_fX12_120 (kX12_queasy (i := 7) rfl) ?_
    refine x_isub hx hb (kX12_queasy (i := 8) rfl) ?_
    obtain ⟨x_2, ex_2, h⟩ := bnd_some h
    refine x_top ex_2 ?_
    refine x_istore_n (lv' := [(3, vi x_2), (0, .ref (Θ.2.2.2 0)), (1, vi a0), (2, vi a1)]) hx hb (kX12_queasy (i := 9) rfl) rfl hl (by decide) rfl (fun ls hl => ?_)
    refine x_bipush hx hb (by decide) (kX12_queasy (i := 10) rfl) ?_
    refine lv_aload_n hx hb (kX12_queasy (i := 11) rfl) rfl (lv_at hl 1 rfl) ?_
    refine gX12_hourHeight C hM q_fX12_114 (kX12_queasy (i := 12) rfl) ?_
    refine x_iload_n hx hb (kX12_queasy (i := 13) rfl) rfl (lv_at hl 2 rfl) ?_
    obtain ⟨hi_3, h⟩ := gd_some h
    refine x_ialdM C hM 32 (by decide) (eM_32 Θ) hi_3 (kX12_queasy (i := 14) rfl) ?_
    refine x_imul hx hb (kX12_queasy (i := 15) rfl) ?_
    refine x_iconst hx hb (kX12_queasy (i := 16) rfl) ?_
    refine x_iload_n hx hb (kX12_queasy (i := 17) rfl) rfl (lv_at hl 0 rfl) ?_
    refine x_iload_n hx hb (kX12_queasy (i := 18) rfl) rfl (lv_at hl 0 rfl) ?_
    refine x_imul hx hb (kX12_queasy (i := 19) rfl) ?_
    refine x_iadd hx hb (kX12_queasy (i := 20) rfl) ?_
    obtain ⟨hz_4, h⟩ := gc_some h
    refine x_idiv (a' := wr (64 * (g 32 (wr a0).toNat))) (b' := wr (1 + (x_2 * x_2))) hx hb (kX12_queasy (i := 21) rfl) rfl rfl hz_4 ?_
    rw [← Option.some.inj h]
    exact x_iret C hM (nar_i _) (kX12_queasy (i := 22) rfl)
  exact key _ _ hM

/-! X12_restBy -/
def fX12_restBy (a0 : Int) (a1 : Int) (a2 : Int) (g : Mem) : Option (Int) :=
  jn (fun (v_1 : Int) =>
    gd ((37 * (a0 + 1)) + v_1) 481 <|
    some (g 49 (wr ((37 * (a0 + 1)) + v_1)).toNat)
  ) fun J22 =>
  if wr a2 ≤ wr a1 then (
    J22 (a1 - a2)
  ) else (
    J22 0
  )
set_option maxRecDepth 100000 in
set_option maxHeartbeats 4000000 in
theorem tX12_restBy (l : Launch) (Θ : Th) (a0 : Int) (a1 : Int) (a2 : Int) (h0 g : Mem) (rv : Int) (h : fX12_restBy a0 a1 a2 g = some rv) : Ct l yX12_restBy cX12_restBy 4 (some .int) 0 0 Θ [.ref (Θ.2.2.2 0), vi a0, vi a1, vi a2] h0 g h0 g (some (vi rv)) := by
  refine x_start (by decide) (Nat.le_of_ble_eq_true rfl) ?_
  intro p e s m args below meth c ls C hM hl
  have hl : lv_has ls 4 [(0, .ref (Θ.2.2.2 0)), (1, vi a0), (2, vi a1), (3, vi a2)] := hl
  obtain ⟨hx, hb, hml, hown, hts, -⟩ := id C
  unfold fX12_restBy at h
  have key : ∀ (H : Heap) (locs : List Loc), Hd Θ s h0 g H locs → W p l e { frames := 0, cells := 0, slots := 0, locals := 0 } s m args below meth c H locs 0 0 (MQ below (Qx Θ s.heap.size h0 g (some (vi rv))) args s 0 0 (AA Θ s.heap.size)) (F0 m 0 ls []) := by
    intro H locs hM
    refine lv_aload_n hx hb (kX12_restBy (i := 0) rfl) rfl (lv_at hl 0 rfl) ?_
    refine gX12_least C hM q_fX12_170 (kX12_restBy (i := 1) rfl) ?_
    refine x_bipush hx hb (by decide) (kX12_restBy (i := 2) rfl) ?_
    refine x_iload_n hx hb (kX12_restBy (i := 3) rfl) rfl (lv_at hl 1 rfl) ?_
    refine x_iconst hx hb (kX12_restBy (i := 4) rfl) ?_
    refine x_iadd hx hb (kX12_restBy (i := 5) rfl) ?_
    refine x_imul hx hb (kX12_restBy (i := 6) rfl) ?_
    refine x_iload_n hx hb (kX12_restBy (i := 7) rfl) rfl (lv_at hl 2 rfl) ?_
    refine x_iload_n hx hb (kX12_restBy (i := 8) rfl) rfl (lv_at hl 3 rfl) ?_
    refine jn_go h (fun J22 : Int → Option (Int) => ∀ (v_1 : Int) (H : Heap) (locs : List Loc) (ls : Array Slot), J22 v_1 = some rv → Hd Θ s h0 g H locs → lv_has ls 4 [] → W p l e { frames := 0, cells := 0, slots := 0, locals := 0 } s m args below meth c H locs 0 0 (MQ below (Qx Θ s.heap.size h0 g (some (vi rv))) args s 0 0 (AA Θ s.heap.size)) (F0 m 22 ls [vi v_1, vi (37 * (a0 + 1)), .ref (Θ.2.2.2 49)])) ?_ ?_
    · intro v_1 H locs ls h hM hl
      refine x_iadd hx hb (kX12_restBy (i := 15) rfl) ?_
      obtain ⟨hi_2, h⟩ := gd_some h
      refine x_ialdM C hM 49 (by decide) (eM_49 Θ) hi_2 (kX12_restBy (i := 16) rfl) ?_
      rw [← Option.some.inj h]
      exact x_iret C hM (nar_i _) (kX12_restBy (i := 17) rfl)
    intro J22 hJ22 h
    refine x_icmp_ge (a' := wr a1) (b' := wr a2) hx hb rfl rfl (tgt := 19) (kX12_restBy (i := 9) rfl) (by decide) (fun c_3 => ?_) (fun c_3 => ?_)
    · have h := it_t c_3 h
      refine x_iload_n hx hb (kX12_restBy (i := 12) rfl) rfl (lv_at hl 2 rfl) ?_
      refine x_iload_n hx hb (kX12_restBy (i := 13) rfl) rfl (lv_at hl 3 rfl) ?_
      refine x_isub hx hb (kX12_restBy (i := 14) rfl) ?_
      exact hJ22 (a1 - a2) H locs ls h hM (lv_sub hl [] rfl)
    · have h := it_f c_3 h
      refine x_iconst hx hb (kX12_restBy (i := 10) rfl) ?_
      refine lv_goto (tgt := 22) hx hb (kX12_restBy (i := 11) rfl) (by decide) ?_
      exact hJ22 0 H locs ls h hM (lv_sub hl [] rfl)
  exact key _ _ hM

/-! X12_best -/
def fX12_best_L32 : Nat → Int → Int → Int → Mem → (Int → Int → Mem → Option (Int × Mem)) → Option (Int × Mem)
  | 0, _, _, _, _, _ => none
  | n + 1, y1, y2, y3, g, K67 =>
    if 37 ≤ wr y3 then (
      K67 y1 y2 g
    ) else (
      jn (fun (v_8 : Int) =>
        gd ((37 * (g 0 41)) + y3) 481 <|
        bnd (up g 49 (wr ((37 * (g 0 41)) + y3)).toNat v_8) fun g_10 =>
        bnd (y3 + 1) fun x_11 =>
        fX12_best_L32 n y1 y2 x_11 g_10 K67
      ) fun J60 =>
      if wr y3 = 0 then (
        J60 0
      ) else (
        J60 (-1)
      )
    )
def fX12_best_L94 : Nat → Int → Int → Int → Int → Int → Int → Mem → (Int → Int → Int → Int → Int → Mem → Option (Int × Mem)) → Option (Int × Mem)
  | 0, _, _, _, _, _, _, _, _ => none
  | n + 1, y1, y2, y3, y4, y5, y6, g, K156 =>
    if 4 ≤ wr y6 then (
      K156 y1 y2 y3 y4 y5 g
    ) else (
      bd (fX12_restBy y3 y4 y6 g) fun r_20 =>
      jn (fun (p_22 : Int) =>
        bnd (y6 + 1) fun x_23 =>
        fX12_best_L94 n y1 y2 y3 y4 p_22 x_23 g K156
      ) fun J150 =>
      if wr r_20 = (-1) then (
        J150 y5
      ) else (
        jn (fun (_ : Unit) =>
          bd (fX12_queasy y3 y6 g) fun r_25 =>
          bnd (r_20 + r_25) fun x_27 =>
          J150 x_27
        ) fun J138 =>
        if wr y5 = (-1) then (
          J138 ()
        ) else (
          bd (fX12_queasy y3 y6 g) fun r_29 =>
          if wr y5 ≤ wr (r_20 + r_29) then (
            J150 y5
          ) else (
            J138 ()
          )
        )
      )
    )
def fX12_best_L81 : Nat → Int → Int → Int → Int → Mem → (Int → Int → Int → Mem → Option (Int × Mem)) → Option (Int × Mem)
  | 0, _, _, _, _, _, _ => none
  | n + 1, y1, y2, y3, y4, g, K176 =>
    if 37 ≤ wr y4 then (
      K176 y1 y2 y3 g
    ) else (
      fX12_best_L94 fuel y1 y2 y3 y4 (-1) 0 g
      (fun (z_32 : Int) (z_33 : Int) (z_34 : Int) (z_35 : Int) (z_36 : Int) (g_37 : Mem) =>
        gd ((37 * z_34) + z_35) 481 <|
        bnd (up g_37 49 (wr ((37 * z_34) + z_35)).toNat z_36) fun g_39 =>
        bnd (z_35 + 1) fun x_40 =>
        fX12_best_L81 n z_32 z_33 z_34 x_40 g_39 K176
      )
    )
def fX12_best_L74 : Nat → Int → Int → Int → Mem → (Int → Int → Mem → Option (Int × Mem)) → Option (Int × Mem)
  | 0, _, _, _, _, _ => none
  | n + 1, y1, y2, y3, g, K182 =>
    if wr y3 < 0 then (
      K182 y1 y2 g
    ) else (
      fX12_best_L81 fuel y1 y2 y3 0 g
      (fun (z_41 : Int) (z_42 : Int) (z_43 : Int) (g_44 : Mem) =>
        bnd (z_43 + (-1)) fun x_45 =>
        fX12_best_L74 n z_41 z_42 x_45 g_44 K182
      )
    )
def fX12_best_L211 : Nat → Int → Int → Int → Int → Mem → (Int → Int → Int → Int → Mem → Option (Int × Mem)) → Option (Int × Mem)
  | 0, _, _, _, _, _, _ => none
  | n + 1, y2, y3, y4, y5, g, K269 =>
    if 3 ≤ wr y4 then (
      K269 y2 y3 y4 y5 g
    ) else (
      bd (fX12_restBy y5 y3 y4 g) fun r_52 =>
      jn (fun (_ : Unit) =>
        bnd (y4 + 1) fun x_54 =>
        fX12_best_L211 n y2 y3 x_54 y5 g K269
      ) fun J263 =>
      if wr r_52 = (-1) then (
        J263 ()
      ) else (
        bd (fX12_restBy y5 y3 y4 g) fun r_56 =>
        bd (fX12_queasy y5 y4 g) fun r_58 =>
        gd ((37 * y5) + y3) 481 <|
        if wr (r_56 + r_58) = wr (g 49 (wr ((37 * y5) + y3)).toNat) then (
          K269 y2 y3 y4 y5 g
        ) else (
          J263 ()
        )
      )
    )
def fX12_best_L202 : Nat → Int → Int → Int → Int → Mem → Option (Int × Mem)
  | 0, _, _, _, _, _ => none
  | n + 1, y2, y3, y4, y5, g =>
    if wr y2 < wr y5 then (
      some (y4, g)
    ) else (
      fX12_best_L211 fuel y2 y3 0 y5 g
      (fun (z_62 : Int) (z_63 : Int) (z_64 : Int) (z_65 : Int) (g_66 : Mem) =>
        jn (fun (v_67 : Int) =>
          bnd (z_65 + 1) fun x_68 =>
          fX12_best_L202 n z_62 v_67 z_64 x_68 g_66
        ) fun J283 =>
        if wr z_64 ≤ wr z_63 then (
          J283 (z_63 - z_64)
        ) else (
          J283 0
        )
      )
    )
def fX12_best (a0 : Int) (a1 : Int) (g : Mem) : Option (Int × Mem) :=
  bd (fX12_in a0 0 (3 * (g 0 41))) fun r_1 =>
  if wr r_1 = 0 then (
    some ((-1), g)
  ) else (
    bd (fX12_in a1 (-1) ((g 0 41) - 1)) fun r_4 =>
    if wr r_4 = 0 then (
      some ((-1), g)
    ) else (
      fX12_best_L32 fuel a0 a1 0 g
      (fun (z_13 : Int) (z_14 : Int) (g_15 : Mem) =>
        bnd ((g_15 0 41) - 1) fun x_16 =>
        fX12_best_L74 fuel z_13 z_14 x_16 g_15
        (fun (z_46 : Int) (z_47 : Int) (g_48 : Mem) =>
          if wr z_47 = (-1) then (
            gd z_46 481 <|
            some (g_48 49 (wr z_46).toNat, g_48)
          ) else (
            fX12_best_L202 fuel z_47 z_46 0 0 g_48
          )
        )
      )
    )
  )
set_option maxRecDepth 100000 in
set_option maxHeartbeats 4000000 in
theorem wX12_best_L32 {p : Program} {l : Launch} {e : Env} {s : State} {m : MethodId} {args : Array Value} {below : List Frame} {meth : Method} {c : Code} {Θ : Th} {h0 : Mem} {rv : Int} {gR : Mem} {K67 : Int → Int → Mem → Option (Int × Mem)} (C : Cx p s m args meth c cX12_best 8 RX12 (some .int) Θ) : ∀ (n : Nat) (y1 : Int) (y2 : Int) (y3 : Int) (g : Mem) (H : Heap) (locs : List Loc) (ls : Array Slot), fX12_best_L32 n y1 y2 y3 g K67 = some (rv, gR) → (∀ (z1 : Int) (z2 : Int) (gz : Mem) (H : Heap) (locs : List Loc) (ls : Array Slot), K67 z1 z2 gz = some (rv, gR) → Hd Θ s h0 gz H locs → lv_has ls 8 [(0, .ref (Θ.2.2.2 0)), (1, vi z1), (2, vi z2)] → W p l e { frames := 1, cells := 0, slots := 0, locals := 23 } s m args below meth c H locs 0 0 (MQ below (Qx Θ s.heap.size h0 gR (some (vi rv))) args s 0 0 (AA Θ s.heap.size)) (F0 m 67 ls [])) → Hd Θ s h0 g H locs → lv_has ls 8 [(0, .ref (Θ.2.2.2 0)), (1, vi y1), (2, vi y2), (3, vi y3)] → W p l e { frames := 1, cells := 0, slots := 0, locals := 23 } s m args below meth c H locs 0 0 (MQ below (Qx Θ s.heap.size h0 gR (some (vi rv))) args s 0 0 (AA Θ s.heap.size)) (F0 m 32 ls []) := by
  intro n
  obtain ⟨hx, hb, hml, hown, hts, -⟩ := id C
  induction n with
  | zero => intro y1 y2 y3 g H locs ls h; cases h
  | succ n ih =>
    intro y1 y2 y3 g H locs ls h hK67 hM hl
    rw [fX12_best_L32] at h
    refine x_iload_n hx hb (kX12_best (i := 20) rfl) rfl (lv_at hl 3 rfl) ?_
    refine x_bipush hx hb (by decide) (kX12_best (i := 21) rfl) ?_
    refine x_icmp_ge (a' := wr y3) (b' := 37) hx hb rfl (by decide) (tgt := 67) (kX12_best (i := 22) rfl) (by decide) (fun c_7 => ?_) (fun c_7 => ?_)
    · have h := it_t c_7 h
      exact hK67 y1 y2 g H locs ls h hM (lv_sub hl [0, 1, 2] rfl)
    · have h := it_f c_7 h
      refine lv_aload_n hx hb (kX12_best (i := 23) rfl) rfl (lv_at hl 0 rfl) ?_
      refine gX12_least C hM q_fX12_170 (kX12_best (i := 24) rfl) ?_
      refine x_bipush hx hb (by decide) (kX12_best (i := 25) rfl) ?_
      refine lv_aload_n hx hb (kX12_best (i := 26) rfl) rfl (lv_at hl 0 rfl) ?_
      refine gX12_hours C hM q_fX12_368 (kX12_best (i := 27) rfl) ?_
      refine x_imul hx hb (kX12_best (i := 28) rfl) ?_
      refine x_iload_n hx hb (kX12_best (i := 29) rfl) rfl (lv_at hl 3 rfl) ?_
      refine x_iadd hx hb (kX12_best (i := 30) rfl) ?_
      refine x_iload_n hx hb (kX12_best (i := 31) rfl) rfl (lv_at hl 3 rfl) ?_
      refine jn_go h (fun J60 : Int → Option (Int × Mem) => ∀ (v_8 : Int) (H : Heap) (locs : List Loc) (ls : Array Slot), J60 v_8 = some (rv, gR) → Hd Θ s h0 g H locs → lv_has ls 8 [(0, .ref (Θ.2.2.2 0)), (1, vi y1), (2, vi y2), (3, vi y3)] → W p l e { frames := 1, cells := 0, slots := 0, locals := 23 } s m args below meth c H locs 0 0 (MQ below (Qx Θ s.heap.size h0 gR (some (vi rv))) args s 0 0 (AA Θ s.heap.size)) (F0 m 60 ls [vi v_8, vi ((37 * (g 0 41)) + y3), .ref (Θ.2.2.2 49)])) ?_ ?_
      · intro v_8 H locs ls h hM hl
        obtain ⟨hi_9, h⟩ := gd_some h
        obtain ⟨g_10, eg_10, h⟩ := bnd_some h
        refine x_iastM C hM 49 (by decide) (eM_49 Θ) hi_9 eg_10 (kX12_best (i := 36) rfl) (fun H locs hM => ?_)
        obtain ⟨x_11, ex_11, h⟩ := bnd_some h
        refine x_iinc (k := 3) (lv' := [(3, vi x_11), (0, .ref (Θ.2.2.2 0)), (1, vi y1), (2, vi y2)]) hx hb (kX12_best (i := 37) rfl) hl rfl ex_11 (by decide) rfl (fun ls hl => ?_)
        refine lv_goto (tgt := 32) hx hb (kX12_best (i := 38) rfl) (by decide) ?_
        exact ih y1 y2 x_11 g_10 H locs ls h hK67 hM (lv_sub hl [1, 2, 3, 0] rfl)
      intro J60 hJ60 h
      refine x_if_ne (a' := wr y3) hx hb rfl (tgt := 59) (kX12_best (i := 32) rfl) (by decide) (fun c_12 => ?_) (fun c_12 => ?_)
      · have h := it_f c_12 h
        refine x_iconst hx hb (kX12_best (i := 35) rfl) ?_
        exact hJ60 (-1) H locs ls h hM (lv_sub hl [0, 1, 2, 3] rfl)
      · have h := it_t c_12 h
        refine x_iconst hx hb (kX12_best (i := 33) rfl) ?_
        refine lv_goto (tgt := 60) hx hb (kX12_best (i := 34) rfl) (by decide) ?_
        exact hJ60 0 H locs ls h hM (lv_sub hl [0, 1, 2, 3] rfl)
set_option maxRecDepth 100000 in
set_option maxHeartbeats 4000000 in
theorem wX12_best_L94 {p : Program} {l : Launch} {e : Env} {s : State} {m : MethodId} {args : Array Value} {below : List Frame} {meth : Method} {c : Code} {Θ : Th} {h0 : Mem} {rv : Int} {gR : Mem} {K156 : Int → Int → Int → Int → Int → Mem → Option (Int × Mem)} (C : Cx p s m args meth c cX12_best 8 RX12 (some .int) Θ) : ∀ (n : Nat) (y1 : Int) (y2 : Int) (y3 : Int) (y4 : Int) (y5 : Int) (y6 : Int) (g : Mem) (H : Heap) (locs : List Loc) (ls : Array Slot), fX12_best_L94 n y1 y2 y3 y4 y5 y6 g K156 = some (rv, gR) → (∀ (z1 : Int) (z2 : Int) (z3 : Int) (z4 : Int) (z5 : Int) (gz : Mem) (H : Heap) (locs : List Loc) (ls : Array Slot), K156 z1 z2 z3 z4 z5 gz = some (rv, gR) → Hd Θ s h0 gz H locs → lv_has ls 8 [(0, .ref (Θ.2.2.2 0)), (1, vi z1), (2, vi z2), (3, vi z3), (4, vi z4), (5, vi z5)] → W p l e { frames := 1, cells := 0, slots := 0, locals := 23 } s m args below meth c H locs 0 0 (MQ below (Qx Θ s.heap.size h0 gR (some (vi rv))) args s 0 0 (AA Θ s.heap.size)) (F0 m 156 ls [])) → Hd Θ s h0 g H locs → lv_has ls 8 [(0, .ref (Θ.2.2.2 0)), (1, vi y1), (2, vi y2), (3, vi y3), (4, vi y4), (5, vi y5), (6, vi y6)] → W p l e { frames := 1, cells := 0, slots := 0, locals := 23 } s m args below meth c H locs 0 0 (MQ below (Qx Θ s.heap.size h0 gR (some (vi rv))) args s 0 0 (AA Θ s.heap.size)) (F0 m 94 ls []) := by
  intro n
  obtain ⟨hx, hb, hml, hown, hts, -⟩ := id C
  induction n with
  | zero => intro y1 y2 y3 y4 y5 y6 g H locs ls h; cases h
  | succ n ih =>
    intro y1 y2 y3 y4 y5 y6 g H locs ls h hK156 hM hl
    rw [fX12_best_L94] at h
    refine x_iload hx hb (kX12_best (i := 55) rfl) (lv_at hl 6 rfl) ?_
    refine x_iconst hx hb (kX12_best (i := 56) rfl) ?_
    refine x_icmp_ge (a' := wr y6) (b' := 4) hx hb rfl (by decide) (tgt := 156) (kX12_best (i := 57) rfl) (by decide) (fun c_19 => ?_) (fun c_19 => ?_)
    · have h := it_t c_19 h
      exact hK156 y1 y2 y3 y4 y5 g H locs ls h hM (lv_sub hl [0, 1, 2, 3, 4, 5] rfl)
    · have h := it_f c_19 h
      refine lv_aload_n hx hb (kX12_best (i := 58) rfl) rfl (lv_at hl 0 rfl) ?_
      refine x_iload_n hx hb (kX12_best (i := 59) rfl) rfl (lv_at hl 3 rfl) ?_
      refine x_iload hx hb (kX12_best (i := 60) rfl) (lv_at hl 4 rfl) ?_
      refine x_iload hx hb (kX12_best (i := 61) rfl) (lv_at hl 6 rfl) ?_
      obtain ⟨r_20, hc_21, h⟩ := bd_some h
      refine x_callV (n := 3) (As := [vi y3, vi y4, vi y6]) (rest := []) C hM (tX12_restBy l Θ y3 y4 y6 h0 g r_20 hc_21) (x_recvM C hM 0 (by decide) (eM_0 Θ _) rfl rfl) q_c_X12_restBy q_mX12_371 q_i_X12_restBy q_e_X12_restBy q_n_X12 (by decide +kernel) ⟨by decide, by decide⟩ rfl hl.1 rfl (Nat.le_of_ble_eq_true rfl) (kX12_best (i := 62) rfl) (fun H locs hM => ?_)
      refine x_istore (lv' := [(7, vi r_20), (0, .ref (Θ.2.2.2 0)), (1, vi y1), (2, vi y2), (3, vi y3), (4, vi y4), (5, vi y5), (6, vi y6)]) hx hb (kX12_best (i := 63) rfl) hl (by decide) rfl (fun ls hl => ?_)
      refine x_iload hx hb (kX12_best (i := 64) rfl) (lv_at hl 0 rfl) ?_
      refine x_iconst hx hb (kX12_best (i := 65) rfl) ?_
      refine jn_go h (fun J150 : Int → Option (Int × Mem) => ∀ (p_22 : Int) (H : Heap) (locs : List Loc) (ls : Array Slot), J150 p_22 = some (rv, gR) → Hd Θ s h0 g H locs → lv_has ls 8 [(0, .ref (Θ.2.2.2 0)), (1, vi y1), (2, vi y2), (3, vi y3), (4, vi y4), (5, vi p_22), (6, vi y6)] → W p l e { frames := 1, cells := 0, slots := 0, locals := 23 } s m args below meth c H locs 0 0 (MQ below (Qx Θ s.heap.size h0 gR (some (vi rv))) args s 0 0 (AA Θ s.heap.size)) (F0 m 150 ls [])) ?_ ?_
      · intro p_22 H locs ls h hM hl
        obtain ⟨x_23, ex_23, h⟩ := bnd_some h
        refine x_iinc (k := 6) (lv' := [(6, vi x_23), (0, .ref (Θ.2.2.2 0)), (1, vi y1), (2, vi y2), (3, vi y3), (4, vi y4), (5, vi p_22)]) hx hb (kX12_best (i := 85) rfl) hl rfl ex_23 (by decide) rfl (fun ls hl => ?_)
        refine lv_goto (tgt := 94) hx hb (kX12_best (i := 86) rfl) (by decide) ?_
        exact ih y1 y2 y3 y4 p_22 x_23 g H locs ls h hK156 hM (lv_sub hl [1, 2, 3, 4, 5, 6, 0] rfl)
      intro J150 hJ150 h
      refine x_icmp_eq (a' := wr r_20) (b' := (-1)) hx hb rfl (by decide) (tgt := 150) (kX12_best (i := 66) rfl) (by decide) (fun c_24 => ?_) (fun c_24 => ?_)
      · have h := it_t c_24 h
        exact hJ150 y5 H locs ls h hM (lv_sub hl [1, 2, 3, 4, 5, 6, 7] rfl)
      · have h := it_f c_24 h
        refine x_iload hx hb (kX12_best (i := 67) rfl) (lv_at hl 6 rfl) ?_
        refine x_iconst hx hb (kX12_best (i := 68) rfl) ?_
        refine jn_go h (fun J138 : Unit → Option (Int × Mem) => ∀ (H : Heap) (locs : List Loc) (ls : Array Slot), J138 () = some (rv, gR) → Hd Θ s h0 g H locs → lv_has ls 8 [(0, .ref (Θ.2.2.2 0)), (1, vi y1), (2, vi y2), (3, vi y3), (4, vi y4), (6, vi y6), (7, vi r_20)] → W p l e { frames := 1, cells := 0, slots := 0, locals := 23 } s m args below meth c H locs 0 0 (MQ below (Qx Θ s.heap.size h0 gR (some (vi rv))) args s 0 0 (AA Θ s.heap.size)) (F0 m 138 ls [])) ?_ ?_
        · intro  H locs ls h hM hl
          refine x_iload hx hb (kX12_best (i := 78) rfl) (lv_at hl 6 rfl) ?_
          refine lv_aload_n hx hb (kX12_best (i := 79) rfl) rfl (lv_at hl 0 rfl) ?_
          refine x_iload_n hx hb (kX12_best (i := 80) rfl) rfl (lv_at hl 3 rfl) ?_
          refine x_iload hx hb (kX12_best (i := 81) rfl) (lv_at hl 5 rfl) ?_
          obtain ⟨r_25, hc_26, h⟩ := bd_some h
          refine x_callV (n := 2) (As := [vi y3, vi y6]) (rest := [vi r_20]) C hM (tX12_queasy l Θ y3 y6 h0 g r_25 hc_26) (x_recvM C hM 0 (by decide) (eM_0 Θ _) rfl rfl) q_c_X12_queasy q_mX12_374 q_i_X12_queasy q_e_X12_queasy q_n_X12 (by decide +kernel) ⟨by decide, by decide⟩ rfl hl.1 rfl (Nat.le_of_ble_eq_true rfl) (kX12_best (i := 82) rfl) (fun H locs hM => ?_)
          refine x_iadd hx hb (kX12_best (i := 83) rfl) ?_
          obtain ⟨x_27, ex_27, h⟩ := bnd_some h
          refine x_top ex_27 ?_
          refine x_istore (lv' := [(5, vi x_27), (0, .ref (Θ.2.2.2 0)), (1, vi y1), (2, vi y2), (3, vi y3), (4, vi y4), (6, vi y6), (7, vi r_20)]) hx hb (kX12_best (i := 84) rfl) hl (by decide) rfl (fun ls hl => ?_)
          exact hJ150 x_27 H locs ls h hM (lv_sub hl [1, 2, 3, 4, 5, 0, 6] rfl)
        intro J138 hJ138 h
        refine x_icmp_eq (a' := wr y5) (b' := (-1)) hx hb rfl (by decide) (tgt := 138) (kX12_best (i := 69) rfl) (by decide) (fun c_28 => ?_) (fun c_28 => ?_)
        · have h := it_t c_28 h
          exact hJ138 H locs ls h hM (lv_sub hl [1, 2, 3, 4, 5, 7, 0] rfl)
        · have h := it_f c_28 h
          refine x_iload hx hb (kX12_best (i := 70) rfl) (lv_at hl 0 rfl) ?_
          refine lv_aload_n hx hb (kX12_best (i := 71) rfl) rfl (lv_at hl 1 rfl) ?_
          refine x_iload_n hx hb (kX12_best (i := 72) rfl) rfl (lv_at hl 4 rfl) ?_
          refine x_iload hx hb (kX12_best (i := 73) rfl) (lv_at hl 7 rfl) ?_
          obtain ⟨r_29, hc_30, h⟩ := bd_some h
          refine x_callV (n := 2) (As := [vi y3, vi y6]) (rest := [vi r_20]) C hM (tX12_queasy l Θ y3 y6 h0 g r_29 hc_30) (x_recvM C hM 0 (by decide) (eM_0 Θ _) rfl rfl) q_c_X12_queasy q_mX12_374 q_i_X12_queasy q_e_X12_queasy q_n_X12 (by decide +kernel) ⟨by decide, by decide⟩ rfl hl.1 rfl (Nat.le_of_ble_eq_true rfl) (kX12_best (i := 74) rfl) (fun H locs hM => ?_)
          refine x_iadd hx hb (kX12_best (i := 75) rfl) ?_
          refine x_iload hx hb (kX12_best (i := 76) rfl) (lv_at hl 6 rfl) ?_
          refine x_icmp_ge (a' := wr (r_20 + r_29)) (b' := wr y5) hx hb rfl rfl (tgt := 150) (kX12_best (i := 77) rfl) (by decide) (fun c_31 => ?_) (fun c_31 => ?_)
          · have h := it_t c_31 h
            exact hJ150 y5 H locs ls h hM (lv_sub hl [1, 2, 3, 4, 5, 6, 7] rfl)
          · have h := it_f c_31 h
            exact hJ138 H locs ls h hM (lv_sub hl [1, 2, 3, 4, 5, 7, 0] rfl)
set_option maxRecDepth 100000 in
set_option maxHeartbeats 4000000 in
theorem wX12_best_L81 {p : Program} {l : Launch} {e : Env} {s : State} {m : MethodId} {args : Array Value} {below : List Frame} {meth : Method} {c : Code} {Θ : Th} {h0 : Mem} {rv : Int} {gR : Mem} {K176 : Int → Int → Int → Mem → Option (Int × Mem)} (C : Cx p s m args meth c cX12_best 8 RX12 (some .int) Θ) : ∀ (n : Nat) (y1 : Int) (y2 : Int) (y3 : Int) (y4 : Int) (g : Mem) (H : Heap) (locs : List Loc) (ls : Array Slot), fX12_best_L81 n y1 y2 y3 y4 g K176 = some (rv, gR) → (∀ (z1 : Int) (z2 : Int) (z3 : Int) (gz : Mem) (H : Heap) (locs : List Loc) (ls : Array Slot), K176 z1 z2 z3 gz = some (rv, gR) → Hd Θ s h0 gz H locs → lv_has ls 8 [(0, .ref (Θ.2.2.2 0)), (1, vi z1), (2, vi z2), (3, vi z3)] → W p l e { frames := 1, cells := 0, slots := 0, locals := 23 } s m args below meth c H locs 0 0 (MQ below (Qx Θ s.heap.size h0 gR (some (vi rv))) args s 0 0 (AA Θ s.heap.size)) (F0 m 176 ls [])) → Hd Θ s h0 g H locs → lv_has ls 8 [(0, .ref (Θ.2.2.2 0)), (1, vi y1), (2, vi y2), (3, vi y3), (4, vi y4)] → W p l e { frames := 1, cells := 0, slots := 0, locals := 23 } s m args below meth c H locs 0 0 (MQ below (Qx Θ s.heap.size h0 gR (some (vi rv))) args s 0 0 (AA Θ s.heap.size)) (F0 m 81 ls []) := by
  intro n
  obtain ⟨hx, hb, hml, hown, hts, -⟩ := id C
  induction n with
  | zero => intro y1 y2 y3 y4 g H locs ls h; cases h
  | succ n ih =>
    intro y1 y2 y3 y4 g H locs ls h hK176 hM hl
    rw [fX12_best_L81] at h
    refine x_iload hx hb (kX12_best (i := 48) rfl) (lv_at hl 4 rfl) ?_
    refine x_bipush hx hb (by decide) (kX12_best (i := 49) rfl) ?_
    refine x_icmp_ge (a' := wr y4) (b' := 37) hx hb rfl (by decide) (tgt := 176) (kX12_best (i := 50) rfl) (by decide) (fun c_18 => ?_) (fun c_18 => ?_)
    · have h := it_t c_18 h
      exact hK176 y1 y2 y3 g H locs ls h hM (lv_sub hl [0, 1, 2, 3] rfl)
    · have h := it_f c_18 h
      refine x_iconst hx hb (kX12_best (i := 51) rfl) ?_
      refine x_istore (lv' := [(5, vi (-1)), (0, .ref (Θ.2.2.2 0)), (1, vi y1), (2, vi y2), (3, vi y3), (4, vi y4)]) hx hb (kX12_best (i := 52) rfl) hl (by decide) rfl (fun ls hl => ?_)
      refine x_iconst hx hb (kX12_best (i := 53) rfl) ?_
      refine x_istore (lv' := [(6, vi 0), (5, vi (-1)), (0, .ref (Θ.2.2.2 0)), (1, vi y1), (2, vi y2), (3, vi y3), (4, vi y4)]) hx hb (kX12_best (i := 54) rfl) hl (by decide) rfl (fun ls hl => ?_)
      refine wX12_best_L94  C fuel y1 y2 y3 y4 (-1) 0 g H locs ls h ?_ hM (lv_sub hl [2, 3, 4, 5, 6, 1, 0] rfl)
      · intro z_32 z_33 z_34 z_35 z_36 g_37 H locs ls h hM hl
        refine lv_aload_n hx hb (kX12_best (i := 87) rfl) rfl (lv_at hl 0 rfl) ?_
        refine gX12_least C hM q_fX12_170 (kX12_best (i := 88) rfl) ?_
        refine x_bipush hx hb (by decide) (kX12_best (i := 89) rfl) ?_
        refine x_iload_n hx hb (kX12_best (i := 90) rfl) rfl (lv_at hl 3 rfl) ?_
        refine x_imul hx hb (kX12_best (i := 91) rfl) ?_
        refine x_iload hx hb (kX12_best (i := 92) rfl) (lv_at hl 4 rfl) ?_
        refine x_iadd hx hb (kX12_best (i := 93) rfl) ?_
        refine x_iload hx hb (kX12_best (i := 94) rfl) (lv_at hl 5 rfl) ?_
        obtain ⟨hi_38, h⟩ := gd_some h
        obtain ⟨g_39, eg_39, h⟩ := bnd_some h
        refine x_iastM C hM 49 (by decide) (eM_49 Θ) hi_38 eg_39 (kX12_best (i := 95) rfl) (fun H locs hM => ?_)
        obtain ⟨x_40, ex_40, h⟩ := bnd_some h
        refine x_iinc (k := 4) (lv' := [(4, vi x_40), (0, .ref (Θ.2.2.2 0)), (1, vi z_32), (2, vi z_33), (3, vi z_34), (5, vi z_36)]) hx hb (kX12_best (i := 96) rfl) hl rfl ex_40 (by decide) rfl (fun ls hl => ?_)
        refine lv_goto (tgt := 81) hx hb (kX12_best (i := 97) rfl) (by decide) ?_
        exact ih z_32 z_33 z_34 x_40 g_39 H locs ls h hK176 hM (lv_sub hl [1, 2, 3, 4, 0] rfl)
set_option maxRecDepth 100000 in
set_option maxHeartbeats 4000000 in
theorem wX12_best_L74 {p : Program} {l : Launch} {e : Env} {s : State} {m : MethodId} {args : Array Value} {below : List Frame} {meth : Method} {c : Code} {Θ : Th} {h0 : Mem} {rv : Int} {gR : Mem} {K182 : Int → Int → Mem → Option (Int × Mem)} (C : Cx p s m args meth c cX12_best 8 RX12 (some .int) Θ) : ∀ (n : Nat) (y1 : Int) (y2 : Int) (y3 : Int) (g : Mem) (H : Heap) (locs : List Loc) (ls : Array Slot), fX12_best_L74 n y1 y2 y3 g K182 = some (rv, gR) → (∀ (z1 : Int) (z2 : Int) (gz : Mem) (H : Heap) (locs : List Loc) (ls : Array Slot), K182 z1 z2 gz = some (rv, gR) → Hd Θ s h0 gz H locs → lv_has ls 8 [(0, .ref (Θ.2.2.2 0)), (1, vi z1), (2, vi z2)] → W p l e { frames := 1, cells := 0, slots := 0, locals := 23 } s m args below meth c H locs 0 0 (MQ below (Qx Θ s.heap.size h0 gR (some (vi rv))) args s 0 0 (AA Θ s.heap.size)) (F0 m 182 ls [])) → Hd Θ s h0 g H locs → lv_has ls 8 [(0, .ref (Θ.2.2.2 0)), (1, vi y1), (2, vi y2), (3, vi y3)] → W p l e { frames := 1, cells := 0, slots := 0, locals := 23 } s m args below meth c H locs 0 0 (MQ below (Qx Θ s.heap.size h0 gR (some (vi rv))) args s 0 0 (AA Θ s.heap.size)) (F0 m 74 ls []) := by
  intro n
  obtain ⟨hx, hb, hml, hown, hts, -⟩ := id C
  induction n with
  | zero => intro y1 y2 y3 g H locs ls h; cases h
  | succ n ih =>
    intro y1 y2 y3 g H locs ls h hK182 hM hl
    rw [fX12_best_L74] at h
    refine x_iload_n hx hb (kX12_best (i := 44) rfl) rfl (lv_at hl 3 rfl) ?_
    refine x_if_lt (a' := wr y3) hx hb rfl (tgt := 182) (kX12_best (i := 45) rfl) (by decide) (fun c_17 => ?_) (fun c_17 => ?_)
    · have h := it_t c_17 h
      exact hK182 y1 y2 g H locs ls h hM (lv_sub hl [0, 1, 2] rfl)
    · have h := it_f c_17 h
      refine x_iconst hx hb (kX12_best (i := 46) rfl) ?_
      refine x_istore (lv' := [(4, vi 0), (0, .ref (Θ.2.2.2 0)), (1, vi y1), (2, vi y2), (3, vi y3)]) hx hb (kX12_best (i := 47) rfl) hl (by decide) rfl (fun ls hl => ?_)
      refine wX12_best_L81  C fuel y1 y2 y3 0 g H locs ls h ?_ hM (lv_sub hl [1, 2, 3, 4, 0] rfl)
      · intro z_41 z_42 z_43 g_44 H locs ls h hM hl
        obtain ⟨x_45, ex_45, h⟩ := bnd_some h
        refine x_iinc (k := 3) (lv' := [(3, vi x_45), (0, .ref (Θ.2.2.2 0)), (1, vi z_41), (2, vi z_42)]) hx hb (kX12_best (i := 98) rfl) hl rfl ex_45 (by decide) rfl (fun ls hl => ?_)
        refine lv_goto (tgt := 74) hx hb (kX12_best (i := 99) rfl) (by decide) ?_
        exact ih z_41 z_42 x_45 g_44 H locs ls h hK182 hM (lv_sub hl [1, 2, 3, 0] rfl)
set_option maxRecDepth 100000 in
set_option maxHeartbeats 4000000 in
theorem wX12_best_L211 {p : Program} {l : Launch} {e : Env} {s : State} {m : MethodId} {args : Array Value} {below : List Frame} {meth : Method} {c : Code} {Θ : Th} {h0 : Mem} {rv : Int} {gR : Mem} {K269 : Int → Int → Int → Int → Mem → Option (Int × Mem)} (C : Cx p s m args meth c cX12_best 8 RX12 (some .int) Θ) : ∀ (n : Nat) (y2 : Int) (y3 : Int) (y4 : Int) (y5 : Int) (g : Mem) (H : Heap) (locs : List Loc) (ls : Array Slot), fX12_best_L211 n y2 y3 y4 y5 g K269 = some (rv, gR) → (∀ (z2 : Int) (z3 : Int) (z4 : Int) (z5 : Int) (gz : Mem) (H : Heap) (locs : List Loc) (ls : Array Slot), K269 z2 z3 z4 z5 gz = some (rv, gR) → Hd Θ s h0 gz H locs → lv_has ls 8 [(0, .ref (Θ.2.2.2 0)), (2, vi z2), (3, vi z3), (4, vi z4), (5, vi z5)] → W p l e { frames := 1, cells := 0, slots := 0, locals := 23 } s m args below meth c H locs 0 0 (MQ below (Qx Θ s.heap.size h0 gR (some (vi rv))) args s 0 0 (AA Θ s.heap.size)) (F0 m 269 ls [])) → Hd Θ s h0 g H locs → lv_has ls 8 [(0, .ref (Θ.2.2.2 0)), (2, vi y2), (3, vi y3), (4, vi y4), (5, vi y5)] → W p l e { frames := 1, cells := 0, slots := 0, locals := 23 } s m args below meth c H locs 0 0 (MQ below (Qx Θ s.heap.size h0 gR (some (vi rv))) args s 0 0 (AA Θ s.heap.size)) (F0 m 211 ls []) := by
  intro n
  obtain ⟨hx, hb, hml, hown, hts, -⟩ := id C
  induction n with
  | zero => intro y2 y3 y4 y5 g H locs ls h; cases h
  | succ n ih =>
    intro y2 y3 y4 y5 g H locs ls h hK269 hM hl
    rw [fX12_best_L211] at h
    refine x_iload hx hb (kX12_best (i := 119) rfl) (lv_at hl 3 rfl) ?_
    refine x_iconst hx hb (kX12_best (i := 120) rfl) ?_
    refine x_icmp_ge (a' := wr y4) (b' := 3) hx hb rfl (by decide) (tgt := 269) (kX12_best (i := 121) rfl) (by decide) (fun c_51 => ?_) (fun c_51 => ?_)
    · have h := it_t c_51 h
      exact hK269 y2 y3 y4 y5 g H locs ls h hM (lv_sub hl [0, 1, 2, 3, 4] rfl)
    · have h := it_f c_51 h
      refine lv_aload_n hx hb (kX12_best (i := 122) rfl) rfl (lv_at hl 0 rfl) ?_
      refine x_iload hx hb (kX12_best (i := 123) rfl) (lv_at hl 4 rfl) ?_
      refine x_iload_n hx hb (kX12_best (i := 124) rfl) rfl (lv_at hl 2 rfl) ?_
      refine x_iload hx hb (kX12_best (i := 125) rfl) (lv_at hl 3 rfl) ?_
      obtain ⟨r_52, hc_53, h⟩ := bd_some h
      refine x_callV (n := 3) (As := [vi y5, vi y3, vi y4]) (rest := []) C hM (tX12_restBy l Θ y5 y3 y4 h0 g r_52 hc_53) (x_recvM C hM 0 (by decide) (eM_0 Θ _) rfl rfl) q_c_X12_restBy q_mX12_371 q_i_X12_restBy q_e_X12_restBy q_n_X12 (by decide +kernel) ⟨by decide, by decide⟩ rfl hl.1 rfl (Nat.le_of_ble_eq_true rfl) (kX12_best (i := 126) rfl) (fun H locs hM => ?_)
      refine x_iconst hx hb (kX12_best (i := 127) rfl) ?_
      refine jn_go h (fun J263 : Unit → Option (Int × Mem) => ∀ (H : Heap) (locs : List Loc) (ls : Array Slot), J263 () = some (rv, gR) → Hd Θ s h0 g H locs → lv_has ls 8 [(0, .ref (Θ.2.2.2 0)), (2, vi y2), (3, vi y3), (4, vi y4), (5, vi y5)] → W p l e { frames := 1, cells := 0, slots := 0, locals := 23 } s m args below meth c H locs 0 0 (MQ below (Qx Θ s.heap.size h0 gR (some (vi rv))) args s 0 0 (AA Θ s.heap.size)) (F0 m 263 ls [])) ?_ ?_
      · intro  H locs ls h hM hl
        obtain ⟨x_54, ex_54, h⟩ := bnd_some h
        refine x_iinc (k := 3) (lv' := [(4, vi x_54), (0, .ref (Θ.2.2.2 0)), (2, vi y2), (3, vi y3), (5, vi y5)]) hx hb (kX12_best (i := 148) rfl) hl rfl ex_54 (by decide) rfl (fun ls hl => ?_)
        refine lv_goto (tgt := 211) hx hb (kX12_best (i := 149) rfl) (by decide) ?_
        exact ih y2 y3 x_54 y5 g H locs ls h hK269 hM (lv_sub hl [1, 2, 3, 0, 4] rfl)
      intro J263 hJ263 h
      refine x_icmp_eq (a' := wr r_52) (b' := (-1)) hx hb rfl (by decide) (tgt := 263) (kX12_best (i := 128) rfl) (by decide) (fun c_55 => ?_) (fun c_55 => ?_)
      · have h := it_t c_55 h
        exact hJ263 H locs ls h hM (lv_sub hl [0, 1, 2, 3, 4] rfl)
      · have h := it_f c_55 h
        refine lv_aload_n hx hb (kX12_best (i := 129) rfl) rfl (lv_at hl 0 rfl) ?_
        refine x_iload hx hb (kX12_best (i := 130) rfl) (lv_at hl 4 rfl) ?_
        refine x_iload_n hx hb (kX12_best (i := 131) rfl) rfl (lv_at hl 2 rfl) ?_
        refine x_iload hx hb (kX12_best (i := 132) rfl) (lv_at hl 3 rfl) ?_
        obtain ⟨r_56, hc_57, h⟩ := bd_some h
        refine x_callV (n := 3) (As := [vi y5, vi y3, vi y4]) (rest := []) C hM (tX12_restBy l Θ y5 y3 y4 h0 g r_56 hc_57) (x_recvM C hM 0 (by decide) (eM_0 Θ _) rfl rfl) q_c_X12_restBy q_mX12_371 q_i_X12_restBy q_e_X12_restBy q_n_X12 (by decide +kernel) ⟨by decide, by decide⟩ rfl hl.1 rfl (Nat.le_of_ble_eq_true rfl) (kX12_best (i := 133) rfl) (fun H locs hM => ?_)
        refine lv_aload_n hx hb (kX12_best (i := 134) rfl) rfl (lv_at hl 0 rfl) ?_
        refine x_iload hx hb (kX12_best (i := 135) rfl) (lv_at hl 4 rfl) ?_
        refine x_iload hx hb (kX12_best (i := 136) rfl) (lv_at hl 3 rfl) ?_
        obtain ⟨r_58, hc_59, h⟩ := bd_some h
        refine x_callV (n := 2) (As := [vi y5, vi y4]) (rest := [vi r_56]) C hM (tX12_queasy l Θ y5 y4 h0 g r_58 hc_59) (x_recvM C hM 0 (by decide) (eM_0 Θ _) rfl rfl) q_c_X12_queasy q_mX12_374 q_i_X12_queasy q_e_X12_queasy q_n_X12 (by decide +kernel) ⟨by decide, by decide⟩ rfl hl.1 rfl (Nat.le_of_ble_eq_true rfl) (kX12_best (i := 137) rfl) (fun H locs hM => ?_)
        refine x_iadd hx hb (kX12_best (i := 138) rfl) ?_
        refine lv_aload_n hx hb (kX12_best (i := 139) rfl) rfl (lv_at hl 0 rfl) ?_
        refine gX12_least C hM q_fX12_170 (kX12_best (i := 140) rfl) ?_
        refine x_bipush hx hb (by decide) (kX12_best (i := 141) rfl) ?_
        refine x_iload hx hb (kX12_best (i := 142) rfl) (lv_at hl 4 rfl) ?_
        refine x_imul hx hb (kX12_best (i := 143) rfl) ?_
        refine x_iload_n hx hb (kX12_best (i := 144) rfl) rfl (lv_at hl 2 rfl) ?_
        refine x_iadd hx hb (kX12_best (i := 145) rfl) ?_
        obtain ⟨hi_60, h⟩ := gd_some h
        refine x_ialdM C hM 49 (by decide) (eM_49 Θ) hi_60 (kX12_best (i := 146) rfl) ?_
        refine x_icmp_eq (a' := wr (r_56 + r_58)) (b' := wr (g 49 (wr ((37 * y5) + y3)).toNat)) hx hb rfl rfl (tgt := 269) (kX12_best (i := 147) rfl) (by decide) (fun c_61 => ?_) (fun c_61 => ?_)
        · have h := it_t c_61 h
          exact hK269 y2 y3 y4 y5 g H locs ls h hM (lv_sub hl [0, 1, 2, 3, 4] rfl)
        · have h := it_f c_61 h
          exact hJ263 H locs ls h hM (lv_sub hl [0, 1, 2, 3, 4] rfl)
set_option maxRecDepth 100000 in
set_option maxHeartbeats 4000000 in
theorem wX12_best_L202 {p : Program} {l : Launch} {e : Env} {s : State} {m : MethodId} {args : Array Value} {below : List Frame} {meth : Method} {c : Code} {Θ : Th} {h0 : Mem} {rv : Int} {gR : Mem} (C : Cx p s m args meth c cX12_best 8 RX12 (some .int) Θ) : ∀ (n : Nat) (y2 : Int) (y3 : Int) (y4 : Int) (y5 : Int) (g : Mem) (H : Heap) (locs : List Loc) (ls : Array Slot), fX12_best_L202 n y2 y3 y4 y5 g = some (rv, gR) → Hd Θ s h0 g H locs → lv_has ls 8 [(0, .ref (Θ.2.2.2 0)), (2, vi y2), (3, vi y3), (4, vi y4), (5, vi y5)] → W p l e { frames := 1, cells := 0, slots := 0, locals := 23 } s m args below meth c H locs 0 0 (MQ below (Qx Θ s.heap.size h0 gR (some (vi rv))) args s 0 0 (AA Θ s.heap.size)) (F0 m 202 ls []) := by
  intro n
  obtain ⟨hx, hb, hml, hown, hts, -⟩ := id C
  induction n with
  | zero => intro y2 y3 y4 y5 g H locs ls h; cases h
  | succ n ih =>
    intro y2 y3 y4 y5 g H locs ls h  hM hl
    rw [fX12_best_L202] at h
    refine x_iload hx hb (kX12_best (i := 114) rfl) (lv_at hl 4 rfl) ?_
    refine x_iload_n hx hb (kX12_best (i := 115) rfl) rfl (lv_at hl 1 rfl) ?_
    refine x_icmp_gt (a' := wr y5) (b' := wr y2) hx hb rfl rfl (tgt := 290) (kX12_best (i := 116) rfl) (by decide) (fun c_50 => ?_) (fun c_50 => ?_)
    · have h := it_t c_50 h
      refine x_iload hx hb (kX12_best (i := 161) rfl) (lv_at hl 3 rfl) ?_
      obtain ⟨q1, q2⟩ := ret2 h
      rw [q1, q2]
      exact x_iret C hM (nar_i _) (kX12_best (i := 162) rfl)
    · have h := it_f c_50 h
      refine x_iconst hx hb (kX12_best (i := 117) rfl) ?_
      refine x_istore (lv' := [(4, vi 0), (0, .ref (Θ.2.2.2 0)), (2, vi y2), (3, vi y3), (5, vi y5)]) hx hb (kX12_best (i := 118) rfl) hl (by decide) rfl (fun ls hl => ?_)
      refine wX12_best_L211  C fuel y2 y3 0 y5 g H locs ls h ?_ hM (lv_sub hl [1, 2, 3, 0, 4] rfl)
      · intro z_62 z_63 z_64 z_65 g_66 H locs ls h hM hl
        refine x_iload_n hx hb (kX12_best (i := 150) rfl) rfl (lv_at hl 2 rfl) ?_
        refine x_iload hx hb (kX12_best (i := 151) rfl) (lv_at hl 3 rfl) ?_
        refine jn_go h (fun J283 : Int → Option (Int × Mem) => ∀ (v_67 : Int) (H : Heap) (locs : List Loc) (ls : Array Slot), J283 v_67 = some (rv, gR) → Hd Θ s h0 g_66 H locs → lv_has ls 8 [(0, .ref (Θ.2.2.2 0)), (2, vi z_62), (4, vi z_64), (5, vi z_65)] → W p l e { frames := 1, cells := 0, slots := 0, locals := 23 } s m args below meth c H locs 0 0 (MQ below (Qx Θ s.heap.size h0 gR (some (vi rv))) args s 0 0 (AA Θ s.heap.size)) (F0 m 283 ls [vi v_67])) ?_ ?_
        · intro v_67 H locs ls h hM hl
          refine x_istore_n (lv' := [(3, vi v_67), (0, .ref (Θ.2.2.2 0)), (2, vi z_62), (4, vi z_64), (5, vi z_65)]) hx hb (kX12_best (i := 158) rfl) rfl hl (by decide) rfl (fun ls hl => ?_)
          obtain ⟨x_68, ex_68, h⟩ := bnd_some h
          refine x_iinc (k := 4) (lv' := [(5, vi x_68), (3, vi v_67), (0, .ref (Θ.2.2.2 0)), (2, vi z_62), (4, vi z_64)]) hx hb (kX12_best (i := 159) rfl) hl rfl ex_68 (by decide) rfl (fun ls hl => ?_)
          refine lv_goto (tgt := 202) hx hb (kX12_best (i := 160) rfl) (by decide) ?_
          exact ih z_62 v_67 z_64 x_68 g_66 H locs ls h hM (lv_sub hl [2, 3, 1, 4, 0] rfl)
        intro J283 hJ283 h
        refine x_icmp_ge (a' := wr z_63) (b' := wr z_64) hx hb rfl rfl (tgt := 279) (kX12_best (i := 152) rfl) (by decide) (fun c_69 => ?_) (fun c_69 => ?_)
        · have h := it_t c_69 h
          refine x_iload_n hx hb (kX12_best (i := 155) rfl) rfl (lv_at hl 2 rfl) ?_
          refine x_iload hx hb (kX12_best (i := 156) rfl) (lv_at hl 3 rfl) ?_
          refine x_isub hx hb (kX12_best (i := 157) rfl) ?_
          exact hJ283 (z_63 - z_64) H locs ls h hM (lv_sub hl [0, 1, 3, 4] rfl)
        · have h := it_f c_69 h
          refine x_iconst hx hb (kX12_best (i := 153) rfl) ?_
          refine lv_goto (tgt := 283) hx hb (kX12_best (i := 154) rfl) (by decide) ?_
          exact hJ283 0 H locs ls h hM (lv_sub hl [0, 1, 3, 4] rfl)
set_option maxRecDepth 100000 in
set_option maxHeartbeats 4000000 in
theorem tX12_best (l : Launch) (Θ : Th) (a0 : Int) (a1 : Int) (h0 g : Mem) (rv : Int) (gR : Mem) (h : fX12_best a0 a1 g = some (rv, gR)) : Ct l yX12_best cX12_best 8 (some .int) 1 23 Θ [.ref (Θ.2.2.2 0), vi a0, vi a1] h0 g h0 gR (some (vi rv)) := by
  refine x_start (by decide) (Nat.le_of_ble_eq_true rfl) ?_
  intro p e s m args below meth c ls C hM hl
  have hl : lv_has ls 8 [(0, .ref (Θ.2.2.2 0)), (1, vi a0), (2, vi a1)] := hl
  obtain ⟨hx, hb, hml, hown, hts, -⟩ := id C
  unfold fX12_best at h
  have key : ∀ (H : Heap) (locs : List Loc), Hd Θ s h0 g H locs → W p l e { frames := 1, cells := 0, slots := 0, locals := 23 } s m args below meth c H locs 0 0 (MQ below (Qx Θ s.heap.size h0 gR (some (vi rv))) args s 0 0 (AA Θ s.heap.size)) (F0 m 0 ls []) := by
    intro H locs hM
    refine x_iload_n hx hb (kX12_best (i := 0) rfl) rfl (lv_at hl 1 rfl) ?_
    refine x_iconst hx hb (kX12_best (i := 1) rfl) ?_
    refine x_iconst hx hb (kX12_best (i := 2) rfl) ?_
    refine lv_aload_n hx hb (kX12_best (i := 3) rfl) rfl (lv_at hl 0 rfl) ?_
    refine gX12_hours C hM q_fX12_368 (kX12_best (i := 4) rfl) ?_
    refine x_imul hx hb (kX12_best (i := 5) rfl) ?_
    obtain ⟨r_1, hc_2, h⟩ := bd_some h
    refine x_callS (n := 3) (As := [vi a0, vi 0, vi (3 * (g 0 41))]) (rest := []) C hM (tX12_in l Θ a0 0 (3 * (g 0 41)) h0 g r_1 hc_2) q_c_X12_in q_mX12_173 q_s_X12_in q_n_X12 (by decide +kernel) ⟨by decide, by decide⟩ rfl hl.1 rfl (Nat.le_of_ble_eq_true rfl) (kX12_best (i := 6) rfl) (fun H locs hM => ?_)
    refine x_if_eq (a' := wr r_1) hx hb rfl (tgt := 28) (kX12_best (i := 7) rfl) (by decide) (fun c_3 => ?_) (fun c_3 => ?_)
    · have h := it_t c_3 h
      refine x_iconst hx hb (kX12_best (i := 16) rfl) ?_
      obtain ⟨q1, q2⟩ := ret2 h
      rw [q1, q2]
      exact x_iret C hM (nar_i _) (kX12_best (i := 17) rfl)
    · have h := it_f c_3 h
      refine x_iload_n hx hb (kX12_best (i := 8) rfl) rfl (lv_at hl 2 rfl) ?_
      refine x_iconst hx hb (kX12_best (i := 9) rfl) ?_
      refine lv_aload_n hx hb (kX12_best (i := 10) rfl) rfl (lv_at hl 0 rfl) ?_
      refine gX12_hours C hM q_fX12_368 (kX12_best (i := 11) rfl) ?_
      refine x_iconst hx hb (kX12_best (i := 12) rfl) ?_
      refine x_isub hx hb (kX12_best (i := 13) rfl) ?_
      obtain ⟨r_4, hc_5, h⟩ := bd_some h
      refine x_callS (n := 3) (As := [vi a1, vi (-1), vi ((g 0 41) - 1)]) (rest := []) C hM (tX12_in l Θ a1 (-1) ((g 0 41) - 1) h0 g r_4 hc_5) q_c_X12_in q_mX12_173 q_s_X12_in q_n_X12 (by decide +kernel) ⟨by decide, by decide⟩ rfl hl.1 rfl (Nat.le_of_ble_eq_true rfl) (kX12_best (i := 14) rfl) (fun H locs hM => ?_)
      refine x_if_ne (a' := wr r_4) hx hb rfl (tgt := 30) (kX12_best (i := 15) rfl) (by decide) (fun c_6 => ?_) (fun c_6 => ?_)
      · have h := it_f c_6 h
        refine x_iconst hx hb (kX12_best (i := 18) rfl) ?_
        refine x_istore_n (lv' := [(3, vi 0), (0, .ref (Θ.2.2.2 0)), (1, vi a0), (2, vi a1)]) hx hb (kX12_best (i := 19) rfl) rfl hl (by decide) rfl (fun ls hl => ?_)
        refine wX12_best_L32  C fuel a0 a1 0 g H locs ls h ?_ hM (lv_sub hl [1, 2, 3, 0] rfl)
        · intro z_13 z_14 g_15 H locs ls h hM hl
          refine lv_aload_n hx hb (kX12_best (i := 39) rfl) rfl (lv_at hl 0 rfl) ?_
          refine gX12_hours C hM q_fX12_368 (kX12_best (i := 40) rfl) ?_
          refine x_iconst hx hb (kX12_best (i := 41) rfl) ?_
          refine x_isub hx hb (kX12_best (i := 42) rfl) ?_
          obtain ⟨x_16, ex_16, h⟩ := bnd_some h
          refine x_top ex_16 ?_
          refine x_istore_n (lv' := [(3, vi x_16), (0, .ref (Θ.2.2.2 0)), (1, vi z_13), (2, vi z_14)]) hx hb (kX12_best (i := 43) rfl) rfl hl (by decide) rfl (fun ls hl => ?_)
          refine wX12_best_L74  C fuel z_13 z_14 x_16 g_15 H locs ls h ?_ hM (lv_sub hl [1, 2, 3, 0] rfl)
          · intro z_46 z_47 g_48 H locs ls h hM hl
            refine x_iload_n hx hb (kX12_best (i := 100) rfl) rfl (lv_at hl 2 rfl) ?_
            refine x_iconst hx hb (kX12_best (i := 101) rfl) ?_
            refine x_icmp_ne (a' := wr z_47) (b' := (-1)) hx hb rfl (by decide) (tgt := 194) (kX12_best (i := 102) rfl) (by decide) (fun c_49 => ?_) (fun c_49 => ?_)
            · have h := it_f c_49 h
              refine x_iload_n hx hb (kX12_best (i := 108) rfl) rfl (lv_at hl 1 rfl) ?_
              refine x_istore_n (lv' := [(3, vi z_46), (0, .ref (Θ.2.2.2 0)), (1, vi z_46), (2, vi z_47)]) hx hb (kX12_best (i := 109) rfl) rfl hl (by decide) rfl (fun ls hl => ?_)
              refine x_iconst hx hb (kX12_best (i := 110) rfl) ?_
              refine x_istore (lv' := [(4, vi 0), (3, vi z_46), (0, .ref (Θ.2.2.2 0)), (1, vi z_46), (2, vi z_47)]) hx hb (kX12_best (i := 111) rfl) hl (by decide) rfl (fun ls hl => ?_)
              refine x_iconst hx hb (kX12_best (i := 112) rfl) ?_
              refine x_istore (lv' := [(5, vi 0), (4, vi 0), (3, vi z_46), (0, .ref (Θ.2.2.2 0)), (1, vi z_46), (2, vi z_47)]) hx hb (kX12_best (i := 113) rfl) hl (by decide) rfl (fun ls hl => ?_)
              refine wX12_best_L202  C fuel z_47 z_46 0 0 g_48 H locs ls h  hM (lv_sub hl [3, 5, 2, 1, 0] rfl)
            · have h := it_t c_49 h
              refine lv_aload_n hx hb (kX12_best (i := 103) rfl) rfl (lv_at hl 0 rfl) ?_
              refine gX12_least C hM q_fX12_170 (kX12_best (i := 104) rfl) ?_
              refine x_iload_n hx hb (kX12_best (i := 105) rfl) rfl (lv_at hl 1 rfl) ?_
              obtain ⟨hi_70, h⟩ := gd_some h
              refine x_ialdM C hM 49 (by decide) (eM_49 Θ) hi_70 (kX12_best (i := 106) rfl) ?_
              obtain ⟨q1, q2⟩ := ret2 h
              rw [q1, q2]
              exact x_iret C hM (nar_i _) (kX12_best (i := 107) rfl)
      · have h := it_t c_6 h
        refine x_iconst hx hb (kX12_best (i := 16) rfl) ?_
        obtain ⟨q1, q2⟩ := ret2 h
        rw [q1, q2]
        exact x_iret C hM (nar_i _) (kX12_best (i := 17) rfl)
  exact key _ _ hM

/-! X12_record -/
def fX12_record (a0 : Int) (g : Mem) : Option (Int × Mem) :=
  bd (fX12_in a0 (-80) 80) fun r_1 =>
  if wr r_1 = 0 then (
    some ((-1), g)
  ) else (
    if wr (g 0 45) = 64 then (
      some ((-1), g)
    ) else (
      gd (g 0 45) 64 <|
      bnd (up g 34 (wr (g 0 45)).toNat a0) fun g_6 =>
      bnd (up g_6 0 45 ((g_6 0 45) + 1)) fun g_7 =>
      some (g_7 0 45, g_7)
    )
  )
set_option maxRecDepth 100000 in
set_option maxHeartbeats 4000000 in
theorem tX12_record (l : Launch) (Θ : Th) (a0 : Int) (h0 g : Mem) (rv : Int) (gR : Mem) (h : fX12_record a0 g = some (rv, gR)) : Ct l yX12_record cX12_record 2 (some .int) 1 22 Θ [.ref (Θ.2.2.2 0), vi a0] h0 g h0 gR (some (vi rv)) := by
  refine x_start (by decide) (Nat.le_of_ble_eq_true rfl) ?_
  intro p e s m args below meth c ls C hM hl
  have hl : lv_has ls 2 [(0, .ref (Θ.2.2.2 0)), (1, vi a0)] := hl
  obtain ⟨hx, hb, hml, hown, hts, -⟩ := id C
  unfold fX12_record at h
  have key : ∀ (H : Heap) (locs : List Loc), Hd Θ s h0 g H locs → W p l e { frames := 1, cells := 0, slots := 0, locals := 22 } s m args below meth c H locs 0 0 (MQ below (Qx Θ s.heap.size h0 gR (some (vi rv))) args s 0 0 (AA Θ s.heap.size)) (F0 m 0 ls []) := by
    intro H locs hM
    refine x_iload_n hx hb (kX12_record (i := 0) rfl) rfl (lv_at hl 1 rfl) ?_
    refine x_bipush hx hb (by decide) (kX12_record (i := 1) rfl) ?_
    refine x_bipush hx hb (by decide) (kX12_record (i := 2) rfl) ?_
    obtain ⟨r_1, hc_2, h⟩ := bd_some h
    refine x_callS (n := 3) (As := [vi a0, vi (-80), vi 80]) (rest := []) C hM (tX12_in l Θ a0 (-80) 80 h0 g r_1 hc_2) q_c_X12_in q_mX12_173 q_s_X12_in q_n_X12 (by decide +kernel) ⟨by decide, by decide⟩ rfl hl.1 rfl (Nat.le_of_ble_eq_true rfl) (kX12_record (i := 3) rfl) (fun H locs hM => ?_)
    refine x_if_eq (a' := wr r_1) hx hb rfl (tgt := 20) (kX12_record (i := 4) rfl) (by decide) (fun c_3 => ?_) (fun c_3 => ?_)
    · have h := it_t c_3 h
      refine x_iconst hx hb (kX12_record (i := 9) rfl) ?_
      obtain ⟨q1, q2⟩ := ret2 h
      rw [q1, q2]
      exact x_iret C hM (nar_i _) (kX12_record (i := 10) rfl)
    · have h := it_f c_3 h
      refine lv_aload_n hx hb (kX12_record (i := 5) rfl) rfl (lv_at hl 0 rfl) ?_
      refine gX12_numbers C hM q_fX12_377 (kX12_record (i := 6) rfl) ?_
      refine x_bipush hx hb (by decide) (kX12_record (i := 7) rfl) ?_
      refine x_icmp_ne (a' := wr (g 0 45)) (b' := 64) hx hb rfl (by decide) (tgt := 22) (kX12_record (i := 8) rfl) (by decide) (fun c_4 => ?_) (fun c_4 => ?_)
      · have h := it_f c_4 h
        refine lv_aload_n hx hb (kX12_record (i := 11) rfl) rfl (lv_at hl 0 rfl) ?_
        refine gX12_numberOf C hM q_fX12_123 (kX12_record (i := 12) rfl) ?_
        refine lv_aload_n hx hb (kX12_record (i := 13) rfl) rfl (lv_at hl 0 rfl) ?_
        refine gX12_numbers C hM q_fX12_377 (kX12_record (i := 14) rfl) ?_
        refine x_iload_n hx hb (kX12_record (i := 15) rfl) rfl (lv_at hl 1 rfl) ?_
        obtain ⟨hi_5, h⟩ := gd_some h
        obtain ⟨g_6, eg_6, h⟩ := bnd_some h
        refine x_iastM C hM 34 (by decide) (eM_34 Θ) hi_5 eg_6 (kX12_record (i := 16) rfl) (fun H locs hM => ?_)
        refine lv_aload_n hx hb (kX12_record (i := 17) rfl) rfl (lv_at hl 0 rfl) ?_
        refine lv_dup hx hb (kX12_record (i := 18) rfl) rfl ?_
        refine gX12_numbers C hM q_fX12_377 (kX12_record (i := 19) rfl) ?_
        refine x_iconst hx hb (kX12_record (i := 20) rfl) ?_
        refine x_iadd hx hb (kX12_record (i := 21) rfl) ?_
        obtain ⟨g_7, eg_7, h⟩ := bnd_some h
        refine pX12_numbers C hM q_fX12_377 eg_7 (kX12_record (i := 22) rfl) (fun H locs hM => ?_)
        refine lv_aload_n hx hb (kX12_record (i := 23) rfl) rfl (lv_at hl 0 rfl) ?_
        refine gX12_numbers C hM q_fX12_377 (kX12_record (i := 24) rfl) ?_
        obtain ⟨q1, q2⟩ := ret2 h
        rw [q1, q2]
        exact x_iret C hM (nar_i _) (kX12_record (i := 25) rfl)
      · have h := it_t c_4 h
        refine x_iconst hx hb (kX12_record (i := 9) rfl) ?_
        obtain ⟨q1, q2⟩ := ret2 h
        rw [q1, q2]
        exact x_iret C hM (nar_i _) (kX12_record (i := 10) rfl)
  exact key _ _ hM

/-! X12_clear -/
def fX12_clear (g : Mem) : Option (Int × Mem) :=
  bnd (g 0 45) fun x_1 =>
  bnd (up g 0 45 0) fun g_2 =>
  some (x_1, g_2)
set_option maxRecDepth 100000 in
set_option maxHeartbeats 4000000 in
theorem tX12_clear (l : Launch) (Θ : Th) (h0 g : Mem) (rv : Int) (gR : Mem) (h : fX12_clear g = some (rv, gR)) : Ct l yX12_clear cX12_clear 2 (some .int) 0 0 Θ [.ref (Θ.2.2.2 0)] h0 g h0 gR (some (vi rv)) := by
  refine x_start (by decide) (Nat.le_of_ble_eq_true rfl) ?_
  intro p e s m args below meth c ls C hM hl
  have hl : lv_has ls 2 [(0, .ref (Θ.2.2.2 0))] := hl
  obtain ⟨hx, hb, hml, hown, hts, -⟩ := id C
  unfold fX12_clear at h
  have key : ∀ (H : Heap) (locs : List Loc), Hd Θ s h0 g H locs → W p l e { frames := 0, cells := 0, slots := 0, locals := 0 } s m args below meth c H locs 0 0 (MQ below (Qx Θ s.heap.size h0 gR (some (vi rv))) args s 0 0 (AA Θ s.heap.size)) (F0 m 0 ls []) := by
    intro H locs hM
    refine lv_aload_n hx hb (kX12_clear (i := 0) rfl) rfl (lv_at hl 0 rfl) ?_
    refine gX12_numbers C hM q_fX12_377 (kX12_clear (i := 1) rfl) ?_
    obtain ⟨x_1, ex_1, h⟩ := bnd_some h
    refine x_top ex_1 ?_
    refine x_istore_n (lv' := [(1, vi x_1), (0, .ref (Θ.2.2.2 0))]) hx hb (kX12_clear (i := 2) rfl) rfl hl (by decide) rfl (fun ls hl => ?_)
    refine lv_aload_n hx hb (kX12_clear (i := 3) rfl) rfl (lv_at hl 1 rfl) ?_
    refine x_iconst hx hb (kX12_clear (i := 4) rfl) ?_
    obtain ⟨g_2, eg_2, h⟩ := bnd_some h
    refine pX12_numbers C hM q_fX12_377 eg_2 (kX12_clear (i := 5) rfl) (fun H locs hM => ?_)
    refine x_iload_n hx hb (kX12_clear (i := 6) rfl) rfl (lv_at hl 0 rfl) ?_
    obtain ⟨q1, q2⟩ := ret2 h
    rw [q1, q2]
    exact x_iret C hM (nar_i _) (kX12_clear (i := 7) rfl)
  exact key _ _ hM

/-! X12_goesWith -/
def fX12_goesWith_L4 : Nat → Int → Int → Int → Mem → Option (Int)
  | 0, _, _, _, _ => none
  | n + 1, y1, y2, y3, g =>
    if wr (g 0 45) ≤ wr y3 then (
      some y2
    ) else (
      gd y3 64 <|
      bd (fX12_sineOf y1 y3 g) fun r_3 =>
      bnd (y2 + ((g 34 (wr y3).toNat) * r_3)) fun x_5 =>
      bnd (y3 + 1) fun x_6 =>
      fX12_goesWith_L4 n y1 x_5 x_6 g
    )
def fX12_goesWith (a0 : Int) (g : Mem) : Option (Int) :=
  fX12_goesWith_L4 fuel a0 0 0 g
set_option maxRecDepth 100000 in
set_option maxHeartbeats 4000000 in
theorem wX12_goesWith_L4 {p : Program} {l : Launch} {e : Env} {s : State} {m : MethodId} {args : Array Value} {below : List Frame} {meth : Method} {c : Code} {Θ : Th} {h0 : Mem} {g : Mem} {rv : Int} (C : Cx p s m args meth c cX12_goesWith 4 RX12 (some .int) Θ) : ∀ (n : Nat) (y1 : Int) (y2 : Int) (y3 : Int) (H : Heap) (locs : List Loc) (ls : Array Slot), fX12_goesWith_L4 n y1 y2 y3 g = some rv → Hd Θ s h0 g H locs → lv_has ls 4 [(0, .ref (Θ.2.2.2 0)), (1, vi y1), (2, vi y2), (3, vi y3)] → W p l e { frames := 1, cells := 0, slots := 0, locals := 22 } s m args below meth c H locs 0 0 (MQ below (Qx Θ s.heap.size h0 g (some (vi rv))) args s 0 0 (AA Θ s.heap.size)) (F0 m 4 ls []) := by
  intro n
  obtain ⟨hx, hb, hml, hown, hts, -⟩ := id C
  induction n with
  | zero => intro y1 y2 y3 H locs ls h; cases h
  | succ n ih =>
    intro y1 y2 y3 H locs ls h  hM hl
    rw [fX12_goesWith_L4] at h
    refine x_iload_n hx hb (kX12_goesWith (i := 4) rfl) rfl (lv_at hl 3 rfl) ?_
    refine lv_aload_n hx hb (kX12_goesWith (i := 5) rfl) rfl (lv_at hl 0 rfl) ?_
    refine gX12_numbers C hM q_fX12_377 (kX12_goesWith (i := 6) rfl) ?_
    refine x_icmp_ge (a' := wr y3) (b' := wr (g 0 45)) hx hb rfl rfl (tgt := 34) (kX12_goesWith (i := 7) rfl) (by decide) (fun c_1 => ?_) (fun c_1 => ?_)
    · have h := it_t c_1 h
      refine x_iload_n hx hb (kX12_goesWith (i := 22) rfl) rfl (lv_at hl 2 rfl) ?_
      rw [← Option.some.inj h]
      exact x_iret C hM (nar_i _) (kX12_goesWith (i := 23) rfl)
    · have h := it_f c_1 h
      refine x_iload_n hx hb (kX12_goesWith (i := 8) rfl) rfl (lv_at hl 2 rfl) ?_
      refine lv_aload_n hx hb (kX12_goesWith (i := 9) rfl) rfl (lv_at hl 0 rfl) ?_
      refine gX12_numberOf C hM q_fX12_123 (kX12_goesWith (i := 10) rfl) ?_
      refine x_iload_n hx hb (kX12_goesWith (i := 11) rfl) rfl (lv_at hl 3 rfl) ?_
      obtain ⟨hi_2, h⟩ := gd_some h
      refine x_ialdM C hM 34 (by decide) (eM_34 Θ) hi_2 (kX12_goesWith (i := 12) rfl) ?_
      refine lv_aload_n hx hb (kX12_goesWith (i := 13) rfl) rfl (lv_at hl 0 rfl) ?_
      refine x_iload_n hx hb (kX12_goesWith (i := 14) rfl) rfl (lv_at hl 1 rfl) ?_
      refine x_iload_n hx hb (kX12_goesWith (i := 15) rfl) rfl (lv_at hl 3 rfl) ?_
      obtain ⟨r_3, hc_4, h⟩ := bd_some h
      refine x_callV (n := 2) (As := [vi y1, vi y3]) (rest := [vi (g 34 (wr y3).toNat), vi y2]) C hM (tX12_sineOf l Θ y1 y3 h0 g r_3 hc_4) (x_recvM C hM 0 (by decide) (eM_0 Θ _) rfl rfl) q_c_X12_sineOf q_mX12_229 q_i_X12_sineOf q_e_X12_sineOf q_n_X12 (by decide +kernel) ⟨by decide, by decide⟩ rfl hl.1 rfl (Nat.le_of_ble_eq_true rfl) (kX12_goesWith (i := 16) rfl) (fun H locs hM => ?_)
      refine x_imul hx hb (kX12_goesWith (i := 17) rfl) ?_
      refine x_iadd hx hb (kX12_goesWith (i := 18) rfl) ?_
      obtain ⟨x_5, ex_5, h⟩ := bnd_some h
      refine x_top ex_5 ?_
      refine x_istore_n (lv' := [(2, vi x_5), (0, .ref (Θ.2.2.2 0)), (1, vi y1), (3, vi y3)]) hx hb (kX12_goesWith (i := 19) rfl) rfl hl (by decide) rfl (fun ls hl => ?_)
      obtain ⟨x_6, ex_6, h⟩ := bnd_some h
      refine x_iinc (k := 3) (lv' := [(3, vi x_6), (2, vi x_5), (0, .ref (Θ.2.2.2 0)), (1, vi y1)]) hx hb (kX12_goesWith (i := 20) rfl) hl rfl ex_6 (by decide) rfl (fun ls hl => ?_)
      refine lv_goto (tgt := 4) hx hb (kX12_goesWith (i := 21) rfl) (by decide) ?_
      exact ih y1 x_5 x_6 H locs ls h hM (lv_sub hl [2, 3, 1, 0] rfl)
set_option maxRecDepth 100000 in
set_option maxHeartbeats 4000000 in
theorem tX12_goesWith (l : Launch) (Θ : Th) (a0 : Int) (h0 g : Mem) (rv : Int) (h : fX12_goesWith a0 g = some rv) : Ct l yX12_goesWith cX12_goesWith 4 (some .int) 1 22 Θ [.ref (Θ.2.2.2 0), vi a0] h0 g h0 g (some (vi rv)) := by
  refine x_start (by decide) (Nat.le_of_ble_eq_true rfl) ?_
  intro p e s m args below meth c ls C hM hl
  have hl : lv_has ls 4 [(0, .ref (Θ.2.2.2 0)), (1, vi a0)] := hl
  obtain ⟨hx, hb, hml, hown, hts, -⟩ := id C
  unfold fX12_goesWith at h
  have key : ∀ (H : Heap) (locs : List Loc), Hd Θ s h0 g H locs → W p l e { frames := 1, cells := 0, slots := 0, locals := 22 } s m args below meth c H locs 0 0 (MQ below (Qx Θ s.heap.size h0 g (some (vi rv))) args s 0 0 (AA Θ s.heap.size)) (F0 m 0 ls []) := by
    intro H locs hM
    refine x_iconst hx hb (kX12_goesWith (i := 0) rfl) ?_
    refine x_istore_n (lv' := [(2, vi 0), (0, .ref (Θ.2.2.2 0)), (1, vi a0)]) hx hb (kX12_goesWith (i := 1) rfl) rfl hl (by decide) rfl (fun ls hl => ?_)
    refine x_iconst hx hb (kX12_goesWith (i := 2) rfl) ?_
    refine x_istore_n (lv' := [(3, vi 0), (2, vi 0), (0, .ref (Θ.2.2.2 0)), (1, vi a0)]) hx hb (kX12_goesWith (i := 3) rfl) rfl hl (by decide) rfl (fun ls hl => ?_)
    refine wX12_goesWith_L4  C fuel a0 0 0 H locs ls h  hM (lv_sub hl [2, 3, 1, 0] rfl)
  exact key _ _ hM

/-! X12_goes -/
def fX12_goes (a0 : Int) (g : Mem) : Option (Int) :=
  bd (fX12_in a0 0 ((g 0 18) - 1)) fun r_1 =>
  if wr r_1 = 0 then (
    some (-2147483648)
  ) else (
    bd (fX12_goesWith a0 g) fun r_4 =>
    some r_4
  )
set_option maxRecDepth 100000 in
set_option maxHeartbeats 4000000 in
theorem tX12_goes (l : Launch) (Θ : Th) (a0 : Int) (h0 g : Mem) (rv : Int) (h : fX12_goes a0 g = some rv) : Ct l yX12_goes cX12_goes 2 (some .int) 2 45 Θ [.ref (Θ.2.2.2 0), vi a0] h0 g h0 g (some (vi rv)) := by
  refine x_start (by decide) (Nat.le_of_ble_eq_true rfl) ?_
  intro p e s m args below meth c ls C hM hl
  have hl : lv_has ls 2 [(0, .ref (Θ.2.2.2 0)), (1, vi a0)] := hl
  obtain ⟨hx, hb, hml, hown, hts, -⟩ := id C
  unfold fX12_goes at h
  have key : ∀ (H : Heap) (locs : List Loc), Hd Θ s h0 g H locs → W p l e { frames := 2, cells := 0, slots := 0, locals := 45 } s m args below meth c H locs 0 0 (MQ below (Qx Θ s.heap.size h0 g (some (vi rv))) args s 0 0 (AA Θ s.heap.size)) (F0 m 0 ls []) := by
    intro H locs hM
    refine x_iload_n hx hb (kX12_goes (i := 0) rfl) rfl (lv_at hl 1 rfl) ?_
    refine x_iconst hx hb (kX12_goes (i := 1) rfl) ?_
    refine lv_aload_n hx hb (kX12_goes (i := 2) rfl) rfl (lv_at hl 0 rfl) ?_
    refine gX12_waves C hM q_fX12_226 (kX12_goes (i := 3) rfl) ?_
    refine x_iconst hx hb (kX12_goes (i := 4) rfl) ?_
    refine x_isub hx hb (kX12_goes (i := 5) rfl) ?_
    obtain ⟨r_1, hc_2, h⟩ := bd_some h
    refine x_callS (n := 3) (As := [vi a0, vi 0, vi ((g 0 18) - 1)]) (rest := []) C hM (tX12_in l Θ a0 0 ((g 0 18) - 1) h0 g r_1 hc_2) q_c_X12_in q_mX12_173 q_s_X12_in q_n_X12 (by decide +kernel) ⟨by decide, by decide⟩ rfl hl.1 rfl (Nat.le_of_ble_eq_true rfl) (kX12_goes (i := 6) rfl) (fun H locs hM => ?_)
    refine x_if_eq (a' := wr r_1) hx hb rfl (tgt := 22) (kX12_goes (i := 7) rfl) (by decide) (fun c_3 => ?_) (fun c_3 => ?_)
    · have h := it_t c_3 h
      refine x_ldc (n := (-2147483648)) hx hb hown (hts _ q_kX12_205) (kX12_goes (i := 12) rfl) ?_
      rw [← Option.some.inj h]
      exact x_iret C hM (nar_i _) (kX12_goes (i := 13) rfl)
    · have h := it_f c_3 h
      refine lv_aload_n hx hb (kX12_goes (i := 8) rfl) rfl (lv_at hl 0 rfl) ?_
      refine x_iload_n hx hb (kX12_goes (i := 9) rfl) rfl (lv_at hl 1 rfl) ?_
      obtain ⟨r_4, hc_5, h⟩ := bd_some h
      refine x_callV (n := 1) (As := [vi a0]) (rest := []) C hM (tX12_goesWith l Θ a0 h0 g r_4 hc_5) (x_recvM C hM 0 (by decide) (eM_0 Θ _) rfl rfl) q_c_X12_goesWith q_mX12_380 q_i_X12_goesWith q_e_X12_goesWith q_n_X12 (by decide +kernel) ⟨by decide, by decide⟩ rfl hl.1 rfl (Nat.le_of_ble_eq_true rfl) (kX12_goes (i := 10) rfl) (fun H locs hM => ?_)
      refine lv_goto (tgt := 24) hx hb (kX12_goes (i := 11) rfl) (by decide) ?_
      rw [← Option.some.inj h]
      exact x_iret C hM (nar_i _) (kX12_goes (i := 13) rfl)
  exact key _ _ hM

/-! X12_far -/
def fX12_far (a0 : Int) : Option (Int) :=
  if 0 ≤ wr a0 then (
    some a0
  ) else (
    some (-a0)
  )
set_option maxRecDepth 100000 in
set_option maxHeartbeats 4000000 in
theorem tX12_far (l : Launch) (Θ : Th) (a0 : Int) (h0 g0 : Mem) (rv : Int) (h : fX12_far a0 = some rv) : Ct l yX12_far cX12_far 1 (some .int) 0 0 Θ [vi a0] h0 g0 h0 g0 (some (vi rv)) := by
  refine x_start (by decide) (Nat.le_of_ble_eq_true rfl) ?_
  intro p e s m args below meth c ls C hM hl
  have hl : lv_has ls 1 [(0, vi a0)] := hl
  obtain ⟨hx, hb, hml, hown, hts, -⟩ := id C
  unfold fX12_far at h
  have key : ∀ (H : Heap) (locs : List Loc), Hd Θ s h0 g0 H locs → W p l e { frames := 0, cells := 0, slots := 0, locals := 0 } s m args below meth c H locs 0 0 (MQ below (Qx Θ s.heap.size h0 g0 (some (vi rv))) args s 0 0 (AA Θ s.heap.size)) (F0 m 0 ls []) := by
    intro H locs hM
    refine x_iload_n hx hb (kX12_far (i := 0) rfl) rfl (lv_at hl 0 rfl) ?_
    refine x_if_ge (a' := wr a0) hx hb rfl (tgt := 9) (kX12_far (i := 1) rfl) (by decide) (fun c_1 => ?_) (fun c_1 => ?_)
    · have h := it_t c_1 h
      refine x_iload_n hx hb (kX12_far (i := 5) rfl) rfl (lv_at hl 0 rfl) ?_
      rw [← Option.some.inj h]
      exact x_iret C hM (nar_i _) (kX12_far (i := 6) rfl)
    · have h := it_f c_1 h
      refine x_iload_n hx hb (kX12_far (i := 2) rfl) rfl (lv_at hl 0 rfl) ?_
      refine x_ineg hx hb (kX12_far (i := 3) rfl) ?_
      refine lv_goto (tgt := 10) hx hb (kX12_far (i := 4) rfl) (by decide) ?_
      rw [← Option.some.inj h]
      exact x_iret C hM (nar_i _) (kX12_far (i := 6) rfl)
  exact key _ _ hM

/-! X12_read -/
def fX12_read_L77 : Nat → Int → Int → Int → Mem → Option (Int)
  | 0, _, _, _, _ => none
  | n + 1, y1, y2, y3, g =>
    if wr (g 0 45) ≤ wr y3 then (
      some y2
    ) else (
      gd y3 64 <|
      bnd (g 34 (wr y3).toNat) fun x_7 =>
      jn (fun (p_8 : Int) =>
        bnd (y3 + 1) fun x_9 =>
        fX12_read_L77 n y1 p_8 x_9 g
      ) fun J164 =>
      if wr y1 = 1 then (
        jn (fun (v_19 : Int) =>
          bnd (y2 + v_19) fun x_20 =>
          J164 x_20
        ) fun J124 =>
        jn (fun (_ : Unit) =>
          J124 0
        ) fun J123 =>
        if wr y3 ≤ 0 then (
          J123 ()
        ) else (
          if wr x_7 < 0 then (
            J123 ()
          ) else (
            gd (y3 - 1) 64 <|
            if 0 ≤ wr (g 34 (wr (y3 - 1)).toNat) then (
              J123 ()
            ) else (
              J124 1
            )
          )
        )
      ) else (
        if wr y1 = 2 then (
          bnd (y2 + (x_7 * x_7)) fun x_18 =>
          J164 x_18
        ) else (
          bd (fX12_far x_7) fun r_12 =>
          jn (fun (v_14 : Int) =>
            J164 v_14
          ) fun J163 =>
          if wr r_12 ≤ wr y2 then (
            J163 y2
          ) else (
            bd (fX12_far x_7) fun r_16 =>
            J163 r_16
          )
        )
      )
    )
def fX12_read_L20 : Nat → Int → Int → Mem → (Int → Option (Int)) → Option (Int)
  | 0, _, _, _, _ => none
  | n + 1, y2, y3, g, K55 =>
    if wr (g 0 18) ≤ wr y3 then (
      K55 y2
    ) else (
      bd (fX12_goesWith y3 g) fun r_26 =>
      bd (fX12_far r_26) fun r_28 =>
      bd (fX12_goesWith y2 g) fun r_30 =>
      bd (fX12_far r_30) fun r_32 =>
      jn (fun (p_34 : Int) =>
        bnd (y3 + 1) fun x_35 =>
        fX12_read_L20 n p_34 x_35 g K55
      ) fun J49 =>
      if wr r_28 ≤ wr r_32 then (
        J49 y2
      ) else (
        J49 y3
      )
    )
def fX12_read (a0 : Int) (g : Mem) : Option (Int) :=
  bd (fX12_in a0 0 3) fun r_1 =>
  if wr r_1 = 0 then (
    some (-2147483648)
  ) else (
    if wr a0 = 0 then (
      fX12_read_L20 fuel 0 1 g
      (fun (z_37 : Int) =>
        if wr (g 0 18) = 0 then (
          some (-1)
        ) else (
          if wr (g 0 45) = 0 then (
            some (-1)
          ) else (
            some z_37
          )
        )
      )
    ) else (
      fX12_read_L77 fuel a0 0 0 g
    )
  )
set_option maxRecDepth 100000 in
set_option maxHeartbeats 4000000 in
theorem wX12_read_L77 {p : Program} {l : Launch} {e : Env} {s : State} {m : MethodId} {args : Array Value} {below : List Frame} {meth : Method} {c : Code} {Θ : Th} {h0 : Mem} {g : Mem} {rv : Int} (C : Cx p s m args meth c cX12_read 5 RX12 (some .int) Θ) : ∀ (n : Nat) (y1 : Int) (y2 : Int) (y3 : Int) (H : Heap) (locs : List Loc) (ls : Array Slot), fX12_read_L77 n y1 y2 y3 g = some rv → Hd Θ s h0 g H locs → lv_has ls 5 [(0, .ref (Θ.2.2.2 0)), (1, vi y1), (2, vi y2), (3, vi y3)] → W p l e { frames := 2, cells := 0, slots := 0, locals := 45 } s m args below meth c H locs 0 0 (MQ below (Qx Θ s.heap.size h0 g (some (vi rv))) args s 0 0 (AA Θ s.heap.size)) (F0 m 77 ls []) := by
  intro n
  obtain ⟨hx, hb, hml, hown, hts, -⟩ := id C
  induction n with
  | zero => intro y1 y2 y3 H locs ls h; cases h
  | succ n ih =>
    intro y1 y2 y3 H locs ls h  hM hl
    rw [fX12_read_L77] at h
    refine x_iload_n hx hb (kX12_read (i := 42) rfl) rfl (lv_at hl 3 rfl) ?_
    refine lv_aload_n hx hb (kX12_read (i := 43) rfl) rfl (lv_at hl 0 rfl) ?_
    refine gX12_numbers C hM q_fX12_377 (kX12_read (i := 44) rfl) ?_
    refine x_icmp_ge (a' := wr y3) (b' := wr (g 0 45)) hx hb rfl rfl (tgt := 170) (kX12_read (i := 45) rfl) (by decide) (fun c_5 => ?_) (fun c_5 => ?_)
    · have h := it_t c_5 h
      refine x_iload_n hx hb (kX12_read (i := 93) rfl) rfl (lv_at hl 2 rfl) ?_
      rw [← Option.some.inj h]
      exact x_iret C hM (nar_i _) (kX12_read (i := 94) rfl)
    · have h := it_f c_5 h
      refine lv_aload_n hx hb (kX12_read (i := 46) rfl) rfl (lv_at hl 0 rfl) ?_
      refine gX12_numberOf C hM q_fX12_123 (kX12_read (i := 47) rfl) ?_
      refine x_iload_n hx hb (kX12_read (i := 48) rfl) rfl (lv_at hl 3 rfl) ?_
      obtain ⟨hi_6, h⟩ := gd_some h
      refine x_ialdM C hM 34 (by decide) (eM_34 Θ) hi_6 (kX12_read (i := 49) rfl) ?_
      obtain ⟨x_7, ex_7, h⟩ := bnd_some h
      refine x_top ex_7 ?_
      refine x_istore (lv' := [(4, vi x_7), (0, .ref (Θ.2.2.2 0)), (1, vi y1), (2, vi y2), (3, vi y3)]) hx hb (kX12_read (i := 50) rfl) hl (by decide) rfl (fun ls hl => ?_)
      refine x_iload_n hx hb (kX12_read (i := 51) rfl) rfl (lv_at hl 2 rfl) ?_
      refine x_iconst hx hb (kX12_read (i := 52) rfl) ?_
      refine jn_go h (fun J164 : Int → Option (Int) => ∀ (p_8 : Int) (H : Heap) (locs : List Loc) (ls : Array Slot), J164 p_8 = some rv → Hd Θ s h0 g H locs → lv_has ls 5 [(0, .ref (Θ.2.2.2 0)), (1, vi y1), (2, vi p_8), (3, vi y3)] → W p l e { frames := 2, cells := 0, slots := 0, locals := 45 } s m args below meth c H locs 0 0 (MQ below (Qx Θ s.heap.size h0 g (some (vi rv))) args s 0 0 (AA Θ s.heap.size)) (F0 m 164 ls [])) ?_ ?_
      · intro p_8 H locs ls h hM hl
        obtain ⟨x_9, ex_9, h⟩ := bnd_some h
        refine x_iinc (k := 3) (lv' := [(3, vi x_9), (0, .ref (Θ.2.2.2 0)), (1, vi y1), (2, vi p_8)]) hx hb (kX12_read (i := 91) rfl) hl rfl ex_9 (by decide) rfl (fun ls hl => ?_)
        refine lv_goto (tgt := 77) hx hb (kX12_read (i := 92) rfl) (by decide) ?_
        exact ih y1 p_8 x_9 H locs ls h hM (lv_sub hl [1, 2, 3, 0] rfl)
      intro J164 hJ164 h
      refine x_icmp_ne (a' := wr y1) (b' := 1) hx hb rfl (by decide) (tgt := 129) (kX12_read (i := 53) rfl) (by decide) (fun c_10 => ?_) (fun c_10 => ?_)
      · have h := it_f c_10 h
        refine x_iload_n hx hb (kX12_read (i := 72) rfl) rfl (lv_at hl 2 rfl) ?_
        refine x_iconst hx hb (kX12_read (i := 73) rfl) ?_
        refine x_icmp_ne (a' := wr y1) (b' := 2) hx hb rfl (by decide) (tgt := 145) (kX12_read (i := 74) rfl) (by decide) (fun c_11 => ?_) (fun c_11 => ?_)
        · have h := it_f c_11 h
          refine x_iload hx hb (kX12_read (i := 82) rfl) (lv_at hl 0 rfl) ?_
          obtain ⟨r_12, hc_13, h⟩ := bd_some h
          refine x_callS (n := 1) (As := [vi x_7]) (rest := []) C hM (tX12_far l Θ x_7 h0 g r_12 hc_13) q_c_X12_far q_mX12_383 q_s_X12_far q_n_X12 (by decide +kernel) ⟨by decide, by decide⟩ rfl hl.1 rfl (Nat.le_of_ble_eq_true rfl) (kX12_read (i := 83) rfl) (fun H locs hM => ?_)
          refine x_iload_n hx hb (kX12_read (i := 84) rfl) rfl (lv_at hl 3 rfl) ?_
          refine jn_go h (fun J163 : Int → Option (Int) => ∀ (v_14 : Int) (H : Heap) (locs : List Loc) (ls : Array Slot), J163 v_14 = some rv → Hd Θ s h0 g H locs → lv_has ls 5 [(0, .ref (Θ.2.2.2 0)), (1, vi y1), (3, vi y3)] → W p l e { frames := 2, cells := 0, slots := 0, locals := 45 } s m args below meth c H locs 0 0 (MQ below (Qx Θ s.heap.size h0 g (some (vi rv))) args s 0 0 (AA Θ s.heap.size)) (F0 m 163 ls [vi v_14])) ?_ ?_
          · intro v_14 H locs ls h hM hl
            refine x_istore_n (lv' := [(2, vi v_14), (0, .ref (Θ.2.2.2 0)), (1, vi y1), (3, vi y3)]) hx hb (kX12_read (i := 90) rfl) rfl hl (by decide) rfl (fun ls hl => ?_)
            exact hJ164 v_14 H locs ls h hM (lv_sub hl [1, 2, 0, 3] rfl)
          intro J163 hJ163 h
          refine x_icmp_le (a' := wr r_12) (b' := wr y2) hx hb rfl rfl (tgt := 162) (kX12_read (i := 85) rfl) (by decide) (fun c_15 => ?_) (fun c_15 => ?_)
          · have h := it_t c_15 h
            refine x_iload_n hx hb (kX12_read (i := 89) rfl) rfl (lv_at hl 3 rfl) ?_
            exact hJ163 y2 H locs ls h hM (lv_sub hl [1, 2, 4] rfl)
          · have h := it_f c_15 h
            refine x_iload hx hb (kX12_read (i := 86) rfl) (lv_at hl 0 rfl) ?_
            obtain ⟨r_16, hc_17, h⟩ := bd_some h
            refine x_callS (n := 1) (As := [vi x_7]) (rest := []) C hM (tX12_far l Θ x_7 h0 g r_16 hc_17) q_c_X12_far q_mX12_383 q_s_X12_far q_n_X12 (by decide +kernel) ⟨by decide, by decide⟩ rfl hl.1 rfl (Nat.le_of_ble_eq_true rfl) (kX12_read (i := 87) rfl) (fun H locs hM => ?_)
            refine lv_goto (tgt := 163) hx hb (kX12_read (i := 88) rfl) (by decide) ?_
            exact hJ163 r_16 H locs ls h hM (lv_sub hl [1, 2, 4] rfl)
        · have h := it_t c_11 h
          refine x_iload_n hx hb (kX12_read (i := 75) rfl) rfl (lv_at hl 3 rfl) ?_
          refine x_iload hx hb (kX12_read (i := 76) rfl) (lv_at hl 0 rfl) ?_
          refine x_iload hx hb (kX12_read (i := 77) rfl) (lv_at hl 0 rfl) ?_
          refine x_imul hx hb (kX12_read (i := 78) rfl) ?_
          refine x_iadd hx hb (kX12_read (i := 79) rfl) ?_
          obtain ⟨x_18, ex_18, h⟩ := bnd_some h
          refine x_top ex_18 ?_
          refine x_istore_n (lv' := [(2, vi x_18), (4, vi x_7), (0, .ref (Θ.2.2.2 0)), (1, vi y1), (3, vi y3)]) hx hb (kX12_read (i := 80) rfl) rfl hl (by decide) rfl (fun ls hl => ?_)
          refine lv_goto (tgt := 164) hx hb (kX12_read (i := 81) rfl) (by decide) ?_
          exact hJ164 x_18 H locs ls h hM (lv_sub hl [2, 3, 0, 4] rfl)
      · have h := it_t c_10 h
        refine x_iload_n hx hb (kX12_read (i := 54) rfl) rfl (lv_at hl 3 rfl) ?_
        refine x_iload_n hx hb (kX12_read (i := 55) rfl) rfl (lv_at hl 4 rfl) ?_
        refine jn_go h (fun J124 : Int → Option (Int) => ∀ (v_19 : Int) (H : Heap) (locs : List Loc) (ls : Array Slot), J124 v_19 = some rv → Hd Θ s h0 g H locs → lv_has ls 5 [(0, .ref (Θ.2.2.2 0)), (1, vi y1), (3, vi y3)] → W p l e { frames := 2, cells := 0, slots := 0, locals := 45 } s m args below meth c H locs 0 0 (MQ below (Qx Θ s.heap.size h0 g (some (vi rv))) args s 0 0 (AA Θ s.heap.size)) (F0 m 124 ls [vi v_19, vi y2])) ?_ ?_
        · intro v_19 H locs ls h hM hl
          refine x_iadd hx hb (kX12_read (i := 69) rfl) ?_
          obtain ⟨x_20, ex_20, h⟩ := bnd_some h
          refine x_top ex_20 ?_
          refine x_istore_n (lv' := [(2, vi x_20), (0, .ref (Θ.2.2.2 0)), (1, vi y1), (3, vi y3)]) hx hb (kX12_read (i := 70) rfl) rfl hl (by decide) rfl (fun ls hl => ?_)
          refine lv_goto (tgt := 164) hx hb (kX12_read (i := 71) rfl) (by decide) ?_
          exact hJ164 x_20 H locs ls h hM (lv_sub hl [1, 2, 0, 3] rfl)
        intro J124 hJ124 h
        refine jn_go h (fun J123 : Unit → Option (Int) => ∀ (H : Heap) (locs : List Loc) (ls : Array Slot), J123 () = some rv → Hd Θ s h0 g H locs → lv_has ls 5 [(0, .ref (Θ.2.2.2 0)), (1, vi y1), (3, vi y3)] → W p l e { frames := 2, cells := 0, slots := 0, locals := 45 } s m args below meth c H locs 0 0 (MQ below (Qx Θ s.heap.size h0 g (some (vi rv))) args s 0 0 (AA Θ s.heap.size)) (F0 m 123 ls [vi y2])) ?_ ?_
        · intro  H locs ls h hM hl
          refine x_iconst hx hb (kX12_read (i := 68) rfl) ?_
          exact hJ124 0 H locs ls h hM (lv_sub hl [0, 1, 2] rfl)
        intro J123 hJ123 h
        refine x_if_le (a' := wr y3) hx hb rfl (tgt := 123) (kX12_read (i := 56) rfl) (by decide) (fun c_21 => ?_) (fun c_21 => ?_)
        · have h := it_t c_21 h
          exact hJ123 H locs ls h hM (lv_sub hl [1, 2, 4] rfl)
        · have h := it_f c_21 h
          refine x_iload hx hb (kX12_read (i := 57) rfl) (lv_at hl 0 rfl) ?_
          refine x_if_lt (a' := wr x_7) hx hb rfl (tgt := 123) (kX12_read (i := 58) rfl) (by decide) (fun c_22 => ?_) (fun c_22 => ?_)
          · have h := it_t c_22 h
            exact hJ123 H locs ls h hM (lv_sub hl [1, 2, 4] rfl)
          · have h := it_f c_22 h
            refine lv_aload_n hx hb (kX12_read (i := 59) rfl) rfl (lv_at hl 1 rfl) ?_
            refine gX12_numberOf C hM q_fX12_123 (kX12_read (i := 60) rfl) ?_
            refine x_iload_n hx hb (kX12_read (i := 61) rfl) rfl (lv_at hl 4 rfl) ?_
            refine x_iconst hx hb (kX12_read (i := 62) rfl) ?_
            refine x_isub hx hb (kX12_read (i := 63) rfl) ?_
            obtain ⟨hi_23, h⟩ := gd_some h
            refine x_ialdM C hM 34 (by decide) (eM_34 Θ) hi_23 (kX12_read (i := 64) rfl) ?_
            refine x_if_ge (a' := wr (g 34 (wr (y3 - 1)).toNat)) hx hb rfl (tgt := 123) (kX12_read (i := 65) rfl) (by decide) (fun c_24 => ?_) (fun c_24 => ?_)
            · have h := it_t c_24 h
              exact hJ123 H locs ls h hM (lv_sub hl [1, 2, 4] rfl)
            · have h := it_f c_24 h
              refine x_iconst hx hb (kX12_read (i := 66) rfl) ?_
              refine lv_goto (tgt := 124) hx hb (kX12_read (i := 67) rfl) (by decide) ?_
              exact hJ124 1 H locs ls h hM (lv_sub hl [1, 2, 4] rfl)
set_option maxRecDepth 100000 in
set_option maxHeartbeats 4000000 in
theorem wX12_read_L20 {p : Program} {l : Launch} {e : Env} {s : State} {m : MethodId} {args : Array Value} {below : List Frame} {meth : Method} {c : Code} {Θ : Th} {h0 : Mem} {g : Mem} {rv : Int} {K55 : Int → Option (Int)} (C : Cx p s m args meth c cX12_read 5 RX12 (some .int) Θ) : ∀ (n : Nat) (y2 : Int) (y3 : Int) (H : Heap) (locs : List Loc) (ls : Array Slot), fX12_read_L20 n y2 y3 g K55 = some rv → (∀ (z2 : Int) (H : Heap) (locs : List Loc) (ls : Array Slot), K55 z2 = some rv → Hd Θ s h0 g H locs → lv_has ls 5 [(0, .ref (Θ.2.2.2 0)), (2, vi z2)] → W p l e { frames := 2, cells := 0, slots := 0, locals := 45 } s m args below meth c H locs 0 0 (MQ below (Qx Θ s.heap.size h0 g (some (vi rv))) args s 0 0 (AA Θ s.heap.size)) (F0 m 55 ls [])) → Hd Θ s h0 g H locs → lv_has ls 5 [(0, .ref (Θ.2.2.2 0)), (2, vi y2), (3, vi y3)] → W p l e { frames := 2, cells := 0, slots := 0, locals := 45 } s m args below meth c H locs 0 0 (MQ below (Qx Θ s.heap.size h0 g (some (vi rv))) args s 0 0 (AA Θ s.heap.size)) (F0 m 20 ls []) := by
  intro n
  obtain ⟨hx, hb, hml, hown, hts, -⟩ := id C
  induction n with
  | zero => intro y2 y3 H locs ls h; cases h
  | succ n ih =>
    intro y2 y3 H locs ls h hK55 hM hl
    rw [fX12_read_L20] at h
    refine x_iload_n hx hb (kX12_read (i := 13) rfl) rfl (lv_at hl 2 rfl) ?_
    refine lv_aload_n hx hb (kX12_read (i := 14) rfl) rfl (lv_at hl 0 rfl) ?_
    refine gX12_waves C hM q_fX12_226 (kX12_read (i := 15) rfl) ?_
    refine x_icmp_ge (a' := wr y3) (b' := wr (g 0 18)) hx hb rfl rfl (tgt := 55) (kX12_read (i := 16) rfl) (by decide) (fun c_25 => ?_) (fun c_25 => ?_)
    · have h := it_t c_25 h
      exact hK55 y2 H locs ls h hM (lv_sub hl [0, 1] rfl)
    · have h := it_f c_25 h
      refine lv_aload_n hx hb (kX12_read (i := 17) rfl) rfl (lv_at hl 0 rfl) ?_
      refine x_iload_n hx hb (kX12_read (i := 18) rfl) rfl (lv_at hl 2 rfl) ?_
      obtain ⟨r_26, hc_27, h⟩ := bd_some h
      refine x_callV (n := 1) (As := [vi y3]) (rest := []) C hM (tX12_goesWith l Θ y3 h0 g r_26 hc_27) (x_recvM C hM 0 (by decide) (eM_0 Θ _) rfl rfl) q_c_X12_goesWith q_mX12_380 q_i_X12_goesWith q_e_X12_goesWith q_n_X12 (by decide +kernel) ⟨by decide, by decide⟩ rfl hl.1 rfl (Nat.le_of_ble_eq_true rfl) (kX12_read (i := 19) rfl) (fun H locs hM => ?_)
      obtain ⟨r_28, hc_29, h⟩ := bd_some h
      refine x_callS (n := 1) (As := [vi r_26]) (rest := []) C hM (tX12_far l Θ r_26 h0 g r_28 hc_29) q_c_X12_far q_mX12_383 q_s_X12_far q_n_X12 (by decide +kernel) ⟨by decide, by decide⟩ rfl hl.1 rfl (Nat.le_of_ble_eq_true rfl) (kX12_read (i := 20) rfl) (fun H locs hM => ?_)
      refine lv_aload_n hx hb (kX12_read (i := 21) rfl) rfl (lv_at hl 0 rfl) ?_
      refine x_iload_n hx hb (kX12_read (i := 22) rfl) rfl (lv_at hl 1 rfl) ?_
      obtain ⟨r_30, hc_31, h⟩ := bd_some h
      refine x_callV (n := 1) (As := [vi y2]) (rest := [vi r_28]) C hM (tX12_goesWith l Θ y2 h0 g r_30 hc_31) (x_recvM C hM 0 (by decide) (eM_0 Θ _) rfl rfl) q_c_X12_goesWith q_mX12_380 q_i_X12_goesWith q_e_X12_goesWith q_n_X12 (by decide +kernel) ⟨by decide, by decide⟩ rfl hl.1 rfl (Nat.le_of_ble_eq_true rfl) (kX12_read (i := 23) rfl) (fun H locs hM => ?_)
      obtain ⟨r_32, hc_33, h⟩ := bd_some h
      refine x_callS (n := 1) (As := [vi r_30]) (rest := [vi r_28]) C hM (tX12_far l Θ r_30 h0 g r_32 hc_33) q_c_X12_far q_mX12_383 q_s_X12_far q_n_X12 (by decide +kernel) ⟨by decide, by decide⟩ rfl hl.1 rfl (Nat.le_of_ble_eq_true rfl) (kX12_read (i := 24) rfl) (fun H locs hM => ?_)
      refine jn_go h (fun J49 : Int → Option (Int) => ∀ (p_34 : Int) (H : Heap) (locs : List Loc) (ls : Array Slot), J49 p_34 = some rv → Hd Θ s h0 g H locs → lv_has ls 5 [(0, .ref (Θ.2.2.2 0)), (2, vi p_34), (3, vi y3)] → W p l e { frames := 2, cells := 0, slots := 0, locals := 45 } s m args below meth c H locs 0 0 (MQ below (Qx Θ s.heap.size h0 g (some (vi rv))) args s 0 0 (AA Θ s.heap.size)) (F0 m 49 ls [])) ?_ ?_
      · intro p_34 H locs ls h hM hl
        obtain ⟨x_35, ex_35, h⟩ := bnd_some h
        refine x_iinc (k := 2) (lv' := [(3, vi x_35), (0, .ref (Θ.2.2.2 0)), (2, vi p_34)]) hx hb (kX12_read (i := 28) rfl) hl rfl ex_35 (by decide) rfl (fun ls hl => ?_)
        refine lv_goto (tgt := 20) hx hb (kX12_read (i := 29) rfl) (by decide) ?_
        exact ih p_34 x_35 H locs ls h hK55 hM (lv_sub hl [1, 2, 0] rfl)
      intro J49 hJ49 h
      refine x_icmp_le (a' := wr r_28) (b' := wr r_32) hx hb rfl rfl (tgt := 49) (kX12_read (i := 25) rfl) (by decide) (fun c_36 => ?_) (fun c_36 => ?_)
      · have h := it_t c_36 h
        exact hJ49 y2 H locs ls h hM (lv_sub hl [0, 1, 2] rfl)
      · have h := it_f c_36 h
        refine x_iload_n hx hb (kX12_read (i := 26) rfl) rfl (lv_at hl 2 rfl) ?_
        refine x_istore_n (lv' := [(2, vi y3), (0, .ref (Θ.2.2.2 0)), (3, vi y3)]) hx hb (kX12_read (i := 27) rfl) rfl hl (by decide) rfl (fun ls hl => ?_)
        exact hJ49 y3 H locs ls h hM (lv_sub hl [1, 0, 2] rfl)
set_option maxRecDepth 100000 in
set_option maxHeartbeats 4000000 in
theorem tX12_read (l : Launch) (Θ : Th) (a0 : Int) (h0 g : Mem) (rv : Int) (h : fX12_read a0 g = some rv) : Ct l yX12_read cX12_read 5 (some .int) 2 45 Θ [.ref (Θ.2.2.2 0), vi a0] h0 g h0 g (some (vi rv)) := by
  refine x_start (by decide) (Nat.le_of_ble_eq_true rfl) ?_
  intro p e s m args below meth c ls C hM hl
  have hl : lv_has ls 5 [(0, .ref (Θ.2.2.2 0)), (1, vi a0)] := hl
  obtain ⟨hx, hb, hml, hown, hts, -⟩ := id C
  unfold fX12_read at h
  have key : ∀ (H : Heap) (locs : List Loc), Hd Θ s h0 g H locs → W p l e { frames := 2, cells := 0, slots := 0, locals := 45 } s m args below meth c H locs 0 0 (MQ below (Qx Θ s.heap.size h0 g (some (vi rv))) args s 0 0 (AA Θ s.heap.size)) (F0 m 0 ls []) := by
    intro H locs hM
    refine x_iload_n hx hb (kX12_read (i := 0) rfl) rfl (lv_at hl 1 rfl) ?_
    refine x_iconst hx hb (kX12_read (i := 1) rfl) ?_
    refine x_iconst hx hb (kX12_read (i := 2) rfl) ?_
    obtain ⟨r_1, hc_2, h⟩ := bd_some h
    refine x_callS (n := 3) (As := [vi a0, vi 0, vi 3]) (rest := []) C hM (tX12_in l Θ a0 0 3 h0 g r_1 hc_2) q_c_X12_in q_mX12_173 q_s_X12_in q_n_X12 (by decide +kernel) ⟨by decide, by decide⟩ rfl hl.1 rfl (Nat.le_of_ble_eq_true rfl) (kX12_read (i := 3) rfl) (fun H locs hM => ?_)
    refine x_if_ne (a' := wr r_1) hx hb rfl (tgt := 12) (kX12_read (i := 4) rfl) (by decide) (fun c_3 => ?_) (fun c_3 => ?_)
    · have h := it_f c_3 h
      refine x_iconst hx hb (kX12_read (i := 7) rfl) ?_
      refine x_istore_n (lv' := [(2, vi 0), (0, .ref (Θ.2.2.2 0)), (1, vi a0)]) hx hb (kX12_read (i := 8) rfl) rfl hl (by decide) rfl (fun ls hl => ?_)
      refine x_iload_n hx hb (kX12_read (i := 9) rfl) rfl (lv_at hl 2 rfl) ?_
      refine x_if_ne (a' := wr a0) hx hb rfl (tgt := 75) (kX12_read (i := 10) rfl) (by decide) (fun c_4 => ?_) (fun c_4 => ?_)
      · have h := it_f c_4 h
        refine x_iconst hx hb (kX12_read (i := 40) rfl) ?_
        refine x_istore_n (lv' := [(3, vi 0), (2, vi 0), (0, .ref (Θ.2.2.2 0)), (1, vi a0)]) hx hb (kX12_read (i := 41) rfl) rfl hl (by decide) rfl (fun ls hl => ?_)
        refine wX12_read_L77  C fuel a0 0 0 H locs ls h  hM (lv_sub hl [2, 3, 1, 0] rfl)
      · have h := it_t c_4 h
        refine x_iconst hx hb (kX12_read (i := 11) rfl) ?_
        refine x_istore_n (lv' := [(3, vi 1), (2, vi 0), (0, .ref (Θ.2.2.2 0)), (1, vi a0)]) hx hb (kX12_read (i := 12) rfl) rfl hl (by decide) rfl (fun ls hl => ?_)
        refine wX12_read_L20  C fuel 0 1 H locs ls h ?_ hM (lv_sub hl [2, 1, 0] rfl)
        · intro z_37 H locs ls h hM hl
          refine lv_aload_n hx hb (kX12_read (i := 30) rfl) rfl (lv_at hl 0 rfl) ?_
          refine gX12_waves C hM q_fX12_226 (kX12_read (i := 31) rfl) ?_
          refine x_if_eq (a' := wr (g 0 18)) hx hb rfl (tgt := 69) (kX12_read (i := 32) rfl) (by decide) (fun c_39 => ?_) (fun c_39 => ?_)
          · have h := it_t c_39 h
            refine x_iconst hx hb (kX12_read (i := 36) rfl) ?_
            refine lv_goto (tgt := 74) hx hb (kX12_read (i := 37) rfl) (by decide) ?_
            rw [← Option.some.inj h]
            exact x_iret C hM (nar_i _) (kX12_read (i := 39) rfl)
          · have h := it_f c_39 h
            refine lv_aload_n hx hb (kX12_read (i := 33) rfl) rfl (lv_at hl 0 rfl) ?_
            refine gX12_numbers C hM q_fX12_377 (kX12_read (i := 34) rfl) ?_
            refine x_if_ne (a' := wr (g 0 45)) hx hb rfl (tgt := 73) (kX12_read (i := 35) rfl) (by decide) (fun c_40 => ?_) (fun c_40 => ?_)
            · have h := it_f c_40 h
              refine x_iload_n hx hb (kX12_read (i := 38) rfl) rfl (lv_at hl 1 rfl) ?_
              rw [← Option.some.inj h]
              exact x_iret C hM (nar_i _) (kX12_read (i := 39) rfl)
            · have h := it_t c_40 h
              refine x_iconst hx hb (kX12_read (i := 36) rfl) ?_
              refine lv_goto (tgt := 74) hx hb (kX12_read (i := 37) rfl) (by decide) ?_
              rw [← Option.some.inj h]
              exact x_iret C hM (nar_i _) (kX12_read (i := 39) rfl)
    · have h := it_t c_3 h
      refine x_ldc (n := (-2147483648)) hx hb hown (hts _ q_kX12_205) (kX12_read (i := 5) rfl) ?_
      rw [← Option.some.inj h]
      exact x_iret C hM (nar_i _) (kX12_read (i := 6) rfl)
  exact key _ _ hM

/-! X12_check -/
def fX12_check (a0 : Int) (a1 : Int) (a2 : Int) (g : Mem) : Option (Int) :=
  bd (fX12_in a0 0 ((g 0 26) - 1)) fun r_1 =>
  if wr r_1 = 0 then (
    some (-1)
  ) else (
    bd (fX12_in a1 0 2) fun r_4 =>
    if wr r_4 = 0 then (
      some (-1)
    ) else (
      gd a0 600 <|
      if wr (g 31 (wr a0).toNat) = 0 then (
        some (-1)
      ) else (
        jn (fun (v_9 : Int) =>
          jn (fun (v_10 : Int) =>
            jn (fun (v_11 : Int) =>
              jn (fun (v_12 : Int) =>
                gd a0 600 <|
                gc (¬ wr (g 30 (wr a0).toNat) = 0) <|
                bnd (v_12 + (wr (Int.tdiv (wr v_11) (wr (g 30 (wr a0).toNat))))) fun x_15 =>
                bd (fX12_bounded x_15 30) fun r_16 =>
                if wr v_10 = wr r_16 then (
                  jn (fun (v_19 : Int) =>
                    bd (fX12_bounded (v_19 + (wr v_10)) 80) fun r_20 =>
                    if wr v_9 = wr r_20 then (
                      some 0
                    ) else (
                      some 2
                    )
                  ) fun J168 =>
                  if wr a0 = 0 then (
                    J168 0
                  ) else (
                    gd (a0 - 1) 600 <|
                    J168 (wr (g 27 (wr (a0 - 1)).toNat))
                  )
                ) else (
                  some 1
                )
              ) fun J122 =>
              if wr a0 = 0 then (
                J122 0
              ) else (
                gd (a0 - 1) 600 <|
                J122 (wr (g 28 (wr (a0 - 1)).toNat))
              )
            ) fun J103 =>
            if wr a1 = 2 then (
              gd a0 600 <|
              J103 (iXor (g 29 (wr a0).toNat) a2)
            ) else (
              gd a0 600 <|
              J103 (g 29 (wr a0).toNat)
            )
          ) fun J79 =>
          if wr a1 = 1 then (
            gd a0 600 <|
            J79 (iXor (g 28 (wr a0).toNat) a2)
          ) else (
            gd a0 600 <|
            J79 (g 28 (wr a0).toNat)
          )
        ) fun J55 =>
        if wr a1 = 0 then (
          gd a0 600 <|
          J55 (iXor (g 27 (wr a0).toNat) a2)
        ) else (
          gd a0 600 <|
          J55 (g 27 (wr a0).toNat)
        )
      )
    )
  )
set_option maxRecDepth 100000 in
set_option maxHeartbeats 4000000 in
theorem tX12_check (l : Launch) (Θ : Th) (a0 : Int) (a1 : Int) (a2 : Int) (h0 g : Mem) (rv : Int) (h : fX12_check a0 a1 a2 g = some rv) : Ct l yX12_check cX12_check 9 (some .int) 1 22 Θ [.ref (Θ.2.2.2 0), vi a0, vi a1, vi a2] h0 g h0 g (some (vi rv)) := by
  refine x_start (by decide) (Nat.le_of_ble_eq_true rfl) ?_
  intro p e s m args below meth c ls C hM hl
  have hl : lv_has ls 9 [(0, .ref (Θ.2.2.2 0)), (1, vi a0), (2, vi a1), (3, vi a2)] := hl
  obtain ⟨hx, hb, hml, hown, hts, -⟩ := id C
  unfold fX12_check at h
  have key : ∀ (H : Heap) (locs : List Loc), Hd Θ s h0 g H locs → W p l e { frames := 1, cells := 0, slots := 0, locals := 22 } s m args below meth c H locs 0 0 (MQ below (Qx Θ s.heap.size h0 g (some (vi rv))) args s 0 0 (AA Θ s.heap.size)) (F0 m 0 ls []) := by
    intro H locs hM
    refine x_iload_n hx hb (kX12_check (i := 0) rfl) rfl (lv_at hl 1 rfl) ?_
    refine x_iconst hx hb (kX12_check (i := 1) rfl) ?_
    refine lv_aload_n hx hb (kX12_check (i := 2) rfl) rfl (lv_at hl 0 rfl) ?_
    refine gX12_now C hM q_fX12_254 (kX12_check (i := 3) rfl) ?_
    refine x_iconst hx hb (kX12_check (i := 4) rfl) ?_
    refine x_isub hx hb (kX12_check (i := 5) rfl) ?_
    obtain ⟨r_1, hc_2, h⟩ := bd_some h
    refine x_callS (n := 3) (As := [vi a0, vi 0, vi ((g 0 26) - 1)]) (rest := []) C hM (tX12_in l Θ a0 0 ((g 0 26) - 1) h0 g r_1 hc_2) q_c_X12_in q_mX12_173 q_s_X12_in q_n_X12 (by decide +kernel) ⟨by decide, by decide⟩ rfl hl.1 rfl (Nat.le_of_ble_eq_true rfl) (kX12_check (i := 6) rfl) (fun H locs hM => ?_)
    refine x_if_eq (a' := wr r_1) hx hb rfl (tgt := 32) (kX12_check (i := 7) rfl) (by decide) (fun c_3 => ?_) (fun c_3 => ?_)
    · have h := it_t c_3 h
      refine x_iconst hx hb (kX12_check (i := 18) rfl) ?_
      rw [← Option.some.inj h]
      exact x_iret C hM (nar_i _) (kX12_check (i := 19) rfl)
    · have h := it_f c_3 h
      refine x_iload_n hx hb (kX12_check (i := 8) rfl) rfl (lv_at hl 2 rfl) ?_
      refine x_iconst hx hb (kX12_check (i := 9) rfl) ?_
      refine x_iconst hx hb (kX12_check (i := 10) rfl) ?_
      obtain ⟨r_4, hc_5, h⟩ := bd_some h
      refine x_callS (n := 3) (As := [vi a1, vi 0, vi 2]) (rest := []) C hM (tX12_in l Θ a1 0 2 h0 g r_4 hc_5) q_c_X12_in q_mX12_173 q_s_X12_in q_n_X12 (by decide +kernel) ⟨by decide, by decide⟩ rfl hl.1 rfl (Nat.le_of_ble_eq_true rfl) (kX12_check (i := 11) rfl) (fun H locs hM => ?_)
      refine x_if_eq (a' := wr r_4) hx hb rfl (tgt := 32) (kX12_check (i := 12) rfl) (by decide) (fun c_6 => ?_) (fun c_6 => ?_)
      · have h := it_t c_6 h
        refine x_iconst hx hb (kX12_check (i := 18) rfl) ?_
        rw [← Option.some.inj h]
        exact x_iret C hM (nar_i _) (kX12_check (i := 19) rfl)
      · have h := it_f c_6 h
        refine lv_aload_n hx hb (kX12_check (i := 13) rfl) rfl (lv_at hl 0 rfl) ?_
        refine gX12_isWhole C hM q_fX12_111 (kX12_check (i := 14) rfl) ?_
        refine x_iload_n hx hb (kX12_check (i := 15) rfl) rfl (lv_at hl 1 rfl) ?_
        obtain ⟨hi_7, h⟩ := gd_some h
        refine x_zaldM C hM 31 (by decide) (eM_31 Θ) hi_7 (kX12_check (i := 16) rfl) ?_
        refine x_if_ne (a' := wr (g 31 (wr a0).toNat)) hx hb rfl (tgt := 34) (kX12_check (i := 17) rfl) (by decide) (fun c_8 => ?_) (fun c_8 => ?_)
        · have h := it_f c_8 h
          refine x_iload_n hx hb (kX12_check (i := 20) rfl) rfl (lv_at hl 2 rfl) ?_
          refine jn_go h (fun J55 : Int → Option (Int) => ∀ (v_9 : Int) (H : Heap) (locs : List Loc) (ls : Array Slot), J55 v_9 = some rv → Hd Θ s h0 g H locs → lv_has ls 9 [(0, .ref (Θ.2.2.2 0)), (1, vi a0), (2, vi a1), (3, vi a2)] → W p l e { frames := 1, cells := 0, slots := 0, locals := 22 } s m args below meth c H locs 0 0 (MQ below (Qx Θ s.heap.size h0 g (some (vi rv))) args s 0 0 (AA Θ s.heap.size)) (F0 m 55 ls [vi v_9])) ?_ ?_
          · intro v_9 H locs ls h hM hl
            refine x_istore (lv' := [(4, vi v_9), (0, .ref (Θ.2.2.2 0)), (1, vi a0), (2, vi a1), (3, vi a2)]) hx hb (kX12_check (i := 33) rfl) hl (by decide) rfl (fun ls hl => ?_)
            refine x_iload_n hx hb (kX12_check (i := 34) rfl) rfl (lv_at hl 3 rfl) ?_
            refine x_iconst hx hb (kX12_check (i := 35) rfl) ?_
            refine jn_go h (fun J79 : Int → Option (Int) => ∀ (v_10 : Int) (H : Heap) (locs : List Loc) (ls : Array Slot), J79 v_10 = some rv → Hd Θ s h0 g H locs → lv_has ls 9 [(0, .ref (Θ.2.2.2 0)), (1, vi a0), (2, vi a1), (3, vi a2), (4, vi v_9)] → W p l e { frames := 1, cells := 0, slots := 0, locals := 22 } s m args below meth c H locs 0 0 (MQ below (Qx Θ s.heap.size h0 g (some (vi rv))) args s 0 0 (AA Θ s.heap.size)) (F0 m 79 ls [vi v_10])) ?_ ?_
            · intro v_10 H locs ls h hM hl
              refine x_istore (lv' := [(5, vi v_10), (0, .ref (Θ.2.2.2 0)), (1, vi a0), (2, vi a1), (3, vi a2), (4, vi v_9)]) hx hb (kX12_check (i := 48) rfl) hl (by decide) rfl (fun ls hl => ?_)
              refine x_iload_n hx hb (kX12_check (i := 49) rfl) rfl (lv_at hl 3 rfl) ?_
              refine x_iconst hx hb (kX12_check (i := 50) rfl) ?_
              refine jn_go h (fun J103 : Int → Option (Int) => ∀ (v_11 : Int) (H : Heap) (locs : List Loc) (ls : Array Slot), J103 v_11 = some rv → Hd Θ s h0 g H locs → lv_has ls 9 [(0, .ref (Θ.2.2.2 0)), (1, vi a0), (4, vi v_9), (5, vi v_10)] → W p l e { frames := 1, cells := 0, slots := 0, locals := 22 } s m args below meth c H locs 0 0 (MQ below (Qx Θ s.heap.size h0 g (some (vi rv))) args s 0 0 (AA Θ s.heap.size)) (F0 m 103 ls [vi v_11])) ?_ ?_
              · intro v_11 H locs ls h hM hl
                refine x_istore (lv' := [(6, vi v_11), (0, .ref (Θ.2.2.2 0)), (1, vi a0), (4, vi v_9), (5, vi v_10)]) hx hb (kX12_check (i := 63) rfl) hl (by decide) rfl (fun ls hl => ?_)
                refine x_iload_n hx hb (kX12_check (i := 64) rfl) rfl (lv_at hl 2 rfl) ?_
                refine jn_go h (fun J122 : Int → Option (Int) => ∀ (v_12 : Int) (H : Heap) (locs : List Loc) (ls : Array Slot), J122 v_12 = some rv → Hd Θ s h0 g H locs → lv_has ls 9 [(0, .ref (Θ.2.2.2 0)), (1, vi a0), (4, vi v_9), (5, vi v_10), (6, vi v_11)] → W p l e { frames := 1, cells := 0, slots := 0, locals := 22 } s m args below meth c H locs 0 0 (MQ below (Qx Θ s.heap.size h0 g (some (vi rv))) args s 0 0 (AA Θ s.heap.size)) (F0 m 122 ls [vl v_12])) ?_ ?_
                · intro v_12 H locs ls h hM hl
                  refine x_iload hx hb (kX12_check (i := 75) rfl) (lv_at hl 4 rfl) ?_
                  refine lv_aload_n hx hb (kX12_check (i := 76) rfl) rfl (lv_at hl 0 rfl) ?_
                  refine gX12_keptInert C hM q_fX12_108 (kX12_check (i := 77) rfl) ?_
                  refine x_iload_n hx hb (kX12_check (i := 78) rfl) rfl (lv_at hl 1 rfl) ?_
                  obtain ⟨hi_13, h⟩ := gd_some h
                  refine x_ialdM C hM 30 (by decide) (eM_30 Θ) hi_13 (kX12_check (i := 79) rfl) ?_
                  obtain ⟨hz_14, h⟩ := gc_some h
                  refine x_idiv (a' := wr v_11) (b' := wr (g 30 (wr a0).toNat)) hx hb (kX12_check (i := 80) rfl) rfl rfl hz_14 ?_
                  refine x_i2l (a' := wr (Int.tdiv (wr v_11) (wr (g 30 (wr a0).toNat)))) hx hb rfl (kX12_check (i := 81) rfl) ?_
                  refine x_ladd hx hb (kX12_check (i := 82) rfl) ?_
                  obtain ⟨x_15, ex_15, h⟩ := bnd_some h
                  refine x_topl ex_15 ?_
                  refine x_lstore (lv' := [(7, vl x_15), (0, .ref (Θ.2.2.2 0)), (1, vi a0), (4, vi v_9), (5, vi v_10), (6, vi v_11)]) hx hb (kX12_check (i := 83) rfl) hl (by decide) rfl (fun ls hl => ?_)
                  refine x_iload hx hb (kX12_check (i := 84) rfl) (lv_at hl 4 rfl) ?_
                  refine x_lload hx hb (kX12_check (i := 85) rfl) (lv_at hl 0 rfl) ?_
                  refine x_bipush hx hb (by decide) (kX12_check (i := 86) rfl) ?_
                  obtain ⟨r_16, hc_17, h⟩ := bd_some h
                  refine x_callS (n := 2) (As := [vl x_15, vi 30]) (rest := [vi v_10]) C hM (tX12_bounded l Θ x_15 30 h0 g r_16 hc_17) q_c_X12_bounded q_mX12_250 q_s_X12_bounded q_n_X12 (by decide +kernel) ⟨by decide, by decide⟩ rfl hl.1 rfl (Nat.le_of_ble_eq_true rfl) (kX12_check (i := 87) rfl) (fun H locs hM => ?_)
                  refine x_icmp_eq (a' := wr v_10) (b' := wr r_16) hx hb rfl rfl (tgt := 149) (kX12_check (i := 88) rfl) (by decide) (fun c_18 => ?_) (fun c_18 => ?_)
                  · have h := it_t c_18 h
                    refine x_iload hx hb (kX12_check (i := 91) rfl) (lv_at hl 3 rfl) ?_
                    refine x_iload_n hx hb (kX12_check (i := 92) rfl) rfl (lv_at hl 2 rfl) ?_
                    refine jn_go h (fun J168 : Int → Option (Int) => ∀ (v_19 : Int) (H : Heap) (locs : List Loc) (ls : Array Slot), J168 v_19 = some rv → Hd Θ s h0 g H locs → lv_has ls 9 [(5, vi v_10)] → W p l e { frames := 1, cells := 0, slots := 0, locals := 22 } s m args below meth c H locs 0 0 (MQ below (Qx Θ s.heap.size h0 g (some (vi rv))) args s 0 0 (AA Θ s.heap.size)) (F0 m 168 ls [vl v_19, vi v_9])) ?_ ?_
                    · intro v_19 H locs ls h hM hl
                      refine x_iload hx hb (kX12_check (i := 103) rfl) (lv_at hl 0 rfl) ?_
                      refine x_i2l (a' := wr v_10) hx hb rfl (kX12_check (i := 104) rfl) ?_
                      refine x_ladd hx hb (kX12_check (i := 105) rfl) ?_
                      refine x_bipush hx hb (by decide) (kX12_check (i := 106) rfl) ?_
                      obtain ⟨r_20, hc_21, h⟩ := bd_some h
                      refine x_callS (n := 2) (As := [vl (v_19 + (wr v_10)), vi 80]) (rest := [vi v_9]) C hM (tX12_bounded l Θ (v_19 + (wr v_10)) 80 h0 g r_20 hc_21) q_c_X12_bounded q_mX12_250 q_s_X12_bounded q_n_X12 (by decide +kernel) ⟨by decide, by decide⟩ rfl hl.1 rfl (Nat.le_of_ble_eq_true rfl) (kX12_check (i := 107) rfl) (fun H locs hM => ?_)
                      refine x_icmp_ne (a' := wr v_9) (b' := wr r_20) hx hb rfl rfl (tgt := 184) (kX12_check (i := 108) rfl) (by decide) (fun c_22 => ?_) (fun c_22 => ?_)
                      · have h := it_f c_22 h
                        refine x_iconst hx hb (kX12_check (i := 111) rfl) ?_
                        rw [← Option.some.inj h]
                        exact x_iret C hM (nar_i _) (kX12_check (i := 112) rfl)
                      · have h := it_t c_22 h
                        refine x_iconst hx hb (kX12_check (i := 109) rfl) ?_
                        refine lv_goto (tgt := 185) hx hb (kX12_check (i := 110) rfl) (by decide) ?_
                        rw [← Option.some.inj h]
                        exact x_iret C hM (nar_i _) (kX12_check (i := 112) rfl)
                    intro J168 hJ168 h
                    refine x_if_ne (a' := wr a0) hx hb rfl (tgt := 159) (kX12_check (i := 93) rfl) (by decide) (fun c_23 => ?_) (fun c_23 => ?_)
                    · have h := it_f c_23 h
                      refine lv_aload_n hx hb (kX12_check (i := 96) rfl) rfl (lv_at hl 1 rfl) ?_
                      refine gX12_keptSlope C hM q_fX12_99 (kX12_check (i := 97) rfl) ?_
                      refine x_iload_n hx hb (kX12_check (i := 98) rfl) rfl (lv_at hl 2 rfl) ?_
                      refine x_iconst hx hb (kX12_check (i := 99) rfl) ?_
                      refine x_isub hx hb (kX12_check (i := 100) rfl) ?_
                      obtain ⟨hi_24, h⟩ := gd_some h
                      refine x_ialdM C hM 27 (by decide) (eM_27 Θ) hi_24 (kX12_check (i := 101) rfl) ?_
                      refine x_i2l (a' := wr (g 27 (wr (a0 - 1)).toNat)) hx hb rfl (kX12_check (i := 102) rfl) ?_
                      exact hJ168 (wr (g 27 (wr (a0 - 1)).toNat)) H locs ls h hM (lv_sub hl [4] rfl)
                    · have h := it_t c_23 h
                      refine x_lconst (z := 0) hx hb rfl (kX12_check (i := 94) rfl) ?_
                      refine lv_goto (tgt := 168) hx hb (kX12_check (i := 95) rfl) (by decide) ?_
                      exact hJ168 0 H locs ls h hM (lv_sub hl [4] rfl)
                  · have h := it_f c_18 h
                    refine x_iconst hx hb (kX12_check (i := 89) rfl) ?_
                    rw [← Option.some.inj h]
                    exact x_iret C hM (nar_i _) (kX12_check (i := 90) rfl)
                intro J122 hJ122 h
                refine x_if_ne (a' := wr a0) hx hb rfl (tgt := 113) (kX12_check (i := 65) rfl) (by decide) (fun c_25 => ?_) (fun c_25 => ?_)
                · have h := it_f c_25 h
                  refine lv_aload_n hx hb (kX12_check (i := 68) rfl) rfl (lv_at hl 1 rfl) ?_
                  refine gX12_keptSpeed C hM q_fX12_102 (kX12_check (i := 69) rfl) ?_
                  refine x_iload_n hx hb (kX12_check (i := 70) rfl) rfl (lv_at hl 2 rfl) ?_
                  refine x_iconst hx hb (kX12_check (i := 71) rfl) ?_
                  refine x_isub hx hb (kX12_check (i := 72) rfl) ?_
                  obtain ⟨hi_26, h⟩ := gd_some h
                  refine x_ialdM C hM 28 (by decide) (eM_28 Θ) hi_26 (kX12_check (i := 73) rfl) ?_
                  refine x_i2l (a' := wr (g 28 (wr (a0 - 1)).toNat)) hx hb rfl (kX12_check (i := 74) rfl) ?_
                  exact hJ122 (wr (g 28 (wr (a0 - 1)).toNat)) H locs ls h hM (lv_sub hl [1, 2, 3, 4, 0] rfl)
                · have h := it_t c_25 h
                  refine x_lconst (z := 0) hx hb rfl (kX12_check (i := 66) rfl) ?_
                  refine lv_goto (tgt := 122) hx hb (kX12_check (i := 67) rfl) (by decide) ?_
                  exact hJ122 0 H locs ls h hM (lv_sub hl [1, 2, 3, 4, 0] rfl)
              intro J103 hJ103 h
              refine x_icmp_ne (a' := wr a1) (b' := 2) hx hb rfl (by decide) (tgt := 97) (kX12_check (i := 51) rfl) (by decide) (fun c_27 => ?_) (fun c_27 => ?_)
              · have h := it_f c_27 h
                refine lv_aload_n hx hb (kX12_check (i := 59) rfl) rfl (lv_at hl 1 rfl) ?_
                refine gX12_keptForce C hM q_fX12_105 (kX12_check (i := 60) rfl) ?_
                refine x_iload_n hx hb (kX12_check (i := 61) rfl) rfl (lv_at hl 2 rfl) ?_
                obtain ⟨hi_28, h⟩ := gd_some h
                refine x_ialdM C hM 29 (by decide) (eM_29 Θ) hi_28 (kX12_check (i := 62) rfl) ?_
                exact hJ103 (g 29 (wr a0).toNat) H locs ls h hM (lv_sub hl [1, 2, 5, 0] rfl)
              · have h := it_t c_27 h
                refine lv_aload_n hx hb (kX12_check (i := 52) rfl) rfl (lv_at hl 1 rfl) ?_
                refine gX12_keptForce C hM q_fX12_105 (kX12_check (i := 53) rfl) ?_
                refine x_iload_n hx hb (kX12_check (i := 54) rfl) rfl (lv_at hl 2 rfl) ?_
                obtain ⟨hi_29, h⟩ := gd_some h
                refine x_ialdM C hM 29 (by decide) (eM_29 Θ) hi_29 (kX12_check (i := 55) rfl) ?_
                refine x_iload_n hx hb (kX12_check (i := 56) rfl) rfl (lv_at hl 4 rfl) ?_
                refine x_ixor hx hb (kX12_check (i := 57) rfl) ?_
                refine lv_goto (tgt := 103) hx hb (kX12_check (i := 58) rfl) (by decide) ?_
                exact hJ103 (iXor (g 29 (wr a0).toNat) a2) H locs ls h hM (lv_sub hl [1, 2, 5, 0] rfl)
            intro J79 hJ79 h
            refine x_icmp_ne (a' := wr a1) (b' := 1) hx hb rfl (by decide) (tgt := 73) (kX12_check (i := 36) rfl) (by decide) (fun c_30 => ?_) (fun c_30 => ?_)
            · have h := it_f c_30 h
              refine lv_aload_n hx hb (kX12_check (i := 44) rfl) rfl (lv_at hl 1 rfl) ?_
              refine gX12_keptSpeed C hM q_fX12_102 (kX12_check (i := 45) rfl) ?_
              refine x_iload_n hx hb (kX12_check (i := 46) rfl) rfl (lv_at hl 2 rfl) ?_
              obtain ⟨hi_31, h⟩ := gd_some h
              refine x_ialdM C hM 28 (by decide) (eM_28 Θ) hi_31 (kX12_check (i := 47) rfl) ?_
              exact hJ79 (g 28 (wr a0).toNat) H locs ls h hM (lv_sub hl [1, 2, 3, 4, 0] rfl)
            · have h := it_t c_30 h
              refine lv_aload_n hx hb (kX12_check (i := 37) rfl) rfl (lv_at hl 1 rfl) ?_
              refine gX12_keptSpeed C hM q_fX12_102 (kX12_check (i := 38) rfl) ?_
              refine x_iload_n hx hb (kX12_check (i := 39) rfl) rfl (lv_at hl 2 rfl) ?_
              obtain ⟨hi_32, h⟩ := gd_some h
              refine x_ialdM C hM 28 (by decide) (eM_28 Θ) hi_32 (kX12_check (i := 40) rfl) ?_
              refine x_iload_n hx hb (kX12_check (i := 41) rfl) rfl (lv_at hl 4 rfl) ?_
              refine x_ixor hx hb (kX12_check (i := 42) rfl) ?_
              refine lv_goto (tgt := 79) hx hb (kX12_check (i := 43) rfl) (by decide) ?_
              exact hJ79 (iXor (g 28 (wr a0).toNat) a2) H locs ls h hM (lv_sub hl [1, 2, 3, 4, 0] rfl)
          intro J55 hJ55 h
          refine x_if_ne (a' := wr a1) hx hb rfl (tgt := 49) (kX12_check (i := 21) rfl) (by decide) (fun c_33 => ?_) (fun c_33 => ?_)
          · have h := it_f c_33 h
            refine lv_aload_n hx hb (kX12_check (i := 29) rfl) rfl (lv_at hl 0 rfl) ?_
            refine gX12_keptSlope C hM q_fX12_99 (kX12_check (i := 30) rfl) ?_
            refine x_iload_n hx hb (kX12_check (i := 31) rfl) rfl (lv_at hl 1 rfl) ?_
            obtain ⟨hi_34, h⟩ := gd_some h
            refine x_ialdM C hM 27 (by decide) (eM_27 Θ) hi_34 (kX12_check (i := 32) rfl) ?_
            exact hJ55 (g 27 (wr a0).toNat) H locs ls h hM (lv_sub hl [0, 1, 2, 3] rfl)
          · have h := it_t c_33 h
            refine lv_aload_n hx hb (kX12_check (i := 22) rfl) rfl (lv_at hl 0 rfl) ?_
            refine gX12_keptSlope C hM q_fX12_99 (kX12_check (i := 23) rfl) ?_
            refine x_iload_n hx hb (kX12_check (i := 24) rfl) rfl (lv_at hl 1 rfl) ?_
            obtain ⟨hi_35, h⟩ := gd_some h
            refine x_ialdM C hM 27 (by decide) (eM_27 Θ) hi_35 (kX12_check (i := 25) rfl) ?_
            refine x_iload_n hx hb (kX12_check (i := 26) rfl) rfl (lv_at hl 3 rfl) ?_
            refine x_ixor hx hb (kX12_check (i := 27) rfl) ?_
            refine lv_goto (tgt := 55) hx hb (kX12_check (i := 28) rfl) (by decide) ?_
            exact hJ55 (iXor (g 27 (wr a0).toNat) a2) H locs ls h hM (lv_sub hl [0, 1, 2, 3] rfl)
        · have h := it_t c_8 h
          refine x_iconst hx hb (kX12_check (i := 18) rfl) ?_
          rw [← Option.some.inj h]
          exact x_iret C hM (nar_i _) (kX12_check (i := 19) rfl)
  exact key _ _ hM

/-! X12_count -/
def fX12_count (a0 : Int) (g : Mem) : Option (Int) :=
  if wr a0 = 0 then (
    some (g 0 26)
  ) else (
  if wr a0 = 1 then (
    some (g 0 1)
  ) else (
  if wr a0 = 2 then (
    some (g 0 4)
  ) else (
  if wr a0 = 3 then (
    some (g 0 10)
  ) else (
  if wr a0 = 4 then (
    some (g 0 18)
  ) else (
  if wr a0 = 5 then (
    some (g 0 15)
  ) else (
  if wr a0 = 6 then (
    some (g 0 48)
  ) else (
  if wr a0 = 7 then (
    gd 0 2 <|
    some (g 21 (wr 0).toNat)
  ) else (
  if wr a0 = 8 then (
    gd 0 2 <|
    some (g 22 (wr 0).toNat)
  ) else (
  if wr a0 = 9 then (
    gd 0 2 <|
    if wr (g 23 (wr 0).toNat) = 0 then (
      some 0
    ) else (
      some 1
    )
  ) else (
  if wr a0 = 10 then (
    some (g 0 41)
  ) else (
  if wr a0 = 11 then (
    some (g 0 45)
  ) else (
  if wr a0 = 12 then (
    bd (fX12_heavy g) fun r_18 =>
    some r_18
  ) else (
    some (-1)
  )))))))))))))
set_option maxRecDepth 100000 in
set_option maxHeartbeats 4000000 in
theorem tX12_count (l : Launch) (Θ : Th) (a0 : Int) (h0 g : Mem) (rv : Int) (h : fX12_count a0 g = some rv) : Ct l yX12_count cX12_count 2 (some .int) 1 22 Θ [.ref (Θ.2.2.2 0), vi a0] h0 g h0 g (some (vi rv)) := by
  refine x_start (by decide) (Nat.le_of_ble_eq_true rfl) ?_
  intro p e s m args below meth c ls C hM hl
  have hl : lv_has ls 2 [(0, .ref (Θ.2.2.2 0)), (1, vi a0)] := hl
  obtain ⟨hx, hb, hml, hown, hts, -⟩ := id C
  unfold fX12_count at h
  have key : ∀ (H : Heap) (locs : List Loc), Hd Θ s h0 g H locs → W p l e { frames := 1, cells := 0, slots := 0, locals := 22 } s m args below meth c H locs 0 0 (MQ below (Qx Θ s.heap.size h0 g (some (vi rv))) args s 0 0 (AA Θ s.heap.size)) (F0 m 0 ls []) := by
    intro H locs hM
    refine x_iload_n hx hb (kX12_count (i := 0) rfl) rfl (lv_at hl 1 rfl) ?_
    by_cases c_1 : wr a0 = 0
    · have h := it_t c_1 h
      refine x_tableIn (tgt := 68) 0 c_1 hx hb (kX12_count (i := 1) rfl) (by decide) (by decide) rfl (by decide) ?_
      refine lv_aload_n hx hb (kX12_count (i := 2) rfl) rfl (lv_at hl 0 rfl) ?_
      refine gX12_now C hM q_fX12_254 (kX12_count (i := 3) rfl) ?_
      rw [← Option.some.inj h]
      exact x_iret C hM (nar_i _) (kX12_count (i := 4) rfl)
    have h := it_f c_1 h
    by_cases c_2 : wr a0 = 1
    · have h := it_t c_2 h
      refine x_tableIn (tgt := 73) 1 c_2 hx hb (kX12_count (i := 1) rfl) (by decide) (by decide) rfl (by decide) ?_
      refine lv_aload_n hx hb (kX12_count (i := 5) rfl) rfl (lv_at hl 0 rfl) ?_
      refine gX12_slices C hM q_fX12_178 (kX12_count (i := 6) rfl) ?_
      rw [← Option.some.inj h]
      exact x_iret C hM (nar_i _) (kX12_count (i := 7) rfl)
    have h := it_f c_2 h
    by_cases c_3 : wr a0 = 2
    · have h := it_t c_3 h
      refine x_tableIn (tgt := 78) 2 c_3 hx hb (kX12_count (i := 1) rfl) (by decide) (by decide) rfl (by decide) ?_
      refine lv_aload_n hx hb (kX12_count (i := 8) rfl) rfl (lv_at hl 0 rfl) ?_
      refine gX12_weights C hM q_fX12_181 (kX12_count (i := 9) rfl) ?_
      rw [← Option.some.inj h]
      exact x_iret C hM (nar_i _) (kX12_count (i := 10) rfl)
    have h := it_f c_3 h
    by_cases c_4 : wr a0 = 3
    · have h := it_t c_4 h
      refine x_tableIn (tgt := 83) 3 c_4 hx hb (kX12_count (i := 1) rfl) (by decide) (by decide) rfl (by decide) ?_
      refine lv_aload_n hx hb (kX12_count (i := 11) rfl) rfl (lv_at hl 0 rfl) ?_
      refine gX12_tanks C hM q_fX12_188 (kX12_count (i := 12) rfl) ?_
      rw [← Option.some.inj h]
      exact x_iret C hM (nar_i _) (kX12_count (i := 13) rfl)
    have h := it_f c_4 h
    by_cases c_5 : wr a0 = 4
    · have h := it_t c_5 h
      refine x_tableIn (tgt := 88) 4 c_5 hx hb (kX12_count (i := 1) rfl) (by decide) (by decide) rfl (by decide) ?_
      refine lv_aload_n hx hb (kX12_count (i := 14) rfl) rfl (lv_at hl 0 rfl) ?_
      refine gX12_waves C hM q_fX12_226 (kX12_count (i := 15) rfl) ?_
      rw [← Option.some.inj h]
      exact x_iret C hM (nar_i _) (kX12_count (i := 16) rfl)
    have h := it_f c_5 h
    by_cases c_6 : wr a0 = 5
    · have h := it_t c_6 h
      refine x_tableIn (tgt := 93) 5 c_6 hx hb (kX12_count (i := 1) rfl) (by decide) (by decide) rfl (by decide) ?_
      refine lv_aload_n hx hb (kX12_count (i := 17) rfl) rfl (lv_at hl 0 rfl) ?_
      refine gX12_marks C hM q_fX12_191 (kX12_count (i := 18) rfl) ?_
      rw [← Option.some.inj h]
      exact x_iret C hM (nar_i _) (kX12_count (i := 19) rfl)
    have h := it_f c_6 h
    by_cases c_7 : wr a0 = 6
    · have h := it_t c_7 h
      refine x_tableIn (tgt := 98) 6 c_7 hx hb (kX12_count (i := 1) rfl) (by decide) (by decide) rfl (by decide) ?_
      refine lv_aload_n hx hb (kX12_count (i := 20) rfl) rfl (lv_at hl 0 rfl) ?_
      refine gX12_size C hM q_fX12_260 (kX12_count (i := 21) rfl) ?_
      rw [← Option.some.inj h]
      exact x_iret C hM (nar_i _) (kX12_count (i := 22) rfl)
    have h := it_f c_7 h
    by_cases c_8 : wr a0 = 7
    · have h := it_t c_8 h
      refine x_tableIn (tgt := 103) 7 c_8 hx hb (kX12_count (i := 1) rfl) (by decide) (by decide) rfl (by decide) ?_
      refine lv_aload_n hx hb (kX12_count (i := 23) rfl) rfl (lv_at hl 0 rfl) ?_
      refine gX12_sick C hM q_fX12_81 (kX12_count (i := 24) rfl) ?_
      refine x_iconst hx hb (kX12_count (i := 25) rfl) ?_
      obtain ⟨hi_9, h⟩ := gd_some h
      refine x_ialdM C hM 21 (by decide) (eM_21 Θ) hi_9 (kX12_count (i := 26) rfl) ?_
      rw [← Option.some.inj h]
      exact x_iret C hM (nar_i _) (kX12_count (i := 27) rfl)
    have h := it_f c_8 h
    by_cases c_10 : wr a0 = 8
    · have h := it_t c_10 h
      refine x_tableIn (tgt := 110) 8 c_10 hx hb (kX12_count (i := 1) rfl) (by decide) (by decide) rfl (by decide) ?_
      refine lv_aload_n hx hb (kX12_count (i := 28) rfl) rfl (lv_at hl 0 rfl) ?_
      refine gX12_worked C hM q_fX12_84 (kX12_count (i := 29) rfl) ?_
      refine x_iconst hx hb (kX12_count (i := 30) rfl) ?_
      obtain ⟨hi_11, h⟩ := gd_some h
      refine x_ialdM C hM 22 (by decide) (eM_22 Θ) hi_11 (kX12_count (i := 31) rfl) ?_
      rw [← Option.some.inj h]
      exact x_iret C hM (nar_i _) (kX12_count (i := 32) rfl)
    have h := it_f c_10 h
    by_cases c_12 : wr a0 = 9
    · have h := it_t c_12 h
      refine x_tableIn (tgt := 117) 9 c_12 hx hb (kX12_count (i := 1) rfl) (by decide) (by decide) rfl (by decide) ?_
      refine lv_aload_n hx hb (kX12_count (i := 33) rfl) rfl (lv_at hl 0 rfl) ?_
      refine gX12_isOver C hM q_fX12_87 (kX12_count (i := 34) rfl) ?_
      refine x_iconst hx hb (kX12_count (i := 35) rfl) ?_
      obtain ⟨hi_13, h⟩ := gd_some h
      refine x_zaldM C hM 23 (by decide) (eM_23 Θ) hi_13 (kX12_count (i := 36) rfl) ?_
      refine x_if_eq (a' := wr (g 23 (wr 0).toNat)) hx hb rfl (tgt := 130) (kX12_count (i := 37) rfl) (by decide) (fun c_14 => ?_) (fun c_14 => ?_)
      · have h := it_t c_14 h
        refine x_iconst hx hb (kX12_count (i := 40) rfl) ?_
        rw [← Option.some.inj h]
        exact x_iret C hM (nar_i _) (kX12_count (i := 41) rfl)
      · have h := it_f c_14 h
        refine x_iconst hx hb (kX12_count (i := 38) rfl) ?_
        refine lv_goto (tgt := 131) hx hb (kX12_count (i := 39) rfl) (by decide) ?_
        rw [← Option.some.inj h]
        exact x_iret C hM (nar_i _) (kX12_count (i := 41) rfl)
    have h := it_f c_12 h
    by_cases c_15 : wr a0 = 10
    · have h := it_t c_15 h
      refine x_tableIn (tgt := 132) 10 c_15 hx hb (kX12_count (i := 1) rfl) (by decide) (by decide) rfl (by decide) ?_
      refine lv_aload_n hx hb (kX12_count (i := 42) rfl) rfl (lv_at hl 0 rfl) ?_
      refine gX12_hours C hM q_fX12_368 (kX12_count (i := 43) rfl) ?_
      rw [← Option.some.inj h]
      exact x_iret C hM (nar_i _) (kX12_count (i := 44) rfl)
    have h := it_f c_15 h
    by_cases c_16 : wr a0 = 11
    · have h := it_t c_16 h
      refine x_tableIn (tgt := 137) 11 c_16 hx hb (kX12_count (i := 1) rfl) (by decide) (by decide) rfl (by decide) ?_
      refine lv_aload_n hx hb (kX12_count (i := 45) rfl) rfl (lv_at hl 0 rfl) ?_
      refine gX12_numbers C hM q_fX12_377 (kX12_count (i := 46) rfl) ?_
      rw [← Option.some.inj h]
      exact x_iret C hM (nar_i _) (kX12_count (i := 47) rfl)
    have h := it_f c_16 h
    by_cases c_17 : wr a0 = 12
    · have h := it_t c_17 h
      refine x_tableIn (tgt := 142) 12 c_17 hx hb (kX12_count (i := 1) rfl) (by decide) (by decide) rfl (by decide) ?_
      refine lv_aload_n hx hb (kX12_count (i := 48) rfl) rfl (lv_at hl 0 rfl) ?_
      obtain ⟨r_18, hc_19, h⟩ := bd_some h
      refine x_callV (n := 0) (As := []) (rest := []) C hM (tX12_heavy l Θ h0 g r_18 hc_19) (x_recvM C hM 0 (by decide) (eM_0 Θ _) rfl rfl) q_c_X12_heavy q_mX12_201 q_i_X12_heavy q_e_X12_heavy q_n_X12 (by decide +kernel) ⟨by decide, by decide⟩ rfl hl.1 rfl (Nat.le_of_ble_eq_true rfl) (kX12_count (i := 49) rfl) (fun H locs hM => ?_)
      rw [← Option.some.inj h]
      exact x_iret C hM (nar_i _) (kX12_count (i := 50) rfl)
    have h := it_f c_17 h
    refine x_tableOut (tgt := 147) hx hb (kX12_count (i := 1) rfl) (by omega) (by decide) ?_
    refine x_iconst hx hb (kX12_count (i := 51) rfl) ?_
    rw [← Option.some.inj h]
    exact x_iret C hM (nar_i _) (kX12_count (i := 52) rfl)
  exact key _ _ hM

/-! X12_place -/
def fX12_place (a0 : Int) (g : Mem) : Option (Int) :=
  bd (fX12_isWeight a0 g) fun r_1 =>
  if wr r_1 = 0 then (
    some (-2147483648)
  ) else (
    gd a0 24 <|
    some (g 18 (wr a0).toNat)
  )
set_option maxRecDepth 100000 in
set_option maxHeartbeats 4000000 in
theorem tX12_place (l : Launch) (Θ : Th) (a0 : Int) (h0 g : Mem) (rv : Int) (h : fX12_place a0 g = some rv) : Ct l yX12_place cX12_place 2 (some .int) 2 43 Θ [.ref (Θ.2.2.2 0), vi a0] h0 g h0 g (some (vi rv)) := by
  refine x_start (by decide) (Nat.le_of_ble_eq_true rfl) ?_
  intro p e s m args below meth c ls C hM hl
  have hl : lv_has ls 2 [(0, .ref (Θ.2.2.2 0)), (1, vi a0)] := hl
  obtain ⟨hx, hb, hml, hown, hts, -⟩ := id C
  unfold fX12_place at h
  have key : ∀ (H : Heap) (locs : List Loc), Hd Θ s h0 g H locs → W p l e { frames := 2, cells := 0, slots := 0, locals := 43 } s m args below meth c H locs 0 0 (MQ below (Qx Θ s.heap.size h0 g (some (vi rv))) args s 0 0 (AA Θ s.heap.size)) (F0 m 0 ls []) := by
    intro H locs hM
    refine lv_aload_n hx hb (kX12_place (i := 0) rfl) rfl (lv_at hl 0 rfl) ?_
    refine x_iload_n hx hb (kX12_place (i := 1) rfl) rfl (lv_at hl 1 rfl) ?_
    obtain ⟨r_1, hc_2, h⟩ := bd_some h
    refine x_callV (n := 1) (As := [vi a0]) (rest := []) C hM (tX12_isWeight l Θ a0 h0 g r_1 hc_2) (x_recvM C hM 0 (by decide) (eM_0 Θ _) rfl rfl) q_c_X12_isWeight q_mX12_184 q_i_X12_isWeight q_e_X12_isWeight q_n_X12 (by decide +kernel) ⟨by decide, by decide⟩ rfl hl.1 rfl (Nat.le_of_ble_eq_true rfl) (kX12_place (i := 2) rfl) (fun H locs hM => ?_)
    refine x_if_eq (a' := wr r_1) hx hb rfl (tgt := 17) (kX12_place (i := 3) rfl) (by decide) (fun c_3 => ?_) (fun c_3 => ?_)
    · have h := it_t c_3 h
      refine x_ldc (n := (-2147483648)) hx hb hown (hts _ q_kX12_205) (kX12_place (i := 9) rfl) ?_
      rw [← Option.some.inj h]
      exact x_iret C hM (nar_i _) (kX12_place (i := 10) rfl)
    · have h := it_f c_3 h
      refine lv_aload_n hx hb (kX12_place (i := 4) rfl) rfl (lv_at hl 0 rfl) ?_
      refine gX12_place C hM q_fX12_72 (kX12_place (i := 5) rfl) ?_
      refine x_iload_n hx hb (kX12_place (i := 6) rfl) rfl (lv_at hl 1 rfl) ?_
      obtain ⟨hi_4, h⟩ := gd_some h
      refine x_ialdM C hM 18 (by decide) (eM_18 Θ) hi_4 (kX12_place (i := 7) rfl) ?_
      refine lv_goto (tgt := 19) hx hb (kX12_place (i := 8) rfl) (by decide) ?_
      rw [← Option.some.inj h]
      exact x_iret C hM (nar_i _) (kX12_place (i := 10) rfl)
  exact key _ _ hM

/-! X12_wetted -/
def fX12_wetted (a0 : Int) (g : Mem) : Option (Int) :=
  bd (fX12_in a0 0 ((g 0 15) - 1)) fun r_1 =>
  if wr r_1 = 0 then (
    some (-1)
  ) else (
    gd a0 12 <|
    some (g 25 (wr a0).toNat)
  )
set_option maxRecDepth 100000 in
set_option maxHeartbeats 4000000 in
theorem tX12_wetted (l : Launch) (Θ : Th) (a0 : Int) (h0 g : Mem) (rv : Int) (h : fX12_wetted a0 g = some rv) : Ct l yX12_wetted cX12_wetted 2 (some .int) 1 22 Θ [.ref (Θ.2.2.2 0), vi a0] h0 g h0 g (some (vi rv)) := by
  refine x_start (by decide) (Nat.le_of_ble_eq_true rfl) ?_
  intro p e s m args below meth c ls C hM hl
  have hl : lv_has ls 2 [(0, .ref (Θ.2.2.2 0)), (1, vi a0)] := hl
  obtain ⟨hx, hb, hml, hown, hts, -⟩ := id C
  unfold fX12_wetted at h
  have key : ∀ (H : Heap) (locs : List Loc), Hd Θ s h0 g H locs → W p l e { frames := 1, cells := 0, slots := 0, locals := 22 } s m args below meth c H locs 0 0 (MQ below (Qx Θ s.heap.size h0 g (some (vi rv))) args s 0 0 (AA Θ s.heap.size)) (F0 m 0 ls []) := by
    intro H locs hM
    refine x_iload_n hx hb (kX12_wetted (i := 0) rfl) rfl (lv_at hl 1 rfl) ?_
    refine x_iconst hx hb (kX12_wetted (i := 1) rfl) ?_
    refine lv_aload_n hx hb (kX12_wetted (i := 2) rfl) rfl (lv_at hl 0 rfl) ?_
    refine gX12_marks C hM q_fX12_191 (kX12_wetted (i := 3) rfl) ?_
    refine x_iconst hx hb (kX12_wetted (i := 4) rfl) ?_
    refine x_isub hx hb (kX12_wetted (i := 5) rfl) ?_
    obtain ⟨r_1, hc_2, h⟩ := bd_some h
    refine x_callS (n := 3) (As := [vi a0, vi 0, vi ((g 0 15) - 1)]) (rest := []) C hM (tX12_in l Θ a0 0 ((g 0 15) - 1) h0 g r_1 hc_2) q_c_X12_in q_mX12_173 q_s_X12_in q_n_X12 (by decide +kernel) ⟨by decide, by decide⟩ rfl hl.1 rfl (Nat.le_of_ble_eq_true rfl) (kX12_wetted (i := 6) rfl) (fun H locs hM => ?_)
    refine x_if_eq (a' := wr r_1) hx hb rfl (tgt := 23) (kX12_wetted (i := 7) rfl) (by decide) (fun c_3 => ?_) (fun c_3 => ?_)
    · have h := it_t c_3 h
      refine x_iconst hx hb (kX12_wetted (i := 13) rfl) ?_
      rw [← Option.some.inj h]
      exact x_iret C hM (nar_i _) (kX12_wetted (i := 14) rfl)
    · have h := it_f c_3 h
      refine lv_aload_n hx hb (kX12_wetted (i := 8) rfl) rfl (lv_at hl 0 rfl) ?_
      refine gX12_wetted C hM q_fX12_93 (kX12_wetted (i := 9) rfl) ?_
      refine x_iload_n hx hb (kX12_wetted (i := 10) rfl) rfl (lv_at hl 1 rfl) ?_
      obtain ⟨hi_4, h⟩ := gd_some h
      refine x_ialdM C hM 25 (by decide) (eM_25 Θ) hi_4 (kX12_wetted (i := 11) rfl) ?_
      refine lv_goto (tgt := 24) hx hb (kX12_wetted (i := 12) rfl) (by decide) ?_
      rw [← Option.some.inj h]
      exact x_iret C hM (nar_i _) (kX12_wetted (i := 14) rfl)
  exact key _ _ hM
