/-! X11_bring -/
def fX11_bring (a0 : Int) (a1 : Int) : Option (Int) :=
  if wr (lCmp a0 (wr a1)) ≤ 0 then (
    if 0 ≤ wr (lCmp a0 (wr (-a1))) then (
      some a0
    ) else (
      some (-a1)
    )
  ) else (
    some a1
  )
set_option maxRecDepth 100000 in
set_option maxHeartbeats 4000000 in
theorem tX11_bring (l : Launch) (Θ : Th) (a0 : Int) (a1 : Int) (h0 g0 : Mem) (rv : Int) (h : fX11_bring a0 a1 = some rv) : Ct l yX11_bring cX11_bring 3 (some .int) 0 0 Θ [vl a0, vi a1] g0 h0 g0 h0 (some (vi rv)) := by
  refine x_start (by decide) (Nat.le_of_ble_eq_true rfl) ?_
  intro p e s m args below meth c ls C hM hl
  have hl : lv_has ls 3 [(0, vl a0), (2, vi a1)] := hl
  obtain ⟨hx, hb, hml, hown, hts, -⟩ := id C
  unfold fX11_bring at h
  have key : ∀ (H : Heap) (locs : List Loc), Hd Θ s g0 h0 H locs → W p l e { frames := 0, cells := 0, slots := 0, locals := 0 } s m args below meth c H locs 0 0 (MQ below (Qx Θ s.heap.size g0 h0 (some (vi rv))) args s 0 0 (AA Θ s.heap.size)) (F0 m 0 ls []) := by
    intro H locs hM
    refine x_lload_n hx hb (kX11_bring (i := 0) rfl) rfl (lv_at hl 0 rfl) ?_
    refine x_iload_n hx hb (kX11_bring (i := 1) rfl) rfl (lv_at hl 1 rfl) ?_
    refine x_i2l (a' := wr a1) hx hb rfl (kX11_bring (i := 2) rfl) ?_
    refine x_lcmp hx hb (kX11_bring (i := 3) rfl) ?_
    refine x_if_le (a' := wr (lCmp a0 (wr a1))) hx hb rfl (tgt := 9) (kX11_bring (i := 4) rfl) (by decide) (fun c_1 => ?_) (fun c_1 => ?_)
    · have h := it_t c_1 h
      refine x_lload_n hx hb (kX11_bring (i := 7) rfl) rfl (lv_at hl 0 rfl) ?_
      refine x_iload_n hx hb (kX11_bring (i := 8) rfl) rfl (lv_at hl 1 rfl) ?_
      refine x_ineg hx hb (kX11_bring (i := 9) rfl) ?_
      refine x_i2l (a' := wr (-a1)) hx hb rfl (kX11_bring (i := 10) rfl) ?_
      refine x_lcmp hx hb (kX11_bring (i := 11) rfl) ?_
      refine x_if_ge (a' := wr (lCmp a0 (wr (-a1)))) hx hb rfl (tgt := 22) (kX11_bring (i := 12) rfl) (by decide) (fun c_2 => ?_) (fun c_2 => ?_)
      · have h := it_t c_2 h
        refine x_lload_n hx hb (kX11_bring (i := 16) rfl) rfl (lv_at hl 0 rfl) ?_
        refine x_l2i hx hb (kX11_bring (i := 17) rfl) ?_
        rw [← Option.some.inj h]
        exact x_iret C hM (nar_i _) (kX11_bring (i := 18) rfl)
      · have h := it_f c_2 h
        refine x_iload_n hx hb (kX11_bring (i := 13) rfl) rfl (lv_at hl 1 rfl) ?_
        refine x_ineg hx hb (kX11_bring (i := 14) rfl) ?_
        refine lv_goto (tgt := 24) hx hb (kX11_bring (i := 15) rfl) (by decide) ?_
        rw [← Option.some.inj h]
        exact x_iret C hM (nar_i _) (kX11_bring (i := 18) rfl)
    · have h := it_f c_1 h
      refine x_iload_n hx hb (kX11_bring (i := 5) rfl) rfl (lv_at hl 1 rfl) ?_
      rw [← Option.some.inj h]
      exact x_iret C hM (nar_i _) (kX11_bring (i := 6) rfl)
  exact key _ _ hM

/-! X11_cut -/
def fX11_cut (a0 : Int) (a1 : Int) : Option (Int) :=
  if wr a1 = 0 then (
    some 0
  ) else (
    gc (¬ wr a1 = 0) <|
    some (Int.tdiv (wr a0) (wr a1))
  )
set_option maxRecDepth 100000 in
set_option maxHeartbeats 4000000 in
theorem tX11_cut (l : Launch) (Θ : Th) (a0 : Int) (a1 : Int) (h0 g0 : Mem) (rv : Int) (h : fX11_cut a0 a1 = some rv) : Ct l yX11_cut cX11_cut 2 (some .int) 0 0 Θ [vi a0, vi a1] g0 h0 g0 h0 (some (vi rv)) := by
  refine x_start (by decide) (Nat.le_of_ble_eq_true rfl) ?_
  intro p e s m args below meth c ls C hM hl
  have hl : lv_has ls 2 [(0, vi a0), (1, vi a1)] := hl
  obtain ⟨hx, hb, hml, hown, hts, -⟩ := id C
  unfold fX11_cut at h
  have key : ∀ (H : Heap) (locs : List Loc), Hd Θ s g0 h0 H locs → W p l e { frames := 0, cells := 0, slots := 0, locals := 0 } s m args below meth c H locs 0 0 (MQ below (Qx Θ s.heap.size g0 h0 (some (vi rv))) args s 0 0 (AA Θ s.heap.size)) (F0 m 0 ls []) := by
    intro H locs hM
    refine x_iload_n hx hb (kX11_cut (i := 0) rfl) rfl (lv_at hl 1 rfl) ?_
    refine x_if_ne (a' := wr a1) hx hb rfl (tgt := 8) (kX11_cut (i := 1) rfl) (by decide) (fun c_1 => ?_) (fun c_1 => ?_)
    · have h := it_f c_1 h
      refine x_iload_n hx hb (kX11_cut (i := 4) rfl) rfl (lv_at hl 0 rfl) ?_
      refine x_iload_n hx hb (kX11_cut (i := 5) rfl) rfl (lv_at hl 1 rfl) ?_
      obtain ⟨hz_2, h⟩ := gc_some h
      refine x_idiv (a' := wr a0) (b' := wr a1) hx hb (kX11_cut (i := 6) rfl) rfl rfl hz_2 ?_
      rw [← Option.some.inj h]
      exact x_iret C hM (nar_i _) (kX11_cut (i := 7) rfl)
    · have h := it_t c_1 h
      refine x_iconst hx hb (kX11_cut (i := 2) rfl) ?_
      refine lv_goto (tgt := 11) hx hb (kX11_cut (i := 3) rfl) (by decide) ?_
      rw [← Option.some.inj h]
      exact x_iret C hM (nar_i _) (kX11_cut (i := 7) rfl)
  exact key _ _ hM

/-! X11_within -/
def fX11_within (a0 : Int) (a1 : Int) (a2 : Int) : Option (Int) :=
  if wr a0 < wr a1 then (
    some 0
  ) else (
    if wr a2 < wr a0 then (
      some 0
    ) else (
      some 1
    )
  )
set_option maxRecDepth 100000 in
set_option maxHeartbeats 4000000 in
theorem tX11_within (l : Launch) (Θ : Th) (a0 : Int) (a1 : Int) (a2 : Int) (h0 g0 : Mem) (rv : Int) (h : fX11_within a0 a1 a2 = some rv) : Ct l yX11_within cX11_within 3 (some .boolean) 0 0 Θ [vi a0, vi a1, vi a2] g0 h0 g0 h0 (some (vi rv)) := by
  refine x_start (by decide) (Nat.le_of_ble_eq_true rfl) ?_
  intro p e s m args below meth c ls C hM hl
  have hl : lv_has ls 3 [(0, vi a0), (1, vi a1), (2, vi a2)] := hl
  obtain ⟨hx, hb, hml, hown, hts, -⟩ := id C
  unfold fX11_within at h
  have key : ∀ (H : Heap) (locs : List Loc), Hd Θ s g0 h0 H locs → W p l e { frames := 0, cells := 0, slots := 0, locals := 0 } s m args below meth c H locs 0 0 (MQ below (Qx Θ s.heap.size g0 h0 (some (vi rv))) args s 0 0 (AA Θ s.heap.size)) (F0 m 0 ls []) := by
    intro H locs hM
    refine x_iload_n hx hb (kX11_within (i := 0) rfl) rfl (lv_at hl 0 rfl) ?_
    refine x_iload_n hx hb (kX11_within (i := 1) rfl) rfl (lv_at hl 1 rfl) ?_
    refine x_icmp_lt (a' := wr a0) (b' := wr a1) hx hb rfl rfl (tgt := 14) (kX11_within (i := 2) rfl) (by decide) (fun c_1 => ?_) (fun c_1 => ?_)
    · have h := it_t c_1 h
      refine x_iconst hx hb (kX11_within (i := 8) rfl) ?_
      rw [← Option.some.inj h]
      exact x_iret C hM (nar_z (Or.inl rfl)) (kX11_within (i := 9) rfl)
    · have h := it_f c_1 h
      refine x_iload_n hx hb (kX11_within (i := 3) rfl) rfl (lv_at hl 0 rfl) ?_
      refine x_iload_n hx hb (kX11_within (i := 4) rfl) rfl (lv_at hl 2 rfl) ?_
      refine x_icmp_gt (a' := wr a0) (b' := wr a2) hx hb rfl rfl (tgt := 14) (kX11_within (i := 5) rfl) (by decide) (fun c_2 => ?_) (fun c_2 => ?_)
      · have h := it_t c_2 h
        refine x_iconst hx hb (kX11_within (i := 8) rfl) ?_
        rw [← Option.some.inj h]
        exact x_iret C hM (nar_z (Or.inl rfl)) (kX11_within (i := 9) rfl)
      · have h := it_f c_2 h
        refine x_iconst hx hb (kX11_within (i := 6) rfl) ?_
        refine lv_goto (tgt := 15) hx hb (kX11_within (i := 7) rfl) (by decide) ?_
        rw [← Option.some.inj h]
        exact x_iret C hM (nar_z (Or.inr rfl)) (kX11_within (i := 9) rfl)
  exact key _ _ hM

/-! X11_isPoint -/
def fX11_isPoint (a0 : Int) (a1 : Int) : Option (Int) :=
  bd (fX11_within a0 (-19) 19) fun r_1 =>
  if wr r_1 = 0 then (
    some 0
  ) else (
    bd (fX11_within a1 0 40) fun r_4 =>
    if wr r_4 = 0 then (
      some 0
    ) else (
      some 1
    )
  )
set_option maxRecDepth 100000 in
set_option maxHeartbeats 4000000 in
theorem tX11_isPoint (l : Launch) (Θ : Th) (a0 : Int) (a1 : Int) (h0 g0 : Mem) (rv : Int) (h : fX11_isPoint a0 a1 = some rv) : Ct l yX11_isPoint cX11_isPoint 2 (some .boolean) 1 22 Θ [vi a0, vi a1] g0 h0 g0 h0 (some (vi rv)) := by
  refine x_start (by decide) (Nat.le_of_ble_eq_true rfl) ?_
  intro p e s m args below meth c ls C hM hl
  have hl : lv_has ls 2 [(0, vi a0), (1, vi a1)] := hl
  obtain ⟨hx, hb, hml, hown, hts, -⟩ := id C
  unfold fX11_isPoint at h
  have key : ∀ (H : Heap) (locs : List Loc), Hd Θ s g0 h0 H locs → W p l e { frames := 1, cells := 0, slots := 0, locals := 22 } s m args below meth c H locs 0 0 (MQ below (Qx Θ s.heap.size g0 h0 (some (vi rv))) args s 0 0 (AA Θ s.heap.size)) (F0 m 0 ls []) := by
    intro H locs hM
    refine x_iload_n hx hb (kX11_isPoint (i := 0) rfl) rfl (lv_at hl 0 rfl) ?_
    refine x_bipush hx hb (by decide) (kX11_isPoint (i := 1) rfl) ?_
    refine x_bipush hx hb (by decide) (kX11_isPoint (i := 2) rfl) ?_
    obtain ⟨r_1, hc_2, h⟩ := bd_some h
    refine x_callS (n := 3) (As := [vi a0, vi (-19), vi 19]) (rest := []) C hM (tX11_within l Θ a0 (-19) 19 h0 g0 r_1 hc_2) q_c_X11_within q_mX11_109 q_s_X11_within q_n_X11 (by decide +kernel) ⟨by decide, by decide⟩ rfl hl.1 rfl (Nat.le_of_ble_eq_true rfl) (kX11_isPoint (i := 3) rfl) (fun H locs hM => ?_)
    refine x_if_eq (a' := wr r_1) hx hb rfl (tgt := 25) (kX11_isPoint (i := 4) rfl) (by decide) (fun c_3 => ?_) (fun c_3 => ?_)
    · have h := it_t c_3 h
      refine x_iconst hx hb (kX11_isPoint (i := 12) rfl) ?_
      rw [← Option.some.inj h]
      exact x_iret C hM (nar_z (Or.inl rfl)) (kX11_isPoint (i := 13) rfl)
    · have h := it_f c_3 h
      refine x_iload_n hx hb (kX11_isPoint (i := 5) rfl) rfl (lv_at hl 1 rfl) ?_
      refine x_iconst hx hb (kX11_isPoint (i := 6) rfl) ?_
      refine x_bipush hx hb (by decide) (kX11_isPoint (i := 7) rfl) ?_
      obtain ⟨r_4, hc_5, h⟩ := bd_some h
      refine x_callS (n := 3) (As := [vi a1, vi 0, vi 40]) (rest := []) C hM (tX11_within l Θ a1 0 40 h0 g0 r_4 hc_5) q_c_X11_within q_mX11_109 q_s_X11_within q_n_X11 (by decide +kernel) ⟨by decide, by decide⟩ rfl hl.1 rfl (Nat.le_of_ble_eq_true rfl) (kX11_isPoint (i := 8) rfl) (fun H locs hM => ?_)
      refine x_if_eq (a' := wr r_4) hx hb rfl (tgt := 25) (kX11_isPoint (i := 9) rfl) (by decide) (fun c_6 => ?_) (fun c_6 => ?_)
      · have h := it_t c_6 h
        refine x_iconst hx hb (kX11_isPoint (i := 12) rfl) ?_
        rw [← Option.some.inj h]
        exact x_iret C hM (nar_z (Or.inl rfl)) (kX11_isPoint (i := 13) rfl)
      · have h := it_f c_6 h
        refine x_iconst hx hb (kX11_isPoint (i := 10) rfl) ?_
        refine lv_goto (tgt := 26) hx hb (kX11_isPoint (i := 11) rfl) (by decide) ?_
        rw [← Option.some.inj h]
        exact x_iret C hM (nar_z (Or.inr rfl)) (kX11_isPoint (i := 13) rfl)
  exact key _ _ hM

/-! J9_floorDiv_7cf53 -/
def fJ9_floorDiv_7cf53 (a0 : Int) (a1 : Int) : Option (Int) :=
  gc (¬ wr a1 = 0) <|
  bnd (Int.tdiv (wr a0) (wr a1)) fun x_2 =>
  if 0 ≤ wr (iXor a0 a1) then (
    some x_2
  ) else (
    if wr (x_2 * a1) = wr a0 then (
      some x_2
    ) else (
      some (x_2 - 1)
    )
  )
set_option maxRecDepth 100000 in
set_option maxHeartbeats 4000000 in
theorem tJ9_floorDiv_7cf53 (l : Launch) (Θ : Th) (a0 : Int) (a1 : Int) (g0 h0 : Mem) (rv : Int) (h : fJ9_floorDiv_7cf53 a0 a1 = some rv) : Ct l yJ9_floorDiv_7cf53 cJ9_floorDiv_7cf53 3 (some .int) 0 0 Θ [vi a0, vi a1] g0 h0 g0 h0 (some (vi rv)) := by
  refine x_startF (by decide +kernel) (Nat.le_of_ble_eq_true rfl) ?_
  intro p e s m args below meth c ls C hM hl
  have hl : lv_has ls 3 [(0, vi a0), (1, vi a1)] := hl
  obtain ⟨hx, hb, hml, hown, hts, -⟩ := id C
  unfold fJ9_floorDiv_7cf53 at h
  have key : ∀ (H : Heap) (locs : List Loc), Hd Θ s g0 h0 H locs → W p l e { frames := 0, cells := 0, slots := 0, locals := 0 } s m args below meth c H locs 0 0 (MQ below (Qx Θ s.heap.size g0 h0 (some (vi rv))) args s 0 0 (AA Θ s.heap.size)) (F0 m 0 ls []) := by
    intro H locs hM
    refine x_iload_n hx hb (kJ9_floorDiv_7cf53 (i := 0) rfl) rfl (lv_at hl 0 rfl) ?_
    refine x_iload_n hx hb (kJ9_floorDiv_7cf53 (i := 1) rfl) rfl (lv_at hl 1 rfl) ?_
    obtain ⟨hz_1, h⟩ := gc_some h
    refine x_idiv (a' := wr a0) (b' := wr a1) hx hb (kJ9_floorDiv_7cf53 (i := 2) rfl) rfl rfl hz_1 ?_
    obtain ⟨x_2, ex_2, h⟩ := bnd_some h
    refine x_top ex_2 ?_
    refine x_istore_n (lv' := [(2, vi x_2), (0, vi a0), (1, vi a1)]) hx hb (kJ9_floorDiv_7cf53 (i := 3) rfl) rfl hl (by decide) rfl (fun ls hl => ?_)
    refine x_iload_n hx hb (kJ9_floorDiv_7cf53 (i := 4) rfl) rfl (lv_at hl 1 rfl) ?_
    refine x_iload_n hx hb (kJ9_floorDiv_7cf53 (i := 5) rfl) rfl (lv_at hl 2 rfl) ?_
    refine x_ixor hx hb (kJ9_floorDiv_7cf53 (i := 6) rfl) ?_
    refine x_if_ge (a' := wr (iXor a0 a1)) hx hb rfl (tgt := 21) (kJ9_floorDiv_7cf53 (i := 7) rfl) (by decide) (fun c_3 => ?_) (fun c_3 => ?_)
    · have h := it_t c_3 h
      refine x_iload_n hx hb (kJ9_floorDiv_7cf53 (i := 17) rfl) rfl (lv_at hl 0 rfl) ?_
      rw [← Option.some.inj h]
      exact x_iret C hM (nar_i _) (kJ9_floorDiv_7cf53 (i := 18) rfl)
    · have h := it_f c_3 h
      refine x_iload_n hx hb (kJ9_floorDiv_7cf53 (i := 8) rfl) rfl (lv_at hl 0 rfl) ?_
      refine x_iload_n hx hb (kJ9_floorDiv_7cf53 (i := 9) rfl) rfl (lv_at hl 2 rfl) ?_
      refine x_imul hx hb (kJ9_floorDiv_7cf53 (i := 10) rfl) ?_
      refine x_iload_n hx hb (kJ9_floorDiv_7cf53 (i := 11) rfl) rfl (lv_at hl 1 rfl) ?_
      refine x_icmp_eq (a' := wr (x_2 * a1)) (b' := wr a0) hx hb rfl rfl (tgt := 21) (kJ9_floorDiv_7cf53 (i := 12) rfl) (by decide) (fun c_4 => ?_) (fun c_4 => ?_)
      · have h := it_t c_4 h
        refine x_iload_n hx hb (kJ9_floorDiv_7cf53 (i := 17) rfl) rfl (lv_at hl 0 rfl) ?_
        rw [← Option.some.inj h]
        exact x_iret C hM (nar_i _) (kJ9_floorDiv_7cf53 (i := 18) rfl)
      · have h := it_f c_4 h
        refine x_iload_n hx hb (kJ9_floorDiv_7cf53 (i := 13) rfl) rfl (lv_at hl 0 rfl) ?_
        refine x_iconst hx hb (kJ9_floorDiv_7cf53 (i := 14) rfl) ?_
        refine x_isub hx hb (kJ9_floorDiv_7cf53 (i := 15) rfl) ?_
        rw [← Option.some.inj h]
        exact x_iret C hM (nar_i _) (kJ9_floorDiv_7cf53 (i := 16) rfl)
  exact key _ _ hM

/-! J9_floorDiv_f86c9 -/
def fJ9_floorDiv_f86c9 (a0 : Int) (a1 : Int) : Option (Int) :=
  gc (¬ wl a1 = 0) <|
  bnd (Int.tdiv (wl a0) (wl a1)) fun x_2 =>
  if 0 ≤ wr (lCmp (lXor a0 a1) 0) then (
    some x_2
  ) else (
    if wr (lCmp (x_2 * a1) a0) = 0 then (
      some x_2
    ) else (
      some (x_2 - 1)
    )
  )
set_option maxRecDepth 100000 in
set_option maxHeartbeats 4000000 in
theorem tJ9_floorDiv_f86c9 (l : Launch) (Θ : Th) (a0 : Int) (a1 : Int) (g0 h0 : Mem) (rv : Int) (h : fJ9_floorDiv_f86c9 a0 a1 = some rv) : Ct l yJ9_floorDiv_f86c9 cJ9_floorDiv_f86c9 6 (some .long) 0 0 Θ [vl a0, vl a1] g0 h0 g0 h0 (some (vl rv)) := by
  refine x_startF (by decide +kernel) (Nat.le_of_ble_eq_true rfl) ?_
  intro p e s m args below meth c ls C hM hl
  have hl : lv_has ls 6 [(0, vl a0), (2, vl a1)] := hl
  obtain ⟨hx, hb, hml, hown, hts, -⟩ := id C
  unfold fJ9_floorDiv_f86c9 at h
  have key : ∀ (H : Heap) (locs : List Loc), Hd Θ s g0 h0 H locs → W p l e { frames := 0, cells := 0, slots := 0, locals := 0 } s m args below meth c H locs 0 0 (MQ below (Qx Θ s.heap.size g0 h0 (some (vl rv))) args s 0 0 (AA Θ s.heap.size)) (F0 m 0 ls []) := by
    intro H locs hM
    refine x_lload_n hx hb (kJ9_floorDiv_f86c9 (i := 0) rfl) rfl (lv_at hl 0 rfl) ?_
    refine x_lload_n hx hb (kJ9_floorDiv_f86c9 (i := 1) rfl) rfl (lv_at hl 1 rfl) ?_
    obtain ⟨hz_1, h⟩ := gc_some h
    refine x_ldiv hx hb (kJ9_floorDiv_f86c9 (i := 2) rfl) hz_1 ?_
    obtain ⟨x_2, ex_2, h⟩ := bnd_some h
    refine x_topl ex_2 ?_
    refine x_lstore (lv' := [(4, vl x_2), (0, vl a0), (2, vl a1)]) hx hb (kJ9_floorDiv_f86c9 (i := 3) rfl) hl (by decide) rfl (fun ls hl => ?_)
    refine x_lload_n hx hb (kJ9_floorDiv_f86c9 (i := 4) rfl) rfl (lv_at hl 1 rfl) ?_
    refine x_lload_n hx hb (kJ9_floorDiv_f86c9 (i := 5) rfl) rfl (lv_at hl 2 rfl) ?_
    refine x_lxor hx hb (kJ9_floorDiv_f86c9 (i := 6) rfl) ?_
    refine x_lconst (z := 0) hx hb rfl (kJ9_floorDiv_f86c9 (i := 7) rfl) ?_
    refine x_lcmp hx hb (kJ9_floorDiv_f86c9 (i := 8) rfl) ?_
    refine x_if_ge (a' := wr (lCmp (lXor a0 a1) 0)) hx hb rfl (tgt := 27) (kJ9_floorDiv_f86c9 (i := 9) rfl) (by decide) (fun c_3 => ?_) (fun c_3 => ?_)
    · have h := it_t c_3 h
      refine x_lload hx hb (kJ9_floorDiv_f86c9 (i := 20) rfl) (lv_at hl 0 rfl) ?_
      rw [← Option.some.inj h]
      exact x_lret C hM (kJ9_floorDiv_f86c9 (i := 21) rfl)
    · have h := it_f c_3 h
      refine x_lload hx hb (kJ9_floorDiv_f86c9 (i := 10) rfl) (lv_at hl 0 rfl) ?_
      refine x_lload_n hx hb (kJ9_floorDiv_f86c9 (i := 11) rfl) rfl (lv_at hl 2 rfl) ?_
      refine x_lmul hx hb (kJ9_floorDiv_f86c9 (i := 12) rfl) ?_
      refine x_lload_n hx hb (kJ9_floorDiv_f86c9 (i := 13) rfl) rfl (lv_at hl 1 rfl) ?_
      refine x_lcmp hx hb (kJ9_floorDiv_f86c9 (i := 14) rfl) ?_
      refine x_if_eq (a' := wr (lCmp (x_2 * a1) a0)) hx hb rfl (tgt := 27) (kJ9_floorDiv_f86c9 (i := 15) rfl) (by decide) (fun c_4 => ?_) (fun c_4 => ?_)
      · have h := it_t c_4 h
        refine x_lload hx hb (kJ9_floorDiv_f86c9 (i := 20) rfl) (lv_at hl 0 rfl) ?_
        rw [← Option.some.inj h]
        exact x_lret C hM (kJ9_floorDiv_f86c9 (i := 21) rfl)
      · have h := it_f c_4 h
        refine x_lload hx hb (kJ9_floorDiv_f86c9 (i := 16) rfl) (lv_at hl 0 rfl) ?_
        refine x_lconst (z := 1) hx hb rfl (kJ9_floorDiv_f86c9 (i := 17) rfl) ?_
        refine x_lsub hx hb (kJ9_floorDiv_f86c9 (i := 18) rfl) ?_
        rw [← Option.some.inj h]
        exact x_lret C hM (kJ9_floorDiv_f86c9 (i := 19) rfl)
  exact key _ _ hM

/-! J6_bitCount_0f7a4 -/
def fJ6_bitCount_0f7a4 (a0 : Int) : Option (Int) :=
  bnd (a0 - (iAnd (iUshr a0 1) 1431655765)) fun x_1 =>
  bnd ((iAnd x_1 858993459) + (iAnd (iUshr x_1 2) 858993459)) fun x_2 =>
  bnd (iAnd (x_2 + (iUshr x_2 4)) 252645135) fun x_3 =>
  bnd (x_3 + (iUshr x_3 8)) fun x_4 =>
  bnd (x_4 + (iUshr x_4 16)) fun x_5 =>
  some (iAnd x_5 63)
set_option maxRecDepth 100000 in
set_option maxHeartbeats 4000000 in
theorem tJ6_bitCount_0f7a4 (l : Launch) (Θ : Th) (a0 : Int) (g0 h0 : Mem) (rv : Int) (h : fJ6_bitCount_0f7a4 a0 = some rv) : Ct l yJ6_bitCount_0f7a4 cJ6_bitCount_0f7a4 1 (some .int) 0 0 Θ [vi a0] g0 h0 g0 h0 (some (vi rv)) := by
  refine x_start (by decide) (Nat.le_of_ble_eq_true rfl) ?_
  intro p e s m args below meth c ls C hM hl
  have hl : lv_has ls 1 [(0, vi a0)] := hl
  obtain ⟨hx, hb, hml, hown, hts, -⟩ := id C
  unfold fJ6_bitCount_0f7a4 at h
  have key : ∀ (H : Heap) (locs : List Loc), Hd Θ s g0 h0 H locs → W p l e { frames := 0, cells := 0, slots := 0, locals := 0 } s m args below meth c H locs 0 0 (MQ below (Qx Θ s.heap.size g0 h0 (some (vi rv))) args s 0 0 (AA Θ s.heap.size)) (F0 m 0 ls []) := by
    intro H locs hM
    refine x_iload_n hx hb (kJ6_bitCount_0f7a4 (i := 0) rfl) rfl (lv_at hl 0 rfl) ?_
    refine x_iload_n hx hb (kJ6_bitCount_0f7a4 (i := 1) rfl) rfl (lv_at hl 0 rfl) ?_
    refine x_iconst hx hb (kJ6_bitCount_0f7a4 (i := 2) rfl) ?_
    refine x_iushr hx hb (kJ6_bitCount_0f7a4 (i := 3) rfl) ?_
    refine x_ldcw (n := 1431655765) hx hb hown (hts _ q_kJ6_265) (kJ6_bitCount_0f7a4 (i := 4) rfl) ?_
    refine x_iand hx hb (kJ6_bitCount_0f7a4 (i := 5) rfl) ?_
    refine x_isub hx hb (kJ6_bitCount_0f7a4 (i := 6) rfl) ?_
    obtain ⟨x_1, ex_1, h⟩ := bnd_some h
    refine x_top ex_1 ?_
    refine x_istore_n (lv' := [(0, vi x_1)]) hx hb (kJ6_bitCount_0f7a4 (i := 7) rfl) rfl hl (by decide) rfl (fun ls hl => ?_)
    refine x_iload_n hx hb (kJ6_bitCount_0f7a4 (i := 8) rfl) rfl (lv_at hl 0 rfl) ?_
    refine x_ldcw (n := 858993459) hx hb hown (hts _ q_kJ6_266) (kJ6_bitCount_0f7a4 (i := 9) rfl) ?_
    refine x_iand hx hb (kJ6_bitCount_0f7a4 (i := 10) rfl) ?_
    refine x_iload_n hx hb (kJ6_bitCount_0f7a4 (i := 11) rfl) rfl (lv_at hl 0 rfl) ?_
    refine x_iconst hx hb (kJ6_bitCount_0f7a4 (i := 12) rfl) ?_
    refine x_iushr hx hb (kJ6_bitCount_0f7a4 (i := 13) rfl) ?_
    refine x_ldcw (n := 858993459) hx hb hown (hts _ q_kJ6_266) (kJ6_bitCount_0f7a4 (i := 14) rfl) ?_
    refine x_iand hx hb (kJ6_bitCount_0f7a4 (i := 15) rfl) ?_
    refine x_iadd hx hb (kJ6_bitCount_0f7a4 (i := 16) rfl) ?_
    obtain ⟨x_2, ex_2, h⟩ := bnd_some h
    refine x_top ex_2 ?_
    refine x_istore_n (lv' := [(0, vi x_2)]) hx hb (kJ6_bitCount_0f7a4 (i := 17) rfl) rfl hl (by decide) rfl (fun ls hl => ?_)
    refine x_iload_n hx hb (kJ6_bitCount_0f7a4 (i := 18) rfl) rfl (lv_at hl 0 rfl) ?_
    refine x_iload_n hx hb (kJ6_bitCount_0f7a4 (i := 19) rfl) rfl (lv_at hl 0 rfl) ?_
    refine x_iconst hx hb (kJ6_bitCount_0f7a4 (i := 20) rfl) ?_
    refine x_iushr hx hb (kJ6_bitCount_0f7a4 (i := 21) rfl) ?_
    refine x_iadd hx hb (kJ6_bitCount_0f7a4 (i := 22) rfl) ?_
    refine x_ldcw (n := 252645135) hx hb hown (hts _ q_kJ6_267) (kJ6_bitCount_0f7a4 (i := 23) rfl) ?_
    refine x_iand hx hb (kJ6_bitCount_0f7a4 (i := 24) rfl) ?_
    obtain ⟨x_3, ex_3, h⟩ := bnd_some h
    refine x_top ex_3 ?_
    refine x_istore_n (lv' := [(0, vi x_3)]) hx hb (kJ6_bitCount_0f7a4 (i := 25) rfl) rfl hl (by decide) rfl (fun ls hl => ?_)
    refine x_iload_n hx hb (kJ6_bitCount_0f7a4 (i := 26) rfl) rfl (lv_at hl 0 rfl) ?_
    refine x_iload_n hx hb (kJ6_bitCount_0f7a4 (i := 27) rfl) rfl (lv_at hl 0 rfl) ?_
    refine x_bipush hx hb (by decide) (kJ6_bitCount_0f7a4 (i := 28) rfl) ?_
    refine x_iushr hx hb (kJ6_bitCount_0f7a4 (i := 29) rfl) ?_
    refine x_iadd hx hb (kJ6_bitCount_0f7a4 (i := 30) rfl) ?_
    obtain ⟨x_4, ex_4, h⟩ := bnd_some h
    refine x_top ex_4 ?_
    refine x_istore_n (lv' := [(0, vi x_4)]) hx hb (kJ6_bitCount_0f7a4 (i := 31) rfl) rfl hl (by decide) rfl (fun ls hl => ?_)
    refine x_iload_n hx hb (kJ6_bitCount_0f7a4 (i := 32) rfl) rfl (lv_at hl 0 rfl) ?_
    refine x_iload_n hx hb (kJ6_bitCount_0f7a4 (i := 33) rfl) rfl (lv_at hl 0 rfl) ?_
    refine x_bipush hx hb (by decide) (kJ6_bitCount_0f7a4 (i := 34) rfl) ?_
    refine x_iushr hx hb (kJ6_bitCount_0f7a4 (i := 35) rfl) ?_
    refine x_iadd hx hb (kJ6_bitCount_0f7a4 (i := 36) rfl) ?_
    obtain ⟨x_5, ex_5, h⟩ := bnd_some h
    refine x_top ex_5 ?_
    refine x_istore_n (lv' := [(0, vi x_5)]) hx hb (kJ6_bitCount_0f7a4 (i := 37) rfl) rfl hl (by decide) rfl (fun ls hl => ?_)
    refine x_iload_n hx hb (kJ6_bitCount_0f7a4 (i := 38) rfl) rfl (lv_at hl 0 rfl) ?_
    refine x_bipush hx hb (by decide) (kJ6_bitCount_0f7a4 (i := 39) rfl) ?_
    refine x_iand hx hb (kJ6_bitCount_0f7a4 (i := 40) rfl) ?_
    rw [← Option.some.inj h]
    exact x_iret C hM (nar_i _) (kJ6_bitCount_0f7a4 (i := 41) rfl)
  exact key _ _ hM

/-! X0_copyFrom -/
def fX0_copyFrom (g : Mem) : Option (Mem) :=
  bnd (cpy g 25 29 12) fun g_1 =>
  bnd (up g_1 28 3 (g_1 24 3)) fun g_2 =>
  bnd (up g_2 28 4 (g_2 24 4)) fun g_3 =>
  bnd (up g_3 28 5 (g_3 24 5)) fun g_4 =>
  bnd (up g_4 28 6 (g_4 24 6)) fun g_5 =>
  bnd (up g_5 28 7 (g_5 24 7)) fun g_6 =>
  bnd (up g_6 28 8 (g_6 24 8)) fun g_7 =>
  bnd (up g_7 28 9 (g_7 24 9)) fun g_8 =>
  gc (g_8 24 10 = 0 ∨ g_8 24 10 = 1) <|
  bnd (up g_8 28 10 (g_8 24 10)) fun g_10 =>
  some g_10
set_option maxRecDepth 100000 in
set_option maxHeartbeats 4000000 in
theorem tX0_copyFrom (l : Launch) (Θ : Th) (h0 g : Mem) (gR : Mem) (h : fX0_copyFrom g = some gR) : Ct l yX0_copyFrom cX0_copyFrom 2 none 1 40 Θ [.ref (Θ.2.2.1 28), .ref (Θ.2.2.1 24)] g h0 gR h0 none := by
  refine x_start (by decide) (Nat.le_of_ble_eq_true rfl) ?_
  intro p e s m args below meth c ls C hM hl
  have hl : lv_has ls 2 [(0, .ref (Θ.2.2.1 28)), (1, .ref (Θ.2.2.1 24))] := hl
  obtain ⟨hx, hb, hml, hown, hts, -⟩ := id C
  unfold fX0_copyFrom at h
  have key : ∀ (H : Heap) (locs : List Loc), Hd Θ s g h0 H locs → W p l e { frames := 1, cells := 0, slots := 0, locals := 40 } s m args below meth c H locs 0 0 (MQ below (Qx Θ s.heap.size gR h0 none) args s 0 0 (AA Θ s.heap.size)) (F0 m 0 ls []) := by
    intro H locs hM
    refine lv_aload_n hx hb (kX0_copyFrom (i := 0) rfl) rfl (lv_at hl 1 rfl) ?_
    refine gX0_places 24 (Or.inl rfl) C hM q_fX0_11 (kX0_copyFrom (i := 1) rfl) ?_
    refine x_iconst hx hb (kX0_copyFrom (i := 2) rfl) ?_
    refine lv_aload_n hx hb (kX0_copyFrom (i := 3) rfl) rfl (lv_at hl 0 rfl) ?_
    refine gX0_places 28 (Or.inr rfl) C hM q_fX0_11 (kX0_copyFrom (i := 4) rfl) ?_
    refine x_iconst hx hb (kX0_copyFrom (i := 5) rfl) ?_
    refine x_bipush hx hb (by decide) (kX0_copyFrom (i := 6) rfl) ?_
    obtain ⟨g_1, eg_1, h⟩ := bnd_some h
    refine x_copy C hM hl.1 q_mX0_51 q_nat q_stat q_n_J10 (Nat.le_of_ble_eq_true rfl) (by decide) eg_1 (kX0_copyFrom (i := 7) rfl) (fun H locs hM => ?_)
    refine lv_aload_n hx hb (kX0_copyFrom (i := 8) rfl) rfl (lv_at hl 0 rfl) ?_
    refine lv_aload_n hx hb (kX0_copyFrom (i := 9) rfl) rfl (lv_at hl 1 rfl) ?_
    refine gX0_now 24 (Or.inl rfl) C hM q_fX0_25 (kX0_copyFrom (i := 10) rfl) ?_
    obtain ⟨g_2, eg_2, h⟩ := bnd_some h
    refine pX0_now 28 (Or.inr rfl) C hM q_fX0_25 eg_2 (kX0_copyFrom (i := 11) rfl) (fun H locs hM => ?_)
    refine lv_aload_n hx hb (kX0_copyFrom (i := 12) rfl) rfl (lv_at hl 0 rfl) ?_
    refine lv_aload_n hx hb (kX0_copyFrom (i := 13) rfl) rfl (lv_at hl 1 rfl) ?_
    refine gX0_slope 24 (Or.inl rfl) C hM q_fX0_29 (kX0_copyFrom (i := 14) rfl) ?_
    obtain ⟨g_3, eg_3, h⟩ := bnd_some h
    refine pX0_slope 28 (Or.inr rfl) C hM q_fX0_29 eg_3 (kX0_copyFrom (i := 15) rfl) (fun H locs hM => ?_)
    refine lv_aload_n hx hb (kX0_copyFrom (i := 16) rfl) rfl (lv_at hl 0 rfl) ?_
    refine lv_aload_n hx hb (kX0_copyFrom (i := 17) rfl) rfl (lv_at hl 1 rfl) ?_
    refine gX0_speed 24 (Or.inl rfl) C hM q_fX0_32 (kX0_copyFrom (i := 18) rfl) ?_
    obtain ⟨g_4, eg_4, h⟩ := bnd_some h
    refine pX0_speed 28 (Or.inr rfl) C hM q_fX0_32 eg_4 (kX0_copyFrom (i := 19) rfl) (fun H locs hM => ?_)
    refine lv_aload_n hx hb (kX0_copyFrom (i := 20) rfl) rfl (lv_at hl 0 rfl) ?_
    refine lv_aload_n hx hb (kX0_copyFrom (i := 21) rfl) rfl (lv_at hl 1 rfl) ?_
    refine gX0_force 24 (Or.inl rfl) C hM q_fX0_35 (kX0_copyFrom (i := 22) rfl) ?_
    obtain ⟨g_5, eg_5, h⟩ := bnd_some h
    refine pX0_force 28 (Or.inr rfl) C hM q_fX0_35 eg_5 (kX0_copyFrom (i := 23) rfl) (fun H locs hM => ?_)
    refine lv_aload_n hx hb (kX0_copyFrom (i := 24) rfl) rfl (lv_at hl 0 rfl) ?_
    refine lv_aload_n hx hb (kX0_copyFrom (i := 25) rfl) rfl (lv_at hl 1 rfl) ?_
    refine gX0_sick 24 (Or.inl rfl) C hM q_fX0_38 (kX0_copyFrom (i := 26) rfl) ?_
    obtain ⟨g_6, eg_6, h⟩ := bnd_some h
    refine pX0_sick 28 (Or.inr rfl) C hM q_fX0_38 eg_6 (kX0_copyFrom (i := 27) rfl) (fun H locs hM => ?_)
    refine lv_aload_n hx hb (kX0_copyFrom (i := 28) rfl) rfl (lv_at hl 0 rfl) ?_
    refine lv_aload_n hx hb (kX0_copyFrom (i := 29) rfl) rfl (lv_at hl 1 rfl) ?_
    refine gX0_worked 24 (Or.inl rfl) C hM q_fX0_41 (kX0_copyFrom (i := 30) rfl) ?_
    obtain ⟨g_7, eg_7, h⟩ := bnd_some h
    refine pX0_worked 28 (Or.inr rfl) C hM q_fX0_41 eg_7 (kX0_copyFrom (i := 31) rfl) (fun H locs hM => ?_)
    refine lv_aload_n hx hb (kX0_copyFrom (i := 32) rfl) rfl (lv_at hl 0 rfl) ?_
    refine lv_aload_n hx hb (kX0_copyFrom (i := 33) rfl) rfl (lv_at hl 1 rfl) ?_
    refine gX0_wet 24 (Or.inl rfl) C hM q_fX0_44 (kX0_copyFrom (i := 34) rfl) ?_
    obtain ⟨g_8, eg_8, h⟩ := bnd_some h
    refine pX0_wet 28 (Or.inr rfl) C hM q_fX0_44 eg_8 (kX0_copyFrom (i := 35) rfl) (fun H locs hM => ?_)
    refine lv_aload_n hx hb (kX0_copyFrom (i := 36) rfl) rfl (lv_at hl 0 rfl) ?_
    refine lv_aload_n hx hb (kX0_copyFrom (i := 37) rfl) rfl (lv_at hl 1 rfl) ?_
    refine gX0_over 24 (Or.inl rfl) C hM q_fX0_47 (kX0_copyFrom (i := 38) rfl) ?_
    obtain ⟨hz_9, h⟩ := gc_some h
    obtain ⟨g_10, eg_10, h⟩ := bnd_some h
    refine pX0_over 28 (Or.inr rfl) C hM q_fX0_47 hz_9 eg_10 (kX0_copyFrom (i := 39) rfl) (fun H locs hM => ?_)
    rw [← Option.some.inj h]
    exact x_vret C hM (kX0_copyFrom (i := 40) rfl)
  exact key _ _ hM

/-! X0_putWeight -/
def fX0_putWeight (b : Nat) (a0 : Int) (a1 : Int) (g : Mem) : Option (Mem) :=
  if wr a0 < 0 then (
    some g
  ) else (
    if 12 ≤ wr a0 then (
      some g
    ) else (
      gd a0 12 <|
      bnd (up g (b + 1) (wr a0).toNat a1) fun g_4 =>
      some g_4
    )
  )
set_option maxRecDepth 100000 in
set_option maxHeartbeats 4000000 in
theorem tX0_putWeight (l : Launch) (Θ : Th) (b : Nat) (hB : isB b) (a0 : Int) (a1 : Int) (h0 g : Mem) (gR : Mem) (h : fX0_putWeight b a0 a1 g = some gR) : Ct l yX0_putWeight cX0_putWeight 3 none 0 0 Θ [.ref (Θ.2.2.1 b), vi a0, vi a1] g h0 gR h0 none := by
  refine x_start (by decide) (Nat.le_of_ble_eq_true rfl) ?_
  intro p e s m args below meth c ls C hM hl
  have hl : lv_has ls 3 [(0, .ref (Θ.2.2.1 b)), (1, vi a0), (2, vi a1)] := hl
  obtain ⟨hx, hb, hml, hown, hts, -⟩ := id C
  unfold fX0_putWeight at h
  have key : ∀ (H : Heap) (locs : List Loc), Hd Θ s g h0 H locs → W p l e { frames := 0, cells := 0, slots := 0, locals := 0 } s m args below meth c H locs 0 0 (MQ below (Qx Θ s.heap.size gR h0 none) args s 0 0 (AA Θ s.heap.size)) (F0 m 0 ls []) := by
    intro H locs hM
    refine x_iload_n hx hb (kX0_putWeight (i := 0) rfl) rfl (lv_at hl 1 rfl) ?_
    refine x_if_lt (a' := wr a0) hx hb rfl (tgt := 20) (kX0_putWeight (i := 1) rfl) (by decide) (fun c_1 => ?_) (fun c_1 => ?_)
    · have h := it_t c_1 h
      rw [← Option.some.inj h]
      exact x_vret C hM (kX0_putWeight (i := 12) rfl)
    · have h := it_f c_1 h
      refine x_iload_n hx hb (kX0_putWeight (i := 2) rfl) rfl (lv_at hl 1 rfl) ?_
      refine lv_aload_n hx hb (kX0_putWeight (i := 3) rfl) rfl (lv_at hl 0 rfl) ?_
      refine gX0_places b hB C hM q_fX0_11 (kX0_putWeight (i := 4) rfl) ?_
      refine x_alenX C hM (b + 1) (isP_lt (isB_P hB)) (eX_P (isB_P hB)) (z0 := 12) rfl (kX0_putWeight (i := 5) rfl) ?_
      refine x_icmp_ge (a' := wr a0) (b' := 12) hx hb rfl (by decide) (tgt := 20) (kX0_putWeight (i := 6) rfl) (by decide) (fun c_2 => ?_) (fun c_2 => ?_)
      · have h := it_t c_2 h
        rw [← Option.some.inj h]
        exact x_vret C hM (kX0_putWeight (i := 12) rfl)
      · have h := it_f c_2 h
        refine lv_aload_n hx hb (kX0_putWeight (i := 7) rfl) rfl (lv_at hl 0 rfl) ?_
        refine gX0_places b hB C hM q_fX0_11 (kX0_putWeight (i := 8) rfl) ?_
        refine x_iload_n hx hb (kX0_putWeight (i := 9) rfl) rfl (lv_at hl 1 rfl) ?_
        refine x_iload_n hx hb (kX0_putWeight (i := 10) rfl) rfl (lv_at hl 2 rfl) ?_
        obtain ⟨hi_3, h⟩ := gd_some h
        obtain ⟨g_4, eg_4, h⟩ := bnd_some h
        refine x_iastX C hM (b + 1) (isP_lt (isB_P hB)) (eX_P (isB_P hB)) hi_3 eg_4 (kX0_putWeight (i := 11) rfl) (fun H locs hM => ?_)
        rw [← Option.some.inj h]
        exact x_vret C hM (kX0_putWeight (i := 12) rfl)
  exact key _ _ hM

/-! X0_nextSpeed -/
def fX0_nextSpeed (a0 : Int) (a1 : Int) (a2 : Int) : Option (Int) :=
  if 1 ≤ wr a2 then (
    gc (¬ wr a2 = 0) <|
    bd (fX11_bring ((wr a0) + (wr (Int.tdiv (wr a1) (wr a2)))) 30) fun r_3 =>
    some r_3
  ) else (
    some a0
  )
set_option maxRecDepth 100000 in
set_option maxHeartbeats 4000000 in
theorem tX0_nextSpeed (l : Launch) (Θ : Th) (a0 : Int) (a1 : Int) (a2 : Int) (h0 g0 : Mem) (rv : Int) (h : fX0_nextSpeed a0 a1 a2 = some rv) : Ct l yX0_nextSpeed cX0_nextSpeed 3 (some .int) 1 22 Θ [vi a0, vi a1, vi a2] g0 h0 g0 h0 (some (vi rv)) := by
  refine x_start (by decide) (Nat.le_of_ble_eq_true rfl) ?_
  intro p e s m args below meth c ls C hM hl
  have hl : lv_has ls 3 [(0, vi a0), (1, vi a1), (2, vi a2)] := hl
  obtain ⟨hx, hb, hml, hown, hts, -⟩ := id C
  unfold fX0_nextSpeed at h
  have key : ∀ (H : Heap) (locs : List Loc), Hd Θ s g0 h0 H locs → W p l e { frames := 1, cells := 0, slots := 0, locals := 22 } s m args below meth c H locs 0 0 (MQ below (Qx Θ s.heap.size g0 h0 (some (vi rv))) args s 0 0 (AA Θ s.heap.size)) (F0 m 0 ls []) := by
    intro H locs hM
    refine x_iload_n hx hb (kX0_nextSpeed (i := 0) rfl) rfl (lv_at hl 2 rfl) ?_
    refine x_iconst hx hb (kX0_nextSpeed (i := 1) rfl) ?_
    refine x_icmp_ge (a' := wr a2) (b' := 1) hx hb rfl (by decide) (tgt := 9) (kX0_nextSpeed (i := 2) rfl) (by decide) (fun c_1 => ?_) (fun c_1 => ?_)
    · have h := it_t c_1 h
      refine x_iload_n hx hb (kX0_nextSpeed (i := 5) rfl) rfl (lv_at hl 0 rfl) ?_
      refine x_i2l (a' := wr a0) hx hb rfl (kX0_nextSpeed (i := 6) rfl) ?_
      refine x_iload_n hx hb (kX0_nextSpeed (i := 7) rfl) rfl (lv_at hl 1 rfl) ?_
      refine x_iload_n hx hb (kX0_nextSpeed (i := 8) rfl) rfl (lv_at hl 2 rfl) ?_
      obtain ⟨hz_2, h⟩ := gc_some h
      refine x_idiv (a' := wr a1) (b' := wr a2) hx hb (kX0_nextSpeed (i := 9) rfl) rfl rfl hz_2 ?_
      refine x_i2l (a' := wr (Int.tdiv (wr a1) (wr a2))) hx hb rfl (kX0_nextSpeed (i := 10) rfl) ?_
      refine x_ladd hx hb (kX0_nextSpeed (i := 11) rfl) ?_
      refine x_bipush hx hb (by decide) (kX0_nextSpeed (i := 12) rfl) ?_
      obtain ⟨r_3, hc_4, h⟩ := bd_some h
      refine x_callSN (n := 2) (As := [vl ((wr a0) + (wr (Int.tdiv (wr a1) (wr a2)))), vi 30]) (rest := []) C hM (tX11_bring l Θ ((wr a0) + (wr (Int.tdiv (wr a1) (wr a2)))) 30 h0 g0 r_3 hc_4) q_c_X11_bring (List.mem_of_getElem? (i := 12) rfl) q_s_X11_bring q_n_X11 (by decide +kernel) ⟨by decide, by decide⟩ rfl hl.1 rfl (Nat.le_of_ble_eq_true rfl) (kX0_nextSpeed (i := 13) rfl) (fun H locs hM => ?_)
      rw [← Option.some.inj h]
      exact x_iret C hM (nar_i _) (kX0_nextSpeed (i := 14) rfl)
    · have h := it_f c_1 h
      refine x_iload_n hx hb (kX0_nextSpeed (i := 3) rfl) rfl (lv_at hl 0 rfl) ?_
      refine lv_goto (tgt := 21) hx hb (kX0_nextSpeed (i := 4) rfl) (by decide) ?_
      rw [← Option.some.inj h]
      exact x_iret C hM (nar_i _) (kX0_nextSpeed (i := 14) rfl)
  exact key _ _ hM

/-! X0_turn -/
def fX0_turn (b : Nat) (a0 : Int) (g : Mem) : Option (Mem) :=
  bd (fX0_nextSpeed (g b 5) (g b 6) a0) fun r_1 =>
  bnd (up g b 5 r_1) fun g_3 =>
  bnd ((g_3 b 4) + (g_3 b 5)) fun x_4 =>
  bd (fX11_bring (wr x_4) 80) fun r_5 =>
  bnd (up g_3 b 4 r_5) fun g_7 =>
  jn (fun (v_8 : Int) =>
    gc (v_8 = 0 ∨ v_8 = 1) <|
    bnd (up g_7 b 10 v_8) fun g_10 =>
    some g_10
  ) fun J51 =>
  if wr x_4 = wr (g_7 b 4) then (
    J51 0
  ) else (
    J51 1
  )
set_option maxRecDepth 100000 in
set_option maxHeartbeats 4000000 in
theorem tX0_turn (l : Launch) (Θ : Th) (b : Nat) (hB : isB b) (a0 : Int) (h0 g : Mem) (gR : Mem) (h : fX0_turn b a0 g = some gR) : Ct l yX0_turn cX0_turn 3 none 2 44 Θ [.ref (Θ.2.2.1 b), vi a0] g h0 gR h0 none := by
  refine x_start (by decide) (Nat.le_of_ble_eq_true rfl) ?_
  intro p e s m args below meth c ls C hM hl
  have hl : lv_has ls 3 [(0, .ref (Θ.2.2.1 b)), (1, vi a0)] := hl
  obtain ⟨hx, hb, hml, hown, hts, -⟩ := id C
  unfold fX0_turn at h
  have key : ∀ (H : Heap) (locs : List Loc), Hd Θ s g h0 H locs → W p l e { frames := 2, cells := 0, slots := 0, locals := 44 } s m args below meth c H locs 0 0 (MQ below (Qx Θ s.heap.size gR h0 none) args s 0 0 (AA Θ s.heap.size)) (F0 m 0 ls []) := by
    intro H locs hM
    refine lv_aload_n hx hb (kX0_turn (i := 0) rfl) rfl (lv_at hl 0 rfl) ?_
    refine lv_aload_n hx hb (kX0_turn (i := 1) rfl) rfl (lv_at hl 0 rfl) ?_
    refine gX0_speed b hB C hM q_fX0_32 (kX0_turn (i := 2) rfl) ?_
    refine lv_aload_n hx hb (kX0_turn (i := 3) rfl) rfl (lv_at hl 0 rfl) ?_
    refine gX0_force b hB C hM q_fX0_35 (kX0_turn (i := 4) rfl) ?_
    refine x_iload_n hx hb (kX0_turn (i := 5) rfl) rfl (lv_at hl 1 rfl) ?_
    obtain ⟨r_1, hc_2, h⟩ := bd_some h
    refine x_callS (n := 3) (As := [vi (g b 5), vi (g b 6), vi a0]) (rest := [.ref (Θ.2.2.1 b)]) C hM (tX0_nextSpeed l Θ (g b 5) (g b 6) a0 h0 g r_1 hc_2) q_c_X0_nextSpeed q_mX0_57 q_s_X0_nextSpeed q_n_X0 (by decide +kernel) ⟨by decide, by decide⟩ rfl hl.1 rfl (Nat.le_of_ble_eq_true rfl) (kX0_turn (i := 6) rfl) (fun H locs hM => ?_)
    obtain ⟨g_3, eg_3, h⟩ := bnd_some h
    refine pX0_speed b hB C hM q_fX0_32 eg_3 (kX0_turn (i := 7) rfl) (fun H locs hM => ?_)
    refine lv_aload_n hx hb (kX0_turn (i := 8) rfl) rfl (lv_at hl 0 rfl) ?_
    refine gX0_slope b hB C hM q_fX0_29 (kX0_turn (i := 9) rfl) ?_
    refine lv_aload_n hx hb (kX0_turn (i := 10) rfl) rfl (lv_at hl 0 rfl) ?_
    refine gX0_speed b hB C hM q_fX0_32 (kX0_turn (i := 11) rfl) ?_
    refine x_iadd hx hb (kX0_turn (i := 12) rfl) ?_
    obtain ⟨x_4, ex_4, h⟩ := bnd_some h
    refine x_top ex_4 ?_
    refine x_istore_n (lv' := [(2, vi x_4), (0, .ref (Θ.2.2.1 b)), (1, vi a0)]) hx hb (kX0_turn (i := 13) rfl) rfl hl (by decide) rfl (fun ls hl => ?_)
    refine lv_aload_n hx hb (kX0_turn (i := 14) rfl) rfl (lv_at hl 1 rfl) ?_
    refine x_iload_n hx hb (kX0_turn (i := 15) rfl) rfl (lv_at hl 0 rfl) ?_
    refine x_i2l (a' := wr x_4) hx hb rfl (kX0_turn (i := 16) rfl) ?_
    refine x_bipush hx hb (by decide) (kX0_turn (i := 17) rfl) ?_
    obtain ⟨r_5, hc_6, h⟩ := bd_some h
    refine x_callSN (n := 2) (As := [vl (wr x_4), vi 80]) (rest := [.ref (Θ.2.2.1 b)]) C hM (tX11_bring l Θ (wr x_4) 80 h0 g_3 r_5 hc_6) q_c_X11_bring (List.mem_of_getElem? (i := 12) rfl) q_s_X11_bring q_n_X11 (by decide +kernel) ⟨by decide, by decide⟩ rfl hl.1 rfl (Nat.le_of_ble_eq_true rfl) (kX0_turn (i := 18) rfl) (fun H locs hM => ?_)
    obtain ⟨g_7, eg_7, h⟩ := bnd_some h
    refine pX0_slope b hB C hM q_fX0_29 eg_7 (kX0_turn (i := 19) rfl) (fun H locs hM => ?_)
    refine lv_aload_n hx hb (kX0_turn (i := 20) rfl) rfl (lv_at hl 1 rfl) ?_
    refine x_iload_n hx hb (kX0_turn (i := 21) rfl) rfl (lv_at hl 0 rfl) ?_
    refine lv_aload_n hx hb (kX0_turn (i := 22) rfl) rfl (lv_at hl 1 rfl) ?_
    refine gX0_slope b hB C hM q_fX0_29 (kX0_turn (i := 23) rfl) ?_
    refine jn_go h (fun J51 : Int → Option (Mem) => ∀ (v_8 : Int) (H : Heap) (locs : List Loc) (ls : Array Slot), J51 v_8 = some gR → Hd Θ s g_7 h0 H locs → lv_has ls 3 [] → W p l e { frames := 2, cells := 0, slots := 0, locals := 44 } s m args below meth c H locs 0 0 (MQ below (Qx Θ s.heap.size gR h0 none) args s 0 0 (AA Θ s.heap.size)) (F0 m 51 ls [vi v_8, .ref (Θ.2.2.1 b)])) ?_ ?_
    · intro v_8 H locs ls h hM hl
      obtain ⟨hz_9, h⟩ := gc_some h
      obtain ⟨g_10, eg_10, h⟩ := bnd_some h
      refine pX0_over b hB C hM q_fX0_47 hz_9 eg_10 (kX0_turn (i := 28) rfl) (fun H locs hM => ?_)
      rw [← Option.some.inj h]
      exact x_vret C hM (kX0_turn (i := 29) rfl)
    intro J51 hJ51 h
    refine x_icmp_eq (a' := wr x_4) (b' := wr (g_7 b 4)) hx hb rfl rfl (tgt := 50) (kX0_turn (i := 24) rfl) (by decide) (fun c_11 => ?_) (fun c_11 => ?_)
    · have h := it_t c_11 h
      refine x_iconst hx hb (kX0_turn (i := 27) rfl) ?_
      exact hJ51 0 H locs ls h hM (lv_sub hl [] rfl)
    · have h := it_f c_11 h
      refine x_iconst hx hb (kX0_turn (i := 25) rfl) ?_
      refine lv_goto (tgt := 51) hx hb (kX0_turn (i := 26) rfl) (by decide) ?_
      exact hJ51 1 H locs ls h hM (lv_sub hl [] rfl)
  exact key _ _ hM

/-! X0_sicken -/
def fX0_sicken (b : Nat) (g : Mem) : Option (Mem) :=
  bnd (up g b 7 ((g b 7) + (mMax 0 ((mAbs (g b 5)) - 4)))) fun g_1 =>
  some g_1
set_option maxRecDepth 100000 in
set_option maxHeartbeats 4000000 in
theorem tX0_sicken (l : Launch) (Θ : Th) (b : Nat) (hB : isB b) (h0 g : Mem) (gR : Mem) (h : fX0_sicken b g = some gR) : Ct l yX0_sicken cX0_sicken 1 none 1 21 Θ [.ref (Θ.2.2.1 b)] g h0 gR h0 none := by
  refine x_start (by decide) (Nat.le_of_ble_eq_true rfl) ?_
  intro p e s m args below meth c ls C hM hl
  have hl : lv_has ls 1 [(0, .ref (Θ.2.2.1 b))] := hl
  obtain ⟨hx, hb, hml, hown, hts, -⟩ := id C
  unfold fX0_sicken at h
  have key : ∀ (H : Heap) (locs : List Loc), Hd Θ s g h0 H locs → W p l e { frames := 1, cells := 0, slots := 0, locals := 21 } s m args below meth c H locs 0 0 (MQ below (Qx Θ s.heap.size gR h0 none) args s 0 0 (AA Θ s.heap.size)) (F0 m 0 ls []) := by
    intro H locs hM
    refine lv_aload_n hx hb (kX0_sicken (i := 0) rfl) rfl (lv_at hl 0 rfl) ?_
    refine lv_dup hx hb (kX0_sicken (i := 1) rfl) rfl ?_
    refine gX0_sick b hB C hM q_fX0_38 (kX0_sicken (i := 2) rfl) ?_
    refine x_iconst hx hb (kX0_sicken (i := 3) rfl) ?_
    refine lv_aload_n hx hb (kX0_sicken (i := 4) rfl) rfl (lv_at hl 0 rfl) ?_
    refine gX0_speed b hB C hM q_fX0_32 (kX0_sicken (i := 5) rfl) ?_
    refine x_mabs C hl.1 (Nat.le_of_ble_eq_true rfl) (Nat.le_of_ble_eq_true rfl) q_mX0_65 (kX0_sicken (i := 6) rfl) ?_
    refine x_iconst hx hb (kX0_sicken (i := 7) rfl) ?_
    refine x_isub hx hb (kX0_sicken (i := 8) rfl) ?_
    refine x_mmax C hl.1 (Nat.le_of_ble_eq_true rfl) (Nat.le_of_ble_eq_true rfl) q_mX0_71 (kX0_sicken (i := 9) rfl) ?_
    refine x_iadd hx hb (kX0_sicken (i := 10) rfl) ?_
    obtain ⟨g_1, eg_1, h⟩ := bnd_some h
    refine pX0_sick b hB C hM q_fX0_38 eg_1 (kX0_sicken (i := 11) rfl) (fun H locs hM => ?_)
    rw [← Option.some.inj h]
    exact x_vret C hM (kX0_sicken (i := 12) rfl)
  exact key _ _ hM

/-! X4_isWet -/
def fX4_isWet (a0 : Int) (a1 : Int) (a2 : Int) (g : Mem) : Option (Int) :=
  if wr a0 < 0 then (
    some 0
  ) else (
    if wr (g 17 2) ≤ wr a0 then (
      some 0
    ) else (
      gd a0 6 <|
      gd a0 6 <|
      if wr (a2 + (a1 * (g 18 (wr a0).toNat))) < wr (100 * (g 19 (wr a0).toNat)) then (
        some 0
      ) else (
        some 1
      )
    )
  )
set_option maxRecDepth 100000 in
set_option maxHeartbeats 4000000 in
theorem tX4_isWet (l : Launch) (Θ : Th) (a0 : Int) (a1 : Int) (a2 : Int) (h0 g : Mem) (rv : Int) (h : fX4_isWet a0 a1 a2 g = some rv) : Ct l yX4_isWet cX4_isWet 4 (some .boolean) 0 0 Θ [.ref (Θ.2.2.1 17), vi a0, vi a1, vi a2] g h0 g h0 (some (vi rv)) := by
  refine x_start (by decide) (Nat.le_of_ble_eq_true rfl) ?_
  intro p e s m args below meth c ls C hM hl
  have hl : lv_has ls 4 [(0, .ref (Θ.2.2.1 17)), (1, vi a0), (2, vi a1), (3, vi a2)] := hl
  obtain ⟨hx, hb, hml, hown, hts, -⟩ := id C
  unfold fX4_isWet at h
  have key : ∀ (H : Heap) (locs : List Loc), Hd Θ s g h0 H locs → W p l e { frames := 0, cells := 0, slots := 0, locals := 0 } s m args below meth c H locs 0 0 (MQ below (Qx Θ s.heap.size g h0 (some (vi rv))) args s 0 0 (AA Θ s.heap.size)) (F0 m 0 ls []) := by
    intro H locs hM
    refine x_iload_n hx hb (kX4_isWet (i := 0) rfl) rfl (lv_at hl 1 rfl) ?_
    refine x_if_lt (a' := wr a0) hx hb rfl (tgt := 38) (kX4_isWet (i := 1) rfl) (by decide) (fun c_1 => ?_) (fun c_1 => ?_)
    · have h := it_t c_1 h
      refine x_iconst hx hb (kX4_isWet (i := 23) rfl) ?_
      rw [← Option.some.inj h]
      exact x_iret C hM (nar_z (Or.inl rfl)) (kX4_isWet (i := 24) rfl)
    · have h := it_f c_1 h
      refine x_iload_n hx hb (kX4_isWet (i := 2) rfl) rfl (lv_at hl 1 rfl) ?_
      refine lv_aload_n hx hb (kX4_isWet (i := 3) rfl) rfl (lv_at hl 0 rfl) ?_
      refine gX4_count C hM q_fX4_18 (kX4_isWet (i := 4) rfl) ?_
      refine x_icmp_ge (a' := wr a0) (b' := wr (g 17 2)) hx hb rfl rfl (tgt := 38) (kX4_isWet (i := 5) rfl) (by decide) (fun c_2 => ?_) (fun c_2 => ?_)
      · have h := it_t c_2 h
        refine x_iconst hx hb (kX4_isWet (i := 23) rfl) ?_
        rw [← Option.some.inj h]
        exact x_iret C hM (nar_z (Or.inl rfl)) (kX4_isWet (i := 24) rfl)
      · have h := it_f c_2 h
        refine x_bipush hx hb (by decide) (kX4_isWet (i := 6) rfl) ?_
        refine lv_aload_n hx hb (kX4_isWet (i := 7) rfl) rfl (lv_at hl 0 rfl) ?_
        refine gX4_heights C hM q_fX4_15 (kX4_isWet (i := 8) rfl) ?_
        refine x_iload_n hx hb (kX4_isWet (i := 9) rfl) rfl (lv_at hl 1 rfl) ?_
        obtain ⟨hi_3, h⟩ := gd_some h
        refine x_ialdX C hM 19 (by decide) (eX_19 Θ) hi_3 (kX4_isWet (i := 10) rfl) ?_
        refine x_imul hx hb (kX4_isWet (i := 11) rfl) ?_
        refine x_iload_n hx hb (kX4_isWet (i := 12) rfl) rfl (lv_at hl 3 rfl) ?_
        refine x_iload_n hx hb (kX4_isWet (i := 13) rfl) rfl (lv_at hl 2 rfl) ?_
        refine lv_aload_n hx hb (kX4_isWet (i := 14) rfl) rfl (lv_at hl 0 rfl) ?_
        refine gX4_places C hM q_fX4_11 (kX4_isWet (i := 15) rfl) ?_
        refine x_iload_n hx hb (kX4_isWet (i := 16) rfl) rfl (lv_at hl 1 rfl) ?_
        obtain ⟨hi_4, h⟩ := gd_some h
        refine x_ialdX C hM 18 (by decide) (eX_18 Θ) hi_4 (kX4_isWet (i := 17) rfl) ?_
        refine x_imul hx hb (kX4_isWet (i := 18) rfl) ?_
        refine x_iadd hx hb (kX4_isWet (i := 19) rfl) ?_
        refine x_icmp_gt (a' := wr (100 * (g 19 (wr a0).toNat))) (b' := wr (a2 + (a1 * (g 18 (wr a0).toNat)))) hx hb rfl rfl (tgt := 38) (kX4_isWet (i := 20) rfl) (by decide) (fun c_5 => ?_) (fun c_5 => ?_)
        · have h := it_t c_5 h
          refine x_iconst hx hb (kX4_isWet (i := 23) rfl) ?_
          rw [← Option.some.inj h]
          exact x_iret C hM (nar_z (Or.inl rfl)) (kX4_isWet (i := 24) rfl)
        · have h := it_f c_5 h
          refine x_iconst hx hb (kX4_isWet (i := 21) rfl) ?_
          refine lv_goto (tgt := 39) hx hb (kX4_isWet (i := 22) rfl) (by decide) ?_
          rw [← Option.some.inj h]
          exact x_iret C hM (nar_z (Or.inr rfl)) (kX4_isWet (i := 24) rfl)
  exact key _ _ hM

/-! X0_wash -/
def fX0_wash_L5 (b : Nat) : Nat → Int → Int → Int → Mem → (Int → Mem → Option (Mem)) → Option (Mem)
  | 0, _, _, _, _, _ => none
  | n + 1, y2, y3, y4, g, K76 =>
    if wr (g 17 2) ≤ wr y4 then (
      K76 y3 g
    ) else (
      if 6 ≤ wr y4 then (
        K76 y3 g
      ) else (
        bd (fX4_isWet y4 (g b 4) y2 g) fun r_3 =>
        jn (fun (p_5 : Int) (g_6 : Mem) =>
          bnd (y4 + 1) fun x_7 =>
          fX0_wash_L5 b n y2 p_5 x_7 g_6 K76
        ) fun J70 =>
        if wr r_3 = 0 then (
          J70 y3 g
        ) else (
          bnd (iShl 1 y4) fun x_9 =>
          bnd (iOr y3 x_9) fun x_10 =>
          if wr (iAnd (g b 9) x_9) = 0 then (
            gd y4 6 <|
            gd y4 6 <|
            bnd (up g (b + 2) (wr y4).toNat ((g (b + 2) (wr y4).toNat) + 1)) fun g_14 =>
            J70 x_10 g_14
          ) else (
            J70 x_10 g
          )
        )
      )
    )
def fX0_wash (b : Nat) (a1 : Int) (g : Mem) : Option (Mem) :=
  fX0_wash_L5 b fuel a1 0 0 g
  (fun (z_15 : Int) (g_16 : Mem) =>
    bnd (up g_16 b 9 z_15) fun g_17 =>
    some g_17
  )
set_option maxRecDepth 100000 in
set_option maxHeartbeats 4000000 in
theorem wX0_wash_L5 {p : Program} {l : Launch} {e : Env} {s : State} {m : MethodId} {args : Array Value} {below : List Frame} {meth : Method} {c : Code} {Θ : Th} {h0 : Mem} {b : Nat} (hB : isB b) {gR : Mem} {K76 : Int → Mem → Option (Mem)} (C : Cx p s m args meth c cX0_wash 6 RX0 none Θ) : ∀ (n : Nat) (y2 : Int) (y3 : Int) (y4 : Int) (g : Mem) (H : Heap) (locs : List Loc) (ls : Array Slot), fX0_wash_L5 b n y2 y3 y4 g K76 = some gR → (∀ (z3 : Int) (gz : Mem) (H : Heap) (locs : List Loc) (ls : Array Slot), K76 z3 gz = some gR → Hd Θ s gz h0 H locs → lv_has ls 6 [(0, .ref (Θ.2.2.1 b)), (3, vi z3)] → W p l e { frames := 1, cells := 0, slots := 0, locals := 23 } s m args below meth c H locs 0 0 (MQ below (Qx Θ s.heap.size gR h0 none) args s 0 0 (AA Θ s.heap.size)) (F0 m 76 ls [])) → Hd Θ s g h0 H locs → lv_has ls 6 [(0, .ref (Θ.2.2.1 b)), (1, .ref (Θ.2.2.1 17)), (2, vi y2), (3, vi y3), (4, vi y4)] → W p l e { frames := 1, cells := 0, slots := 0, locals := 23 } s m args below meth c H locs 0 0 (MQ below (Qx Θ s.heap.size gR h0 none) args s 0 0 (AA Θ s.heap.size)) (F0 m 5 ls []) := by
  intro n
  obtain ⟨hx, hb, hml, hown, hts, -⟩ := id C
  induction n with
  | zero => intro y2 y3 y4 g H locs ls h; cases h
  | succ n ih =>
    intro y2 y3 y4 g H locs ls h hK76 hM hl
    rw [fX0_wash_L5] at h
    refine x_iload hx hb (kX0_wash (i := 4) rfl) (lv_at hl 4 rfl) ?_
    refine lv_aload_n hx hb (kX0_wash (i := 5) rfl) rfl (lv_at hl 1 rfl) ?_
    refine gX4_count C hM q_fX0_75 (kX0_wash (i := 6) rfl) ?_
    refine x_icmp_ge (a' := wr y4) (b' := wr (g 17 2)) hx hb rfl rfl (tgt := 76) (kX0_wash (i := 7) rfl) (by decide) (fun c_1 => ?_) (fun c_1 => ?_)
    · have h := it_t c_1 h
      exact hK76 y3 g H locs ls h hM (lv_sub hl [0, 3] rfl)
    · have h := it_f c_1 h
      refine x_iload hx hb (kX0_wash (i := 8) rfl) (lv_at hl 4 rfl) ?_
      refine lv_aload_n hx hb (kX0_wash (i := 9) rfl) rfl (lv_at hl 0 rfl) ?_
      refine gX0_wetted b hB C hM q_fX0_19 (kX0_wash (i := 10) rfl) ?_
      refine x_alenX C hM (b + 2) (isB_wetted hB) (eX_isB_wetted hB) (z0 := 6) rfl (kX0_wash (i := 11) rfl) ?_
      refine x_icmp_ge (a' := wr y4) (b' := 6) hx hb rfl (by decide) (tgt := 76) (kX0_wash (i := 12) rfl) (by decide) (fun c_2 => ?_) (fun c_2 => ?_)
      · have h := it_t c_2 h
        exact hK76 y3 g H locs ls h hM (lv_sub hl [0, 3] rfl)
      · have h := it_f c_2 h
        refine lv_aload_n hx hb (kX0_wash (i := 13) rfl) rfl (lv_at hl 1 rfl) ?_
        refine x_iload hx hb (kX0_wash (i := 14) rfl) (lv_at hl 4 rfl) ?_
        refine lv_aload_n hx hb (kX0_wash (i := 15) rfl) rfl (lv_at hl 0 rfl) ?_
        refine gX0_slope b hB C hM q_fX0_29 (kX0_wash (i := 16) rfl) ?_
        refine x_iload_n hx hb (kX0_wash (i := 17) rfl) rfl (lv_at hl 2 rfl) ?_
        obtain ⟨r_3, hc_4, h⟩ := bd_some h
        refine x_callV (n := 3) (As := [vi y4, vi (g b 4), vi y2]) (rest := []) C hM (tX4_isWet l Θ y4 (g b 4) y2 h0 g r_3 hc_4) (x_recvX C hM 17 (by decide) (eX_17 Θ _) rfl rfl) q_c_X4_isWet q_mX0_78 q_i_X4_isWet q_e_X4_isWet q_n_X4 (by decide +kernel) ⟨by decide, by decide⟩ rfl hl.1 rfl (Nat.le_of_ble_eq_true rfl) (kX0_wash (i := 18) rfl) (fun H locs hM => ?_)
        refine jn_go h (fun J70 : Int → Mem → Option (Mem) => ∀ (p_5 : Int) (g_6 : Mem) (H : Heap) (locs : List Loc) (ls : Array Slot), J70 p_5 g_6 = some gR → Hd Θ s g_6 h0 H locs → lv_has ls 6 [(0, .ref (Θ.2.2.1 b)), (1, .ref (Θ.2.2.1 17)), (2, vi y2), (3, vi p_5), (4, vi y4)] → W p l e { frames := 1, cells := 0, slots := 0, locals := 23 } s m args below meth c H locs 0 0 (MQ below (Qx Θ s.heap.size gR h0 none) args s 0 0 (AA Θ s.heap.size)) (F0 m 70 ls [])) ?_ ?_
        · intro p_5 g_6 H locs ls h hM hl
          obtain ⟨x_7, ex_7, h⟩ := bnd_some h
          refine x_iinc (k := 4) (lv' := [(4, vi x_7), (0, .ref (Θ.2.2.1 b)), (1, .ref (Θ.2.2.1 17)), (2, vi y2), (3, vi p_5)]) hx hb (kX0_wash (i := 41) rfl) hl rfl ex_7 (by decide) rfl (fun ls hl => ?_)
          refine lv_goto (tgt := 5) hx hb (kX0_wash (i := 42) rfl) (by decide) ?_
          exact ih y2 p_5 x_7 g_6 H locs ls h hK76 hM (lv_sub hl [1, 2, 3, 4, 0] rfl)
        intro J70 hJ70 h
        refine x_if_eq (a' := wr r_3) hx hb rfl (tgt := 70) (kX0_wash (i := 19) rfl) (by decide) (fun c_8 => ?_) (fun c_8 => ?_)
        · have h := it_t c_8 h
          exact hJ70 y3 g H locs ls h hM (lv_sub hl [0, 1, 2, 3, 4] rfl)
        · have h := it_f c_8 h
          refine x_iconst hx hb (kX0_wash (i := 20) rfl) ?_
          refine x_iload hx hb (kX0_wash (i := 21) rfl) (lv_at hl 4 rfl) ?_
          refine x_ishl hx hb (kX0_wash (i := 22) rfl) ?_
          obtain ⟨x_9, ex_9, h⟩ := bnd_some h
          refine x_top ex_9 ?_
          refine x_istore (lv' := [(5, vi x_9), (0, .ref (Θ.2.2.1 b)), (1, .ref (Θ.2.2.1 17)), (2, vi y2), (3, vi y3), (4, vi y4)]) hx hb (kX0_wash (i := 23) rfl) hl (by decide) rfl (fun ls hl => ?_)
          refine x_iload_n hx hb (kX0_wash (i := 24) rfl) rfl (lv_at hl 4 rfl) ?_
          refine x_iload hx hb (kX0_wash (i := 25) rfl) (lv_at hl 0 rfl) ?_
          refine x_ior hx hb (kX0_wash (i := 26) rfl) ?_
          obtain ⟨x_10, ex_10, h⟩ := bnd_some h
          refine x_top ex_10 ?_
          refine x_istore_n (lv' := [(3, vi x_10), (5, vi x_9), (0, .ref (Θ.2.2.1 b)), (1, .ref (Θ.2.2.1 17)), (2, vi y2), (4, vi y4)]) hx hb (kX0_wash (i := 27) rfl) rfl hl (by decide) rfl (fun ls hl => ?_)
          refine lv_aload_n hx hb (kX0_wash (i := 28) rfl) rfl (lv_at hl 2 rfl) ?_
          refine gX0_wet b hB C hM q_fX0_44 (kX0_wash (i := 29) rfl) ?_
          refine x_iload hx hb (kX0_wash (i := 30) rfl) (lv_at hl 1 rfl) ?_
          refine x_iand hx hb (kX0_wash (i := 31) rfl) ?_
          refine x_if_ne (a' := wr (iAnd (g b 9) x_9)) hx hb rfl (tgt := 70) (kX0_wash (i := 32) rfl) (by decide) (fun c_11 => ?_) (fun c_11 => ?_)
          · have h := it_f c_11 h
            exact hJ70 x_10 g H locs ls h hM (lv_sub hl [2, 3, 4, 0, 5] rfl)
          · have h := it_t c_11 h
            refine lv_aload_n hx hb (kX0_wash (i := 33) rfl) rfl (lv_at hl 2 rfl) ?_
            refine gX0_wetted b hB C hM q_fX0_19 (kX0_wash (i := 34) rfl) ?_
            refine x_iload hx hb (kX0_wash (i := 35) rfl) (lv_at hl 5 rfl) ?_
            refine lv_dup2_11 hx hb (kX0_wash (i := 36) rfl) rfl rfl ?_
            obtain ⟨hi_12, h⟩ := gd_some h
            refine x_ialdX C hM (b + 2) (isB_wetted hB) (eX_isB_wetted hB) hi_12 (kX0_wash (i := 37) rfl) ?_
            refine x_iconst hx hb (kX0_wash (i := 38) rfl) ?_
            refine x_iadd hx hb (kX0_wash (i := 39) rfl) ?_
            obtain ⟨hi_13, h⟩ := gd_some h
            obtain ⟨g_14, eg_14, h⟩ := bnd_some h
            refine x_iastX C hM (b + 2) (isB_wetted hB) (eX_isB_wetted hB) hi_13 eg_14 (kX0_wash (i := 40) rfl) (fun H locs hM => ?_)
            exact hJ70 x_10 g_14 H locs ls h hM (lv_sub hl [2, 3, 4, 0, 5] rfl)
set_option maxRecDepth 100000 in
set_option maxHeartbeats 4000000 in
theorem tX0_wash (l : Launch) (Θ : Th) (b : Nat) (hB : isB b) (a1 : Int) (h0 g : Mem) (gR : Mem) (h : fX0_wash b a1 g = some gR) : Ct l yX0_wash cX0_wash 6 none 1 23 Θ [.ref (Θ.2.2.1 b), .ref (Θ.2.2.1 17), vi a1] g h0 gR h0 none := by
  refine x_start (by decide) (Nat.le_of_ble_eq_true rfl) ?_
  intro p e s m args below meth c ls C hM hl
  have hl : lv_has ls 6 [(0, .ref (Θ.2.2.1 b)), (1, .ref (Θ.2.2.1 17)), (2, vi a1)] := hl
  obtain ⟨hx, hb, hml, hown, hts, -⟩ := id C
  unfold fX0_wash at h
  have key : ∀ (H : Heap) (locs : List Loc), Hd Θ s g h0 H locs → W p l e { frames := 1, cells := 0, slots := 0, locals := 23 } s m args below meth c H locs 0 0 (MQ below (Qx Θ s.heap.size gR h0 none) args s 0 0 (AA Θ s.heap.size)) (F0 m 0 ls []) := by
    intro H locs hM
    refine x_iconst hx hb (kX0_wash (i := 0) rfl) ?_
    refine x_istore_n (lv' := [(3, vi 0), (0, .ref (Θ.2.2.1 b)), (1, .ref (Θ.2.2.1 17)), (2, vi a1)]) hx hb (kX0_wash (i := 1) rfl) rfl hl (by decide) rfl (fun ls hl => ?_)
    refine x_iconst hx hb (kX0_wash (i := 2) rfl) ?_
    refine x_istore (lv' := [(4, vi 0), (3, vi 0), (0, .ref (Θ.2.2.1 b)), (1, .ref (Θ.2.2.1 17)), (2, vi a1)]) hx hb (kX0_wash (i := 3) rfl) hl (by decide) rfl (fun ls hl => ?_)
    refine wX0_wash_L5  hB C fuel a1 0 0 g H locs ls h ?_ hM (lv_sub hl [2, 3, 4, 1, 0] rfl)
    · intro z_15 g_16 H locs ls h hM hl
      refine lv_aload_n hx hb (kX0_wash (i := 43) rfl) rfl (lv_at hl 0 rfl) ?_
      refine x_iload_n hx hb (kX0_wash (i := 44) rfl) rfl (lv_at hl 1 rfl) ?_
      obtain ⟨g_17, eg_17, h⟩ := bnd_some h
      refine pX0_wet b hB C hM q_fX0_44 eg_17 (kX0_wash (i := 45) rfl) (fun H locs hM => ?_)
      rw [← Option.some.inj h]
      exact x_vret C hM (kX0_wash (i := 46) rfl)
  exact key _ _ hM

/-! X1_addWeight -/
def fX1_addWeight (a0 : Int) (a1 : Int) (a2 : Int) (a3 : Int) (g : Mem) : Option (Int × Mem) :=
  if wr (g 8 8) < 12 then (
    gd (g 8 8) 12 <|
    bnd (up g 9 (wr (g 8 8)).toNat a0) fun g_3 =>
    gd (g_3 8 8) 12 <|
    bnd (up g_3 10 (wr (g_3 8 8)).toNat a1) fun g_5 =>
    gd (g_5 8 8) 12 <|
    bnd (up g_5 11 (wr (g_5 8 8)).toNat a2) fun g_7 =>
    gd (g_7 8 8) 12 <|
    bnd (up g_7 12 (wr (g_7 8 8)).toNat a3) fun g_9 =>
    bnd (up g_9 8 10 ((g_9 8 10) + a0)) fun g_10 =>
    bnd (g_10 8 8) fun x_11 =>
    bnd (up g_10 8 8 (x_11 + 1)) fun g_12 =>
    some (x_11, g_12)
  ) else (
    some ((-1), g)
  )
set_option maxRecDepth 100000 in
set_option maxHeartbeats 4000000 in
theorem tX1_addWeight (l : Launch) (Θ : Th) (a0 : Int) (a1 : Int) (a2 : Int) (a3 : Int) (h0 g : Mem) (rv : Int) (gR : Mem) (h : fX1_addWeight a0 a1 a2 a3 g = some (rv, gR)) : Ct l yX1_addWeight cX1_addWeight 5 (some .int) 0 0 Θ [.ref (Θ.2.2.1 8), vi a0, vi a1, vi a2, vi a3] g h0 gR h0 (some (vi rv)) := by
  refine x_start (by decide) (Nat.le_of_ble_eq_true rfl) ?_
  intro p e s m args below meth c ls C hM hl
  have hl : lv_has ls 5 [(0, .ref (Θ.2.2.1 8)), (1, vi a0), (2, vi a1), (3, vi a2), (4, vi a3)] := hl
  obtain ⟨hx, hb, hml, hown, hts, -⟩ := id C
  unfold fX1_addWeight at h
  have key : ∀ (H : Heap) (locs : List Loc), Hd Θ s g h0 H locs → W p l e { frames := 0, cells := 0, slots := 0, locals := 0 } s m args below meth c H locs 0 0 (MQ below (Qx Θ s.heap.size gR h0 (some (vi rv))) args s 0 0 (AA Θ s.heap.size)) (F0 m 0 ls []) := by
    intro H locs hM
    refine lv_aload_n hx hb (kX1_addWeight (i := 0) rfl) rfl (lv_at hl 0 rfl) ?_
    refine gX1_weights C hM q_fX1_36 (kX1_addWeight (i := 1) rfl) ?_
    refine x_bipush hx hb (by decide) (kX1_addWeight (i := 2) rfl) ?_
    refine x_icmp_lt (a' := wr (g 8 8)) (b' := 12) hx hb rfl (by decide) (tgt := 11) (kX1_addWeight (i := 3) rfl) (by decide) (fun c_1 => ?_) (fun c_1 => ?_)
    · have h := it_t c_1 h
      refine lv_aload_n hx hb (kX1_addWeight (i := 6) rfl) rfl (lv_at hl 0 rfl) ?_
      refine gX1_masses C hM q_fX1_11 (kX1_addWeight (i := 7) rfl) ?_
      refine lv_aload_n hx hb (kX1_addWeight (i := 8) rfl) rfl (lv_at hl 0 rfl) ?_
      refine gX1_weights C hM q_fX1_36 (kX1_addWeight (i := 9) rfl) ?_
      refine x_iload_n hx hb (kX1_addWeight (i := 10) rfl) rfl (lv_at hl 1 rfl) ?_
      obtain ⟨hi_2, h⟩ := gd_some h
      obtain ⟨g_3, eg_3, h⟩ := bnd_some h
      refine x_iastX C hM 9 (by decide) (eX_9 Θ) hi_2 eg_3 (kX1_addWeight (i := 11) rfl) (fun H locs hM => ?_)
      refine lv_aload_n hx hb (kX1_addWeight (i := 12) rfl) rfl (lv_at hl 0 rfl) ?_
      refine gX1_toldPlaces C hM q_fX1_15 (kX1_addWeight (i := 13) rfl) ?_
      refine lv_aload_n hx hb (kX1_addWeight (i := 14) rfl) rfl (lv_at hl 0 rfl) ?_
      refine gX1_weights C hM q_fX1_36 (kX1_addWeight (i := 15) rfl) ?_
      refine x_iload_n hx hb (kX1_addWeight (i := 16) rfl) rfl (lv_at hl 2 rfl) ?_
      obtain ⟨hi_4, h⟩ := gd_some h
      obtain ⟨g_5, eg_5, h⟩ := bnd_some h
      refine x_iastX C hM 10 (by decide) (eX_10 Θ) hi_4 eg_5 (kX1_addWeight (i := 17) rfl) (fun H locs hM => ?_)
      refine lv_aload_n hx hb (kX1_addWeight (i := 18) rfl) rfl (lv_at hl 0 rfl) ?_
      refine gX1_heights C hM q_fX1_18 (kX1_addWeight (i := 19) rfl) ?_
      refine lv_aload_n hx hb (kX1_addWeight (i := 20) rfl) rfl (lv_at hl 0 rfl) ?_
      refine gX1_weights C hM q_fX1_36 (kX1_addWeight (i := 21) rfl) ?_
      refine x_iload_n hx hb (kX1_addWeight (i := 22) rfl) rfl (lv_at hl 3 rfl) ?_
      obtain ⟨hi_6, h⟩ := gd_some h
      obtain ⟨g_7, eg_7, h⟩ := bnd_some h
      refine x_iastX C hM 11 (by decide) (eX_11 Θ) hi_6 eg_7 (kX1_addWeight (i := 23) rfl) (fun H locs hM => ?_)
      refine lv_aload_n hx hb (kX1_addWeight (i := 24) rfl) rfl (lv_at hl 0 rfl) ?_
      refine gX1_slips C hM q_fX1_21 (kX1_addWeight (i := 25) rfl) ?_
      refine lv_aload_n hx hb (kX1_addWeight (i := 26) rfl) rfl (lv_at hl 0 rfl) ?_
      refine gX1_weights C hM q_fX1_36 (kX1_addWeight (i := 27) rfl) ?_
      refine x_iload hx hb (kX1_addWeight (i := 28) rfl) (lv_at hl 4 rfl) ?_
      obtain ⟨hi_8, h⟩ := gd_some h
      obtain ⟨g_9, eg_9, h⟩ := bnd_some h
      refine x_iastX C hM 12 (by decide) (eX_12 Θ) hi_8 eg_9 (kX1_addWeight (i := 29) rfl) (fun H locs hM => ?_)
      refine lv_aload_n hx hb (kX1_addWeight (i := 30) rfl) rfl (lv_at hl 0 rfl) ?_
      refine lv_dup hx hb (kX1_addWeight (i := 31) rfl) rfl ?_
      refine gX1_heavy C hM q_fX1_43 (kX1_addWeight (i := 32) rfl) ?_
      refine x_iload_n hx hb (kX1_addWeight (i := 33) rfl) rfl (lv_at hl 1 rfl) ?_
      refine x_iadd hx hb (kX1_addWeight (i := 34) rfl) ?_
      obtain ⟨g_10, eg_10, h⟩ := bnd_some h
      refine pX1_heavy C hM q_fX1_43 eg_10 (kX1_addWeight (i := 35) rfl) (fun H locs hM => ?_)
      refine lv_aload_n hx hb (kX1_addWeight (i := 36) rfl) rfl (lv_at hl 0 rfl) ?_
      refine lv_dup hx hb (kX1_addWeight (i := 37) rfl) rfl ?_
      refine gX1_weights C hM q_fX1_36 (kX1_addWeight (i := 38) rfl) ?_
      obtain ⟨x_11, ex_11, h⟩ := bnd_some h
      refine x_top ex_11 ?_
      refine lv_dup_x1 hx hb (kX1_addWeight (i := 39) rfl) rfl rfl ?_
      refine x_iconst hx hb (kX1_addWeight (i := 40) rfl) ?_
      refine x_iadd hx hb (kX1_addWeight (i := 41) rfl) ?_
      obtain ⟨g_12, eg_12, h⟩ := bnd_some h
      refine pX1_weights C hM q_fX1_36 eg_12 (kX1_addWeight (i := 42) rfl) (fun H locs hM => ?_)
      obtain ⟨q1, q2⟩ := ret2 h
      rw [q1, q2]
      exact x_iret C hM (nar_i _) (kX1_addWeight (i := 43) rfl)
    · have h := it_f c_1 h
      refine x_iconst hx hb (kX1_addWeight (i := 4) rfl) ?_
      obtain ⟨q1, q2⟩ := ret2 h
      rw [q1, q2]
      exact x_iret C hM (nar_i _) (kX1_addWeight (i := 5) rfl)
  exact key _ _ hM

/-! X1_hasWeight -/
def fX1_hasWeight (a0 : Int) (g : Mem) : Option (Int) :=
  if wr a0 < 0 then (
    some 0
  ) else (
    if wr (g 8 8) ≤ wr a0 then (
      some 0
    ) else (
      gd a0 12 <|
      if wr (g 9 (wr a0).toNat) ≤ 0 then (
        some 0
      ) else (
        some 1
      )
    )
  )
set_option maxRecDepth 100000 in
set_option maxHeartbeats 4000000 in
theorem tX1_hasWeight (l : Launch) (Θ : Th) (a0 : Int) (h0 g : Mem) (rv : Int) (h : fX1_hasWeight a0 g = some rv) : Ct l yX1_hasWeight cX1_hasWeight 2 (some .boolean) 0 0 Θ [.ref (Θ.2.2.1 8), vi a0] g h0 g h0 (some (vi rv)) := by
  refine x_start (by decide) (Nat.le_of_ble_eq_true rfl) ?_
  intro p e s m args below meth c ls C hM hl
  have hl : lv_has ls 2 [(0, .ref (Θ.2.2.1 8)), (1, vi a0)] := hl
  obtain ⟨hx, hb, hml, hown, hts, -⟩ := id C
  unfold fX1_hasWeight at h
  have key : ∀ (H : Heap) (locs : List Loc), Hd Θ s g h0 H locs → W p l e { frames := 0, cells := 0, slots := 0, locals := 0 } s m args below meth c H locs 0 0 (MQ below (Qx Θ s.heap.size g h0 (some (vi rv))) args s 0 0 (AA Θ s.heap.size)) (F0 m 0 ls []) := by
    intro H locs hM
    refine x_iload_n hx hb (kX1_hasWeight (i := 0) rfl) rfl (lv_at hl 1 rfl) ?_
    refine x_if_lt (a' := wr a0) hx hb rfl (tgt := 25) (kX1_hasWeight (i := 1) rfl) (by decide) (fun c_1 => ?_) (fun c_1 => ?_)
    · have h := it_t c_1 h
      refine x_iconst hx hb (kX1_hasWeight (i := 13) rfl) ?_
      rw [← Option.some.inj h]
      exact x_iret C hM (nar_z (Or.inl rfl)) (kX1_hasWeight (i := 14) rfl)
    · have h := it_f c_1 h
      refine x_iload_n hx hb (kX1_hasWeight (i := 2) rfl) rfl (lv_at hl 1 rfl) ?_
      refine lv_aload_n hx hb (kX1_hasWeight (i := 3) rfl) rfl (lv_at hl 0 rfl) ?_
      refine gX1_weights C hM q_fX1_36 (kX1_hasWeight (i := 4) rfl) ?_
      refine x_icmp_ge (a' := wr a0) (b' := wr (g 8 8)) hx hb rfl rfl (tgt := 25) (kX1_hasWeight (i := 5) rfl) (by decide) (fun c_2 => ?_) (fun c_2 => ?_)
      · have h := it_t c_2 h
        refine x_iconst hx hb (kX1_hasWeight (i := 13) rfl) ?_
        rw [← Option.some.inj h]
        exact x_iret C hM (nar_z (Or.inl rfl)) (kX1_hasWeight (i := 14) rfl)
      · have h := it_f c_2 h
        refine lv_aload_n hx hb (kX1_hasWeight (i := 6) rfl) rfl (lv_at hl 0 rfl) ?_
        refine gX1_masses C hM q_fX1_11 (kX1_hasWeight (i := 7) rfl) ?_
        refine x_iload_n hx hb (kX1_hasWeight (i := 8) rfl) rfl (lv_at hl 1 rfl) ?_
        obtain ⟨hi_3, h⟩ := gd_some h
        refine x_ialdX C hM 9 (by decide) (eX_9 Θ) hi_3 (kX1_hasWeight (i := 9) rfl) ?_
        refine x_if_le (a' := wr (g 9 (wr a0).toNat)) hx hb rfl (tgt := 25) (kX1_hasWeight (i := 10) rfl) (by decide) (fun c_4 => ?_) (fun c_4 => ?_)
        · have h := it_t c_4 h
          refine x_iconst hx hb (kX1_hasWeight (i := 13) rfl) ?_
          rw [← Option.some.inj h]
          exact x_iret C hM (nar_z (Or.inl rfl)) (kX1_hasWeight (i := 14) rfl)
        · have h := it_f c_4 h
          refine x_iconst hx hb (kX1_hasWeight (i := 11) rfl) ?_
          refine lv_goto (tgt := 26) hx hb (kX1_hasWeight (i := 12) rfl) (by decide) ?_
          rw [← Option.some.inj h]
          exact x_iret C hM (nar_z (Or.inr rfl)) (kX1_hasWeight (i := 14) rfl)
  exact key _ _ hM

/-! X1_dropWeight -/
def fX1_dropWeight (a0 : Int) (g : Mem) : Option (Mem) :=
  bd (fX1_hasWeight a0 g) fun r_1 =>
  if wr r_1 = 0 then (
    some g
  ) else (
    gd a0 12 <|
    bnd (up g 8 10 ((g 8 10) - (g 9 (wr a0).toNat))) fun g_5 =>
    gd a0 12 <|
    bnd (up g_5 9 (wr a0).toNat 0) fun g_7 =>
    some g_7
  )
set_option maxRecDepth 100000 in
set_option maxHeartbeats 4000000 in
theorem tX1_dropWeight (l : Launch) (Θ : Th) (a0 : Int) (h0 g : Mem) (gR : Mem) (h : fX1_dropWeight a0 g = some gR) : Ct l yX1_dropWeight cX1_dropWeight 2 none 1 21 Θ [.ref (Θ.2.2.1 8), vi a0] g h0 gR h0 none := by
  refine x_start (by decide) (Nat.le_of_ble_eq_true rfl) ?_
  intro p e s m args below meth c ls C hM hl
  have hl : lv_has ls 2 [(0, .ref (Θ.2.2.1 8)), (1, vi a0)] := hl
  obtain ⟨hx, hb, hml, hown, hts, -⟩ := id C
  unfold fX1_dropWeight at h
  have key : ∀ (H : Heap) (locs : List Loc), Hd Θ s g h0 H locs → W p l e { frames := 1, cells := 0, slots := 0, locals := 21 } s m args below meth c H locs 0 0 (MQ below (Qx Θ s.heap.size gR h0 none) args s 0 0 (AA Θ s.heap.size)) (F0 m 0 ls []) := by
    intro H locs hM
    refine lv_aload_n hx hb (kX1_dropWeight (i := 0) rfl) rfl (lv_at hl 0 rfl) ?_
    refine x_iload_n hx hb (kX1_dropWeight (i := 1) rfl) rfl (lv_at hl 1 rfl) ?_
    obtain ⟨r_1, hc_2, h⟩ := bd_some h
    refine x_callV (n := 1) (As := [vi a0]) (rest := []) C hM (tX1_hasWeight l Θ a0 h0 g r_1 hc_2) (x_recvX C hM 8 (by decide) (eX_8 Θ _) rfl rfl) q_c_X1_hasWeight q_mX1_46 q_i_X1_hasWeight q_e_X1_hasWeight q_n_X1 (by decide +kernel) ⟨by decide, by decide⟩ rfl hl.1 rfl (Nat.le_of_ble_eq_true rfl) (kX1_dropWeight (i := 2) rfl) (fun H locs hM => ?_)
    refine x_if_eq (a' := wr r_1) hx hb rfl (tgt := 30) (kX1_dropWeight (i := 3) rfl) (by decide) (fun c_3 => ?_) (fun c_3 => ?_)
    · have h := it_t c_3 h
      rw [← Option.some.inj h]
      exact x_vret C hM (kX1_dropWeight (i := 18) rfl)
    · have h := it_f c_3 h
      refine lv_aload_n hx hb (kX1_dropWeight (i := 4) rfl) rfl (lv_at hl 0 rfl) ?_
      refine lv_dup hx hb (kX1_dropWeight (i := 5) rfl) rfl ?_
      refine gX1_heavy C hM q_fX1_43 (kX1_dropWeight (i := 6) rfl) ?_
      refine lv_aload_n hx hb (kX1_dropWeight (i := 7) rfl) rfl (lv_at hl 0 rfl) ?_
      refine gX1_masses C hM q_fX1_11 (kX1_dropWeight (i := 8) rfl) ?_
      refine x_iload_n hx hb (kX1_dropWeight (i := 9) rfl) rfl (lv_at hl 1 rfl) ?_
      obtain ⟨hi_4, h⟩ := gd_some h
      refine x_ialdX C hM 9 (by decide) (eX_9 Θ) hi_4 (kX1_dropWeight (i := 10) rfl) ?_
      refine x_isub hx hb (kX1_dropWeight (i := 11) rfl) ?_
      obtain ⟨g_5, eg_5, h⟩ := bnd_some h
      refine pX1_heavy C hM q_fX1_43 eg_5 (kX1_dropWeight (i := 12) rfl) (fun H locs hM => ?_)
      refine lv_aload_n hx hb (kX1_dropWeight (i := 13) rfl) rfl (lv_at hl 0 rfl) ?_
      refine gX1_masses C hM q_fX1_11 (kX1_dropWeight (i := 14) rfl) ?_
      refine x_iload_n hx hb (kX1_dropWeight (i := 15) rfl) rfl (lv_at hl 1 rfl) ?_
      refine x_iconst hx hb (kX1_dropWeight (i := 16) rfl) ?_
      obtain ⟨hi_6, h⟩ := gd_some h
      obtain ⟨g_7, eg_7, h⟩ := bnd_some h
      refine x_iastX C hM 9 (by decide) (eX_9 Θ) hi_6 eg_7 (kX1_dropWeight (i := 17) rfl) (fun H locs hM => ?_)
      rw [← Option.some.inj h]
      exact x_vret C hM (kX1_dropWeight (i := 18) rfl)
  exact key _ _ hM

/-! X1_addTank -/
def fX1_addTank (a0 : Int) (a1 : Int) (a2 : Int) (g : Mem) : Option (Int × Mem) :=
  if wr (g 8 9) < 4 then (
    gd (g 8 9) 4 <|
    bnd (up g 13 (wr (g 8 9)).toNat a0) fun g_3 =>
    gd (g_3 8 9) 4 <|
    bnd (up g_3 14 (wr (g_3 8 9)).toNat a1) fun g_5 =>
    gd (g_5 8 9) 4 <|
    bnd (up g_5 15 (wr (g_5 8 9)).toNat a2) fun g_7 =>
    bnd (g_7 8 9) fun x_8 =>
    bnd (up g_7 8 9 (x_8 + 1)) fun g_9 =>
    some (x_8, g_9)
  ) else (
    some ((-1), g)
  )
set_option maxRecDepth 100000 in
set_option maxHeartbeats 4000000 in
theorem tX1_addTank (l : Launch) (Θ : Th) (a0 : Int) (a1 : Int) (a2 : Int) (h0 g : Mem) (rv : Int) (gR : Mem) (h : fX1_addTank a0 a1 a2 g = some (rv, gR)) : Ct l yX1_addTank cX1_addTank 4 (some .int) 0 0 Θ [.ref (Θ.2.2.1 8), vi a0, vi a1, vi a2] g h0 gR h0 (some (vi rv)) := by
  refine x_start (by decide) (Nat.le_of_ble_eq_true rfl) ?_
  intro p e s m args below meth c ls C hM hl
  have hl : lv_has ls 4 [(0, .ref (Θ.2.2.1 8)), (1, vi a0), (2, vi a1), (3, vi a2)] := hl
  obtain ⟨hx, hb, hml, hown, hts, -⟩ := id C
  unfold fX1_addTank at h
  have key : ∀ (H : Heap) (locs : List Loc), Hd Θ s g h0 H locs → W p l e { frames := 0, cells := 0, slots := 0, locals := 0 } s m args below meth c H locs 0 0 (MQ below (Qx Θ s.heap.size gR h0 (some (vi rv))) args s 0 0 (AA Θ s.heap.size)) (F0 m 0 ls []) := by
    intro H locs hM
    refine lv_aload_n hx hb (kX1_addTank (i := 0) rfl) rfl (lv_at hl 0 rfl) ?_
    refine gX1_tanks C hM q_fX1_40 (kX1_addTank (i := 1) rfl) ?_
    refine x_iconst hx hb (kX1_addTank (i := 2) rfl) ?_
    refine x_icmp_lt (a' := wr (g 8 9)) (b' := 4) hx hb rfl (by decide) (tgt := 10) (kX1_addTank (i := 3) rfl) (by decide) (fun c_1 => ?_) (fun c_1 => ?_)
    · have h := it_t c_1 h
      refine lv_aload_n hx hb (kX1_addTank (i := 6) rfl) rfl (lv_at hl 0 rfl) ?_
      refine gX1_wides C hM q_fX1_24 (kX1_addTank (i := 7) rfl) ?_
      refine lv_aload_n hx hb (kX1_addTank (i := 8) rfl) rfl (lv_at hl 0 rfl) ?_
      refine gX1_tanks C hM q_fX1_40 (kX1_addTank (i := 9) rfl) ?_
      refine x_iload_n hx hb (kX1_addTank (i := 10) rfl) rfl (lv_at hl 1 rfl) ?_
      obtain ⟨hi_2, h⟩ := gd_some h
      obtain ⟨g_3, eg_3, h⟩ := bnd_some h
      refine x_iastX C hM 13 (by decide) (eX_13 Θ) hi_2 eg_3 (kX1_addTank (i := 11) rfl) (fun H locs hM => ?_)
      refine lv_aload_n hx hb (kX1_addTank (i := 12) rfl) rfl (lv_at hl 0 rfl) ?_
      refine gX1_tankHeights C hM q_fX1_27 (kX1_addTank (i := 13) rfl) ?_
      refine lv_aload_n hx hb (kX1_addTank (i := 14) rfl) rfl (lv_at hl 0 rfl) ?_
      refine gX1_tanks C hM q_fX1_40 (kX1_addTank (i := 15) rfl) ?_
      refine x_iload_n hx hb (kX1_addTank (i := 16) rfl) rfl (lv_at hl 2 rfl) ?_
      obtain ⟨hi_4, h⟩ := gd_some h
      obtain ⟨g_5, eg_5, h⟩ := bnd_some h
      refine x_iastX C hM 14 (by decide) (eX_14 Θ) hi_4 eg_5 (kX1_addTank (i := 17) rfl) (fun H locs hM => ?_)
      refine lv_aload_n hx hb (kX1_addTank (i := 18) rfl) rfl (lv_at hl 0 rfl) ?_
      refine gX1_mosts C hM q_fX1_30 (kX1_addTank (i := 19) rfl) ?_
      refine lv_aload_n hx hb (kX1_addTank (i := 20) rfl) rfl (lv_at hl 0 rfl) ?_
      refine gX1_tanks C hM q_fX1_40 (kX1_addTank (i := 21) rfl) ?_
      refine x_iload_n hx hb (kX1_addTank (i := 22) rfl) rfl (lv_at hl 3 rfl) ?_
      obtain ⟨hi_6, h⟩ := gd_some h
      obtain ⟨g_7, eg_7, h⟩ := bnd_some h
      refine x_iastX C hM 15 (by decide) (eX_15 Θ) hi_6 eg_7 (kX1_addTank (i := 23) rfl) (fun H locs hM => ?_)
      refine lv_aload_n hx hb (kX1_addTank (i := 24) rfl) rfl (lv_at hl 0 rfl) ?_
      refine lv_dup hx hb (kX1_addTank (i := 25) rfl) rfl ?_
      refine gX1_tanks C hM q_fX1_40 (kX1_addTank (i := 26) rfl) ?_
      obtain ⟨x_8, ex_8, h⟩ := bnd_some h
      refine x_top ex_8 ?_
      refine lv_dup_x1 hx hb (kX1_addTank (i := 27) rfl) rfl rfl ?_
      refine x_iconst hx hb (kX1_addTank (i := 28) rfl) ?_
      refine x_iadd hx hb (kX1_addTank (i := 29) rfl) ?_
      obtain ⟨g_9, eg_9, h⟩ := bnd_some h
      refine pX1_tanks C hM q_fX1_40 eg_9 (kX1_addTank (i := 30) rfl) (fun H locs hM => ?_)
      obtain ⟨q1, q2⟩ := ret2 h
      rw [q1, q2]
      exact x_iret C hM (nar_i _) (kX1_addTank (i := 31) rfl)
    · have h := it_f c_1 h
      refine x_iconst hx hb (kX1_addTank (i := 4) rfl) ?_
      obtain ⟨q1, q2⟩ := ret2 h
      rw [q1, q2]
      exact x_iret C hM (nar_i _) (kX1_addTank (i := 5) rfl)
  exact key _ _ hM

/-! X1_fillTank -/
def fX1_fillTank (a0 : Int) (a1 : Int) (g : Mem) : Option (Int × Mem) :=
  if wr a0 < 0 then (
    some (0, g)
  ) else (
    if wr (g 8 9) ≤ wr a0 then (
      some (0, g)
    ) else (
      if wr a1 < 0 then (
        some (0, g)
      ) else (
        gd a0 4 <|
        if wr a1 ≤ wr (g 15 (wr a0).toNat) then (
          gd a0 4 <|
          bnd (up g 8 10 ((g 8 10) + (a1 - (g 16 (wr a0).toNat)))) fun g_7 =>
          gd a0 4 <|
          bnd (up g_7 16 (wr a0).toNat a1) fun g_9 =>
          some (1, g_9)
        ) else (
          some (0, g)
        )
      )
    )
  )
set_option maxRecDepth 100000 in
set_option maxHeartbeats 4000000 in
theorem tX1_fillTank (l : Launch) (Θ : Th) (a0 : Int) (a1 : Int) (h0 g : Mem) (rv : Int) (gR : Mem) (h : fX1_fillTank a0 a1 g = some (rv, gR)) : Ct l yX1_fillTank cX1_fillTank 3 (some .boolean) 0 0 Θ [.ref (Θ.2.2.1 8), vi a0, vi a1] g h0 gR h0 (some (vi rv)) := by
  refine x_start (by decide) (Nat.le_of_ble_eq_true rfl) ?_
  intro p e s m args below meth c ls C hM hl
  have hl : lv_has ls 3 [(0, .ref (Θ.2.2.1 8)), (1, vi a0), (2, vi a1)] := hl
  obtain ⟨hx, hb, hml, hown, hts, -⟩ := id C
  unfold fX1_fillTank at h
  have key : ∀ (H : Heap) (locs : List Loc), Hd Θ s g h0 H locs → W p l e { frames := 0, cells := 0, slots := 0, locals := 0 } s m args below meth c H locs 0 0 (MQ below (Qx Θ s.heap.size gR h0 (some (vi rv))) args s 0 0 (AA Θ s.heap.size)) (F0 m 0 ls []) := by
    intro H locs hM
    refine x_iload_n hx hb (kX1_fillTank (i := 0) rfl) rfl (lv_at hl 1 rfl) ?_
    refine x_if_lt (a' := wr a0) hx hb rfl (tgt := 26) (kX1_fillTank (i := 1) rfl) (by decide) (fun c_1 => ?_) (fun c_1 => ?_)
    · have h := it_t c_1 h
      refine x_iconst hx hb (kX1_fillTank (i := 14) rfl) ?_
      obtain ⟨q1, q2⟩ := ret2 h
      rw [q1, q2]
      exact x_iret C hM (nar_z (Or.inl rfl)) (kX1_fillTank (i := 15) rfl)
    · have h := it_f c_1 h
      refine x_iload_n hx hb (kX1_fillTank (i := 2) rfl) rfl (lv_at hl 1 rfl) ?_
      refine lv_aload_n hx hb (kX1_fillTank (i := 3) rfl) rfl (lv_at hl 0 rfl) ?_
      refine gX1_tanks C hM q_fX1_40 (kX1_fillTank (i := 4) rfl) ?_
      refine x_icmp_ge (a' := wr a0) (b' := wr (g 8 9)) hx hb rfl rfl (tgt := 26) (kX1_fillTank (i := 5) rfl) (by decide) (fun c_2 => ?_) (fun c_2 => ?_)
      · have h := it_t c_2 h
        refine x_iconst hx hb (kX1_fillTank (i := 14) rfl) ?_
        obtain ⟨q1, q2⟩ := ret2 h
        rw [q1, q2]
        exact x_iret C hM (nar_z (Or.inl rfl)) (kX1_fillTank (i := 15) rfl)
      · have h := it_f c_2 h
        refine x_iload_n hx hb (kX1_fillTank (i := 6) rfl) rfl (lv_at hl 2 rfl) ?_
        refine x_if_lt (a' := wr a1) hx hb rfl (tgt := 26) (kX1_fillTank (i := 7) rfl) (by decide) (fun c_3 => ?_) (fun c_3 => ?_)
        · have h := it_t c_3 h
          refine x_iconst hx hb (kX1_fillTank (i := 14) rfl) ?_
          obtain ⟨q1, q2⟩ := ret2 h
          rw [q1, q2]
          exact x_iret C hM (nar_z (Or.inl rfl)) (kX1_fillTank (i := 15) rfl)
        · have h := it_f c_3 h
          refine x_iload_n hx hb (kX1_fillTank (i := 8) rfl) rfl (lv_at hl 2 rfl) ?_
          refine lv_aload_n hx hb (kX1_fillTank (i := 9) rfl) rfl (lv_at hl 0 rfl) ?_
          refine gX1_mosts C hM q_fX1_30 (kX1_fillTank (i := 10) rfl) ?_
          refine x_iload_n hx hb (kX1_fillTank (i := 11) rfl) rfl (lv_at hl 1 rfl) ?_
          obtain ⟨hi_4, h⟩ := gd_some h
          refine x_ialdX C hM 15 (by decide) (eX_15 Θ) hi_4 (kX1_fillTank (i := 12) rfl) ?_
          refine x_icmp_le (a' := wr a1) (b' := wr (g 15 (wr a0).toNat)) hx hb rfl rfl (tgt := 28) (kX1_fillTank (i := 13) rfl) (by decide) (fun c_5 => ?_) (fun c_5 => ?_)
          · have h := it_t c_5 h
            refine lv_aload_n hx hb (kX1_fillTank (i := 16) rfl) rfl (lv_at hl 0 rfl) ?_
            refine lv_dup hx hb (kX1_fillTank (i := 17) rfl) rfl ?_
            refine gX1_heavy C hM q_fX1_43 (kX1_fillTank (i := 18) rfl) ?_
            refine x_iload_n hx hb (kX1_fillTank (i := 19) rfl) rfl (lv_at hl 2 rfl) ?_
            refine lv_aload_n hx hb (kX1_fillTank (i := 20) rfl) rfl (lv_at hl 0 rfl) ?_
            refine gX1_waters C hM q_fX1_33 (kX1_fillTank (i := 21) rfl) ?_
            refine x_iload_n hx hb (kX1_fillTank (i := 22) rfl) rfl (lv_at hl 1 rfl) ?_
            obtain ⟨hi_6, h⟩ := gd_some h
            refine x_ialdX C hM 16 (by decide) (eX_16 Θ) hi_6 (kX1_fillTank (i := 23) rfl) ?_
            refine x_isub hx hb (kX1_fillTank (i := 24) rfl) ?_
            refine x_iadd hx hb (kX1_fillTank (i := 25) rfl) ?_
            obtain ⟨g_7, eg_7, h⟩ := bnd_some h
            refine pX1_heavy C hM q_fX1_43 eg_7 (kX1_fillTank (i := 26) rfl) (fun H locs hM => ?_)
            refine lv_aload_n hx hb (kX1_fillTank (i := 27) rfl) rfl (lv_at hl 0 rfl) ?_
            refine gX1_waters C hM q_fX1_33 (kX1_fillTank (i := 28) rfl) ?_
            refine x_iload_n hx hb (kX1_fillTank (i := 29) rfl) rfl (lv_at hl 1 rfl) ?_
            refine x_iload_n hx hb (kX1_fillTank (i := 30) rfl) rfl (lv_at hl 2 rfl) ?_
            obtain ⟨hi_8, h⟩ := gd_some h
            obtain ⟨g_9, eg_9, h⟩ := bnd_some h
            refine x_iastX C hM 16 (by decide) (eX_16 Θ) hi_8 eg_9 (kX1_fillTank (i := 31) rfl) (fun H locs hM => ?_)
            refine x_iconst hx hb (kX1_fillTank (i := 32) rfl) ?_
            obtain ⟨q1, q2⟩ := ret2 h
            rw [q1, q2]
            exact x_iret C hM (nar_z (Or.inr rfl)) (kX1_fillTank (i := 33) rfl)
          · have h := it_f c_5 h
            refine x_iconst hx hb (kX1_fillTank (i := 14) rfl) ?_
            obtain ⟨q1, q2⟩ := ret2 h
            rw [q1, q2]
            exact x_iret C hM (nar_z (Or.inl rfl)) (kX1_fillTank (i := 15) rfl)
  exact key _ _ hM

/-! X1_slide -/
def fX1_slide_L2 (q : Nat) : Nat → Int → Int → Mem → Option (Mem)
  | 0, _, _, _ => none
  | n + 1, y1, y3, g =>
    if wr (g 8 8) ≤ wr y3 then (
      some g
    ) else (
      if 12 ≤ wr y3 then (
        some g
      ) else (
        gd y3 12 <|
        jn (fun (g_4 : Mem) =>
          bnd (y3 + 1) fun x_5 =>
          fX1_slide_L2 q n y1 x_5 g_4
        ) fun J89 =>
        if wr (g 9 (wr y3).toNat) ≤ 0 then (
          J89 g
        ) else (
          gd y3 12 <|
          if wr (g 12 (wr y3).toNat) = (-1) then (
            J89 g
          ) else (
            gd y3 12 <|
            jn (fun (_ : Unit) =>
              gd y3 12 <|
              if wr (-(g 12 (wr y3).toNat)) ≤ wr y1 then (
                J89 g
              ) else (
                gd y3 12 <|
                if wr (g q (wr y3).toNat) ≤ (-19) then (
                  J89 g
                ) else (
                  gd y3 12 <|
                  gd y3 12 <|
                  bnd (up g q (wr y3).toNat ((g q (wr y3).toNat) - 1)) fun g_16 =>
                  J89 g_16
                )
              )
            ) fun J63 =>
            if wr y1 ≤ wr (g 12 (wr y3).toNat) then (
              J63 ()
            ) else (
              gd y3 12 <|
              if 19 ≤ wr (g q (wr y3).toNat) then (
                J63 ()
              ) else (
                gd y3 12 <|
                gd y3 12 <|
                bnd (up g q (wr y3).toNat ((g q (wr y3).toNat) + 1)) fun g_22 =>
                J89 g_22
              )
            )
          )
        )
      )
    )
def fX1_slide (q : Nat) (a0 : Int) (g : Mem) : Option (Mem) :=
  fX1_slide_L2 q fuel a0 0 g
set_option maxRecDepth 100000 in
set_option maxHeartbeats 4000000 in
theorem wX1_slide_L2 {p : Program} {l : Launch} {e : Env} {s : State} {m : MethodId} {args : Array Value} {below : List Frame} {meth : Method} {c : Code} {Θ : Th} {h0 : Mem} {q : Nat} (hP : isP q) {gR : Mem} (C : Cx p s m args meth c cX1_slide 4 RX1 none Θ) : ∀ (n : Nat) (y1 : Int) (y3 : Int) (g : Mem) (H : Heap) (locs : List Loc) (ls : Array Slot), fX1_slide_L2 q n y1 y3 g = some gR → Hd Θ s g h0 H locs → lv_has ls 4 [(0, .ref (Θ.2.2.1 8)), (1, vi y1), (2, .ref (Θ.2.2.1 q)), (3, vi y3)] → W p l e { frames := 0, cells := 0, slots := 0, locals := 0 } s m args below meth c H locs 0 0 (MQ below (Qx Θ s.heap.size gR h0 none) args s 0 0 (AA Θ s.heap.size)) (F0 m 2 ls []) := by
  intro n
  obtain ⟨hx, hb, hml, hown, hts, -⟩ := id C
  induction n with
  | zero => intro y1 y3 g H locs ls h; cases h
  | succ n ih =>
    intro y1 y3 g H locs ls h  hM hl
    rw [fX1_slide_L2] at h
    refine x_iload_n hx hb (kX1_slide (i := 2) rfl) rfl (lv_at hl 3 rfl) ?_
    refine lv_aload_n hx hb (kX1_slide (i := 3) rfl) rfl (lv_at hl 0 rfl) ?_
    refine gX1_weights C hM q_fX1_36 (kX1_slide (i := 4) rfl) ?_
    refine x_icmp_ge (a' := wr y3) (b' := wr (g 8 8)) hx hb rfl rfl (tgt := 95) (kX1_slide (i := 5) rfl) (by decide) (fun c_1 => ?_) (fun c_1 => ?_)
    · have h := it_t c_1 h
      rw [← Option.some.inj h]
      exact x_vret C hM (kX1_slide (i := 61) rfl)
    · have h := it_f c_1 h
      refine x_iload_n hx hb (kX1_slide (i := 6) rfl) rfl (lv_at hl 3 rfl) ?_
      refine lv_aload_n hx hb (kX1_slide (i := 7) rfl) rfl (lv_at hl 2 rfl) ?_
      refine x_alenX C hM q (isP_lt hP) (eX_P hP) (z0 := 12) rfl (kX1_slide (i := 8) rfl) ?_
      refine x_icmp_ge (a' := wr y3) (b' := 12) hx hb rfl (by decide) (tgt := 95) (kX1_slide (i := 9) rfl) (by decide) (fun c_2 => ?_) (fun c_2 => ?_)
      · have h := it_t c_2 h
        rw [← Option.some.inj h]
        exact x_vret C hM (kX1_slide (i := 61) rfl)
      · have h := it_f c_2 h
        refine lv_aload_n hx hb (kX1_slide (i := 10) rfl) rfl (lv_at hl 0 rfl) ?_
        refine gX1_masses C hM q_fX1_11 (kX1_slide (i := 11) rfl) ?_
        refine x_iload_n hx hb (kX1_slide (i := 12) rfl) rfl (lv_at hl 3 rfl) ?_
        obtain ⟨hi_3, h⟩ := gd_some h
        refine x_ialdX C hM 9 (by decide) (eX_9 Θ) hi_3 (kX1_slide (i := 13) rfl) ?_
        refine jn_go h (fun J89 : Mem → Option (Mem) => ∀ (g_4 : Mem) (H : Heap) (locs : List Loc) (ls : Array Slot), J89 g_4 = some gR → Hd Θ s g_4 h0 H locs → lv_has ls 4 [(0, .ref (Θ.2.2.1 8)), (1, vi y1), (2, .ref (Θ.2.2.1 q)), (3, vi y3)] → W p l e { frames := 0, cells := 0, slots := 0, locals := 0 } s m args below meth c H locs 0 0 (MQ below (Qx Θ s.heap.size gR h0 none) args s 0 0 (AA Θ s.heap.size)) (F0 m 89 ls [])) ?_ ?_
        · intro g_4 H locs ls h hM hl
          obtain ⟨x_5, ex_5, h⟩ := bnd_some h
          refine x_iinc (k := 3) (lv' := [(3, vi x_5), (0, .ref (Θ.2.2.1 8)), (1, vi y1), (2, .ref (Θ.2.2.1 q))]) hx hb (kX1_slide (i := 59) rfl) hl rfl ex_5 (by decide) rfl (fun ls hl => ?_)
          refine lv_goto (tgt := 2) hx hb (kX1_slide (i := 60) rfl) (by decide) ?_
          exact ih y1 x_5 g_4 H locs ls h hM (lv_sub hl [1, 2, 3, 0] rfl)
        intro J89 hJ89 h
        refine x_if_le (a' := wr (g 9 (wr y3).toNat)) hx hb rfl (tgt := 89) (kX1_slide (i := 14) rfl) (by decide) (fun c_6 => ?_) (fun c_6 => ?_)
        · have h := it_t c_6 h
          exact hJ89 g H locs ls h hM (lv_sub hl [0, 1, 2, 3] rfl)
        · have h := it_f c_6 h
          refine lv_aload_n hx hb (kX1_slide (i := 15) rfl) rfl (lv_at hl 0 rfl) ?_
          refine gX1_slips C hM q_fX1_21 (kX1_slide (i := 16) rfl) ?_
          refine x_iload_n hx hb (kX1_slide (i := 17) rfl) rfl (lv_at hl 3 rfl) ?_
          obtain ⟨hi_7, h⟩ := gd_some h
          refine x_ialdX C hM 12 (by decide) (eX_12 Θ) hi_7 (kX1_slide (i := 18) rfl) ?_
          refine x_iconst hx hb (kX1_slide (i := 19) rfl) ?_
          refine x_icmp_eq (a' := wr (g 12 (wr y3).toNat)) (b' := (-1)) hx hb rfl (by decide) (tgt := 89) (kX1_slide (i := 20) rfl) (by decide) (fun c_8 => ?_) (fun c_8 => ?_)
          · have h := it_t c_8 h
            exact hJ89 g H locs ls h hM (lv_sub hl [0, 1, 2, 3] rfl)
          · have h := it_f c_8 h
            refine x_iload_n hx hb (kX1_slide (i := 21) rfl) rfl (lv_at hl 1 rfl) ?_
            refine lv_aload_n hx hb (kX1_slide (i := 22) rfl) rfl (lv_at hl 0 rfl) ?_
            refine gX1_slips C hM q_fX1_21 (kX1_slide (i := 23) rfl) ?_
            refine x_iload_n hx hb (kX1_slide (i := 24) rfl) rfl (lv_at hl 3 rfl) ?_
            obtain ⟨hi_9, h⟩ := gd_some h
            refine x_ialdX C hM 12 (by decide) (eX_12 Θ) hi_9 (kX1_slide (i := 25) rfl) ?_
            refine jn_go h (fun J63 : Unit → Option (Mem) => ∀ (H : Heap) (locs : List Loc) (ls : Array Slot), J63 () = some gR → Hd Θ s g h0 H locs → lv_has ls 4 [(0, .ref (Θ.2.2.1 8)), (1, vi y1), (2, .ref (Θ.2.2.1 q)), (3, vi y3)] → W p l e { frames := 0, cells := 0, slots := 0, locals := 0 } s m args below meth c H locs 0 0 (MQ below (Qx Θ s.heap.size gR h0 none) args s 0 0 (AA Θ s.heap.size)) (F0 m 63 ls [])) ?_ ?_
            · intro  H locs ls h hM hl
              refine x_iload_n hx hb (kX1_slide (i := 40) rfl) rfl (lv_at hl 1 rfl) ?_
              refine lv_aload_n hx hb (kX1_slide (i := 41) rfl) rfl (lv_at hl 0 rfl) ?_
              refine gX1_slips C hM q_fX1_21 (kX1_slide (i := 42) rfl) ?_
              refine x_iload_n hx hb (kX1_slide (i := 43) rfl) rfl (lv_at hl 3 rfl) ?_
              obtain ⟨hi_10, h⟩ := gd_some h
              refine x_ialdX C hM 12 (by decide) (eX_12 Θ) hi_10 (kX1_slide (i := 44) rfl) ?_
              refine x_ineg hx hb (kX1_slide (i := 45) rfl) ?_
              refine x_icmp_ge (a' := wr y1) (b' := wr (-(g 12 (wr y3).toNat))) hx hb rfl rfl (tgt := 89) (kX1_slide (i := 46) rfl) (by decide) (fun c_11 => ?_) (fun c_11 => ?_)
              · have h := it_t c_11 h
                exact hJ89 g H locs ls h hM (lv_sub hl [0, 1, 2, 3] rfl)
              · have h := it_f c_11 h
                refine lv_aload_n hx hb (kX1_slide (i := 47) rfl) rfl (lv_at hl 2 rfl) ?_
                refine x_iload_n hx hb (kX1_slide (i := 48) rfl) rfl (lv_at hl 3 rfl) ?_
                obtain ⟨hi_12, h⟩ := gd_some h
                refine x_ialdX C hM q (isP_lt hP) (eX_P hP) hi_12 (kX1_slide (i := 49) rfl) ?_
                refine x_bipush hx hb (by decide) (kX1_slide (i := 50) rfl) ?_
                refine x_icmp_le (a' := wr (g q (wr y3).toNat)) (b' := (-19)) hx hb rfl (by decide) (tgt := 89) (kX1_slide (i := 51) rfl) (by decide) (fun c_13 => ?_) (fun c_13 => ?_)
                · have h := it_t c_13 h
                  exact hJ89 g H locs ls h hM (lv_sub hl [0, 1, 2, 3] rfl)
                · have h := it_f c_13 h
                  refine lv_aload_n hx hb (kX1_slide (i := 52) rfl) rfl (lv_at hl 2 rfl) ?_
                  refine x_iload_n hx hb (kX1_slide (i := 53) rfl) rfl (lv_at hl 3 rfl) ?_
                  refine lv_dup2_11 hx hb (kX1_slide (i := 54) rfl) rfl rfl ?_
                  obtain ⟨hi_14, h⟩ := gd_some h
                  refine x_ialdX C hM q (isP_lt hP) (eX_P hP) hi_14 (kX1_slide (i := 55) rfl) ?_
                  refine x_iconst hx hb (kX1_slide (i := 56) rfl) ?_
                  refine x_isub hx hb (kX1_slide (i := 57) rfl) ?_
                  obtain ⟨hi_15, h⟩ := gd_some h
                  obtain ⟨g_16, eg_16, h⟩ := bnd_some h
                  refine x_iastX C hM q (isP_lt hP) (eX_P hP) hi_15 eg_16 (kX1_slide (i := 58) rfl) (fun H locs hM => ?_)
                  exact hJ89 g_16 H locs ls h hM (lv_sub hl [0, 1, 2, 3] rfl)
            intro J63 hJ63 h
            refine x_icmp_le (a' := wr y1) (b' := wr (g 12 (wr y3).toNat)) hx hb rfl rfl (tgt := 63) (kX1_slide (i := 26) rfl) (by decide) (fun c_17 => ?_) (fun c_17 => ?_)
            · have h := it_t c_17 h
              exact hJ63 H locs ls h hM (lv_sub hl [0, 1, 2, 3] rfl)
            · have h := it_f c_17 h
              refine lv_aload_n hx hb (kX1_slide (i := 27) rfl) rfl (lv_at hl 2 rfl) ?_
              refine x_iload_n hx hb (kX1_slide (i := 28) rfl) rfl (lv_at hl 3 rfl) ?_
              obtain ⟨hi_18, h⟩ := gd_some h
              refine x_ialdX C hM q (isP_lt hP) (eX_P hP) hi_18 (kX1_slide (i := 29) rfl) ?_
              refine x_bipush hx hb (by decide) (kX1_slide (i := 30) rfl) ?_
              refine x_icmp_ge (a' := wr (g q (wr y3).toNat)) (b' := 19) hx hb rfl (by decide) (tgt := 63) (kX1_slide (i := 31) rfl) (by decide) (fun c_19 => ?_) (fun c_19 => ?_)
              · have h := it_t c_19 h
                exact hJ63 H locs ls h hM (lv_sub hl [0, 1, 2, 3] rfl)
              · have h := it_f c_19 h
                refine lv_aload_n hx hb (kX1_slide (i := 32) rfl) rfl (lv_at hl 2 rfl) ?_
                refine x_iload_n hx hb (kX1_slide (i := 33) rfl) rfl (lv_at hl 3 rfl) ?_
                refine lv_dup2_11 hx hb (kX1_slide (i := 34) rfl) rfl rfl ?_
                obtain ⟨hi_20, h⟩ := gd_some h
                refine x_ialdX C hM q (isP_lt hP) (eX_P hP) hi_20 (kX1_slide (i := 35) rfl) ?_
                refine x_iconst hx hb (kX1_slide (i := 36) rfl) ?_
                refine x_iadd hx hb (kX1_slide (i := 37) rfl) ?_
                obtain ⟨hi_21, h⟩ := gd_some h
                obtain ⟨g_22, eg_22, h⟩ := bnd_some h
                refine x_iastX C hM q (isP_lt hP) (eX_P hP) hi_21 eg_22 (kX1_slide (i := 38) rfl) (fun H locs hM => ?_)
                refine lv_goto (tgt := 89) hx hb (kX1_slide (i := 39) rfl) (by decide) ?_
                exact hJ89 g_22 H locs ls h hM (lv_sub hl [0, 1, 2, 3] rfl)
set_option maxRecDepth 100000 in
set_option maxHeartbeats 4000000 in
theorem tX1_slide (l : Launch) (Θ : Th) (q : Nat) (hP : isP q) (a0 : Int) (h0 g : Mem) (gR : Mem) (h : fX1_slide q a0 g = some gR) : Ct l yX1_slide cX1_slide 4 none 0 0 Θ [.ref (Θ.2.2.1 8), vi a0, .ref (Θ.2.2.1 q)] g h0 gR h0 none := by
  refine x_start (by decide) (Nat.le_of_ble_eq_true rfl) ?_
  intro p e s m args below meth c ls C hM hl
  have hl : lv_has ls 4 [(0, .ref (Θ.2.2.1 8)), (1, vi a0), (2, .ref (Θ.2.2.1 q))] := hl
  obtain ⟨hx, hb, hml, hown, hts, -⟩ := id C
  unfold fX1_slide at h
  have key : ∀ (H : Heap) (locs : List Loc), Hd Θ s g h0 H locs → W p l e { frames := 0, cells := 0, slots := 0, locals := 0 } s m args below meth c H locs 0 0 (MQ below (Qx Θ s.heap.size gR h0 none) args s 0 0 (AA Θ s.heap.size)) (F0 m 0 ls []) := by
    intro H locs hM
    refine x_iconst hx hb (kX1_slide (i := 0) rfl) ?_
    refine x_istore_n (lv' := [(3, vi 0), (0, .ref (Θ.2.2.1 8)), (1, vi a0), (2, .ref (Θ.2.2.1 q))]) hx hb (kX1_slide (i := 1) rfl) rfl hl (by decide) rfl (fun ls hl => ?_)
    refine wX1_slide_L2  hP C fuel a0 0 g H locs ls h  hM (lv_sub hl [1, 2, 3, 0] rfl)
  exact key _ _ hM

/-! X1_countMoved -/
def fX1_countMoved_L4 (q : Nat) : Nat → Int → Int → Mem → Option (Int)
  | 0, _, _, _ => none
  | n + 1, y2, y3, g =>
    if wr (g 8 8) ≤ wr y3 then (
      some y2
    ) else (
      if 12 ≤ wr y3 then (
        some y2
      ) else (
        gd y3 12 <|
        jn (fun (p_4 : Int) =>
          bnd (y3 + 1) fun x_5 =>
          fX1_countMoved_L4 q n p_4 x_5 g
        ) fun J42 =>
        if wr (g 9 (wr y3).toNat) ≤ 0 then (
          J42 y2
        ) else (
          gd y3 12 <|
          gd y3 12 <|
          if wr (g q (wr y3).toNat) = wr (g 10 (wr y3).toNat) then (
            J42 y2
          ) else (
            bnd (y2 + 1) fun x_10 =>
            J42 x_10
          )
        )
      )
    )
def fX1_countMoved (q : Nat) (g : Mem) : Option (Int) :=
  fX1_countMoved_L4 q fuel 0 0 g
set_option maxRecDepth 100000 in
set_option maxHeartbeats 4000000 in
theorem wX1_countMoved_L4 {p : Program} {l : Launch} {e : Env} {s : State} {m : MethodId} {args : Array Value} {below : List Frame} {meth : Method} {c : Code} {Θ : Th} {h0 : Mem} {g : Mem} {q : Nat} (hP : isP q) {rv : Int} (C : Cx p s m args meth c cX1_countMoved 4 RX1 (some .int) Θ) : ∀ (n : Nat) (y2 : Int) (y3 : Int) (H : Heap) (locs : List Loc) (ls : Array Slot), fX1_countMoved_L4 q n y2 y3 g = some rv → Hd Θ s g h0 H locs → lv_has ls 4 [(0, .ref (Θ.2.2.1 8)), (1, .ref (Θ.2.2.1 q)), (2, vi y2), (3, vi y3)] → W p l e { frames := 0, cells := 0, slots := 0, locals := 0 } s m args below meth c H locs 0 0 (MQ below (Qx Θ s.heap.size g h0 (some (vi rv))) args s 0 0 (AA Θ s.heap.size)) (F0 m 4 ls []) := by
  intro n
  obtain ⟨hx, hb, hml, hown, hts, -⟩ := id C
  induction n with
  | zero => intro y2 y3 H locs ls h; cases h
  | succ n ih =>
    intro y2 y3 H locs ls h  hM hl
    rw [fX1_countMoved_L4] at h
    refine x_iload_n hx hb (kX1_countMoved (i := 4) rfl) rfl (lv_at hl 3 rfl) ?_
    refine lv_aload_n hx hb (kX1_countMoved (i := 5) rfl) rfl (lv_at hl 0 rfl) ?_
    refine gX1_weights C hM q_fX1_36 (kX1_countMoved (i := 6) rfl) ?_
    refine x_icmp_ge (a' := wr y3) (b' := wr (g 8 8)) hx hb rfl rfl (tgt := 48) (kX1_countMoved (i := 7) rfl) (by decide) (fun c_1 => ?_) (fun c_1 => ?_)
    · have h := it_t c_1 h
      refine x_iload_n hx hb (kX1_countMoved (i := 28) rfl) rfl (lv_at hl 2 rfl) ?_
      rw [← Option.some.inj h]
      exact x_iret C hM (nar_i _) (kX1_countMoved (i := 29) rfl)
    · have h := it_f c_1 h
      refine x_iload_n hx hb (kX1_countMoved (i := 8) rfl) rfl (lv_at hl 3 rfl) ?_
      refine lv_aload_n hx hb (kX1_countMoved (i := 9) rfl) rfl (lv_at hl 1 rfl) ?_
      refine x_alenX C hM q (isP_lt hP) (eX_P hP) (z0 := 12) rfl (kX1_countMoved (i := 10) rfl) ?_
      refine x_icmp_ge (a' := wr y3) (b' := 12) hx hb rfl (by decide) (tgt := 48) (kX1_countMoved (i := 11) rfl) (by decide) (fun c_2 => ?_) (fun c_2 => ?_)
      · have h := it_t c_2 h
        refine x_iload_n hx hb (kX1_countMoved (i := 28) rfl) rfl (lv_at hl 2 rfl) ?_
        rw [← Option.some.inj h]
        exact x_iret C hM (nar_i _) (kX1_countMoved (i := 29) rfl)
      · have h := it_f c_2 h
        refine lv_aload_n hx hb (kX1_countMoved (i := 12) rfl) rfl (lv_at hl 0 rfl) ?_
        refine gX1_masses C hM q_fX1_11 (kX1_countMoved (i := 13) rfl) ?_
        refine x_iload_n hx hb (kX1_countMoved (i := 14) rfl) rfl (lv_at hl 3 rfl) ?_
        obtain ⟨hi_3, h⟩ := gd_some h
        refine x_ialdX C hM 9 (by decide) (eX_9 Θ) hi_3 (kX1_countMoved (i := 15) rfl) ?_
        refine jn_go h (fun J42 : Int → Option (Int) => ∀ (p_4 : Int) (H : Heap) (locs : List Loc) (ls : Array Slot), J42 p_4 = some rv → Hd Θ s g h0 H locs → lv_has ls 4 [(0, .ref (Θ.2.2.1 8)), (1, .ref (Θ.2.2.1 q)), (2, vi p_4), (3, vi y3)] → W p l e { frames := 0, cells := 0, slots := 0, locals := 0 } s m args below meth c H locs 0 0 (MQ below (Qx Θ s.heap.size g h0 (some (vi rv))) args s 0 0 (AA Θ s.heap.size)) (F0 m 42 ls [])) ?_ ?_
        · intro p_4 H locs ls h hM hl
          obtain ⟨x_5, ex_5, h⟩ := bnd_some h
          refine x_iinc (k := 3) (lv' := [(3, vi x_5), (0, .ref (Θ.2.2.1 8)), (1, .ref (Θ.2.2.1 q)), (2, vi p_4)]) hx hb (kX1_countMoved (i := 26) rfl) hl rfl ex_5 (by decide) rfl (fun ls hl => ?_)
          refine lv_goto (tgt := 4) hx hb (kX1_countMoved (i := 27) rfl) (by decide) ?_
          exact ih p_4 x_5 H locs ls h hM (lv_sub hl [1, 2, 3, 0] rfl)
        intro J42 hJ42 h
        refine x_if_le (a' := wr (g 9 (wr y3).toNat)) hx hb rfl (tgt := 42) (kX1_countMoved (i := 16) rfl) (by decide) (fun c_6 => ?_) (fun c_6 => ?_)
        · have h := it_t c_6 h
          exact hJ42 y2 H locs ls h hM (lv_sub hl [0, 1, 2, 3] rfl)
        · have h := it_f c_6 h
          refine lv_aload_n hx hb (kX1_countMoved (i := 17) rfl) rfl (lv_at hl 1 rfl) ?_
          refine x_iload_n hx hb (kX1_countMoved (i := 18) rfl) rfl (lv_at hl 3 rfl) ?_
          obtain ⟨hi_7, h⟩ := gd_some h
          refine x_ialdX C hM q (isP_lt hP) (eX_P hP) hi_7 (kX1_countMoved (i := 19) rfl) ?_
          refine lv_aload_n hx hb (kX1_countMoved (i := 20) rfl) rfl (lv_at hl 0 rfl) ?_
          refine gX1_toldPlaces C hM q_fX1_15 (kX1_countMoved (i := 21) rfl) ?_
          refine x_iload_n hx hb (kX1_countMoved (i := 22) rfl) rfl (lv_at hl 3 rfl) ?_
          obtain ⟨hi_8, h⟩ := gd_some h
          refine x_ialdX C hM 10 (by decide) (eX_10 Θ) hi_8 (kX1_countMoved (i := 23) rfl) ?_
          refine x_icmp_eq (a' := wr (g q (wr y3).toNat)) (b' := wr (g 10 (wr y3).toNat)) hx hb rfl rfl (tgt := 42) (kX1_countMoved (i := 24) rfl) (by decide) (fun c_9 => ?_) (fun c_9 => ?_)
          · have h := it_t c_9 h
            exact hJ42 y2 H locs ls h hM (lv_sub hl [0, 1, 2, 3] rfl)
          · have h := it_f c_9 h
            obtain ⟨x_10, ex_10, h⟩ := bnd_some h
            refine x_iinc (k := 2) (lv' := [(2, vi x_10), (0, .ref (Θ.2.2.1 8)), (1, .ref (Θ.2.2.1 q)), (3, vi y3)]) hx hb (kX1_countMoved (i := 25) rfl) hl rfl ex_10 (by decide) rfl (fun ls hl => ?_)
            exact hJ42 x_10 H locs ls h hM (lv_sub hl [1, 2, 0, 3] rfl)
set_option maxRecDepth 100000 in
set_option maxHeartbeats 4000000 in
theorem tX1_countMoved (l : Launch) (Θ : Th) (q : Nat) (hP : isP q) (h0 g : Mem) (rv : Int) (h : fX1_countMoved q g = some rv) : Ct l yX1_countMoved cX1_countMoved 4 (some .int) 0 0 Θ [.ref (Θ.2.2.1 8), .ref (Θ.2.2.1 q)] g h0 g h0 (some (vi rv)) := by
  refine x_start (by decide) (Nat.le_of_ble_eq_true rfl) ?_
  intro p e s m args below meth c ls C hM hl
  have hl : lv_has ls 4 [(0, .ref (Θ.2.2.1 8)), (1, .ref (Θ.2.2.1 q))] := hl
  obtain ⟨hx, hb, hml, hown, hts, -⟩ := id C
  unfold fX1_countMoved at h
  have key : ∀ (H : Heap) (locs : List Loc), Hd Θ s g h0 H locs → W p l e { frames := 0, cells := 0, slots := 0, locals := 0 } s m args below meth c H locs 0 0 (MQ below (Qx Θ s.heap.size g h0 (some (vi rv))) args s 0 0 (AA Θ s.heap.size)) (F0 m 0 ls []) := by
    intro H locs hM
    refine x_iconst hx hb (kX1_countMoved (i := 0) rfl) ?_
    refine x_istore_n (lv' := [(2, vi 0), (0, .ref (Θ.2.2.1 8)), (1, .ref (Θ.2.2.1 q))]) hx hb (kX1_countMoved (i := 1) rfl) rfl hl (by decide) rfl (fun ls hl => ?_)
    refine x_iconst hx hb (kX1_countMoved (i := 2) rfl) ?_
    refine x_istore_n (lv' := [(3, vi 0), (2, vi 0), (0, .ref (Θ.2.2.1 8)), (1, .ref (Θ.2.2.1 q))]) hx hb (kX1_countMoved (i := 3) rfl) rfl hl (by decide) rfl (fun ls hl => ?_)
    refine wX1_countMoved_L4  hP C fuel 0 0 H locs ls h  hM (lv_sub hl [2, 3, 1, 0] rfl)
  exact key _ _ hM

/-! X1_momentAt -/
def fX1_momentAt_L5 (q : Nat) : Nat → Int → Int → Int → Mem → (Int → Int → Option (Int)) → Option (Int)
  | 0, _, _, _, _, _ => none
  | n + 1, y1, y3, y4, g, K55 =>
    if wr (g 8 8) ≤ wr y4 then (
      K55 y1 y3
    ) else (
      if 12 ≤ wr y4 then (
        K55 y1 y3
      ) else (
        gd y4 12 <|
        gd y4 12 <|
        gd y4 12 <|
        bnd (y3 + ((g 9 (wr y4).toNat) * ((100 * (g q (wr y4).toNat)) + (y1 * (g 11 (wr y4).toNat))))) fun x_6 =>
        bnd (y4 + 1) fun x_7 =>
        fX1_momentAt_L5 q n y1 x_6 x_7 g K55
      )
    )
def fX1_momentAt_L58 (q : Nat) : Nat → Int → Int → Int → Mem → Option (Int)
  | 0, _, _, _, _ => none
  | n + 1, y1, y3, y4, g =>
    if wr (g 8 9) ≤ wr y4 then (
      some y3
    ) else (
      gd y4 4 <|
      jn (fun (v_13 : Int) =>
        jn (fun (v_14 : Int) =>
          gd y4 4 <|
          gd y4 4 <|
          bnd (y3 + ((g 16 (wr y4).toNat) * ((100 * v_14) + (y1 * (g 14 (wr y4).toNat))))) fun x_17 =>
          bnd (y4 + 1) fun x_18 =>
          fX1_momentAt_L58 q n y1 x_17 x_18 g
        ) fun J122 =>
        if wr v_13 = 0 then (
          J122 0
        ) else (
          gd y4 4 <|
          J122 (Int.tdiv (wr (y1 * (g 13 (wr y4).toNat))) (100))
        )
      ) fun J99 =>
      jn (fun (_ : Unit) =>
        J99 0
      ) fun J98 =>
      if wr (g 16 (wr y4).toNat) ≤ 0 then (
        J98 ()
      ) else (
        gd y4 4 <|
        gd y4 4 <|
        if wr (g 15 (wr y4).toNat) ≤ wr (g 16 (wr y4).toNat) then (
          J98 ()
        ) else (
          J99 1
        )
      )
    )
def fX1_momentAt (q : Nat) (a0 : Int) (g : Mem) : Option (Int) :=
  fX1_momentAt_L5 q fuel a0 0 0 g
  (fun (z_8 : Int) (z_9 : Int) =>
    fX1_momentAt_L58 q fuel z_8 z_9 0 g
  )
set_option maxRecDepth 100000 in
set_option maxHeartbeats 4000000 in
theorem wX1_momentAt_L5 {p : Program} {l : Launch} {e : Env} {s : State} {m : MethodId} {args : Array Value} {below : List Frame} {meth : Method} {c : Code} {Θ : Th} {h0 : Mem} {g : Mem} {q : Nat} (hP : isP q) {rv : Int} {K55 : Int → Int → Option (Int)} (C : Cx p s m args meth c cX1_momentAt 7 RX1 (some .int) Θ) : ∀ (n : Nat) (y1 : Int) (y3 : Int) (y4 : Int) (H : Heap) (locs : List Loc) (ls : Array Slot), fX1_momentAt_L5 q n y1 y3 y4 g K55 = some rv → (∀ (z1 : Int) (z3 : Int) (H : Heap) (locs : List Loc) (ls : Array Slot), K55 z1 z3 = some rv → Hd Θ s g h0 H locs → lv_has ls 7 [(0, .ref (Θ.2.2.1 8)), (1, vi z1), (3, vi z3)] → W p l e { frames := 0, cells := 0, slots := 0, locals := 0 } s m args below meth c H locs 0 0 (MQ below (Qx Θ s.heap.size g h0 (some (vi rv))) args s 0 0 (AA Θ s.heap.size)) (F0 m 55 ls [])) → Hd Θ s g h0 H locs → lv_has ls 7 [(0, .ref (Θ.2.2.1 8)), (1, vi y1), (2, .ref (Θ.2.2.1 q)), (3, vi y3), (4, vi y4)] → W p l e { frames := 0, cells := 0, slots := 0, locals := 0 } s m args below meth c H locs 0 0 (MQ below (Qx Θ s.heap.size g h0 (some (vi rv))) args s 0 0 (AA Θ s.heap.size)) (F0 m 5 ls []) := by
  intro n
  obtain ⟨hx, hb, hml, hown, hts, -⟩ := id C
  induction n with
  | zero => intro y1 y3 y4 H locs ls h; cases h
  | succ n ih =>
    intro y1 y3 y4 H locs ls h hK55 hM hl
    rw [fX1_momentAt_L5] at h
    refine x_iload hx hb (kX1_momentAt (i := 4) rfl) (lv_at hl 4 rfl) ?_
    refine lv_aload_n hx hb (kX1_momentAt (i := 5) rfl) rfl (lv_at hl 0 rfl) ?_
    refine gX1_weights C hM q_fX1_36 (kX1_momentAt (i := 6) rfl) ?_
    refine x_icmp_ge (a' := wr y4) (b' := wr (g 8 8)) hx hb rfl rfl (tgt := 55) (kX1_momentAt (i := 7) rfl) (by decide) (fun c_1 => ?_) (fun c_1 => ?_)
    · have h := it_t c_1 h
      exact hK55 y1 y3 H locs ls h hM (lv_sub hl [0, 1, 3] rfl)
    · have h := it_f c_1 h
      refine x_iload hx hb (kX1_momentAt (i := 8) rfl) (lv_at hl 4 rfl) ?_
      refine lv_aload_n hx hb (kX1_momentAt (i := 9) rfl) rfl (lv_at hl 2 rfl) ?_
      refine x_alenX C hM q (isP_lt hP) (eX_P hP) (z0 := 12) rfl (kX1_momentAt (i := 10) rfl) ?_
      refine x_icmp_ge (a' := wr y4) (b' := 12) hx hb rfl (by decide) (tgt := 55) (kX1_momentAt (i := 11) rfl) (by decide) (fun c_2 => ?_) (fun c_2 => ?_)
      · have h := it_t c_2 h
        exact hK55 y1 y3 H locs ls h hM (lv_sub hl [0, 1, 3] rfl)
      · have h := it_f c_2 h
        refine x_iload_n hx hb (kX1_momentAt (i := 12) rfl) rfl (lv_at hl 3 rfl) ?_
        refine lv_aload_n hx hb (kX1_momentAt (i := 13) rfl) rfl (lv_at hl 0 rfl) ?_
        refine gX1_masses C hM q_fX1_11 (kX1_momentAt (i := 14) rfl) ?_
        refine x_iload hx hb (kX1_momentAt (i := 15) rfl) (lv_at hl 4 rfl) ?_
        obtain ⟨hi_3, h⟩ := gd_some h
        refine x_ialdX C hM 9 (by decide) (eX_9 Θ) hi_3 (kX1_momentAt (i := 16) rfl) ?_
        refine x_bipush hx hb (by decide) (kX1_momentAt (i := 17) rfl) ?_
        refine lv_aload_n hx hb (kX1_momentAt (i := 18) rfl) rfl (lv_at hl 2 rfl) ?_
        refine x_iload hx hb (kX1_momentAt (i := 19) rfl) (lv_at hl 4 rfl) ?_
        obtain ⟨hi_4, h⟩ := gd_some h
        refine x_ialdX C hM q (isP_lt hP) (eX_P hP) hi_4 (kX1_momentAt (i := 20) rfl) ?_
        refine x_imul hx hb (kX1_momentAt (i := 21) rfl) ?_
        refine x_iload_n hx hb (kX1_momentAt (i := 22) rfl) rfl (lv_at hl 1 rfl) ?_
        refine lv_aload_n hx hb (kX1_momentAt (i := 23) rfl) rfl (lv_at hl 0 rfl) ?_
        refine gX1_heights C hM q_fX1_18 (kX1_momentAt (i := 24) rfl) ?_
        refine x_iload hx hb (kX1_momentAt (i := 25) rfl) (lv_at hl 4 rfl) ?_
        obtain ⟨hi_5, h⟩ := gd_some h
        refine x_ialdX C hM 11 (by decide) (eX_11 Θ) hi_5 (kX1_momentAt (i := 26) rfl) ?_
        refine x_imul hx hb (kX1_momentAt (i := 27) rfl) ?_
        refine x_iadd hx hb (kX1_momentAt (i := 28) rfl) ?_
        refine x_imul hx hb (kX1_momentAt (i := 29) rfl) ?_
        refine x_iadd hx hb (kX1_momentAt (i := 30) rfl) ?_
        obtain ⟨x_6, ex_6, h⟩ := bnd_some h
        refine x_top ex_6 ?_
        refine x_istore_n (lv' := [(3, vi x_6), (0, .ref (Θ.2.2.1 8)), (1, vi y1), (2, .ref (Θ.2.2.1 q)), (4, vi y4)]) hx hb (kX1_momentAt (i := 31) rfl) rfl hl (by decide) rfl (fun ls hl => ?_)
        obtain ⟨x_7, ex_7, h⟩ := bnd_some h
        refine x_iinc (k := 4) (lv' := [(4, vi x_7), (3, vi x_6), (0, .ref (Θ.2.2.1 8)), (1, vi y1), (2, .ref (Θ.2.2.1 q))]) hx hb (kX1_momentAt (i := 32) rfl) hl rfl ex_7 (by decide) rfl (fun ls hl => ?_)
        refine lv_goto (tgt := 5) hx hb (kX1_momentAt (i := 33) rfl) (by decide) ?_
        exact ih y1 x_6 x_7 H locs ls h hK55 hM (lv_sub hl [2, 3, 4, 1, 0] rfl)
set_option maxRecDepth 100000 in
set_option maxHeartbeats 4000000 in
theorem wX1_momentAt_L58 {p : Program} {l : Launch} {e : Env} {s : State} {m : MethodId} {args : Array Value} {below : List Frame} {meth : Method} {c : Code} {Θ : Th} {h0 : Mem} {g : Mem} {q : Nat} (hP : isP q) {rv : Int} (C : Cx p s m args meth c cX1_momentAt 7 RX1 (some .int) Θ) : ∀ (n : Nat) (y1 : Int) (y3 : Int) (y4 : Int) (H : Heap) (locs : List Loc) (ls : Array Slot), fX1_momentAt_L58 q n y1 y3 y4 g = some rv → Hd Θ s g h0 H locs → lv_has ls 7 [(0, .ref (Θ.2.2.1 8)), (1, vi y1), (3, vi y3), (4, vi y4)] → W p l e { frames := 0, cells := 0, slots := 0, locals := 0 } s m args below meth c H locs 0 0 (MQ below (Qx Θ s.heap.size g h0 (some (vi rv))) args s 0 0 (AA Θ s.heap.size)) (F0 m 58 ls []) := by
  intro n
  obtain ⟨hx, hb, hml, hown, hts, -⟩ := id C
  induction n with
  | zero => intro y1 y3 y4 H locs ls h; cases h
  | succ n ih =>
    intro y1 y3 y4 H locs ls h  hM hl
    rw [fX1_momentAt_L58] at h
    refine x_iload hx hb (kX1_momentAt (i := 36) rfl) (lv_at hl 3 rfl) ?_
    refine lv_aload_n hx hb (kX1_momentAt (i := 37) rfl) rfl (lv_at hl 0 rfl) ?_
    refine gX1_tanks C hM q_fX1_40 (kX1_momentAt (i := 38) rfl) ?_
    refine x_icmp_ge (a' := wr y4) (b' := wr (g 8 9)) hx hb rfl rfl (tgt := 156) (kX1_momentAt (i := 39) rfl) (by decide) (fun c_11 => ?_) (fun c_11 => ?_)
    · have h := it_t c_11 h
      refine x_iload_n hx hb (kX1_momentAt (i := 91) rfl) rfl (lv_at hl 2 rfl) ?_
      rw [← Option.some.inj h]
      exact x_iret C hM (nar_i _) (kX1_momentAt (i := 92) rfl)
    · have h := it_f c_11 h
      refine lv_aload_n hx hb (kX1_momentAt (i := 40) rfl) rfl (lv_at hl 0 rfl) ?_
      refine gX1_waters C hM q_fX1_33 (kX1_momentAt (i := 41) rfl) ?_
      refine x_iload hx hb (kX1_momentAt (i := 42) rfl) (lv_at hl 3 rfl) ?_
      obtain ⟨hi_12, h⟩ := gd_some h
      refine x_ialdX C hM 16 (by decide) (eX_16 Θ) hi_12 (kX1_momentAt (i := 43) rfl) ?_
      refine jn_go h (fun J99 : Int → Option (Int) => ∀ (v_13 : Int) (H : Heap) (locs : List Loc) (ls : Array Slot), J99 v_13 = some rv → Hd Θ s g h0 H locs → lv_has ls 7 [(0, .ref (Θ.2.2.1 8)), (1, vi y1), (3, vi y3), (4, vi y4)] → W p l e { frames := 0, cells := 0, slots := 0, locals := 0 } s m args below meth c H locs 0 0 (MQ below (Qx Θ s.heap.size g h0 (some (vi rv))) args s 0 0 (AA Θ s.heap.size)) (F0 m 99 ls [vi v_13])) ?_ ?_
      · intro v_13 H locs ls h hM hl
        refine x_istore (lv' := [(5, vi v_13), (0, .ref (Θ.2.2.1 8)), (1, vi y1), (3, vi y3), (4, vi y4)]) hx hb (kX1_momentAt (i := 57) rfl) hl (by decide) rfl (fun ls hl => ?_)
        refine x_iload hx hb (kX1_momentAt (i := 58) rfl) (lv_at hl 0 rfl) ?_
        refine jn_go h (fun J122 : Int → Option (Int) => ∀ (v_14 : Int) (H : Heap) (locs : List Loc) (ls : Array Slot), J122 v_14 = some rv → Hd Θ s g h0 H locs → lv_has ls 7 [(0, .ref (Θ.2.2.1 8)), (1, vi y1), (3, vi y3), (4, vi y4)] → W p l e { frames := 0, cells := 0, slots := 0, locals := 0 } s m args below meth c H locs 0 0 (MQ below (Qx Θ s.heap.size g h0 (some (vi rv))) args s 0 0 (AA Θ s.heap.size)) (F0 m 122 ls [vi v_14])) ?_ ?_
        · intro v_14 H locs ls h hM hl
          refine x_istore (lv' := [(6, vi v_14), (0, .ref (Θ.2.2.1 8)), (1, vi y1), (3, vi y3), (4, vi y4)]) hx hb (kX1_momentAt (i := 70) rfl) hl (by decide) rfl (fun ls hl => ?_)
          refine x_iload_n hx hb (kX1_momentAt (i := 71) rfl) rfl (lv_at hl 3 rfl) ?_
          refine lv_aload_n hx hb (kX1_momentAt (i := 72) rfl) rfl (lv_at hl 1 rfl) ?_
          refine gX1_waters C hM q_fX1_33 (kX1_momentAt (i := 73) rfl) ?_
          refine x_iload hx hb (kX1_momentAt (i := 74) rfl) (lv_at hl 4 rfl) ?_
          obtain ⟨hi_15, h⟩ := gd_some h
          refine x_ialdX C hM 16 (by decide) (eX_16 Θ) hi_15 (kX1_momentAt (i := 75) rfl) ?_
          refine x_bipush hx hb (by decide) (kX1_momentAt (i := 76) rfl) ?_
          refine x_iload hx hb (kX1_momentAt (i := 77) rfl) (lv_at hl 0 rfl) ?_
          refine x_imul hx hb (kX1_momentAt (i := 78) rfl) ?_
          refine x_iload_n hx hb (kX1_momentAt (i := 79) rfl) rfl (lv_at hl 2 rfl) ?_
          refine lv_aload_n hx hb (kX1_momentAt (i := 80) rfl) rfl (lv_at hl 1 rfl) ?_
          refine gX1_tankHeights C hM q_fX1_27 (kX1_momentAt (i := 81) rfl) ?_
          refine x_iload hx hb (kX1_momentAt (i := 82) rfl) (lv_at hl 4 rfl) ?_
          obtain ⟨hi_16, h⟩ := gd_some h
          refine x_ialdX C hM 14 (by decide) (eX_14 Θ) hi_16 (kX1_momentAt (i := 83) rfl) ?_
          refine x_imul hx hb (kX1_momentAt (i := 84) rfl) ?_
          refine x_iadd hx hb (kX1_momentAt (i := 85) rfl) ?_
          refine x_imul hx hb (kX1_momentAt (i := 86) rfl) ?_
          refine x_iadd hx hb (kX1_momentAt (i := 87) rfl) ?_
          obtain ⟨x_17, ex_17, h⟩ := bnd_some h
          refine x_top ex_17 ?_
          refine x_istore_n (lv' := [(3, vi x_17), (6, vi v_14), (0, .ref (Θ.2.2.1 8)), (1, vi y1), (4, vi y4)]) hx hb (kX1_momentAt (i := 88) rfl) rfl hl (by decide) rfl (fun ls hl => ?_)
          obtain ⟨x_18, ex_18, h⟩ := bnd_some h
          refine x_iinc (k := 4) (lv' := [(4, vi x_18), (3, vi x_17), (6, vi v_14), (0, .ref (Θ.2.2.1 8)), (1, vi y1)]) hx hb (kX1_momentAt (i := 89) rfl) hl rfl ex_18 (by decide) rfl (fun ls hl => ?_)
          refine lv_goto (tgt := 58) hx hb (kX1_momentAt (i := 90) rfl) (by decide) ?_
          exact ih y1 x_17 x_18 H locs ls h hM (lv_sub hl [3, 4, 1, 0] rfl)
        intro J122 hJ122 h
        refine x_if_eq (a' := wr v_13) hx hb rfl (tgt := 121) (kX1_momentAt (i := 59) rfl) (by decide) (fun c_19 => ?_) (fun c_19 => ?_)
        · have h := it_t c_19 h
          refine x_iconst hx hb (kX1_momentAt (i := 69) rfl) ?_
          exact hJ122 0 H locs ls h hM (lv_sub hl [1, 2, 3, 4] rfl)
        · have h := it_f c_19 h
          refine x_iload_n hx hb (kX1_momentAt (i := 60) rfl) rfl (lv_at hl 2 rfl) ?_
          refine lv_aload_n hx hb (kX1_momentAt (i := 61) rfl) rfl (lv_at hl 1 rfl) ?_
          refine gX1_wides C hM q_fX1_24 (kX1_momentAt (i := 62) rfl) ?_
          refine x_iload hx hb (kX1_momentAt (i := 63) rfl) (lv_at hl 4 rfl) ?_
          obtain ⟨hi_20, h⟩ := gd_some h
          refine x_ialdX C hM 13 (by decide) (eX_13 Θ) hi_20 (kX1_momentAt (i := 64) rfl) ?_
          refine x_imul hx hb (kX1_momentAt (i := 65) rfl) ?_
          refine x_bipush hx hb (by decide) (kX1_momentAt (i := 66) rfl) ?_
          refine x_idiv (a' := wr (y1 * (g 13 (wr y4).toNat))) (b' := 100) hx hb (kX1_momentAt (i := 67) rfl) rfl (by decide) (by decide) ?_
          refine lv_goto (tgt := 122) hx hb (kX1_momentAt (i := 68) rfl) (by decide) ?_
          exact hJ122 (Int.tdiv (wr (y1 * (g 13 (wr y4).toNat))) (100)) H locs ls h hM (lv_sub hl [1, 2, 3, 4] rfl)
      intro J99 hJ99 h
      refine jn_go h (fun J98 : Unit → Option (Int) => ∀ (H : Heap) (locs : List Loc) (ls : Array Slot), J98 () = some rv → Hd Θ s g h0 H locs → lv_has ls 7 [(0, .ref (Θ.2.2.1 8)), (1, vi y1), (3, vi y3), (4, vi y4)] → W p l e { frames := 0, cells := 0, slots := 0, locals := 0 } s m args below meth c H locs 0 0 (MQ below (Qx Θ s.heap.size g h0 (some (vi rv))) args s 0 0 (AA Θ s.heap.size)) (F0 m 98 ls [])) ?_ ?_
      · intro  H locs ls h hM hl
        refine x_iconst hx hb (kX1_momentAt (i := 56) rfl) ?_
        exact hJ99 0 H locs ls h hM (lv_sub hl [0, 1, 2, 3] rfl)
      intro J98 hJ98 h
      refine x_if_le (a' := wr (g 16 (wr y4).toNat)) hx hb rfl (tgt := 98) (kX1_momentAt (i := 44) rfl) (by decide) (fun c_21 => ?_) (fun c_21 => ?_)
      · have h := it_t c_21 h
        exact hJ98 H locs ls h hM (lv_sub hl [0, 1, 2, 3] rfl)
      · have h := it_f c_21 h
        refine lv_aload_n hx hb (kX1_momentAt (i := 45) rfl) rfl (lv_at hl 0 rfl) ?_
        refine gX1_waters C hM q_fX1_33 (kX1_momentAt (i := 46) rfl) ?_
        refine x_iload hx hb (kX1_momentAt (i := 47) rfl) (lv_at hl 3 rfl) ?_
        obtain ⟨hi_22, h⟩ := gd_some h
        refine x_ialdX C hM 16 (by decide) (eX_16 Θ) hi_22 (kX1_momentAt (i := 48) rfl) ?_
        refine lv_aload_n hx hb (kX1_momentAt (i := 49) rfl) rfl (lv_at hl 0 rfl) ?_
        refine gX1_mosts C hM q_fX1_30 (kX1_momentAt (i := 50) rfl) ?_
        refine x_iload hx hb (kX1_momentAt (i := 51) rfl) (lv_at hl 3 rfl) ?_
        obtain ⟨hi_23, h⟩ := gd_some h
        refine x_ialdX C hM 15 (by decide) (eX_15 Θ) hi_23 (kX1_momentAt (i := 52) rfl) ?_
        refine x_icmp_ge (a' := wr (g 16 (wr y4).toNat)) (b' := wr (g 15 (wr y4).toNat)) hx hb rfl rfl (tgt := 98) (kX1_momentAt (i := 53) rfl) (by decide) (fun c_24 => ?_) (fun c_24 => ?_)
        · have h := it_t c_24 h
          exact hJ98 H locs ls h hM (lv_sub hl [0, 1, 2, 3] rfl)
        · have h := it_f c_24 h
          refine x_iconst hx hb (kX1_momentAt (i := 54) rfl) ?_
          refine lv_goto (tgt := 99) hx hb (kX1_momentAt (i := 55) rfl) (by decide) ?_
          exact hJ99 1 H locs ls h hM (lv_sub hl [0, 1, 2, 3] rfl)
set_option maxRecDepth 100000 in
set_option maxHeartbeats 4000000 in
theorem tX1_momentAt (l : Launch) (Θ : Th) (q : Nat) (hP : isP q) (a0 : Int) (h0 g : Mem) (rv : Int) (h : fX1_momentAt q a0 g = some rv) : Ct l yX1_momentAt cX1_momentAt 7 (some .int) 0 0 Θ [.ref (Θ.2.2.1 8), vi a0, .ref (Θ.2.2.1 q)] g h0 g h0 (some (vi rv)) := by
  refine x_start (by decide) (Nat.le_of_ble_eq_true rfl) ?_
  intro p e s m args below meth c ls C hM hl
  have hl : lv_has ls 7 [(0, .ref (Θ.2.2.1 8)), (1, vi a0), (2, .ref (Θ.2.2.1 q))] := hl
  obtain ⟨hx, hb, hml, hown, hts, -⟩ := id C
  unfold fX1_momentAt at h
  have key : ∀ (H : Heap) (locs : List Loc), Hd Θ s g h0 H locs → W p l e { frames := 0, cells := 0, slots := 0, locals := 0 } s m args below meth c H locs 0 0 (MQ below (Qx Θ s.heap.size g h0 (some (vi rv))) args s 0 0 (AA Θ s.heap.size)) (F0 m 0 ls []) := by
    intro H locs hM
    refine x_iconst hx hb (kX1_momentAt (i := 0) rfl) ?_
    refine x_istore_n (lv' := [(3, vi 0), (0, .ref (Θ.2.2.1 8)), (1, vi a0), (2, .ref (Θ.2.2.1 q))]) hx hb (kX1_momentAt (i := 1) rfl) rfl hl (by decide) rfl (fun ls hl => ?_)
    refine x_iconst hx hb (kX1_momentAt (i := 2) rfl) ?_
    refine x_istore (lv' := [(4, vi 0), (3, vi 0), (0, .ref (Θ.2.2.1 8)), (1, vi a0), (2, .ref (Θ.2.2.1 q))]) hx hb (kX1_momentAt (i := 3) rfl) hl (by decide) rfl (fun ls hl => ?_)
    refine wX1_momentAt_L5  hP C fuel a0 0 0 H locs ls h ?_ hM (lv_sub hl [2, 3, 4, 1, 0] rfl)
    · intro z_8 z_9 H locs ls h hM hl
      refine x_iconst hx hb (kX1_momentAt (i := 34) rfl) ?_
      refine x_istore (lv' := [(4, vi 0), (0, .ref (Θ.2.2.1 8)), (1, vi z_8), (3, vi z_9)]) hx hb (kX1_momentAt (i := 35) rfl) hl (by decide) rfl (fun ls hl => ?_)
      refine wX1_momentAt_L58  hP C fuel z_8 z_9 0 H locs ls h  hM (lv_sub hl [1, 2, 3, 0] rfl)
  exact key _ _ hM

/-! X2_keep -/
def fX2_keep (a0 : Int) (a2 : Int) (g : Mem) : Option (Mem) :=
  if wr a0 < 0 then (
    some g
  ) else (
    if wr a0 < 600 then (
      gd a0 600 <|
      bnd (up g 33 (wr a0).toNat (g 24 4)) fun g_4 =>
      gd a0 600 <|
      bnd (up g_4 34 (wr a0).toNat (g_4 24 5)) fun g_6 =>
      gd a0 600 <|
      bnd (up g_6 35 (wr a0).toNat (g_6 24 6)) fun g_8 =>
      gd a0 600 <|
      bnd (up g_8 36 (wr a0).toNat a2) fun g_10 =>
      some g_10
    ) else (
      some g
    )
  )
set_option maxRecDepth 100000 in
set_option maxHeartbeats 4000000 in
theorem tX2_keep (l : Launch) (Θ : Th) (a0 : Int) (a2 : Int) (h0 g : Mem) (gR : Mem) (h : fX2_keep a0 a2 g = some gR) : Ct l yX2_keep cX2_keep 4 none 0 0 Θ [.ref (Θ.2.2.1 32), vi a0, .ref (Θ.2.2.1 24), vi a2] g h0 gR h0 none := by
  refine x_start (by decide) (Nat.le_of_ble_eq_true rfl) ?_
  intro p e s m args below meth c ls C hM hl
  have hl : lv_has ls 4 [(0, .ref (Θ.2.2.1 32)), (1, vi a0), (2, .ref (Θ.2.2.1 24)), (3, vi a2)] := hl
  obtain ⟨hx, hb, hml, hown, hts, -⟩ := id C
  unfold fX2_keep at h
  have key : ∀ (H : Heap) (locs : List Loc), Hd Θ s g h0 H locs → W p l e { frames := 0, cells := 0, slots := 0, locals := 0 } s m args below meth c H locs 0 0 (MQ below (Qx Θ s.heap.size gR h0 none) args s 0 0 (AA Θ s.heap.size)) (F0 m 0 ls []) := by
    intro H locs hM
    refine x_iload_n hx hb (kX2_keep (i := 0) rfl) rfl (lv_at hl 1 rfl) ?_
    refine x_if_lt (a' := wr a0) hx hb rfl (tgt := 11) (kX2_keep (i := 1) rfl) (by decide) (fun c_1 => ?_) (fun c_1 => ?_)
    · have h := it_t c_1 h
      rw [← Option.some.inj h]
      exact x_vret C hM (kX2_keep (i := 5) rfl)
    · have h := it_f c_1 h
      refine x_iload_n hx hb (kX2_keep (i := 2) rfl) rfl (lv_at hl 1 rfl) ?_
      refine x_sipush hx hb (by decide) (kX2_keep (i := 3) rfl) ?_
      refine x_icmp_lt (a' := wr a0) (b' := 600) hx hb rfl (by decide) (tgt := 12) (kX2_keep (i := 4) rfl) (by decide) (fun c_2 => ?_) (fun c_2 => ?_)
      · have h := it_t c_2 h
        refine lv_aload_n hx hb (kX2_keep (i := 6) rfl) rfl (lv_at hl 0 rfl) ?_
        refine gX2_slopes C hM q_fX2_9 (kX2_keep (i := 7) rfl) ?_
        refine x_iload_n hx hb (kX2_keep (i := 8) rfl) rfl (lv_at hl 1 rfl) ?_
        refine lv_aload_n hx hb (kX2_keep (i := 9) rfl) rfl (lv_at hl 2 rfl) ?_
        refine gX0_slope 24 (Or.inl rfl) C hM q_fX2_24 (kX2_keep (i := 10) rfl) ?_
        obtain ⟨hi_3, h⟩ := gd_some h
        obtain ⟨g_4, eg_4, h⟩ := bnd_some h
        refine x_iastX C hM 33 (by decide) (eX_33 Θ) hi_3 eg_4 (kX2_keep (i := 11) rfl) (fun H locs hM => ?_)
        refine lv_aload_n hx hb (kX2_keep (i := 12) rfl) rfl (lv_at hl 0 rfl) ?_
        refine gX2_speeds C hM q_fX2_15 (kX2_keep (i := 13) rfl) ?_
        refine x_iload_n hx hb (kX2_keep (i := 14) rfl) rfl (lv_at hl 1 rfl) ?_
        refine lv_aload_n hx hb (kX2_keep (i := 15) rfl) rfl (lv_at hl 2 rfl) ?_
        refine gX0_speed 24 (Or.inl rfl) C hM q_fX2_30 (kX2_keep (i := 16) rfl) ?_
        obtain ⟨hi_5, h⟩ := gd_some h
        obtain ⟨g_6, eg_6, h⟩ := bnd_some h
        refine x_iastX C hM 34 (by decide) (eX_34 Θ) hi_5 eg_6 (kX2_keep (i := 17) rfl) (fun H locs hM => ?_)
        refine lv_aload_n hx hb (kX2_keep (i := 18) rfl) rfl (lv_at hl 0 rfl) ?_
        refine gX2_forces C hM q_fX2_18 (kX2_keep (i := 19) rfl) ?_
        refine x_iload_n hx hb (kX2_keep (i := 20) rfl) rfl (lv_at hl 1 rfl) ?_
        refine lv_aload_n hx hb (kX2_keep (i := 21) rfl) rfl (lv_at hl 2 rfl) ?_
        refine gX0_force 24 (Or.inl rfl) C hM q_fX2_33 (kX2_keep (i := 22) rfl) ?_
        obtain ⟨hi_7, h⟩ := gd_some h
        obtain ⟨g_8, eg_8, h⟩ := bnd_some h
        refine x_iastX C hM 35 (by decide) (eX_35 Θ) hi_7 eg_8 (kX2_keep (i := 23) rfl) (fun H locs hM => ?_)
        refine lv_aload_n hx hb (kX2_keep (i := 24) rfl) rfl (lv_at hl 0 rfl) ?_
        refine gX2_inerts C hM q_fX2_21 (kX2_keep (i := 25) rfl) ?_
        refine x_iload_n hx hb (kX2_keep (i := 26) rfl) rfl (lv_at hl 1 rfl) ?_
        refine x_iload_n hx hb (kX2_keep (i := 27) rfl) rfl (lv_at hl 3 rfl) ?_
        obtain ⟨hi_9, h⟩ := gd_some h
        obtain ⟨g_10, eg_10, h⟩ := bnd_some h
        refine x_iastX C hM 36 (by decide) (eX_36 Θ) hi_9 eg_10 (kX2_keep (i := 28) rfl) (fun H locs hM => ?_)
        rw [← Option.some.inj h]
        exact x_vret C hM (kX2_keep (i := 29) rfl)
      · have h := it_f c_2 h
        rw [← Option.some.inj h]
        exact x_vret C hM (kX2_keep (i := 5) rfl)
  exact key _ _ hM

/-! X2_valueOf -/
def fX2_valueOf (a0 : Int) (a1 : Int) (g : Mem) : Option (Int) :=
  if wr a0 < 0 then (
    some (-2147483648)
  ) else (
    if wr a0 < 600 then (
      if wr a1 = 0 then (
        gd a0 600 <|
        some (g 33 (wr a0).toNat)
      ) else (
      if wr a1 = 1 then (
        gd a0 600 <|
        some (g 34 (wr a0).toNat)
      ) else (
      if wr a1 = 2 then (
        gd a0 600 <|
        some (g 35 (wr a0).toNat)
      ) else (
        some (-2147483648)
      )))
    ) else (
      some (-2147483648)
    )
  )
set_option maxRecDepth 100000 in
set_option maxHeartbeats 4000000 in
theorem tX2_valueOf (l : Launch) (Θ : Th) (a0 : Int) (a1 : Int) (h0 g : Mem) (rv : Int) (h : fX2_valueOf a0 a1 g = some rv) : Ct l yX2_valueOf cX2_valueOf 3 (some .int) 0 0 Θ [.ref (Θ.2.2.1 32), vi a0, vi a1] g h0 g h0 (some (vi rv)) := by
  refine x_start (by decide) (Nat.le_of_ble_eq_true rfl) ?_
  intro p e s m args below meth c ls C hM hl
  have hl : lv_has ls 3 [(0, .ref (Θ.2.2.1 32)), (1, vi a0), (2, vi a1)] := hl
  obtain ⟨hx, hb, hml, hown, hts, -⟩ := id C
  unfold fX2_valueOf at h
  have key : ∀ (H : Heap) (locs : List Loc), Hd Θ s g h0 H locs → W p l e { frames := 0, cells := 0, slots := 0, locals := 0 } s m args below meth c H locs 0 0 (MQ below (Qx Θ s.heap.size g h0 (some (vi rv))) args s 0 0 (AA Θ s.heap.size)) (F0 m 0 ls []) := by
    intro H locs hM
    refine x_iload_n hx hb (kX2_valueOf (i := 0) rfl) rfl (lv_at hl 1 rfl) ?_
    refine x_if_lt (a' := wr a0) hx hb rfl (tgt := 11) (kX2_valueOf (i := 1) rfl) (by decide) (fun c_1 => ?_) (fun c_1 => ?_)
    · have h := it_t c_1 h
      refine x_ldc (n := (-2147483648)) hx hb hown (hts _ q_kX2_36) (kX2_valueOf (i := 5) rfl) ?_
      rw [← Option.some.inj h]
      exact x_iret C hM (nar_i _) (kX2_valueOf (i := 6) rfl)
    · have h := it_f c_1 h
      refine x_iload_n hx hb (kX2_valueOf (i := 2) rfl) rfl (lv_at hl 1 rfl) ?_
      refine x_sipush hx hb (by decide) (kX2_valueOf (i := 3) rfl) ?_
      refine x_icmp_lt (a' := wr a0) (b' := 600) hx hb rfl (by decide) (tgt := 14) (kX2_valueOf (i := 4) rfl) (by decide) (fun c_2 => ?_) (fun c_2 => ?_)
      · have h := it_t c_2 h
        refine x_iload_n hx hb (kX2_valueOf (i := 7) rfl) rfl (lv_at hl 2 rfl) ?_
        by_cases c_3 : wr a1 = 0
        · have h := it_t c_3 h
          refine x_tableIn (tgt := 40) 0 c_3 hx hb (kX2_valueOf (i := 8) rfl) (by decide) (by decide) rfl (by decide) ?_
          refine lv_aload_n hx hb (kX2_valueOf (i := 9) rfl) rfl (lv_at hl 0 rfl) ?_
          refine gX2_slopes C hM q_fX2_9 (kX2_valueOf (i := 10) rfl) ?_
          refine x_iload_n hx hb (kX2_valueOf (i := 11) rfl) rfl (lv_at hl 1 rfl) ?_
          obtain ⟨hi_4, h⟩ := gd_some h
          refine x_ialdX C hM 33 (by decide) (eX_33 Θ) hi_4 (kX2_valueOf (i := 12) rfl) ?_
          rw [← Option.some.inj h]
          exact x_iret C hM (nar_i _) (kX2_valueOf (i := 13) rfl)
        have h := it_f c_3 h
        by_cases c_5 : wr a1 = 1
        · have h := it_t c_5 h
          refine x_tableIn (tgt := 47) 1 c_5 hx hb (kX2_valueOf (i := 8) rfl) (by decide) (by decide) rfl (by decide) ?_
          refine lv_aload_n hx hb (kX2_valueOf (i := 14) rfl) rfl (lv_at hl 0 rfl) ?_
          refine gX2_speeds C hM q_fX2_15 (kX2_valueOf (i := 15) rfl) ?_
          refine x_iload_n hx hb (kX2_valueOf (i := 16) rfl) rfl (lv_at hl 1 rfl) ?_
          obtain ⟨hi_6, h⟩ := gd_some h
          refine x_ialdX C hM 34 (by decide) (eX_34 Θ) hi_6 (kX2_valueOf (i := 17) rfl) ?_
          rw [← Option.some.inj h]
          exact x_iret C hM (nar_i _) (kX2_valueOf (i := 18) rfl)
        have h := it_f c_5 h
        by_cases c_7 : wr a1 = 2
        · have h := it_t c_7 h
          refine x_tableIn (tgt := 54) 2 c_7 hx hb (kX2_valueOf (i := 8) rfl) (by decide) (by decide) rfl (by decide) ?_
          refine lv_aload_n hx hb (kX2_valueOf (i := 19) rfl) rfl (lv_at hl 0 rfl) ?_
          refine gX2_forces C hM q_fX2_18 (kX2_valueOf (i := 20) rfl) ?_
          refine x_iload_n hx hb (kX2_valueOf (i := 21) rfl) rfl (lv_at hl 1 rfl) ?_
          obtain ⟨hi_8, h⟩ := gd_some h
          refine x_ialdX C hM 35 (by decide) (eX_35 Θ) hi_8 (kX2_valueOf (i := 22) rfl) ?_
          rw [← Option.some.inj h]
          exact x_iret C hM (nar_i _) (kX2_valueOf (i := 23) rfl)
        have h := it_f c_7 h
        refine x_tableOut (tgt := 61) hx hb (kX2_valueOf (i := 8) rfl) (by omega) (by decide) ?_
        refine x_ldc (n := (-2147483648)) hx hb hown (hts _ q_kX2_36) (kX2_valueOf (i := 24) rfl) ?_
        rw [← Option.some.inj h]
        exact x_iret C hM (nar_i _) (kX2_valueOf (i := 25) rfl)
      · have h := it_f c_2 h
        refine x_ldc (n := (-2147483648)) hx hb hown (hts _ q_kX2_36) (kX2_valueOf (i := 5) rfl) ?_
        rw [← Option.some.inj h]
        exact x_iret C hM (nar_i _) (kX2_valueOf (i := 6) rfl)
  exact key _ _ hM

/-! X2_verdict -/
def fX2_verdict (a0 : Int) (a1 : Int) (a2 : Int) (g : Mem) : Option (Int) :=
  if wr a0 < 0 then (
    some (-1)
  ) else (
    if 600 ≤ wr a0 then (
      some (-1)
    ) else (
      gd a0 600 <|
      if wr (g 36 (wr a0).toNat) = 0 then (
        some (-1)
      ) else (
        gd a0 600 <|
        jn (fun (v_6 : Int) =>
          bnd (iXor (g 33 (wr a0).toNat) v_6) fun x_7 =>
          gd a0 600 <|
          jn (fun (v_9 : Int) =>
            bnd (iXor (g 34 (wr a0).toNat) v_9) fun x_10 =>
            gd a0 600 <|
            jn (fun (v_12 : Int) =>
              bnd (iXor (g 35 (wr a0).toNat) v_12) fun x_13 =>
              jn (fun (v_14 : Int) =>
                jn (fun (v_15 : Int) =>
                  gd a0 600 <|
                  bd (fX0_nextSpeed v_15 x_13 (g 36 (wr a0).toNat)) fun r_17 =>
                  if wr x_10 = wr r_17 then (
                    bd (fX11_bring ((wr v_14) + (wr x_10)) 80) fun r_20 =>
                    if wr x_7 = wr r_20 then (
                      some 0
                    ) else (
                      some 2
                    )
                  ) else (
                    some 1
                  )
                ) fun J112 =>
                if wr a0 = 0 then (
                  J112 0
                ) else (
                  gd (a0 - 1) 600 <|
                  J112 (g 34 (wr (a0 - 1)).toNat)
                )
              ) fun J94 =>
              if wr a0 = 0 then (
                J94 0
              ) else (
                gd (a0 - 1) 600 <|
                J94 (g 33 (wr (a0 - 1)).toNat)
              )
            ) fun J75 =>
            if wr a1 = 2 then (
              J75 a2
            ) else (
              J75 0
            )
          ) fun J56 =>
          if wr a1 = 1 then (
            J56 a2
          ) else (
            J56 0
          )
        ) fun J37 =>
        if wr a1 = 0 then (
          J37 a2
        ) else (
          J37 0
        )
      )
    )
  )
set_option maxRecDepth 100000 in
set_option maxHeartbeats 4000000 in
theorem tX2_verdict (l : Launch) (Θ : Th) (a0 : Int) (a1 : Int) (a2 : Int) (h0 g : Mem) (rv : Int) (h : fX2_verdict a0 a1 a2 g = some rv) : Ct l yX2_verdict cX2_verdict 9 (some .int) 2 44 Θ [.ref (Θ.2.2.1 32), vi a0, vi a1, vi a2] g h0 g h0 (some (vi rv)) := by
  refine x_start (by decide) (Nat.le_of_ble_eq_true rfl) ?_
  intro p e s m args below meth c ls C hM hl
  have hl : lv_has ls 9 [(0, .ref (Θ.2.2.1 32)), (1, vi a0), (2, vi a1), (3, vi a2)] := hl
  obtain ⟨hx, hb, hml, hown, hts, -⟩ := id C
  unfold fX2_verdict at h
  have key : ∀ (H : Heap) (locs : List Loc), Hd Θ s g h0 H locs → W p l e { frames := 2, cells := 0, slots := 0, locals := 44 } s m args below meth c H locs 0 0 (MQ below (Qx Θ s.heap.size g h0 (some (vi rv))) args s 0 0 (AA Θ s.heap.size)) (F0 m 0 ls []) := by
    intro H locs hM
    refine x_iload_n hx hb (kX2_verdict (i := 0) rfl) rfl (lv_at hl 1 rfl) ?_
    refine x_if_lt (a' := wr a0) hx hb rfl (tgt := 20) (kX2_verdict (i := 1) rfl) (by decide) (fun c_1 => ?_) (fun c_1 => ?_)
    · have h := it_t c_1 h
      refine x_iconst hx hb (kX2_verdict (i := 10) rfl) ?_
      rw [← Option.some.inj h]
      exact x_iret C hM (nar_i _) (kX2_verdict (i := 11) rfl)
    · have h := it_f c_1 h
      refine x_iload_n hx hb (kX2_verdict (i := 2) rfl) rfl (lv_at hl 1 rfl) ?_
      refine x_sipush hx hb (by decide) (kX2_verdict (i := 3) rfl) ?_
      refine x_icmp_ge (a' := wr a0) (b' := 600) hx hb rfl (by decide) (tgt := 20) (kX2_verdict (i := 4) rfl) (by decide) (fun c_2 => ?_) (fun c_2 => ?_)
      · have h := it_t c_2 h
        refine x_iconst hx hb (kX2_verdict (i := 10) rfl) ?_
        rw [← Option.some.inj h]
        exact x_iret C hM (nar_i _) (kX2_verdict (i := 11) rfl)
      · have h := it_f c_2 h
        refine lv_aload_n hx hb (kX2_verdict (i := 5) rfl) rfl (lv_at hl 0 rfl) ?_
        refine gX2_inerts C hM q_fX2_21 (kX2_verdict (i := 6) rfl) ?_
        refine x_iload_n hx hb (kX2_verdict (i := 7) rfl) rfl (lv_at hl 1 rfl) ?_
        obtain ⟨hi_3, h⟩ := gd_some h
        refine x_ialdX C hM 36 (by decide) (eX_36 Θ) hi_3 (kX2_verdict (i := 8) rfl) ?_
        refine x_if_ne (a' := wr (g 36 (wr a0).toNat)) hx hb rfl (tgt := 22) (kX2_verdict (i := 9) rfl) (by decide) (fun c_4 => ?_) (fun c_4 => ?_)
        · have h := it_f c_4 h
          refine lv_aload_n hx hb (kX2_verdict (i := 12) rfl) rfl (lv_at hl 0 rfl) ?_
          refine gX2_slopes C hM q_fX2_9 (kX2_verdict (i := 13) rfl) ?_
          refine x_iload_n hx hb (kX2_verdict (i := 14) rfl) rfl (lv_at hl 1 rfl) ?_
          obtain ⟨hi_5, h⟩ := gd_some h
          refine x_ialdX C hM 33 (by decide) (eX_33 Θ) hi_5 (kX2_verdict (i := 15) rfl) ?_
          refine x_iload_n hx hb (kX2_verdict (i := 16) rfl) rfl (lv_at hl 2 rfl) ?_
          refine jn_go h (fun J37 : Int → Option (Int) => ∀ (v_6 : Int) (H : Heap) (locs : List Loc) (ls : Array Slot), J37 v_6 = some rv → Hd Θ s g h0 H locs → lv_has ls 9 [(0, .ref (Θ.2.2.1 32)), (1, vi a0), (2, vi a1), (3, vi a2)] → W p l e { frames := 2, cells := 0, slots := 0, locals := 44 } s m args below meth c H locs 0 0 (MQ below (Qx Θ s.heap.size g h0 (some (vi rv))) args s 0 0 (AA Θ s.heap.size)) (F0 m 37 ls [vi v_6, vi (g 33 (wr a0).toNat)])) ?_ ?_
          · intro v_6 H locs ls h hM hl
            refine x_ixor hx hb (kX2_verdict (i := 21) rfl) ?_
            obtain ⟨x_7, ex_7, h⟩ := bnd_some h
            refine x_top ex_7 ?_
            refine x_istore (lv' := [(4, vi x_7), (0, .ref (Θ.2.2.1 32)), (1, vi a0), (2, vi a1), (3, vi a2)]) hx hb (kX2_verdict (i := 22) rfl) hl (by decide) rfl (fun ls hl => ?_)
            refine lv_aload_n hx hb (kX2_verdict (i := 23) rfl) rfl (lv_at hl 1 rfl) ?_
            refine gX2_speeds C hM q_fX2_15 (kX2_verdict (i := 24) rfl) ?_
            refine x_iload_n hx hb (kX2_verdict (i := 25) rfl) rfl (lv_at hl 2 rfl) ?_
            obtain ⟨hi_8, h⟩ := gd_some h
            refine x_ialdX C hM 34 (by decide) (eX_34 Θ) hi_8 (kX2_verdict (i := 26) rfl) ?_
            refine x_iload_n hx hb (kX2_verdict (i := 27) rfl) rfl (lv_at hl 3 rfl) ?_
            refine x_iconst hx hb (kX2_verdict (i := 28) rfl) ?_
            refine jn_go h (fun J56 : Int → Option (Int) => ∀ (v_9 : Int) (H : Heap) (locs : List Loc) (ls : Array Slot), J56 v_9 = some rv → Hd Θ s g h0 H locs → lv_has ls 9 [(0, .ref (Θ.2.2.1 32)), (1, vi a0), (2, vi a1), (3, vi a2), (4, vi x_7)] → W p l e { frames := 2, cells := 0, slots := 0, locals := 44 } s m args below meth c H locs 0 0 (MQ below (Qx Θ s.heap.size g h0 (some (vi rv))) args s 0 0 (AA Θ s.heap.size)) (F0 m 56 ls [vi v_9, vi (g 34 (wr a0).toNat)])) ?_ ?_
            · intro v_9 H locs ls h hM hl
              refine x_ixor hx hb (kX2_verdict (i := 33) rfl) ?_
              obtain ⟨x_10, ex_10, h⟩ := bnd_some h
              refine x_top ex_10 ?_
              refine x_istore (lv' := [(5, vi x_10), (0, .ref (Θ.2.2.1 32)), (1, vi a0), (2, vi a1), (3, vi a2), (4, vi x_7)]) hx hb (kX2_verdict (i := 34) rfl) hl (by decide) rfl (fun ls hl => ?_)
              refine lv_aload_n hx hb (kX2_verdict (i := 35) rfl) rfl (lv_at hl 1 rfl) ?_
              refine gX2_forces C hM q_fX2_18 (kX2_verdict (i := 36) rfl) ?_
              refine x_iload_n hx hb (kX2_verdict (i := 37) rfl) rfl (lv_at hl 2 rfl) ?_
              obtain ⟨hi_11, h⟩ := gd_some h
              refine x_ialdX C hM 35 (by decide) (eX_35 Θ) hi_11 (kX2_verdict (i := 38) rfl) ?_
              refine x_iload_n hx hb (kX2_verdict (i := 39) rfl) rfl (lv_at hl 3 rfl) ?_
              refine x_iconst hx hb (kX2_verdict (i := 40) rfl) ?_
              refine jn_go h (fun J75 : Int → Option (Int) => ∀ (v_12 : Int) (H : Heap) (locs : List Loc) (ls : Array Slot), J75 v_12 = some rv → Hd Θ s g h0 H locs → lv_has ls 9 [(0, .ref (Θ.2.2.1 32)), (1, vi a0), (4, vi x_7), (5, vi x_10)] → W p l e { frames := 2, cells := 0, slots := 0, locals := 44 } s m args below meth c H locs 0 0 (MQ below (Qx Θ s.heap.size g h0 (some (vi rv))) args s 0 0 (AA Θ s.heap.size)) (F0 m 75 ls [vi v_12, vi (g 35 (wr a0).toNat)])) ?_ ?_
              · intro v_12 H locs ls h hM hl
                refine x_ixor hx hb (kX2_verdict (i := 45) rfl) ?_
                obtain ⟨x_13, ex_13, h⟩ := bnd_some h
                refine x_top ex_13 ?_
                refine x_istore (lv' := [(6, vi x_13), (0, .ref (Θ.2.2.1 32)), (1, vi a0), (4, vi x_7), (5, vi x_10)]) hx hb (kX2_verdict (i := 46) rfl) hl (by decide) rfl (fun ls hl => ?_)
                refine x_iload_n hx hb (kX2_verdict (i := 47) rfl) rfl (lv_at hl 2 rfl) ?_
                refine jn_go h (fun J94 : Int → Option (Int) => ∀ (v_14 : Int) (H : Heap) (locs : List Loc) (ls : Array Slot), J94 v_14 = some rv → Hd Θ s g h0 H locs → lv_has ls 9 [(0, .ref (Θ.2.2.1 32)), (1, vi a0), (4, vi x_7), (5, vi x_10), (6, vi x_13)] → W p l e { frames := 2, cells := 0, slots := 0, locals := 44 } s m args below meth c H locs 0 0 (MQ below (Qx Θ s.heap.size g h0 (some (vi rv))) args s 0 0 (AA Θ s.heap.size)) (F0 m 94 ls [vi v_14])) ?_ ?_
                · intro v_14 H locs ls h hM hl
                  refine x_istore (lv' := [(7, vi v_14), (0, .ref (Θ.2.2.1 32)), (1, vi a0), (4, vi x_7), (5, vi x_10), (6, vi x_13)]) hx hb (kX2_verdict (i := 57) rfl) hl (by decide) rfl (fun ls hl => ?_)
                  refine x_iload_n hx hb (kX2_verdict (i := 58) rfl) rfl (lv_at hl 2 rfl) ?_
                  refine jn_go h (fun J112 : Int → Option (Int) => ∀ (v_15 : Int) (H : Heap) (locs : List Loc) (ls : Array Slot), J112 v_15 = some rv → Hd Θ s g h0 H locs → lv_has ls 9 [(0, .ref (Θ.2.2.1 32)), (1, vi a0), (4, vi x_7), (5, vi x_10), (6, vi x_13), (7, vi v_14)] → W p l e { frames := 2, cells := 0, slots := 0, locals := 44 } s m args below meth c H locs 0 0 (MQ below (Qx Θ s.heap.size g h0 (some (vi rv))) args s 0 0 (AA Θ s.heap.size)) (F0 m 112 ls [vi v_15])) ?_ ?_
                  · intro v_15 H locs ls h hM hl
                    refine x_istore (lv' := [(8, vi v_15), (0, .ref (Θ.2.2.1 32)), (1, vi a0), (4, vi x_7), (5, vi x_10), (6, vi x_13), (7, vi v_14)]) hx hb (kX2_verdict (i := 68) rfl) hl (by decide) rfl (fun ls hl => ?_)
                    refine x_iload hx hb (kX2_verdict (i := 69) rfl) (lv_at hl 4 rfl) ?_
                    refine x_iload hx hb (kX2_verdict (i := 70) rfl) (lv_at hl 0 rfl) ?_
                    refine x_iload hx hb (kX2_verdict (i := 71) rfl) (lv_at hl 5 rfl) ?_
                    refine lv_aload_n hx hb (kX2_verdict (i := 72) rfl) rfl (lv_at hl 1 rfl) ?_
                    refine gX2_inerts C hM q_fX2_21 (kX2_verdict (i := 73) rfl) ?_
                    refine x_iload_n hx hb (kX2_verdict (i := 74) rfl) rfl (lv_at hl 2 rfl) ?_
                    obtain ⟨hi_16, h⟩ := gd_some h
                    refine x_ialdX C hM 36 (by decide) (eX_36 Θ) hi_16 (kX2_verdict (i := 75) rfl) ?_
                    obtain ⟨r_17, hc_18, h⟩ := bd_some h
                    refine x_callS (n := 3) (As := [vi v_15, vi x_13, vi (g 36 (wr a0).toNat)]) (rest := [vi x_10]) C hM (tX0_nextSpeed l Θ v_15 x_13 (g 36 (wr a0).toNat) h0 g r_17 hc_18) q_c_X0_nextSpeed q_mX2_37 q_s_X0_nextSpeed q_n_X0 (by decide +kernel) ⟨by decide, by decide⟩ rfl hl.1 rfl (Nat.le_of_ble_eq_true rfl) (kX2_verdict (i := 76) rfl) (fun H locs hM => ?_)
                    refine x_icmp_eq (a' := wr x_10) (b' := wr r_17) hx hb rfl rfl (tgt := 134) (kX2_verdict (i := 77) rfl) (by decide) (fun c_19 => ?_) (fun c_19 => ?_)
                    · have h := it_t c_19 h
                      refine x_iload hx hb (kX2_verdict (i := 80) rfl) (lv_at hl 3 rfl) ?_
                      refine x_iload hx hb (kX2_verdict (i := 81) rfl) (lv_at hl 6 rfl) ?_
                      refine x_i2l (a' := wr v_14) hx hb rfl (kX2_verdict (i := 82) rfl) ?_
                      refine x_iload hx hb (kX2_verdict (i := 83) rfl) (lv_at hl 4 rfl) ?_
                      refine x_i2l (a' := wr x_10) hx hb rfl (kX2_verdict (i := 84) rfl) ?_
                      refine x_ladd hx hb (kX2_verdict (i := 85) rfl) ?_
                      refine x_bipush hx hb (by decide) (kX2_verdict (i := 86) rfl) ?_
                      obtain ⟨r_20, hc_21, h⟩ := bd_some h
                      refine x_callSN (n := 2) (As := [vl ((wr v_14) + (wr x_10)), vi 80]) (rest := [vi x_7]) C hM (tX11_bring l Θ ((wr v_14) + (wr x_10)) 80 h0 g r_20 hc_21) q_c_X11_bring (List.mem_of_getElem? (i := 14) rfl) q_s_X11_bring q_n_X11 (by decide +kernel) ⟨by decide, by decide⟩ rfl hl.1 rfl (Nat.le_of_ble_eq_true rfl) (kX2_verdict (i := 87) rfl) (fun H locs hM => ?_)
                      refine x_icmp_ne (a' := wr x_7) (b' := wr r_20) hx hb rfl rfl (tgt := 155) (kX2_verdict (i := 88) rfl) (by decide) (fun c_22 => ?_) (fun c_22 => ?_)
                      · have h := it_f c_22 h
                        refine x_iconst hx hb (kX2_verdict (i := 91) rfl) ?_
                        rw [← Option.some.inj h]
                        exact x_iret C hM (nar_i _) (kX2_verdict (i := 92) rfl)
                      · have h := it_t c_22 h
                        refine x_iconst hx hb (kX2_verdict (i := 89) rfl) ?_
                        refine lv_goto (tgt := 156) hx hb (kX2_verdict (i := 90) rfl) (by decide) ?_
                        rw [← Option.some.inj h]
                        exact x_iret C hM (nar_i _) (kX2_verdict (i := 92) rfl)
                    · have h := it_f c_19 h
                      refine x_iconst hx hb (kX2_verdict (i := 78) rfl) ?_
                      rw [← Option.some.inj h]
                      exact x_iret C hM (nar_i _) (kX2_verdict (i := 79) rfl)
                  intro J112 hJ112 h
                  refine x_if_ne (a' := wr a0) hx hb rfl (tgt := 104) (kX2_verdict (i := 59) rfl) (by decide) (fun c_23 => ?_) (fun c_23 => ?_)
                  · have h := it_f c_23 h
                    refine lv_aload_n hx hb (kX2_verdict (i := 62) rfl) rfl (lv_at hl 1 rfl) ?_
                    refine gX2_speeds C hM q_fX2_15 (kX2_verdict (i := 63) rfl) ?_
                    refine x_iload_n hx hb (kX2_verdict (i := 64) rfl) rfl (lv_at hl 2 rfl) ?_
                    refine x_iconst hx hb (kX2_verdict (i := 65) rfl) ?_
                    refine x_isub hx hb (kX2_verdict (i := 66) rfl) ?_
                    obtain ⟨hi_24, h⟩ := gd_some h
                    refine x_ialdX C hM 34 (by decide) (eX_34 Θ) hi_24 (kX2_verdict (i := 67) rfl) ?_
                    exact hJ112 (g 34 (wr (a0 - 1)).toNat) H locs ls h hM (lv_sub hl [1, 2, 3, 4, 5, 0] rfl)
                  · have h := it_t c_23 h
                    refine x_iconst hx hb (kX2_verdict (i := 60) rfl) ?_
                    refine lv_goto (tgt := 112) hx hb (kX2_verdict (i := 61) rfl) (by decide) ?_
                    exact hJ112 0 H locs ls h hM (lv_sub hl [1, 2, 3, 4, 5, 0] rfl)
                intro J94 hJ94 h
                refine x_if_ne (a' := wr a0) hx hb rfl (tgt := 86) (kX2_verdict (i := 48) rfl) (by decide) (fun c_25 => ?_) (fun c_25 => ?_)
                · have h := it_f c_25 h
                  refine lv_aload_n hx hb (kX2_verdict (i := 51) rfl) rfl (lv_at hl 1 rfl) ?_
                  refine gX2_slopes C hM q_fX2_9 (kX2_verdict (i := 52) rfl) ?_
                  refine x_iload_n hx hb (kX2_verdict (i := 53) rfl) rfl (lv_at hl 2 rfl) ?_
                  refine x_iconst hx hb (kX2_verdict (i := 54) rfl) ?_
                  refine x_isub hx hb (kX2_verdict (i := 55) rfl) ?_
                  obtain ⟨hi_26, h⟩ := gd_some h
                  refine x_ialdX C hM 33 (by decide) (eX_33 Θ) hi_26 (kX2_verdict (i := 56) rfl) ?_
                  exact hJ94 (g 33 (wr (a0 - 1)).toNat) H locs ls h hM (lv_sub hl [1, 2, 3, 4, 0] rfl)
                · have h := it_t c_25 h
                  refine x_iconst hx hb (kX2_verdict (i := 49) rfl) ?_
                  refine lv_goto (tgt := 94) hx hb (kX2_verdict (i := 50) rfl) (by decide) ?_
                  exact hJ94 0 H locs ls h hM (lv_sub hl [1, 2, 3, 4, 0] rfl)
              intro J75 hJ75 h
              refine x_icmp_ne (a' := wr a1) (b' := 2) hx hb rfl (by decide) (tgt := 74) (kX2_verdict (i := 41) rfl) (by decide) (fun c_27 => ?_) (fun c_27 => ?_)
              · have h := it_f c_27 h
                refine x_iconst hx hb (kX2_verdict (i := 44) rfl) ?_
                exact hJ75 0 H locs ls h hM (lv_sub hl [1, 2, 5, 0] rfl)
              · have h := it_t c_27 h
                refine x_iload_n hx hb (kX2_verdict (i := 42) rfl) rfl (lv_at hl 4 rfl) ?_
                refine lv_goto (tgt := 75) hx hb (kX2_verdict (i := 43) rfl) (by decide) ?_
                exact hJ75 a2 H locs ls h hM (lv_sub hl [1, 2, 5, 0] rfl)
            intro J56 hJ56 h
            refine x_icmp_ne (a' := wr a1) (b' := 1) hx hb rfl (by decide) (tgt := 55) (kX2_verdict (i := 29) rfl) (by decide) (fun c_28 => ?_) (fun c_28 => ?_)
            · have h := it_f c_28 h
              refine x_iconst hx hb (kX2_verdict (i := 32) rfl) ?_
              exact hJ56 0 H locs ls h hM (lv_sub hl [1, 2, 3, 4, 0] rfl)
            · have h := it_t c_28 h
              refine x_iload_n hx hb (kX2_verdict (i := 30) rfl) rfl (lv_at hl 4 rfl) ?_
              refine lv_goto (tgt := 56) hx hb (kX2_verdict (i := 31) rfl) (by decide) ?_
              exact hJ56 a2 H locs ls h hM (lv_sub hl [1, 2, 3, 4, 0] rfl)
          intro J37 hJ37 h
          refine x_if_ne (a' := wr a1) hx hb rfl (tgt := 36) (kX2_verdict (i := 17) rfl) (by decide) (fun c_29 => ?_) (fun c_29 => ?_)
          · have h := it_f c_29 h
            refine x_iconst hx hb (kX2_verdict (i := 20) rfl) ?_
            exact hJ37 0 H locs ls h hM (lv_sub hl [0, 1, 2, 3] rfl)
          · have h := it_t c_29 h
            refine x_iload_n hx hb (kX2_verdict (i := 18) rfl) rfl (lv_at hl 3 rfl) ?_
            refine lv_goto (tgt := 37) hx hb (kX2_verdict (i := 19) rfl) (by decide) ?_
            exact hJ37 a2 H locs ls h hM (lv_sub hl [0, 1, 2, 3] rfl)
        · have h := it_t c_4 h
          refine x_iconst hx hb (kX2_verdict (i := 10) rfl) ?_
          rw [← Option.some.inj h]
          exact x_iret C hM (nar_i _) (kX2_verdict (i := 11) rfl)
  exact key _ _ hM

/-! X3_addRow -/
def fX3_addRow_L31 : Nat → Int → Int → Int → Int → Int → Int → Mem → (Int → Mem → Option (Mem)) → Option (Mem)
  | 0, _, _, _, _, _, _, _, _ => none
  | n + 1, y1, y2, y3, y4, y5, y6, g, K115 =>
    if wr y6 < 0 then (
      K115 y4 g
    ) else (
      bnd (y6 - 9) fun x_6 =>
      jn (fun (p_7 : Int) (p_8 : Int) =>
        bnd ((y1 * 19) + y6) fun x_9 =>
        gd x_9 190 <|
        gd x_9 190 <|
        bnd (up g 2 (wr x_9).toNat ((g 2 (wr x_9).toNat) + p_7)) fun g_12 =>
        bnd ((y1 * 19) + y6) fun x_13 =>
        gd x_13 190 <|
        gd x_13 190 <|
        bnd (up g_12 3 (wr x_13).toNat ((g_12 3 (wr x_13).toNat) + p_8)) fun g_16 =>
        bnd (y6 + (-1)) fun x_17 =>
        fX3_addRow_L31 n y1 y2 y3 p_7 p_8 x_17 g_16 K115
      ) fun J75 =>
      if wr x_6 < wr (-y3) then (
        J75 y4 y5
      ) else (
        if wr y3 ≤ wr x_6 then (
          J75 y4 y5
        ) else (
          bnd (y4 + y2) fun x_20 =>
          bnd (y5 + (y2 * ((2 * x_6) + 1))) fun x_21 =>
          J75 x_20 x_21
        )
      )
    )
def fX3_addRow (a0 : Int) (a1 : Int) (a2 : Int) (g : Mem) : Option (Mem) :=
  if wr a0 < 0 then (
    some g
  ) else (
    if 10 ≤ wr a0 then (
      some g
    ) else (
      if wr a2 < 0 then (
        some g
      ) else (
        if wr a2 ≤ 9 then (
          fX3_addRow_L31 fuel a0 a1 a2 0 0 18 g
          (fun (z_22 : Int) (g_23 : Mem) =>
            bnd (up g_23 1 8 ((g_23 1 8) + z_22)) fun g_24 =>
            some g_24
          )
        ) else (
          some g
        )
      )
    )
  )
set_option maxRecDepth 100000 in
set_option maxHeartbeats 4000000 in
theorem wX3_addRow_L31 {p : Program} {l : Launch} {e : Env} {s : State} {m : MethodId} {args : Array Value} {below : List Frame} {meth : Method} {c : Code} {Θ : Th} {h0 : Mem} {gR : Mem} {K115 : Int → Mem → Option (Mem)} (C : Cx p s m args meth c cX3_addRow 8 RX3 none Θ) : ∀ (n : Nat) (y1 : Int) (y2 : Int) (y3 : Int) (y4 : Int) (y5 : Int) (y6 : Int) (g : Mem) (H : Heap) (locs : List Loc) (ls : Array Slot), fX3_addRow_L31 n y1 y2 y3 y4 y5 y6 g K115 = some gR → (∀ (z4 : Int) (gz : Mem) (H : Heap) (locs : List Loc) (ls : Array Slot), K115 z4 gz = some gR → Hd Θ s gz h0 H locs → lv_has ls 8 [(0, .ref (Θ.2.2.1 1)), (4, vi z4)] → W p l e { frames := 0, cells := 0, slots := 0, locals := 0 } s m args below meth c H locs 0 0 (MQ below (Qx Θ s.heap.size gR h0 none) args s 0 0 (AA Θ s.heap.size)) (F0 m 115 ls [])) → Hd Θ s g h0 H locs → lv_has ls 8 [(0, .ref (Θ.2.2.1 1)), (1, vi y1), (2, vi y2), (3, vi y3), (4, vi y4), (5, vi y5), (6, vi y6)] → W p l e { frames := 0, cells := 0, slots := 0, locals := 0 } s m args below meth c H locs 0 0 (MQ below (Qx Θ s.heap.size gR h0 none) args s 0 0 (AA Θ s.heap.size)) (F0 m 31 ls []) := by
  intro n
  obtain ⟨hx, hb, hml, hown, hts, -⟩ := id C
  induction n with
  | zero => intro y1 y2 y3 y4 y5 y6 g H locs ls h; cases h
  | succ n ih =>
    intro y1 y2 y3 y4 y5 y6 g H locs ls h hK115 hM hl
    rw [fX3_addRow_L31] at h
    refine x_iload hx hb (kX3_addRow (i := 17) rfl) (lv_at hl 6 rfl) ?_
    refine x_if_lt (a' := wr y6) hx hb rfl (tgt := 115) (kX3_addRow (i := 18) rfl) (by decide) (fun c_5 => ?_) (fun c_5 => ?_)
    · have h := it_t c_5 h
      exact hK115 y4 g H locs ls h hM (lv_sub hl [0, 4] rfl)
    · have h := it_f c_5 h
      refine x_iload hx hb (kX3_addRow (i := 19) rfl) (lv_at hl 6 rfl) ?_
      refine x_bipush hx hb (by decide) (kX3_addRow (i := 20) rfl) ?_
      refine x_isub hx hb (kX3_addRow (i := 21) rfl) ?_
      obtain ⟨x_6, ex_6, h⟩ := bnd_some h
      refine x_top ex_6 ?_
      refine x_istore (lv' := [(7, vi x_6), (0, .ref (Θ.2.2.1 1)), (1, vi y1), (2, vi y2), (3, vi y3), (4, vi y4), (5, vi y5), (6, vi y6)]) hx hb (kX3_addRow (i := 22) rfl) hl (by decide) rfl (fun ls hl => ?_)
      refine x_iload hx hb (kX3_addRow (i := 23) rfl) (lv_at hl 0 rfl) ?_
      refine x_iload_n hx hb (kX3_addRow (i := 24) rfl) rfl (lv_at hl 4 rfl) ?_
      refine x_ineg hx hb (kX3_addRow (i := 25) rfl) ?_
      refine jn_go h (fun J75 : Int → Int → Option (Mem) => ∀ (p_7 : Int) (p_8 : Int) (H : Heap) (locs : List Loc) (ls : Array Slot), J75 p_7 p_8 = some gR → Hd Θ s g h0 H locs → lv_has ls 8 [(0, .ref (Θ.2.2.1 1)), (1, vi y1), (2, vi y2), (3, vi y3), (4, vi p_7), (5, vi p_8), (6, vi y6)] → W p l e { frames := 0, cells := 0, slots := 0, locals := 0 } s m args below meth c H locs 0 0 (MQ below (Qx Θ s.heap.size gR h0 none) args s 0 0 (AA Θ s.heap.size)) (F0 m 75 ls [])) ?_ ?_
      · intro p_7 p_8 H locs ls h hM hl
        refine lv_aload_n hx hb (kX3_addRow (i := 44) rfl) rfl (lv_at hl 0 rfl) ?_
        refine gX3_lengths C hM q_fX3_11 (kX3_addRow (i := 45) rfl) ?_
        refine x_iload_n hx hb (kX3_addRow (i := 46) rfl) rfl (lv_at hl 1 rfl) ?_
        refine x_bipush hx hb (by decide) (kX3_addRow (i := 47) rfl) ?_
        refine x_imul hx hb (kX3_addRow (i := 48) rfl) ?_
        refine x_iload hx hb (kX3_addRow (i := 49) rfl) (lv_at hl 6 rfl) ?_
        refine x_iadd hx hb (kX3_addRow (i := 50) rfl) ?_
        obtain ⟨x_9, ex_9, h⟩ := bnd_some h
        refine x_top ex_9 ?_
        refine lv_dup2_11 hx hb (kX3_addRow (i := 51) rfl) rfl rfl ?_
        obtain ⟨hi_10, h⟩ := gd_some h
        refine x_ialdX C hM 2 (by decide) (eX_2 Θ) hi_10 (kX3_addRow (i := 52) rfl) ?_
        refine x_iload hx hb (kX3_addRow (i := 53) rfl) (lv_at hl 4 rfl) ?_
        refine x_iadd hx hb (kX3_addRow (i := 54) rfl) ?_
        obtain ⟨hi_11, h⟩ := gd_some h
        obtain ⟨g_12, eg_12, h⟩ := bnd_some h
        refine x_iastX C hM 2 (by decide) (eX_2 Θ) hi_11 eg_12 (kX3_addRow (i := 55) rfl) (fun H locs hM => ?_)
        refine lv_aload_n hx hb (kX3_addRow (i := 56) rfl) rfl (lv_at hl 0 rfl) ?_
        refine gX3_levers C hM q_fX3_15 (kX3_addRow (i := 57) rfl) ?_
        refine x_iload_n hx hb (kX3_addRow (i := 58) rfl) rfl (lv_at hl 1 rfl) ?_
        refine x_bipush hx hb (by decide) (kX3_addRow (i := 59) rfl) ?_
        refine x_imul hx hb (kX3_addRow (i := 60) rfl) ?_
        refine x_iload hx hb (kX3_addRow (i := 61) rfl) (lv_at hl 6 rfl) ?_
        refine x_iadd hx hb (kX3_addRow (i := 62) rfl) ?_
        obtain ⟨x_13, ex_13, h⟩ := bnd_some h
        refine x_top ex_13 ?_
        refine lv_dup2_11 hx hb (kX3_addRow (i := 63) rfl) rfl rfl ?_
        obtain ⟨hi_14, h⟩ := gd_some h
        refine x_ialdX C hM 3 (by decide) (eX_3 Θ) hi_14 (kX3_addRow (i := 64) rfl) ?_
        refine x_iload hx hb (kX3_addRow (i := 65) rfl) (lv_at hl 5 rfl) ?_
        refine x_iadd hx hb (kX3_addRow (i := 66) rfl) ?_
        obtain ⟨hi_15, h⟩ := gd_some h
        obtain ⟨g_16, eg_16, h⟩ := bnd_some h
        refine x_iastX C hM 3 (by decide) (eX_3 Θ) hi_15 eg_16 (kX3_addRow (i := 67) rfl) (fun H locs hM => ?_)
        obtain ⟨x_17, ex_17, h⟩ := bnd_some h
        refine x_iinc (k := 6) (lv' := [(6, vi x_17), (0, .ref (Θ.2.2.1 1)), (1, vi y1), (2, vi y2), (3, vi y3), (4, vi p_7), (5, vi p_8)]) hx hb (kX3_addRow (i := 68) rfl) hl rfl ex_17 (by decide) rfl (fun ls hl => ?_)
        refine lv_goto (tgt := 31) hx hb (kX3_addRow (i := 69) rfl) (by decide) ?_
        exact ih y1 y2 y3 p_7 p_8 x_17 g_16 H locs ls h hK115 hM (lv_sub hl [1, 2, 3, 4, 5, 6, 0] rfl)
      intro J75 hJ75 h
      refine x_icmp_lt (a' := wr x_6) (b' := wr (-y3)) hx hb rfl rfl (tgt := 75) (kX3_addRow (i := 26) rfl) (by decide) (fun c_18 => ?_) (fun c_18 => ?_)
      · have h := it_t c_18 h
        exact hJ75 y4 y5 H locs ls h hM (lv_sub hl [1, 2, 3, 4, 5, 6, 7] rfl)
      · have h := it_f c_18 h
        refine x_iload hx hb (kX3_addRow (i := 27) rfl) (lv_at hl 0 rfl) ?_
        refine x_iload_n hx hb (kX3_addRow (i := 28) rfl) rfl (lv_at hl 4 rfl) ?_
        refine x_icmp_ge (a' := wr x_6) (b' := wr y3) hx hb rfl rfl (tgt := 75) (kX3_addRow (i := 29) rfl) (by decide) (fun c_19 => ?_) (fun c_19 => ?_)
        · have h := it_t c_19 h
          exact hJ75 y4 y5 H locs ls h hM (lv_sub hl [1, 2, 3, 4, 5, 6, 7] rfl)
        · have h := it_f c_19 h
          refine x_iload hx hb (kX3_addRow (i := 30) rfl) (lv_at hl 5 rfl) ?_
          refine x_iload_n hx hb (kX3_addRow (i := 31) rfl) rfl (lv_at hl 3 rfl) ?_
          refine x_iadd hx hb (kX3_addRow (i := 32) rfl) ?_
          obtain ⟨x_20, ex_20, h⟩ := bnd_some h
          refine x_top ex_20 ?_
          refine x_istore (lv' := [(4, vi x_20), (7, vi x_6), (0, .ref (Θ.2.2.1 1)), (1, vi y1), (2, vi y2), (3, vi y3), (5, vi y5), (6, vi y6)]) hx hb (kX3_addRow (i := 33) rfl) hl (by decide) rfl (fun ls hl => ?_)
          refine x_iload hx hb (kX3_addRow (i := 34) rfl) (lv_at hl 6 rfl) ?_
          refine x_iload_n hx hb (kX3_addRow (i := 35) rfl) rfl (lv_at hl 4 rfl) ?_
          refine x_iconst hx hb (kX3_addRow (i := 36) rfl) ?_
          refine x_iload hx hb (kX3_addRow (i := 37) rfl) (lv_at hl 1 rfl) ?_
          refine x_imul hx hb (kX3_addRow (i := 38) rfl) ?_
          refine x_iconst hx hb (kX3_addRow (i := 39) rfl) ?_
          refine x_iadd hx hb (kX3_addRow (i := 40) rfl) ?_
          refine x_imul hx hb (kX3_addRow (i := 41) rfl) ?_
          refine x_iadd hx hb (kX3_addRow (i := 42) rfl) ?_
          obtain ⟨x_21, ex_21, h⟩ := bnd_some h
          refine x_top ex_21 ?_
          refine x_istore (lv' := [(5, vi x_21), (4, vi x_20), (7, vi x_6), (0, .ref (Θ.2.2.1 1)), (1, vi y1), (2, vi y2), (3, vi y3), (6, vi y6)]) hx hb (kX3_addRow (i := 43) rfl) hl (by decide) rfl (fun ls hl => ?_)
          exact hJ75 x_20 x_21 H locs ls h hM (lv_sub hl [3, 4, 5, 6, 1, 0, 7] rfl)
set_option maxRecDepth 100000 in
set_option maxHeartbeats 4000000 in
theorem tX3_addRow (l : Launch) (Θ : Th) (a0 : Int) (a1 : Int) (a2 : Int) (h0 g : Mem) (gR : Mem) (h : fX3_addRow a0 a1 a2 g = some gR) : Ct l yX3_addRow cX3_addRow 8 none 0 0 Θ [.ref (Θ.2.2.1 1), vi a0, vi a1, vi a2] g h0 gR h0 none := by
  refine x_start (by decide) (Nat.le_of_ble_eq_true rfl) ?_
  intro p e s m args below meth c ls C hM hl
  have hl : lv_has ls 8 [(0, .ref (Θ.2.2.1 1)), (1, vi a0), (2, vi a1), (3, vi a2)] := hl
  obtain ⟨hx, hb, hml, hown, hts, -⟩ := id C
  unfold fX3_addRow at h
  have key : ∀ (H : Heap) (locs : List Loc), Hd Θ s g h0 H locs → W p l e { frames := 0, cells := 0, slots := 0, locals := 0 } s m args below meth c H locs 0 0 (MQ below (Qx Θ s.heap.size gR h0 none) args s 0 0 (AA Θ s.heap.size)) (F0 m 0 ls []) := by
    intro H locs hM
    refine x_iload_n hx hb (kX3_addRow (i := 0) rfl) rfl (lv_at hl 1 rfl) ?_
    refine x_if_lt (a' := wr a0) hx hb rfl (tgt := 20) (kX3_addRow (i := 1) rfl) (by decide) (fun c_1 => ?_) (fun c_1 => ?_)
    · have h := it_t c_1 h
      rw [← Option.some.inj h]
      exact x_vret C hM (kX3_addRow (i := 10) rfl)
    · have h := it_f c_1 h
      refine x_iload_n hx hb (kX3_addRow (i := 2) rfl) rfl (lv_at hl 1 rfl) ?_
      refine x_bipush hx hb (by decide) (kX3_addRow (i := 3) rfl) ?_
      refine x_icmp_ge (a' := wr a0) (b' := 10) hx hb rfl (by decide) (tgt := 20) (kX3_addRow (i := 4) rfl) (by decide) (fun c_2 => ?_) (fun c_2 => ?_)
      · have h := it_t c_2 h
        rw [← Option.some.inj h]
        exact x_vret C hM (kX3_addRow (i := 10) rfl)
      · have h := it_f c_2 h
        refine x_iload_n hx hb (kX3_addRow (i := 5) rfl) rfl (lv_at hl 3 rfl) ?_
        refine x_if_lt (a' := wr a2) hx hb rfl (tgt := 20) (kX3_addRow (i := 6) rfl) (by decide) (fun c_3 => ?_) (fun c_3 => ?_)
        · have h := it_t c_3 h
          rw [← Option.some.inj h]
          exact x_vret C hM (kX3_addRow (i := 10) rfl)
        · have h := it_f c_3 h
          refine x_iload_n hx hb (kX3_addRow (i := 7) rfl) rfl (lv_at hl 3 rfl) ?_
          refine x_bipush hx hb (by decide) (kX3_addRow (i := 8) rfl) ?_
          refine x_icmp_le (a' := wr a2) (b' := 9) hx hb rfl (by decide) (tgt := 21) (kX3_addRow (i := 9) rfl) (by decide) (fun c_4 => ?_) (fun c_4 => ?_)
          · have h := it_t c_4 h
            refine x_iconst hx hb (kX3_addRow (i := 11) rfl) ?_
            refine x_istore (lv' := [(4, vi 0), (0, .ref (Θ.2.2.1 1)), (1, vi a0), (2, vi a1), (3, vi a2)]) hx hb (kX3_addRow (i := 12) rfl) hl (by decide) rfl (fun ls hl => ?_)
            refine x_iconst hx hb (kX3_addRow (i := 13) rfl) ?_
            refine x_istore (lv' := [(5, vi 0), (4, vi 0), (0, .ref (Θ.2.2.1 1)), (1, vi a0), (2, vi a1), (3, vi a2)]) hx hb (kX3_addRow (i := 14) rfl) hl (by decide) rfl (fun ls hl => ?_)
            refine x_bipush hx hb (by decide) (kX3_addRow (i := 15) rfl) ?_
            refine x_istore (lv' := [(6, vi 18), (5, vi 0), (4, vi 0), (0, .ref (Θ.2.2.1 1)), (1, vi a0), (2, vi a1), (3, vi a2)]) hx hb (kX3_addRow (i := 16) rfl) hl (by decide) rfl (fun ls hl => ?_)
            refine wX3_addRow_L31  C fuel a0 a1 a2 0 0 18 g H locs ls h ?_ hM (lv_sub hl [3, 4, 5, 6, 2, 1, 0] rfl)
            · intro z_22 g_23 H locs ls h hM hl
              refine lv_aload_n hx hb (kX3_addRow (i := 70) rfl) rfl (lv_at hl 0 rfl) ?_
              refine lv_dup hx hb (kX3_addRow (i := 71) rfl) rfl ?_
              refine gX3_whole C hM q_fX3_37 (kX3_addRow (i := 72) rfl) ?_
              refine x_iload hx hb (kX3_addRow (i := 73) rfl) (lv_at hl 1 rfl) ?_
              refine x_iadd hx hb (kX3_addRow (i := 74) rfl) ?_
              obtain ⟨g_24, eg_24, h⟩ := bnd_some h
              refine pX3_whole C hM q_fX3_37 eg_24 (kX3_addRow (i := 75) rfl) (fun H locs hM => ?_)
              rw [← Option.some.inj h]
              exact x_vret C hM (kX3_addRow (i := 76) rfl)
          · have h := it_f c_4 h
            rw [← Option.some.inj h]
            exact x_vret C hM (kX3_addRow (i := 10) rfl)
  exact key _ _ hM

/-! X3_addSlice -/
def fX3_addSlice_L20 : Nat → Int → Int → Int → Int → Mem → (Mem → Option (Int × Mem)) → Option (Int × Mem)
  | 0, _, _, _, _, _, _ => none
  | n + 1, y1, y4, y5, y6, g, K71 =>
    if wr y6 < 0 then (
      K71 g
    ) else (
      bd (fX3_addRow y6 y1 (Int.tmod (wr y4) (10)) g) fun g_5 =>
      bd (fX3_addRow (y6 + 5) y1 (Int.tmod (wr y5) (10)) g_5) fun g_8 =>
      bnd (Int.tdiv (wr y4) (10)) fun x_9 =>
      bnd (Int.tdiv (wr y5) (10)) fun x_10 =>
      bnd (y6 + (-1)) fun x_11 =>
      fX3_addSlice_L20 n y1 x_9 x_10 x_11 g_8 K71
    )
def fX3_addSlice (a0 : Int) (a1 : Int) (a2 : Int) (g : Mem) : Option (Int × Mem) :=
  if wr (g 1 7) < 6 then (
    fX3_addSlice_L20 fuel a0 a1 a2 4 g
    (fun (g_12 : Mem) =>
      bnd (up g_12 1 6 ((g_12 1 6) + 1)) fun g_13 =>
      bnd (g_13 1 7) fun x_14 =>
      bnd (up g_13 1 7 (x_14 + 1)) fun g_15 =>
      some (x_14, g_15)
    )
  ) else (
    some ((-1), g)
  )
set_option maxRecDepth 100000 in
set_option maxHeartbeats 4000000 in
theorem wX3_addSlice_L20 {p : Program} {l : Launch} {e : Env} {s : State} {m : MethodId} {args : Array Value} {below : List Frame} {meth : Method} {c : Code} {Θ : Th} {h0 : Mem} {rv : Int} {gR : Mem} {K71 : Mem → Option (Int × Mem)} (C : Cx p s m args meth c cX3_addSlice 7 RX3 (some .int) Θ) : ∀ (n : Nat) (y1 : Int) (y4 : Int) (y5 : Int) (y6 : Int) (g : Mem) (H : Heap) (locs : List Loc) (ls : Array Slot), fX3_addSlice_L20 n y1 y4 y5 y6 g K71 = some (rv, gR) → (∀ (gz : Mem) (H : Heap) (locs : List Loc) (ls : Array Slot), K71 gz = some (rv, gR) → Hd Θ s gz h0 H locs → lv_has ls 7 [(0, .ref (Θ.2.2.1 1))] → W p l e { frames := 1, cells := 0, slots := 0, locals := 27 } s m args below meth c H locs 0 0 (MQ below (Qx Θ s.heap.size gR h0 (some (vi rv))) args s 0 0 (AA Θ s.heap.size)) (F0 m 71 ls [])) → Hd Θ s g h0 H locs → lv_has ls 7 [(0, .ref (Θ.2.2.1 1)), (1, vi y1), (4, vi y4), (5, vi y5), (6, vi y6)] → W p l e { frames := 1, cells := 0, slots := 0, locals := 27 } s m args below meth c H locs 0 0 (MQ below (Qx Θ s.heap.size gR h0 (some (vi rv))) args s 0 0 (AA Θ s.heap.size)) (F0 m 20 ls []) := by
  intro n
  obtain ⟨hx, hb, hml, hown, hts, -⟩ := id C
  induction n with
  | zero => intro y1 y4 y5 y6 g H locs ls h; cases h
  | succ n ih =>
    intro y1 y4 y5 y6 g H locs ls h hK71 hM hl
    rw [fX3_addSlice_L20] at h
    refine x_iload hx hb (kX3_addSlice (i := 12) rfl) (lv_at hl 4 rfl) ?_
    refine x_if_lt (a' := wr y6) hx hb rfl (tgt := 71) (kX3_addSlice (i := 13) rfl) (by decide) (fun c_2 => ?_) (fun c_2 => ?_)
    · have h := it_t c_2 h
      exact hK71 g H locs ls h hM (lv_sub hl [0] rfl)
    · have h := it_f c_2 h
      refine lv_aload_n hx hb (kX3_addSlice (i := 14) rfl) rfl (lv_at hl 0 rfl) ?_
      refine x_iload hx hb (kX3_addSlice (i := 15) rfl) (lv_at hl 4 rfl) ?_
      refine x_iload_n hx hb (kX3_addSlice (i := 16) rfl) rfl (lv_at hl 1 rfl) ?_
      refine x_iload hx hb (kX3_addSlice (i := 17) rfl) (lv_at hl 2 rfl) ?_
      refine x_bipush hx hb (by decide) (kX3_addSlice (i := 18) rfl) ?_
      refine x_irem (a' := wr y4) (b' := 10) hx hb (kX3_addSlice (i := 19) rfl) rfl (by decide) (by decide) ?_
      obtain ⟨g_5, hc_4, h⟩ := bd_some h
      refine x_callV (n := 3) (As := [vi y6, vi y1, vi (Int.tmod (wr y4) (10))]) (rest := []) C hM (tX3_addRow l Θ y6 y1 (Int.tmod (wr y4) (10)) h0 g g_5 hc_4) (x_recvX C hM 1 (by decide) (eX_1 Θ _) rfl rfl) q_c_X3_addRow q_mX3_43 q_i_X3_addRow q_e_X3_addRow q_n_X3 (by decide +kernel) ⟨by decide, by decide⟩ rfl hl.1 rfl (Nat.le_of_ble_eq_true rfl) (kX3_addSlice (i := 20) rfl) (fun H locs hM => ?_)
      refine lv_aload_n hx hb (kX3_addSlice (i := 21) rfl) rfl (lv_at hl 0 rfl) ?_
      refine x_iload hx hb (kX3_addSlice (i := 22) rfl) (lv_at hl 4 rfl) ?_
      refine x_iconst hx hb (kX3_addSlice (i := 23) rfl) ?_
      refine x_iadd hx hb (kX3_addSlice (i := 24) rfl) ?_
      refine x_iload_n hx hb (kX3_addSlice (i := 25) rfl) rfl (lv_at hl 1 rfl) ?_
      refine x_iload hx hb (kX3_addSlice (i := 26) rfl) (lv_at hl 3 rfl) ?_
      refine x_bipush hx hb (by decide) (kX3_addSlice (i := 27) rfl) ?_
      refine x_irem (a' := wr y5) (b' := 10) hx hb (kX3_addSlice (i := 28) rfl) rfl (by decide) (by decide) ?_
      obtain ⟨g_8, hc_7, h⟩ := bd_some h
      refine x_callV (n := 3) (As := [vi (y6 + 5), vi y1, vi (Int.tmod (wr y5) (10))]) (rest := []) C hM (tX3_addRow l Θ (y6 + 5) y1 (Int.tmod (wr y5) (10)) h0 g_5 g_8 hc_7) (x_recvX C hM 1 (by decide) (eX_1 Θ _) rfl rfl) q_c_X3_addRow q_mX3_43 q_i_X3_addRow q_e_X3_addRow q_n_X3 (by decide +kernel) ⟨by decide, by decide⟩ rfl hl.1 rfl (Nat.le_of_ble_eq_true rfl) (kX3_addSlice (i := 29) rfl) (fun H locs hM => ?_)
      refine x_iload hx hb (kX3_addSlice (i := 30) rfl) (lv_at hl 2 rfl) ?_
      refine x_bipush hx hb (by decide) (kX3_addSlice (i := 31) rfl) ?_
      refine x_idiv (a' := wr y4) (b' := 10) hx hb (kX3_addSlice (i := 32) rfl) rfl (by decide) (by decide) ?_
      obtain ⟨x_9, ex_9, h⟩ := bnd_some h
      refine x_top ex_9 ?_
      refine x_istore (lv' := [(4, vi x_9), (0, .ref (Θ.2.2.1 1)), (1, vi y1), (5, vi y5), (6, vi y6)]) hx hb (kX3_addSlice (i := 33) rfl) hl (by decide) rfl (fun ls hl => ?_)
      refine x_iload hx hb (kX3_addSlice (i := 34) rfl) (lv_at hl 3 rfl) ?_
      refine x_bipush hx hb (by decide) (kX3_addSlice (i := 35) rfl) ?_
      refine x_idiv (a' := wr y5) (b' := 10) hx hb (kX3_addSlice (i := 36) rfl) rfl (by decide) (by decide) ?_
      obtain ⟨x_10, ex_10, h⟩ := bnd_some h
      refine x_top ex_10 ?_
      refine x_istore (lv' := [(5, vi x_10), (4, vi x_9), (0, .ref (Θ.2.2.1 1)), (1, vi y1), (6, vi y6)]) hx hb (kX3_addSlice (i := 37) rfl) hl (by decide) rfl (fun ls hl => ?_)
      obtain ⟨x_11, ex_11, h⟩ := bnd_some h
      refine x_iinc (k := 4) (lv' := [(6, vi x_11), (5, vi x_10), (4, vi x_9), (0, .ref (Θ.2.2.1 1)), (1, vi y1)]) hx hb (kX3_addSlice (i := 38) rfl) hl rfl ex_11 (by decide) rfl (fun ls hl => ?_)
      refine lv_goto (tgt := 20) hx hb (kX3_addSlice (i := 39) rfl) (by decide) ?_
      exact ih y1 x_9 x_10 x_11 g_8 H locs ls h hK71 hM (lv_sub hl [3, 4, 2, 1, 0] rfl)
set_option maxRecDepth 100000 in
set_option maxHeartbeats 4000000 in
theorem tX3_addSlice (l : Launch) (Θ : Th) (a0 : Int) (a1 : Int) (a2 : Int) (h0 g : Mem) (rv : Int) (gR : Mem) (h : fX3_addSlice a0 a1 a2 g = some (rv, gR)) : Ct l yX3_addSlice cX3_addSlice 7 (some .int) 1 27 Θ [.ref (Θ.2.2.1 1), vi a0, vi a1, vi a2] g h0 gR h0 (some (vi rv)) := by
  refine x_start (by decide) (Nat.le_of_ble_eq_true rfl) ?_
  intro p e s m args below meth c ls C hM hl
  have hl : lv_has ls 7 [(0, .ref (Θ.2.2.1 1)), (1, vi a0), (2, vi a1), (3, vi a2)] := hl
  obtain ⟨hx, hb, hml, hown, hts, -⟩ := id C
  unfold fX3_addSlice at h
  have key : ∀ (H : Heap) (locs : List Loc), Hd Θ s g h0 H locs → W p l e { frames := 1, cells := 0, slots := 0, locals := 27 } s m args below meth c H locs 0 0 (MQ below (Qx Θ s.heap.size gR h0 (some (vi rv))) args s 0 0 (AA Θ s.heap.size)) (F0 m 0 ls []) := by
    intro H locs hM
    refine lv_aload_n hx hb (kX3_addSlice (i := 0) rfl) rfl (lv_at hl 0 rfl) ?_
    refine gX3_slices C hM q_fX3_34 (kX3_addSlice (i := 1) rfl) ?_
    refine x_bipush hx hb (by decide) (kX3_addSlice (i := 2) rfl) ?_
    refine x_icmp_lt (a' := wr (g 1 7)) (b' := 6) hx hb rfl (by decide) (tgt := 11) (kX3_addSlice (i := 3) rfl) (by decide) (fun c_1 => ?_) (fun c_1 => ?_)
    · have h := it_t c_1 h
      refine x_iload_n hx hb (kX3_addSlice (i := 6) rfl) rfl (lv_at hl 2 rfl) ?_
      refine x_istore (lv' := [(4, vi a1), (0, .ref (Θ.2.2.1 1)), (1, vi a0), (2, vi a1), (3, vi a2)]) hx hb (kX3_addSlice (i := 7) rfl) hl (by decide) rfl (fun ls hl => ?_)
      refine x_iload_n hx hb (kX3_addSlice (i := 8) rfl) rfl (lv_at hl 4 rfl) ?_
      refine x_istore (lv' := [(5, vi a2), (4, vi a1), (0, .ref (Θ.2.2.1 1)), (1, vi a0), (2, vi a1), (3, vi a2)]) hx hb (kX3_addSlice (i := 9) rfl) hl (by decide) rfl (fun ls hl => ?_)
      refine x_iconst hx hb (kX3_addSlice (i := 10) rfl) ?_
      refine x_istore (lv' := [(6, vi 4), (5, vi a2), (4, vi a1), (0, .ref (Θ.2.2.1 1)), (1, vi a0), (2, vi a1), (3, vi a2)]) hx hb (kX3_addSlice (i := 11) rfl) hl (by decide) rfl (fun ls hl => ?_)
      refine wX3_addSlice_L20  C fuel a0 a1 a2 4 g H locs ls h ?_ hM (lv_sub hl [3, 4, 2, 1, 0] rfl)
      · intro g_12 H locs ls h hM hl
        refine lv_aload_n hx hb (kX3_addSlice (i := 40) rfl) rfl (lv_at hl 0 rfl) ?_
        refine lv_dup hx hb (kX3_addSlice (i := 41) rfl) rfl ?_
        refine gX3_version C hM q_fX3_30 (kX3_addSlice (i := 42) rfl) ?_
        refine x_iconst hx hb (kX3_addSlice (i := 43) rfl) ?_
        refine x_iadd hx hb (kX3_addSlice (i := 44) rfl) ?_
        obtain ⟨g_13, eg_13, h⟩ := bnd_some h
        refine pX3_version C hM q_fX3_30 eg_13 (kX3_addSlice (i := 45) rfl) (fun H locs hM => ?_)
        refine lv_aload_n hx hb (kX3_addSlice (i := 46) rfl) rfl (lv_at hl 0 rfl) ?_
        refine lv_dup hx hb (kX3_addSlice (i := 47) rfl) rfl ?_
        refine gX3_slices C hM q_fX3_34 (kX3_addSlice (i := 48) rfl) ?_
        obtain ⟨x_14, ex_14, h⟩ := bnd_some h
        refine x_top ex_14 ?_
        refine lv_dup_x1 hx hb (kX3_addSlice (i := 49) rfl) rfl rfl ?_
        refine x_iconst hx hb (kX3_addSlice (i := 50) rfl) ?_
        refine x_iadd hx hb (kX3_addSlice (i := 51) rfl) ?_
        obtain ⟨g_15, eg_15, h⟩ := bnd_some h
        refine pX3_slices C hM q_fX3_34 eg_15 (kX3_addSlice (i := 52) rfl) (fun H locs hM => ?_)
        obtain ⟨q1, q2⟩ := ret2 h
        rw [q1, q2]
        exact x_iret C hM (nar_i _) (kX3_addSlice (i := 53) rfl)
    · have h := it_f c_1 h
      refine x_iconst hx hb (kX3_addSlice (i := 4) rfl) ?_
      obtain ⟨q1, q2⟩ := ret2 h
      rw [q1, q2]
      exact x_iret C hM (nar_i _) (kX3_addSlice (i := 5) rfl)
  exact key _ _ hM

/-! X3_carry -/
def fX3_carry (a0 : Int) (g : Mem) : Option (Mem) :=
  if wr a0 = wr (g 1 9) then (
    some g
  ) else (
    bnd (up g 1 9 a0) fun g_2 =>
    bnd (up g_2 1 6 ((g_2 1 6) + 1)) fun g_3 =>
    some g_3
  )
set_option maxRecDepth 100000 in
set_option maxHeartbeats 4000000 in
theorem tX3_carry (l : Launch) (Θ : Th) (a0 : Int) (h0 g : Mem) (gR : Mem) (h : fX3_carry a0 g = some gR) : Ct l yX3_carry cX3_carry 2 none 0 0 Θ [.ref (Θ.2.2.1 1), vi a0] g h0 gR h0 none := by
  refine x_start (by decide) (Nat.le_of_ble_eq_true rfl) ?_
  intro p e s m args below meth c ls C hM hl
  have hl : lv_has ls 2 [(0, .ref (Θ.2.2.1 1)), (1, vi a0)] := hl
  obtain ⟨hx, hb, hml, hown, hts, -⟩ := id C
  unfold fX3_carry at h
  have key : ∀ (H : Heap) (locs : List Loc), Hd Θ s g h0 H locs → W p l e { frames := 0, cells := 0, slots := 0, locals := 0 } s m args below meth c H locs 0 0 (MQ below (Qx Θ s.heap.size gR h0 none) args s 0 0 (AA Θ s.heap.size)) (F0 m 0 ls []) := by
    intro H locs hM
    refine x_iload_n hx hb (kX3_carry (i := 0) rfl) rfl (lv_at hl 1 rfl) ?_
    refine lv_aload_n hx hb (kX3_carry (i := 1) rfl) rfl (lv_at hl 0 rfl) ?_
    refine gX3_heavy C hM q_fX3_40 (kX3_carry (i := 2) rfl) ?_
    refine x_icmp_eq (a' := wr a0) (b' := wr (g 1 9)) hx hb rfl rfl (tgt := 23) (kX3_carry (i := 3) rfl) (by decide) (fun c_1 => ?_) (fun c_1 => ?_)
    · have h := it_t c_1 h
      rw [← Option.some.inj h]
      exact x_vret C hM (kX3_carry (i := 13) rfl)
    · have h := it_f c_1 h
      refine lv_aload_n hx hb (kX3_carry (i := 4) rfl) rfl (lv_at hl 0 rfl) ?_
      refine x_iload_n hx hb (kX3_carry (i := 5) rfl) rfl (lv_at hl 1 rfl) ?_
      obtain ⟨g_2, eg_2, h⟩ := bnd_some h
      refine pX3_heavy C hM q_fX3_40 eg_2 (kX3_carry (i := 6) rfl) (fun H locs hM => ?_)
      refine lv_aload_n hx hb (kX3_carry (i := 7) rfl) rfl (lv_at hl 0 rfl) ?_
      refine lv_dup hx hb (kX3_carry (i := 8) rfl) rfl ?_
      refine gX3_version C hM q_fX3_30 (kX3_carry (i := 9) rfl) ?_
      refine x_iconst hx hb (kX3_carry (i := 10) rfl) ?_
      refine x_iadd hx hb (kX3_carry (i := 11) rfl) ?_
      obtain ⟨g_3, eg_3, h⟩ := bnd_some h
      refine pX3_version C hM q_fX3_30 eg_3 (kX3_carry (i := 12) rfl) (fun H locs hM => ?_)
      rw [← Option.some.inj h]
      exact x_vret C hM (kX3_carry (i := 13) rfl)
  exact key _ _ hM

/-! X3_floats -/
def fX3_floats (g : Mem) : Option (Int) :=
  if wr (g 1 9) ≤ 0 then (
    some 0
  ) else (
    if wr (g 1 8) < wr (g 1 9) then (
      some 0
    ) else (
      some 1
    )
  )
set_option maxRecDepth 100000 in
set_option maxHeartbeats 4000000 in
theorem tX3_floats (l : Launch) (Θ : Th) (h0 g : Mem) (rv : Int) (h : fX3_floats g = some rv) : Ct l yX3_floats cX3_floats 1 (some .boolean) 0 0 Θ [.ref (Θ.2.2.1 1)] g h0 g h0 (some (vi rv)) := by
  refine x_start (by decide) (Nat.le_of_ble_eq_true rfl) ?_
  intro p e s m args below meth c ls C hM hl
  have hl : lv_has ls 1 [(0, .ref (Θ.2.2.1 1))] := hl
  obtain ⟨hx, hb, hml, hown, hts, -⟩ := id C
  unfold fX3_floats at h
  have key : ∀ (H : Heap) (locs : List Loc), Hd Θ s g h0 H locs → W p l e { frames := 0, cells := 0, slots := 0, locals := 0 } s m args below meth c H locs 0 0 (MQ below (Qx Θ s.heap.size g h0 (some (vi rv))) args s 0 0 (AA Θ s.heap.size)) (F0 m 0 ls []) := by
    intro H locs hM
    refine lv_aload_n hx hb (kX3_floats (i := 0) rfl) rfl (lv_at hl 0 rfl) ?_
    refine gX3_heavy C hM q_fX3_40 (kX3_floats (i := 1) rfl) ?_
    refine x_if_le (a' := wr (g 1 9)) hx hb rfl (tgt := 22) (kX3_floats (i := 2) rfl) (by decide) (fun c_1 => ?_) (fun c_1 => ?_)
    · have h := it_t c_1 h
      refine x_iconst hx hb (kX3_floats (i := 10) rfl) ?_
      rw [← Option.some.inj h]
      exact x_iret C hM (nar_z (Or.inl rfl)) (kX3_floats (i := 11) rfl)
    · have h := it_f c_1 h
      refine lv_aload_n hx hb (kX3_floats (i := 3) rfl) rfl (lv_at hl 0 rfl) ?_
      refine gX3_heavy C hM q_fX3_40 (kX3_floats (i := 4) rfl) ?_
      refine lv_aload_n hx hb (kX3_floats (i := 5) rfl) rfl (lv_at hl 0 rfl) ?_
      refine gX3_whole C hM q_fX3_37 (kX3_floats (i := 6) rfl) ?_
      refine x_icmp_gt (a' := wr (g 1 9)) (b' := wr (g 1 8)) hx hb rfl rfl (tgt := 22) (kX3_floats (i := 7) rfl) (by decide) (fun c_2 => ?_) (fun c_2 => ?_)
      · have h := it_t c_2 h
        refine x_iconst hx hb (kX3_floats (i := 10) rfl) ?_
        rw [← Option.some.inj h]
        exact x_iret C hM (nar_z (Or.inl rfl)) (kX3_floats (i := 11) rfl)
      · have h := it_f c_2 h
        refine x_iconst hx hb (kX3_floats (i := 8) rfl) ?_
        refine lv_goto (tgt := 23) hx hb (kX3_floats (i := 9) rfl) (by decide) ?_
        rw [← Option.some.inj h]
        exact x_iret C hM (nar_z (Or.inr rfl)) (kX3_floats (i := 11) rfl)
  exact key _ _ hM

/-! X3_firstWet -/
def fX3_firstWet (a0 : Int) (a1 : Int) (a2 : Int) : Option (Int) :=
  bnd ((100 * ((2 * a0) + 1)) - a2) fun x_1 =>
  if 0 < wr a1 then (
    bd (fJ9_floorDiv_7cf53 (-x_1) a1) fun r_3 =>
    bnd (-r_3) fun x_5 =>
    bd (fJ9_floorDiv_7cf53 x_5 2) fun r_6 =>
    bnd (r_6 + 9) fun x_8 =>
    some (mMax 0 (mMin 18 x_8))
  ) else (
    if wr x_1 ≤ 0 then (
      some 0
    ) else (
      some 18
    )
  )
set_option maxRecDepth 100000 in
set_option maxHeartbeats 4000000 in
theorem tX3_firstWet (l : Launch) (Θ : Th) (a0 : Int) (a1 : Int) (a2 : Int) (h0 g0 : Mem) (rv : Int) (h : fX3_firstWet a0 a1 a2 = some rv) : Ct l yX3_firstWet cX3_firstWet 6 (some .int) 1 22 Θ [vi a0, vi a1, vi a2] g0 h0 g0 h0 (some (vi rv)) := by
  refine x_start (by decide) (Nat.le_of_ble_eq_true rfl) ?_
  intro p e s m args below meth c ls C hM hl
  have hl : lv_has ls 6 [(0, vi a0), (1, vi a1), (2, vi a2)] := hl
  obtain ⟨hx, hb, hml, hown, hts, -⟩ := id C
  unfold fX3_firstWet at h
  have key : ∀ (H : Heap) (locs : List Loc), Hd Θ s g0 h0 H locs → W p l e { frames := 1, cells := 0, slots := 0, locals := 22 } s m args below meth c H locs 0 0 (MQ below (Qx Θ s.heap.size g0 h0 (some (vi rv))) args s 0 0 (AA Θ s.heap.size)) (F0 m 0 ls []) := by
    intro H locs hM
    refine x_bipush hx hb (by decide) (kX3_firstWet (i := 0) rfl) ?_
    refine x_iconst hx hb (kX3_firstWet (i := 1) rfl) ?_
    refine x_iload_n hx hb (kX3_firstWet (i := 2) rfl) rfl (lv_at hl 0 rfl) ?_
    refine x_imul hx hb (kX3_firstWet (i := 3) rfl) ?_
    refine x_iconst hx hb (kX3_firstWet (i := 4) rfl) ?_
    refine x_iadd hx hb (kX3_firstWet (i := 5) rfl) ?_
    refine x_imul hx hb (kX3_firstWet (i := 6) rfl) ?_
    refine x_iload_n hx hb (kX3_firstWet (i := 7) rfl) rfl (lv_at hl 2 rfl) ?_
    refine x_isub hx hb (kX3_firstWet (i := 8) rfl) ?_
    obtain ⟨x_1, ex_1, h⟩ := bnd_some h
    refine x_top ex_1 ?_
    refine x_istore_n (lv' := [(3, vi x_1), (0, vi a0), (1, vi a1), (2, vi a2)]) hx hb (kX3_firstWet (i := 9) rfl) rfl hl (by decide) rfl (fun ls hl => ?_)
    refine x_iload_n hx hb (kX3_firstWet (i := 10) rfl) rfl (lv_at hl 2 rfl) ?_
    refine x_if_gt (a' := wr a1) hx hb rfl (tgt := 26) (kX3_firstWet (i := 11) rfl) (by decide) (fun c_2 => ?_) (fun c_2 => ?_)
    · have h := it_t c_2 h
      refine x_iload_n hx hb (kX3_firstWet (i := 18) rfl) rfl (lv_at hl 0 rfl) ?_
      refine x_ineg hx hb (kX3_firstWet (i := 19) rfl) ?_
      refine x_iload_n hx hb (kX3_firstWet (i := 20) rfl) rfl (lv_at hl 2 rfl) ?_
      obtain ⟨r_3, hc_4, h⟩ := bd_some h
      refine x_callS (n := 2) (As := [vi (-x_1), vi a1]) (rest := []) C hM (tJ9_floorDiv_7cf53 l Θ (-x_1) a1 g0 h0 r_3 hc_4) q_c_J9_floorDiv_7cf53 q_mX3_53 q_s_J9_floorDiv_7cf53 q_n_J9 (by decide +kernel) ⟨by decide, by decide⟩ rfl hl.1 rfl (Nat.le_of_ble_eq_true rfl) (kX3_firstWet (i := 21) rfl) (fun H locs hM => ?_)
      refine x_ineg hx hb (kX3_firstWet (i := 22) rfl) ?_
      obtain ⟨x_5, ex_5, h⟩ := bnd_some h
      refine x_top ex_5 ?_
      refine x_istore (lv' := [(4, vi x_5), (3, vi x_1), (0, vi a0), (1, vi a1), (2, vi a2)]) hx hb (kX3_firstWet (i := 23) rfl) hl (by decide) rfl (fun ls hl => ?_)
      refine x_iload hx hb (kX3_firstWet (i := 24) rfl) (lv_at hl 0 rfl) ?_
      refine x_iconst hx hb (kX3_firstWet (i := 25) rfl) ?_
      obtain ⟨r_6, hc_7, h⟩ := bd_some h
      refine x_callS (n := 2) (As := [vi x_5, vi 2]) (rest := []) C hM (tJ9_floorDiv_7cf53 l Θ x_5 2 g0 h0 r_6 hc_7) q_c_J9_floorDiv_7cf53 q_mX3_53 q_s_J9_floorDiv_7cf53 q_n_J9 (by decide +kernel) ⟨by decide, by decide⟩ rfl hl.1 rfl (Nat.le_of_ble_eq_true rfl) (kX3_firstWet (i := 26) rfl) (fun H locs hM => ?_)
      refine x_bipush hx hb (by decide) (kX3_firstWet (i := 27) rfl) ?_
      refine x_iadd hx hb (kX3_firstWet (i := 28) rfl) ?_
      obtain ⟨x_8, ex_8, h⟩ := bnd_some h
      refine x_top ex_8 ?_
      refine x_istore (lv' := [(5, vi x_8), (4, vi x_5), (3, vi x_1), (0, vi a0), (1, vi a1), (2, vi a2)]) hx hb (kX3_firstWet (i := 29) rfl) hl (by decide) rfl (fun ls hl => ?_)
      refine x_iconst hx hb (kX3_firstWet (i := 30) rfl) ?_
      refine x_bipush hx hb (by decide) (kX3_firstWet (i := 31) rfl) ?_
      refine x_iload hx hb (kX3_firstWet (i := 32) rfl) (lv_at hl 0 rfl) ?_
      refine x_mmin C hl.1 (Nat.le_of_ble_eq_true rfl) (Nat.le_of_ble_eq_true rfl) q_mX3_68 (kX3_firstWet (i := 33) rfl) ?_
      refine x_mmax C hl.1 (Nat.le_of_ble_eq_true rfl) (Nat.le_of_ble_eq_true rfl) q_mX3_71 (kX3_firstWet (i := 34) rfl) ?_
      rw [← Option.some.inj h]
      exact x_iret C hM (nar_i _) (kX3_firstWet (i := 35) rfl)
    · have h := it_f c_2 h
      refine x_iload_n hx hb (kX3_firstWet (i := 12) rfl) rfl (lv_at hl 0 rfl) ?_
      refine x_if_le (a' := wr x_1) hx hb rfl (tgt := 24) (kX3_firstWet (i := 13) rfl) (by decide) (fun c_9 => ?_) (fun c_9 => ?_)
      · have h := it_t c_9 h
        refine x_iconst hx hb (kX3_firstWet (i := 16) rfl) ?_
        rw [← Option.some.inj h]
        exact x_iret C hM (nar_i _) (kX3_firstWet (i := 17) rfl)
      · have h := it_f c_9 h
        refine x_bipush hx hb (by decide) (kX3_firstWet (i := 14) rfl) ?_
        refine lv_goto (tgt := 25) hx hb (kX3_firstWet (i := 15) rfl) (by decide) ?_
        rw [← Option.some.inj h]
        exact x_iret C hM (nar_i _) (kX3_firstWet (i := 17) rfl)
  exact key _ _ hM

/-! X3_pushIn -/
def fX3_pushIn_L5 : Nat → Int → Int → Int → Int → Mem → Option (Int)
  | 0, _, _, _, _, _ => none
  | n + 1, y1, y2, y3, y4, g =>
    if 10 ≤ wr y4 then (
      some y3
    ) else (
      bd (fX3_firstWet y4 y1 y2) fun r_2 =>
      gd ((y4 * 19) + r_2) 190 <|
      bnd (y3 + (g 2 (wr ((y4 * 19) + r_2)).toNat)) fun x_5 =>
      bnd (y4 + 1) fun x_6 =>
      fX3_pushIn_L5 n y1 y2 x_5 x_6 g
    )
def fX3_pushIn (a0 : Int) (a1 : Int) (g : Mem) : Option (Int) :=
  fX3_pushIn_L5 fuel a0 a1 0 0 g
set_option maxRecDepth 100000 in
set_option maxHeartbeats 4000000 in
theorem wX3_pushIn_L5 {p : Program} {l : Launch} {e : Env} {s : State} {m : MethodId} {args : Array Value} {below : List Frame} {meth : Method} {c : Code} {Θ : Th} {h0 : Mem} {g : Mem} {rv : Int} (C : Cx p s m args meth c cX3_pushIn 5 RX3 (some .int) Θ) : ∀ (n : Nat) (y1 : Int) (y2 : Int) (y3 : Int) (y4 : Int) (H : Heap) (locs : List Loc) (ls : Array Slot), fX3_pushIn_L5 n y1 y2 y3 y4 g = some rv → Hd Θ s g h0 H locs → lv_has ls 5 [(0, .ref (Θ.2.2.1 1)), (1, vi y1), (2, vi y2), (3, vi y3), (4, vi y4)] → W p l e { frames := 2, cells := 0, slots := 0, locals := 47 } s m args below meth c H locs 0 0 (MQ below (Qx Θ s.heap.size g h0 (some (vi rv))) args s 0 0 (AA Θ s.heap.size)) (F0 m 5 ls []) := by
  intro n
  obtain ⟨hx, hb, hml, hown, hts, -⟩ := id C
  induction n with
  | zero => intro y1 y2 y3 y4 H locs ls h; cases h
  | succ n ih =>
    intro y1 y2 y3 y4 H locs ls h  hM hl
    rw [fX3_pushIn_L5] at h
    refine x_iload hx hb (kX3_pushIn (i := 4) rfl) (lv_at hl 4 rfl) ?_
    refine x_bipush hx hb (by decide) (kX3_pushIn (i := 5) rfl) ?_
    refine x_icmp_ge (a' := wr y4) (b' := 10) hx hb rfl (by decide) (tgt := 39) (kX3_pushIn (i := 6) rfl) (by decide) (fun c_1 => ?_) (fun c_1 => ?_)
    · have h := it_t c_1 h
      refine x_iload_n hx hb (kX3_pushIn (i := 23) rfl) rfl (lv_at hl 3 rfl) ?_
      rw [← Option.some.inj h]
      exact x_iret C hM (nar_i _) (kX3_pushIn (i := 24) rfl)
    · have h := it_f c_1 h
      refine x_iload_n hx hb (kX3_pushIn (i := 7) rfl) rfl (lv_at hl 3 rfl) ?_
      refine lv_aload_n hx hb (kX3_pushIn (i := 8) rfl) rfl (lv_at hl 0 rfl) ?_
      refine gX3_lengths C hM q_fX3_11 (kX3_pushIn (i := 9) rfl) ?_
      refine x_iload hx hb (kX3_pushIn (i := 10) rfl) (lv_at hl 4 rfl) ?_
      refine x_bipush hx hb (by decide) (kX3_pushIn (i := 11) rfl) ?_
      refine x_imul hx hb (kX3_pushIn (i := 12) rfl) ?_
      refine x_iload hx hb (kX3_pushIn (i := 13) rfl) (lv_at hl 4 rfl) ?_
      refine x_iload_n hx hb (kX3_pushIn (i := 14) rfl) rfl (lv_at hl 1 rfl) ?_
      refine x_iload_n hx hb (kX3_pushIn (i := 15) rfl) rfl (lv_at hl 2 rfl) ?_
      obtain ⟨r_2, hc_3, h⟩ := bd_some h
      refine x_callS (n := 3) (As := [vi y4, vi y1, vi y2]) (rest := [vi (y4 * 19), .ref (Θ.2.2.1 2), vi y3]) C hM (tX3_firstWet l Θ y4 y1 y2 h0 g r_2 hc_3) q_c_X3_firstWet q_mX3_64 q_s_X3_firstWet q_n_X3 (by decide +kernel) ⟨by decide, by decide⟩ rfl hl.1 rfl (Nat.le_of_ble_eq_true rfl) (kX3_pushIn (i := 16) rfl) (fun H locs hM => ?_)
      refine x_iadd hx hb (kX3_pushIn (i := 17) rfl) ?_
      obtain ⟨hi_4, h⟩ := gd_some h
      refine x_ialdX C hM 2 (by decide) (eX_2 Θ) hi_4 (kX3_pushIn (i := 18) rfl) ?_
      refine x_iadd hx hb (kX3_pushIn (i := 19) rfl) ?_
      obtain ⟨x_5, ex_5, h⟩ := bnd_some h
      refine x_top ex_5 ?_
      refine x_istore_n (lv' := [(3, vi x_5), (0, .ref (Θ.2.2.1 1)), (1, vi y1), (2, vi y2), (4, vi y4)]) hx hb (kX3_pushIn (i := 20) rfl) rfl hl (by decide) rfl (fun ls hl => ?_)
      obtain ⟨x_6, ex_6, h⟩ := bnd_some h
      refine x_iinc (k := 4) (lv' := [(4, vi x_6), (3, vi x_5), (0, .ref (Θ.2.2.1 1)), (1, vi y1), (2, vi y2)]) hx hb (kX3_pushIn (i := 21) rfl) hl rfl ex_6 (by decide) rfl (fun ls hl => ?_)
      refine lv_goto (tgt := 5) hx hb (kX3_pushIn (i := 22) rfl) (by decide) ?_
      exact ih y1 y2 x_5 x_6 H locs ls h hM (lv_sub hl [2, 3, 4, 1, 0] rfl)
set_option maxRecDepth 100000 in
set_option maxHeartbeats 4000000 in
theorem tX3_pushIn (l : Launch) (Θ : Th) (a0 : Int) (a1 : Int) (h0 g : Mem) (rv : Int) (h : fX3_pushIn a0 a1 g = some rv) : Ct l yX3_pushIn cX3_pushIn 5 (some .int) 2 47 Θ [.ref (Θ.2.2.1 1), vi a0, vi a1] g h0 g h0 (some (vi rv)) := by
  refine x_start (by decide) (Nat.le_of_ble_eq_true rfl) ?_
  intro p e s m args below meth c ls C hM hl
  have hl : lv_has ls 5 [(0, .ref (Θ.2.2.1 1)), (1, vi a0), (2, vi a1)] := hl
  obtain ⟨hx, hb, hml, hown, hts, -⟩ := id C
  unfold fX3_pushIn at h
  have key : ∀ (H : Heap) (locs : List Loc), Hd Θ s g h0 H locs → W p l e { frames := 2, cells := 0, slots := 0, locals := 47 } s m args below meth c H locs 0 0 (MQ below (Qx Θ s.heap.size g h0 (some (vi rv))) args s 0 0 (AA Θ s.heap.size)) (F0 m 0 ls []) := by
    intro H locs hM
    refine x_iconst hx hb (kX3_pushIn (i := 0) rfl) ?_
    refine x_istore_n (lv' := [(3, vi 0), (0, .ref (Θ.2.2.1 1)), (1, vi a0), (2, vi a1)]) hx hb (kX3_pushIn (i := 1) rfl) rfl hl (by decide) rfl (fun ls hl => ?_)
    refine x_iconst hx hb (kX3_pushIn (i := 2) rfl) ?_
    refine x_istore (lv' := [(4, vi 0), (3, vi 0), (0, .ref (Θ.2.2.1 1)), (1, vi a0), (2, vi a1)]) hx hb (kX3_pushIn (i := 3) rfl) hl (by decide) rfl (fun ls hl => ?_)
    refine wX3_pushIn_L5  C fuel a0 a1 0 0 H locs ls h  hM (lv_sub hl [2, 3, 4, 1, 0] rfl)
  exact key _ _ hM

/-! X3_weighAt -/
def fX3_weighAt_L8 : Nat → Int → Int → Int → Int → Int → Mem → (Int → Int → Int → Mem → Option (Mem)) → Option (Mem)
  | 0, _, _, _, _, _, _, _ => none
  | n + 1, y1, y2, y3, y4, y5, g, K78 =>
    if 10 ≤ wr y5 then (
      K78 y1 y3 y4 g
    ) else (
      bd (fX3_firstWet y5 y1 y2) fun r_2 =>
      bnd ((y5 * 19) + r_2) fun x_4 =>
      gd x_4 190 <|
      bnd (y3 + (g 2 (wr x_4).toNat)) fun x_6 =>
      gd x_4 190 <|
      gd x_4 190 <|
      bnd (y4 + ((100 * (g 3 (wr x_4).toNat)) + ((y1 * ((2 * y5) + 1)) * (g 2 (wr x_4).toNat)))) fun x_9 =>
      bnd (y5 + 1) fun x_10 =>
      fX3_weighAt_L8 n y1 y2 x_6 x_9 x_10 g K78
    )
def fX3_weighAt (a0 : Int) (a1 : Int) (g : Mem) : Option (Mem) :=
  fX3_weighAt_L8 fuel a0 a1 0 0 0 g
  (fun (z_11 : Int) (z_12 : Int) (z_13 : Int) (g_14 : Mem) =>
    gd z_11 81 <|
    bnd (up g_14 5 (wr z_11).toNat z_12) fun g_16 =>
    gd z_11 81 <|
    bnd (up g_16 6 (wr z_11).toNat z_13) fun g_18 =>
    some g_18
  )
set_option maxRecDepth 100000 in
set_option maxHeartbeats 4000000 in
theorem wX3_weighAt_L8 {p : Program} {l : Launch} {e : Env} {s : State} {m : MethodId} {args : Array Value} {below : List Frame} {meth : Method} {c : Code} {Θ : Th} {h0 : Mem} {gR : Mem} {K78 : Int → Int → Int → Mem → Option (Mem)} (C : Cx p s m args meth c cX3_weighAt 7 RX3 none Θ) : ∀ (n : Nat) (y1 : Int) (y2 : Int) (y3 : Int) (y4 : Int) (y5 : Int) (g : Mem) (H : Heap) (locs : List Loc) (ls : Array Slot), fX3_weighAt_L8 n y1 y2 y3 y4 y5 g K78 = some gR → (∀ (z1 : Int) (z3 : Int) (z4 : Int) (gz : Mem) (H : Heap) (locs : List Loc) (ls : Array Slot), K78 z1 z3 z4 gz = some gR → Hd Θ s gz h0 H locs → lv_has ls 7 [(0, .ref (Θ.2.2.1 1)), (1, vi z1), (3, vi z3), (4, vi z4)] → W p l e { frames := 2, cells := 0, slots := 0, locals := 47 } s m args below meth c H locs 0 0 (MQ below (Qx Θ s.heap.size gR h0 none) args s 0 0 (AA Θ s.heap.size)) (F0 m 78 ls [])) → Hd Θ s g h0 H locs → lv_has ls 7 [(0, .ref (Θ.2.2.1 1)), (1, vi y1), (2, vi y2), (3, vi y3), (4, vi y4), (5, vi y5)] → W p l e { frames := 2, cells := 0, slots := 0, locals := 47 } s m args below meth c H locs 0 0 (MQ below (Qx Θ s.heap.size gR h0 none) args s 0 0 (AA Θ s.heap.size)) (F0 m 8 ls []) := by
  intro n
  obtain ⟨hx, hb, hml, hown, hts, -⟩ := id C
  induction n with
  | zero => intro y1 y2 y3 y4 y5 g H locs ls h; cases h
  | succ n ih =>
    intro y1 y2 y3 y4 y5 g H locs ls h hK78 hM hl
    rw [fX3_weighAt_L8] at h
    refine x_iload hx hb (kX3_weighAt (i := 6) rfl) (lv_at hl 5 rfl) ?_
    refine x_bipush hx hb (by decide) (kX3_weighAt (i := 7) rfl) ?_
    refine x_icmp_ge (a' := wr y5) (b' := 10) hx hb rfl (by decide) (tgt := 78) (kX3_weighAt (i := 8) rfl) (by decide) (fun c_1 => ?_) (fun c_1 => ?_)
    · have h := it_t c_1 h
      exact hK78 y1 y3 y4 g H locs ls h hM (lv_sub hl [0, 1, 3, 4] rfl)
    · have h := it_f c_1 h
      refine x_iload hx hb (kX3_weighAt (i := 9) rfl) (lv_at hl 5 rfl) ?_
      refine x_bipush hx hb (by decide) (kX3_weighAt (i := 10) rfl) ?_
      refine x_imul hx hb (kX3_weighAt (i := 11) rfl) ?_
      refine x_iload hx hb (kX3_weighAt (i := 12) rfl) (lv_at hl 5 rfl) ?_
      refine x_iload_n hx hb (kX3_weighAt (i := 13) rfl) rfl (lv_at hl 1 rfl) ?_
      refine x_iload_n hx hb (kX3_weighAt (i := 14) rfl) rfl (lv_at hl 2 rfl) ?_
      obtain ⟨r_2, hc_3, h⟩ := bd_some h
      refine x_callS (n := 3) (As := [vi y5, vi y1, vi y2]) (rest := [vi (y5 * 19)]) C hM (tX3_firstWet l Θ y5 y1 y2 h0 g r_2 hc_3) q_c_X3_firstWet q_mX3_64 q_s_X3_firstWet q_n_X3 (by decide +kernel) ⟨by decide, by decide⟩ rfl hl.1 rfl (Nat.le_of_ble_eq_true rfl) (kX3_weighAt (i := 15) rfl) (fun H locs hM => ?_)
      refine x_iadd hx hb (kX3_weighAt (i := 16) rfl) ?_
      obtain ⟨x_4, ex_4, h⟩ := bnd_some h
      refine x_top ex_4 ?_
      refine x_istore (lv' := [(6, vi x_4), (0, .ref (Θ.2.2.1 1)), (1, vi y1), (2, vi y2), (3, vi y3), (4, vi y4), (5, vi y5)]) hx hb (kX3_weighAt (i := 17) rfl) hl (by decide) rfl (fun ls hl => ?_)
      refine x_iload_n hx hb (kX3_weighAt (i := 18) rfl) rfl (lv_at hl 4 rfl) ?_
      refine lv_aload_n hx hb (kX3_weighAt (i := 19) rfl) rfl (lv_at hl 1 rfl) ?_
      refine gX3_lengths C hM q_fX3_11 (kX3_weighAt (i := 20) rfl) ?_
      refine x_iload hx hb (kX3_weighAt (i := 21) rfl) (lv_at hl 0 rfl) ?_
      obtain ⟨hi_5, h⟩ := gd_some h
      refine x_ialdX C hM 2 (by decide) (eX_2 Θ) hi_5 (kX3_weighAt (i := 22) rfl) ?_
      refine x_iadd hx hb (kX3_weighAt (i := 23) rfl) ?_
      obtain ⟨x_6, ex_6, h⟩ := bnd_some h
      refine x_top ex_6 ?_
      refine x_istore_n (lv' := [(3, vi x_6), (6, vi x_4), (0, .ref (Θ.2.2.1 1)), (1, vi y1), (2, vi y2), (4, vi y4), (5, vi y5)]) hx hb (kX3_weighAt (i := 24) rfl) rfl hl (by decide) rfl (fun ls hl => ?_)
      refine x_iload hx hb (kX3_weighAt (i := 25) rfl) (lv_at hl 5 rfl) ?_
      refine x_bipush hx hb (by decide) (kX3_weighAt (i := 26) rfl) ?_
      refine lv_aload_n hx hb (kX3_weighAt (i := 27) rfl) rfl (lv_at hl 2 rfl) ?_
      refine gX3_levers C hM q_fX3_15 (kX3_weighAt (i := 28) rfl) ?_
      refine x_iload hx hb (kX3_weighAt (i := 29) rfl) (lv_at hl 1 rfl) ?_
      obtain ⟨hi_7, h⟩ := gd_some h
      refine x_ialdX C hM 3 (by decide) (eX_3 Θ) hi_7 (kX3_weighAt (i := 30) rfl) ?_
      refine x_imul hx hb (kX3_weighAt (i := 31) rfl) ?_
      refine x_iload_n hx hb (kX3_weighAt (i := 32) rfl) rfl (lv_at hl 3 rfl) ?_
      refine x_iconst hx hb (kX3_weighAt (i := 33) rfl) ?_
      refine x_iload hx hb (kX3_weighAt (i := 34) rfl) (lv_at hl 6 rfl) ?_
      refine x_imul hx hb (kX3_weighAt (i := 35) rfl) ?_
      refine x_iconst hx hb (kX3_weighAt (i := 36) rfl) ?_
      refine x_iadd hx hb (kX3_weighAt (i := 37) rfl) ?_
      refine x_imul hx hb (kX3_weighAt (i := 38) rfl) ?_
      refine lv_aload_n hx hb (kX3_weighAt (i := 39) rfl) rfl (lv_at hl 2 rfl) ?_
      refine gX3_lengths C hM q_fX3_11 (kX3_weighAt (i := 40) rfl) ?_
      refine x_iload hx hb (kX3_weighAt (i := 41) rfl) (lv_at hl 1 rfl) ?_
      obtain ⟨hi_8, h⟩ := gd_some h
      refine x_ialdX C hM 2 (by decide) (eX_2 Θ) hi_8 (kX3_weighAt (i := 42) rfl) ?_
      refine x_imul hx hb (kX3_weighAt (i := 43) rfl) ?_
      refine x_iadd hx hb (kX3_weighAt (i := 44) rfl) ?_
      refine x_iadd hx hb (kX3_weighAt (i := 45) rfl) ?_
      obtain ⟨x_9, ex_9, h⟩ := bnd_some h
      refine x_top ex_9 ?_
      refine x_istore (lv' := [(4, vi x_9), (3, vi x_6), (6, vi x_4), (0, .ref (Θ.2.2.1 1)), (1, vi y1), (2, vi y2), (5, vi y5)]) hx hb (kX3_weighAt (i := 46) rfl) hl (by decide) rfl (fun ls hl => ?_)
      obtain ⟨x_10, ex_10, h⟩ := bnd_some h
      refine x_iinc (k := 6) (lv' := [(5, vi x_10), (4, vi x_9), (3, vi x_6), (6, vi x_4), (0, .ref (Θ.2.2.1 1)), (1, vi y1), (2, vi y2)]) hx hb (kX3_weighAt (i := 47) rfl) hl rfl ex_10 (by decide) rfl (fun ls hl => ?_)
      refine lv_goto (tgt := 8) hx hb (kX3_weighAt (i := 48) rfl) (by decide) ?_
      exact ih y1 y2 x_6 x_9 x_10 g H locs ls h hK78 hM (lv_sub hl [4, 5, 6, 2, 1, 0] rfl)
set_option maxRecDepth 100000 in
set_option maxHeartbeats 4000000 in
theorem tX3_weighAt (l : Launch) (Θ : Th) (a0 : Int) (a1 : Int) (h0 g : Mem) (gR : Mem) (h : fX3_weighAt a0 a1 g = some gR) : Ct l yX3_weighAt cX3_weighAt 7 none 2 47 Θ [.ref (Θ.2.2.1 1), vi a0, vi a1] g h0 gR h0 none := by
  refine x_start (by decide) (Nat.le_of_ble_eq_true rfl) ?_
  intro p e s m args below meth c ls C hM hl
  have hl : lv_has ls 7 [(0, .ref (Θ.2.2.1 1)), (1, vi a0), (2, vi a1)] := hl
  obtain ⟨hx, hb, hml, hown, hts, -⟩ := id C
  unfold fX3_weighAt at h
  have key : ∀ (H : Heap) (locs : List Loc), Hd Θ s g h0 H locs → W p l e { frames := 2, cells := 0, slots := 0, locals := 47 } s m args below meth c H locs 0 0 (MQ below (Qx Θ s.heap.size gR h0 none) args s 0 0 (AA Θ s.heap.size)) (F0 m 0 ls []) := by
    intro H locs hM
    refine x_iconst hx hb (kX3_weighAt (i := 0) rfl) ?_
    refine x_istore_n (lv' := [(3, vi 0), (0, .ref (Θ.2.2.1 1)), (1, vi a0), (2, vi a1)]) hx hb (kX3_weighAt (i := 1) rfl) rfl hl (by decide) rfl (fun ls hl => ?_)
    refine x_iconst hx hb (kX3_weighAt (i := 2) rfl) ?_
    refine x_istore (lv' := [(4, vi 0), (3, vi 0), (0, .ref (Θ.2.2.1 1)), (1, vi a0), (2, vi a1)]) hx hb (kX3_weighAt (i := 3) rfl) hl (by decide) rfl (fun ls hl => ?_)
    refine x_iconst hx hb (kX3_weighAt (i := 4) rfl) ?_
    refine x_istore (lv' := [(5, vi 0), (4, vi 0), (3, vi 0), (0, .ref (Θ.2.2.1 1)), (1, vi a0), (2, vi a1)]) hx hb (kX3_weighAt (i := 5) rfl) hl (by decide) rfl (fun ls hl => ?_)
    refine wX3_weighAt_L8  C fuel a0 a1 0 0 0 g H locs ls h ?_ hM (lv_sub hl [3, 4, 5, 2, 1, 0] rfl)
    · intro z_11 z_12 z_13 g_14 H locs ls h hM hl
      refine lv_aload_n hx hb (kX3_weighAt (i := 49) rfl) rfl (lv_at hl 0 rfl) ?_
      refine gX3_pushes C hM q_fX3_21 (kX3_weighAt (i := 50) rfl) ?_
      refine x_iload_n hx hb (kX3_weighAt (i := 51) rfl) rfl (lv_at hl 1 rfl) ?_
      refine x_iload_n hx hb (kX3_weighAt (i := 52) rfl) rfl (lv_at hl 2 rfl) ?_
      obtain ⟨hi_15, h⟩ := gd_some h
      obtain ⟨g_16, eg_16, h⟩ := bnd_some h
      refine x_iastX C hM 5 (by decide) (eX_5 Θ) hi_15 eg_16 (kX3_weighAt (i := 53) rfl) (fun H locs hM => ?_)
      refine lv_aload_n hx hb (kX3_weighAt (i := 54) rfl) rfl (lv_at hl 0 rfl) ?_
      refine gX3_moments C hM q_fX3_24 (kX3_weighAt (i := 55) rfl) ?_
      refine x_iload_n hx hb (kX3_weighAt (i := 56) rfl) rfl (lv_at hl 1 rfl) ?_
      refine x_iload hx hb (kX3_weighAt (i := 57) rfl) (lv_at hl 3 rfl) ?_
      obtain ⟨hi_17, h⟩ := gd_some h
      obtain ⟨g_18, eg_18, h⟩ := bnd_some h
      refine x_iastX C hM 6 (by decide) (eX_6 Θ) hi_17 eg_18 (kX3_weighAt (i := 58) rfl) (fun H locs hM => ?_)
      rw [← Option.some.inj h]
      exact x_vret C hM (kX3_weighAt (i := 59) rfl)
  exact key _ _ hM

/-! X3_settle -/
def fX3_settle_L41 : Nat → Int → Int → Int → Int → Mem → (Int → Int → Mem → Option (Mem)) → Option (Mem)
  | 0, _, _, _, _, _, _ => none
  | n + 1, y2, y3, y4, y5, g, K96 =>
    if 13 ≤ wr y5 then (
      K96 y2 y4 g
    ) else (
      if wr y4 ≤ wr y3 then (
        K96 y2 y4 g
      ) else (
        bd (fJ9_floorDiv_7cf53 (y3 + y4) 2) fun r_8 =>
        bd (fX3_pushIn y2 r_8 g) fun r_10 =>
        jn (fun (p_12 : Int) (p_13 : Int) =>
          bnd (y5 + 1) fun x_14 =>
          fX3_settle_L41 n y2 p_12 p_13 x_14 g K96
        ) fun J90 =>
        if wr r_10 < wr (g 1 9) then (
          bnd (r_8 + 1) fun x_16 =>
          J90 x_16 y4
        ) else (
          J90 y3 r_8
        )
      )
    )
def fX3_settle (a0 : Int) (g : Mem) : Option (Mem) :=
  bnd (mAbs a0) fun x_1 =>
  if wr x_1 < 0 then (
    some g
  ) else (
    if 80 < wr x_1 then (
      some g
    ) else (
      gd x_1 81 <|
      if wr (g 7 (wr x_1).toNat) = wr (g 1 6) then (
        some g
      ) else (
        fX3_settle_L41 fuel x_1 (-2000) 4000 0 g
        (fun (z_17 : Int) (z_18 : Int) (g_19 : Mem) =>
          gd z_17 81 <|
          bnd (up g_19 4 (wr z_17).toNat z_18) fun g_21 =>
          bd (fX3_weighAt z_17 z_18 g_21) fun g_24 =>
          gd z_17 81 <|
          bnd (up g_24 7 (wr z_17).toNat (g_24 1 6)) fun g_26 =>
          some g_26
        )
      )
    )
  )
set_option maxRecDepth 100000 in
set_option maxHeartbeats 4000000 in
theorem wX3_settle_L41 {p : Program} {l : Launch} {e : Env} {s : State} {m : MethodId} {args : Array Value} {below : List Frame} {meth : Method} {c : Code} {Θ : Th} {h0 : Mem} {gR : Mem} {K96 : Int → Int → Mem → Option (Mem)} (C : Cx p s m args meth c cX3_settle 7 RX3 none Θ) : ∀ (n : Nat) (y2 : Int) (y3 : Int) (y4 : Int) (y5 : Int) (g : Mem) (H : Heap) (locs : List Loc) (ls : Array Slot), fX3_settle_L41 n y2 y3 y4 y5 g K96 = some gR → (∀ (z2 : Int) (z4 : Int) (gz : Mem) (H : Heap) (locs : List Loc) (ls : Array Slot), K96 z2 z4 gz = some gR → Hd Θ s gz h0 H locs → lv_has ls 7 [(0, .ref (Θ.2.2.1 1)), (2, vi z2), (4, vi z4)] → W p l e { frames := 3, cells := 0, slots := 0, locals := 73 } s m args below meth c H locs 0 0 (MQ below (Qx Θ s.heap.size gR h0 none) args s 0 0 (AA Θ s.heap.size)) (F0 m 96 ls [])) → Hd Θ s g h0 H locs → lv_has ls 7 [(0, .ref (Θ.2.2.1 1)), (2, vi y2), (3, vi y3), (4, vi y4), (5, vi y5)] → W p l e { frames := 3, cells := 0, slots := 0, locals := 73 } s m args below meth c H locs 0 0 (MQ below (Qx Θ s.heap.size gR h0 none) args s 0 0 (AA Θ s.heap.size)) (F0 m 41 ls []) := by
  intro n
  obtain ⟨hx, hb, hml, hown, hts, -⟩ := id C
  induction n with
  | zero => intro y2 y3 y4 y5 g H locs ls h; cases h
  | succ n ih =>
    intro y2 y3 y4 y5 g H locs ls h hK96 hM hl
    rw [fX3_settle_L41] at h
    refine x_iload hx hb (kX3_settle (i := 22) rfl) (lv_at hl 4 rfl) ?_
    refine x_bipush hx hb (by decide) (kX3_settle (i := 23) rfl) ?_
    refine x_icmp_ge (a' := wr y5) (b' := 13) hx hb rfl (by decide) (tgt := 96) (kX3_settle (i := 24) rfl) (by decide) (fun c_6 => ?_) (fun c_6 => ?_)
    · have h := it_t c_6 h
      exact hK96 y2 y4 g H locs ls h hM (lv_sub hl [0, 1, 3] rfl)
    · have h := it_f c_6 h
      refine x_iload_n hx hb (kX3_settle (i := 25) rfl) rfl (lv_at hl 2 rfl) ?_
      refine x_iload hx hb (kX3_settle (i := 26) rfl) (lv_at hl 3 rfl) ?_
      refine x_icmp_ge (a' := wr y3) (b' := wr y4) hx hb rfl rfl (tgt := 96) (kX3_settle (i := 27) rfl) (by decide) (fun c_7 => ?_) (fun c_7 => ?_)
      · have h := it_t c_7 h
        exact hK96 y2 y4 g H locs ls h hM (lv_sub hl [0, 1, 3] rfl)
      · have h := it_f c_7 h
        refine x_iload_n hx hb (kX3_settle (i := 28) rfl) rfl (lv_at hl 2 rfl) ?_
        refine x_iload hx hb (kX3_settle (i := 29) rfl) (lv_at hl 3 rfl) ?_
        refine x_iadd hx hb (kX3_settle (i := 30) rfl) ?_
        refine x_iconst hx hb (kX3_settle (i := 31) rfl) ?_
        obtain ⟨r_8, hc_9, h⟩ := bd_some h
        refine x_callS (n := 2) (As := [vi (y3 + y4), vi 2]) (rest := []) C hM (tJ9_floorDiv_7cf53 l Θ (y3 + y4) 2 g h0 r_8 hc_9) q_c_J9_floorDiv_7cf53 q_mX3_53 q_s_J9_floorDiv_7cf53 q_n_J9 (by decide +kernel) ⟨by decide, by decide⟩ rfl hl.1 rfl (Nat.le_of_ble_eq_true rfl) (kX3_settle (i := 32) rfl) (fun H locs hM => ?_)
        refine x_istore (lv' := [(6, vi r_8), (0, .ref (Θ.2.2.1 1)), (2, vi y2), (3, vi y3), (4, vi y4), (5, vi y5)]) hx hb (kX3_settle (i := 33) rfl) hl (by decide) rfl (fun ls hl => ?_)
        refine lv_aload_n hx hb (kX3_settle (i := 34) rfl) rfl (lv_at hl 1 rfl) ?_
        refine x_iload_n hx hb (kX3_settle (i := 35) rfl) rfl (lv_at hl 2 rfl) ?_
        refine x_iload hx hb (kX3_settle (i := 36) rfl) (lv_at hl 0 rfl) ?_
        obtain ⟨r_10, hc_11, h⟩ := bd_some h
        refine x_callV (n := 2) (As := [vi y2, vi r_8]) (rest := []) C hM (tX3_pushIn l Θ y2 r_8 h0 g r_10 hc_11) (x_recvX C hM 1 (by decide) (eX_1 Θ _) rfl rfl) q_c_X3_pushIn q_mX3_57 q_i_X3_pushIn q_e_X3_pushIn q_n_X3 (by decide +kernel) ⟨by decide, by decide⟩ rfl hl.1 rfl (Nat.le_of_ble_eq_true rfl) (kX3_settle (i := 37) rfl) (fun H locs hM => ?_)
        refine lv_aload_n hx hb (kX3_settle (i := 38) rfl) rfl (lv_at hl 1 rfl) ?_
        refine gX3_heavy C hM q_fX3_40 (kX3_settle (i := 39) rfl) ?_
        refine jn_go h (fun J90 : Int → Int → Option (Mem) => ∀ (p_12 : Int) (p_13 : Int) (H : Heap) (locs : List Loc) (ls : Array Slot), J90 p_12 p_13 = some gR → Hd Θ s g h0 H locs → lv_has ls 7 [(0, .ref (Θ.2.2.1 1)), (2, vi y2), (3, vi p_12), (4, vi p_13), (5, vi y5)] → W p l e { frames := 3, cells := 0, slots := 0, locals := 73 } s m args below meth c H locs 0 0 (MQ below (Qx Θ s.heap.size gR h0 none) args s 0 0 (AA Θ s.heap.size)) (F0 m 90 ls [])) ?_ ?_
        · intro p_12 p_13 H locs ls h hM hl
          obtain ⟨x_14, ex_14, h⟩ := bnd_some h
          refine x_iinc (k := 4) (lv' := [(5, vi x_14), (0, .ref (Θ.2.2.1 1)), (2, vi y2), (3, vi p_12), (4, vi p_13)]) hx hb (kX3_settle (i := 48) rfl) hl rfl ex_14 (by decide) rfl (fun ls hl => ?_)
          refine lv_goto (tgt := 41) hx hb (kX3_settle (i := 49) rfl) (by decide) ?_
          exact ih y2 p_12 p_13 x_14 g H locs ls h hK96 hM (lv_sub hl [1, 2, 3, 4, 0] rfl)
        intro J90 hJ90 h
        refine x_icmp_lt (a' := wr r_10) (b' := wr (g 1 9)) hx hb rfl rfl (tgt := 85) (kX3_settle (i := 40) rfl) (by decide) (fun c_15 => ?_) (fun c_15 => ?_)
        · have h := it_t c_15 h
          refine x_iload hx hb (kX3_settle (i := 44) rfl) (lv_at hl 0 rfl) ?_
          refine x_iconst hx hb (kX3_settle (i := 45) rfl) ?_
          refine x_iadd hx hb (kX3_settle (i := 46) rfl) ?_
          obtain ⟨x_16, ex_16, h⟩ := bnd_some h
          refine x_top ex_16 ?_
          refine x_istore_n (lv' := [(3, vi x_16), (6, vi r_8), (0, .ref (Θ.2.2.1 1)), (2, vi y2), (4, vi y4), (5, vi y5)]) hx hb (kX3_settle (i := 47) rfl) rfl hl (by decide) rfl (fun ls hl => ?_)
          exact hJ90 x_16 y4 H locs ls h hM (lv_sub hl [2, 3, 0, 4, 5] rfl)
        · have h := it_f c_15 h
          refine x_iload hx hb (kX3_settle (i := 41) rfl) (lv_at hl 0 rfl) ?_
          refine x_istore (lv' := [(4, vi r_8), (6, vi r_8), (0, .ref (Θ.2.2.1 1)), (2, vi y2), (3, vi y3), (5, vi y5)]) hx hb (kX3_settle (i := 42) rfl) hl (by decide) rfl (fun ls hl => ?_)
          refine lv_goto (tgt := 90) hx hb (kX3_settle (i := 43) rfl) (by decide) ?_
          exact hJ90 y3 r_8 H locs ls h hM (lv_sub hl [2, 3, 4, 0, 5] rfl)
set_option maxRecDepth 100000 in
set_option maxHeartbeats 4000000 in
theorem tX3_settle (l : Launch) (Θ : Th) (a0 : Int) (h0 g : Mem) (gR : Mem) (h : fX3_settle a0 g = some gR) : Ct l yX3_settle cX3_settle 7 none 3 73 Θ [.ref (Θ.2.2.1 1), vi a0] g h0 gR h0 none := by
  refine x_start (by decide) (Nat.le_of_ble_eq_true rfl) ?_
  intro p e s m args below meth c ls C hM hl
  have hl : lv_has ls 7 [(0, .ref (Θ.2.2.1 1)), (1, vi a0)] := hl
  obtain ⟨hx, hb, hml, hown, hts, -⟩ := id C
  unfold fX3_settle at h
  have key : ∀ (H : Heap) (locs : List Loc), Hd Θ s g h0 H locs → W p l e { frames := 3, cells := 0, slots := 0, locals := 73 } s m args below meth c H locs 0 0 (MQ below (Qx Θ s.heap.size gR h0 none) args s 0 0 (AA Θ s.heap.size)) (F0 m 0 ls []) := by
    intro H locs hM
    refine x_iload_n hx hb (kX3_settle (i := 0) rfl) rfl (lv_at hl 1 rfl) ?_
    refine x_mabs C hl.1 (Nat.le_of_ble_eq_true rfl) (Nat.le_of_ble_eq_true rfl) q_mX3_47 (kX3_settle (i := 1) rfl) ?_
    obtain ⟨x_1, ex_1, h⟩ := bnd_some h
    refine x_top ex_1 ?_
    refine x_istore_n (lv' := [(2, vi x_1), (0, .ref (Θ.2.2.1 1)), (1, vi a0)]) hx hb (kX3_settle (i := 2) rfl) rfl hl (by decide) rfl (fun ls hl => ?_)
    refine x_iload_n hx hb (kX3_settle (i := 3) rfl) rfl (lv_at hl 0 rfl) ?_
    refine x_if_lt (a' := wr x_1) hx hb rfl (tgt := 28) (kX3_settle (i := 4) rfl) (by decide) (fun c_2 => ?_) (fun c_2 => ?_)
    · have h := it_t c_2 h
      rw [← Option.some.inj h]
      exact x_vret C hM (kX3_settle (i := 15) rfl)
    · have h := it_f c_2 h
      refine x_iload_n hx hb (kX3_settle (i := 5) rfl) rfl (lv_at hl 0 rfl) ?_
      refine x_bipush hx hb (by decide) (kX3_settle (i := 6) rfl) ?_
      refine x_icmp_gt (a' := wr x_1) (b' := 80) hx hb rfl (by decide) (tgt := 28) (kX3_settle (i := 7) rfl) (by decide) (fun c_3 => ?_) (fun c_3 => ?_)
      · have h := it_t c_3 h
        rw [← Option.some.inj h]
        exact x_vret C hM (kX3_settle (i := 15) rfl)
      · have h := it_f c_3 h
        refine lv_aload_n hx hb (kX3_settle (i := 8) rfl) rfl (lv_at hl 1 rfl) ?_
        refine gX3_settled C hM q_fX3_27 (kX3_settle (i := 9) rfl) ?_
        refine x_iload_n hx hb (kX3_settle (i := 10) rfl) rfl (lv_at hl 0 rfl) ?_
        obtain ⟨hi_4, h⟩ := gd_some h
        refine x_ialdX C hM 7 (by decide) (eX_7 Θ) hi_4 (kX3_settle (i := 11) rfl) ?_
        refine lv_aload_n hx hb (kX3_settle (i := 12) rfl) rfl (lv_at hl 1 rfl) ?_
        refine gX3_version C hM q_fX3_30 (kX3_settle (i := 13) rfl) ?_
        refine x_icmp_ne (a' := wr (g 7 (wr x_1).toNat)) (b' := wr (g 1 6)) hx hb rfl rfl (tgt := 29) (kX3_settle (i := 14) rfl) (by decide) (fun c_5 => ?_) (fun c_5 => ?_)
        · have h := it_f c_5 h
          refine x_sipush hx hb (by decide) (kX3_settle (i := 16) rfl) ?_
          refine x_istore_n (lv' := [(3, vi (-2000)), (2, vi x_1), (0, .ref (Θ.2.2.1 1)), (1, vi a0)]) hx hb (kX3_settle (i := 17) rfl) rfl hl (by decide) rfl (fun ls hl => ?_)
          refine x_sipush hx hb (by decide) (kX3_settle (i := 18) rfl) ?_
          refine x_istore (lv' := [(4, vi 4000), (3, vi (-2000)), (2, vi x_1), (0, .ref (Θ.2.2.1 1)), (1, vi a0)]) hx hb (kX3_settle (i := 19) rfl) hl (by decide) rfl (fun ls hl => ?_)
          refine x_iconst hx hb (kX3_settle (i := 20) rfl) ?_
          refine x_istore (lv' := [(5, vi 0), (4, vi 4000), (3, vi (-2000)), (2, vi x_1), (0, .ref (Θ.2.2.1 1)), (1, vi a0)]) hx hb (kX3_settle (i := 21) rfl) hl (by decide) rfl (fun ls hl => ?_)
          refine wX3_settle_L41  C fuel x_1 (-2000) 4000 0 g H locs ls h ?_ hM (lv_sub hl [4, 3, 2, 1, 0] rfl)
          · intro z_17 z_18 g_19 H locs ls h hM hl
            refine lv_aload_n hx hb (kX3_settle (i := 50) rfl) rfl (lv_at hl 0 rfl) ?_
            refine gX3_levels C hM q_fX3_18 (kX3_settle (i := 51) rfl) ?_
            refine x_iload_n hx hb (kX3_settle (i := 52) rfl) rfl (lv_at hl 1 rfl) ?_
            refine x_iload hx hb (kX3_settle (i := 53) rfl) (lv_at hl 2 rfl) ?_
            obtain ⟨hi_20, h⟩ := gd_some h
            obtain ⟨g_21, eg_21, h⟩ := bnd_some h
            refine x_iastX C hM 4 (by decide) (eX_4 Θ) hi_20 eg_21 (kX3_settle (i := 54) rfl) (fun H locs hM => ?_)
            refine lv_aload_n hx hb (kX3_settle (i := 55) rfl) rfl (lv_at hl 0 rfl) ?_
            refine x_iload_n hx hb (kX3_settle (i := 56) rfl) rfl (lv_at hl 1 rfl) ?_
            refine x_iload hx hb (kX3_settle (i := 57) rfl) (lv_at hl 2 rfl) ?_
            obtain ⟨g_24, hc_23, h⟩ := bd_some h
            refine x_callV (n := 2) (As := [vi z_17, vi z_18]) (rest := []) C hM (tX3_weighAt l Θ z_17 z_18 h0 g_21 g_24 hc_23) (x_recvX C hM 1 (by decide) (eX_1 Θ _) rfl rfl) q_c_X3_weighAt q_mX3_60 q_i_X3_weighAt q_e_X3_weighAt q_n_X3 (by decide +kernel) ⟨by decide, by decide⟩ rfl hl.1 rfl (Nat.le_of_ble_eq_true rfl) (kX3_settle (i := 58) rfl) (fun H locs hM => ?_)
            refine lv_aload_n hx hb (kX3_settle (i := 59) rfl) rfl (lv_at hl 0 rfl) ?_
            refine gX3_settled C hM q_fX3_27 (kX3_settle (i := 60) rfl) ?_
            refine x_iload_n hx hb (kX3_settle (i := 61) rfl) rfl (lv_at hl 1 rfl) ?_
            refine lv_aload_n hx hb (kX3_settle (i := 62) rfl) rfl (lv_at hl 0 rfl) ?_
            refine gX3_version C hM q_fX3_30 (kX3_settle (i := 63) rfl) ?_
            obtain ⟨hi_25, h⟩ := gd_some h
            obtain ⟨g_26, eg_26, h⟩ := bnd_some h
            refine x_iastX C hM 7 (by decide) (eX_7 Θ) hi_25 eg_26 (kX3_settle (i := 64) rfl) (fun H locs hM => ?_)
            rw [← Option.some.inj h]
            exact x_vret C hM (kX3_settle (i := 65) rfl)
        · have h := it_t c_5 h
          rw [← Option.some.inj h]
          exact x_vret C hM (kX3_settle (i := 15) rfl)
  exact key _ _ hM

/-! X3_levelAt -/
def fX3_levelAt (a0 : Int) (g : Mem) : Option (Int) :=
  bnd (mAbs a0) fun x_1 =>
  if wr x_1 < 0 then (
    some 0
  ) else (
    if wr x_1 ≤ 80 then (
      gd x_1 81 <|
      some (g 4 (wr x_1).toNat)
    ) else (
      some 0
    )
  )
set_option maxRecDepth 100000 in
set_option maxHeartbeats 4000000 in
theorem tX3_levelAt (l : Launch) (Θ : Th) (a0 : Int) (h0 g : Mem) (rv : Int) (h : fX3_levelAt a0 g = some rv) : Ct l yX3_levelAt cX3_levelAt 3 (some .int) 1 21 Θ [.ref (Θ.2.2.1 1), vi a0] g h0 g h0 (some (vi rv)) := by
  refine x_start (by decide) (Nat.le_of_ble_eq_true rfl) ?_
  intro p e s m args below meth c ls C hM hl
  have hl : lv_has ls 3 [(0, .ref (Θ.2.2.1 1)), (1, vi a0)] := hl
  obtain ⟨hx, hb, hml, hown, hts, -⟩ := id C
  unfold fX3_levelAt at h
  have key : ∀ (H : Heap) (locs : List Loc), Hd Θ s g h0 H locs → W p l e { frames := 1, cells := 0, slots := 0, locals := 21 } s m args below meth c H locs 0 0 (MQ below (Qx Θ s.heap.size g h0 (some (vi rv))) args s 0 0 (AA Θ s.heap.size)) (F0 m 0 ls []) := by
    intro H locs hM
    refine x_iload_n hx hb (kX3_levelAt (i := 0) rfl) rfl (lv_at hl 1 rfl) ?_
    refine x_mabs C hl.1 (Nat.le_of_ble_eq_true rfl) (Nat.le_of_ble_eq_true rfl) q_mX3_47 (kX3_levelAt (i := 1) rfl) ?_
    obtain ⟨x_1, ex_1, h⟩ := bnd_some h
    refine x_top ex_1 ?_
    refine x_istore_n (lv' := [(2, vi x_1), (0, .ref (Θ.2.2.1 1)), (1, vi a0)]) hx hb (kX3_levelAt (i := 2) rfl) rfl hl (by decide) rfl (fun ls hl => ?_)
    refine x_iload_n hx hb (kX3_levelAt (i := 3) rfl) rfl (lv_at hl 0 rfl) ?_
    refine x_if_lt (a' := wr x_1) hx hb rfl (tgt := 15) (kX3_levelAt (i := 4) rfl) (by decide) (fun c_2 => ?_) (fun c_2 => ?_)
    · have h := it_t c_2 h
      refine x_iconst hx hb (kX3_levelAt (i := 8) rfl) ?_
      refine lv_goto (tgt := 25) hx hb (kX3_levelAt (i := 9) rfl) (by decide) ?_
      rw [← Option.some.inj h]
      exact x_iret C hM (nar_i _) (kX3_levelAt (i := 14) rfl)
    · have h := it_f c_2 h
      refine x_iload_n hx hb (kX3_levelAt (i := 5) rfl) rfl (lv_at hl 0 rfl) ?_
      refine x_bipush hx hb (by decide) (kX3_levelAt (i := 6) rfl) ?_
      refine x_icmp_le (a' := wr x_1) (b' := 80) hx hb rfl (by decide) (tgt := 19) (kX3_levelAt (i := 7) rfl) (by decide) (fun c_3 => ?_) (fun c_3 => ?_)
      · have h := it_t c_3 h
        refine lv_aload_n hx hb (kX3_levelAt (i := 10) rfl) rfl (lv_at hl 1 rfl) ?_
        refine gX3_levels C hM q_fX3_18 (kX3_levelAt (i := 11) rfl) ?_
        refine x_iload_n hx hb (kX3_levelAt (i := 12) rfl) rfl (lv_at hl 0 rfl) ?_
        obtain ⟨hi_4, h⟩ := gd_some h
        refine x_ialdX C hM 4 (by decide) (eX_4 Θ) hi_4 (kX3_levelAt (i := 13) rfl) ?_
        rw [← Option.some.inj h]
        exact x_iret C hM (nar_i _) (kX3_levelAt (i := 14) rfl)
      · have h := it_f c_3 h
        refine x_iconst hx hb (kX3_levelAt (i := 8) rfl) ?_
        refine lv_goto (tgt := 25) hx hb (kX3_levelAt (i := 9) rfl) (by decide) ?_
        rw [← Option.some.inj h]
        exact x_iret C hM (nar_i _) (kX3_levelAt (i := 14) rfl)
  exact key _ _ hM

/-! X3_pushAt -/
def fX3_pushAt (a0 : Int) (g : Mem) : Option (Int) :=
  bnd (mAbs a0) fun x_1 =>
  if wr x_1 < 0 then (
    some 0
  ) else (
    if wr x_1 ≤ 80 then (
      gd x_1 81 <|
      some (g 5 (wr x_1).toNat)
    ) else (
      some 0
    )
  )
set_option maxRecDepth 100000 in
set_option maxHeartbeats 4000000 in
theorem tX3_pushAt (l : Launch) (Θ : Th) (a0 : Int) (h0 g : Mem) (rv : Int) (h : fX3_pushAt a0 g = some rv) : Ct l yX3_pushAt cX3_pushAt 3 (some .int) 1 21 Θ [.ref (Θ.2.2.1 1), vi a0] g h0 g h0 (some (vi rv)) := by
  refine x_start (by decide) (Nat.le_of_ble_eq_true rfl) ?_
  intro p e s m args below meth c ls C hM hl
  have hl : lv_has ls 3 [(0, .ref (Θ.2.2.1 1)), (1, vi a0)] := hl
  obtain ⟨hx, hb, hml, hown, hts, -⟩ := id C
  unfold fX3_pushAt at h
  have key : ∀ (H : Heap) (locs : List Loc), Hd Θ s g h0 H locs → W p l e { frames := 1, cells := 0, slots := 0, locals := 21 } s m args below meth c H locs 0 0 (MQ below (Qx Θ s.heap.size g h0 (some (vi rv))) args s 0 0 (AA Θ s.heap.size)) (F0 m 0 ls []) := by
    intro H locs hM
    refine x_iload_n hx hb (kX3_pushAt (i := 0) rfl) rfl (lv_at hl 1 rfl) ?_
    refine x_mabs C hl.1 (Nat.le_of_ble_eq_true rfl) (Nat.le_of_ble_eq_true rfl) q_mX3_47 (kX3_pushAt (i := 1) rfl) ?_
    obtain ⟨x_1, ex_1, h⟩ := bnd_some h
    refine x_top ex_1 ?_
    refine x_istore_n (lv' := [(2, vi x_1), (0, .ref (Θ.2.2.1 1)), (1, vi a0)]) hx hb (kX3_pushAt (i := 2) rfl) rfl hl (by decide) rfl (fun ls hl => ?_)
    refine x_iload_n hx hb (kX3_pushAt (i := 3) rfl) rfl (lv_at hl 0 rfl) ?_
    refine x_if_lt (a' := wr x_1) hx hb rfl (tgt := 15) (kX3_pushAt (i := 4) rfl) (by decide) (fun c_2 => ?_) (fun c_2 => ?_)
    · have h := it_t c_2 h
      refine x_iconst hx hb (kX3_pushAt (i := 8) rfl) ?_
      refine lv_goto (tgt := 25) hx hb (kX3_pushAt (i := 9) rfl) (by decide) ?_
      rw [← Option.some.inj h]
      exact x_iret C hM (nar_i _) (kX3_pushAt (i := 14) rfl)
    · have h := it_f c_2 h
      refine x_iload_n hx hb (kX3_pushAt (i := 5) rfl) rfl (lv_at hl 0 rfl) ?_
      refine x_bipush hx hb (by decide) (kX3_pushAt (i := 6) rfl) ?_
      refine x_icmp_le (a' := wr x_1) (b' := 80) hx hb rfl (by decide) (tgt := 19) (kX3_pushAt (i := 7) rfl) (by decide) (fun c_3 => ?_) (fun c_3 => ?_)
      · have h := it_t c_3 h
        refine lv_aload_n hx hb (kX3_pushAt (i := 10) rfl) rfl (lv_at hl 1 rfl) ?_
        refine gX3_pushes C hM q_fX3_21 (kX3_pushAt (i := 11) rfl) ?_
        refine x_iload_n hx hb (kX3_pushAt (i := 12) rfl) rfl (lv_at hl 0 rfl) ?_
        obtain ⟨hi_4, h⟩ := gd_some h
        refine x_ialdX C hM 5 (by decide) (eX_5 Θ) hi_4 (kX3_pushAt (i := 13) rfl) ?_
        rw [← Option.some.inj h]
        exact x_iret C hM (nar_i _) (kX3_pushAt (i := 14) rfl)
      · have h := it_f c_3 h
        refine x_iconst hx hb (kX3_pushAt (i := 8) rfl) ?_
        refine lv_goto (tgt := 25) hx hb (kX3_pushAt (i := 9) rfl) (by decide) ?_
        rw [← Option.some.inj h]
        exact x_iret C hM (nar_i _) (kX3_pushAt (i := 14) rfl)
  exact key _ _ hM

/-! X3_momentAt -/
def fX3_momentAt (a0 : Int) (g : Mem) : Option (Int) :=
  bnd (mAbs a0) fun x_1 =>
  if wr x_1 < 0 then (
    some 0
  ) else (
    if wr x_1 ≤ 80 then (
      if 0 ≤ wr a0 then (
        gd x_1 81 <|
        some (g 6 (wr x_1).toNat)
      ) else (
        gd x_1 81 <|
        some (-(g 6 (wr x_1).toNat))
      )
    ) else (
      some 0
    )
  )
set_option maxRecDepth 100000 in
set_option maxHeartbeats 4000000 in
theorem tX3_momentAt (l : Launch) (Θ : Th) (a0 : Int) (h0 g : Mem) (rv : Int) (h : fX3_momentAt a0 g = some rv) : Ct l yX3_momentAt cX3_momentAt 3 (some .int) 1 21 Θ [.ref (Θ.2.2.1 1), vi a0] g h0 g h0 (some (vi rv)) := by
  refine x_start (by decide) (Nat.le_of_ble_eq_true rfl) ?_
  intro p e s m args below meth c ls C hM hl
  have hl : lv_has ls 3 [(0, .ref (Θ.2.2.1 1)), (1, vi a0)] := hl
  obtain ⟨hx, hb, hml, hown, hts, -⟩ := id C
  unfold fX3_momentAt at h
  have key : ∀ (H : Heap) (locs : List Loc), Hd Θ s g h0 H locs → W p l e { frames := 1, cells := 0, slots := 0, locals := 21 } s m args below meth c H locs 0 0 (MQ below (Qx Θ s.heap.size g h0 (some (vi rv))) args s 0 0 (AA Θ s.heap.size)) (F0 m 0 ls []) := by
    intro H locs hM
    refine x_iload_n hx hb (kX3_momentAt (i := 0) rfl) rfl (lv_at hl 1 rfl) ?_
    refine x_mabs C hl.1 (Nat.le_of_ble_eq_true rfl) (Nat.le_of_ble_eq_true rfl) q_mX3_47 (kX3_momentAt (i := 1) rfl) ?_
    obtain ⟨x_1, ex_1, h⟩ := bnd_some h
    refine x_top ex_1 ?_
    refine x_istore_n (lv' := [(2, vi x_1), (0, .ref (Θ.2.2.1 1)), (1, vi a0)]) hx hb (kX3_momentAt (i := 2) rfl) rfl hl (by decide) rfl (fun ls hl => ?_)
    refine x_iload_n hx hb (kX3_momentAt (i := 3) rfl) rfl (lv_at hl 0 rfl) ?_
    refine x_if_lt (a' := wr x_1) hx hb rfl (tgt := 15) (kX3_momentAt (i := 4) rfl) (by decide) (fun c_2 => ?_) (fun c_2 => ?_)
    · have h := it_t c_2 h
      refine x_iconst hx hb (kX3_momentAt (i := 8) rfl) ?_
      rw [← Option.some.inj h]
      exact x_iret C hM (nar_i _) (kX3_momentAt (i := 9) rfl)
    · have h := it_f c_2 h
      refine x_iload_n hx hb (kX3_momentAt (i := 5) rfl) rfl (lv_at hl 0 rfl) ?_
      refine x_bipush hx hb (by decide) (kX3_momentAt (i := 6) rfl) ?_
      refine x_icmp_le (a' := wr x_1) (b' := 80) hx hb rfl (by decide) (tgt := 17) (kX3_momentAt (i := 7) rfl) (by decide) (fun c_3 => ?_) (fun c_3 => ?_)
      · have h := it_t c_3 h
        refine x_iload_n hx hb (kX3_momentAt (i := 10) rfl) rfl (lv_at hl 2 rfl) ?_
        refine x_if_ge (a' := wr a0) hx hb rfl (tgt := 31) (kX3_momentAt (i := 11) rfl) (by decide) (fun c_4 => ?_) (fun c_4 => ?_)
        · have h := it_t c_4 h
          refine lv_aload_n hx hb (kX3_momentAt (i := 18) rfl) rfl (lv_at hl 1 rfl) ?_
          refine gX3_moments C hM q_fX3_24 (kX3_momentAt (i := 19) rfl) ?_
          refine x_iload_n hx hb (kX3_momentAt (i := 20) rfl) rfl (lv_at hl 0 rfl) ?_
          obtain ⟨hi_5, h⟩ := gd_some h
          refine x_ialdX C hM 6 (by decide) (eX_6 Θ) hi_5 (kX3_momentAt (i := 21) rfl) ?_
          rw [← Option.some.inj h]
          exact x_iret C hM (nar_i _) (kX3_momentAt (i := 22) rfl)
        · have h := it_f c_4 h
          refine lv_aload_n hx hb (kX3_momentAt (i := 12) rfl) rfl (lv_at hl 1 rfl) ?_
          refine gX3_moments C hM q_fX3_24 (kX3_momentAt (i := 13) rfl) ?_
          refine x_iload_n hx hb (kX3_momentAt (i := 14) rfl) rfl (lv_at hl 0 rfl) ?_
          obtain ⟨hi_6, h⟩ := gd_some h
          refine x_ialdX C hM 6 (by decide) (eX_6 Θ) hi_6 (kX3_momentAt (i := 15) rfl) ?_
          refine x_ineg hx hb (kX3_momentAt (i := 16) rfl) ?_
          refine lv_goto (tgt := 37) hx hb (kX3_momentAt (i := 17) rfl) (by decide) ?_
          rw [← Option.some.inj h]
          exact x_iret C hM (nar_i _) (kX3_momentAt (i := 22) rfl)
      · have h := it_f c_3 h
        refine x_iconst hx hb (kX3_momentAt (i := 8) rfl) ?_
        rw [← Option.some.inj h]
        exact x_iret C hM (nar_i _) (kX3_momentAt (i := 9) rfl)
  exact key _ _ hM

/-! X4_addMark -/
def fX4_addMark (a0 : Int) (a1 : Int) (g : Mem) : Option (Int × Mem) :=
  if wr (g 17 2) < 6 then (
    gd (g 17 2) 6 <|
    bnd (up g 18 (wr (g 17 2)).toNat a0) fun g_3 =>
    gd (g_3 17 2) 6 <|
    bnd (up g_3 19 (wr (g_3 17 2)).toNat a1) fun g_5 =>
    bnd (g_5 17 2) fun x_6 =>
    bnd (up g_5 17 2 (x_6 + 1)) fun g_7 =>
    some (x_6, g_7)
  ) else (
    some ((-1), g)
  )
set_option maxRecDepth 100000 in
set_option maxHeartbeats 4000000 in
theorem tX4_addMark (l : Launch) (Θ : Th) (a0 : Int) (a1 : Int) (h0 g : Mem) (rv : Int) (gR : Mem) (h : fX4_addMark a0 a1 g = some (rv, gR)) : Ct l yX4_addMark cX4_addMark 3 (some .int) 0 0 Θ [.ref (Θ.2.2.1 17), vi a0, vi a1] g h0 gR h0 (some (vi rv)) := by
  refine x_start (by decide) (Nat.le_of_ble_eq_true rfl) ?_
  intro p e s m args below meth c ls C hM hl
  have hl : lv_has ls 3 [(0, .ref (Θ.2.2.1 17)), (1, vi a0), (2, vi a1)] := hl
  obtain ⟨hx, hb, hml, hown, hts, -⟩ := id C
  unfold fX4_addMark at h
  have key : ∀ (H : Heap) (locs : List Loc), Hd Θ s g h0 H locs → W p l e { frames := 0, cells := 0, slots := 0, locals := 0 } s m args below meth c H locs 0 0 (MQ below (Qx Θ s.heap.size gR h0 (some (vi rv))) args s 0 0 (AA Θ s.heap.size)) (F0 m 0 ls []) := by
    intro H locs hM
    refine lv_aload_n hx hb (kX4_addMark (i := 0) rfl) rfl (lv_at hl 0 rfl) ?_
    refine gX4_count C hM q_fX4_18 (kX4_addMark (i := 1) rfl) ?_
    refine x_bipush hx hb (by decide) (kX4_addMark (i := 2) rfl) ?_
    refine x_icmp_lt (a' := wr (g 17 2)) (b' := 6) hx hb rfl (by decide) (tgt := 11) (kX4_addMark (i := 3) rfl) (by decide) (fun c_1 => ?_) (fun c_1 => ?_)
    · have h := it_t c_1 h
      refine lv_aload_n hx hb (kX4_addMark (i := 6) rfl) rfl (lv_at hl 0 rfl) ?_
      refine gX4_places C hM q_fX4_11 (kX4_addMark (i := 7) rfl) ?_
      refine lv_aload_n hx hb (kX4_addMark (i := 8) rfl) rfl (lv_at hl 0 rfl) ?_
      refine gX4_count C hM q_fX4_18 (kX4_addMark (i := 9) rfl) ?_
      refine x_iload_n hx hb (kX4_addMark (i := 10) rfl) rfl (lv_at hl 1 rfl) ?_
      obtain ⟨hi_2, h⟩ := gd_some h
      obtain ⟨g_3, eg_3, h⟩ := bnd_some h
      refine x_iastX C hM 18 (by decide) (eX_18 Θ) hi_2 eg_3 (kX4_addMark (i := 11) rfl) (fun H locs hM => ?_)
      refine lv_aload_n hx hb (kX4_addMark (i := 12) rfl) rfl (lv_at hl 0 rfl) ?_
      refine gX4_heights C hM q_fX4_15 (kX4_addMark (i := 13) rfl) ?_
      refine lv_aload_n hx hb (kX4_addMark (i := 14) rfl) rfl (lv_at hl 0 rfl) ?_
      refine gX4_count C hM q_fX4_18 (kX4_addMark (i := 15) rfl) ?_
      refine x_iload_n hx hb (kX4_addMark (i := 16) rfl) rfl (lv_at hl 2 rfl) ?_
      obtain ⟨hi_4, h⟩ := gd_some h
      obtain ⟨g_5, eg_5, h⟩ := bnd_some h
      refine x_iastX C hM 19 (by decide) (eX_19 Θ) hi_4 eg_5 (kX4_addMark (i := 17) rfl) (fun H locs hM => ?_)
      refine lv_aload_n hx hb (kX4_addMark (i := 18) rfl) rfl (lv_at hl 0 rfl) ?_
      refine lv_dup hx hb (kX4_addMark (i := 19) rfl) rfl ?_
      refine gX4_count C hM q_fX4_18 (kX4_addMark (i := 20) rfl) ?_
      obtain ⟨x_6, ex_6, h⟩ := bnd_some h
      refine x_top ex_6 ?_
      refine lv_dup_x1 hx hb (kX4_addMark (i := 21) rfl) rfl rfl ?_
      refine x_iconst hx hb (kX4_addMark (i := 22) rfl) ?_
      refine x_iadd hx hb (kX4_addMark (i := 23) rfl) ?_
      obtain ⟨g_7, eg_7, h⟩ := bnd_some h
      refine pX4_count C hM q_fX4_18 eg_7 (kX4_addMark (i := 24) rfl) (fun H locs hM => ?_)
      obtain ⟨q1, q2⟩ := ret2 h
      rw [q1, q2]
      exact x_iret C hM (nar_i _) (kX4_addMark (i := 25) rfl)
    · have h := it_f c_1 h
      refine x_iconst hx hb (kX4_addMark (i := 4) rfl) ?_
      obtain ⟨q1, q2⟩ := ret2 h
      rw [q1, q2]
      exact x_iret C hM (nar_i _) (kX4_addMark (i := 5) rfl)
  exact key _ _ hM
