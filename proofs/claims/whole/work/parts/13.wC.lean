/-! X6_addHour -/
def fX6_addHour_L13 : Nat → Int → Int → Int → Mem → (Mem → Option (Int × Mem)) → Option (Int × Mem)
  | 0, _, _, _, _, _ => none
  | n + 1, y1, y2, y3, g, K61 =>
    if 4 ≤ wr y3 then (
      K61 g
    ) else (
      bnd ((y2 - y3) - (g 41 3)) fun x_3 =>
      bd (fX11_cut (y1 * 64) (1 + (x_3 * x_3))) fun r_4 =>
      gd (((g 41 2) * 4) + y3) 48 <|
      bnd (up g 42 (wr (((g 41 2) * 4) + y3)).toNat r_4) fun g_7 =>
      bnd (y3 + 1) fun x_8 =>
      fX6_addHour_L13 n y1 y2 x_8 g_7 K61
    )
def fX6_addHour (a0 : Int) (a1 : Int) (g : Mem) : Option (Int × Mem) :=
  if wr (g 41 2) < 12 then (
    fX6_addHour_L13 fuel a0 a1 0 g
    (fun (g_9 : Mem) =>
      bnd (up g_9 41 4 0) fun g_10 =>
      bnd (up g_10 41 2 ((g_10 41 2) + 1)) fun g_11 =>
      some (g_11 41 2, g_11)
    )
  ) else (
    some ((-1), g)
  )
set_option maxRecDepth 100000 in
set_option maxHeartbeats 4000000 in
theorem wX6_addHour_L13 {p : Program} {l : Launch} {e : Env} {s : State} {m : MethodId} {args : Array Value} {below : List Frame} {meth : Method} {c : Code} {Θ : Th} {h0 : Mem} {rv : Int} {gR : Mem} {K61 : Mem → Option (Int × Mem)} (C : Cx p s m args meth c cX6_addHour 5 RX6 (some .int) Θ) : ∀ (n : Nat) (y1 : Int) (y2 : Int) (y3 : Int) (g : Mem) (H : Heap) (locs : List Loc) (ls : Array Slot), fX6_addHour_L13 n y1 y2 y3 g K61 = some (rv, gR) → (∀ (gz : Mem) (H : Heap) (locs : List Loc) (ls : Array Slot), K61 gz = some (rv, gR) → Hd Θ s gz h0 H locs → lv_has ls 5 [(0, .ref (Θ.2.2.1 41))] → W p l e { frames := 1, cells := 0, slots := 0, locals := 21 } s m args below meth c H locs 0 0 (MQ below (Qx Θ s.heap.size gR h0 (some (vi rv))) args s 0 0 (AA Θ s.heap.size)) (F0 m 61 ls [])) → Hd Θ s g h0 H locs → lv_has ls 5 [(0, .ref (Θ.2.2.1 41)), (1, vi y1), (2, vi y2), (3, vi y3)] → W p l e { frames := 1, cells := 0, slots := 0, locals := 21 } s m args below meth c H locs 0 0 (MQ below (Qx Θ s.heap.size gR h0 (some (vi rv))) args s 0 0 (AA Θ s.heap.size)) (F0 m 13 ls []) := by
  intro n
  obtain ⟨hx, hb, hml, hown, hts, -⟩ := id C
  induction n with
  | zero => intro y1 y2 y3 g H locs ls h; cases h
  | succ n ih =>
    intro y1 y2 y3 g H locs ls h hK61 hM hl
    rw [fX6_addHour_L13] at h
    refine x_iload_n hx hb (kX6_addHour (i := 8) rfl) rfl (lv_at hl 3 rfl) ?_
    refine x_iconst hx hb (kX6_addHour (i := 9) rfl) ?_
    refine x_icmp_ge (a' := wr y3) (b' := 4) hx hb rfl (by decide) (tgt := 61) (kX6_addHour (i := 10) rfl) (by decide) (fun c_2 => ?_) (fun c_2 => ?_)
    · have h := it_t c_2 h
      exact hK61 g H locs ls h hM (lv_sub hl [0] rfl)
    · have h := it_f c_2 h
      refine x_iload_n hx hb (kX6_addHour (i := 11) rfl) rfl (lv_at hl 2 rfl) ?_
      refine x_iload_n hx hb (kX6_addHour (i := 12) rfl) rfl (lv_at hl 3 rfl) ?_
      refine x_isub hx hb (kX6_addHour (i := 13) rfl) ?_
      refine lv_aload_n hx hb (kX6_addHour (i := 14) rfl) rfl (lv_at hl 0 rfl) ?_
      refine gX6_own C hM q_fX6_22 (kX6_addHour (i := 15) rfl) ?_
      refine x_isub hx hb (kX6_addHour (i := 16) rfl) ?_
      obtain ⟨x_3, ex_3, h⟩ := bnd_some h
      refine x_top ex_3 ?_
      refine x_istore (lv' := [(4, vi x_3), (0, .ref (Θ.2.2.1 41)), (1, vi y1), (2, vi y2), (3, vi y3)]) hx hb (kX6_addHour (i := 17) rfl) hl (by decide) rfl (fun ls hl => ?_)
      refine lv_aload_n hx hb (kX6_addHour (i := 18) rfl) rfl (lv_at hl 1 rfl) ?_
      refine gX6_queasy C hM q_fX6_11 (kX6_addHour (i := 19) rfl) ?_
      refine lv_aload_n hx hb (kX6_addHour (i := 20) rfl) rfl (lv_at hl 1 rfl) ?_
      refine gX6_hours C hM q_fX6_18 (kX6_addHour (i := 21) rfl) ?_
      refine x_iconst hx hb (kX6_addHour (i := 22) rfl) ?_
      refine x_imul hx hb (kX6_addHour (i := 23) rfl) ?_
      refine x_iload_n hx hb (kX6_addHour (i := 24) rfl) rfl (lv_at hl 4 rfl) ?_
      refine x_iadd hx hb (kX6_addHour (i := 25) rfl) ?_
      refine x_iload_n hx hb (kX6_addHour (i := 26) rfl) rfl (lv_at hl 2 rfl) ?_
      refine x_bipush hx hb (by decide) (kX6_addHour (i := 27) rfl) ?_
      refine x_imul hx hb (kX6_addHour (i := 28) rfl) ?_
      refine x_iconst hx hb (kX6_addHour (i := 29) rfl) ?_
      refine x_iload hx hb (kX6_addHour (i := 30) rfl) (lv_at hl 0 rfl) ?_
      refine x_iload hx hb (kX6_addHour (i := 31) rfl) (lv_at hl 0 rfl) ?_
      refine x_imul hx hb (kX6_addHour (i := 32) rfl) ?_
      refine x_iadd hx hb (kX6_addHour (i := 33) rfl) ?_
      obtain ⟨r_4, hc_5, h⟩ := bd_some h
      refine x_callSN (n := 2) (As := [vi (y1 * 64), vi (1 + (x_3 * x_3))]) (rest := [vi (((g 41 2) * 4) + y3), .ref (Θ.2.2.1 42)]) C hM (tX11_cut l Θ (y1 * 64) (1 + (x_3 * x_3)) h0 g r_4 hc_5) q_c_X11_cut (List.mem_of_getElem? (i := 13) rfl) q_s_X11_cut q_n_X11 (by decide +kernel) ⟨by decide, by decide⟩ rfl hl.1 rfl (Nat.le_of_ble_eq_true rfl) (kX6_addHour (i := 34) rfl) (fun H locs hM => ?_)
      obtain ⟨hi_6, h⟩ := gd_some h
      obtain ⟨g_7, eg_7, h⟩ := bnd_some h
      refine x_iastX C hM 42 (by decide) (eX_42 Θ) hi_6 eg_7 (kX6_addHour (i := 35) rfl) (fun H locs hM => ?_)
      obtain ⟨x_8, ex_8, h⟩ := bnd_some h
      refine x_iinc (k := 4) (lv' := [(3, vi x_8), (4, vi x_3), (0, .ref (Θ.2.2.1 41)), (1, vi y1), (2, vi y2)]) hx hb (kX6_addHour (i := 36) rfl) hl rfl ex_8 (by decide) rfl (fun ls hl => ?_)
      refine lv_goto (tgt := 13) hx hb (kX6_addHour (i := 37) rfl) (by decide) ?_
      exact ih y1 y2 x_8 g_7 H locs ls h hK61 hM (lv_sub hl [2, 3, 4, 0] rfl)
set_option maxRecDepth 100000 in
set_option maxHeartbeats 4000000 in
theorem tX6_addHour (l : Launch) (Θ : Th) (a0 : Int) (a1 : Int) (h0 g : Mem) (rv : Int) (gR : Mem) (h : fX6_addHour a0 a1 g = some (rv, gR)) : Ct l yX6_addHour cX6_addHour 5 (some .int) 1 21 Θ [.ref (Θ.2.2.1 41), vi a0, vi a1] g h0 gR h0 (some (vi rv)) := by
  refine x_start (by decide) (Nat.le_of_ble_eq_true rfl) ?_
  intro p e s m args below meth c ls C hM hl
  have hl : lv_has ls 5 [(0, .ref (Θ.2.2.1 41)), (1, vi a0), (2, vi a1)] := hl
  obtain ⟨hx, hb, hml, hown, hts, -⟩ := id C
  unfold fX6_addHour at h
  have key : ∀ (H : Heap) (locs : List Loc), Hd Θ s g h0 H locs → W p l e { frames := 1, cells := 0, slots := 0, locals := 21 } s m args below meth c H locs 0 0 (MQ below (Qx Θ s.heap.size gR h0 (some (vi rv))) args s 0 0 (AA Θ s.heap.size)) (F0 m 0 ls []) := by
    intro H locs hM
    refine lv_aload_n hx hb (kX6_addHour (i := 0) rfl) rfl (lv_at hl 0 rfl) ?_
    refine gX6_hours C hM q_fX6_18 (kX6_addHour (i := 1) rfl) ?_
    refine x_bipush hx hb (by decide) (kX6_addHour (i := 2) rfl) ?_
    refine x_icmp_lt (a' := wr (g 41 2)) (b' := 12) hx hb rfl (by decide) (tgt := 11) (kX6_addHour (i := 3) rfl) (by decide) (fun c_1 => ?_) (fun c_1 => ?_)
    · have h := it_t c_1 h
      refine x_iconst hx hb (kX6_addHour (i := 6) rfl) ?_
      refine x_istore_n (lv' := [(3, vi 0), (0, .ref (Θ.2.2.1 41)), (1, vi a0), (2, vi a1)]) hx hb (kX6_addHour (i := 7) rfl) rfl hl (by decide) rfl (fun ls hl => ?_)
      refine wX6_addHour_L13  C fuel a0 a1 0 g H locs ls h ?_ hM (lv_sub hl [1, 2, 3, 0] rfl)
      · intro g_9 H locs ls h hM hl
        refine lv_aload_n hx hb (kX6_addHour (i := 38) rfl) rfl (lv_at hl 0 rfl) ?_
        refine x_iconst hx hb (kX6_addHour (i := 39) rfl) ?_
        obtain ⟨g_10, eg_10, h⟩ := bnd_some h
        refine pX6_solved C hM q_fX6_25 (Or.inl rfl) eg_10 (kX6_addHour (i := 40) rfl) (fun H locs hM => ?_)
        refine lv_aload_n hx hb (kX6_addHour (i := 41) rfl) rfl (lv_at hl 0 rfl) ?_
        refine lv_dup hx hb (kX6_addHour (i := 42) rfl) rfl ?_
        refine gX6_hours C hM q_fX6_18 (kX6_addHour (i := 43) rfl) ?_
        refine x_iconst hx hb (kX6_addHour (i := 44) rfl) ?_
        refine x_iadd hx hb (kX6_addHour (i := 45) rfl) ?_
        obtain ⟨g_11, eg_11, h⟩ := bnd_some h
        refine pX6_hours C hM q_fX6_18 eg_11 (kX6_addHour (i := 46) rfl) (fun H locs hM => ?_)
        refine lv_aload_n hx hb (kX6_addHour (i := 47) rfl) rfl (lv_at hl 0 rfl) ?_
        refine gX6_hours C hM q_fX6_18 (kX6_addHour (i := 48) rfl) ?_
        obtain ⟨q1, q2⟩ := ret2 h
        rw [q1, q2]
        exact x_iret C hM (nar_i _) (kX6_addHour (i := 49) rfl)
    · have h := it_f c_1 h
      refine x_iconst hx hb (kX6_addHour (i := 4) rfl) ?_
      obtain ⟨q1, q2⟩ := ret2 h
      rw [q1, q2]
      exact x_iret C hM (nar_i _) (kX6_addHour (i := 5) rfl)
  exact key _ _ hM

/-! X6_restart -/
def fX6_restart (a0 : Int) (g : Mem) : Option (Int × Mem) :=
  bnd (g 41 2) fun x_1 =>
  bnd (up g 41 2 0) fun g_2 =>
  bnd (up g_2 41 3 a0) fun g_3 =>
  bnd (up g_3 41 4 0) fun g_4 =>
  some (x_1, g_4)
set_option maxRecDepth 100000 in
set_option maxHeartbeats 4000000 in
theorem tX6_restart (l : Launch) (Θ : Th) (a0 : Int) (h0 g : Mem) (rv : Int) (gR : Mem) (h : fX6_restart a0 g = some (rv, gR)) : Ct l yX6_restart cX6_restart 3 (some .int) 0 0 Θ [.ref (Θ.2.2.1 41), vi a0] g h0 gR h0 (some (vi rv)) := by
  refine x_start (by decide) (Nat.le_of_ble_eq_true rfl) ?_
  intro p e s m args below meth c ls C hM hl
  have hl : lv_has ls 3 [(0, .ref (Θ.2.2.1 41)), (1, vi a0)] := hl
  obtain ⟨hx, hb, hml, hown, hts, -⟩ := id C
  unfold fX6_restart at h
  have key : ∀ (H : Heap) (locs : List Loc), Hd Θ s g h0 H locs → W p l e { frames := 0, cells := 0, slots := 0, locals := 0 } s m args below meth c H locs 0 0 (MQ below (Qx Θ s.heap.size gR h0 (some (vi rv))) args s 0 0 (AA Θ s.heap.size)) (F0 m 0 ls []) := by
    intro H locs hM
    refine lv_aload_n hx hb (kX6_restart (i := 0) rfl) rfl (lv_at hl 0 rfl) ?_
    refine gX6_hours C hM q_fX6_18 (kX6_restart (i := 1) rfl) ?_
    obtain ⟨x_1, ex_1, h⟩ := bnd_some h
    refine x_top ex_1 ?_
    refine x_istore_n (lv' := [(2, vi x_1), (0, .ref (Θ.2.2.1 41)), (1, vi a0)]) hx hb (kX6_restart (i := 2) rfl) rfl hl (by decide) rfl (fun ls hl => ?_)
    refine lv_aload_n hx hb (kX6_restart (i := 3) rfl) rfl (lv_at hl 1 rfl) ?_
    refine x_iconst hx hb (kX6_restart (i := 4) rfl) ?_
    obtain ⟨g_2, eg_2, h⟩ := bnd_some h
    refine pX6_hours C hM q_fX6_18 eg_2 (kX6_restart (i := 5) rfl) (fun H locs hM => ?_)
    refine lv_aload_n hx hb (kX6_restart (i := 6) rfl) rfl (lv_at hl 1 rfl) ?_
    refine x_iload_n hx hb (kX6_restart (i := 7) rfl) rfl (lv_at hl 2 rfl) ?_
    obtain ⟨g_3, eg_3, h⟩ := bnd_some h
    refine pX6_own C hM q_fX6_22 eg_3 (kX6_restart (i := 8) rfl) (fun H locs hM => ?_)
    refine lv_aload_n hx hb (kX6_restart (i := 9) rfl) rfl (lv_at hl 1 rfl) ?_
    refine x_iconst hx hb (kX6_restart (i := 10) rfl) ?_
    obtain ⟨g_4, eg_4, h⟩ := bnd_some h
    refine pX6_solved C hM q_fX6_25 (Or.inl rfl) eg_4 (kX6_restart (i := 11) rfl) (fun H locs hM => ?_)
    refine x_iload_n hx hb (kX6_restart (i := 12) rfl) rfl (lv_at hl 0 rfl) ?_
    obtain ⟨q1, q2⟩ := ret2 h
    rw [q1, q2]
    exact x_iret C hM (nar_i _) (kX6_restart (i := 13) rfl)
  exact key _ _ hM

/-! X6_queasyBy -/
def fX6_queasyBy (a0 : Int) (a1 : Int) (a2 : Int) (g : Mem) : Option (Int) :=
  bnd (mMax 0 (a1 - a2)) fun x_1 =>
  gd ((a0 * 4) + a2) 48 <|
  gd (((a0 + 1) * 37) + x_1) 481 <|
  some ((g 42 (wr ((a0 * 4) + a2)).toNat) + (g 43 (wr (((a0 + 1) * 37) + x_1)).toNat))
set_option maxRecDepth 100000 in
set_option maxHeartbeats 4000000 in
theorem tX6_queasyBy (l : Launch) (Θ : Th) (a0 : Int) (a1 : Int) (a2 : Int) (h0 g : Mem) (rv : Int) (h : fX6_queasyBy a0 a1 a2 g = some rv) : Ct l yX6_queasyBy cX6_queasyBy 5 (some .int) 1 21 Θ [.ref (Θ.2.2.1 41), vi a0, vi a1, vi a2] g h0 g h0 (some (vi rv)) := by
  refine x_start (by decide) (Nat.le_of_ble_eq_true rfl) ?_
  intro p e s m args below meth c ls C hM hl
  have hl : lv_has ls 5 [(0, .ref (Θ.2.2.1 41)), (1, vi a0), (2, vi a1), (3, vi a2)] := hl
  obtain ⟨hx, hb, hml, hown, hts, -⟩ := id C
  unfold fX6_queasyBy at h
  have key : ∀ (H : Heap) (locs : List Loc), Hd Θ s g h0 H locs → W p l e { frames := 1, cells := 0, slots := 0, locals := 21 } s m args below meth c H locs 0 0 (MQ below (Qx Θ s.heap.size g h0 (some (vi rv))) args s 0 0 (AA Θ s.heap.size)) (F0 m 0 ls []) := by
    intro H locs hM
    refine x_iconst hx hb (kX6_queasyBy (i := 0) rfl) ?_
    refine x_iload_n hx hb (kX6_queasyBy (i := 1) rfl) rfl (lv_at hl 2 rfl) ?_
    refine x_iload_n hx hb (kX6_queasyBy (i := 2) rfl) rfl (lv_at hl 3 rfl) ?_
    refine x_isub hx hb (kX6_queasyBy (i := 3) rfl) ?_
    refine x_mmax C hl.1 (Nat.le_of_ble_eq_true rfl) (Nat.le_of_ble_eq_true rfl) q_mX6_43 (kX6_queasyBy (i := 4) rfl) ?_
    obtain ⟨x_1, ex_1, h⟩ := bnd_some h
    refine x_top ex_1 ?_
    refine x_istore (lv' := [(4, vi x_1), (0, .ref (Θ.2.2.1 41)), (1, vi a0), (2, vi a1), (3, vi a2)]) hx hb (kX6_queasyBy (i := 5) rfl) hl (by decide) rfl (fun ls hl => ?_)
    refine lv_aload_n hx hb (kX6_queasyBy (i := 6) rfl) rfl (lv_at hl 1 rfl) ?_
    refine gX6_queasy C hM q_fX6_11 (kX6_queasyBy (i := 7) rfl) ?_
    refine x_iload_n hx hb (kX6_queasyBy (i := 8) rfl) rfl (lv_at hl 2 rfl) ?_
    refine x_iconst hx hb (kX6_queasyBy (i := 9) rfl) ?_
    refine x_imul hx hb (kX6_queasyBy (i := 10) rfl) ?_
    refine x_iload_n hx hb (kX6_queasyBy (i := 11) rfl) rfl (lv_at hl 4 rfl) ?_
    refine x_iadd hx hb (kX6_queasyBy (i := 12) rfl) ?_
    obtain ⟨hi_2, h⟩ := gd_some h
    refine x_ialdX C hM 42 (by decide) (eX_42 Θ) hi_2 (kX6_queasyBy (i := 13) rfl) ?_
    refine lv_aload_n hx hb (kX6_queasyBy (i := 14) rfl) rfl (lv_at hl 1 rfl) ?_
    refine gX6_least C hM q_fX6_15 (kX6_queasyBy (i := 15) rfl) ?_
    refine x_iload_n hx hb (kX6_queasyBy (i := 16) rfl) rfl (lv_at hl 2 rfl) ?_
    refine x_iconst hx hb (kX6_queasyBy (i := 17) rfl) ?_
    refine x_iadd hx hb (kX6_queasyBy (i := 18) rfl) ?_
    refine x_bipush hx hb (by decide) (kX6_queasyBy (i := 19) rfl) ?_
    refine x_imul hx hb (kX6_queasyBy (i := 20) rfl) ?_
    refine x_iload hx hb (kX6_queasyBy (i := 21) rfl) (lv_at hl 0 rfl) ?_
    refine x_iadd hx hb (kX6_queasyBy (i := 22) rfl) ?_
    obtain ⟨hi_3, h⟩ := gd_some h
    refine x_ialdX C hM 43 (by decide) (eX_43 Θ) hi_3 (kX6_queasyBy (i := 23) rfl) ?_
    refine x_iadd hx hb (kX6_queasyBy (i := 24) rfl) ?_
    rw [← Option.some.inj h]
    exact x_iret C hM (nar_i _) (kX6_queasyBy (i := 25) rfl)
  exact key _ _ hM

/-! X6_solve -/
def fX6_solve_L10 : Nat → Int → Mem → (Mem → Option (Mem)) → Option (Mem)
  | 0, _, _, _ => none
  | n + 1, y1, g, K46 =>
    if 37 ≤ wr y1 then (
      K46 g
    ) else (
      jn (fun (v_3 : Int) =>
        gd (((g 41 2) * 37) + y1) 481 <|
        bnd (up g 43 (wr (((g 41 2) * 37) + y1)).toNat v_3) fun g_5 =>
        bnd (y1 + 1) fun x_6 =>
        fX6_solve_L10 n x_6 g_5 K46
      ) fun J39 =>
      if wr y1 = 0 then (
        J39 0
      ) else (
        J39 100000000
      )
    )
def fX6_solve_L71 : Nat → Int → Int → Int → Int → Mem → (Int → Int → Int → Mem → Option (Mem)) → Option (Mem)
  | 0, _, _, _, _, _, _ => none
  | n + 1, y1, y2, y3, y4, g, K96 =>
    if 4 ≤ wr y4 then (
      K96 y1 y2 y3 g
    ) else (
      bd (fX6_queasyBy y1 y2 y4 g) fun r_13 =>
      bnd (mMin y3 r_13) fun x_15 =>
      bnd (y4 + 1) fun x_16 =>
      fX6_solve_L71 n y1 y2 x_15 x_16 g K96
    )
def fX6_solve_L59 : Nat → Int → Int → Mem → (Int → Mem → Option (Mem)) → Option (Mem)
  | 0, _, _, _, _ => none
  | n + 1, y1, y2, g, K114 =>
    if 37 ≤ wr y2 then (
      K114 y1 g
    ) else (
      fX6_solve_L71 fuel y1 y2 100000000 0 g
      (fun (z_17 : Int) (z_18 : Int) (z_19 : Int) (g_20 : Mem) =>
        gd ((z_17 * 37) + z_18) 481 <|
        bnd (up g_20 43 (wr ((z_17 * 37) + z_18)).toNat z_19) fun g_22 =>
        bnd (z_18 + 1) fun x_23 =>
        fX6_solve_L59 n z_17 x_23 g_22 K114
      )
    )
def fX6_solve_L53 : Nat → Int → Mem → (Mem → Option (Mem)) → Option (Mem)
  | 0, _, _, _ => none
  | n + 1, y1, g, K120 =>
    if wr y1 < 0 then (
      K120 g
    ) else (
      fX6_solve_L59 fuel y1 0 g
      (fun (z_24 : Int) (g_25 : Mem) =>
        bnd (z_24 + (-1)) fun x_26 =>
        fX6_solve_L53 n x_26 g_25 K120
      )
    )
def fX6_solve (g : Mem) : Option (Mem) :=
  if wr (g 41 4) = 0 then (
    fX6_solve_L10 fuel 0 g
    (fun (g_8 : Mem) =>
      bnd ((g_8 41 2) - 1) fun x_9 =>
      fX6_solve_L53 fuel x_9 g_8
      (fun (g_27 : Mem) =>
        bnd (up g_27 41 4 1) fun g_28 =>
        some g_28
      )
    )
  ) else (
    some g
  )
set_option maxRecDepth 100000 in
set_option maxHeartbeats 4000000 in
theorem wX6_solve_L10 {p : Program} {l : Launch} {e : Env} {s : State} {m : MethodId} {args : Array Value} {below : List Frame} {meth : Method} {c : Code} {Θ : Th} {h0 : Mem} {gR : Mem} {K46 : Mem → Option (Mem)} (C : Cx p s m args meth c cX6_solve 5 RX6 none Θ) : ∀ (n : Nat) (y1 : Int) (g : Mem) (H : Heap) (locs : List Loc) (ls : Array Slot), fX6_solve_L10 n y1 g K46 = some gR → (∀ (gz : Mem) (H : Heap) (locs : List Loc) (ls : Array Slot), K46 gz = some gR → Hd Θ s gz h0 H locs → lv_has ls 5 [(0, .ref (Θ.2.2.1 41))] → W p l e { frames := 2, cells := 0, slots := 0, locals := 45 } s m args below meth c H locs 0 0 (MQ below (Qx Θ s.heap.size gR h0 none) args s 0 0 (AA Θ s.heap.size)) (F0 m 46 ls [])) → Hd Θ s g h0 H locs → lv_has ls 5 [(0, .ref (Θ.2.2.1 41)), (1, vi y1)] → W p l e { frames := 2, cells := 0, slots := 0, locals := 45 } s m args below meth c H locs 0 0 (MQ below (Qx Θ s.heap.size gR h0 none) args s 0 0 (AA Θ s.heap.size)) (F0 m 10 ls []) := by
  intro n
  obtain ⟨hx, hb, hml, hown, hts, -⟩ := id C
  induction n with
  | zero => intro y1 g H locs ls h; cases h
  | succ n ih =>
    intro y1 g H locs ls h hK46 hM hl
    rw [fX6_solve_L10] at h
    refine x_iload_n hx hb (kX6_solve (i := 6) rfl) rfl (lv_at hl 1 rfl) ?_
    refine x_bipush hx hb (by decide) (kX6_solve (i := 7) rfl) ?_
    refine x_icmp_ge (a' := wr y1) (b' := 37) hx hb rfl (by decide) (tgt := 46) (kX6_solve (i := 8) rfl) (by decide) (fun c_2 => ?_) (fun c_2 => ?_)
    · have h := it_t c_2 h
      exact hK46 g H locs ls h hM (lv_sub hl [0] rfl)
    · have h := it_f c_2 h
      refine lv_aload_n hx hb (kX6_solve (i := 9) rfl) rfl (lv_at hl 0 rfl) ?_
      refine gX6_least C hM q_fX6_15 (kX6_solve (i := 10) rfl) ?_
      refine lv_aload_n hx hb (kX6_solve (i := 11) rfl) rfl (lv_at hl 0 rfl) ?_
      refine gX6_hours C hM q_fX6_18 (kX6_solve (i := 12) rfl) ?_
      refine x_bipush hx hb (by decide) (kX6_solve (i := 13) rfl) ?_
      refine x_imul hx hb (kX6_solve (i := 14) rfl) ?_
      refine x_iload_n hx hb (kX6_solve (i := 15) rfl) rfl (lv_at hl 1 rfl) ?_
      refine x_iadd hx hb (kX6_solve (i := 16) rfl) ?_
      refine x_iload_n hx hb (kX6_solve (i := 17) rfl) rfl (lv_at hl 1 rfl) ?_
      refine jn_go h (fun J39 : Int → Option (Mem) => ∀ (v_3 : Int) (H : Heap) (locs : List Loc) (ls : Array Slot), J39 v_3 = some gR → Hd Θ s g h0 H locs → lv_has ls 5 [(0, .ref (Θ.2.2.1 41)), (1, vi y1)] → W p l e { frames := 2, cells := 0, slots := 0, locals := 45 } s m args below meth c H locs 0 0 (MQ below (Qx Θ s.heap.size gR h0 none) args s 0 0 (AA Θ s.heap.size)) (F0 m 39 ls [vi v_3, vi (((g 41 2) * 37) + y1), .ref (Θ.2.2.1 43)])) ?_ ?_
      · intro v_3 H locs ls h hM hl
        obtain ⟨hi_4, h⟩ := gd_some h
        obtain ⟨g_5, eg_5, h⟩ := bnd_some h
        refine x_iastX C hM 43 (by decide) (eX_43 Θ) hi_4 eg_5 (kX6_solve (i := 22) rfl) (fun H locs hM => ?_)
        obtain ⟨x_6, ex_6, h⟩ := bnd_some h
        refine x_iinc (k := 1) (lv' := [(1, vi x_6), (0, .ref (Θ.2.2.1 41))]) hx hb (kX6_solve (i := 23) rfl) hl rfl ex_6 (by decide) rfl (fun ls hl => ?_)
        refine lv_goto (tgt := 10) hx hb (kX6_solve (i := 24) rfl) (by decide) ?_
        exact ih x_6 g_5 H locs ls h hK46 hM (lv_sub hl [1, 0] rfl)
      intro J39 hJ39 h
      refine x_if_ne (a' := wr y1) hx hb rfl (tgt := 37) (kX6_solve (i := 18) rfl) (by decide) (fun c_7 => ?_) (fun c_7 => ?_)
      · have h := it_f c_7 h
        refine x_ldc (n := 100000000) hx hb hown (hts _ q_kX6_33) (kX6_solve (i := 21) rfl) ?_
        exact hJ39 100000000 H locs ls h hM (lv_sub hl [0, 1] rfl)
      · have h := it_t c_7 h
        refine x_iconst hx hb (kX6_solve (i := 19) rfl) ?_
        refine lv_goto (tgt := 39) hx hb (kX6_solve (i := 20) rfl) (by decide) ?_
        exact hJ39 0 H locs ls h hM (lv_sub hl [0, 1] rfl)
set_option maxRecDepth 100000 in
set_option maxHeartbeats 4000000 in
theorem wX6_solve_L71 {p : Program} {l : Launch} {e : Env} {s : State} {m : MethodId} {args : Array Value} {below : List Frame} {meth : Method} {c : Code} {Θ : Th} {h0 : Mem} {gR : Mem} {K96 : Int → Int → Int → Mem → Option (Mem)} (C : Cx p s m args meth c cX6_solve 5 RX6 none Θ) : ∀ (n : Nat) (y1 : Int) (y2 : Int) (y3 : Int) (y4 : Int) (g : Mem) (H : Heap) (locs : List Loc) (ls : Array Slot), fX6_solve_L71 n y1 y2 y3 y4 g K96 = some gR → (∀ (z1 : Int) (z2 : Int) (z3 : Int) (gz : Mem) (H : Heap) (locs : List Loc) (ls : Array Slot), K96 z1 z2 z3 gz = some gR → Hd Θ s gz h0 H locs → lv_has ls 5 [(0, .ref (Θ.2.2.1 41)), (1, vi z1), (2, vi z2), (3, vi z3)] → W p l e { frames := 2, cells := 0, slots := 0, locals := 45 } s m args below meth c H locs 0 0 (MQ below (Qx Θ s.heap.size gR h0 none) args s 0 0 (AA Θ s.heap.size)) (F0 m 96 ls [])) → Hd Θ s g h0 H locs → lv_has ls 5 [(0, .ref (Θ.2.2.1 41)), (1, vi y1), (2, vi y2), (3, vi y3), (4, vi y4)] → W p l e { frames := 2, cells := 0, slots := 0, locals := 45 } s m args below meth c H locs 0 0 (MQ below (Qx Θ s.heap.size gR h0 none) args s 0 0 (AA Θ s.heap.size)) (F0 m 71 ls []) := by
  intro n
  obtain ⟨hx, hb, hml, hown, hts, -⟩ := id C
  induction n with
  | zero => intro y1 y2 y3 y4 g H locs ls h; cases h
  | succ n ih =>
    intro y1 y2 y3 y4 g H locs ls h hK96 hM hl
    rw [fX6_solve_L71] at h
    refine x_iload hx hb (kX6_solve (i := 41) rfl) (lv_at hl 4 rfl) ?_
    refine x_iconst hx hb (kX6_solve (i := 42) rfl) ?_
    refine x_icmp_ge (a' := wr y4) (b' := 4) hx hb rfl (by decide) (tgt := 96) (kX6_solve (i := 43) rfl) (by decide) (fun c_12 => ?_) (fun c_12 => ?_)
    · have h := it_t c_12 h
      exact hK96 y1 y2 y3 g H locs ls h hM (lv_sub hl [0, 1, 2, 3] rfl)
    · have h := it_f c_12 h
      refine x_iload_n hx hb (kX6_solve (i := 44) rfl) rfl (lv_at hl 3 rfl) ?_
      refine lv_aload_n hx hb (kX6_solve (i := 45) rfl) rfl (lv_at hl 0 rfl) ?_
      refine x_iload_n hx hb (kX6_solve (i := 46) rfl) rfl (lv_at hl 1 rfl) ?_
      refine x_iload_n hx hb (kX6_solve (i := 47) rfl) rfl (lv_at hl 2 rfl) ?_
      refine x_iload hx hb (kX6_solve (i := 48) rfl) (lv_at hl 4 rfl) ?_
      obtain ⟨r_13, hc_14, h⟩ := bd_some h
      refine x_callV (n := 3) (As := [vi y1, vi y2, vi y4]) (rest := [vi y3]) C hM (tX6_queasyBy l Θ y1 y2 y4 h0 g r_13 hc_14) (x_recvX C hM 41 (by decide) (eX_41 Θ _) rfl rfl) q_c_X6_queasyBy q_mX6_34 q_i_X6_queasyBy q_e_X6_queasyBy q_n_X6 (by decide +kernel) ⟨by decide, by decide⟩ rfl hl.1 rfl (Nat.le_of_ble_eq_true rfl) (kX6_solve (i := 49) rfl) (fun H locs hM => ?_)
      refine x_mmin C hl.1 (Nat.le_of_ble_eq_true rfl) (Nat.le_of_ble_eq_true rfl) q_mX6_38 (kX6_solve (i := 50) rfl) ?_
      obtain ⟨x_15, ex_15, h⟩ := bnd_some h
      refine x_top ex_15 ?_
      refine x_istore_n (lv' := [(3, vi x_15), (0, .ref (Θ.2.2.1 41)), (1, vi y1), (2, vi y2), (4, vi y4)]) hx hb (kX6_solve (i := 51) rfl) rfl hl (by decide) rfl (fun ls hl => ?_)
      obtain ⟨x_16, ex_16, h⟩ := bnd_some h
      refine x_iinc (k := 4) (lv' := [(4, vi x_16), (3, vi x_15), (0, .ref (Θ.2.2.1 41)), (1, vi y1), (2, vi y2)]) hx hb (kX6_solve (i := 52) rfl) hl rfl ex_16 (by decide) rfl (fun ls hl => ?_)
      refine lv_goto (tgt := 71) hx hb (kX6_solve (i := 53) rfl) (by decide) ?_
      exact ih y1 y2 x_15 x_16 g H locs ls h hK96 hM (lv_sub hl [2, 3, 4, 1, 0] rfl)
set_option maxRecDepth 100000 in
set_option maxHeartbeats 4000000 in
theorem wX6_solve_L59 {p : Program} {l : Launch} {e : Env} {s : State} {m : MethodId} {args : Array Value} {below : List Frame} {meth : Method} {c : Code} {Θ : Th} {h0 : Mem} {gR : Mem} {K114 : Int → Mem → Option (Mem)} (C : Cx p s m args meth c cX6_solve 5 RX6 none Θ) : ∀ (n : Nat) (y1 : Int) (y2 : Int) (g : Mem) (H : Heap) (locs : List Loc) (ls : Array Slot), fX6_solve_L59 n y1 y2 g K114 = some gR → (∀ (z1 : Int) (gz : Mem) (H : Heap) (locs : List Loc) (ls : Array Slot), K114 z1 gz = some gR → Hd Θ s gz h0 H locs → lv_has ls 5 [(0, .ref (Θ.2.2.1 41)), (1, vi z1)] → W p l e { frames := 2, cells := 0, slots := 0, locals := 45 } s m args below meth c H locs 0 0 (MQ below (Qx Θ s.heap.size gR h0 none) args s 0 0 (AA Θ s.heap.size)) (F0 m 114 ls [])) → Hd Θ s g h0 H locs → lv_has ls 5 [(0, .ref (Θ.2.2.1 41)), (1, vi y1), (2, vi y2)] → W p l e { frames := 2, cells := 0, slots := 0, locals := 45 } s m args below meth c H locs 0 0 (MQ below (Qx Θ s.heap.size gR h0 none) args s 0 0 (AA Θ s.heap.size)) (F0 m 59 ls []) := by
  intro n
  obtain ⟨hx, hb, hml, hown, hts, -⟩ := id C
  induction n with
  | zero => intro y1 y2 g H locs ls h; cases h
  | succ n ih =>
    intro y1 y2 g H locs ls h hK114 hM hl
    rw [fX6_solve_L59] at h
    refine x_iload_n hx hb (kX6_solve (i := 34) rfl) rfl (lv_at hl 2 rfl) ?_
    refine x_bipush hx hb (by decide) (kX6_solve (i := 35) rfl) ?_
    refine x_icmp_ge (a' := wr y2) (b' := 37) hx hb rfl (by decide) (tgt := 114) (kX6_solve (i := 36) rfl) (by decide) (fun c_11 => ?_) (fun c_11 => ?_)
    · have h := it_t c_11 h
      exact hK114 y1 g H locs ls h hM (lv_sub hl [0, 1] rfl)
    · have h := it_f c_11 h
      refine x_ldc (n := 100000000) hx hb hown (hts _ q_kX6_33) (kX6_solve (i := 37) rfl) ?_
      refine x_istore_n (lv' := [(3, vi 100000000), (0, .ref (Θ.2.2.1 41)), (1, vi y1), (2, vi y2)]) hx hb (kX6_solve (i := 38) rfl) rfl hl (by decide) rfl (fun ls hl => ?_)
      refine x_iconst hx hb (kX6_solve (i := 39) rfl) ?_
      refine x_istore (lv' := [(4, vi 0), (3, vi 100000000), (0, .ref (Θ.2.2.1 41)), (1, vi y1), (2, vi y2)]) hx hb (kX6_solve (i := 40) rfl) hl (by decide) rfl (fun ls hl => ?_)
      refine wX6_solve_L71  C fuel y1 y2 100000000 0 g H locs ls h ?_ hM (lv_sub hl [2, 3, 4, 1, 0] rfl)
      · intro z_17 z_18 z_19 g_20 H locs ls h hM hl
        refine lv_aload_n hx hb (kX6_solve (i := 54) rfl) rfl (lv_at hl 0 rfl) ?_
        refine gX6_least C hM q_fX6_15 (kX6_solve (i := 55) rfl) ?_
        refine x_iload_n hx hb (kX6_solve (i := 56) rfl) rfl (lv_at hl 1 rfl) ?_
        refine x_bipush hx hb (by decide) (kX6_solve (i := 57) rfl) ?_
        refine x_imul hx hb (kX6_solve (i := 58) rfl) ?_
        refine x_iload_n hx hb (kX6_solve (i := 59) rfl) rfl (lv_at hl 2 rfl) ?_
        refine x_iadd hx hb (kX6_solve (i := 60) rfl) ?_
        refine x_iload_n hx hb (kX6_solve (i := 61) rfl) rfl (lv_at hl 3 rfl) ?_
        obtain ⟨hi_21, h⟩ := gd_some h
        obtain ⟨g_22, eg_22, h⟩ := bnd_some h
        refine x_iastX C hM 43 (by decide) (eX_43 Θ) hi_21 eg_22 (kX6_solve (i := 62) rfl) (fun H locs hM => ?_)
        obtain ⟨x_23, ex_23, h⟩ := bnd_some h
        refine x_iinc (k := 2) (lv' := [(2, vi x_23), (0, .ref (Θ.2.2.1 41)), (1, vi z_17), (3, vi z_19)]) hx hb (kX6_solve (i := 63) rfl) hl rfl ex_23 (by decide) rfl (fun ls hl => ?_)
        refine lv_goto (tgt := 59) hx hb (kX6_solve (i := 64) rfl) (by decide) ?_
        exact ih z_17 x_23 g_22 H locs ls h hK114 hM (lv_sub hl [1, 2, 0] rfl)
set_option maxRecDepth 100000 in
set_option maxHeartbeats 4000000 in
theorem wX6_solve_L53 {p : Program} {l : Launch} {e : Env} {s : State} {m : MethodId} {args : Array Value} {below : List Frame} {meth : Method} {c : Code} {Θ : Th} {h0 : Mem} {gR : Mem} {K120 : Mem → Option (Mem)} (C : Cx p s m args meth c cX6_solve 5 RX6 none Θ) : ∀ (n : Nat) (y1 : Int) (g : Mem) (H : Heap) (locs : List Loc) (ls : Array Slot), fX6_solve_L53 n y1 g K120 = some gR → (∀ (gz : Mem) (H : Heap) (locs : List Loc) (ls : Array Slot), K120 gz = some gR → Hd Θ s gz h0 H locs → lv_has ls 5 [(0, .ref (Θ.2.2.1 41))] → W p l e { frames := 2, cells := 0, slots := 0, locals := 45 } s m args below meth c H locs 0 0 (MQ below (Qx Θ s.heap.size gR h0 none) args s 0 0 (AA Θ s.heap.size)) (F0 m 120 ls [])) → Hd Θ s g h0 H locs → lv_has ls 5 [(0, .ref (Θ.2.2.1 41)), (1, vi y1)] → W p l e { frames := 2, cells := 0, slots := 0, locals := 45 } s m args below meth c H locs 0 0 (MQ below (Qx Θ s.heap.size gR h0 none) args s 0 0 (AA Θ s.heap.size)) (F0 m 53 ls []) := by
  intro n
  obtain ⟨hx, hb, hml, hown, hts, -⟩ := id C
  induction n with
  | zero => intro y1 g H locs ls h; cases h
  | succ n ih =>
    intro y1 g H locs ls h hK120 hM hl
    rw [fX6_solve_L53] at h
    refine x_iload_n hx hb (kX6_solve (i := 30) rfl) rfl (lv_at hl 1 rfl) ?_
    refine x_if_lt (a' := wr y1) hx hb rfl (tgt := 120) (kX6_solve (i := 31) rfl) (by decide) (fun c_10 => ?_) (fun c_10 => ?_)
    · have h := it_t c_10 h
      exact hK120 g H locs ls h hM (lv_sub hl [0] rfl)
    · have h := it_f c_10 h
      refine x_iconst hx hb (kX6_solve (i := 32) rfl) ?_
      refine x_istore_n (lv' := [(2, vi 0), (0, .ref (Θ.2.2.1 41)), (1, vi y1)]) hx hb (kX6_solve (i := 33) rfl) rfl hl (by decide) rfl (fun ls hl => ?_)
      refine wX6_solve_L59  C fuel y1 0 g H locs ls h ?_ hM (lv_sub hl [1, 2, 0] rfl)
      · intro z_24 g_25 H locs ls h hM hl
        obtain ⟨x_26, ex_26, h⟩ := bnd_some h
        refine x_iinc (k := 1) (lv' := [(1, vi x_26), (0, .ref (Θ.2.2.1 41))]) hx hb (kX6_solve (i := 65) rfl) hl rfl ex_26 (by decide) rfl (fun ls hl => ?_)
        refine lv_goto (tgt := 53) hx hb (kX6_solve (i := 66) rfl) (by decide) ?_
        exact ih x_26 g_25 H locs ls h hK120 hM (lv_sub hl [1, 0] rfl)
set_option maxRecDepth 100000 in
set_option maxHeartbeats 4000000 in
theorem tX6_solve (l : Launch) (Θ : Th) (h0 g : Mem) (gR : Mem) (h : fX6_solve g = some gR) : Ct l yX6_solve cX6_solve 5 none 2 45 Θ [.ref (Θ.2.2.1 41)] g h0 gR h0 none := by
  refine x_start (by decide) (Nat.le_of_ble_eq_true rfl) ?_
  intro p e s m args below meth c ls C hM hl
  have hl : lv_has ls 5 [(0, .ref (Θ.2.2.1 41))] := hl
  obtain ⟨hx, hb, hml, hown, hts, -⟩ := id C
  unfold fX6_solve at h
  have key : ∀ (H : Heap) (locs : List Loc), Hd Θ s g h0 H locs → W p l e { frames := 2, cells := 0, slots := 0, locals := 45 } s m args below meth c H locs 0 0 (MQ below (Qx Θ s.heap.size gR h0 none) args s 0 0 (AA Θ s.heap.size)) (F0 m 0 ls []) := by
    intro H locs hM
    refine lv_aload_n hx hb (kX6_solve (i := 0) rfl) rfl (lv_at hl 0 rfl) ?_
    refine gX6_solved C hM q_fX6_25 (kX6_solve (i := 1) rfl) ?_
    refine x_if_eq (a' := wr (g 41 4)) hx hb rfl (tgt := 8) (kX6_solve (i := 2) rfl) (by decide) (fun c_1 => ?_) (fun c_1 => ?_)
    · have h := it_t c_1 h
      refine x_iconst hx hb (kX6_solve (i := 4) rfl) ?_
      refine x_istore_n (lv' := [(1, vi 0), (0, .ref (Θ.2.2.1 41))]) hx hb (kX6_solve (i := 5) rfl) rfl hl (by decide) rfl (fun ls hl => ?_)
      refine wX6_solve_L10  C fuel 0 g H locs ls h ?_ hM (lv_sub hl [1, 0] rfl)
      · intro g_8 H locs ls h hM hl
        refine lv_aload_n hx hb (kX6_solve (i := 25) rfl) rfl (lv_at hl 0 rfl) ?_
        refine gX6_hours C hM q_fX6_18 (kX6_solve (i := 26) rfl) ?_
        refine x_iconst hx hb (kX6_solve (i := 27) rfl) ?_
        refine x_isub hx hb (kX6_solve (i := 28) rfl) ?_
        obtain ⟨x_9, ex_9, h⟩ := bnd_some h
        refine x_top ex_9 ?_
        refine x_istore_n (lv' := [(1, vi x_9), (0, .ref (Θ.2.2.1 41))]) hx hb (kX6_solve (i := 29) rfl) rfl hl (by decide) rfl (fun ls hl => ?_)
        refine wX6_solve_L53  C fuel x_9 g_8 H locs ls h ?_ hM (lv_sub hl [1, 0] rfl)
        · intro g_27 H locs ls h hM hl
          refine lv_aload_n hx hb (kX6_solve (i := 67) rfl) rfl (lv_at hl 0 rfl) ?_
          refine x_iconst hx hb (kX6_solve (i := 68) rfl) ?_
          obtain ⟨g_28, eg_28, h⟩ := bnd_some h
          refine pX6_solved C hM q_fX6_25 (Or.inr rfl) eg_28 (kX6_solve (i := 69) rfl) (fun H locs hM => ?_)
          rw [← Option.some.inj h]
          exact x_vret C hM (kX6_solve (i := 70) rfl)
    · have h := it_f c_1 h
      rw [← Option.some.inj h]
      exact x_vret C hM (kX6_solve (i := 3) rfl)
  exact key _ _ hM

/-! X6_leastQueasy -/
def fX6_leastQueasy (a0 : Int) (g : Mem) : Option (Int) :=
  if wr a0 < 0 then (
    some (-1)
  ) else (
    if 37 ≤ wr a0 then (
      some (-1)
    ) else (
      gd a0 481 <|
      if wr (g 43 (wr a0).toNat) < 100000000 then (
        gd a0 481 <|
        some (g 43 (wr a0).toNat)
      ) else (
        some (-1)
      )
    )
  )
set_option maxRecDepth 100000 in
set_option maxHeartbeats 4000000 in
theorem tX6_leastQueasy (l : Launch) (Θ : Th) (a0 : Int) (h0 g : Mem) (rv : Int) (h : fX6_leastQueasy a0 g = some rv) : Ct l yX6_leastQueasy cX6_leastQueasy 2 (some .int) 0 0 Θ [.ref (Θ.2.2.1 41), vi a0] g h0 g h0 (some (vi rv)) := by
  refine x_start (by decide) (Nat.le_of_ble_eq_true rfl) ?_
  intro p e s m args below meth c ls C hM hl
  have hl : lv_has ls 2 [(0, .ref (Θ.2.2.1 41)), (1, vi a0)] := hl
  obtain ⟨hx, hb, hml, hown, hts, -⟩ := id C
  unfold fX6_leastQueasy at h
  have key : ∀ (H : Heap) (locs : List Loc), Hd Θ s g h0 H locs → W p l e { frames := 0, cells := 0, slots := 0, locals := 0 } s m args below meth c H locs 0 0 (MQ below (Qx Θ s.heap.size g h0 (some (vi rv))) args s 0 0 (AA Θ s.heap.size)) (F0 m 0 ls []) := by
    intro H locs hM
    refine x_iload_n hx hb (kX6_leastQueasy (i := 0) rfl) rfl (lv_at hl 1 rfl) ?_
    refine x_if_lt (a' := wr a0) hx hb rfl (tgt := 21) (kX6_leastQueasy (i := 1) rfl) (by decide) (fun c_1 => ?_) (fun c_1 => ?_)
    · have h := it_t c_1 h
      refine x_iconst hx hb (kX6_leastQueasy (i := 11) rfl) ?_
      rw [← Option.some.inj h]
      exact x_iret C hM (nar_i _) (kX6_leastQueasy (i := 12) rfl)
    · have h := it_f c_1 h
      refine x_iload_n hx hb (kX6_leastQueasy (i := 2) rfl) rfl (lv_at hl 1 rfl) ?_
      refine x_bipush hx hb (by decide) (kX6_leastQueasy (i := 3) rfl) ?_
      refine x_icmp_ge (a' := wr a0) (b' := 37) hx hb rfl (by decide) (tgt := 21) (kX6_leastQueasy (i := 4) rfl) (by decide) (fun c_2 => ?_) (fun c_2 => ?_)
      · have h := it_t c_2 h
        refine x_iconst hx hb (kX6_leastQueasy (i := 11) rfl) ?_
        rw [← Option.some.inj h]
        exact x_iret C hM (nar_i _) (kX6_leastQueasy (i := 12) rfl)
      · have h := it_f c_2 h
        refine lv_aload_n hx hb (kX6_leastQueasy (i := 5) rfl) rfl (lv_at hl 0 rfl) ?_
        refine gX6_least C hM q_fX6_15 (kX6_leastQueasy (i := 6) rfl) ?_
        refine x_iload_n hx hb (kX6_leastQueasy (i := 7) rfl) rfl (lv_at hl 1 rfl) ?_
        obtain ⟨hi_3, h⟩ := gd_some h
        refine x_ialdX C hM 43 (by decide) (eX_43 Θ) hi_3 (kX6_leastQueasy (i := 8) rfl) ?_
        refine x_ldc (n := 100000000) hx hb hown (hts _ q_kX6_33) (kX6_leastQueasy (i := 9) rfl) ?_
        refine x_icmp_lt (a' := wr (g 43 (wr a0).toNat)) (b' := 100000000) hx hb rfl (by decide) (tgt := 23) (kX6_leastQueasy (i := 10) rfl) (by decide) (fun c_4 => ?_) (fun c_4 => ?_)
        · have h := it_t c_4 h
          refine lv_aload_n hx hb (kX6_leastQueasy (i := 13) rfl) rfl (lv_at hl 0 rfl) ?_
          refine gX6_least C hM q_fX6_15 (kX6_leastQueasy (i := 14) rfl) ?_
          refine x_iload_n hx hb (kX6_leastQueasy (i := 15) rfl) rfl (lv_at hl 1 rfl) ?_
          obtain ⟨hi_5, h⟩ := gd_some h
          refine x_ialdX C hM 43 (by decide) (eX_43 Θ) hi_5 (kX6_leastQueasy (i := 16) rfl) ?_
          rw [← Option.some.inj h]
          exact x_iret C hM (nar_i _) (kX6_leastQueasy (i := 17) rfl)
        · have h := it_f c_4 h
          refine x_iconst hx hb (kX6_leastQueasy (i := 11) rfl) ?_
          rw [← Option.some.inj h]
          exact x_iret C hM (nar_i _) (kX6_leastQueasy (i := 12) rfl)
  exact key _ _ hM

/-! X6_milesIn -/
def fX6_milesIn_L41 : Nat → Int → Int → Int → Int → Mem → (Int → Int → Int → Int → Option (Int)) → Option (Int)
  | 0, _, _, _, _, _, _ => none
  | n + 1, y1, y3, y4, y5, g, K77 =>
    if 3 ≤ wr y4 then (
      K77 y1 y3 y4 y5
    ) else (
      bd (fX6_queasyBy y5 y3 y4 g) fun r_7 =>
      gd ((y5 * 37) + y3) 481 <|
      if wr r_7 = wr (g 43 (wr ((y5 * 37) + y3)).toNat) then (
        K77 y1 y3 y4 y5
      ) else (
        bnd (y4 + 1) fun x_11 =>
        fX6_milesIn_L41 n y1 y3 x_11 y5 g K77
      )
    )
def fX6_milesIn_L32 : Nat → Int → Int → Int → Int → Mem → Option (Int)
  | 0, _, _, _, _, _ => none
  | n + 1, y1, y3, y4, y5, g =>
    if wr y1 < wr y5 then (
      some y4
    ) else (
      fX6_milesIn_L41 fuel y1 y3 0 y5 g
      (fun (z_12 : Int) (z_13 : Int) (z_14 : Int) (z_15 : Int) =>
        bnd (mMax 0 (z_13 - z_14)) fun x_17 =>
        bnd (z_15 + 1) fun x_18 =>
        fX6_milesIn_L32 n z_12 x_17 z_14 x_18 g
      )
    )
def fX6_milesIn (a0 : Int) (a1 : Int) (g : Mem) : Option (Int) :=
  if wr a0 < 0 then (
    some (-1)
  ) else (
    if wr (g 41 2) ≤ wr a0 then (
      some (-1)
    ) else (
      if wr a1 < 0 then (
        some (-1)
      ) else (
        if wr a1 < 37 then (
          fX6_milesIn_L32 fuel a0 a1 0 0 g
        ) else (
          some (-1)
        )
      )
    )
  )
set_option maxRecDepth 100000 in
set_option maxHeartbeats 4000000 in
theorem wX6_milesIn_L41 {p : Program} {l : Launch} {e : Env} {s : State} {m : MethodId} {args : Array Value} {below : List Frame} {meth : Method} {c : Code} {Θ : Th} {h0 : Mem} {g : Mem} {rv : Int} {K77 : Int → Int → Int → Int → Option (Int)} (C : Cx p s m args meth c cX6_milesIn 6 RX6 (some .int) Θ) : ∀ (n : Nat) (y1 : Int) (y3 : Int) (y4 : Int) (y5 : Int) (H : Heap) (locs : List Loc) (ls : Array Slot), fX6_milesIn_L41 n y1 y3 y4 y5 g K77 = some rv → (∀ (z1 : Int) (z3 : Int) (z4 : Int) (z5 : Int) (H : Heap) (locs : List Loc) (ls : Array Slot), K77 z1 z3 z4 z5 = some rv → Hd Θ s g h0 H locs → lv_has ls 6 [(0, .ref (Θ.2.2.1 41)), (1, vi z1), (3, vi z3), (4, vi z4), (5, vi z5)] → W p l e { frames := 2, cells := 0, slots := 0, locals := 45 } s m args below meth c H locs 0 0 (MQ below (Qx Θ s.heap.size g h0 (some (vi rv))) args s 0 0 (AA Θ s.heap.size)) (F0 m 77 ls [])) → Hd Θ s g h0 H locs → lv_has ls 6 [(0, .ref (Θ.2.2.1 41)), (1, vi y1), (3, vi y3), (4, vi y4), (5, vi y5)] → W p l e { frames := 2, cells := 0, slots := 0, locals := 45 } s m args below meth c H locs 0 0 (MQ below (Qx Θ s.heap.size g h0 (some (vi rv))) args s 0 0 (AA Θ s.heap.size)) (F0 m 41 ls []) := by
  intro n
  obtain ⟨hx, hb, hml, hown, hts, -⟩ := id C
  induction n with
  | zero => intro y1 y3 y4 y5 H locs ls h; cases h
  | succ n ih =>
    intro y1 y3 y4 y5 H locs ls h hK77 hM hl
    rw [fX6_milesIn_L41] at h
    refine x_iload hx hb (kX6_milesIn (i := 24) rfl) (lv_at hl 3 rfl) ?_
    refine x_iconst hx hb (kX6_milesIn (i := 25) rfl) ?_
    refine x_icmp_ge (a' := wr y4) (b' := 3) hx hb rfl (by decide) (tgt := 77) (kX6_milesIn (i := 26) rfl) (by decide) (fun c_6 => ?_) (fun c_6 => ?_)
    · have h := it_t c_6 h
      exact hK77 y1 y3 y4 y5 H locs ls h hM (lv_sub hl [0, 1, 2, 3, 4] rfl)
    · have h := it_f c_6 h
      refine lv_aload_n hx hb (kX6_milesIn (i := 27) rfl) rfl (lv_at hl 0 rfl) ?_
      refine x_iload hx hb (kX6_milesIn (i := 28) rfl) (lv_at hl 4 rfl) ?_
      refine x_iload_n hx hb (kX6_milesIn (i := 29) rfl) rfl (lv_at hl 2 rfl) ?_
      refine x_iload hx hb (kX6_milesIn (i := 30) rfl) (lv_at hl 3 rfl) ?_
      obtain ⟨r_7, hc_8, h⟩ := bd_some h
      refine x_callV (n := 3) (As := [vi y5, vi y3, vi y4]) (rest := []) C hM (tX6_queasyBy l Θ y5 y3 y4 h0 g r_7 hc_8) (x_recvX C hM 41 (by decide) (eX_41 Θ _) rfl rfl) q_c_X6_queasyBy q_mX6_34 q_i_X6_queasyBy q_e_X6_queasyBy q_n_X6 (by decide +kernel) ⟨by decide, by decide⟩ rfl hl.1 rfl (Nat.le_of_ble_eq_true rfl) (kX6_milesIn (i := 31) rfl) (fun H locs hM => ?_)
      refine lv_aload_n hx hb (kX6_milesIn (i := 32) rfl) rfl (lv_at hl 0 rfl) ?_
      refine gX6_least C hM q_fX6_15 (kX6_milesIn (i := 33) rfl) ?_
      refine x_iload hx hb (kX6_milesIn (i := 34) rfl) (lv_at hl 4 rfl) ?_
      refine x_bipush hx hb (by decide) (kX6_milesIn (i := 35) rfl) ?_
      refine x_imul hx hb (kX6_milesIn (i := 36) rfl) ?_
      refine x_iload_n hx hb (kX6_milesIn (i := 37) rfl) rfl (lv_at hl 2 rfl) ?_
      refine x_iadd hx hb (kX6_milesIn (i := 38) rfl) ?_
      obtain ⟨hi_9, h⟩ := gd_some h
      refine x_ialdX C hM 43 (by decide) (eX_43 Θ) hi_9 (kX6_milesIn (i := 39) rfl) ?_
      refine x_icmp_eq (a' := wr r_7) (b' := wr (g 43 (wr ((y5 * 37) + y3)).toNat)) hx hb rfl rfl (tgt := 77) (kX6_milesIn (i := 40) rfl) (by decide) (fun c_10 => ?_) (fun c_10 => ?_)
      · have h := it_t c_10 h
        exact hK77 y1 y3 y4 y5 H locs ls h hM (lv_sub hl [0, 1, 2, 3, 4] rfl)
      · have h := it_f c_10 h
        obtain ⟨x_11, ex_11, h⟩ := bnd_some h
        refine x_iinc (k := 3) (lv' := [(4, vi x_11), (0, .ref (Θ.2.2.1 41)), (1, vi y1), (3, vi y3), (5, vi y5)]) hx hb (kX6_milesIn (i := 41) rfl) hl rfl ex_11 (by decide) rfl (fun ls hl => ?_)
        refine lv_goto (tgt := 41) hx hb (kX6_milesIn (i := 42) rfl) (by decide) ?_
        exact ih y1 y3 x_11 y5 H locs ls h hK77 hM (lv_sub hl [1, 2, 3, 0, 4] rfl)
set_option maxRecDepth 100000 in
set_option maxHeartbeats 4000000 in
theorem wX6_milesIn_L32 {p : Program} {l : Launch} {e : Env} {s : State} {m : MethodId} {args : Array Value} {below : List Frame} {meth : Method} {c : Code} {Θ : Th} {h0 : Mem} {g : Mem} {rv : Int} (C : Cx p s m args meth c cX6_milesIn 6 RX6 (some .int) Θ) : ∀ (n : Nat) (y1 : Int) (y3 : Int) (y4 : Int) (y5 : Int) (H : Heap) (locs : List Loc) (ls : Array Slot), fX6_milesIn_L32 n y1 y3 y4 y5 g = some rv → Hd Θ s g h0 H locs → lv_has ls 6 [(0, .ref (Θ.2.2.1 41)), (1, vi y1), (3, vi y3), (4, vi y4), (5, vi y5)] → W p l e { frames := 2, cells := 0, slots := 0, locals := 45 } s m args below meth c H locs 0 0 (MQ below (Qx Θ s.heap.size g h0 (some (vi rv))) args s 0 0 (AA Θ s.heap.size)) (F0 m 32 ls []) := by
  intro n
  obtain ⟨hx, hb, hml, hown, hts, -⟩ := id C
  induction n with
  | zero => intro y1 y3 y4 y5 H locs ls h; cases h
  | succ n ih =>
    intro y1 y3 y4 y5 H locs ls h  hM hl
    rw [fX6_milesIn_L32] at h
    refine x_iload hx hb (kX6_milesIn (i := 19) rfl) (lv_at hl 4 rfl) ?_
    refine x_iload_n hx hb (kX6_milesIn (i := 20) rfl) rfl (lv_at hl 1 rfl) ?_
    refine x_icmp_gt (a' := wr y5) (b' := wr y1) hx hb rfl rfl (tgt := 92) (kX6_milesIn (i := 21) rfl) (by decide) (fun c_5 => ?_) (fun c_5 => ?_)
    · have h := it_t c_5 h
      refine x_iload hx hb (kX6_milesIn (i := 51) rfl) (lv_at hl 3 rfl) ?_
      rw [← Option.some.inj h]
      exact x_iret C hM (nar_i _) (kX6_milesIn (i := 52) rfl)
    · have h := it_f c_5 h
      refine x_iconst hx hb (kX6_milesIn (i := 22) rfl) ?_
      refine x_istore (lv' := [(4, vi 0), (0, .ref (Θ.2.2.1 41)), (1, vi y1), (3, vi y3), (5, vi y5)]) hx hb (kX6_milesIn (i := 23) rfl) hl (by decide) rfl (fun ls hl => ?_)
      refine wX6_milesIn_L41  C fuel y1 y3 0 y5 H locs ls h ?_ hM (lv_sub hl [1, 2, 3, 0, 4] rfl)
      · intro z_12 z_13 z_14 z_15 H locs ls h hM hl
        refine x_iconst hx hb (kX6_milesIn (i := 43) rfl) ?_
        refine x_iload_n hx hb (kX6_milesIn (i := 44) rfl) rfl (lv_at hl 2 rfl) ?_
        refine x_iload hx hb (kX6_milesIn (i := 45) rfl) (lv_at hl 3 rfl) ?_
        refine x_isub hx hb (kX6_milesIn (i := 46) rfl) ?_
        refine x_mmax C hl.1 (Nat.le_of_ble_eq_true rfl) (Nat.le_of_ble_eq_true rfl) q_mX6_43 (kX6_milesIn (i := 47) rfl) ?_
        obtain ⟨x_17, ex_17, h⟩ := bnd_some h
        refine x_top ex_17 ?_
        refine x_istore_n (lv' := [(3, vi x_17), (0, .ref (Θ.2.2.1 41)), (1, vi z_12), (4, vi z_14), (5, vi z_15)]) hx hb (kX6_milesIn (i := 48) rfl) rfl hl (by decide) rfl (fun ls hl => ?_)
        obtain ⟨x_18, ex_18, h⟩ := bnd_some h
        refine x_iinc (k := 4) (lv' := [(5, vi x_18), (3, vi x_17), (0, .ref (Θ.2.2.1 41)), (1, vi z_12), (4, vi z_14)]) hx hb (kX6_milesIn (i := 49) rfl) hl rfl ex_18 (by decide) rfl (fun ls hl => ?_)
        refine lv_goto (tgt := 32) hx hb (kX6_milesIn (i := 50) rfl) (by decide) ?_
        exact ih z_12 x_17 z_14 x_18 H locs ls h hM (lv_sub hl [2, 3, 1, 4, 0] rfl)
set_option maxRecDepth 100000 in
set_option maxHeartbeats 4000000 in
theorem tX6_milesIn (l : Launch) (Θ : Th) (a0 : Int) (a1 : Int) (h0 g : Mem) (rv : Int) (h : fX6_milesIn a0 a1 g = some rv) : Ct l yX6_milesIn cX6_milesIn 6 (some .int) 2 45 Θ [.ref (Θ.2.2.1 41), vi a0, vi a1] g h0 g h0 (some (vi rv)) := by
  refine x_start (by decide) (Nat.le_of_ble_eq_true rfl) ?_
  intro p e s m args below meth c ls C hM hl
  have hl : lv_has ls 6 [(0, .ref (Θ.2.2.1 41)), (1, vi a0), (2, vi a1)] := hl
  obtain ⟨hx, hb, hml, hown, hts, -⟩ := id C
  unfold fX6_milesIn at h
  have key : ∀ (H : Heap) (locs : List Loc), Hd Θ s g h0 H locs → W p l e { frames := 2, cells := 0, slots := 0, locals := 45 } s m args below meth c H locs 0 0 (MQ below (Qx Θ s.heap.size g h0 (some (vi rv))) args s 0 0 (AA Θ s.heap.size)) (F0 m 0 ls []) := by
    intro H locs hM
    refine x_iload_n hx hb (kX6_milesIn (i := 0) rfl) rfl (lv_at hl 1 rfl) ?_
    refine x_if_lt (a' := wr a0) hx hb rfl (tgt := 22) (kX6_milesIn (i := 1) rfl) (by decide) (fun c_1 => ?_) (fun c_1 => ?_)
    · have h := it_t c_1 h
      refine x_iconst hx hb (kX6_milesIn (i := 11) rfl) ?_
      rw [← Option.some.inj h]
      exact x_iret C hM (nar_i _) (kX6_milesIn (i := 12) rfl)
    · have h := it_f c_1 h
      refine x_iload_n hx hb (kX6_milesIn (i := 2) rfl) rfl (lv_at hl 1 rfl) ?_
      refine lv_aload_n hx hb (kX6_milesIn (i := 3) rfl) rfl (lv_at hl 0 rfl) ?_
      refine gX6_hours C hM q_fX6_18 (kX6_milesIn (i := 4) rfl) ?_
      refine x_icmp_ge (a' := wr a0) (b' := wr (g 41 2)) hx hb rfl rfl (tgt := 22) (kX6_milesIn (i := 5) rfl) (by decide) (fun c_2 => ?_) (fun c_2 => ?_)
      · have h := it_t c_2 h
        refine x_iconst hx hb (kX6_milesIn (i := 11) rfl) ?_
        rw [← Option.some.inj h]
        exact x_iret C hM (nar_i _) (kX6_milesIn (i := 12) rfl)
      · have h := it_f c_2 h
        refine x_iload_n hx hb (kX6_milesIn (i := 6) rfl) rfl (lv_at hl 2 rfl) ?_
        refine x_if_lt (a' := wr a1) hx hb rfl (tgt := 22) (kX6_milesIn (i := 7) rfl) (by decide) (fun c_3 => ?_) (fun c_3 => ?_)
        · have h := it_t c_3 h
          refine x_iconst hx hb (kX6_milesIn (i := 11) rfl) ?_
          rw [← Option.some.inj h]
          exact x_iret C hM (nar_i _) (kX6_milesIn (i := 12) rfl)
        · have h := it_f c_3 h
          refine x_iload_n hx hb (kX6_milesIn (i := 8) rfl) rfl (lv_at hl 2 rfl) ?_
          refine x_bipush hx hb (by decide) (kX6_milesIn (i := 9) rfl) ?_
          refine x_icmp_lt (a' := wr a1) (b' := 37) hx hb rfl (by decide) (tgt := 24) (kX6_milesIn (i := 10) rfl) (by decide) (fun c_4 => ?_) (fun c_4 => ?_)
          · have h := it_t c_4 h
            refine x_iload_n hx hb (kX6_milesIn (i := 13) rfl) rfl (lv_at hl 2 rfl) ?_
            refine x_istore_n (lv' := [(3, vi a1), (0, .ref (Θ.2.2.1 41)), (1, vi a0), (2, vi a1)]) hx hb (kX6_milesIn (i := 14) rfl) rfl hl (by decide) rfl (fun ls hl => ?_)
            refine x_iconst hx hb (kX6_milesIn (i := 15) rfl) ?_
            refine x_istore (lv' := [(4, vi 0), (3, vi a1), (0, .ref (Θ.2.2.1 41)), (1, vi a0), (2, vi a1)]) hx hb (kX6_milesIn (i := 16) rfl) hl (by decide) rfl (fun ls hl => ?_)
            refine x_iconst hx hb (kX6_milesIn (i := 17) rfl) ?_
            refine x_istore (lv' := [(5, vi 0), (4, vi 0), (3, vi a1), (0, .ref (Θ.2.2.1 41)), (1, vi a0), (2, vi a1)]) hx hb (kX6_milesIn (i := 18) rfl) hl (by decide) rfl (fun ls hl => ?_)
            refine wX6_milesIn_L32  C fuel a0 a1 0 0 H locs ls h  hM (lv_sub hl [3, 4, 2, 1, 0] rfl)
          · have h := it_f c_4 h
            refine x_iconst hx hb (kX6_milesIn (i := 11) rfl) ?_
            rw [← Option.some.inj h]
            exact x_iret C hM (nar_i _) (kX6_milesIn (i := 12) rfl)
  exact key _ _ hM

/-! X8_addNumber -/
def fX8_addNumber (a0 : Int) (g : Mem) : Option (Int × Mem) :=
  if wr (g 44 1) < 64 then (
    gd (g 44 1) 64 <|
    bnd (up g 45 (wr (g 44 1)).toNat a0) fun g_3 =>
    bnd (up g_3 44 1 ((g_3 44 1) + 1)) fun g_4 =>
    some (g_4 44 1, g_4)
  ) else (
    some ((-1), g)
  )
set_option maxRecDepth 100000 in
set_option maxHeartbeats 4000000 in
theorem tX8_addNumber (l : Launch) (Θ : Th) (a0 : Int) (h0 g : Mem) (rv : Int) (gR : Mem) (h : fX8_addNumber a0 g = some (rv, gR)) : Ct l yX8_addNumber cX8_addNumber 2 (some .int) 0 0 Θ [.ref (Θ.2.2.1 44), vi a0] g h0 gR h0 (some (vi rv)) := by
  refine x_start (by decide) (Nat.le_of_ble_eq_true rfl) ?_
  intro p e s m args below meth c ls C hM hl
  have hl : lv_has ls 2 [(0, .ref (Θ.2.2.1 44)), (1, vi a0)] := hl
  obtain ⟨hx, hb, hml, hown, hts, -⟩ := id C
  unfold fX8_addNumber at h
  have key : ∀ (H : Heap) (locs : List Loc), Hd Θ s g h0 H locs → W p l e { frames := 0, cells := 0, slots := 0, locals := 0 } s m args below meth c H locs 0 0 (MQ below (Qx Θ s.heap.size gR h0 (some (vi rv))) args s 0 0 (AA Θ s.heap.size)) (F0 m 0 ls []) := by
    intro H locs hM
    refine lv_aload_n hx hb (kX8_addNumber (i := 0) rfl) rfl (lv_at hl 0 rfl) ?_
    refine gX8_count C hM q_fX8_15 (kX8_addNumber (i := 1) rfl) ?_
    refine x_bipush hx hb (by decide) (kX8_addNumber (i := 2) rfl) ?_
    refine x_icmp_lt (a' := wr (g 44 1)) (b' := 64) hx hb rfl (by decide) (tgt := 11) (kX8_addNumber (i := 3) rfl) (by decide) (fun c_1 => ?_) (fun c_1 => ?_)
    · have h := it_t c_1 h
      refine lv_aload_n hx hb (kX8_addNumber (i := 6) rfl) rfl (lv_at hl 0 rfl) ?_
      refine gX8_numbers C hM q_fX8_11 (kX8_addNumber (i := 7) rfl) ?_
      refine lv_aload_n hx hb (kX8_addNumber (i := 8) rfl) rfl (lv_at hl 0 rfl) ?_
      refine gX8_count C hM q_fX8_15 (kX8_addNumber (i := 9) rfl) ?_
      refine x_iload_n hx hb (kX8_addNumber (i := 10) rfl) rfl (lv_at hl 1 rfl) ?_
      obtain ⟨hi_2, h⟩ := gd_some h
      obtain ⟨g_3, eg_3, h⟩ := bnd_some h
      refine x_iastX C hM 45 (by decide) (eX_45 Θ) hi_2 eg_3 (kX8_addNumber (i := 11) rfl) (fun H locs hM => ?_)
      refine lv_aload_n hx hb (kX8_addNumber (i := 12) rfl) rfl (lv_at hl 0 rfl) ?_
      refine lv_dup hx hb (kX8_addNumber (i := 13) rfl) rfl ?_
      refine gX8_count C hM q_fX8_15 (kX8_addNumber (i := 14) rfl) ?_
      refine x_iconst hx hb (kX8_addNumber (i := 15) rfl) ?_
      refine x_iadd hx hb (kX8_addNumber (i := 16) rfl) ?_
      obtain ⟨g_4, eg_4, h⟩ := bnd_some h
      refine pX8_count C hM q_fX8_15 eg_4 (kX8_addNumber (i := 17) rfl) (fun H locs hM => ?_)
      refine lv_aload_n hx hb (kX8_addNumber (i := 18) rfl) rfl (lv_at hl 0 rfl) ?_
      refine gX8_count C hM q_fX8_15 (kX8_addNumber (i := 19) rfl) ?_
      obtain ⟨q1, q2⟩ := ret2 h
      rw [q1, q2]
      exact x_iret C hM (nar_i _) (kX8_addNumber (i := 20) rfl)
    · have h := it_f c_1 h
      refine x_iconst hx hb (kX8_addNumber (i := 4) rfl) ?_
      obtain ⟨q1, q2⟩ := ret2 h
      rw [q1, q2]
      exact x_iret C hM (nar_i _) (kX8_addNumber (i := 5) rfl)
  exact key _ _ hM

/-! X8_rises -/
def fX8_rises_L4 : Nat → Int → Int → Mem → Option (Int)
  | 0, _, _, _ => none
  | n + 1, y1, y2, g =>
    if wr (g 44 1) ≤ wr y2 then (
      some y1
    ) else (
      gd y2 64 <|
      jn (fun (p_3 : Int) =>
        bnd (y2 + 1) fun x_4 =>
        fX8_rises_L4 n p_3 x_4 g
      ) fun J35 =>
      if wr (g 45 (wr y2).toNat) < 0 then (
        J35 y1
      ) else (
        gd (y2 - 1) 64 <|
        if 0 ≤ wr (g 45 (wr (y2 - 1)).toNat) then (
          J35 y1
        ) else (
          bnd (y1 + 1) fun x_8 =>
          J35 x_8
        )
      )
    )
def fX8_rises (g : Mem) : Option (Int) :=
  fX8_rises_L4 fuel 0 1 g
set_option maxRecDepth 100000 in
set_option maxHeartbeats 4000000 in
theorem wX8_rises_L4 {p : Program} {l : Launch} {e : Env} {s : State} {m : MethodId} {args : Array Value} {below : List Frame} {meth : Method} {c : Code} {Θ : Th} {h0 : Mem} {g : Mem} {rv : Int} (C : Cx p s m args meth c cX8_rises 3 RX8 (some .int) Θ) : ∀ (n : Nat) (y1 : Int) (y2 : Int) (H : Heap) (locs : List Loc) (ls : Array Slot), fX8_rises_L4 n y1 y2 g = some rv → Hd Θ s g h0 H locs → lv_has ls 3 [(0, .ref (Θ.2.2.1 44)), (1, vi y1), (2, vi y2)] → W p l e { frames := 0, cells := 0, slots := 0, locals := 0 } s m args below meth c H locs 0 0 (MQ below (Qx Θ s.heap.size g h0 (some (vi rv))) args s 0 0 (AA Θ s.heap.size)) (F0 m 4 ls []) := by
  intro n
  obtain ⟨hx, hb, hml, hown, hts, -⟩ := id C
  induction n with
  | zero => intro y1 y2 H locs ls h; cases h
  | succ n ih =>
    intro y1 y2 H locs ls h  hM hl
    rw [fX8_rises_L4] at h
    refine x_iload_n hx hb (kX8_rises (i := 4) rfl) rfl (lv_at hl 2 rfl) ?_
    refine lv_aload_n hx hb (kX8_rises (i := 5) rfl) rfl (lv_at hl 0 rfl) ?_
    refine gX8_count C hM q_fX8_15 (kX8_rises (i := 6) rfl) ?_
    refine x_icmp_ge (a' := wr y2) (b' := wr (g 44 1)) hx hb rfl rfl (tgt := 41) (kX8_rises (i := 7) rfl) (by decide) (fun c_1 => ?_) (fun c_1 => ?_)
    · have h := it_t c_1 h
      refine x_iload_n hx hb (kX8_rises (i := 23) rfl) rfl (lv_at hl 1 rfl) ?_
      rw [← Option.some.inj h]
      exact x_iret C hM (nar_i _) (kX8_rises (i := 24) rfl)
    · have h := it_f c_1 h
      refine lv_aload_n hx hb (kX8_rises (i := 8) rfl) rfl (lv_at hl 0 rfl) ?_
      refine gX8_numbers C hM q_fX8_11 (kX8_rises (i := 9) rfl) ?_
      refine x_iload_n hx hb (kX8_rises (i := 10) rfl) rfl (lv_at hl 2 rfl) ?_
      obtain ⟨hi_2, h⟩ := gd_some h
      refine x_ialdX C hM 45 (by decide) (eX_45 Θ) hi_2 (kX8_rises (i := 11) rfl) ?_
      refine jn_go h (fun J35 : Int → Option (Int) => ∀ (p_3 : Int) (H : Heap) (locs : List Loc) (ls : Array Slot), J35 p_3 = some rv → Hd Θ s g h0 H locs → lv_has ls 3 [(0, .ref (Θ.2.2.1 44)), (1, vi p_3), (2, vi y2)] → W p l e { frames := 0, cells := 0, slots := 0, locals := 0 } s m args below meth c H locs 0 0 (MQ below (Qx Θ s.heap.size g h0 (some (vi rv))) args s 0 0 (AA Θ s.heap.size)) (F0 m 35 ls [])) ?_ ?_
      · intro p_3 H locs ls h hM hl
        obtain ⟨x_4, ex_4, h⟩ := bnd_some h
        refine x_iinc (k := 2) (lv' := [(2, vi x_4), (0, .ref (Θ.2.2.1 44)), (1, vi p_3)]) hx hb (kX8_rises (i := 21) rfl) hl rfl ex_4 (by decide) rfl (fun ls hl => ?_)
        refine lv_goto (tgt := 4) hx hb (kX8_rises (i := 22) rfl) (by decide) ?_
        exact ih p_3 x_4 H locs ls h hM (lv_sub hl [1, 2, 0] rfl)
      intro J35 hJ35 h
      refine x_if_lt (a' := wr (g 45 (wr y2).toNat)) hx hb rfl (tgt := 35) (kX8_rises (i := 12) rfl) (by decide) (fun c_5 => ?_) (fun c_5 => ?_)
      · have h := it_t c_5 h
        exact hJ35 y1 H locs ls h hM (lv_sub hl [0, 1, 2] rfl)
      · have h := it_f c_5 h
        refine lv_aload_n hx hb (kX8_rises (i := 13) rfl) rfl (lv_at hl 0 rfl) ?_
        refine gX8_numbers C hM q_fX8_11 (kX8_rises (i := 14) rfl) ?_
        refine x_iload_n hx hb (kX8_rises (i := 15) rfl) rfl (lv_at hl 2 rfl) ?_
        refine x_iconst hx hb (kX8_rises (i := 16) rfl) ?_
        refine x_isub hx hb (kX8_rises (i := 17) rfl) ?_
        obtain ⟨hi_6, h⟩ := gd_some h
        refine x_ialdX C hM 45 (by decide) (eX_45 Θ) hi_6 (kX8_rises (i := 18) rfl) ?_
        refine x_if_ge (a' := wr (g 45 (wr (y2 - 1)).toNat)) hx hb rfl (tgt := 35) (kX8_rises (i := 19) rfl) (by decide) (fun c_7 => ?_) (fun c_7 => ?_)
        · have h := it_t c_7 h
          exact hJ35 y1 H locs ls h hM (lv_sub hl [0, 1, 2] rfl)
        · have h := it_f c_7 h
          obtain ⟨x_8, ex_8, h⟩ := bnd_some h
          refine x_iinc (k := 1) (lv' := [(1, vi x_8), (0, .ref (Θ.2.2.1 44)), (2, vi y2)]) hx hb (kX8_rises (i := 20) rfl) hl rfl ex_8 (by decide) rfl (fun ls hl => ?_)
          exact hJ35 x_8 H locs ls h hM (lv_sub hl [1, 0, 2] rfl)
set_option maxRecDepth 100000 in
set_option maxHeartbeats 4000000 in
theorem tX8_rises (l : Launch) (Θ : Th) (h0 g : Mem) (rv : Int) (h : fX8_rises g = some rv) : Ct l yX8_rises cX8_rises 3 (some .int) 0 0 Θ [.ref (Θ.2.2.1 44)] g h0 g h0 (some (vi rv)) := by
  refine x_start (by decide) (Nat.le_of_ble_eq_true rfl) ?_
  intro p e s m args below meth c ls C hM hl
  have hl : lv_has ls 3 [(0, .ref (Θ.2.2.1 44))] := hl
  obtain ⟨hx, hb, hml, hown, hts, -⟩ := id C
  unfold fX8_rises at h
  have key : ∀ (H : Heap) (locs : List Loc), Hd Θ s g h0 H locs → W p l e { frames := 0, cells := 0, slots := 0, locals := 0 } s m args below meth c H locs 0 0 (MQ below (Qx Θ s.heap.size g h0 (some (vi rv))) args s 0 0 (AA Θ s.heap.size)) (F0 m 0 ls []) := by
    intro H locs hM
    refine x_iconst hx hb (kX8_rises (i := 0) rfl) ?_
    refine x_istore_n (lv' := [(1, vi 0), (0, .ref (Θ.2.2.1 44))]) hx hb (kX8_rises (i := 1) rfl) rfl hl (by decide) rfl (fun ls hl => ?_)
    refine x_iconst hx hb (kX8_rises (i := 2) rfl) ?_
    refine x_istore_n (lv' := [(2, vi 1), (1, vi 0), (0, .ref (Θ.2.2.1 44))]) hx hb (kX8_rises (i := 3) rfl) rfl hl (by decide) rfl (fun ls hl => ?_)
    refine wX8_rises_L4  C fuel 0 1 H locs ls h  hM (lv_sub hl [2, 1, 0] rfl)
  exact key _ _ hM

/-! X8_squares -/
def fX8_squares_L4 : Nat → Int → Int → Mem → Option (Int)
  | 0, _, _, _ => none
  | n + 1, y1, y2, g =>
    if wr (g 44 1) ≤ wr y2 then (
      some y1
    ) else (
      gd y2 64 <|
      gd y2 64 <|
      bnd (y1 + ((g 45 (wr y2).toNat) * (g 45 (wr y2).toNat))) fun x_4 =>
      bnd (y2 + 1) fun x_5 =>
      fX8_squares_L4 n x_4 x_5 g
    )
def fX8_squares (g : Mem) : Option (Int) :=
  fX8_squares_L4 fuel 0 0 g
set_option maxRecDepth 100000 in
set_option maxHeartbeats 4000000 in
theorem wX8_squares_L4 {p : Program} {l : Launch} {e : Env} {s : State} {m : MethodId} {args : Array Value} {below : List Frame} {meth : Method} {c : Code} {Θ : Th} {h0 : Mem} {g : Mem} {rv : Int} (C : Cx p s m args meth c cX8_squares 3 RX8 (some .int) Θ) : ∀ (n : Nat) (y1 : Int) (y2 : Int) (H : Heap) (locs : List Loc) (ls : Array Slot), fX8_squares_L4 n y1 y2 g = some rv → Hd Θ s g h0 H locs → lv_has ls 3 [(0, .ref (Θ.2.2.1 44)), (1, vi y1), (2, vi y2)] → W p l e { frames := 0, cells := 0, slots := 0, locals := 0 } s m args below meth c H locs 0 0 (MQ below (Qx Θ s.heap.size g h0 (some (vi rv))) args s 0 0 (AA Θ s.heap.size)) (F0 m 4 ls []) := by
  intro n
  obtain ⟨hx, hb, hml, hown, hts, -⟩ := id C
  induction n with
  | zero => intro y1 y2 H locs ls h; cases h
  | succ n ih =>
    intro y1 y2 H locs ls h  hM hl
    rw [fX8_squares_L4] at h
    refine x_iload_n hx hb (kX8_squares (i := 4) rfl) rfl (lv_at hl 2 rfl) ?_
    refine lv_aload_n hx hb (kX8_squares (i := 5) rfl) rfl (lv_at hl 0 rfl) ?_
    refine gX8_count C hM q_fX8_15 (kX8_squares (i := 6) rfl) ?_
    refine x_icmp_ge (a' := wr y2) (b' := wr (g 44 1)) hx hb rfl rfl (tgt := 34) (kX8_squares (i := 7) rfl) (by decide) (fun c_1 => ?_) (fun c_1 => ?_)
    · have h := it_t c_1 h
      refine x_iload_n hx hb (kX8_squares (i := 22) rfl) rfl (lv_at hl 1 rfl) ?_
      rw [← Option.some.inj h]
      exact x_iret C hM (nar_i _) (kX8_squares (i := 23) rfl)
    · have h := it_f c_1 h
      refine x_iload_n hx hb (kX8_squares (i := 8) rfl) rfl (lv_at hl 1 rfl) ?_
      refine lv_aload_n hx hb (kX8_squares (i := 9) rfl) rfl (lv_at hl 0 rfl) ?_
      refine gX8_numbers C hM q_fX8_11 (kX8_squares (i := 10) rfl) ?_
      refine x_iload_n hx hb (kX8_squares (i := 11) rfl) rfl (lv_at hl 2 rfl) ?_
      obtain ⟨hi_2, h⟩ := gd_some h
      refine x_ialdX C hM 45 (by decide) (eX_45 Θ) hi_2 (kX8_squares (i := 12) rfl) ?_
      refine lv_aload_n hx hb (kX8_squares (i := 13) rfl) rfl (lv_at hl 0 rfl) ?_
      refine gX8_numbers C hM q_fX8_11 (kX8_squares (i := 14) rfl) ?_
      refine x_iload_n hx hb (kX8_squares (i := 15) rfl) rfl (lv_at hl 2 rfl) ?_
      obtain ⟨hi_3, h⟩ := gd_some h
      refine x_ialdX C hM 45 (by decide) (eX_45 Θ) hi_3 (kX8_squares (i := 16) rfl) ?_
      refine x_imul hx hb (kX8_squares (i := 17) rfl) ?_
      refine x_iadd hx hb (kX8_squares (i := 18) rfl) ?_
      obtain ⟨x_4, ex_4, h⟩ := bnd_some h
      refine x_top ex_4 ?_
      refine x_istore_n (lv' := [(1, vi x_4), (0, .ref (Θ.2.2.1 44)), (2, vi y2)]) hx hb (kX8_squares (i := 19) rfl) rfl hl (by decide) rfl (fun ls hl => ?_)
      obtain ⟨x_5, ex_5, h⟩ := bnd_some h
      refine x_iinc (k := 2) (lv' := [(2, vi x_5), (1, vi x_4), (0, .ref (Θ.2.2.1 44))]) hx hb (kX8_squares (i := 20) rfl) hl rfl ex_5 (by decide) rfl (fun ls hl => ?_)
      refine lv_goto (tgt := 4) hx hb (kX8_squares (i := 21) rfl) (by decide) ?_
      exact ih x_4 x_5 H locs ls h hM (lv_sub hl [2, 1, 0] rfl)
set_option maxRecDepth 100000 in
set_option maxHeartbeats 4000000 in
theorem tX8_squares (l : Launch) (Θ : Th) (h0 g : Mem) (rv : Int) (h : fX8_squares g = some rv) : Ct l yX8_squares cX8_squares 3 (some .int) 0 0 Θ [.ref (Θ.2.2.1 44)] g h0 g h0 (some (vi rv)) := by
  refine x_start (by decide) (Nat.le_of_ble_eq_true rfl) ?_
  intro p e s m args below meth c ls C hM hl
  have hl : lv_has ls 3 [(0, .ref (Θ.2.2.1 44))] := hl
  obtain ⟨hx, hb, hml, hown, hts, -⟩ := id C
  unfold fX8_squares at h
  have key : ∀ (H : Heap) (locs : List Loc), Hd Θ s g h0 H locs → W p l e { frames := 0, cells := 0, slots := 0, locals := 0 } s m args below meth c H locs 0 0 (MQ below (Qx Θ s.heap.size g h0 (some (vi rv))) args s 0 0 (AA Θ s.heap.size)) (F0 m 0 ls []) := by
    intro H locs hM
    refine x_iconst hx hb (kX8_squares (i := 0) rfl) ?_
    refine x_istore_n (lv' := [(1, vi 0), (0, .ref (Θ.2.2.1 44))]) hx hb (kX8_squares (i := 1) rfl) rfl hl (by decide) rfl (fun ls hl => ?_)
    refine x_iconst hx hb (kX8_squares (i := 2) rfl) ?_
    refine x_istore_n (lv' := [(2, vi 0), (1, vi 0), (0, .ref (Θ.2.2.1 44))]) hx hb (kX8_squares (i := 3) rfl) rfl hl (by decide) rfl (fun ls hl => ?_)
    refine wX8_squares_L4  C fuel 0 0 H locs ls h  hM (lv_sub hl [2, 1, 0] rfl)
  exact key _ _ hM

/-! X8_greatest -/
def fX8_greatest_L4 : Nat → Int → Int → Mem → Option (Int)
  | 0, _, _, _ => none
  | n + 1, y1, y2, g =>
    if wr (g 44 1) ≤ wr y2 then (
      some y1
    ) else (
      gd y2 64 <|
      bnd (mMax y1 (mAbs (g 45 (wr y2).toNat))) fun x_3 =>
      bnd (y2 + 1) fun x_4 =>
      fX8_greatest_L4 n x_3 x_4 g
    )
def fX8_greatest (g : Mem) : Option (Int) :=
  fX8_greatest_L4 fuel 0 0 g
set_option maxRecDepth 100000 in
set_option maxHeartbeats 4000000 in
theorem wX8_greatest_L4 {p : Program} {l : Launch} {e : Env} {s : State} {m : MethodId} {args : Array Value} {below : List Frame} {meth : Method} {c : Code} {Θ : Th} {h0 : Mem} {g : Mem} {rv : Int} (C : Cx p s m args meth c cX8_greatest 3 RX8 (some .int) Θ) : ∀ (n : Nat) (y1 : Int) (y2 : Int) (H : Heap) (locs : List Loc) (ls : Array Slot), fX8_greatest_L4 n y1 y2 g = some rv → Hd Θ s g h0 H locs → lv_has ls 3 [(0, .ref (Θ.2.2.1 44)), (1, vi y1), (2, vi y2)] → W p l e { frames := 1, cells := 0, slots := 0, locals := 21 } s m args below meth c H locs 0 0 (MQ below (Qx Θ s.heap.size g h0 (some (vi rv))) args s 0 0 (AA Θ s.heap.size)) (F0 m 4 ls []) := by
  intro n
  obtain ⟨hx, hb, hml, hown, hts, -⟩ := id C
  induction n with
  | zero => intro y1 y2 H locs ls h; cases h
  | succ n ih =>
    intro y1 y2 H locs ls h  hM hl
    rw [fX8_greatest_L4] at h
    refine x_iload_n hx hb (kX8_greatest (i := 4) rfl) rfl (lv_at hl 2 rfl) ?_
    refine lv_aload_n hx hb (kX8_greatest (i := 5) rfl) rfl (lv_at hl 0 rfl) ?_
    refine gX8_count C hM q_fX8_15 (kX8_greatest (i := 6) rfl) ?_
    refine x_icmp_ge (a' := wr y2) (b' := wr (g 44 1)) hx hb rfl rfl (tgt := 32) (kX8_greatest (i := 7) rfl) (by decide) (fun c_1 => ?_) (fun c_1 => ?_)
    · have h := it_t c_1 h
      refine x_iload_n hx hb (kX8_greatest (i := 18) rfl) rfl (lv_at hl 1 rfl) ?_
      rw [← Option.some.inj h]
      exact x_iret C hM (nar_i _) (kX8_greatest (i := 19) rfl)
    · have h := it_f c_1 h
      refine x_iload_n hx hb (kX8_greatest (i := 8) rfl) rfl (lv_at hl 1 rfl) ?_
      refine lv_aload_n hx hb (kX8_greatest (i := 9) rfl) rfl (lv_at hl 0 rfl) ?_
      refine gX8_numbers C hM q_fX8_11 (kX8_greatest (i := 10) rfl) ?_
      refine x_iload_n hx hb (kX8_greatest (i := 11) rfl) rfl (lv_at hl 2 rfl) ?_
      obtain ⟨hi_2, h⟩ := gd_some h
      refine x_ialdX C hM 45 (by decide) (eX_45 Θ) hi_2 (kX8_greatest (i := 12) rfl) ?_
      refine x_mabs C hl.1 (Nat.le_of_ble_eq_true rfl) (Nat.le_of_ble_eq_true rfl) q_mX8_19 (kX8_greatest (i := 13) rfl) ?_
      refine x_mmax C hl.1 (Nat.le_of_ble_eq_true rfl) (Nat.le_of_ble_eq_true rfl) q_mX8_25 (kX8_greatest (i := 14) rfl) ?_
      obtain ⟨x_3, ex_3, h⟩ := bnd_some h
      refine x_top ex_3 ?_
      refine x_istore_n (lv' := [(1, vi x_3), (0, .ref (Θ.2.2.1 44)), (2, vi y2)]) hx hb (kX8_greatest (i := 15) rfl) rfl hl (by decide) rfl (fun ls hl => ?_)
      obtain ⟨x_4, ex_4, h⟩ := bnd_some h
      refine x_iinc (k := 2) (lv' := [(2, vi x_4), (1, vi x_3), (0, .ref (Θ.2.2.1 44))]) hx hb (kX8_greatest (i := 16) rfl) hl rfl ex_4 (by decide) rfl (fun ls hl => ?_)
      refine lv_goto (tgt := 4) hx hb (kX8_greatest (i := 17) rfl) (by decide) ?_
      exact ih x_3 x_4 H locs ls h hM (lv_sub hl [2, 1, 0] rfl)
set_option maxRecDepth 100000 in
set_option maxHeartbeats 4000000 in
theorem tX8_greatest (l : Launch) (Θ : Th) (h0 g : Mem) (rv : Int) (h : fX8_greatest g = some rv) : Ct l yX8_greatest cX8_greatest 3 (some .int) 1 21 Θ [.ref (Θ.2.2.1 44)] g h0 g h0 (some (vi rv)) := by
  refine x_start (by decide) (Nat.le_of_ble_eq_true rfl) ?_
  intro p e s m args below meth c ls C hM hl
  have hl : lv_has ls 3 [(0, .ref (Θ.2.2.1 44))] := hl
  obtain ⟨hx, hb, hml, hown, hts, -⟩ := id C
  unfold fX8_greatest at h
  have key : ∀ (H : Heap) (locs : List Loc), Hd Θ s g h0 H locs → W p l e { frames := 1, cells := 0, slots := 0, locals := 21 } s m args below meth c H locs 0 0 (MQ below (Qx Θ s.heap.size g h0 (some (vi rv))) args s 0 0 (AA Θ s.heap.size)) (F0 m 0 ls []) := by
    intro H locs hM
    refine x_iconst hx hb (kX8_greatest (i := 0) rfl) ?_
    refine x_istore_n (lv' := [(1, vi 0), (0, .ref (Θ.2.2.1 44))]) hx hb (kX8_greatest (i := 1) rfl) rfl hl (by decide) rfl (fun ls hl => ?_)
    refine x_iconst hx hb (kX8_greatest (i := 2) rfl) ?_
    refine x_istore_n (lv' := [(2, vi 0), (1, vi 0), (0, .ref (Θ.2.2.1 44))]) hx hb (kX8_greatest (i := 3) rfl) rfl hl (by decide) rfl (fun ls hl => ?_)
    refine wX8_greatest_L4  C fuel 0 0 H locs ls h  hM (lv_sub hl [2, 1, 0] rfl)
  exact key _ _ hM

/-! X10_sineOf -/
def fX10_sineOf (a0 : Int) (a1 : Int) (a2 : Int) (g : Mem) : Option (Int) :=
  if 1 ≤ wr a0 then (
    gc (¬ wr a0 = 0) <|
    gd (iAnd ((Int.tdiv (wr (a2 * 16)) (wr a0)) + a1) 15) 16 <|
    some (sineF (wr (iAnd ((Int.tdiv (wr (a2 * 16)) (wr a0)) + a1) 15)).toNat)
  ) else (
    some 0
  )
set_option maxRecDepth 100000 in
set_option maxHeartbeats 4000000 in
theorem tX10_sineOf (l : Launch) (Θ : Th) (a0 : Int) (a1 : Int) (a2 : Int) (h0 g : Mem) (rv : Int) (h : fX10_sineOf a0 a1 a2 g = some rv) : Ct l yX10_sineOf cX10_sineOf 3 (some .int) 0 0 Θ [vi a0, vi a1, vi a2] g h0 g h0 (some (vi rv)) := by
  refine x_start (by decide) (Nat.le_of_ble_eq_true rfl) ?_
  intro p e s m args below meth c ls C hM hl
  have hl : lv_has ls 3 [(0, vi a0), (1, vi a1), (2, vi a2)] := hl
  obtain ⟨hx, hb, hml, hown, hts, -⟩ := id C
  unfold fX10_sineOf at h
  have key : ∀ (H : Heap) (locs : List Loc), Hd Θ s g h0 H locs → W p l e { frames := 0, cells := 0, slots := 0, locals := 0 } s m args below meth c H locs 0 0 (MQ below (Qx Θ s.heap.size g h0 (some (vi rv))) args s 0 0 (AA Θ s.heap.size)) (F0 m 0 ls []) := by
    intro H locs hM
    refine x_iload_n hx hb (kX10_sineOf (i := 0) rfl) rfl (lv_at hl 0 rfl) ?_
    refine x_iconst hx hb (kX10_sineOf (i := 1) rfl) ?_
    refine x_icmp_ge (a' := wr a0) (b' := 1) hx hb rfl (by decide) (tgt := 9) (kX10_sineOf (i := 2) rfl) (by decide) (fun c_1 => ?_) (fun c_1 => ?_)
    · have h := it_t c_1 h
      refine x_sines C hM rfl q_fX10_29 (kX10_sineOf (i := 5) rfl) ?_
      refine x_iload_n hx hb (kX10_sineOf (i := 6) rfl) rfl (lv_at hl 2 rfl) ?_
      refine x_bipush hx hb (by decide) (kX10_sineOf (i := 7) rfl) ?_
      refine x_imul hx hb (kX10_sineOf (i := 8) rfl) ?_
      refine x_iload_n hx hb (kX10_sineOf (i := 9) rfl) rfl (lv_at hl 0 rfl) ?_
      obtain ⟨hz_2, h⟩ := gc_some h
      refine x_idiv (a' := wr (a2 * 16)) (b' := wr a0) hx hb (kX10_sineOf (i := 10) rfl) rfl rfl hz_2 ?_
      refine x_iload_n hx hb (kX10_sineOf (i := 11) rfl) rfl (lv_at hl 1 rfl) ?_
      refine x_iadd hx hb (kX10_sineOf (i := 12) rfl) ?_
      refine x_bipush hx hb (by decide) (kX10_sineOf (i := 13) rfl) ?_
      refine x_iand hx hb (kX10_sineOf (i := 14) rfl) ?_
      obtain ⟨hi_3, h⟩ := gd_some h
      refine x_sineld C hM hi_3 (kX10_sineOf (i := 15) rfl) ?_
      rw [← Option.some.inj h]
      exact x_iret C hM (nar_i _) (kX10_sineOf (i := 16) rfl)
    · have h := it_f c_1 h
      refine x_iconst hx hb (kX10_sineOf (i := 3) rfl) ?_
      refine lv_goto (tgt := 24) hx hb (kX10_sineOf (i := 4) rfl) (by decide) ?_
      rw [← Option.some.inj h]
      exact x_iret C hM (nar_i _) (kX10_sineOf (i := 16) rfl)
  exact key _ _ hM

/-! X10_addWave -/
def fX10_addWave_L14 : Nat → Int → Int → Int → Int → Mem → (Int → Int → Mem → Option (Int × Mem)) → Option (Int × Mem)
  | 0, _, _, _, _, _, _ => none
  | n + 1, y1, y2, y3, y4, g, K51 =>
    if 600 ≤ wr y4 then (
      K51 y2 y3 g
    ) else (
      gd y4 600 <|
      bd (fX10_sineOf y2 y3 y4 g) fun r_4 =>
      gd y4 600 <|
      bnd (up g 23 (wr y4).toNat ((g 23 (wr y4).toNat) + (Int.tdiv (wr (y1 * r_4)) (1000)))) fun g_7 =>
      bnd (y4 + 1) fun x_8 =>
      fX10_addWave_L14 n y1 y2 y3 x_8 g_7 K51
    )
def fX10_addWave (a0 : Int) (a1 : Int) (a2 : Int) (g : Mem) : Option (Int × Mem) :=
  if wr (g 20 3) < 8 then (
    fX10_addWave_L14 fuel a0 a1 a2 0 g
    (fun (z_9 : Int) (z_10 : Int) (g_11 : Mem) =>
      gd (g_11 20 3) 8 <|
      bnd (up g_11 21 (wr (g_11 20 3)).toNat z_9) fun g_13 =>
      gd (g_13 20 3) 8 <|
      bnd (up g_13 22 (wr (g_13 20 3)).toNat z_10) fun g_15 =>
      bnd (g_15 20 3) fun x_16 =>
      bnd (up g_15 20 3 (x_16 + 1)) fun g_17 =>
      some (x_16, g_17)
    )
  ) else (
    some ((-1), g)
  )
set_option maxRecDepth 100000 in
set_option maxHeartbeats 4000000 in
theorem wX10_addWave_L14 {p : Program} {l : Launch} {e : Env} {s : State} {m : MethodId} {args : Array Value} {below : List Frame} {meth : Method} {c : Code} {Θ : Th} {h0 : Mem} {rv : Int} {gR : Mem} {K51 : Int → Int → Mem → Option (Int × Mem)} (C : Cx p s m args meth c cX10_addWave 5 RX10 (some .int) Θ) : ∀ (n : Nat) (y1 : Int) (y2 : Int) (y3 : Int) (y4 : Int) (g : Mem) (H : Heap) (locs : List Loc) (ls : Array Slot), fX10_addWave_L14 n y1 y2 y3 y4 g K51 = some (rv, gR) → (∀ (z2 : Int) (z3 : Int) (gz : Mem) (H : Heap) (locs : List Loc) (ls : Array Slot), K51 z2 z3 gz = some (rv, gR) → Hd Θ s gz h0 H locs → lv_has ls 5 [(0, .ref (Θ.2.2.1 20)), (2, vi z2), (3, vi z3)] → W p l e { frames := 1, cells := 0, slots := 0, locals := 22 } s m args below meth c H locs 0 0 (MQ below (Qx Θ s.heap.size gR h0 (some (vi rv))) args s 0 0 (AA Θ s.heap.size)) (F0 m 51 ls [])) → Hd Θ s g h0 H locs → lv_has ls 5 [(0, .ref (Θ.2.2.1 20)), (1, vi y1), (2, vi y2), (3, vi y3), (4, vi y4)] → W p l e { frames := 1, cells := 0, slots := 0, locals := 22 } s m args below meth c H locs 0 0 (MQ below (Qx Θ s.heap.size gR h0 (some (vi rv))) args s 0 0 (AA Θ s.heap.size)) (F0 m 14 ls []) := by
  intro n
  obtain ⟨hx, hb, hml, hown, hts, -⟩ := id C
  induction n with
  | zero => intro y1 y2 y3 y4 g H locs ls h; cases h
  | succ n ih =>
    intro y1 y2 y3 y4 g H locs ls h hK51 hM hl
    rw [fX10_addWave_L14] at h
    refine x_iload hx hb (kX10_addWave (i := 8) rfl) (lv_at hl 4 rfl) ?_
    refine x_sipush hx hb (by decide) (kX10_addWave (i := 9) rfl) ?_
    refine x_icmp_ge (a' := wr y4) (b' := 600) hx hb rfl (by decide) (tgt := 51) (kX10_addWave (i := 10) rfl) (by decide) (fun c_2 => ?_) (fun c_2 => ?_)
    · have h := it_t c_2 h
      exact hK51 y2 y3 g H locs ls h hM (lv_sub hl [0, 2, 3] rfl)
    · have h := it_f c_2 h
      refine lv_aload_n hx hb (kX10_addWave (i := 11) rfl) rfl (lv_at hl 0 rfl) ?_
      refine gX10_pushes C hM q_fX10_18 (kX10_addWave (i := 12) rfl) ?_
      refine x_iload hx hb (kX10_addWave (i := 13) rfl) (lv_at hl 4 rfl) ?_
      refine lv_dup2_11 hx hb (kX10_addWave (i := 14) rfl) rfl rfl ?_
      obtain ⟨hi_3, h⟩ := gd_some h
      refine x_ialdX C hM 23 (by decide) (eX_23 Θ) hi_3 (kX10_addWave (i := 15) rfl) ?_
      refine x_iload_n hx hb (kX10_addWave (i := 16) rfl) rfl (lv_at hl 1 rfl) ?_
      refine x_iload_n hx hb (kX10_addWave (i := 17) rfl) rfl (lv_at hl 2 rfl) ?_
      refine x_iload_n hx hb (kX10_addWave (i := 18) rfl) rfl (lv_at hl 3 rfl) ?_
      refine x_iload hx hb (kX10_addWave (i := 19) rfl) (lv_at hl 4 rfl) ?_
      obtain ⟨r_4, hc_5, h⟩ := bd_some h
      refine x_callS (n := 3) (As := [vi y2, vi y3, vi y4]) (rest := [vi y1, vi (g 23 (wr y4).toNat), vi y4, .ref (Θ.2.2.1 23)]) C hM (tX10_sineOf l Θ y2 y3 y4 h0 g r_4 hc_5) q_c_X10_sineOf q_mX10_25 q_s_X10_sineOf q_n_X10 (by decide +kernel) ⟨by decide, by decide⟩ rfl hl.1 rfl (Nat.le_of_ble_eq_true rfl) (kX10_addWave (i := 20) rfl) (fun H locs hM => ?_)
      refine x_imul hx hb (kX10_addWave (i := 21) rfl) ?_
      refine x_sipush hx hb (by decide) (kX10_addWave (i := 22) rfl) ?_
      refine x_idiv (a' := wr (y1 * r_4)) (b' := 1000) hx hb (kX10_addWave (i := 23) rfl) rfl (by decide) (by decide) ?_
      refine x_iadd hx hb (kX10_addWave (i := 24) rfl) ?_
      obtain ⟨hi_6, h⟩ := gd_some h
      obtain ⟨g_7, eg_7, h⟩ := bnd_some h
      refine x_iastX C hM 23 (by decide) (eX_23 Θ) hi_6 eg_7 (kX10_addWave (i := 25) rfl) (fun H locs hM => ?_)
      obtain ⟨x_8, ex_8, h⟩ := bnd_some h
      refine x_iinc (k := 4) (lv' := [(4, vi x_8), (0, .ref (Θ.2.2.1 20)), (1, vi y1), (2, vi y2), (3, vi y3)]) hx hb (kX10_addWave (i := 26) rfl) hl rfl ex_8 (by decide) rfl (fun ls hl => ?_)
      refine lv_goto (tgt := 14) hx hb (kX10_addWave (i := 27) rfl) (by decide) ?_
      exact ih y1 y2 y3 x_8 g_7 H locs ls h hK51 hM (lv_sub hl [1, 2, 3, 4, 0] rfl)
set_option maxRecDepth 100000 in
set_option maxHeartbeats 4000000 in
theorem tX10_addWave (l : Launch) (Θ : Th) (a0 : Int) (a1 : Int) (a2 : Int) (h0 g : Mem) (rv : Int) (gR : Mem) (h : fX10_addWave a0 a1 a2 g = some (rv, gR)) : Ct l yX10_addWave cX10_addWave 5 (some .int) 1 22 Θ [.ref (Θ.2.2.1 20), vi a0, vi a1, vi a2] g h0 gR h0 (some (vi rv)) := by
  refine x_start (by decide) (Nat.le_of_ble_eq_true rfl) ?_
  intro p e s m args below meth c ls C hM hl
  have hl : lv_has ls 5 [(0, .ref (Θ.2.2.1 20)), (1, vi a0), (2, vi a1), (3, vi a2)] := hl
  obtain ⟨hx, hb, hml, hown, hts, -⟩ := id C
  unfold fX10_addWave at h
  have key : ∀ (H : Heap) (locs : List Loc), Hd Θ s g h0 H locs → W p l e { frames := 1, cells := 0, slots := 0, locals := 22 } s m args below meth c H locs 0 0 (MQ below (Qx Θ s.heap.size gR h0 (some (vi rv))) args s 0 0 (AA Θ s.heap.size)) (F0 m 0 ls []) := by
    intro H locs hM
    refine lv_aload_n hx hb (kX10_addWave (i := 0) rfl) rfl (lv_at hl 0 rfl) ?_
    refine gX10_count C hM q_fX10_21 (kX10_addWave (i := 1) rfl) ?_
    refine x_bipush hx hb (by decide) (kX10_addWave (i := 2) rfl) ?_
    refine x_icmp_lt (a' := wr (g 20 3)) (b' := 8) hx hb rfl (by decide) (tgt := 11) (kX10_addWave (i := 3) rfl) (by decide) (fun c_1 => ?_) (fun c_1 => ?_)
    · have h := it_t c_1 h
      refine x_iconst hx hb (kX10_addWave (i := 6) rfl) ?_
      refine x_istore (lv' := [(4, vi 0), (0, .ref (Θ.2.2.1 20)), (1, vi a0), (2, vi a1), (3, vi a2)]) hx hb (kX10_addWave (i := 7) rfl) hl (by decide) rfl (fun ls hl => ?_)
      refine wX10_addWave_L14  C fuel a0 a1 a2 0 g H locs ls h ?_ hM (lv_sub hl [1, 2, 3, 4, 0] rfl)
      · intro z_9 z_10 g_11 H locs ls h hM hl
        refine lv_aload_n hx hb (kX10_addWave (i := 28) rfl) rfl (lv_at hl 0 rfl) ?_
        refine gX10_periods C hM q_fX10_11 (kX10_addWave (i := 29) rfl) ?_
        refine lv_aload_n hx hb (kX10_addWave (i := 30) rfl) rfl (lv_at hl 0 rfl) ?_
        refine gX10_count C hM q_fX10_21 (kX10_addWave (i := 31) rfl) ?_
        refine x_iload_n hx hb (kX10_addWave (i := 32) rfl) rfl (lv_at hl 1 rfl) ?_
        obtain ⟨hi_12, h⟩ := gd_some h
        obtain ⟨g_13, eg_13, h⟩ := bnd_some h
        refine x_iastX C hM 21 (by decide) (eX_21 Θ) hi_12 eg_13 (kX10_addWave (i := 33) rfl) (fun H locs hM => ?_)
        refine lv_aload_n hx hb (kX10_addWave (i := 34) rfl) rfl (lv_at hl 0 rfl) ?_
        refine gX10_phases C hM q_fX10_15 (kX10_addWave (i := 35) rfl) ?_
        refine lv_aload_n hx hb (kX10_addWave (i := 36) rfl) rfl (lv_at hl 0 rfl) ?_
        refine gX10_count C hM q_fX10_21 (kX10_addWave (i := 37) rfl) ?_
        refine x_iload_n hx hb (kX10_addWave (i := 38) rfl) rfl (lv_at hl 2 rfl) ?_
        obtain ⟨hi_14, h⟩ := gd_some h
        obtain ⟨g_15, eg_15, h⟩ := bnd_some h
        refine x_iastX C hM 22 (by decide) (eX_22 Θ) hi_14 eg_15 (kX10_addWave (i := 39) rfl) (fun H locs hM => ?_)
        refine lv_aload_n hx hb (kX10_addWave (i := 40) rfl) rfl (lv_at hl 0 rfl) ?_
        refine lv_dup hx hb (kX10_addWave (i := 41) rfl) rfl ?_
        refine gX10_count C hM q_fX10_21 (kX10_addWave (i := 42) rfl) ?_
        obtain ⟨x_16, ex_16, h⟩ := bnd_some h
        refine x_top ex_16 ?_
        refine lv_dup_x1 hx hb (kX10_addWave (i := 43) rfl) rfl rfl ?_
        refine x_iconst hx hb (kX10_addWave (i := 44) rfl) ?_
        refine x_iadd hx hb (kX10_addWave (i := 45) rfl) ?_
        obtain ⟨g_17, eg_17, h⟩ := bnd_some h
        refine pX10_count C hM q_fX10_21 eg_17 (kX10_addWave (i := 46) rfl) (fun H locs hM => ?_)
        obtain ⟨q1, q2⟩ := ret2 h
        rw [q1, q2]
        exact x_iret C hM (nar_i _) (kX10_addWave (i := 47) rfl)
    · have h := it_f c_1 h
      refine x_iconst hx hb (kX10_addWave (i := 4) rfl) ?_
      obtain ⟨q1, q2⟩ := ret2 h
      rw [q1, q2]
      exact x_iret C hM (nar_i _) (kX10_addWave (i := 5) rfl)
  exact key _ _ hM

/-! X10_pushIn -/
def fX10_pushIn (a0 : Int) (g : Mem) : Option (Int) :=
  if wr a0 < 0 then (
    some 0
  ) else (
    if wr a0 < 600 then (
      gd a0 600 <|
      some (g 23 (wr a0).toNat)
    ) else (
      some 0
    )
  )
set_option maxRecDepth 100000 in
set_option maxHeartbeats 4000000 in
theorem tX10_pushIn (l : Launch) (Θ : Th) (a0 : Int) (h0 g : Mem) (rv : Int) (h : fX10_pushIn a0 g = some rv) : Ct l yX10_pushIn cX10_pushIn 2 (some .int) 0 0 Θ [.ref (Θ.2.2.1 20), vi a0] g h0 g h0 (some (vi rv)) := by
  refine x_start (by decide) (Nat.le_of_ble_eq_true rfl) ?_
  intro p e s m args below meth c ls C hM hl
  have hl : lv_has ls 2 [(0, .ref (Θ.2.2.1 20)), (1, vi a0)] := hl
  obtain ⟨hx, hb, hml, hown, hts, -⟩ := id C
  unfold fX10_pushIn at h
  have key : ∀ (H : Heap) (locs : List Loc), Hd Θ s g h0 H locs → W p l e { frames := 0, cells := 0, slots := 0, locals := 0 } s m args below meth c H locs 0 0 (MQ below (Qx Θ s.heap.size g h0 (some (vi rv))) args s 0 0 (AA Θ s.heap.size)) (F0 m 0 ls []) := by
    intro H locs hM
    refine x_iload_n hx hb (kX10_pushIn (i := 0) rfl) rfl (lv_at hl 1 rfl) ?_
    refine x_if_lt (a' := wr a0) hx hb rfl (tgt := 11) (kX10_pushIn (i := 1) rfl) (by decide) (fun c_1 => ?_) (fun c_1 => ?_)
    · have h := it_t c_1 h
      refine x_iconst hx hb (kX10_pushIn (i := 5) rfl) ?_
      refine lv_goto (tgt := 21) hx hb (kX10_pushIn (i := 6) rfl) (by decide) ?_
      rw [← Option.some.inj h]
      exact x_iret C hM (nar_i _) (kX10_pushIn (i := 11) rfl)
    · have h := it_f c_1 h
      refine x_iload_n hx hb (kX10_pushIn (i := 2) rfl) rfl (lv_at hl 1 rfl) ?_
      refine x_sipush hx hb (by decide) (kX10_pushIn (i := 3) rfl) ?_
      refine x_icmp_lt (a' := wr a0) (b' := 600) hx hb rfl (by decide) (tgt := 15) (kX10_pushIn (i := 4) rfl) (by decide) (fun c_2 => ?_) (fun c_2 => ?_)
      · have h := it_t c_2 h
        refine lv_aload_n hx hb (kX10_pushIn (i := 7) rfl) rfl (lv_at hl 0 rfl) ?_
        refine gX10_pushes C hM q_fX10_18 (kX10_pushIn (i := 8) rfl) ?_
        refine x_iload_n hx hb (kX10_pushIn (i := 9) rfl) rfl (lv_at hl 1 rfl) ?_
        obtain ⟨hi_3, h⟩ := gd_some h
        refine x_ialdX C hM 23 (by decide) (eX_23 Θ) hi_3 (kX10_pushIn (i := 10) rfl) ?_
        rw [← Option.some.inj h]
        exact x_iret C hM (nar_i _) (kX10_pushIn (i := 11) rfl)
      · have h := it_f c_2 h
        refine x_iconst hx hb (kX10_pushIn (i := 5) rfl) ?_
        refine lv_goto (tgt := 21) hx hb (kX10_pushIn (i := 6) rfl) (by decide) ?_
        rw [← Option.some.inj h]
        exact x_iret C hM (nar_i _) (kX10_pushIn (i := 11) rfl)
  exact key _ _ hM

/-! X10_along -/
def fX10_along_L19 : Nat → Int → Int → Int → Mem → Option (Int)
  | 0, _, _, _, _ => none
  | n + 1, y1, y3, y4, g =>
    if wr (g 44 1) ≤ wr y4 then (
      some y3
    ) else (
      gd y4 64 <|
      gd y1 8 <|
      gd y1 8 <|
      bd (fX10_sineOf (g 21 (wr y1).toNat) (g 22 (wr y1).toNat) y4 g) fun r_7 =>
      bnd (y3 + ((g 45 (wr y4).toNat) * r_7)) fun x_9 =>
      bnd (y4 + 1) fun x_10 =>
      fX10_along_L19 n y1 x_9 x_10 g
    )
def fX10_along (a0 : Int) (g : Mem) : Option (Int) :=
  if wr a0 < 0 then (
    some 0
  ) else (
    if wr a0 < wr (g 20 3) then (
      fX10_along_L19 fuel a0 0 0 g
    ) else (
      some 0
    )
  )
set_option maxRecDepth 100000 in
set_option maxHeartbeats 4000000 in
theorem wX10_along_L19 {p : Program} {l : Launch} {e : Env} {s : State} {m : MethodId} {args : Array Value} {below : List Frame} {meth : Method} {c : Code} {Θ : Th} {h0 : Mem} {g : Mem} {rv : Int} (C : Cx p s m args meth c cX10_along 5 RX10 (some .int) Θ) : ∀ (n : Nat) (y1 : Int) (y3 : Int) (y4 : Int) (H : Heap) (locs : List Loc) (ls : Array Slot), fX10_along_L19 n y1 y3 y4 g = some rv → Hd Θ s g h0 H locs → lv_has ls 5 [(0, .ref (Θ.2.2.1 20)), (1, vi y1), (2, .ref (Θ.2.2.1 44)), (3, vi y3), (4, vi y4)] → W p l e { frames := 1, cells := 0, slots := 0, locals := 22 } s m args below meth c H locs 0 0 (MQ below (Qx Θ s.heap.size g h0 (some (vi rv))) args s 0 0 (AA Θ s.heap.size)) (F0 m 19 ls []) := by
  intro n
  obtain ⟨hx, hb, hml, hown, hts, -⟩ := id C
  induction n with
  | zero => intro y1 y3 y4 H locs ls h; cases h
  | succ n ih =>
    intro y1 y3 y4 H locs ls h  hM hl
    rw [fX10_along_L19] at h
    refine x_iload hx hb (kX10_along (i := 12) rfl) (lv_at hl 4 rfl) ?_
    refine lv_aload_n hx hb (kX10_along (i := 13) rfl) rfl (lv_at hl 2 rfl) ?_
    refine gX8_count C hM q_fX10_32 (kX10_along (i := 14) rfl) ?_
    refine x_icmp_ge (a' := wr y4) (b' := wr (g 44 1)) hx hb rfl rfl (tgt := 62) (kX10_along (i := 15) rfl) (by decide) (fun c_3 => ?_) (fun c_3 => ?_)
    · have h := it_t c_3 h
      refine x_iload_n hx hb (kX10_along (i := 36) rfl) rfl (lv_at hl 3 rfl) ?_
      rw [← Option.some.inj h]
      exact x_iret C hM (nar_i _) (kX10_along (i := 37) rfl)
    · have h := it_f c_3 h
      refine x_iload_n hx hb (kX10_along (i := 16) rfl) rfl (lv_at hl 3 rfl) ?_
      refine lv_aload_n hx hb (kX10_along (i := 17) rfl) rfl (lv_at hl 2 rfl) ?_
      refine gX8_numbers C hM q_fX10_35 (kX10_along (i := 18) rfl) ?_
      refine x_iload hx hb (kX10_along (i := 19) rfl) (lv_at hl 4 rfl) ?_
      obtain ⟨hi_4, h⟩ := gd_some h
      refine x_ialdX C hM 45 (by decide) (eX_45 Θ) hi_4 (kX10_along (i := 20) rfl) ?_
      refine lv_aload_n hx hb (kX10_along (i := 21) rfl) rfl (lv_at hl 0 rfl) ?_
      refine gX10_periods C hM q_fX10_11 (kX10_along (i := 22) rfl) ?_
      refine x_iload_n hx hb (kX10_along (i := 23) rfl) rfl (lv_at hl 1 rfl) ?_
      obtain ⟨hi_5, h⟩ := gd_some h
      refine x_ialdX C hM 21 (by decide) (eX_21 Θ) hi_5 (kX10_along (i := 24) rfl) ?_
      refine lv_aload_n hx hb (kX10_along (i := 25) rfl) rfl (lv_at hl 0 rfl) ?_
      refine gX10_phases C hM q_fX10_15 (kX10_along (i := 26) rfl) ?_
      refine x_iload_n hx hb (kX10_along (i := 27) rfl) rfl (lv_at hl 1 rfl) ?_
      obtain ⟨hi_6, h⟩ := gd_some h
      refine x_ialdX C hM 22 (by decide) (eX_22 Θ) hi_6 (kX10_along (i := 28) rfl) ?_
      refine x_iload hx hb (kX10_along (i := 29) rfl) (lv_at hl 4 rfl) ?_
      obtain ⟨r_7, hc_8, h⟩ := bd_some h
      refine x_callS (n := 3) (As := [vi (g 21 (wr y1).toNat), vi (g 22 (wr y1).toNat), vi y4]) (rest := [vi (g 45 (wr y4).toNat), vi y3]) C hM (tX10_sineOf l Θ (g 21 (wr y1).toNat) (g 22 (wr y1).toNat) y4 h0 g r_7 hc_8) q_c_X10_sineOf q_mX10_25 q_s_X10_sineOf q_n_X10 (by decide +kernel) ⟨by decide, by decide⟩ rfl hl.1 rfl (Nat.le_of_ble_eq_true rfl) (kX10_along (i := 30) rfl) (fun H locs hM => ?_)
      refine x_imul hx hb (kX10_along (i := 31) rfl) ?_
      refine x_iadd hx hb (kX10_along (i := 32) rfl) ?_
      obtain ⟨x_9, ex_9, h⟩ := bnd_some h
      refine x_top ex_9 ?_
      refine x_istore_n (lv' := [(3, vi x_9), (0, .ref (Θ.2.2.1 20)), (1, vi y1), (2, .ref (Θ.2.2.1 44)), (4, vi y4)]) hx hb (kX10_along (i := 33) rfl) rfl hl (by decide) rfl (fun ls hl => ?_)
      obtain ⟨x_10, ex_10, h⟩ := bnd_some h
      refine x_iinc (k := 4) (lv' := [(4, vi x_10), (3, vi x_9), (0, .ref (Θ.2.2.1 20)), (1, vi y1), (2, .ref (Θ.2.2.1 44))]) hx hb (kX10_along (i := 34) rfl) hl rfl ex_10 (by decide) rfl (fun ls hl => ?_)
      refine lv_goto (tgt := 19) hx hb (kX10_along (i := 35) rfl) (by decide) ?_
      exact ih y1 x_9 x_10 H locs ls h hM (lv_sub hl [2, 3, 4, 1, 0] rfl)
set_option maxRecDepth 100000 in
set_option maxHeartbeats 4000000 in
theorem tX10_along (l : Launch) (Θ : Th) (a0 : Int) (h0 g : Mem) (rv : Int) (h : fX10_along a0 g = some rv) : Ct l yX10_along cX10_along 5 (some .int) 1 22 Θ [.ref (Θ.2.2.1 20), vi a0, .ref (Θ.2.2.1 44)] g h0 g h0 (some (vi rv)) := by
  refine x_start (by decide) (Nat.le_of_ble_eq_true rfl) ?_
  intro p e s m args below meth c ls C hM hl
  have hl : lv_has ls 5 [(0, .ref (Θ.2.2.1 20)), (1, vi a0), (2, .ref (Θ.2.2.1 44))] := hl
  obtain ⟨hx, hb, hml, hown, hts, -⟩ := id C
  unfold fX10_along at h
  have key : ∀ (H : Heap) (locs : List Loc), Hd Θ s g h0 H locs → W p l e { frames := 1, cells := 0, slots := 0, locals := 22 } s m args below meth c H locs 0 0 (MQ below (Qx Θ s.heap.size g h0 (some (vi rv))) args s 0 0 (AA Θ s.heap.size)) (F0 m 0 ls []) := by
    intro H locs hM
    refine x_iload_n hx hb (kX10_along (i := 0) rfl) rfl (lv_at hl 1 rfl) ?_
    refine x_if_lt (a' := wr a0) hx hb rfl (tgt := 12) (kX10_along (i := 1) rfl) (by decide) (fun c_1 => ?_) (fun c_1 => ?_)
    · have h := it_t c_1 h
      refine x_iconst hx hb (kX10_along (i := 6) rfl) ?_
      rw [← Option.some.inj h]
      exact x_iret C hM (nar_i _) (kX10_along (i := 7) rfl)
    · have h := it_f c_1 h
      refine x_iload_n hx hb (kX10_along (i := 2) rfl) rfl (lv_at hl 1 rfl) ?_
      refine lv_aload_n hx hb (kX10_along (i := 3) rfl) rfl (lv_at hl 0 rfl) ?_
      refine gX10_count C hM q_fX10_21 (kX10_along (i := 4) rfl) ?_
      refine x_icmp_lt (a' := wr a0) (b' := wr (g 20 3)) hx hb rfl rfl (tgt := 14) (kX10_along (i := 5) rfl) (by decide) (fun c_2 => ?_) (fun c_2 => ?_)
      · have h := it_t c_2 h
        refine x_iconst hx hb (kX10_along (i := 8) rfl) ?_
        refine x_istore_n (lv' := [(3, vi 0), (0, .ref (Θ.2.2.1 20)), (1, vi a0), (2, .ref (Θ.2.2.1 44))]) hx hb (kX10_along (i := 9) rfl) rfl hl (by decide) rfl (fun ls hl => ?_)
        refine x_iconst hx hb (kX10_along (i := 10) rfl) ?_
        refine x_istore (lv' := [(4, vi 0), (3, vi 0), (0, .ref (Θ.2.2.1 20)), (1, vi a0), (2, .ref (Θ.2.2.1 44))]) hx hb (kX10_along (i := 11) rfl) hl (by decide) rfl (fun ls hl => ?_)
        refine wX10_along_L19  C fuel a0 0 0 H locs ls h  hM (lv_sub hl [2, 3, 4, 1, 0] rfl)
      · have h := it_f c_2 h
        refine x_iconst hx hb (kX10_along (i := 6) rfl) ?_
        rw [← Option.some.inj h]
        exact x_iret C hM (nar_i _) (kX10_along (i := 7) rfl)
  exact key _ _ hM
