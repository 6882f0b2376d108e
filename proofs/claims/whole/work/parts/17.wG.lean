/-! X12_wordAt -/
def fX12_wordAt_L19 : Nat → Int → Int → Int → Int → Int → Mem → (Int → Int → Int → Int → Int → Option (Int)) → Option (Int)
  | 0, _, _, _, _, _, _, _ => none
  | n + 1, y1, y2, y3, y4, y5, g, K41 =>
    gc (0 ≤ wr (y4 + y5) ∧ wr (y4 + y5) < strLen 12) <|
    if wr (strAt 12 (wr (y4 + y5)).toNat) = 32 then (
      K41 y1 y2 y3 y4 y5
    ) else (
      bnd (y5 + 1) fun x_4 =>
      fX12_wordAt_L19 n y1 y2 y3 y4 x_4 g K41
    )
def fX12_wordAt_L59 : Nat → Int → Int → Int → Int → Int → Int → Int → Mem → (Int → Int → Int → Int → Int → Int → Option (Int)) → Option (Int)
  | 0, _, _, _, _, _, _, _, _, _ => none
  | n + 1, y1, y2, y3, y4, y5, y6, y7, g, K107 =>
    if wr y5 ≤ wr y7 then (
      K107 y1 y2 y3 y4 y5 y6
    ) else (
      if wr y6 = 0 then (
        K107 y1 y2 y3 y4 y5 y6
      ) else (
        gc (0 ≤ wr (y4 + y7) ∧ wr (y4 + y7) < strLen 12) <|
        gd (y1 + y7) 300 <|
        jn (fun (v_16 : Int) =>
          bnd (y7 + 1) fun x_17 =>
          fX12_wordAt_L59 n y1 y2 y3 y4 y5 v_16 x_17 g K107
        ) fun J99 =>
        if wr (strAt 12 (wr (y4 + y7)).toNat) = wr (g 35 (wr (y1 + y7)).toNat) then (
          J99 1
        ) else (
          J99 0
        )
      )
    )
def fX12_wordAt_L5 : Nat → Int → Int → Int → Int → Mem → Option (Int)
  | 0, _, _, _, _, _ => none
  | n + 1, y1, y2, y3, y4, g =>
    if wr (strLen 12) ≤ wr y4 then (
      some (-1)
    ) else (
      fX12_wordAt_L19 fuel y1 y2 y3 y4 0 g
      (fun (z_5 : Int) (z_6 : Int) (z_7 : Int) (z_8 : Int) (z_9 : Int) =>
        jn (fun (v_11 : Int) =>
          fX12_wordAt_L59 fuel z_5 z_6 z_7 z_8 z_9 v_11 0 g
          (fun (z_19 : Int) (z_20 : Int) (z_21 : Int) (z_22 : Int) (z_23 : Int) (z_24 : Int) =>
            if wr z_24 = 0 then (
              bnd (z_21 + 1) fun x_27 =>
              bnd (z_22 + (z_23 + 1)) fun x_28 =>
              fX12_wordAt_L5 n z_19 z_20 x_27 x_28 g
            ) else (
              some z_21
            )
          )
        ) fun J54 =>
        if wr z_9 = wr (z_6 - z_5) then (
          J54 1
        ) else (
          J54 0
        )
      )
    )
def fX12_wordAt (a0 : Int) (a1 : Int) (g : Mem) : Option (Int) :=
  fX12_wordAt_L5 fuel a0 a1 0 1 g
set_option maxRecDepth 100000 in
set_option maxHeartbeats 4000000 in
theorem wX12_wordAt_L19 {p : Program} {l : Launch} {e : Env} {s : State} {m : MethodId} {args : Array Value} {below : List Frame} {meth : Method} {c : Code} {Θ : Th} {h0 : Mem} {g : Mem} {rv : Int} {K41 : Int → Int → Int → Int → Int → Option (Int)} (C : Cx p s m args meth c cX12_wordAt 8 RX12 (some .int) Θ) : ∀ (n : Nat) (y1 : Int) (y2 : Int) (y3 : Int) (y4 : Int) (y5 : Int) (H : Heap) (locs : List Loc) (ls : Array Slot), fX12_wordAt_L19 n y1 y2 y3 y4 y5 g K41 = some rv → (∀ (z1 : Int) (z2 : Int) (z3 : Int) (z4 : Int) (z5 : Int) (H : Heap) (locs : List Loc) (ls : Array Slot), K41 z1 z2 z3 z4 z5 = some rv → Hd Θ s h0 g H locs → lv_has ls 8 [(0, .ref (Θ.2.2.2 0)), (1, vi z1), (2, vi z2), (3, vi z3), (4, vi z4), (5, vi z5)] → W p l e { frames := 4, cells := 0, slots := 0, locals := 85 } s m args below meth c H locs 0 0 (MQ below (Qx Θ s.heap.size h0 g (some (vi rv))) args s 0 0 (AA Θ s.heap.size)) (F0 m 41 ls [])) → Hd Θ s h0 g H locs → lv_has ls 8 [(0, .ref (Θ.2.2.2 0)), (1, vi y1), (2, vi y2), (3, vi y3), (4, vi y4), (5, vi y5)] → W p l e { frames := 4, cells := 0, slots := 0, locals := 85 } s m args below meth c H locs 0 0 (MQ below (Qx Θ s.heap.size h0 g (some (vi rv))) args s 0 0 (AA Θ s.heap.size)) (F0 m 19 ls []) := by
  intro n
  obtain ⟨hx, hb, hml, hown, hts, -⟩ := id C
  induction n with
  | zero => intro y1 y2 y3 y4 y5 H locs ls h; cases h
  | succ n ih =>
    intro y1 y2 y3 y4 y5 H locs ls h hK41 hM hl
    rw [fX12_wordAt_L19] at h
    refine x_ldcSw C 12 rfl (kX12_wordAt (i := 10) rfl) ?_
    refine x_iload hx hb (kX12_wordAt (i := 11) rfl) (lv_at hl 4 rfl) ?_
    refine x_iload hx hb (kX12_wordAt (i := 12) rfl) (lv_at hl 5 rfl) ?_
    refine x_iadd hx hb (kX12_wordAt (i := 13) rfl) ?_
    obtain ⟨hi_2, h⟩ := gc_some h
    refine x_charAt C hM hl.1 12 (by decide) ⟨by decide, by decide⟩ (Nat.le_of_ble_eq_true rfl) hi_2 q_mX12_269 (kX12_wordAt (i := 14) rfl) (fun H locs hM => ?_)
    refine x_bipush hx hb (by decide) (kX12_wordAt (i := 15) rfl) ?_
    refine x_icmp_eq (a' := wr (strAt 12 (wr (y4 + y5)).toNat)) (b' := 32) hx hb rfl (by decide) (tgt := 41) (kX12_wordAt (i := 16) rfl) (by decide) (fun c_3 => ?_) (fun c_3 => ?_)
    · have h := it_t c_3 h
      exact hK41 y1 y2 y3 y4 y5 H locs ls h hM (lv_sub hl [0, 1, 2, 3, 4, 5] rfl)
    · have h := it_f c_3 h
      obtain ⟨x_4, ex_4, h⟩ := bnd_some h
      refine x_iinc (k := 5) (lv' := [(5, vi x_4), (0, .ref (Θ.2.2.2 0)), (1, vi y1), (2, vi y2), (3, vi y3), (4, vi y4)]) hx hb (kX12_wordAt (i := 17) rfl) hl rfl ex_4 (by decide) rfl (fun ls hl => ?_)
      refine lv_goto (tgt := 19) hx hb (kX12_wordAt (i := 18) rfl) (by decide) ?_
      exact ih y1 y2 y3 y4 x_4 H locs ls h hK41 hM (lv_sub hl [1, 2, 3, 4, 5, 0] rfl)
set_option maxRecDepth 100000 in
set_option maxHeartbeats 4000000 in
theorem wX12_wordAt_L59 {p : Program} {l : Launch} {e : Env} {s : State} {m : MethodId} {args : Array Value} {below : List Frame} {meth : Method} {c : Code} {Θ : Th} {h0 : Mem} {g : Mem} {rv : Int} {K107 : Int → Int → Int → Int → Int → Int → Option (Int)} (C : Cx p s m args meth c cX12_wordAt 8 RX12 (some .int) Θ) : ∀ (n : Nat) (y1 : Int) (y2 : Int) (y3 : Int) (y4 : Int) (y5 : Int) (y6 : Int) (y7 : Int) (H : Heap) (locs : List Loc) (ls : Array Slot), fX12_wordAt_L59 n y1 y2 y3 y4 y5 y6 y7 g K107 = some rv → (∀ (z1 : Int) (z2 : Int) (z3 : Int) (z4 : Int) (z5 : Int) (z6 : Int) (H : Heap) (locs : List Loc) (ls : Array Slot), K107 z1 z2 z3 z4 z5 z6 = some rv → Hd Θ s h0 g H locs → lv_has ls 8 [(0, .ref (Θ.2.2.2 0)), (1, vi z1), (2, vi z2), (3, vi z3), (4, vi z4), (5, vi z5), (6, vi z6)] → W p l e { frames := 4, cells := 0, slots := 0, locals := 85 } s m args below meth c H locs 0 0 (MQ below (Qx Θ s.heap.size h0 g (some (vi rv))) args s 0 0 (AA Θ s.heap.size)) (F0 m 107 ls [])) → Hd Θ s h0 g H locs → lv_has ls 8 [(0, .ref (Θ.2.2.2 0)), (1, vi y1), (2, vi y2), (3, vi y3), (4, vi y4), (5, vi y5), (6, vi y6), (7, vi y7)] → W p l e { frames := 4, cells := 0, slots := 0, locals := 85 } s m args below meth c H locs 0 0 (MQ below (Qx Θ s.heap.size h0 g (some (vi rv))) args s 0 0 (AA Θ s.heap.size)) (F0 m 59 ls []) := by
  intro n
  obtain ⟨hx, hb, hml, hown, hts, -⟩ := id C
  induction n with
  | zero => intro y1 y2 y3 y4 y5 y6 y7 H locs ls h; cases h
  | succ n ih =>
    intro y1 y2 y3 y4 y5 y6 y7 H locs ls h hK107 hM hl
    rw [fX12_wordAt_L59] at h
    refine x_iload hx hb (kX12_wordAt (i := 30) rfl) (lv_at hl 7 rfl) ?_
    refine x_iload hx hb (kX12_wordAt (i := 31) rfl) (lv_at hl 5 rfl) ?_
    refine x_icmp_ge (a' := wr y7) (b' := wr y5) hx hb rfl rfl (tgt := 107) (kX12_wordAt (i := 32) rfl) (by decide) (fun c_12 => ?_) (fun c_12 => ?_)
    · have h := it_t c_12 h
      exact hK107 y1 y2 y3 y4 y5 y6 H locs ls h hM (lv_sub hl [0, 1, 2, 3, 4, 5, 6] rfl)
    · have h := it_f c_12 h
      refine x_iload hx hb (kX12_wordAt (i := 33) rfl) (lv_at hl 6 rfl) ?_
      refine x_if_eq (a' := wr y6) hx hb rfl (tgt := 107) (kX12_wordAt (i := 34) rfl) (by decide) (fun c_13 => ?_) (fun c_13 => ?_)
      · have h := it_t c_13 h
        exact hK107 y1 y2 y3 y4 y5 y6 H locs ls h hM (lv_sub hl [0, 1, 2, 3, 4, 5, 6] rfl)
      · have h := it_f c_13 h
        refine x_ldcSw C 12 rfl (kX12_wordAt (i := 35) rfl) ?_
        refine x_iload hx hb (kX12_wordAt (i := 36) rfl) (lv_at hl 4 rfl) ?_
        refine x_iload hx hb (kX12_wordAt (i := 37) rfl) (lv_at hl 7 rfl) ?_
        refine x_iadd hx hb (kX12_wordAt (i := 38) rfl) ?_
        obtain ⟨hi_14, h⟩ := gc_some h
        refine x_charAt C hM hl.1 12 (by decide) ⟨by decide, by decide⟩ (Nat.le_of_ble_eq_true rfl) hi_14 q_mX12_269 (kX12_wordAt (i := 39) rfl) (fun H locs hM => ?_)
        refine lv_aload_n hx hb (kX12_wordAt (i := 40) rfl) rfl (lv_at hl 0 rfl) ?_
        refine gX12_text C hM q_fX12_126 (kX12_wordAt (i := 41) rfl) ?_
        refine x_iload_n hx hb (kX12_wordAt (i := 42) rfl) rfl (lv_at hl 1 rfl) ?_
        refine x_iload hx hb (kX12_wordAt (i := 43) rfl) (lv_at hl 7 rfl) ?_
        refine x_iadd hx hb (kX12_wordAt (i := 44) rfl) ?_
        obtain ⟨hi_15, h⟩ := gd_some h
        refine x_baldM C hM 35 (by decide) (eM_35 Θ) hi_15 (kX12_wordAt (i := 45) rfl) ?_
        refine jn_go h (fun J99 : Int → Option (Int) => ∀ (v_16 : Int) (H : Heap) (locs : List Loc) (ls : Array Slot), J99 v_16 = some rv → Hd Θ s h0 g H locs → lv_has ls 8 [(0, .ref (Θ.2.2.2 0)), (1, vi y1), (2, vi y2), (3, vi y3), (4, vi y4), (5, vi y5), (7, vi y7)] → W p l e { frames := 4, cells := 0, slots := 0, locals := 85 } s m args below meth c H locs 0 0 (MQ below (Qx Θ s.heap.size h0 g (some (vi rv))) args s 0 0 (AA Θ s.heap.size)) (F0 m 99 ls [vi v_16])) ?_ ?_
        · intro v_16 H locs ls h hM hl
          refine x_istore (lv' := [(6, vi v_16), (0, .ref (Θ.2.2.2 0)), (1, vi y1), (2, vi y2), (3, vi y3), (4, vi y4), (5, vi y5), (7, vi y7)]) hx hb (kX12_wordAt (i := 50) rfl) hl (by decide) rfl (fun ls hl => ?_)
          obtain ⟨x_17, ex_17, h⟩ := bnd_some h
          refine x_iinc (k := 7) (lv' := [(7, vi x_17), (6, vi v_16), (0, .ref (Θ.2.2.2 0)), (1, vi y1), (2, vi y2), (3, vi y3), (4, vi y4), (5, vi y5)]) hx hb (kX12_wordAt (i := 51) rfl) hl rfl ex_17 (by decide) rfl (fun ls hl => ?_)
          refine lv_goto (tgt := 59) hx hb (kX12_wordAt (i := 52) rfl) (by decide) ?_
          exact ih y1 y2 y3 y4 y5 v_16 x_17 H locs ls h hK107 hM (lv_sub hl [2, 3, 4, 5, 6, 7, 1, 0] rfl)
        intro J99 hJ99 h
        refine x_icmp_ne (a' := wr (strAt 12 (wr (y4 + y7)).toNat)) (b' := wr (g 35 (wr (y1 + y7)).toNat)) hx hb rfl rfl (tgt := 98) (kX12_wordAt (i := 46) rfl) (by decide) (fun c_18 => ?_) (fun c_18 => ?_)
        · have h := it_f c_18 h
          refine x_iconst hx hb (kX12_wordAt (i := 49) rfl) ?_
          exact hJ99 0 H locs ls h hM (lv_sub hl [0, 1, 2, 3, 4, 5, 7] rfl)
        · have h := it_t c_18 h
          refine x_iconst hx hb (kX12_wordAt (i := 47) rfl) ?_
          refine lv_goto (tgt := 99) hx hb (kX12_wordAt (i := 48) rfl) (by decide) ?_
          exact hJ99 1 H locs ls h hM (lv_sub hl [0, 1, 2, 3, 4, 5, 7] rfl)
set_option maxRecDepth 100000 in
set_option maxHeartbeats 4000000 in
theorem wX12_wordAt_L5 {p : Program} {l : Launch} {e : Env} {s : State} {m : MethodId} {args : Array Value} {below : List Frame} {meth : Method} {c : Code} {Θ : Th} {h0 : Mem} {g : Mem} {rv : Int} (C : Cx p s m args meth c cX12_wordAt 8 RX12 (some .int) Θ) : ∀ (n : Nat) (y1 : Int) (y2 : Int) (y3 : Int) (y4 : Int) (H : Heap) (locs : List Loc) (ls : Array Slot), fX12_wordAt_L5 n y1 y2 y3 y4 g = some rv → Hd Θ s h0 g H locs → lv_has ls 8 [(0, .ref (Θ.2.2.2 0)), (1, vi y1), (2, vi y2), (3, vi y3), (4, vi y4)] → W p l e { frames := 4, cells := 0, slots := 0, locals := 85 } s m args below meth c H locs 0 0 (MQ below (Qx Θ s.heap.size h0 g (some (vi rv))) args s 0 0 (AA Θ s.heap.size)) (F0 m 5 ls []) := by
  intro n
  obtain ⟨hx, hb, hml, hown, hts, -⟩ := id C
  induction n with
  | zero => intro y1 y2 y3 y4 H locs ls h; cases h
  | succ n ih =>
    intro y1 y2 y3 y4 H locs ls h  hM hl
    rw [fX12_wordAt_L5] at h
    refine x_iload hx hb (kX12_wordAt (i := 4) rfl) (lv_at hl 4 rfl) ?_
    refine x_ldcSw C 12 rfl (kX12_wordAt (i := 5) rfl) ?_
    refine x_strlen C hM hl.1 12 (by decide) ⟨by decide, by decide⟩ (Nat.le_of_ble_eq_true rfl) q_mX12_265 (kX12_wordAt (i := 6) rfl) (fun H locs hM => ?_)
    refine x_icmp_ge (a' := wr y4) (b' := wr (strLen 12)) hx hb rfl rfl (tgt := 129) (kX12_wordAt (i := 7) rfl) (by decide) (fun c_1 => ?_) (fun c_1 => ?_)
    · have h := it_t c_1 h
      refine x_iconst hx hb (kX12_wordAt (i := 65) rfl) ?_
      rw [← Option.some.inj h]
      exact x_iret C hM (nar_i _) (kX12_wordAt (i := 66) rfl)
    · have h := it_f c_1 h
      refine x_iconst hx hb (kX12_wordAt (i := 8) rfl) ?_
      refine x_istore (lv' := [(5, vi 0), (0, .ref (Θ.2.2.2 0)), (1, vi y1), (2, vi y2), (3, vi y3), (4, vi y4)]) hx hb (kX12_wordAt (i := 9) rfl) hl (by decide) rfl (fun ls hl => ?_)
      refine wX12_wordAt_L19  C fuel y1 y2 y3 y4 0 H locs ls h ?_ hM (lv_sub hl [1, 2, 3, 4, 5, 0] rfl)
      · intro z_5 z_6 z_7 z_8 z_9 H locs ls h hM hl
        refine x_iload hx hb (kX12_wordAt (i := 19) rfl) (lv_at hl 5 rfl) ?_
        refine x_iload_n hx hb (kX12_wordAt (i := 20) rfl) rfl (lv_at hl 2 rfl) ?_
        refine x_iload_n hx hb (kX12_wordAt (i := 21) rfl) rfl (lv_at hl 1 rfl) ?_
        refine x_isub hx hb (kX12_wordAt (i := 22) rfl) ?_
        refine jn_go h (fun J54 : Int → Option (Int) => ∀ (v_11 : Int) (H : Heap) (locs : List Loc) (ls : Array Slot), J54 v_11 = some rv → Hd Θ s h0 g H locs → lv_has ls 8 [(0, .ref (Θ.2.2.2 0)), (1, vi z_5), (2, vi z_6), (3, vi z_7), (4, vi z_8), (5, vi z_9)] → W p l e { frames := 4, cells := 0, slots := 0, locals := 85 } s m args below meth c H locs 0 0 (MQ below (Qx Θ s.heap.size h0 g (some (vi rv))) args s 0 0 (AA Θ s.heap.size)) (F0 m 54 ls [vi v_11])) ?_ ?_
        · intro v_11 H locs ls h hM hl
          refine x_istore (lv' := [(6, vi v_11), (0, .ref (Θ.2.2.2 0)), (1, vi z_5), (2, vi z_6), (3, vi z_7), (4, vi z_8), (5, vi z_9)]) hx hb (kX12_wordAt (i := 27) rfl) hl (by decide) rfl (fun ls hl => ?_)
          refine x_iconst hx hb (kX12_wordAt (i := 28) rfl) ?_
          refine x_istore (lv' := [(7, vi 0), (6, vi v_11), (0, .ref (Θ.2.2.2 0)), (1, vi z_5), (2, vi z_6), (3, vi z_7), (4, vi z_8), (5, vi z_9)]) hx hb (kX12_wordAt (i := 29) rfl) hl (by decide) rfl (fun ls hl => ?_)
          refine wX12_wordAt_L59  C fuel z_5 z_6 z_7 z_8 z_9 v_11 0 H locs ls h ?_ hM (lv_sub hl [2, 3, 4, 5, 6, 7, 1, 0] rfl)
          · intro z_19 z_20 z_21 z_22 z_23 z_24 H locs ls h hM hl
            refine x_iload hx hb (kX12_wordAt (i := 53) rfl) (lv_at hl 6 rfl) ?_
            refine x_if_eq (a' := wr z_24) hx hb rfl (tgt := 114) (kX12_wordAt (i := 54) rfl) (by decide) (fun c_26 => ?_) (fun c_26 => ?_)
            · have h := it_t c_26 h
              obtain ⟨x_27, ex_27, h⟩ := bnd_some h
              refine x_iinc (k := 3) (lv' := [(3, vi x_27), (0, .ref (Θ.2.2.2 0)), (1, vi z_19), (2, vi z_20), (4, vi z_22), (5, vi z_23), (6, vi z_24)]) hx hb (kX12_wordAt (i := 57) rfl) hl rfl ex_27 (by decide) rfl (fun ls hl => ?_)
              refine x_iload hx hb (kX12_wordAt (i := 58) rfl) (lv_at hl 4 rfl) ?_
              refine x_iload hx hb (kX12_wordAt (i := 59) rfl) (lv_at hl 5 rfl) ?_
              refine x_iconst hx hb (kX12_wordAt (i := 60) rfl) ?_
              refine x_iadd hx hb (kX12_wordAt (i := 61) rfl) ?_
              refine x_iadd hx hb (kX12_wordAt (i := 62) rfl) ?_
              obtain ⟨x_28, ex_28, h⟩ := bnd_some h
              refine x_top ex_28 ?_
              refine x_istore (lv' := [(4, vi x_28), (3, vi x_27), (0, .ref (Θ.2.2.2 0)), (1, vi z_19), (2, vi z_20), (5, vi z_23), (6, vi z_24)]) hx hb (kX12_wordAt (i := 63) rfl) hl (by decide) rfl (fun ls hl => ?_)
              refine lv_goto (tgt := 5) hx hb (kX12_wordAt (i := 64) rfl) (by decide) ?_
              exact ih z_19 z_20 x_27 x_28 H locs ls h hM (lv_sub hl [2, 3, 4, 1, 0] rfl)
            · have h := it_f c_26 h
              refine x_iload_n hx hb (kX12_wordAt (i := 55) rfl) rfl (lv_at hl 3 rfl) ?_
              rw [← Option.some.inj h]
              exact x_iret C hM (nar_i _) (kX12_wordAt (i := 56) rfl)
        intro J54 hJ54 h
        refine x_icmp_ne (a' := wr z_9) (b' := wr (z_6 - z_5)) hx hb rfl rfl (tgt := 53) (kX12_wordAt (i := 23) rfl) (by decide) (fun c_29 => ?_) (fun c_29 => ?_)
        · have h := it_f c_29 h
          refine x_iconst hx hb (kX12_wordAt (i := 26) rfl) ?_
          exact hJ54 0 H locs ls h hM (lv_sub hl [0, 1, 2, 3, 4, 5] rfl)
        · have h := it_t c_29 h
          refine x_iconst hx hb (kX12_wordAt (i := 24) rfl) ?_
          refine lv_goto (tgt := 54) hx hb (kX12_wordAt (i := 25) rfl) (by decide) ?_
          exact hJ54 1 H locs ls h hM (lv_sub hl [0, 1, 2, 3, 4, 5] rfl)
set_option maxRecDepth 100000 in
set_option maxHeartbeats 4000000 in
theorem tX12_wordAt (l : Launch) (Θ : Th) (a0 : Int) (a1 : Int) (h0 g : Mem) (rv : Int) (h : fX12_wordAt a0 a1 g = some rv) : Ct l yX12_wordAt cX12_wordAt 8 (some .int) 4 85 Θ [.ref (Θ.2.2.2 0), vi a0, vi a1] h0 g h0 g (some (vi rv)) := by
  refine x_start (by decide) (Nat.le_of_ble_eq_true rfl) ?_
  intro p e s m args below meth c ls C hM hl
  have hl : lv_has ls 8 [(0, .ref (Θ.2.2.2 0)), (1, vi a0), (2, vi a1)] := hl
  obtain ⟨hx, hb, hml, hown, hts, -⟩ := id C
  unfold fX12_wordAt at h
  have key : ∀ (H : Heap) (locs : List Loc), Hd Θ s h0 g H locs → W p l e { frames := 4, cells := 0, slots := 0, locals := 85 } s m args below meth c H locs 0 0 (MQ below (Qx Θ s.heap.size h0 g (some (vi rv))) args s 0 0 (AA Θ s.heap.size)) (F0 m 0 ls []) := by
    intro H locs hM
    refine x_iconst hx hb (kX12_wordAt (i := 0) rfl) ?_
    refine x_istore_n (lv' := [(3, vi 0), (0, .ref (Θ.2.2.2 0)), (1, vi a0), (2, vi a1)]) hx hb (kX12_wordAt (i := 1) rfl) rfl hl (by decide) rfl (fun ls hl => ?_)
    refine x_iconst hx hb (kX12_wordAt (i := 2) rfl) ?_
    refine x_istore (lv' := [(4, vi 1), (3, vi 0), (0, .ref (Θ.2.2.2 0)), (1, vi a0), (2, vi a1)]) hx hb (kX12_wordAt (i := 3) rfl) hl (by decide) rfl (fun ls hl => ?_)
    refine wX12_wordAt_L5  C fuel a0 a1 0 1 H locs ls h  hM (lv_sub hl [2, 3, 4, 1, 0] rfl)
  exact key _ _ hM

/-! X12_next -/
def fX12_next_L0 : Nat → Mem → (Mem → Option (Mem)) → Option (Mem)
  | 0, _, _ => none
  | n + 1, g, K38 =>
    if wr (g 0 48) ≤ wr (g 0 49) then (
      K38 g
    ) else (
      gd (g 0 49) 300 <|
      if wr (g 35 (wr (g 0 49)).toNat) = 32 then (
        bnd (up g 0 49 ((g 0 49) + 1)) fun g_4 =>
        fX12_next_L0 n g_4 K38
      ) else (
        K38 g
      )
    )
def fX12_next_L155 : Nat → Mem → (Mem → Option (Mem)) → Option (Mem)
  | 0, _, _ => none
  | n + 1, g, K234 =>
    if wr (g 0 48) ≤ wr (g 0 49) then (
      K234 g
    ) else (
      gd (g 0 49) 300 <|
      bd (fX12_isDigit (g 35 (wr (g 0 49)).toNat)) fun r_36 =>
      if wr r_36 = 0 then (
        K234 g
      ) else (
        jn (fun (v_39 : Int) =>
          bnd (up g 0 52 v_39) fun g_40 =>
          bnd (up g_40 0 49 ((g_40 0 49) + 1)) fun g_41 =>
          fX12_next_L155 n g_41 K234
        ) fun J218 =>
        if wr (g 0 52) ≤ 1000000 then (
          gd (g 0 49) 300 <|
          J218 (((10 * (g 0 52)) + (g 35 (wr (g 0 49)).toNat)) - 48)
        ) else (
          J218 (g 0 52)
        )
      )
    )
def fX12_next_L85 : Nat → Mem → (Mem → Option (Mem)) → Option (Mem)
  | 0, _, _ => none
  | n + 1, g, K124 =>
    if wr (g 0 48) ≤ wr (g 0 49) then (
      K124 g
    ) else (
      gd (g 0 49) 300 <|
      bd (fX12_isLetter (g 35 (wr (g 0 49)).toNat)) fun r_48 =>
      if wr r_48 = 0 then (
        K124 g
      ) else (
        bnd (up g 0 49 ((g 0 49) + 1)) fun g_51 =>
        fX12_next_L85 n g_51 K124
      )
    )
def fX12_next (g : Mem) : Option (Mem) :=
  fX12_next_L0 fuel g
  (fun (g_5 : Mem) =>
    bnd (up g_5 0 51 (g_5 0 49)) fun g_6 =>
    bnd (up g_6 0 52 0) fun g_7 =>
    bnd (up g_7 0 50 0) fun g_8 =>
    if wr (g_8 0 49) = wr (g_8 0 48) then (
      some g_8
    ) else (
      gd (g_8 0 49) 300 <|
      bnd (g_8 35 (wr (g_8 0 49)).toNat) fun x_11 =>
      bd (fX12_isLetter x_11) fun r_12 =>
      if wr r_12 = 0 then (
        bd (fX12_isDigit x_11) fun r_15 =>
        if wr r_15 = 0 then (
          jn (fun (v_18 : Int) =>
            bnd (up g_8 0 50 v_18) fun g_19 =>
            bnd (up g_19 0 52 x_11) fun g_20 =>
            bnd (up g_20 0 49 ((g_20 0 49) + 1)) fun g_21 =>
            some g_21
          ) fun J320 =>
          jn (fun (_ : Unit) =>
            J320 3
          ) fun J315 =>
          if wr x_11 = 43 then (
            J315 ()
          ) else (
            if wr x_11 = 45 then (
              J315 ()
            ) else (
              if wr x_11 = 42 then (
                J315 ()
              ) else (
                if wr x_11 = 47 then (
                  J315 ()
                ) else (
                  if wr x_11 = 40 then (
                    J315 ()
                  ) else (
                    if wr x_11 = 41 then (
                      J315 ()
                    ) else (
                      if wr x_11 = 91 then (
                        J315 ()
                      ) else (
                        if wr x_11 = 93 then (
                          J315 ()
                        ) else (
                          if wr x_11 = 60 then (
                            J315 ()
                          ) else (
                            if wr x_11 = 62 then (
                              J315 ()
                            ) else (
                              if wr x_11 = 61 then (
                                J315 ()
                              ) else (
                                if wr x_11 = 59 then (
                                  J315 ()
                                ) else (
                                  J320 4
                                )
                              )
                            )
                          )
                        )
                      )
                    )
                  )
                )
              )
            )
          )
        ) else (
          fX12_next_L155 fuel g_8
          (fun (g_44 : Mem) =>
            bnd (up g_44 0 50 1) fun g_45 =>
            some g_45
          )
        )
      ) else (
        fX12_next_L85 fuel g_8
        (fun (g_52 : Mem) =>
          bnd (up g_52 0 50 2) fun g_53 =>
          bd (fX12_wordAt (g_53 0 51) (g_53 0 49) g_53) fun r_54 =>
          bnd (up g_53 0 52 r_54) fun g_56 =>
          some g_56
        )
      )
    )
  )
set_option maxRecDepth 100000 in
set_option maxHeartbeats 4000000 in
theorem wX12_next_L0 {p : Program} {l : Launch} {e : Env} {s : State} {m : MethodId} {args : Array Value} {below : List Frame} {meth : Method} {c : Code} {Θ : Th} {h0 : Mem} {gR : Mem} {K38 : Mem → Option (Mem)} (C : Cx p s m args meth c cX12_next 2 RX12 none Θ) : ∀ (n : Nat) (g : Mem) (H : Heap) (locs : List Loc) (ls : Array Slot), fX12_next_L0 n g K38 = some gR → (∀ (gz : Mem) (H : Heap) (locs : List Loc) (ls : Array Slot), K38 gz = some gR → Hd Θ s h0 gz H locs → lv_has ls 2 [(0, .ref (Θ.2.2.2 0))] → W p l e { frames := 5, cells := 0, slots := 0, locals := 112 } s m args below meth c H locs 0 0 (MQ below (Qx Θ s.heap.size h0 gR none) args s 0 0 (AA Θ s.heap.size)) (F0 m 38 ls [])) → Hd Θ s h0 g H locs → lv_has ls 2 [(0, .ref (Θ.2.2.2 0))] → W p l e { frames := 5, cells := 0, slots := 0, locals := 112 } s m args below meth c H locs 0 0 (MQ below (Qx Θ s.heap.size h0 gR none) args s 0 0 (AA Θ s.heap.size)) (F0 m 0 ls []) := by
  intro n
  obtain ⟨hx, hb, hml, hown, hts, -⟩ := id C
  induction n with
  | zero => intro g H locs ls h; cases h
  | succ n ih =>
    intro g H locs ls h hK38 hM hl
    rw [fX12_next_L0] at h
    refine lv_aload_n hx hb (kX12_next (i := 0) rfl) rfl (lv_at hl 0 rfl) ?_
    refine gX12_at C hM q_fX12_273 (kX12_next (i := 1) rfl) ?_
    refine lv_aload_n hx hb (kX12_next (i := 2) rfl) rfl (lv_at hl 0 rfl) ?_
    refine gX12_size C hM q_fX12_260 (kX12_next (i := 3) rfl) ?_
    refine x_icmp_ge (a' := wr (g 0 49)) (b' := wr (g 0 48)) hx hb rfl rfl (tgt := 38) (kX12_next (i := 4) rfl) (by decide) (fun c_1 => ?_) (fun c_1 => ?_)
    · have h := it_t c_1 h
      exact hK38 g H locs ls h hM (lv_sub hl [0] rfl)
    · have h := it_f c_1 h
      refine lv_aload_n hx hb (kX12_next (i := 5) rfl) rfl (lv_at hl 0 rfl) ?_
      refine gX12_text C hM q_fX12_126 (kX12_next (i := 6) rfl) ?_
      refine lv_aload_n hx hb (kX12_next (i := 7) rfl) rfl (lv_at hl 0 rfl) ?_
      refine gX12_at C hM q_fX12_273 (kX12_next (i := 8) rfl) ?_
      obtain ⟨hi_2, h⟩ := gd_some h
      refine x_baldM C hM 35 (by decide) (eM_35 Θ) hi_2 (kX12_next (i := 9) rfl) ?_
      refine x_bipush hx hb (by decide) (kX12_next (i := 10) rfl) ?_
      refine x_icmp_ne (a' := wr (g 35 (wr (g 0 49)).toNat)) (b' := 32) hx hb rfl (by decide) (tgt := 38) (kX12_next (i := 11) rfl) (by decide) (fun c_3 => ?_) (fun c_3 => ?_)
      · have h := it_f c_3 h
        exact hK38 g H locs ls h hM (lv_sub hl [0] rfl)
      · have h := it_t c_3 h
        refine lv_aload_n hx hb (kX12_next (i := 12) rfl) rfl (lv_at hl 0 rfl) ?_
        refine lv_dup hx hb (kX12_next (i := 13) rfl) rfl ?_
        refine gX12_at C hM q_fX12_273 (kX12_next (i := 14) rfl) ?_
        refine x_iconst hx hb (kX12_next (i := 15) rfl) ?_
        refine x_iadd hx hb (kX12_next (i := 16) rfl) ?_
        obtain ⟨g_4, eg_4, h⟩ := bnd_some h
        refine pX12_at C hM q_fX12_273 eg_4 (kX12_next (i := 17) rfl) (fun H locs hM => ?_)
        refine lv_goto (tgt := 0) hx hb (kX12_next (i := 18) rfl) (by decide) ?_
        exact ih g_4 H locs ls h hK38 hM (lv_sub hl [0] rfl)
set_option maxRecDepth 100000 in
set_option maxHeartbeats 4000000 in
theorem wX12_next_L155 {p : Program} {l : Launch} {e : Env} {s : State} {m : MethodId} {args : Array Value} {below : List Frame} {meth : Method} {c : Code} {Θ : Th} {h0 : Mem} {gR : Mem} {K234 : Mem → Option (Mem)} (C : Cx p s m args meth c cX12_next 2 RX12 none Θ) : ∀ (n : Nat) (g : Mem) (H : Heap) (locs : List Loc) (ls : Array Slot), fX12_next_L155 n g K234 = some gR → (∀ (gz : Mem) (H : Heap) (locs : List Loc) (ls : Array Slot), K234 gz = some gR → Hd Θ s h0 gz H locs → lv_has ls 2 [(0, .ref (Θ.2.2.2 0))] → W p l e { frames := 5, cells := 0, slots := 0, locals := 112 } s m args below meth c H locs 0 0 (MQ below (Qx Θ s.heap.size h0 gR none) args s 0 0 (AA Θ s.heap.size)) (F0 m 234 ls [])) → Hd Θ s h0 g H locs → lv_has ls 2 [(0, .ref (Θ.2.2.2 0))] → W p l e { frames := 5, cells := 0, slots := 0, locals := 112 } s m args below meth c H locs 0 0 (MQ below (Qx Θ s.heap.size h0 gR none) args s 0 0 (AA Θ s.heap.size)) (F0 m 155 ls []) := by
  intro n
  obtain ⟨hx, hb, hml, hown, hts, -⟩ := id C
  induction n with
  | zero => intro g H locs ls h; cases h
  | succ n ih =>
    intro g H locs ls h hK234 hM hl
    rw [fX12_next_L155] at h
    refine lv_aload_n hx hb (kX12_next (i := 78) rfl) rfl (lv_at hl 0 rfl) ?_
    refine gX12_at C hM q_fX12_273 (kX12_next (i := 79) rfl) ?_
    refine lv_aload_n hx hb (kX12_next (i := 80) rfl) rfl (lv_at hl 0 rfl) ?_
    refine gX12_size C hM q_fX12_260 (kX12_next (i := 81) rfl) ?_
    refine x_icmp_ge (a' := wr (g 0 49)) (b' := wr (g 0 48)) hx hb rfl rfl (tgt := 234) (kX12_next (i := 82) rfl) (by decide) (fun c_34 => ?_) (fun c_34 => ?_)
    · have h := it_t c_34 h
      exact hK234 g H locs ls h hM (lv_sub hl [0] rfl)
    · have h := it_f c_34 h
      refine lv_aload_n hx hb (kX12_next (i := 83) rfl) rfl (lv_at hl 0 rfl) ?_
      refine gX12_text C hM q_fX12_126 (kX12_next (i := 84) rfl) ?_
      refine lv_aload_n hx hb (kX12_next (i := 85) rfl) rfl (lv_at hl 0 rfl) ?_
      refine gX12_at C hM q_fX12_273 (kX12_next (i := 86) rfl) ?_
      obtain ⟨hi_35, h⟩ := gd_some h
      refine x_baldM C hM 35 (by decide) (eM_35 Θ) hi_35 (kX12_next (i := 87) rfl) ?_
      obtain ⟨r_36, hc_37, h⟩ := bd_some h
      refine x_callS (n := 1) (As := [vi (g 35 (wr (g 0 49)).toNat)]) (rest := []) C hM (tX12_isDigit l Θ (g 35 (wr (g 0 49)).toNat) h0 g r_36 hc_37) q_c_X12_isDigit q_mX12_291 q_s_X12_isDigit q_n_X12 (by decide +kernel) ⟨by decide, by decide⟩ rfl hl.1 rfl (Nat.le_of_ble_eq_true rfl) (kX12_next (i := 88) rfl) (fun H locs hM => ?_)
      refine x_if_eq (a' := wr r_36) hx hb rfl (tgt := 234) (kX12_next (i := 89) rfl) (by decide) (fun c_38 => ?_) (fun c_38 => ?_)
      · have h := it_t c_38 h
        exact hK234 g H locs ls h hM (lv_sub hl [0] rfl)
      · have h := it_f c_38 h
        refine lv_aload_n hx hb (kX12_next (i := 90) rfl) rfl (lv_at hl 0 rfl) ?_
        refine lv_aload_n hx hb (kX12_next (i := 91) rfl) rfl (lv_at hl 0 rfl) ?_
        refine gX12_tokenValue C hM q_fX12_279 (kX12_next (i := 92) rfl) ?_
        refine x_ldc (n := 1000000) hx hb hown (hts _ q_kX12_236) (kX12_next (i := 93) rfl) ?_
        refine jn_go h (fun J218 : Int → Option (Mem) => ∀ (v_39 : Int) (H : Heap) (locs : List Loc) (ls : Array Slot), J218 v_39 = some gR → Hd Θ s h0 g H locs → lv_has ls 2 [(0, .ref (Θ.2.2.2 0))] → W p l e { frames := 5, cells := 0, slots := 0, locals := 112 } s m args below meth c H locs 0 0 (MQ below (Qx Θ s.heap.size h0 gR none) args s 0 0 (AA Θ s.heap.size)) (F0 m 218 ls [vi v_39, .ref (Θ.2.2.2 0)])) ?_ ?_
        · intro v_39 H locs ls h hM hl
          obtain ⟨g_40, eg_40, h⟩ := bnd_some h
          refine pX12_tokenValue C hM q_fX12_279 eg_40 (kX12_next (i := 110) rfl) (fun H locs hM => ?_)
          refine lv_aload_n hx hb (kX12_next (i := 111) rfl) rfl (lv_at hl 0 rfl) ?_
          refine lv_dup hx hb (kX12_next (i := 112) rfl) rfl ?_
          refine gX12_at C hM q_fX12_273 (kX12_next (i := 113) rfl) ?_
          refine x_iconst hx hb (kX12_next (i := 114) rfl) ?_
          refine x_iadd hx hb (kX12_next (i := 115) rfl) ?_
          obtain ⟨g_41, eg_41, h⟩ := bnd_some h
          refine pX12_at C hM q_fX12_273 eg_41 (kX12_next (i := 116) rfl) (fun H locs hM => ?_)
          refine lv_goto (tgt := 155) hx hb (kX12_next (i := 117) rfl) (by decide) ?_
          exact ih g_41 H locs ls h hK234 hM (lv_sub hl [0] rfl)
        intro J218 hJ218 h
        refine x_icmp_le (a' := wr (g 0 52)) (b' := 1000000) hx hb rfl (by decide) (tgt := 198) (kX12_next (i := 94) rfl) (by decide) (fun c_42 => ?_) (fun c_42 => ?_)
        · have h := it_t c_42 h
          refine x_bipush hx hb (by decide) (kX12_next (i := 98) rfl) ?_
          refine lv_aload_n hx hb (kX12_next (i := 99) rfl) rfl (lv_at hl 0 rfl) ?_
          refine gX12_tokenValue C hM q_fX12_279 (kX12_next (i := 100) rfl) ?_
          refine x_imul hx hb (kX12_next (i := 101) rfl) ?_
          refine lv_aload_n hx hb (kX12_next (i := 102) rfl) rfl (lv_at hl 0 rfl) ?_
          refine gX12_text C hM q_fX12_126 (kX12_next (i := 103) rfl) ?_
          refine lv_aload_n hx hb (kX12_next (i := 104) rfl) rfl (lv_at hl 0 rfl) ?_
          refine gX12_at C hM q_fX12_273 (kX12_next (i := 105) rfl) ?_
          obtain ⟨hi_43, h⟩ := gd_some h
          refine x_baldM C hM 35 (by decide) (eM_35 Θ) hi_43 (kX12_next (i := 106) rfl) ?_
          refine x_iadd hx hb (kX12_next (i := 107) rfl) ?_
          refine x_bipush hx hb (by decide) (kX12_next (i := 108) rfl) ?_
          refine x_isub hx hb (kX12_next (i := 109) rfl) ?_
          exact hJ218 (((10 * (g 0 52)) + (g 35 (wr (g 0 49)).toNat)) - 48) H locs ls h hM (lv_sub hl [0] rfl)
        · have h := it_f c_42 h
          refine lv_aload_n hx hb (kX12_next (i := 95) rfl) rfl (lv_at hl 0 rfl) ?_
          refine gX12_tokenValue C hM q_fX12_279 (kX12_next (i := 96) rfl) ?_
          refine lv_goto (tgt := 218) hx hb (kX12_next (i := 97) rfl) (by decide) ?_
          exact hJ218 (g 0 52) H locs ls h hM (lv_sub hl [0] rfl)
set_option maxRecDepth 100000 in
set_option maxHeartbeats 4000000 in
theorem wX12_next_L85 {p : Program} {l : Launch} {e : Env} {s : State} {m : MethodId} {args : Array Value} {below : List Frame} {meth : Method} {c : Code} {Θ : Th} {h0 : Mem} {gR : Mem} {K124 : Mem → Option (Mem)} (C : Cx p s m args meth c cX12_next 2 RX12 none Θ) : ∀ (n : Nat) (g : Mem) (H : Heap) (locs : List Loc) (ls : Array Slot), fX12_next_L85 n g K124 = some gR → (∀ (gz : Mem) (H : Heap) (locs : List Loc) (ls : Array Slot), K124 gz = some gR → Hd Θ s h0 gz H locs → lv_has ls 2 [(0, .ref (Θ.2.2.2 0))] → W p l e { frames := 5, cells := 0, slots := 0, locals := 112 } s m args below meth c H locs 0 0 (MQ below (Qx Θ s.heap.size h0 gR none) args s 0 0 (AA Θ s.heap.size)) (F0 m 124 ls [])) → Hd Θ s h0 g H locs → lv_has ls 2 [(0, .ref (Θ.2.2.2 0))] → W p l e { frames := 5, cells := 0, slots := 0, locals := 112 } s m args below meth c H locs 0 0 (MQ below (Qx Θ s.heap.size h0 gR none) args s 0 0 (AA Θ s.heap.size)) (F0 m 85 ls []) := by
  intro n
  obtain ⟨hx, hb, hml, hown, hts, -⟩ := id C
  induction n with
  | zero => intro g H locs ls h; cases h
  | succ n ih =>
    intro g H locs ls h hK124 hM hl
    rw [fX12_next_L85] at h
    refine lv_aload_n hx hb (kX12_next (i := 44) rfl) rfl (lv_at hl 0 rfl) ?_
    refine gX12_at C hM q_fX12_273 (kX12_next (i := 45) rfl) ?_
    refine lv_aload_n hx hb (kX12_next (i := 46) rfl) rfl (lv_at hl 0 rfl) ?_
    refine gX12_size C hM q_fX12_260 (kX12_next (i := 47) rfl) ?_
    refine x_icmp_ge (a' := wr (g 0 49)) (b' := wr (g 0 48)) hx hb rfl rfl (tgt := 124) (kX12_next (i := 48) rfl) (by decide) (fun c_46 => ?_) (fun c_46 => ?_)
    · have h := it_t c_46 h
      exact hK124 g H locs ls h hM (lv_sub hl [0] rfl)
    · have h := it_f c_46 h
      refine lv_aload_n hx hb (kX12_next (i := 49) rfl) rfl (lv_at hl 0 rfl) ?_
      refine gX12_text C hM q_fX12_126 (kX12_next (i := 50) rfl) ?_
      refine lv_aload_n hx hb (kX12_next (i := 51) rfl) rfl (lv_at hl 0 rfl) ?_
      refine gX12_at C hM q_fX12_273 (kX12_next (i := 52) rfl) ?_
      obtain ⟨hi_47, h⟩ := gd_some h
      refine x_baldM C hM 35 (by decide) (eM_35 Θ) hi_47 (kX12_next (i := 53) rfl) ?_
      obtain ⟨r_48, hc_49, h⟩ := bd_some h
      refine x_callS (n := 1) (As := [vi (g 35 (wr (g 0 49)).toNat)]) (rest := []) C hM (tX12_isLetter l Θ (g 35 (wr (g 0 49)).toNat) h0 g r_48 hc_49) q_c_X12_isLetter q_mX12_285 q_s_X12_isLetter q_n_X12 (by decide +kernel) ⟨by decide, by decide⟩ rfl hl.1 rfl (Nat.le_of_ble_eq_true rfl) (kX12_next (i := 54) rfl) (fun H locs hM => ?_)
      refine x_if_eq (a' := wr r_48) hx hb rfl (tgt := 124) (kX12_next (i := 55) rfl) (by decide) (fun c_50 => ?_) (fun c_50 => ?_)
      · have h := it_t c_50 h
        exact hK124 g H locs ls h hM (lv_sub hl [0] rfl)
      · have h := it_f c_50 h
        refine lv_aload_n hx hb (kX12_next (i := 56) rfl) rfl (lv_at hl 0 rfl) ?_
        refine lv_dup hx hb (kX12_next (i := 57) rfl) rfl ?_
        refine gX12_at C hM q_fX12_273 (kX12_next (i := 58) rfl) ?_
        refine x_iconst hx hb (kX12_next (i := 59) rfl) ?_
        refine x_iadd hx hb (kX12_next (i := 60) rfl) ?_
        obtain ⟨g_51, eg_51, h⟩ := bnd_some h
        refine pX12_at C hM q_fX12_273 eg_51 (kX12_next (i := 61) rfl) (fun H locs hM => ?_)
        refine lv_goto (tgt := 85) hx hb (kX12_next (i := 62) rfl) (by decide) ?_
        exact ih g_51 H locs ls h hK124 hM (lv_sub hl [0] rfl)
set_option maxRecDepth 100000 in
set_option maxHeartbeats 4000000 in
theorem tX12_next (l : Launch) (Θ : Th) (h0 g : Mem) (gR : Mem) (h : fX12_next g = some gR) : Ct l yX12_next cX12_next 2 none 5 112 Θ [.ref (Θ.2.2.2 0)] h0 g h0 gR none := by
  refine x_start (by decide) (Nat.le_of_ble_eq_true rfl) ?_
  intro p e s m args below meth c ls C hM hl
  have hl : lv_has ls 2 [(0, .ref (Θ.2.2.2 0))] := hl
  obtain ⟨hx, hb, hml, hown, hts, -⟩ := id C
  unfold fX12_next at h
  have key : ∀ (H : Heap) (locs : List Loc), Hd Θ s h0 g H locs → W p l e { frames := 5, cells := 0, slots := 0, locals := 112 } s m args below meth c H locs 0 0 (MQ below (Qx Θ s.heap.size h0 gR none) args s 0 0 (AA Θ s.heap.size)) (F0 m 0 ls []) := by
    intro H locs hM
    refine wX12_next_L0  C fuel g H locs ls h ?_ hM (lv_sub hl [0] rfl)
    · intro g_5 H locs ls h hM hl
      refine lv_aload_n hx hb (kX12_next (i := 19) rfl) rfl (lv_at hl 0 rfl) ?_
      refine lv_aload_n hx hb (kX12_next (i := 20) rfl) rfl (lv_at hl 0 rfl) ?_
      refine gX12_at C hM q_fX12_273 (kX12_next (i := 21) rfl) ?_
      obtain ⟨g_6, eg_6, h⟩ := bnd_some h
      refine pX12_tokenAt C hM q_fX12_276 eg_6 (kX12_next (i := 22) rfl) (fun H locs hM => ?_)
      refine lv_aload_n hx hb (kX12_next (i := 23) rfl) rfl (lv_at hl 0 rfl) ?_
      refine x_iconst hx hb (kX12_next (i := 24) rfl) ?_
      obtain ⟨g_7, eg_7, h⟩ := bnd_some h
      refine pX12_tokenValue C hM q_fX12_279 eg_7 (kX12_next (i := 25) rfl) (fun H locs hM => ?_)
      refine lv_aload_n hx hb (kX12_next (i := 26) rfl) rfl (lv_at hl 0 rfl) ?_
      refine x_iconst hx hb (kX12_next (i := 27) rfl) ?_
      obtain ⟨g_8, eg_8, h⟩ := bnd_some h
      refine pX12_token C hM q_fX12_282 eg_8 (kX12_next (i := 28) rfl) (fun H locs hM => ?_)
      refine lv_aload_n hx hb (kX12_next (i := 29) rfl) rfl (lv_at hl 0 rfl) ?_
      refine gX12_at C hM q_fX12_273 (kX12_next (i := 30) rfl) ?_
      refine lv_aload_n hx hb (kX12_next (i := 31) rfl) rfl (lv_at hl 0 rfl) ?_
      refine gX12_size C hM q_fX12_260 (kX12_next (i := 32) rfl) ?_
      refine x_icmp_ne (a' := wr (g_8 0 49)) (b' := wr (g_8 0 48)) hx hb rfl rfl (tgt := 68) (kX12_next (i := 33) rfl) (by decide) (fun c_9 => ?_) (fun c_9 => ?_)
      · have h := it_f c_9 h
        refine lv_aload_n hx hb (kX12_next (i := 35) rfl) rfl (lv_at hl 0 rfl) ?_
        refine gX12_text C hM q_fX12_126 (kX12_next (i := 36) rfl) ?_
        refine lv_aload_n hx hb (kX12_next (i := 37) rfl) rfl (lv_at hl 0 rfl) ?_
        refine gX12_at C hM q_fX12_273 (kX12_next (i := 38) rfl) ?_
        obtain ⟨hi_10, h⟩ := gd_some h
        refine x_baldM C hM 35 (by decide) (eM_35 Θ) hi_10 (kX12_next (i := 39) rfl) ?_
        obtain ⟨x_11, ex_11, h⟩ := bnd_some h
        refine x_top ex_11 ?_
        refine x_istore_n (lv' := [(1, vi x_11), (0, .ref (Θ.2.2.2 0))]) hx hb (kX12_next (i := 40) rfl) rfl hl (by decide) rfl (fun ls hl => ?_)
        refine x_iload_n hx hb (kX12_next (i := 41) rfl) rfl (lv_at hl 0 rfl) ?_
        obtain ⟨r_12, hc_13, h⟩ := bd_some h
        refine x_callS (n := 1) (As := [vi x_11]) (rest := []) C hM (tX12_isLetter l Θ x_11 h0 g_8 r_12 hc_13) q_c_X12_isLetter q_mX12_285 q_s_X12_isLetter q_n_X12 (by decide +kernel) ⟨by decide, by decide⟩ rfl hl.1 rfl (Nat.le_of_ble_eq_true rfl) (kX12_next (i := 42) rfl) (fun H locs hM => ?_)
        refine x_if_eq (a' := wr r_12) hx hb rfl (tgt := 148) (kX12_next (i := 43) rfl) (by decide) (fun c_14 => ?_) (fun c_14 => ?_)
        · have h := it_t c_14 h
          refine x_iload_n hx hb (kX12_next (i := 75) rfl) rfl (lv_at hl 0 rfl) ?_
          obtain ⟨r_15, hc_16, h⟩ := bd_some h
          refine x_callS (n := 1) (As := [vi x_11]) (rest := []) C hM (tX12_isDigit l Θ x_11 h0 g_8 r_15 hc_16) q_c_X12_isDigit q_mX12_291 q_s_X12_isDigit q_n_X12 (by decide +kernel) ⟨by decide, by decide⟩ rfl hl.1 rfl (Nat.le_of_ble_eq_true rfl) (kX12_next (i := 76) rfl) (fun H locs hM => ?_)
          refine x_if_eq (a' := wr r_15) hx hb rfl (tgt := 242) (kX12_next (i := 77) rfl) (by decide) (fun c_17 => ?_) (fun c_17 => ?_)
          · have h := it_t c_17 h
            refine lv_aload_n hx hb (kX12_next (i := 122) rfl) rfl (lv_at hl 1 rfl) ?_
            refine x_iload_n hx hb (kX12_next (i := 123) rfl) rfl (lv_at hl 0 rfl) ?_
            refine x_bipush hx hb (by decide) (kX12_next (i := 124) rfl) ?_
            refine jn_go h (fun J320 : Int → Option (Mem) => ∀ (v_18 : Int) (H : Heap) (locs : List Loc) (ls : Array Slot), J320 v_18 = some gR → Hd Θ s h0 g_8 H locs → lv_has ls 2 [(0, .ref (Θ.2.2.2 0)), (1, vi x_11)] → W p l e { frames := 5, cells := 0, slots := 0, locals := 112 } s m args below meth c H locs 0 0 (MQ below (Qx Θ s.heap.size h0 gR none) args s 0 0 (AA Θ s.heap.size)) (F0 m 320 ls [vi v_18, .ref (Θ.2.2.2 0)])) ?_ ?_
            · intro v_18 H locs ls h hM hl
              obtain ⟨g_19, eg_19, h⟩ := bnd_some h
              refine pX12_token C hM q_fX12_282 eg_19 (kX12_next (i := 162) rfl) (fun H locs hM => ?_)
              refine lv_aload_n hx hb (kX12_next (i := 163) rfl) rfl (lv_at hl 0 rfl) ?_
              refine x_iload_n hx hb (kX12_next (i := 164) rfl) rfl (lv_at hl 1 rfl) ?_
              obtain ⟨g_20, eg_20, h⟩ := bnd_some h
              refine pX12_tokenValue C hM q_fX12_279 eg_20 (kX12_next (i := 165) rfl) (fun H locs hM => ?_)
              refine lv_aload_n hx hb (kX12_next (i := 166) rfl) rfl (lv_at hl 0 rfl) ?_
              refine lv_dup hx hb (kX12_next (i := 167) rfl) rfl ?_
              refine gX12_at C hM q_fX12_273 (kX12_next (i := 168) rfl) ?_
              refine x_iconst hx hb (kX12_next (i := 169) rfl) ?_
              refine x_iadd hx hb (kX12_next (i := 170) rfl) ?_
              obtain ⟨g_21, eg_21, h⟩ := bnd_some h
              refine pX12_at C hM q_fX12_273 eg_21 (kX12_next (i := 171) rfl) (fun H locs hM => ?_)
              rw [← Option.some.inj h]
              exact x_vret C hM (kX12_next (i := 172) rfl)
            intro J320 hJ320 h
            refine jn_go h (fun J315 : Unit → Option (Mem) => ∀ (H : Heap) (locs : List Loc) (ls : Array Slot), J315 () = some gR → Hd Θ s h0 g_8 H locs → lv_has ls 2 [(0, .ref (Θ.2.2.2 0)), (1, vi x_11)] → W p l e { frames := 5, cells := 0, slots := 0, locals := 112 } s m args below meth c H locs 0 0 (MQ below (Qx Θ s.heap.size h0 gR none) args s 0 0 (AA Θ s.heap.size)) (F0 m 315 ls [.ref (Θ.2.2.2 0)])) ?_ ?_
            · intro  H locs ls h hM hl
              refine x_iconst hx hb (kX12_next (i := 159) rfl) ?_
              refine lv_goto (tgt := 320) hx hb (kX12_next (i := 160) rfl) (by decide) ?_
              exact hJ320 3 H locs ls h hM (lv_sub hl [0, 1] rfl)
            intro J315 hJ315 h
            refine x_icmp_eq (a' := wr x_11) (b' := 43) hx hb rfl (by decide) (tgt := 315) (kX12_next (i := 125) rfl) (by decide) (fun c_22 => ?_) (fun c_22 => ?_)
            · have h := it_t c_22 h
              exact hJ315 H locs ls h hM (lv_sub hl [1, 0] rfl)
            · have h := it_f c_22 h
              refine x_iload_n hx hb (kX12_next (i := 126) rfl) rfl (lv_at hl 0 rfl) ?_
              refine x_bipush hx hb (by decide) (kX12_next (i := 127) rfl) ?_
              refine x_icmp_eq (a' := wr x_11) (b' := 45) hx hb rfl (by decide) (tgt := 315) (kX12_next (i := 128) rfl) (by decide) (fun c_23 => ?_) (fun c_23 => ?_)
              · have h := it_t c_23 h
                exact hJ315 H locs ls h hM (lv_sub hl [1, 0] rfl)
              · have h := it_f c_23 h
                refine x_iload_n hx hb (kX12_next (i := 129) rfl) rfl (lv_at hl 0 rfl) ?_
                refine x_bipush hx hb (by decide) (kX12_next (i := 130) rfl) ?_
                refine x_icmp_eq (a' := wr x_11) (b' := 42) hx hb rfl (by decide) (tgt := 315) (kX12_next (i := 131) rfl) (by decide) (fun c_24 => ?_) (fun c_24 => ?_)
                · have h := it_t c_24 h
                  exact hJ315 H locs ls h hM (lv_sub hl [1, 0] rfl)
                · have h := it_f c_24 h
                  refine x_iload_n hx hb (kX12_next (i := 132) rfl) rfl (lv_at hl 0 rfl) ?_
                  refine x_bipush hx hb (by decide) (kX12_next (i := 133) rfl) ?_
                  refine x_icmp_eq (a' := wr x_11) (b' := 47) hx hb rfl (by decide) (tgt := 315) (kX12_next (i := 134) rfl) (by decide) (fun c_25 => ?_) (fun c_25 => ?_)
                  · have h := it_t c_25 h
                    exact hJ315 H locs ls h hM (lv_sub hl [1, 0] rfl)
                  · have h := it_f c_25 h
                    refine x_iload_n hx hb (kX12_next (i := 135) rfl) rfl (lv_at hl 0 rfl) ?_
                    refine x_bipush hx hb (by decide) (kX12_next (i := 136) rfl) ?_
                    refine x_icmp_eq (a' := wr x_11) (b' := 40) hx hb rfl (by decide) (tgt := 315) (kX12_next (i := 137) rfl) (by decide) (fun c_26 => ?_) (fun c_26 => ?_)
                    · have h := it_t c_26 h
                      exact hJ315 H locs ls h hM (lv_sub hl [1, 0] rfl)
                    · have h := it_f c_26 h
                      refine x_iload_n hx hb (kX12_next (i := 138) rfl) rfl (lv_at hl 0 rfl) ?_
                      refine x_bipush hx hb (by decide) (kX12_next (i := 139) rfl) ?_
                      refine x_icmp_eq (a' := wr x_11) (b' := 41) hx hb rfl (by decide) (tgt := 315) (kX12_next (i := 140) rfl) (by decide) (fun c_27 => ?_) (fun c_27 => ?_)
                      · have h := it_t c_27 h
                        exact hJ315 H locs ls h hM (lv_sub hl [1, 0] rfl)
                      · have h := it_f c_27 h
                        refine x_iload_n hx hb (kX12_next (i := 141) rfl) rfl (lv_at hl 0 rfl) ?_
                        refine x_bipush hx hb (by decide) (kX12_next (i := 142) rfl) ?_
                        refine x_icmp_eq (a' := wr x_11) (b' := 91) hx hb rfl (by decide) (tgt := 315) (kX12_next (i := 143) rfl) (by decide) (fun c_28 => ?_) (fun c_28 => ?_)
                        · have h := it_t c_28 h
                          exact hJ315 H locs ls h hM (lv_sub hl [1, 0] rfl)
                        · have h := it_f c_28 h
                          refine x_iload_n hx hb (kX12_next (i := 144) rfl) rfl (lv_at hl 0 rfl) ?_
                          refine x_bipush hx hb (by decide) (kX12_next (i := 145) rfl) ?_
                          refine x_icmp_eq (a' := wr x_11) (b' := 93) hx hb rfl (by decide) (tgt := 315) (kX12_next (i := 146) rfl) (by decide) (fun c_29 => ?_) (fun c_29 => ?_)
                          · have h := it_t c_29 h
                            exact hJ315 H locs ls h hM (lv_sub hl [1, 0] rfl)
                          · have h := it_f c_29 h
                            refine x_iload_n hx hb (kX12_next (i := 147) rfl) rfl (lv_at hl 0 rfl) ?_
                            refine x_bipush hx hb (by decide) (kX12_next (i := 148) rfl) ?_
                            refine x_icmp_eq (a' := wr x_11) (b' := 60) hx hb rfl (by decide) (tgt := 315) (kX12_next (i := 149) rfl) (by decide) (fun c_30 => ?_) (fun c_30 => ?_)
                            · have h := it_t c_30 h
                              exact hJ315 H locs ls h hM (lv_sub hl [1, 0] rfl)
                            · have h := it_f c_30 h
                              refine x_iload_n hx hb (kX12_next (i := 150) rfl) rfl (lv_at hl 0 rfl) ?_
                              refine x_bipush hx hb (by decide) (kX12_next (i := 151) rfl) ?_
                              refine x_icmp_eq (a' := wr x_11) (b' := 62) hx hb rfl (by decide) (tgt := 315) (kX12_next (i := 152) rfl) (by decide) (fun c_31 => ?_) (fun c_31 => ?_)
                              · have h := it_t c_31 h
                                exact hJ315 H locs ls h hM (lv_sub hl [1, 0] rfl)
                              · have h := it_f c_31 h
                                refine x_iload_n hx hb (kX12_next (i := 153) rfl) rfl (lv_at hl 0 rfl) ?_
                                refine x_bipush hx hb (by decide) (kX12_next (i := 154) rfl) ?_
                                refine x_icmp_eq (a' := wr x_11) (b' := 61) hx hb rfl (by decide) (tgt := 315) (kX12_next (i := 155) rfl) (by decide) (fun c_32 => ?_) (fun c_32 => ?_)
                                · have h := it_t c_32 h
                                  exact hJ315 H locs ls h hM (lv_sub hl [1, 0] rfl)
                                · have h := it_f c_32 h
                                  refine x_iload_n hx hb (kX12_next (i := 156) rfl) rfl (lv_at hl 0 rfl) ?_
                                  refine x_bipush hx hb (by decide) (kX12_next (i := 157) rfl) ?_
                                  refine x_icmp_ne (a' := wr x_11) (b' := 59) hx hb rfl (by decide) (tgt := 319) (kX12_next (i := 158) rfl) (by decide) (fun c_33 => ?_) (fun c_33 => ?_)
                                  · have h := it_f c_33 h
                                    refine x_iconst hx hb (kX12_next (i := 161) rfl) ?_
                                    exact hJ320 4 H locs ls h hM (lv_sub hl [1, 0] rfl)
                                  · have h := it_t c_33 h
                                    exact hJ315 H locs ls h hM (lv_sub hl [1, 0] rfl)
          · have h := it_f c_17 h
            refine wX12_next_L155  C fuel g_8 H locs ls h ?_ hM (lv_sub hl [1] rfl)
            · intro g_44 H locs ls h hM hl
              refine lv_aload_n hx hb (kX12_next (i := 118) rfl) rfl (lv_at hl 0 rfl) ?_
              refine x_iconst hx hb (kX12_next (i := 119) rfl) ?_
              obtain ⟨g_45, eg_45, h⟩ := bnd_some h
              refine pX12_token C hM q_fX12_282 eg_45 (kX12_next (i := 120) rfl) (fun H locs hM => ?_)
              refine lv_goto (tgt := 338) hx hb (kX12_next (i := 121) rfl) (by decide) ?_
              rw [← Option.some.inj h]
              exact x_vret C hM (kX12_next (i := 172) rfl)
        · have h := it_f c_14 h
          refine wX12_next_L85  C fuel g_8 H locs ls h ?_ hM (lv_sub hl [1] rfl)
          · intro g_52 H locs ls h hM hl
            refine lv_aload_n hx hb (kX12_next (i := 63) rfl) rfl (lv_at hl 0 rfl) ?_
            refine x_iconst hx hb (kX12_next (i := 64) rfl) ?_
            obtain ⟨g_53, eg_53, h⟩ := bnd_some h
            refine pX12_token C hM q_fX12_282 eg_53 (kX12_next (i := 65) rfl) (fun H locs hM => ?_)
            refine lv_aload_n hx hb (kX12_next (i := 66) rfl) rfl (lv_at hl 0 rfl) ?_
            refine lv_aload_n hx hb (kX12_next (i := 67) rfl) rfl (lv_at hl 0 rfl) ?_
            refine lv_aload_n hx hb (kX12_next (i := 68) rfl) rfl (lv_at hl 0 rfl) ?_
            refine gX12_tokenAt C hM q_fX12_276 (kX12_next (i := 69) rfl) ?_
            refine lv_aload_n hx hb (kX12_next (i := 70) rfl) rfl (lv_at hl 0 rfl) ?_
            refine gX12_at C hM q_fX12_273 (kX12_next (i := 71) rfl) ?_
            obtain ⟨r_54, hc_55, h⟩ := bd_some h
            refine x_callV (n := 2) (As := [vi (g_53 0 51), vi (g_53 0 49)]) (rest := [.ref (Θ.2.2.2 0)]) C hM (tX12_wordAt l Θ (g_53 0 51) (g_53 0 49) h0 g_53 r_54 hc_55) (x_recvM C hM 0 (by decide) (eM_0 Θ _) rfl rfl) q_c_X12_wordAt q_mX12_288 q_i_X12_wordAt q_e_X12_wordAt q_n_X12 (by decide +kernel) ⟨by decide, by decide⟩ rfl hl.1 rfl (Nat.le_of_ble_eq_true rfl) (kX12_next (i := 72) rfl) (fun H locs hM => ?_)
            obtain ⟨g_56, eg_56, h⟩ := bnd_some h
            refine pX12_tokenValue C hM q_fX12_279 eg_56 (kX12_next (i := 73) rfl) (fun H locs hM => ?_)
            refine lv_goto (tgt := 338) hx hb (kX12_next (i := 74) rfl) (by decide) ?_
            rw [← Option.some.inj h]
            exact x_vret C hM (kX12_next (i := 172) rfl)
      · have h := it_t c_9 h
        rw [← Option.some.inj h]
        exact x_vret C hM (kX12_next (i := 34) rfl)
  exact key _ _ hM

/-! X12_takes -/
def fX12_takes (g : Mem) : Option (Int × Mem) :=
  bd (fX12_next g) fun g_3 =>
  some (1, g_3)
set_option maxRecDepth 100000 in
set_option maxHeartbeats 4000000 in
theorem tX12_takes (l : Launch) (Θ : Th) (h0 g : Mem) (rv : Int) (gR : Mem) (h : fX12_takes g = some (rv, gR)) : Ct l yX12_takes cX12_takes 1 (some .boolean) 6 133 Θ [.ref (Θ.2.2.2 0)] h0 g h0 gR (some (vi rv)) := by
  refine x_start (by decide) (Nat.le_of_ble_eq_true rfl) ?_
  intro p e s m args below meth c ls C hM hl
  have hl : lv_has ls 1 [(0, .ref (Θ.2.2.2 0))] := hl
  obtain ⟨hx, hb, hml, hown, hts, -⟩ := id C
  unfold fX12_takes at h
  have key : ∀ (H : Heap) (locs : List Loc), Hd Θ s h0 g H locs → W p l e { frames := 6, cells := 0, slots := 0, locals := 133 } s m args below meth c H locs 0 0 (MQ below (Qx Θ s.heap.size h0 gR (some (vi rv))) args s 0 0 (AA Θ s.heap.size)) (F0 m 0 ls []) := by
    intro H locs hM
    refine lv_aload_n hx hb (kX12_takes (i := 0) rfl) rfl (lv_at hl 0 rfl) ?_
    obtain ⟨g_3, hc_2, h⟩ := bd_some h
    refine x_callV (n := 0) (As := []) (rest := []) C hM (tX12_next l Θ h0 g g_3 hc_2) (x_recvM C hM 0 (by decide) (eM_0 Θ _) rfl rfl) q_c_X12_next q_mX12_300 q_i_X12_next q_e_X12_next q_n_X12 (by decide +kernel) ⟨by decide, by decide⟩ rfl hl.1 rfl (Nat.le_of_ble_eq_true rfl) (kX12_takes (i := 1) rfl) (fun H locs hM => ?_)
    refine x_iconst hx hb (kX12_takes (i := 2) rfl) ?_
    obtain ⟨q1, q2⟩ := ret2 h
    rw [q1, q2]
    exact x_iret C hM (nar_z (Or.inr rfl)) (kX12_takes (i := 3) rfl)
  exact key _ _ hM

/-! X12_clauses -/
def fX12_clauses (g : Mem) : Option (Int × Mem) :=
  if wr (g 0 50) = 0 then (
    some (1, g)
  ) else (
    if wr (g 0 50) = 2 then (
      bd (fX12_in (g 0 52) 0 1) fun r_3 =>
      if wr r_3 = 0 then (
        some (0, g)
      ) else (
        gd (g 0 52) 2 <|
        if wr (g 39 (wr (g 0 52)).toNat) = (-1) then (
          bnd (up g 0 56 (g 0 52)) fun g_8 =>
          gd (g_8 0 56) 2 <|
          bnd (up g_8 39 (wr (g_8 0 56)).toNat (g_8 0 59)) fun g_10 =>
          bd (fX12_push 0 g_10) fun g_13 =>
          bd (fX12_push 13 g_13) fun g_16 =>
          bd (fX12_push 159 g_16) fun g_19 =>
          bd (fX12_push 6 g_19) fun g_22 =>
          bd2 (fX12_takes g_22) fun r_23 g_25 =>
          gc (r_23 = 0 ∨ r_23 = 1) <|
          some (r_23, g_25)
        ) else (
          some (0, g)
        )
      )
    ) else (
      some (0, g)
    )
  )
set_option maxRecDepth 100000 in
set_option maxHeartbeats 4000000 in
theorem tX12_clauses (l : Launch) (Θ : Th) (h0 g : Mem) (rv : Int) (gR : Mem) (h : fX12_clauses g = some (rv, gR)) : Ct l yX12_clauses cX12_clauses 1 (some .boolean) 7 153 Θ [.ref (Θ.2.2.2 0)] h0 g h0 gR (some (vi rv)) := by
  refine x_start (by decide) (Nat.le_of_ble_eq_true rfl) ?_
  intro p e s m args below meth c ls C hM hl
  have hl : lv_has ls 1 [(0, .ref (Θ.2.2.2 0))] := hl
  obtain ⟨hx, hb, hml, hown, hts, -⟩ := id C
  unfold fX12_clauses at h
  have key : ∀ (H : Heap) (locs : List Loc), Hd Θ s h0 g H locs → W p l e { frames := 7, cells := 0, slots := 0, locals := 153 } s m args below meth c H locs 0 0 (MQ below (Qx Θ s.heap.size h0 gR (some (vi rv))) args s 0 0 (AA Θ s.heap.size)) (F0 m 0 ls []) := by
    intro H locs hM
    refine lv_aload_n hx hb (kX12_clauses (i := 0) rfl) rfl (lv_at hl 0 rfl) ?_
    refine gX12_token C hM q_fX12_282 (kX12_clauses (i := 1) rfl) ?_
    refine x_if_ne (a' := wr (g 0 50)) hx hb rfl (tgt := 9) (kX12_clauses (i := 2) rfl) (by decide) (fun c_1 => ?_) (fun c_1 => ?_)
    · have h := it_f c_1 h
      refine lv_aload_n hx hb (kX12_clauses (i := 5) rfl) rfl (lv_at hl 0 rfl) ?_
      refine gX12_token C hM q_fX12_282 (kX12_clauses (i := 6) rfl) ?_
      refine x_iconst hx hb (kX12_clauses (i := 7) rfl) ?_
      refine x_icmp_ne (a' := wr (g 0 50)) (b' := 2) hx hb rfl (by decide) (tgt := 42) (kX12_clauses (i := 8) rfl) (by decide) (fun c_2 => ?_) (fun c_2 => ?_)
      · have h := it_f c_2 h
        refine x_iconst hx hb (kX12_clauses (i := 22) rfl) ?_
        obtain ⟨q1, q2⟩ := ret2 h
        rw [q1, q2]
        exact x_iret C hM (nar_z (Or.inl rfl)) (kX12_clauses (i := 23) rfl)
      · have h := it_t c_2 h
        refine lv_aload_n hx hb (kX12_clauses (i := 9) rfl) rfl (lv_at hl 0 rfl) ?_
        refine gX12_tokenValue C hM q_fX12_279 (kX12_clauses (i := 10) rfl) ?_
        refine x_iconst hx hb (kX12_clauses (i := 11) rfl) ?_
        refine x_iconst hx hb (kX12_clauses (i := 12) rfl) ?_
        obtain ⟨r_3, hc_4, h⟩ := bd_some h
        refine x_callS (n := 3) (As := [vi (g 0 52), vi 0, vi 1]) (rest := []) C hM (tX12_in l Θ (g 0 52) 0 1 h0 g r_3 hc_4) q_c_X12_in q_mX12_173 q_s_X12_in q_n_X12 (by decide +kernel) ⟨by decide, by decide⟩ rfl hl.1 rfl (Nat.le_of_ble_eq_true rfl) (kX12_clauses (i := 13) rfl) (fun H locs hM => ?_)
        refine x_if_eq (a' := wr r_3) hx hb rfl (tgt := 42) (kX12_clauses (i := 14) rfl) (by decide) (fun c_5 => ?_) (fun c_5 => ?_)
        · have h := it_t c_5 h
          refine x_iconst hx hb (kX12_clauses (i := 22) rfl) ?_
          obtain ⟨q1, q2⟩ := ret2 h
          rw [q1, q2]
          exact x_iret C hM (nar_z (Or.inl rfl)) (kX12_clauses (i := 23) rfl)
        · have h := it_f c_5 h
          refine lv_aload_n hx hb (kX12_clauses (i := 15) rfl) rfl (lv_at hl 0 rfl) ?_
          refine gX12_begin C hM q_fX12_139 (kX12_clauses (i := 16) rfl) ?_
          refine lv_aload_n hx hb (kX12_clauses (i := 17) rfl) rfl (lv_at hl 0 rfl) ?_
          refine gX12_tokenValue C hM q_fX12_279 (kX12_clauses (i := 18) rfl) ?_
          obtain ⟨hi_6, h⟩ := gd_some h
          refine x_ialdM C hM 39 (by decide) (eM_39 Θ) hi_6 (kX12_clauses (i := 19) rfl) ?_
          refine x_iconst hx hb (kX12_clauses (i := 20) rfl) ?_
          refine x_icmp_eq (a' := wr (g 39 (wr (g 0 52)).toNat)) (b' := (-1)) hx hb rfl (by decide) (tgt := 44) (kX12_clauses (i := 21) rfl) (by decide) (fun c_7 => ?_) (fun c_7 => ?_)
          · have h := it_t c_7 h
            refine lv_aload_n hx hb (kX12_clauses (i := 24) rfl) rfl (lv_at hl 0 rfl) ?_
            refine lv_aload_n hx hb (kX12_clauses (i := 25) rfl) rfl (lv_at hl 0 rfl) ?_
            refine gX12_tokenValue C hM q_fX12_279 (kX12_clauses (i := 26) rfl) ?_
            obtain ⟨g_8, eg_8, h⟩ := bnd_some h
            refine pX12_clause C hM q_fX12_343 eg_8 (kX12_clauses (i := 27) rfl) (fun H locs hM => ?_)
            refine lv_aload_n hx hb (kX12_clauses (i := 28) rfl) rfl (lv_at hl 0 rfl) ?_
            refine gX12_begin C hM q_fX12_139 (kX12_clauses (i := 29) rfl) ?_
            refine lv_aload_n hx hb (kX12_clauses (i := 30) rfl) rfl (lv_at hl 0 rfl) ?_
            refine gX12_clause C hM q_fX12_343 (kX12_clauses (i := 31) rfl) ?_
            refine lv_aload_n hx hb (kX12_clauses (i := 32) rfl) rfl (lv_at hl 0 rfl) ?_
            refine gX12_doing C hM q_fX12_297 (kX12_clauses (i := 33) rfl) ?_
            obtain ⟨hi_9, h⟩ := gd_some h
            obtain ⟨g_10, eg_10, h⟩ := bnd_some h
            refine x_iastM C hM 39 (by decide) (eM_39 Θ) hi_9 eg_10 (kX12_clauses (i := 34) rfl) (fun H locs hM => ?_)
            refine lv_aload_n hx hb (kX12_clauses (i := 35) rfl) rfl (lv_at hl 0 rfl) ?_
            refine x_iconst hx hb (kX12_clauses (i := 36) rfl) ?_
            obtain ⟨g_13, hc_12, h⟩ := bd_some h
            refine x_callV (n := 1) (As := [vi 0]) (rest := []) C hM (tX12_push l Θ 0 h0 g_10 g_13 hc_12) (x_recvM C hM 0 (by decide) (eM_0 Θ _) rfl rfl) q_c_X12_push q_mX12_306 q_i_X12_push q_e_X12_push q_n_X12 (by decide +kernel) ⟨by decide, by decide⟩ rfl hl.1 rfl (Nat.le_of_ble_eq_true rfl) (kX12_clauses (i := 37) rfl) (fun H locs hM => ?_)
            refine lv_aload_n hx hb (kX12_clauses (i := 38) rfl) rfl (lv_at hl 0 rfl) ?_
            refine x_bipush hx hb (by decide) (kX12_clauses (i := 39) rfl) ?_
            obtain ⟨g_16, hc_15, h⟩ := bd_some h
            refine x_callV (n := 1) (As := [vi 13]) (rest := []) C hM (tX12_push l Θ 13 h0 g_13 g_16 hc_15) (x_recvM C hM 0 (by decide) (eM_0 Θ _) rfl rfl) q_c_X12_push q_mX12_306 q_i_X12_push q_e_X12_push q_n_X12 (by decide +kernel) ⟨by decide, by decide⟩ rfl hl.1 rfl (Nat.le_of_ble_eq_true rfl) (kX12_clauses (i := 40) rfl) (fun H locs hM => ?_)
            refine lv_aload_n hx hb (kX12_clauses (i := 41) rfl) rfl (lv_at hl 0 rfl) ?_
            refine x_sipush hx hb (by decide) (kX12_clauses (i := 42) rfl) ?_
            obtain ⟨g_19, hc_18, h⟩ := bd_some h
            refine x_callV (n := 1) (As := [vi 159]) (rest := []) C hM (tX12_push l Θ 159 h0 g_16 g_19 hc_18) (x_recvM C hM 0 (by decide) (eM_0 Θ _) rfl rfl) q_c_X12_push q_mX12_306 q_i_X12_push q_e_X12_push q_n_X12 (by decide +kernel) ⟨by decide, by decide⟩ rfl hl.1 rfl (Nat.le_of_ble_eq_true rfl) (kX12_clauses (i := 43) rfl) (fun H locs hM => ?_)
            refine lv_aload_n hx hb (kX12_clauses (i := 44) rfl) rfl (lv_at hl 0 rfl) ?_
            refine x_bipush hx hb (by decide) (kX12_clauses (i := 45) rfl) ?_
            obtain ⟨g_22, hc_21, h⟩ := bd_some h
            refine x_callV (n := 1) (As := [vi 6]) (rest := []) C hM (tX12_push l Θ 6 h0 g_19 g_22 hc_21) (x_recvM C hM 0 (by decide) (eM_0 Θ _) rfl rfl) q_c_X12_push q_mX12_306 q_i_X12_push q_e_X12_push q_n_X12 (by decide +kernel) ⟨by decide, by decide⟩ rfl hl.1 rfl (Nat.le_of_ble_eq_true rfl) (kX12_clauses (i := 46) rfl) (fun H locs hM => ?_)
            refine lv_aload_n hx hb (kX12_clauses (i := 47) rfl) rfl (lv_at hl 0 rfl) ?_
            obtain ⟨r_23, g_25, hc_24, h⟩ := bd2_some h
            refine x_callV (n := 0) (As := []) (rest := []) C hM (tX12_takes l Θ h0 g_22 r_23 g_25 hc_24) (x_recvM C hM 0 (by decide) (eM_0 Θ _) rfl rfl) q_c_X12_takes q_mX12_315 q_i_X12_takes q_e_X12_takes q_n_X12 (by decide +kernel) ⟨by decide, by decide⟩ rfl hl.1 rfl (Nat.le_of_ble_eq_true rfl) (kX12_clauses (i := 48) rfl) (fun H locs hM => ?_)
            obtain ⟨hz_26, h⟩ := gc_some h
            obtain ⟨q1, q2⟩ := ret2 h
            rw [q1, q2]
            exact x_iret C hM (nar_z hz_26) (kX12_clauses (i := 49) rfl)
          · have h := it_f c_7 h
            refine x_iconst hx hb (kX12_clauses (i := 22) rfl) ?_
            obtain ⟨q1, q2⟩ := ret2 h
            rw [q1, q2]
            exact x_iret C hM (nar_z (Or.inl rfl)) (kX12_clauses (i := 23) rfl)
    · have h := it_t c_1 h
      refine x_iconst hx hb (kX12_clauses (i := 3) rfl) ?_
      obtain ⟨q1, q2⟩ := ret2 h
      rw [q1, q2]
      exact x_iret C hM (nar_z (Or.inr rfl)) (kX12_clauses (i := 4) rfl)
  exact key _ _ hM

/-! X12_more -/
def fX12_more (a0 : Int) (a1 : Int) (a2 : Int) (a3 : Int) (a4 : Int) (a5 : Int) (g : Mem) : Option (Int × Mem) :=
  bd (fX12_isSign a0 g) fun r_1 =>
  jn (fun (_ : Unit) =>
    bd (fX12_next g) fun g_5 =>
    bd (fX12_push a4 g_5) fun g_8 =>
    jn (fun (v_9 : Int) =>
      bd (fX12_push (1000 + v_9) g_8) fun g_12 =>
      bd (fX12_push a5 g_12) fun g_15 =>
      some (1, g_15)
    ) fun J47 =>
    if wr r_1 = 0 then (
      J47 a3
    ) else (
      J47 a1
    )
  ) fun J22 =>
  if wr r_1 = 0 then (
    bd (fX12_isSign a2 g) fun r_18 =>
    if wr r_18 = 0 then (
      some (1, g)
    ) else (
      J22 ()
    )
  ) else (
    J22 ()
  )
set_option maxRecDepth 100000 in
set_option maxHeartbeats 4000000 in
theorem tX12_more (l : Launch) (Θ : Th) (a0 : Int) (a1 : Int) (a2 : Int) (a3 : Int) (a4 : Int) (a5 : Int) (h0 g : Mem) (rv : Int) (gR : Mem) (h : fX12_more a0 a1 a2 a3 a4 a5 g = some (rv, gR)) : Ct l yX12_more cX12_more 8 (some .boolean) 6 133 Θ [.ref (Θ.2.2.2 0), vi a0, vi a1, vi a2, vi a3, vi a4, vi a5] h0 g h0 gR (some (vi rv)) := by
  refine x_start (by decide) (Nat.le_of_ble_eq_true rfl) ?_
  intro p e s m args below meth c ls C hM hl
  have hl : lv_has ls 8 [(0, .ref (Θ.2.2.2 0)), (1, vi a0), (2, vi a1), (3, vi a2), (4, vi a3), (5, vi a4), (6, vi a5)] := hl
  obtain ⟨hx, hb, hml, hown, hts, -⟩ := id C
  unfold fX12_more at h
  have key : ∀ (H : Heap) (locs : List Loc), Hd Θ s h0 g H locs → W p l e { frames := 6, cells := 0, slots := 0, locals := 133 } s m args below meth c H locs 0 0 (MQ below (Qx Θ s.heap.size h0 gR (some (vi rv))) args s 0 0 (AA Θ s.heap.size)) (F0 m 0 ls []) := by
    intro H locs hM
    refine lv_aload_n hx hb (kX12_more (i := 0) rfl) rfl (lv_at hl 0 rfl) ?_
    refine x_iload_n hx hb (kX12_more (i := 1) rfl) rfl (lv_at hl 1 rfl) ?_
    obtain ⟨r_1, hc_2, h⟩ := bd_some h
    refine x_callV (n := 1) (As := [vi a0]) (rest := []) C hM (tX12_isSign l Θ a0 h0 g r_1 hc_2) (x_recvM C hM 0 (by decide) (eM_0 Θ _) rfl rfl) q_c_X12_isSign q_mX12_312 q_i_X12_isSign q_e_X12_isSign q_n_X12 (by decide +kernel) ⟨by decide, by decide⟩ rfl hl.1 rfl (Nat.le_of_ble_eq_true rfl) (kX12_more (i := 2) rfl) (fun H locs hM => ?_)
    refine x_istore (lv' := [(7, vi r_1), (0, .ref (Θ.2.2.2 0)), (1, vi a0), (2, vi a1), (3, vi a2), (4, vi a3), (5, vi a4), (6, vi a5)]) hx hb (kX12_more (i := 3) rfl) hl (by decide) rfl (fun ls hl => ?_)
    refine x_iload hx hb (kX12_more (i := 4) rfl) (lv_at hl 0 rfl) ?_
    refine jn_go h (fun J22 : Unit → Option (Int × Mem) => ∀ (H : Heap) (locs : List Loc) (ls : Array Slot), J22 () = some (rv, gR) → Hd Θ s h0 g H locs → lv_has ls 8 [(0, .ref (Θ.2.2.2 0)), (2, vi a1), (4, vi a3), (5, vi a4), (6, vi a5), (7, vi r_1)] → W p l e { frames := 6, cells := 0, slots := 0, locals := 133 } s m args below meth c H locs 0 0 (MQ below (Qx Θ s.heap.size h0 gR (some (vi rv))) args s 0 0 (AA Θ s.heap.size)) (F0 m 22 ls [])) ?_ ?_
    · intro  H locs ls h hM hl
      refine lv_aload_n hx hb (kX12_more (i := 12) rfl) rfl (lv_at hl 0 rfl) ?_
      obtain ⟨g_5, hc_4, h⟩ := bd_some h
      refine x_callV (n := 0) (As := []) (rest := []) C hM (tX12_next l Θ h0 g g_5 hc_4) (x_recvM C hM 0 (by decide) (eM_0 Θ _) rfl rfl) q_c_X12_next q_mX12_300 q_i_X12_next q_e_X12_next q_n_X12 (by decide +kernel) ⟨by decide, by decide⟩ rfl hl.1 rfl (Nat.le_of_ble_eq_true rfl) (kX12_more (i := 13) rfl) (fun H locs hM => ?_)
      refine lv_aload_n hx hb (kX12_more (i := 14) rfl) rfl (lv_at hl 0 rfl) ?_
      refine x_iload hx hb (kX12_more (i := 15) rfl) (lv_at hl 3 rfl) ?_
      obtain ⟨g_8, hc_7, h⟩ := bd_some h
      refine x_callV (n := 1) (As := [vi a4]) (rest := []) C hM (tX12_push l Θ a4 h0 g_5 g_8 hc_7) (x_recvM C hM 0 (by decide) (eM_0 Θ _) rfl rfl) q_c_X12_push q_mX12_306 q_i_X12_push q_e_X12_push q_n_X12 (by decide +kernel) ⟨by decide, by decide⟩ rfl hl.1 rfl (Nat.le_of_ble_eq_true rfl) (kX12_more (i := 16) rfl) (fun H locs hM => ?_)
      refine lv_aload_n hx hb (kX12_more (i := 17) rfl) rfl (lv_at hl 0 rfl) ?_
      refine x_sipush hx hb (by decide) (kX12_more (i := 18) rfl) ?_
      refine x_iload hx hb (kX12_more (i := 19) rfl) (lv_at hl 5 rfl) ?_
      refine jn_go h (fun J47 : Int → Option (Int × Mem) => ∀ (v_9 : Int) (H : Heap) (locs : List Loc) (ls : Array Slot), J47 v_9 = some (rv, gR) → Hd Θ s h0 g_8 H locs → lv_has ls 8 [(0, .ref (Θ.2.2.2 0)), (6, vi a5)] → W p l e { frames := 6, cells := 0, slots := 0, locals := 133 } s m args below meth c H locs 0 0 (MQ below (Qx Θ s.heap.size h0 gR (some (vi rv))) args s 0 0 (AA Θ s.heap.size)) (F0 m 47 ls [vi v_9, vi 1000, .ref (Θ.2.2.2 0)])) ?_ ?_
      · intro v_9 H locs ls h hM hl
        refine x_iadd hx hb (kX12_more (i := 24) rfl) ?_
        obtain ⟨g_12, hc_11, h⟩ := bd_some h
        refine x_callV (n := 1) (As := [vi (1000 + v_9)]) (rest := []) C hM (tX12_push l Θ (1000 + v_9) h0 g_8 g_12 hc_11) (x_recvM C hM 0 (by decide) (eM_0 Θ _) rfl rfl) q_c_X12_push q_mX12_306 q_i_X12_push q_e_X12_push q_n_X12 (by decide +kernel) ⟨by decide, by decide⟩ rfl hl.1 rfl (Nat.le_of_ble_eq_true rfl) (kX12_more (i := 25) rfl) (fun H locs hM => ?_)
        refine lv_aload_n hx hb (kX12_more (i := 26) rfl) rfl (lv_at hl 0 rfl) ?_
        refine x_iload hx hb (kX12_more (i := 27) rfl) (lv_at hl 1 rfl) ?_
        obtain ⟨g_15, hc_14, h⟩ := bd_some h
        refine x_callV (n := 1) (As := [vi a5]) (rest := []) C hM (tX12_push l Θ a5 h0 g_12 g_15 hc_14) (x_recvM C hM 0 (by decide) (eM_0 Θ _) rfl rfl) q_c_X12_push q_mX12_306 q_i_X12_push q_e_X12_push q_n_X12 (by decide +kernel) ⟨by decide, by decide⟩ rfl hl.1 rfl (Nat.le_of_ble_eq_true rfl) (kX12_more (i := 28) rfl) (fun H locs hM => ?_)
        refine x_iconst hx hb (kX12_more (i := 29) rfl) ?_
        obtain ⟨q1, q2⟩ := ret2 h
        rw [q1, q2]
        exact x_iret C hM (nar_z (Or.inr rfl)) (kX12_more (i := 30) rfl)
      intro J47 hJ47 h
      refine x_if_eq (a' := wr r_1) hx hb rfl (tgt := 45) (kX12_more (i := 20) rfl) (by decide) (fun c_16 => ?_) (fun c_16 => ?_)
      · have h := it_t c_16 h
        refine x_iload hx hb (kX12_more (i := 23) rfl) (lv_at hl 2 rfl) ?_
        exact hJ47 a3 H locs ls h hM (lv_sub hl [0, 4] rfl)
      · have h := it_f c_16 h
        refine x_iload_n hx hb (kX12_more (i := 21) rfl) rfl (lv_at hl 1 rfl) ?_
        refine lv_goto (tgt := 47) hx hb (kX12_more (i := 22) rfl) (by decide) ?_
        exact hJ47 a1 H locs ls h hM (lv_sub hl [0, 4] rfl)
    intro J22 hJ22 h
    refine x_if_ne (a' := wr r_1) hx hb rfl (tgt := 22) (kX12_more (i := 5) rfl) (by decide) (fun c_17 => ?_) (fun c_17 => ?_)
    · have h := it_f c_17 h
      exact hJ22 H locs ls h hM (lv_sub hl [1, 3, 5, 6, 7, 0] rfl)
    · have h := it_t c_17 h
      refine lv_aload_n hx hb (kX12_more (i := 6) rfl) rfl (lv_at hl 1 rfl) ?_
      refine x_iload_n hx hb (kX12_more (i := 7) rfl) rfl (lv_at hl 4 rfl) ?_
      obtain ⟨r_18, hc_19, h⟩ := bd_some h
      refine x_callV (n := 1) (As := [vi a2]) (rest := []) C hM (tX12_isSign l Θ a2 h0 g r_18 hc_19) (x_recvM C hM 0 (by decide) (eM_0 Θ _) rfl rfl) q_c_X12_isSign q_mX12_312 q_i_X12_isSign q_e_X12_isSign q_n_X12 (by decide +kernel) ⟨by decide, by decide⟩ rfl hl.1 rfl (Nat.le_of_ble_eq_true rfl) (kX12_more (i := 8) rfl) (fun H locs hM => ?_)
      refine x_if_ne (a' := wr r_18) hx hb rfl (tgt := 22) (kX12_more (i := 9) rfl) (by decide) (fun c_20 => ?_) (fun c_20 => ?_)
      · have h := it_f c_20 h
        exact hJ22 H locs ls h hM (lv_sub hl [1, 3, 5, 6, 7, 0] rfl)
      · have h := it_t c_20 h
        refine x_iconst hx hb (kX12_more (i := 10) rfl) ?_
        obtain ⟨q1, q2⟩ := ret2 h
        rw [q1, q2]
        exact x_iret C hM (nar_z (Or.inr rfl)) (kX12_more (i := 11) rfl)
  exact key _ _ hM

/-! X12_factor -/
def fX12_factor (g : Mem) : Option (Int × Mem) :=
  if wr (g 0 50) = 1 then (
    if wr (g 0 52) ≤ 9999 then (
      bd (fX12_emits 0 (g 0 52) g) fun g_33 =>
      bd2 (fX12_takes g_33) fun r_34 g_36 =>
      gc (r_34 = 0 ∨ r_34 = 1) <|
      some (r_34, g_36)
    ) else (
      some (0, g)
    )
  ) else (
    jn (fun (_ : Unit) =>
      bd (fX12_isSign 40 g) fun r_2 =>
      if wr r_2 = 0 then (
        some (0, g)
      ) else (
        bd2 (fX12_deeper g) fun r_5 g_7 =>
        if wr r_5 = 0 then (
          some (0, g_7)
        ) else (
          bd (fX12_push 141 g_7) fun g_11 =>
          bd (fX12_push 1 g_11) fun g_14 =>
          bd2 (fX12_takes g_14) fun r_15 g_17 =>
          gc (r_15 = 0 ∨ r_15 = 1) <|
          some (r_15, g_17)
        )
      )
    ) fun J71 =>
    if wr (g 0 50) = 2 then (
      bd (fX12_in (g 0 52) 2 8) fun r_20 =>
      if wr r_20 = 0 then (
        J71 ()
      ) else (
        bd (fX12_emits 1 ((g 0 52) - 2) g) fun g_25 =>
        bd2 (fX12_takes g_25) fun r_26 g_28 =>
        gc (r_26 = 0 ∨ r_26 = 1) <|
        some (r_26, g_28)
      )
    ) else (
      J71 ()
    )
  )
set_option maxRecDepth 100000 in
set_option maxHeartbeats 4000000 in
theorem tX12_factor (l : Launch) (Θ : Th) (h0 g : Mem) (rv : Int) (gR : Mem) (h : fX12_factor g = some (rv, gR)) : Ct l yX12_factor cX12_factor 1 (some .boolean) 7 153 Θ [.ref (Θ.2.2.2 0)] h0 g h0 gR (some (vi rv)) := by
  refine x_start (by decide) (Nat.le_of_ble_eq_true rfl) ?_
  intro p e s m args below meth c ls C hM hl
  have hl : lv_has ls 1 [(0, .ref (Θ.2.2.2 0))] := hl
  obtain ⟨hx, hb, hml, hown, hts, -⟩ := id C
  unfold fX12_factor at h
  have key : ∀ (H : Heap) (locs : List Loc), Hd Θ s h0 g H locs → W p l e { frames := 7, cells := 0, slots := 0, locals := 153 } s m args below meth c H locs 0 0 (MQ below (Qx Θ s.heap.size h0 gR (some (vi rv))) args s 0 0 (AA Θ s.heap.size)) (F0 m 0 ls []) := by
    intro H locs hM
    refine lv_aload_n hx hb (kX12_factor (i := 0) rfl) rfl (lv_at hl 0 rfl) ?_
    refine gX12_token C hM q_fX12_282 (kX12_factor (i := 1) rfl) ?_
    refine x_iconst hx hb (kX12_factor (i := 2) rfl) ?_
    refine x_icmp_ne (a' := wr (g 0 50)) (b' := 1) hx hb rfl (by decide) (tgt := 34) (kX12_factor (i := 3) rfl) (by decide) (fun c_1 => ?_) (fun c_1 => ?_)
    · have h := it_f c_1 h
      refine lv_aload_n hx hb (kX12_factor (i := 18) rfl) rfl (lv_at hl 0 rfl) ?_
      refine gX12_token C hM q_fX12_282 (kX12_factor (i := 19) rfl) ?_
      refine x_iconst hx hb (kX12_factor (i := 20) rfl) ?_
      refine jn_go h (fun J71 : Unit → Option (Int × Mem) => ∀ (H : Heap) (locs : List Loc) (ls : Array Slot), J71 () = some (rv, gR) → Hd Θ s h0 g H locs → lv_has ls 1 [(0, .ref (Θ.2.2.2 0))] → W p l e { frames := 7, cells := 0, slots := 0, locals := 153 } s m args below meth c H locs 0 0 (MQ below (Qx Θ s.heap.size h0 gR (some (vi rv))) args s 0 0 (AA Θ s.heap.size)) (F0 m 71 ls [])) ?_ ?_
      · intro  H locs ls h hM hl
        refine lv_aload_n hx hb (kX12_factor (i := 38) rfl) rfl (lv_at hl 0 rfl) ?_
        refine x_bipush hx hb (by decide) (kX12_factor (i := 39) rfl) ?_
        obtain ⟨r_2, hc_3, h⟩ := bd_some h
        refine x_callV (n := 1) (As := [vi 40]) (rest := []) C hM (tX12_isSign l Θ 40 h0 g r_2 hc_3) (x_recvM C hM 0 (by decide) (eM_0 Θ _) rfl rfl) q_c_X12_isSign q_mX12_312 q_i_X12_isSign q_e_X12_isSign q_n_X12 (by decide +kernel) ⟨by decide, by decide⟩ rfl hl.1 rfl (Nat.le_of_ble_eq_true rfl) (kX12_factor (i := 40) rfl) (fun H locs hM => ?_)
        refine x_if_eq (a' := wr r_2) hx hb rfl (tgt := 87) (kX12_factor (i := 41) rfl) (by decide) (fun c_4 => ?_) (fun c_4 => ?_)
        · have h := it_t c_4 h
          refine x_iconst hx hb (kX12_factor (i := 45) rfl) ?_
          obtain ⟨q1, q2⟩ := ret2 h
          rw [q1, q2]
          exact x_iret C hM (nar_z (Or.inl rfl)) (kX12_factor (i := 46) rfl)
        · have h := it_f c_4 h
          refine lv_aload_n hx hb (kX12_factor (i := 42) rfl) rfl (lv_at hl 0 rfl) ?_
          obtain ⟨r_5, g_7, hc_6, h⟩ := bd2_some h
          refine x_callV (n := 0) (As := []) (rest := []) C hM (tX12_deeper l Θ h0 g r_5 g_7 hc_6) (x_recvM C hM 0 (by decide) (eM_0 Θ _) rfl rfl) q_c_X12_deeper q_mX12_349 q_i_X12_deeper q_e_X12_deeper q_n_X12 (by decide +kernel) ⟨by decide, by decide⟩ rfl hl.1 rfl (Nat.le_of_ble_eq_true rfl) (kX12_factor (i := 43) rfl) (fun H locs hM => ?_)
          refine x_if_ne (a' := wr r_5) hx hb rfl (tgt := 89) (kX12_factor (i := 44) rfl) (by decide) (fun c_8 => ?_) (fun c_8 => ?_)
          · have h := it_f c_8 h
            refine lv_aload_n hx hb (kX12_factor (i := 47) rfl) rfl (lv_at hl 0 rfl) ?_
            refine x_sipush hx hb (by decide) (kX12_factor (i := 48) rfl) ?_
            obtain ⟨g_11, hc_10, h⟩ := bd_some h
            refine x_callV (n := 1) (As := [vi 141]) (rest := []) C hM (tX12_push l Θ 141 h0 g_7 g_11 hc_10) (x_recvM C hM 0 (by decide) (eM_0 Θ _) rfl rfl) q_c_X12_push q_mX12_306 q_i_X12_push q_e_X12_push q_n_X12 (by decide +kernel) ⟨by decide, by decide⟩ rfl hl.1 rfl (Nat.le_of_ble_eq_true rfl) (kX12_factor (i := 49) rfl) (fun H locs hM => ?_)
            refine lv_aload_n hx hb (kX12_factor (i := 50) rfl) rfl (lv_at hl 0 rfl) ?_
            refine x_iconst hx hb (kX12_factor (i := 51) rfl) ?_
            obtain ⟨g_14, hc_13, h⟩ := bd_some h
            refine x_callV (n := 1) (As := [vi 1]) (rest := []) C hM (tX12_push l Θ 1 h0 g_11 g_14 hc_13) (x_recvM C hM 0 (by decide) (eM_0 Θ _) rfl rfl) q_c_X12_push q_mX12_306 q_i_X12_push q_e_X12_push q_n_X12 (by decide +kernel) ⟨by decide, by decide⟩ rfl hl.1 rfl (Nat.le_of_ble_eq_true rfl) (kX12_factor (i := 52) rfl) (fun H locs hM => ?_)
            refine lv_aload_n hx hb (kX12_factor (i := 53) rfl) rfl (lv_at hl 0 rfl) ?_
            obtain ⟨r_15, g_17, hc_16, h⟩ := bd2_some h
            refine x_callV (n := 0) (As := []) (rest := []) C hM (tX12_takes l Θ h0 g_14 r_15 g_17 hc_16) (x_recvM C hM 0 (by decide) (eM_0 Θ _) rfl rfl) q_c_X12_takes q_mX12_315 q_i_X12_takes q_e_X12_takes q_n_X12 (by decide +kernel) ⟨by decide, by decide⟩ rfl hl.1 rfl (Nat.le_of_ble_eq_true rfl) (kX12_factor (i := 54) rfl) (fun H locs hM => ?_)
            obtain ⟨hz_18, h⟩ := gc_some h
            obtain ⟨q1, q2⟩ := ret2 h
            rw [q1, q2]
            exact x_iret C hM (nar_z hz_18) (kX12_factor (i := 55) rfl)
          · have h := it_t c_8 h
            refine x_iconst hx hb (kX12_factor (i := 45) rfl) ?_
            obtain ⟨q1, q2⟩ := ret2 h
            rw [q1, q2]
            exact x_iret C hM (nar_z (Or.inl rfl)) (kX12_factor (i := 46) rfl)
      intro J71 hJ71 h
      refine x_icmp_ne (a' := wr (g 0 50)) (b' := 2) hx hb rfl (by decide) (tgt := 71) (kX12_factor (i := 21) rfl) (by decide) (fun c_19 => ?_) (fun c_19 => ?_)
      · have h := it_f c_19 h
        exact hJ71 H locs ls h hM (lv_sub hl [0] rfl)
      · have h := it_t c_19 h
        refine lv_aload_n hx hb (kX12_factor (i := 22) rfl) rfl (lv_at hl 0 rfl) ?_
        refine gX12_tokenValue C hM q_fX12_279 (kX12_factor (i := 23) rfl) ?_
        refine x_iconst hx hb (kX12_factor (i := 24) rfl) ?_
        refine x_bipush hx hb (by decide) (kX12_factor (i := 25) rfl) ?_
        obtain ⟨r_20, hc_21, h⟩ := bd_some h
        refine x_callS (n := 3) (As := [vi (g 0 52), vi 2, vi 8]) (rest := []) C hM (tX12_in l Θ (g 0 52) 2 8 h0 g r_20 hc_21) q_c_X12_in q_mX12_173 q_s_X12_in q_n_X12 (by decide +kernel) ⟨by decide, by decide⟩ rfl hl.1 rfl (Nat.le_of_ble_eq_true rfl) (kX12_factor (i := 26) rfl) (fun H locs hM => ?_)
        refine x_if_eq (a' := wr r_20) hx hb rfl (tgt := 71) (kX12_factor (i := 27) rfl) (by decide) (fun c_22 => ?_) (fun c_22 => ?_)
        · have h := it_t c_22 h
          exact hJ71 H locs ls h hM (lv_sub hl [0] rfl)
        · have h := it_f c_22 h
          refine lv_aload_n hx hb (kX12_factor (i := 28) rfl) rfl (lv_at hl 0 rfl) ?_
          refine x_iconst hx hb (kX12_factor (i := 29) rfl) ?_
          refine lv_aload_n hx hb (kX12_factor (i := 30) rfl) rfl (lv_at hl 0 rfl) ?_
          refine gX12_tokenValue C hM q_fX12_279 (kX12_factor (i := 31) rfl) ?_
          refine x_iconst hx hb (kX12_factor (i := 32) rfl) ?_
          refine x_isub hx hb (kX12_factor (i := 33) rfl) ?_
          obtain ⟨g_25, hc_24, h⟩ := bd_some h
          refine x_callV (n := 2) (As := [vi 1, vi ((g 0 52) - 2)]) (rest := []) C hM (tX12_emits l Θ 1 ((g 0 52) - 2) h0 g g_25 hc_24) (x_recvM C hM 0 (by decide) (eM_0 Θ _) rfl rfl) q_c_X12_emits q_mX12_309 q_i_X12_emits q_e_X12_emits q_n_X12 (by decide +kernel) ⟨by decide, by decide⟩ rfl hl.1 rfl (Nat.le_of_ble_eq_true rfl) (kX12_factor (i := 34) rfl) (fun H locs hM => ?_)
          refine lv_aload_n hx hb (kX12_factor (i := 35) rfl) rfl (lv_at hl 0 rfl) ?_
          obtain ⟨r_26, g_28, hc_27, h⟩ := bd2_some h
          refine x_callV (n := 0) (As := []) (rest := []) C hM (tX12_takes l Θ h0 g_25 r_26 g_28 hc_27) (x_recvM C hM 0 (by decide) (eM_0 Θ _) rfl rfl) q_c_X12_takes q_mX12_315 q_i_X12_takes q_e_X12_takes q_n_X12 (by decide +kernel) ⟨by decide, by decide⟩ rfl hl.1 rfl (Nat.le_of_ble_eq_true rfl) (kX12_factor (i := 36) rfl) (fun H locs hM => ?_)
          obtain ⟨hz_29, h⟩ := gc_some h
          obtain ⟨q1, q2⟩ := ret2 h
          rw [q1, q2]
          exact x_iret C hM (nar_z hz_29) (kX12_factor (i := 37) rfl)
    · have h := it_t c_1 h
      refine lv_aload_n hx hb (kX12_factor (i := 4) rfl) rfl (lv_at hl 0 rfl) ?_
      refine gX12_tokenValue C hM q_fX12_279 (kX12_factor (i := 5) rfl) ?_
      refine x_sipush hx hb (by decide) (kX12_factor (i := 6) rfl) ?_
      refine x_icmp_le (a' := wr (g 0 52)) (b' := 9999) hx hb rfl (by decide) (tgt := 20) (kX12_factor (i := 7) rfl) (by decide) (fun c_30 => ?_) (fun c_30 => ?_)
      · have h := it_t c_30 h
        refine lv_aload_n hx hb (kX12_factor (i := 10) rfl) rfl (lv_at hl 0 rfl) ?_
        refine x_iconst hx hb (kX12_factor (i := 11) rfl) ?_
        refine lv_aload_n hx hb (kX12_factor (i := 12) rfl) rfl (lv_at hl 0 rfl) ?_
        refine gX12_tokenValue C hM q_fX12_279 (kX12_factor (i := 13) rfl) ?_
        obtain ⟨g_33, hc_32, h⟩ := bd_some h
        refine x_callV (n := 2) (As := [vi 0, vi (g 0 52)]) (rest := []) C hM (tX12_emits l Θ 0 (g 0 52) h0 g g_33 hc_32) (x_recvM C hM 0 (by decide) (eM_0 Θ _) rfl rfl) q_c_X12_emits q_mX12_309 q_i_X12_emits q_e_X12_emits q_n_X12 (by decide +kernel) ⟨by decide, by decide⟩ rfl hl.1 rfl (Nat.le_of_ble_eq_true rfl) (kX12_factor (i := 14) rfl) (fun H locs hM => ?_)
        refine lv_aload_n hx hb (kX12_factor (i := 15) rfl) rfl (lv_at hl 0 rfl) ?_
        obtain ⟨r_34, g_36, hc_35, h⟩ := bd2_some h
        refine x_callV (n := 0) (As := []) (rest := []) C hM (tX12_takes l Θ h0 g_33 r_34 g_36 hc_35) (x_recvM C hM 0 (by decide) (eM_0 Θ _) rfl rfl) q_c_X12_takes q_mX12_315 q_i_X12_takes q_e_X12_takes q_n_X12 (by decide +kernel) ⟨by decide, by decide⟩ rfl hl.1 rfl (Nat.le_of_ble_eq_true rfl) (kX12_factor (i := 16) rfl) (fun H locs hM => ?_)
        obtain ⟨hz_37, h⟩ := gc_some h
        obtain ⟨q1, q2⟩ := ret2 h
        rw [q1, q2]
        exact x_iret C hM (nar_z hz_37) (kX12_factor (i := 17) rfl)
      · have h := it_f c_30 h
        refine x_iconst hx hb (kX12_factor (i := 8) rfl) ?_
        obtain ⟨q1, q2⟩ := ret2 h
        rw [q1, q2]
        exact x_iret C hM (nar_z (Or.inl rfl)) (kX12_factor (i := 9) rfl)
  exact key _ _ hM

/-! X12_moreWords -/
def fX12_moreWords (a0 : Int) (a1 : Int) (a2 : Int) (a3 : Int) (g : Mem) : Option (Int × Mem) :=
  bd (fX12_isWord a0 g) fun r_1 =>
  if wr r_1 = 0 then (
    some (1, g)
  ) else (
    bd (fX12_next g) fun g_6 =>
    bd (fX12_push a2 g_6) fun g_9 =>
    bd (fX12_push (1000 + a1) g_9) fun g_12 =>
    bd (fX12_push a3 g_12) fun g_15 =>
    some (1, g_15)
  )
set_option maxRecDepth 100000 in
set_option maxHeartbeats 4000000 in
theorem tX12_moreWords (l : Launch) (Θ : Th) (a0 : Int) (a1 : Int) (a2 : Int) (a3 : Int) (h0 g : Mem) (rv : Int) (gR : Mem) (h : fX12_moreWords a0 a1 a2 a3 g = some (rv, gR)) : Ct l yX12_moreWords cX12_moreWords 5 (some .boolean) 6 133 Θ [.ref (Θ.2.2.2 0), vi a0, vi a1, vi a2, vi a3] h0 g h0 gR (some (vi rv)) := by
  refine x_start (by decide) (Nat.le_of_ble_eq_true rfl) ?_
  intro p e s m args below meth c ls C hM hl
  have hl : lv_has ls 5 [(0, .ref (Θ.2.2.2 0)), (1, vi a0), (2, vi a1), (3, vi a2), (4, vi a3)] := hl
  obtain ⟨hx, hb, hml, hown, hts, -⟩ := id C
  unfold fX12_moreWords at h
  have key : ∀ (H : Heap) (locs : List Loc), Hd Θ s h0 g H locs → W p l e { frames := 6, cells := 0, slots := 0, locals := 133 } s m args below meth c H locs 0 0 (MQ below (Qx Θ s.heap.size h0 gR (some (vi rv))) args s 0 0 (AA Θ s.heap.size)) (F0 m 0 ls []) := by
    intro H locs hM
    refine lv_aload_n hx hb (kX12_moreWords (i := 0) rfl) rfl (lv_at hl 0 rfl) ?_
    refine x_iload_n hx hb (kX12_moreWords (i := 1) rfl) rfl (lv_at hl 1 rfl) ?_
    obtain ⟨r_1, hc_2, h⟩ := bd_some h
    refine x_callV (n := 1) (As := [vi a0]) (rest := []) C hM (tX12_isWord l Θ a0 h0 g r_1 hc_2) (x_recvM C hM 0 (by decide) (eM_0 Θ _) rfl rfl) q_c_X12_isWord q_mX12_346 q_i_X12_isWord q_e_X12_isWord q_n_X12 (by decide +kernel) ⟨by decide, by decide⟩ rfl hl.1 rfl (Nat.le_of_ble_eq_true rfl) (kX12_moreWords (i := 2) rfl) (fun H locs hM => ?_)
    refine x_if_ne (a' := wr r_1) hx hb rfl (tgt := 10) (kX12_moreWords (i := 3) rfl) (by decide) (fun c_3 => ?_) (fun c_3 => ?_)
    · have h := it_f c_3 h
      refine lv_aload_n hx hb (kX12_moreWords (i := 6) rfl) rfl (lv_at hl 0 rfl) ?_
      obtain ⟨g_6, hc_5, h⟩ := bd_some h
      refine x_callV (n := 0) (As := []) (rest := []) C hM (tX12_next l Θ h0 g g_6 hc_5) (x_recvM C hM 0 (by decide) (eM_0 Θ _) rfl rfl) q_c_X12_next q_mX12_300 q_i_X12_next q_e_X12_next q_n_X12 (by decide +kernel) ⟨by decide, by decide⟩ rfl hl.1 rfl (Nat.le_of_ble_eq_true rfl) (kX12_moreWords (i := 7) rfl) (fun H locs hM => ?_)
      refine lv_aload_n hx hb (kX12_moreWords (i := 8) rfl) rfl (lv_at hl 0 rfl) ?_
      refine x_iload_n hx hb (kX12_moreWords (i := 9) rfl) rfl (lv_at hl 3 rfl) ?_
      obtain ⟨g_9, hc_8, h⟩ := bd_some h
      refine x_callV (n := 1) (As := [vi a2]) (rest := []) C hM (tX12_push l Θ a2 h0 g_6 g_9 hc_8) (x_recvM C hM 0 (by decide) (eM_0 Θ _) rfl rfl) q_c_X12_push q_mX12_306 q_i_X12_push q_e_X12_push q_n_X12 (by decide +kernel) ⟨by decide, by decide⟩ rfl hl.1 rfl (Nat.le_of_ble_eq_true rfl) (kX12_moreWords (i := 10) rfl) (fun H locs hM => ?_)
      refine lv_aload_n hx hb (kX12_moreWords (i := 11) rfl) rfl (lv_at hl 0 rfl) ?_
      refine x_sipush hx hb (by decide) (kX12_moreWords (i := 12) rfl) ?_
      refine x_iload_n hx hb (kX12_moreWords (i := 13) rfl) rfl (lv_at hl 2 rfl) ?_
      refine x_iadd hx hb (kX12_moreWords (i := 14) rfl) ?_
      obtain ⟨g_12, hc_11, h⟩ := bd_some h
      refine x_callV (n := 1) (As := [vi (1000 + a1)]) (rest := []) C hM (tX12_push l Θ (1000 + a1) h0 g_9 g_12 hc_11) (x_recvM C hM 0 (by decide) (eM_0 Θ _) rfl rfl) q_c_X12_push q_mX12_306 q_i_X12_push q_e_X12_push q_n_X12 (by decide +kernel) ⟨by decide, by decide⟩ rfl hl.1 rfl (Nat.le_of_ble_eq_true rfl) (kX12_moreWords (i := 15) rfl) (fun H locs hM => ?_)
      refine lv_aload_n hx hb (kX12_moreWords (i := 16) rfl) rfl (lv_at hl 0 rfl) ?_
      refine x_iload hx hb (kX12_moreWords (i := 17) rfl) (lv_at hl 4 rfl) ?_
      obtain ⟨g_15, hc_14, h⟩ := bd_some h
      refine x_callV (n := 1) (As := [vi a3]) (rest := []) C hM (tX12_push l Θ a3 h0 g_12 g_15 hc_14) (x_recvM C hM 0 (by decide) (eM_0 Θ _) rfl rfl) q_c_X12_push q_mX12_306 q_i_X12_push q_e_X12_push q_n_X12 (by decide +kernel) ⟨by decide, by decide⟩ rfl hl.1 rfl (Nat.le_of_ble_eq_true rfl) (kX12_moreWords (i := 18) rfl) (fun H locs hM => ?_)
      refine x_iconst hx hb (kX12_moreWords (i := 19) rfl) ?_
      obtain ⟨q1, q2⟩ := ret2 h
      rw [q1, q2]
      exact x_iret C hM (nar_z (Or.inr rfl)) (kX12_moreWords (i := 20) rfl)
    · have h := it_t c_3 h
      refine x_iconst hx hb (kX12_moreWords (i := 4) rfl) ?_
      obtain ⟨q1, q2⟩ := ret2 h
      rw [q1, q2]
      exact x_iret C hM (nar_z (Or.inr rfl)) (kX12_moreWords (i := 5) rfl)
  exact key _ _ hM

/-! X12_holdsOne -/
def fX12_holdsOne (g : Mem) : Option (Int × Mem) :=
  bd (fX12_isWord 11 g) fun r_1 =>
  jn (fun (_ : Unit) =>
    bd2 (fX12_deeper g) fun r_3 g_5 =>
    if wr r_3 = 0 then (
      some (0, g_5)
    ) else (
      jn (fun (v_7 : Int) =>
        bd (fX12_push v_7 g_5) fun g_10 =>
        jn (fun (v_11 : Int) =>
          bd (fX12_push v_11 g_10) fun g_14 =>
          bd2 (fX12_takes g_14) fun r_15 g_17 =>
          gc (r_15 = 0 ∨ r_15 = 1) <|
          some (r_15, g_17)
        ) fun J66 =>
        if wr r_1 = 0 then (
          J66 6
        ) else (
          J66 10
        )
      ) fun J51 =>
      if wr r_1 = 0 then (
        J51 193
      ) else (
        J51 1011
      )
    )
  ) fun J28 =>
  if wr r_1 = 0 then (
    bd (fX12_isSign 91 g) fun r_22 =>
    if wr r_22 = 0 then (
      bd2 (fX12_both 11 1 g) fun r_25 g_27 =>
      gc (r_25 = 0 ∨ r_25 = 1) <|
      some (r_25, g_27)
    ) else (
      J28 ()
    )
  ) else (
    J28 ()
  )
set_option maxRecDepth 100000 in
set_option maxHeartbeats 4000000 in
theorem tX12_holdsOne (l : Launch) (Θ : Th) (h0 g : Mem) (rv : Int) (gR : Mem) (h : fX12_holdsOne g = some (rv, gR)) : Ct l yX12_holdsOne cX12_holdsOne 2 (some .boolean) 7 153 Θ [.ref (Θ.2.2.2 0)] h0 g h0 gR (some (vi rv)) := by
  refine x_start (by decide) (Nat.le_of_ble_eq_true rfl) ?_
  intro p e s m args below meth c ls C hM hl
  have hl : lv_has ls 2 [(0, .ref (Θ.2.2.2 0))] := hl
  obtain ⟨hx, hb, hml, hown, hts, -⟩ := id C
  unfold fX12_holdsOne at h
  have key : ∀ (H : Heap) (locs : List Loc), Hd Θ s h0 g H locs → W p l e { frames := 7, cells := 0, slots := 0, locals := 153 } s m args below meth c H locs 0 0 (MQ below (Qx Θ s.heap.size h0 gR (some (vi rv))) args s 0 0 (AA Θ s.heap.size)) (F0 m 0 ls []) := by
    intro H locs hM
    refine lv_aload_n hx hb (kX12_holdsOne (i := 0) rfl) rfl (lv_at hl 0 rfl) ?_
    refine x_bipush hx hb (by decide) (kX12_holdsOne (i := 1) rfl) ?_
    obtain ⟨r_1, hc_2, h⟩ := bd_some h
    refine x_callV (n := 1) (As := [vi 11]) (rest := []) C hM (tX12_isWord l Θ 11 h0 g r_1 hc_2) (x_recvM C hM 0 (by decide) (eM_0 Θ _) rfl rfl) q_c_X12_isWord q_mX12_346 q_i_X12_isWord q_e_X12_isWord q_n_X12 (by decide +kernel) ⟨by decide, by decide⟩ rfl hl.1 rfl (Nat.le_of_ble_eq_true rfl) (kX12_holdsOne (i := 2) rfl) (fun H locs hM => ?_)
    refine x_istore_n (lv' := [(1, vi r_1), (0, .ref (Θ.2.2.2 0))]) hx hb (kX12_holdsOne (i := 3) rfl) rfl hl (by decide) rfl (fun ls hl => ?_)
    refine x_iload_n hx hb (kX12_holdsOne (i := 4) rfl) rfl (lv_at hl 0 rfl) ?_
    refine jn_go h (fun J28 : Unit → Option (Int × Mem) => ∀ (H : Heap) (locs : List Loc) (ls : Array Slot), J28 () = some (rv, gR) → Hd Θ s h0 g H locs → lv_has ls 2 [(0, .ref (Θ.2.2.2 0)), (1, vi r_1)] → W p l e { frames := 7, cells := 0, slots := 0, locals := 153 } s m args below meth c H locs 0 0 (MQ below (Qx Θ s.heap.size h0 gR (some (vi rv))) args s 0 0 (AA Θ s.heap.size)) (F0 m 28 ls [])) ?_ ?_
    · intro  H locs ls h hM hl
      refine lv_aload_n hx hb (kX12_holdsOne (i := 15) rfl) rfl (lv_at hl 0 rfl) ?_
      obtain ⟨r_3, g_5, hc_4, h⟩ := bd2_some h
      refine x_callV (n := 0) (As := []) (rest := []) C hM (tX12_deeper l Θ h0 g r_3 g_5 hc_4) (x_recvM C hM 0 (by decide) (eM_0 Θ _) rfl rfl) q_c_X12_deeper q_mX12_349 q_i_X12_deeper q_e_X12_deeper q_n_X12 (by decide +kernel) ⟨by decide, by decide⟩ rfl hl.1 rfl (Nat.le_of_ble_eq_true rfl) (kX12_holdsOne (i := 16) rfl) (fun H locs hM => ?_)
      refine x_if_ne (a' := wr r_3) hx hb rfl (tgt := 37) (kX12_holdsOne (i := 17) rfl) (by decide) (fun c_6 => ?_) (fun c_6 => ?_)
      · have h := it_f c_6 h
        refine lv_aload_n hx hb (kX12_holdsOne (i := 20) rfl) rfl (lv_at hl 0 rfl) ?_
        refine x_iload_n hx hb (kX12_holdsOne (i := 21) rfl) rfl (lv_at hl 1 rfl) ?_
        refine jn_go h (fun J51 : Int → Option (Int × Mem) => ∀ (v_7 : Int) (H : Heap) (locs : List Loc) (ls : Array Slot), J51 v_7 = some (rv, gR) → Hd Θ s h0 g_5 H locs → lv_has ls 2 [(0, .ref (Θ.2.2.2 0)), (1, vi r_1)] → W p l e { frames := 7, cells := 0, slots := 0, locals := 153 } s m args below meth c H locs 0 0 (MQ below (Qx Θ s.heap.size h0 gR (some (vi rv))) args s 0 0 (AA Θ s.heap.size)) (F0 m 51 ls [vi v_7, .ref (Θ.2.2.2 0)])) ?_ ?_
        · intro v_7 H locs ls h hM hl
          obtain ⟨g_10, hc_9, h⟩ := bd_some h
          refine x_callV (n := 1) (As := [vi v_7]) (rest := []) C hM (tX12_push l Θ v_7 h0 g_5 g_10 hc_9) (x_recvM C hM 0 (by decide) (eM_0 Θ _) rfl rfl) q_c_X12_push q_mX12_306 q_i_X12_push q_e_X12_push q_n_X12 (by decide +kernel) ⟨by decide, by decide⟩ rfl hl.1 rfl (Nat.le_of_ble_eq_true rfl) (kX12_holdsOne (i := 26) rfl) (fun H locs hM => ?_)
          refine lv_aload_n hx hb (kX12_holdsOne (i := 27) rfl) rfl (lv_at hl 0 rfl) ?_
          refine x_iload_n hx hb (kX12_holdsOne (i := 28) rfl) rfl (lv_at hl 1 rfl) ?_
          refine jn_go h (fun J66 : Int → Option (Int × Mem) => ∀ (v_11 : Int) (H : Heap) (locs : List Loc) (ls : Array Slot), J66 v_11 = some (rv, gR) → Hd Θ s h0 g_10 H locs → lv_has ls 2 [(0, .ref (Θ.2.2.2 0))] → W p l e { frames := 7, cells := 0, slots := 0, locals := 153 } s m args below meth c H locs 0 0 (MQ below (Qx Θ s.heap.size h0 gR (some (vi rv))) args s 0 0 (AA Θ s.heap.size)) (F0 m 66 ls [vi v_11, .ref (Θ.2.2.2 0)])) ?_ ?_
          · intro v_11 H locs ls h hM hl
            obtain ⟨g_14, hc_13, h⟩ := bd_some h
            refine x_callV (n := 1) (As := [vi v_11]) (rest := []) C hM (tX12_push l Θ v_11 h0 g_10 g_14 hc_13) (x_recvM C hM 0 (by decide) (eM_0 Θ _) rfl rfl) q_c_X12_push q_mX12_306 q_i_X12_push q_e_X12_push q_n_X12 (by decide +kernel) ⟨by decide, by decide⟩ rfl hl.1 rfl (Nat.le_of_ble_eq_true rfl) (kX12_holdsOne (i := 33) rfl) (fun H locs hM => ?_)
            refine lv_aload_n hx hb (kX12_holdsOne (i := 34) rfl) rfl (lv_at hl 0 rfl) ?_
            obtain ⟨r_15, g_17, hc_16, h⟩ := bd2_some h
            refine x_callV (n := 0) (As := []) (rest := []) C hM (tX12_takes l Θ h0 g_14 r_15 g_17 hc_16) (x_recvM C hM 0 (by decide) (eM_0 Θ _) rfl rfl) q_c_X12_takes q_mX12_315 q_i_X12_takes q_e_X12_takes q_n_X12 (by decide +kernel) ⟨by decide, by decide⟩ rfl hl.1 rfl (Nat.le_of_ble_eq_true rfl) (kX12_holdsOne (i := 35) rfl) (fun H locs hM => ?_)
            obtain ⟨hz_18, h⟩ := gc_some h
            obtain ⟨q1, q2⟩ := ret2 h
            rw [q1, q2]
            exact x_iret C hM (nar_z hz_18) (kX12_holdsOne (i := 36) rfl)
          intro J66 hJ66 h
          refine x_if_eq (a' := wr r_1) hx hb rfl (tgt := 64) (kX12_holdsOne (i := 29) rfl) (by decide) (fun c_19 => ?_) (fun c_19 => ?_)
          · have h := it_t c_19 h
            refine x_bipush hx hb (by decide) (kX12_holdsOne (i := 32) rfl) ?_
            exact hJ66 6 H locs ls h hM (lv_sub hl [0] rfl)
          · have h := it_f c_19 h
            refine x_bipush hx hb (by decide) (kX12_holdsOne (i := 30) rfl) ?_
            refine lv_goto (tgt := 66) hx hb (kX12_holdsOne (i := 31) rfl) (by decide) ?_
            exact hJ66 10 H locs ls h hM (lv_sub hl [0] rfl)
        intro J51 hJ51 h
        refine x_if_eq (a' := wr r_1) hx hb rfl (tgt := 48) (kX12_holdsOne (i := 22) rfl) (by decide) (fun c_20 => ?_) (fun c_20 => ?_)
        · have h := it_t c_20 h
          refine x_sipush hx hb (by decide) (kX12_holdsOne (i := 25) rfl) ?_
          exact hJ51 193 H locs ls h hM (lv_sub hl [0, 1] rfl)
        · have h := it_f c_20 h
          refine x_sipush hx hb (by decide) (kX12_holdsOne (i := 23) rfl) ?_
          refine lv_goto (tgt := 51) hx hb (kX12_holdsOne (i := 24) rfl) (by decide) ?_
          exact hJ51 1011 H locs ls h hM (lv_sub hl [0, 1] rfl)
      · have h := it_t c_6 h
        refine x_iconst hx hb (kX12_holdsOne (i := 18) rfl) ?_
        obtain ⟨q1, q2⟩ := ret2 h
        rw [q1, q2]
        exact x_iret C hM (nar_z (Or.inl rfl)) (kX12_holdsOne (i := 19) rfl)
    intro J28 hJ28 h
    refine x_if_ne (a' := wr r_1) hx hb rfl (tgt := 28) (kX12_holdsOne (i := 5) rfl) (by decide) (fun c_21 => ?_) (fun c_21 => ?_)
    · have h := it_f c_21 h
      exact hJ28 H locs ls h hM (lv_sub hl [1, 0] rfl)
    · have h := it_t c_21 h
      refine lv_aload_n hx hb (kX12_holdsOne (i := 6) rfl) rfl (lv_at hl 1 rfl) ?_
      refine x_bipush hx hb (by decide) (kX12_holdsOne (i := 7) rfl) ?_
      obtain ⟨r_22, hc_23, h⟩ := bd_some h
      refine x_callV (n := 1) (As := [vi 91]) (rest := []) C hM (tX12_isSign l Θ 91 h0 g r_22 hc_23) (x_recvM C hM 0 (by decide) (eM_0 Θ _) rfl rfl) q_c_X12_isSign q_mX12_312 q_i_X12_isSign q_e_X12_isSign q_n_X12 (by decide +kernel) ⟨by decide, by decide⟩ rfl hl.1 rfl (Nat.le_of_ble_eq_true rfl) (kX12_holdsOne (i := 8) rfl) (fun H locs hM => ?_)
      refine x_if_ne (a' := wr r_22) hx hb rfl (tgt := 28) (kX12_holdsOne (i := 9) rfl) (by decide) (fun c_24 => ?_) (fun c_24 => ?_)
      · have h := it_f c_24 h
        exact hJ28 H locs ls h hM (lv_sub hl [1, 0] rfl)
      · have h := it_t c_24 h
        refine lv_aload_n hx hb (kX12_holdsOne (i := 10) rfl) rfl (lv_at hl 1 rfl) ?_
        refine x_bipush hx hb (by decide) (kX12_holdsOne (i := 11) rfl) ?_
        refine x_iconst hx hb (kX12_holdsOne (i := 12) rfl) ?_
        obtain ⟨r_25, g_27, hc_26, h⟩ := bd2_some h
        refine x_callV (n := 2) (As := [vi 11, vi 1]) (rest := []) C hM (tX12_both l Θ 11 1 h0 g r_25 g_27 hc_26) (x_recvM C hM 0 (by decide) (eM_0 Θ _) rfl rfl) q_c_X12_both q_mX12_322 q_i_X12_both q_e_X12_both q_n_X12 (by decide +kernel) ⟨by decide, by decide⟩ rfl hl.1 rfl (Nat.le_of_ble_eq_true rfl) (kX12_holdsOne (i := 13) rfl) (fun H locs hM => ?_)
        obtain ⟨hz_28, h⟩ := gc_some h
        obtain ⟨q1, q2⟩ := ret2 h
        rw [q1, q2]
        exact x_iret C hM (nar_z hz_28) (kX12_holdsOne (i := 14) rfl)
  exact key _ _ hM

/-! X12_compares -/
def fX12_compares (g : Mem) : Option (Int × Mem) :=
  bd (fX12_isSign 60 g) fun r_1 =>
  jn (fun (_ : Unit) =>
    bd (fX12_isSign 60 g) fun r_3 =>
    jn (fun (v_5 : Int) =>
      bd (fX12_push (1000 + v_5) g) fun g_8 =>
      bd (fX12_push 1 g_8) fun g_11 =>
      bd2 (fX12_takes g_11) fun r_12 g_14 =>
      gc (r_12 = 0 ∨ r_12 = 1) <|
      some (r_12, g_14)
    ) fun J63 =>
    if wr r_3 = 0 then (
      bd (fX12_isSign 62 g) fun r_17 =>
      if wr r_17 = 0 then (
        J63 8
      ) else (
        J63 7
      )
    ) else (
      J63 6
    )
  ) fun J29 =>
  if wr r_1 = 0 then (
    bd (fX12_isSign 62 g) fun r_21 =>
    if wr r_21 = 0 then (
      bd (fX12_isSign 61 g) fun r_24 =>
      if wr r_24 = 0 then (
        some (0, g)
      ) else (
        J29 ()
      )
    ) else (
      J29 ()
    )
  ) else (
    J29 ()
  )
set_option maxRecDepth 100000 in
set_option maxHeartbeats 4000000 in
theorem tX12_compares (l : Launch) (Θ : Th) (h0 g : Mem) (rv : Int) (gR : Mem) (h : fX12_compares g = some (rv, gR)) : Ct l yX12_compares cX12_compares 1 (some .boolean) 7 153 Θ [.ref (Θ.2.2.2 0)] h0 g h0 gR (some (vi rv)) := by
  refine x_start (by decide) (Nat.le_of_ble_eq_true rfl) ?_
  intro p e s m args below meth c ls C hM hl
  have hl : lv_has ls 1 [(0, .ref (Θ.2.2.2 0))] := hl
  obtain ⟨hx, hb, hml, hown, hts, -⟩ := id C
  unfold fX12_compares at h
  have key : ∀ (H : Heap) (locs : List Loc), Hd Θ s h0 g H locs → W p l e { frames := 7, cells := 0, slots := 0, locals := 153 } s m args below meth c H locs 0 0 (MQ below (Qx Θ s.heap.size h0 gR (some (vi rv))) args s 0 0 (AA Θ s.heap.size)) (F0 m 0 ls []) := by
    intro H locs hM
    refine lv_aload_n hx hb (kX12_compares (i := 0) rfl) rfl (lv_at hl 0 rfl) ?_
    refine x_bipush hx hb (by decide) (kX12_compares (i := 1) rfl) ?_
    obtain ⟨r_1, hc_2, h⟩ := bd_some h
    refine x_callV (n := 1) (As := [vi 60]) (rest := []) C hM (tX12_isSign l Θ 60 h0 g r_1 hc_2) (x_recvM C hM 0 (by decide) (eM_0 Θ _) rfl rfl) q_c_X12_isSign q_mX12_312 q_i_X12_isSign q_e_X12_isSign q_n_X12 (by decide +kernel) ⟨by decide, by decide⟩ rfl hl.1 rfl (Nat.le_of_ble_eq_true rfl) (kX12_compares (i := 2) rfl) (fun H locs hM => ?_)
    refine jn_go h (fun J29 : Unit → Option (Int × Mem) => ∀ (H : Heap) (locs : List Loc) (ls : Array Slot), J29 () = some (rv, gR) → Hd Θ s h0 g H locs → lv_has ls 1 [(0, .ref (Θ.2.2.2 0))] → W p l e { frames := 7, cells := 0, slots := 0, locals := 153 } s m args below meth c H locs 0 0 (MQ below (Qx Θ s.heap.size h0 gR (some (vi rv))) args s 0 0 (AA Θ s.heap.size)) (F0 m 29 ls [])) ?_ ?_
    · intro  H locs ls h hM hl
      refine lv_aload_n hx hb (kX12_compares (i := 14) rfl) rfl (lv_at hl 0 rfl) ?_
      refine x_sipush hx hb (by decide) (kX12_compares (i := 15) rfl) ?_
      refine lv_aload_n hx hb (kX12_compares (i := 16) rfl) rfl (lv_at hl 0 rfl) ?_
      refine x_bipush hx hb (by decide) (kX12_compares (i := 17) rfl) ?_
      obtain ⟨r_3, hc_4, h⟩ := bd_some h
      refine x_callV (n := 1) (As := [vi 60]) (rest := [vi 1000, .ref (Θ.2.2.2 0)]) C hM (tX12_isSign l Θ 60 h0 g r_3 hc_4) (x_recvM C hM 0 (by decide) (eM_0 Θ _) rfl rfl) q_c_X12_isSign q_mX12_312 q_i_X12_isSign q_e_X12_isSign q_n_X12 (by decide +kernel) ⟨by decide, by decide⟩ rfl hl.1 rfl (Nat.le_of_ble_eq_true rfl) (kX12_compares (i := 18) rfl) (fun H locs hM => ?_)
      refine jn_go h (fun J63 : Int → Option (Int × Mem) => ∀ (v_5 : Int) (H : Heap) (locs : List Loc) (ls : Array Slot), J63 v_5 = some (rv, gR) → Hd Θ s h0 g H locs → lv_has ls 1 [(0, .ref (Θ.2.2.2 0))] → W p l e { frames := 7, cells := 0, slots := 0, locals := 153 } s m args below meth c H locs 0 0 (MQ below (Qx Θ s.heap.size h0 gR (some (vi rv))) args s 0 0 (AA Θ s.heap.size)) (F0 m 63 ls [vi v_5, vi 1000, .ref (Θ.2.2.2 0)])) ?_ ?_
      · intro v_5 H locs ls h hM hl
        refine x_iadd hx hb (kX12_compares (i := 29) rfl) ?_
        obtain ⟨g_8, hc_7, h⟩ := bd_some h
        refine x_callV (n := 1) (As := [vi (1000 + v_5)]) (rest := []) C hM (tX12_push l Θ (1000 + v_5) h0 g g_8 hc_7) (x_recvM C hM 0 (by decide) (eM_0 Θ _) rfl rfl) q_c_X12_push q_mX12_306 q_i_X12_push q_e_X12_push q_n_X12 (by decide +kernel) ⟨by decide, by decide⟩ rfl hl.1 rfl (Nat.le_of_ble_eq_true rfl) (kX12_compares (i := 30) rfl) (fun H locs hM => ?_)
        refine lv_aload_n hx hb (kX12_compares (i := 31) rfl) rfl (lv_at hl 0 rfl) ?_
        refine x_iconst hx hb (kX12_compares (i := 32) rfl) ?_
        obtain ⟨g_11, hc_10, h⟩ := bd_some h
        refine x_callV (n := 1) (As := [vi 1]) (rest := []) C hM (tX12_push l Θ 1 h0 g_8 g_11 hc_10) (x_recvM C hM 0 (by decide) (eM_0 Θ _) rfl rfl) q_c_X12_push q_mX12_306 q_i_X12_push q_e_X12_push q_n_X12 (by decide +kernel) ⟨by decide, by decide⟩ rfl hl.1 rfl (Nat.le_of_ble_eq_true rfl) (kX12_compares (i := 33) rfl) (fun H locs hM => ?_)
        refine lv_aload_n hx hb (kX12_compares (i := 34) rfl) rfl (lv_at hl 0 rfl) ?_
        obtain ⟨r_12, g_14, hc_13, h⟩ := bd2_some h
        refine x_callV (n := 0) (As := []) (rest := []) C hM (tX12_takes l Θ h0 g_11 r_12 g_14 hc_13) (x_recvM C hM 0 (by decide) (eM_0 Θ _) rfl rfl) q_c_X12_takes q_mX12_315 q_i_X12_takes q_e_X12_takes q_n_X12 (by decide +kernel) ⟨by decide, by decide⟩ rfl hl.1 rfl (Nat.le_of_ble_eq_true rfl) (kX12_compares (i := 35) rfl) (fun H locs hM => ?_)
        obtain ⟨hz_15, h⟩ := gc_some h
        obtain ⟨q1, q2⟩ := ret2 h
        rw [q1, q2]
        exact x_iret C hM (nar_z hz_15) (kX12_compares (i := 36) rfl)
      intro J63 hJ63 h
      refine x_if_eq (a' := wr r_3) hx hb rfl (tgt := 47) (kX12_compares (i := 19) rfl) (by decide) (fun c_16 => ?_) (fun c_16 => ?_)
      · have h := it_t c_16 h
        refine lv_aload_n hx hb (kX12_compares (i := 22) rfl) rfl (lv_at hl 0 rfl) ?_
        refine x_bipush hx hb (by decide) (kX12_compares (i := 23) rfl) ?_
        obtain ⟨r_17, hc_18, h⟩ := bd_some h
        refine x_callV (n := 1) (As := [vi 62]) (rest := [vi 1000, .ref (Θ.2.2.2 0)]) C hM (tX12_isSign l Θ 62 h0 g r_17 hc_18) (x_recvM C hM 0 (by decide) (eM_0 Θ _) rfl rfl) q_c_X12_isSign q_mX12_312 q_i_X12_isSign q_e_X12_isSign q_n_X12 (by decide +kernel) ⟨by decide, by decide⟩ rfl hl.1 rfl (Nat.le_of_ble_eq_true rfl) (kX12_compares (i := 24) rfl) (fun H locs hM => ?_)
        refine x_if_eq (a' := wr r_17) hx hb rfl (tgt := 61) (kX12_compares (i := 25) rfl) (by decide) (fun c_19 => ?_) (fun c_19 => ?_)
        · have h := it_t c_19 h
          refine x_bipush hx hb (by decide) (kX12_compares (i := 28) rfl) ?_
          exact hJ63 8 H locs ls h hM (lv_sub hl [0] rfl)
        · have h := it_f c_19 h
          refine x_bipush hx hb (by decide) (kX12_compares (i := 26) rfl) ?_
          refine lv_goto (tgt := 63) hx hb (kX12_compares (i := 27) rfl) (by decide) ?_
          exact hJ63 7 H locs ls h hM (lv_sub hl [0] rfl)
      · have h := it_f c_16 h
        refine x_bipush hx hb (by decide) (kX12_compares (i := 20) rfl) ?_
        refine lv_goto (tgt := 63) hx hb (kX12_compares (i := 21) rfl) (by decide) ?_
        exact hJ63 6 H locs ls h hM (lv_sub hl [0] rfl)
    intro J29 hJ29 h
    refine x_if_ne (a' := wr r_1) hx hb rfl (tgt := 29) (kX12_compares (i := 3) rfl) (by decide) (fun c_20 => ?_) (fun c_20 => ?_)
    · have h := it_f c_20 h
      exact hJ29 H locs ls h hM (lv_sub hl [0] rfl)
    · have h := it_t c_20 h
      refine lv_aload_n hx hb (kX12_compares (i := 4) rfl) rfl (lv_at hl 0 rfl) ?_
      refine x_bipush hx hb (by decide) (kX12_compares (i := 5) rfl) ?_
      obtain ⟨r_21, hc_22, h⟩ := bd_some h
      refine x_callV (n := 1) (As := [vi 62]) (rest := []) C hM (tX12_isSign l Θ 62 h0 g r_21 hc_22) (x_recvM C hM 0 (by decide) (eM_0 Θ _) rfl rfl) q_c_X12_isSign q_mX12_312 q_i_X12_isSign q_e_X12_isSign q_n_X12 (by decide +kernel) ⟨by decide, by decide⟩ rfl hl.1 rfl (Nat.le_of_ble_eq_true rfl) (kX12_compares (i := 6) rfl) (fun H locs hM => ?_)
      refine x_if_ne (a' := wr r_21) hx hb rfl (tgt := 29) (kX12_compares (i := 7) rfl) (by decide) (fun c_23 => ?_) (fun c_23 => ?_)
      · have h := it_f c_23 h
        exact hJ29 H locs ls h hM (lv_sub hl [0] rfl)
      · have h := it_t c_23 h
        refine lv_aload_n hx hb (kX12_compares (i := 8) rfl) rfl (lv_at hl 0 rfl) ?_
        refine x_bipush hx hb (by decide) (kX12_compares (i := 9) rfl) ?_
        obtain ⟨r_24, hc_25, h⟩ := bd_some h
        refine x_callV (n := 1) (As := [vi 61]) (rest := []) C hM (tX12_isSign l Θ 61 h0 g r_24 hc_25) (x_recvM C hM 0 (by decide) (eM_0 Θ _) rfl rfl) q_c_X12_isSign q_mX12_312 q_i_X12_isSign q_e_X12_isSign q_n_X12 (by decide +kernel) ⟨by decide, by decide⟩ rfl hl.1 rfl (Nat.le_of_ble_eq_true rfl) (kX12_compares (i := 10) rfl) (fun H locs hM => ?_)
        refine x_if_ne (a' := wr r_24) hx hb rfl (tgt := 29) (kX12_compares (i := 11) rfl) (by decide) (fun c_26 => ?_) (fun c_26 => ?_)
        · have h := it_f c_26 h
          exact hJ29 H locs ls h hM (lv_sub hl [0] rfl)
        · have h := it_t c_26 h
          refine x_iconst hx hb (kX12_compares (i := 12) rfl) ?_
          obtain ⟨q1, q2⟩ := ret2 h
          rw [q1, q2]
          exact x_iret C hM (nar_z (Or.inl rfl)) (kX12_compares (i := 13) rfl)
  exact key _ _ hM

/-! X12_steps -/
def fX12_steps (a0 : Int) (g : Mem) : Option (Int × Mem) :=
  if wr a0 < 1000 then (
    if wr a0 < 100 then (
      if wr a0 = 0 then (
        bd2 (fX12_clauses g) fun r_4 g_6 =>
        gc (r_4 = 0 ∨ r_4 = 1) <|
        some (r_4, g_6)
      ) else (
      if wr a0 = 1 then (
        bd2 (fX12_both 2 3 g) fun r_9 g_11 =>
        gc (r_9 = 0 ∨ r_9 = 1) <|
        some (r_9, g_11)
      ) else (
      if wr a0 = 2 then (
        bd2 (fX12_more 43 2 45 3 2 3 g) fun r_14 g_16 =>
        gc (r_14 = 0 ∨ r_14 = 1) <|
        some (r_14, g_16)
      ) else (
      if wr a0 = 3 then (
        bd2 (fX12_both 4 5 g) fun r_19 g_21 =>
        gc (r_19 = 0 ∨ r_19 = 1) <|
        some (r_19, g_21)
      ) else (
      if wr a0 = 4 then (
        bd2 (fX12_more 42 4 47 5 4 5 g) fun r_24 g_26 =>
        gc (r_24 = 0 ∨ r_24 = 1) <|
        some (r_24, g_26)
      ) else (
      if wr a0 = 5 then (
        bd2 (fX12_factor g) fun r_29 g_31 =>
        gc (r_29 = 0 ∨ r_29 = 1) <|
        some (r_29, g_31)
      ) else (
      if wr a0 = 6 then (
        bd2 (fX12_both 7 8 g) fun r_34 g_36 =>
        gc (r_34 = 0 ∨ r_34 = 1) <|
        some (r_34, g_36)
      ) else (
      if wr a0 = 7 then (
        bd2 (fX12_moreWords 9 10 7 8 g) fun r_39 g_41 =>
        gc (r_39 = 0 ∨ r_39 = 1) <|
        some (r_39, g_41)
      ) else (
      if wr a0 = 8 then (
        bd2 (fX12_both 9 10 g) fun r_44 g_46 =>
        gc (r_44 = 0 ∨ r_44 = 1) <|
        some (r_44, g_46)
      ) else (
      if wr a0 = 9 then (
        bd2 (fX12_moreWords 10 9 9 10 g) fun r_49 g_51 =>
        gc (r_49 = 0 ∨ r_49 = 1) <|
        some (r_49, g_51)
      ) else (
      if wr a0 = 10 then (
        bd2 (fX12_holdsOne g) fun r_54 g_56 =>
        gc (r_54 = 0 ∨ r_54 = 1) <|
        some (r_54, g_56)
      ) else (
      if wr a0 = 11 then (
        bd2 (fX12_compares g) fun r_59 g_61 =>
        gc (r_59 = 0 ∨ r_59 = 1) <|
        some (r_59, g_61)
      ) else (
      if wr a0 = 12 then (
        bnd (up g 0 55 ((g 0 55) - 1)) fun g_64 =>
        some (1, g_64)
      ) else (
        gd (g 0 56) 2 <|
        bnd (up g 40 (wr (g 0 56)).toNat (g 0 59)) fun g_66 =>
        some (1, g_66)
      )))))))))))))
    ) else (
      bd (fX12_isSign (a0 - 100) g) fun r_67 =>
      if wr r_67 = 0 then (
        some (0, g)
      ) else (
        bd2 (fX12_takes g) fun r_70 g_72 =>
        if wr r_70 = 0 then (
          some (0, g_72)
        ) else (
          some (1, g_72)
        )
      )
    )
  ) else (
    bd (fX12_emits (a0 - 1000) 0 g) fun g_76 =>
    some (1, g_76)
  )
set_option maxRecDepth 100000 in
set_option maxHeartbeats 4000000 in
theorem tX12_steps (l : Launch) (Θ : Th) (a0 : Int) (h0 g : Mem) (rv : Int) (gR : Mem) (h : fX12_steps a0 g = some (rv, gR)) : Ct l yX12_steps cX12_steps 2 (some .boolean) 8 174 Θ [.ref (Θ.2.2.2 0), vi a0] h0 g h0 gR (some (vi rv)) := by
  refine x_start (by decide) (Nat.le_of_ble_eq_true rfl) ?_
  intro p e s m args below meth c ls C hM hl
  have hl : lv_has ls 2 [(0, .ref (Θ.2.2.2 0)), (1, vi a0)] := hl
  obtain ⟨hx, hb, hml, hown, hts, -⟩ := id C
  unfold fX12_steps at h
  have key : ∀ (H : Heap) (locs : List Loc), Hd Θ s h0 g H locs → W p l e { frames := 8, cells := 0, slots := 0, locals := 174 } s m args below meth c H locs 0 0 (MQ below (Qx Θ s.heap.size h0 gR (some (vi rv))) args s 0 0 (AA Θ s.heap.size)) (F0 m 0 ls []) := by
    intro H locs hM
    refine x_iload_n hx hb (kX12_steps (i := 0) rfl) rfl (lv_at hl 1 rfl) ?_
    refine x_sipush hx hb (by decide) (kX12_steps (i := 1) rfl) ?_
    refine x_icmp_lt (a' := wr a0) (b' := 1000) hx hb rfl (by decide) (tgt := 19) (kX12_steps (i := 2) rfl) (by decide) (fun c_1 => ?_) (fun c_1 => ?_)
    · have h := it_t c_1 h
      refine x_iload_n hx hb (kX12_steps (i := 11) rfl) rfl (lv_at hl 1 rfl) ?_
      refine x_bipush hx hb (by decide) (kX12_steps (i := 12) rfl) ?_
      refine x_icmp_lt (a' := wr a0) (b' := 100) hx hb rfl (by decide) (tgt := 49) (kX12_steps (i := 13) rfl) (by decide) (fun c_2 => ?_) (fun c_2 => ?_)
      · have h := it_t c_2 h
        refine x_iload_n hx hb (kX12_steps (i := 27) rfl) rfl (lv_at hl 1 rfl) ?_
        by_cases c_3 : wr a0 = 0
        · have h := it_t c_3 h
          refine x_tableIn (tgt := 116) 0 c_3 hx hb (kX12_steps (i := 28) rfl) (by decide) (by decide) rfl (by decide) ?_
          refine lv_aload_n hx hb (kX12_steps (i := 29) rfl) rfl (lv_at hl 0 rfl) ?_
          obtain ⟨r_4, g_6, hc_5, h⟩ := bd2_some h
          refine x_callV (n := 0) (As := []) (rest := []) C hM (tX12_clauses l Θ h0 g r_4 g_6 hc_5) (x_recvM C hM 0 (by decide) (eM_0 Θ _) rfl rfl) q_c_X12_clauses q_mX12_319 q_i_X12_clauses q_e_X12_clauses q_n_X12 (by decide +kernel) ⟨by decide, by decide⟩ rfl hl.1 rfl (Nat.le_of_ble_eq_true rfl) (kX12_steps (i := 30) rfl) (fun H locs hM => ?_)
          obtain ⟨hz_7, h⟩ := gc_some h
          obtain ⟨q1, q2⟩ := ret2 h
          rw [q1, q2]
          exact x_iret C hM (nar_z hz_7) (kX12_steps (i := 31) rfl)
        have h := it_f c_3 h
        by_cases c_8 : wr a0 = 1
        · have h := it_t c_8 h
          refine x_tableIn (tgt := 121) 1 c_8 hx hb (kX12_steps (i := 28) rfl) (by decide) (by decide) rfl (by decide) ?_
          refine lv_aload_n hx hb (kX12_steps (i := 32) rfl) rfl (lv_at hl 0 rfl) ?_
          refine x_iconst hx hb (kX12_steps (i := 33) rfl) ?_
          refine x_iconst hx hb (kX12_steps (i := 34) rfl) ?_
          obtain ⟨r_9, g_11, hc_10, h⟩ := bd2_some h
          refine x_callV (n := 2) (As := [vi 2, vi 3]) (rest := []) C hM (tX12_both l Θ 2 3 h0 g r_9 g_11 hc_10) (x_recvM C hM 0 (by decide) (eM_0 Θ _) rfl rfl) q_c_X12_both q_mX12_322 q_i_X12_both q_e_X12_both q_n_X12 (by decide +kernel) ⟨by decide, by decide⟩ rfl hl.1 rfl (Nat.le_of_ble_eq_true rfl) (kX12_steps (i := 35) rfl) (fun H locs hM => ?_)
          obtain ⟨hz_12, h⟩ := gc_some h
          obtain ⟨q1, q2⟩ := ret2 h
          rw [q1, q2]
          exact x_iret C hM (nar_z hz_12) (kX12_steps (i := 36) rfl)
        have h := it_f c_8 h
        by_cases c_13 : wr a0 = 2
        · have h := it_t c_13 h
          refine x_tableIn (tgt := 128) 2 c_13 hx hb (kX12_steps (i := 28) rfl) (by decide) (by decide) rfl (by decide) ?_
          refine lv_aload_n hx hb (kX12_steps (i := 37) rfl) rfl (lv_at hl 0 rfl) ?_
          refine x_bipush hx hb (by decide) (kX12_steps (i := 38) rfl) ?_
          refine x_iconst hx hb (kX12_steps (i := 39) rfl) ?_
          refine x_bipush hx hb (by decide) (kX12_steps (i := 40) rfl) ?_
          refine x_iconst hx hb (kX12_steps (i := 41) rfl) ?_
          refine x_iconst hx hb (kX12_steps (i := 42) rfl) ?_
          refine x_iconst hx hb (kX12_steps (i := 43) rfl) ?_
          obtain ⟨r_14, g_16, hc_15, h⟩ := bd2_some h
          refine x_callV (n := 6) (As := [vi 43, vi 2, vi 45, vi 3, vi 2, vi 3]) (rest := []) C hM (tX12_more l Θ 43 2 45 3 2 3 h0 g r_14 g_16 hc_15) (x_recvM C hM 0 (by decide) (eM_0 Θ _) rfl rfl) q_c_X12_more q_mX12_326 q_i_X12_more q_e_X12_more q_n_X12 (by decide +kernel) ⟨by decide, by decide⟩ rfl hl.1 rfl (Nat.le_of_ble_eq_true rfl) (kX12_steps (i := 44) rfl) (fun H locs hM => ?_)
          obtain ⟨hz_17, h⟩ := gc_some h
          obtain ⟨q1, q2⟩ := ret2 h
          rw [q1, q2]
          exact x_iret C hM (nar_z hz_17) (kX12_steps (i := 45) rfl)
        have h := it_f c_13 h
        by_cases c_18 : wr a0 = 3
        · have h := it_t c_18 h
          refine x_tableIn (tgt := 141) 3 c_18 hx hb (kX12_steps (i := 28) rfl) (by decide) (by decide) rfl (by decide) ?_
          refine lv_aload_n hx hb (kX12_steps (i := 46) rfl) rfl (lv_at hl 0 rfl) ?_
          refine x_iconst hx hb (kX12_steps (i := 47) rfl) ?_
          refine x_iconst hx hb (kX12_steps (i := 48) rfl) ?_
          obtain ⟨r_19, g_21, hc_20, h⟩ := bd2_some h
          refine x_callV (n := 2) (As := [vi 4, vi 5]) (rest := []) C hM (tX12_both l Θ 4 5 h0 g r_19 g_21 hc_20) (x_recvM C hM 0 (by decide) (eM_0 Θ _) rfl rfl) q_c_X12_both q_mX12_322 q_i_X12_both q_e_X12_both q_n_X12 (by decide +kernel) ⟨by decide, by decide⟩ rfl hl.1 rfl (Nat.le_of_ble_eq_true rfl) (kX12_steps (i := 49) rfl) (fun H locs hM => ?_)
          obtain ⟨hz_22, h⟩ := gc_some h
          obtain ⟨q1, q2⟩ := ret2 h
          rw [q1, q2]
          exact x_iret C hM (nar_z hz_22) (kX12_steps (i := 50) rfl)
        have h := it_f c_18 h
        by_cases c_23 : wr a0 = 4
        · have h := it_t c_23 h
          refine x_tableIn (tgt := 148) 4 c_23 hx hb (kX12_steps (i := 28) rfl) (by decide) (by decide) rfl (by decide) ?_
          refine lv_aload_n hx hb (kX12_steps (i := 51) rfl) rfl (lv_at hl 0 rfl) ?_
          refine x_bipush hx hb (by decide) (kX12_steps (i := 52) rfl) ?_
          refine x_iconst hx hb (kX12_steps (i := 53) rfl) ?_
          refine x_bipush hx hb (by decide) (kX12_steps (i := 54) rfl) ?_
          refine x_iconst hx hb (kX12_steps (i := 55) rfl) ?_
          refine x_iconst hx hb (kX12_steps (i := 56) rfl) ?_
          refine x_iconst hx hb (kX12_steps (i := 57) rfl) ?_
          obtain ⟨r_24, g_26, hc_25, h⟩ := bd2_some h
          refine x_callV (n := 6) (As := [vi 42, vi 4, vi 47, vi 5, vi 4, vi 5]) (rest := []) C hM (tX12_more l Θ 42 4 47 5 4 5 h0 g r_24 g_26 hc_25) (x_recvM C hM 0 (by decide) (eM_0 Θ _) rfl rfl) q_c_X12_more q_mX12_326 q_i_X12_more q_e_X12_more q_n_X12 (by decide +kernel) ⟨by decide, by decide⟩ rfl hl.1 rfl (Nat.le_of_ble_eq_true rfl) (kX12_steps (i := 58) rfl) (fun H locs hM => ?_)
          obtain ⟨hz_27, h⟩ := gc_some h
          obtain ⟨q1, q2⟩ := ret2 h
          rw [q1, q2]
          exact x_iret C hM (nar_z hz_27) (kX12_steps (i := 59) rfl)
        have h := it_f c_23 h
        by_cases c_28 : wr a0 = 5
        · have h := it_t c_28 h
          refine x_tableIn (tgt := 161) 5 c_28 hx hb (kX12_steps (i := 28) rfl) (by decide) (by decide) rfl (by decide) ?_
          refine lv_aload_n hx hb (kX12_steps (i := 60) rfl) rfl (lv_at hl 0 rfl) ?_
          obtain ⟨r_29, g_31, hc_30, h⟩ := bd2_some h
          refine x_callV (n := 0) (As := []) (rest := []) C hM (tX12_factor l Θ h0 g r_29 g_31 hc_30) (x_recvM C hM 0 (by decide) (eM_0 Θ _) rfl rfl) q_c_X12_factor q_mX12_330 q_i_X12_factor q_e_X12_factor q_n_X12 (by decide +kernel) ⟨by decide, by decide⟩ rfl hl.1 rfl (Nat.le_of_ble_eq_true rfl) (kX12_steps (i := 61) rfl) (fun H locs hM => ?_)
          obtain ⟨hz_32, h⟩ := gc_some h
          obtain ⟨q1, q2⟩ := ret2 h
          rw [q1, q2]
          exact x_iret C hM (nar_z hz_32) (kX12_steps (i := 62) rfl)
        have h := it_f c_28 h
        by_cases c_33 : wr a0 = 6
        · have h := it_t c_33 h
          refine x_tableIn (tgt := 166) 6 c_33 hx hb (kX12_steps (i := 28) rfl) (by decide) (by decide) rfl (by decide) ?_
          refine lv_aload_n hx hb (kX12_steps (i := 63) rfl) rfl (lv_at hl 0 rfl) ?_
          refine x_bipush hx hb (by decide) (kX12_steps (i := 64) rfl) ?_
          refine x_bipush hx hb (by decide) (kX12_steps (i := 65) rfl) ?_
          obtain ⟨r_34, g_36, hc_35, h⟩ := bd2_some h
          refine x_callV (n := 2) (As := [vi 7, vi 8]) (rest := []) C hM (tX12_both l Θ 7 8 h0 g r_34 g_36 hc_35) (x_recvM C hM 0 (by decide) (eM_0 Θ _) rfl rfl) q_c_X12_both q_mX12_322 q_i_X12_both q_e_X12_both q_n_X12 (by decide +kernel) ⟨by decide, by decide⟩ rfl hl.1 rfl (Nat.le_of_ble_eq_true rfl) (kX12_steps (i := 66) rfl) (fun H locs hM => ?_)
          obtain ⟨hz_37, h⟩ := gc_some h
          obtain ⟨q1, q2⟩ := ret2 h
          rw [q1, q2]
          exact x_iret C hM (nar_z hz_37) (kX12_steps (i := 67) rfl)
        have h := it_f c_33 h
        by_cases c_38 : wr a0 = 7
        · have h := it_t c_38 h
          refine x_tableIn (tgt := 175) 7 c_38 hx hb (kX12_steps (i := 28) rfl) (by decide) (by decide) rfl (by decide) ?_
          refine lv_aload_n hx hb (kX12_steps (i := 68) rfl) rfl (lv_at hl 0 rfl) ?_
          refine x_bipush hx hb (by decide) (kX12_steps (i := 69) rfl) ?_
          refine x_bipush hx hb (by decide) (kX12_steps (i := 70) rfl) ?_
          refine x_bipush hx hb (by decide) (kX12_steps (i := 71) rfl) ?_
          refine x_bipush hx hb (by decide) (kX12_steps (i := 72) rfl) ?_
          obtain ⟨r_39, g_41, hc_40, h⟩ := bd2_some h
          refine x_callV (n := 4) (As := [vi 9, vi 10, vi 7, vi 8]) (rest := []) C hM (tX12_moreWords l Θ 9 10 7 8 h0 g r_39 g_41 hc_40) (x_recvM C hM 0 (by decide) (eM_0 Θ _) rfl rfl) q_c_X12_moreWords q_mX12_333 q_i_X12_moreWords q_e_X12_moreWords q_n_X12 (by decide +kernel) ⟨by decide, by decide⟩ rfl hl.1 rfl (Nat.le_of_ble_eq_true rfl) (kX12_steps (i := 73) rfl) (fun H locs hM => ?_)
          obtain ⟨hz_42, h⟩ := gc_some h
          obtain ⟨q1, q2⟩ := ret2 h
          rw [q1, q2]
          exact x_iret C hM (nar_z hz_42) (kX12_steps (i := 74) rfl)
        have h := it_f c_38 h
        by_cases c_43 : wr a0 = 8
        · have h := it_t c_43 h
          refine x_tableIn (tgt := 188) 8 c_43 hx hb (kX12_steps (i := 28) rfl) (by decide) (by decide) rfl (by decide) ?_
          refine lv_aload_n hx hb (kX12_steps (i := 75) rfl) rfl (lv_at hl 0 rfl) ?_
          refine x_bipush hx hb (by decide) (kX12_steps (i := 76) rfl) ?_
          refine x_bipush hx hb (by decide) (kX12_steps (i := 77) rfl) ?_
          obtain ⟨r_44, g_46, hc_45, h⟩ := bd2_some h
          refine x_callV (n := 2) (As := [vi 9, vi 10]) (rest := []) C hM (tX12_both l Θ 9 10 h0 g r_44 g_46 hc_45) (x_recvM C hM 0 (by decide) (eM_0 Θ _) rfl rfl) q_c_X12_both q_mX12_322 q_i_X12_both q_e_X12_both q_n_X12 (by decide +kernel) ⟨by decide, by decide⟩ rfl hl.1 rfl (Nat.le_of_ble_eq_true rfl) (kX12_steps (i := 78) rfl) (fun H locs hM => ?_)
          obtain ⟨hz_47, h⟩ := gc_some h
          obtain ⟨q1, q2⟩ := ret2 h
          rw [q1, q2]
          exact x_iret C hM (nar_z hz_47) (kX12_steps (i := 79) rfl)
        have h := it_f c_43 h
        by_cases c_48 : wr a0 = 9
        · have h := it_t c_48 h
          refine x_tableIn (tgt := 197) 9 c_48 hx hb (kX12_steps (i := 28) rfl) (by decide) (by decide) rfl (by decide) ?_
          refine lv_aload_n hx hb (kX12_steps (i := 80) rfl) rfl (lv_at hl 0 rfl) ?_
          refine x_bipush hx hb (by decide) (kX12_steps (i := 81) rfl) ?_
          refine x_bipush hx hb (by decide) (kX12_steps (i := 82) rfl) ?_
          refine x_bipush hx hb (by decide) (kX12_steps (i := 83) rfl) ?_
          refine x_bipush hx hb (by decide) (kX12_steps (i := 84) rfl) ?_
          obtain ⟨r_49, g_51, hc_50, h⟩ := bd2_some h
          refine x_callV (n := 4) (As := [vi 10, vi 9, vi 9, vi 10]) (rest := []) C hM (tX12_moreWords l Θ 10 9 9 10 h0 g r_49 g_51 hc_50) (x_recvM C hM 0 (by decide) (eM_0 Θ _) rfl rfl) q_c_X12_moreWords q_mX12_333 q_i_X12_moreWords q_e_X12_moreWords q_n_X12 (by decide +kernel) ⟨by decide, by decide⟩ rfl hl.1 rfl (Nat.le_of_ble_eq_true rfl) (kX12_steps (i := 85) rfl) (fun H locs hM => ?_)
          obtain ⟨hz_52, h⟩ := gc_some h
          obtain ⟨q1, q2⟩ := ret2 h
          rw [q1, q2]
          exact x_iret C hM (nar_z hz_52) (kX12_steps (i := 86) rfl)
        have h := it_f c_48 h
        by_cases c_53 : wr a0 = 10
        · have h := it_t c_53 h
          refine x_tableIn (tgt := 210) 10 c_53 hx hb (kX12_steps (i := 28) rfl) (by decide) (by decide) rfl (by decide) ?_
          refine lv_aload_n hx hb (kX12_steps (i := 87) rfl) rfl (lv_at hl 0 rfl) ?_
          obtain ⟨r_54, g_56, hc_55, h⟩ := bd2_some h
          refine x_callV (n := 0) (As := []) (rest := []) C hM (tX12_holdsOne l Θ h0 g r_54 g_56 hc_55) (x_recvM C hM 0 (by decide) (eM_0 Θ _) rfl rfl) q_c_X12_holdsOne q_mX12_337 q_i_X12_holdsOne q_e_X12_holdsOne q_n_X12 (by decide +kernel) ⟨by decide, by decide⟩ rfl hl.1 rfl (Nat.le_of_ble_eq_true rfl) (kX12_steps (i := 88) rfl) (fun H locs hM => ?_)
          obtain ⟨hz_57, h⟩ := gc_some h
          obtain ⟨q1, q2⟩ := ret2 h
          rw [q1, q2]
          exact x_iret C hM (nar_z hz_57) (kX12_steps (i := 89) rfl)
        have h := it_f c_53 h
        by_cases c_58 : wr a0 = 11
        · have h := it_t c_58 h
          refine x_tableIn (tgt := 215) 11 c_58 hx hb (kX12_steps (i := 28) rfl) (by decide) (by decide) rfl (by decide) ?_
          refine lv_aload_n hx hb (kX12_steps (i := 90) rfl) rfl (lv_at hl 0 rfl) ?_
          obtain ⟨r_59, g_61, hc_60, h⟩ := bd2_some h
          refine x_callV (n := 0) (As := []) (rest := []) C hM (tX12_compares l Θ h0 g r_59 g_61 hc_60) (x_recvM C hM 0 (by decide) (eM_0 Θ _) rfl rfl) q_c_X12_compares q_mX12_340 q_i_X12_compares q_e_X12_compares q_n_X12 (by decide +kernel) ⟨by decide, by decide⟩ rfl hl.1 rfl (Nat.le_of_ble_eq_true rfl) (kX12_steps (i := 91) rfl) (fun H locs hM => ?_)
          obtain ⟨hz_62, h⟩ := gc_some h
          obtain ⟨q1, q2⟩ := ret2 h
          rw [q1, q2]
          exact x_iret C hM (nar_z hz_62) (kX12_steps (i := 92) rfl)
        have h := it_f c_58 h
        by_cases c_63 : wr a0 = 12
        · have h := it_t c_63 h
          refine x_tableIn (tgt := 220) 12 c_63 hx hb (kX12_steps (i := 28) rfl) (by decide) (by decide) rfl (by decide) ?_
          refine lv_aload_n hx hb (kX12_steps (i := 93) rfl) rfl (lv_at hl 0 rfl) ?_
          refine lv_dup hx hb (kX12_steps (i := 94) rfl) rfl ?_
          refine gX12_deep C hM q_fX12_303 (kX12_steps (i := 95) rfl) ?_
          refine x_iconst hx hb (kX12_steps (i := 96) rfl) ?_
          refine x_isub hx hb (kX12_steps (i := 97) rfl) ?_
          obtain ⟨g_64, eg_64, h⟩ := bnd_some h
          refine pX12_deep C hM q_fX12_303 eg_64 (kX12_steps (i := 98) rfl) (fun H locs hM => ?_)
          refine x_iconst hx hb (kX12_steps (i := 99) rfl) ?_
          obtain ⟨q1, q2⟩ := ret2 h
          rw [q1, q2]
          exact x_iret C hM (nar_z (Or.inr rfl)) (kX12_steps (i := 100) rfl)
        have h := it_f c_63 h
        refine x_tableOut (tgt := 232) hx hb (kX12_steps (i := 28) rfl) (by omega) (by decide) ?_
        refine lv_aload_n hx hb (kX12_steps (i := 101) rfl) rfl (lv_at hl 0 rfl) ?_
        refine gX12_close C hM q_fX12_142 (kX12_steps (i := 102) rfl) ?_
        refine lv_aload_n hx hb (kX12_steps (i := 103) rfl) rfl (lv_at hl 0 rfl) ?_
        refine gX12_clause C hM q_fX12_343 (kX12_steps (i := 104) rfl) ?_
        refine lv_aload_n hx hb (kX12_steps (i := 105) rfl) rfl (lv_at hl 0 rfl) ?_
        refine gX12_doing C hM q_fX12_297 (kX12_steps (i := 106) rfl) ?_
        obtain ⟨hi_65, h⟩ := gd_some h
        obtain ⟨g_66, eg_66, h⟩ := bnd_some h
        refine x_iastM C hM 40 (by decide) (eM_40 Θ) hi_65 eg_66 (kX12_steps (i := 107) rfl) (fun H locs hM => ?_)
        refine x_iconst hx hb (kX12_steps (i := 108) rfl) ?_
        obtain ⟨q1, q2⟩ := ret2 h
        rw [q1, q2]
        exact x_iret C hM (nar_z (Or.inr rfl)) (kX12_steps (i := 109) rfl)
      · have h := it_f c_2 h
        refine lv_aload_n hx hb (kX12_steps (i := 14) rfl) rfl (lv_at hl 0 rfl) ?_
        refine x_iload_n hx hb (kX12_steps (i := 15) rfl) rfl (lv_at hl 1 rfl) ?_
        refine x_bipush hx hb (by decide) (kX12_steps (i := 16) rfl) ?_
        refine x_isub hx hb (kX12_steps (i := 17) rfl) ?_
        obtain ⟨r_67, hc_68, h⟩ := bd_some h
        refine x_callV (n := 1) (As := [vi (a0 - 100)]) (rest := []) C hM (tX12_isSign l Θ (a0 - 100) h0 g r_67 hc_68) (x_recvM C hM 0 (by decide) (eM_0 Θ _) rfl rfl) q_c_X12_isSign q_mX12_312 q_i_X12_isSign q_e_X12_isSign q_n_X12 (by decide +kernel) ⟨by decide, by decide⟩ rfl hl.1 rfl (Nat.le_of_ble_eq_true rfl) (kX12_steps (i := 18) rfl) (fun H locs hM => ?_)
        refine x_if_eq (a' := wr r_67) hx hb rfl (tgt := 47) (kX12_steps (i := 19) rfl) (by decide) (fun c_69 => ?_) (fun c_69 => ?_)
        · have h := it_t c_69 h
          refine x_iconst hx hb (kX12_steps (i := 25) rfl) ?_
          obtain ⟨q1, q2⟩ := ret2 h
          rw [q1, q2]
          exact x_iret C hM (nar_z (Or.inl rfl)) (kX12_steps (i := 26) rfl)
        · have h := it_f c_69 h
          refine lv_aload_n hx hb (kX12_steps (i := 20) rfl) rfl (lv_at hl 0 rfl) ?_
          obtain ⟨r_70, g_72, hc_71, h⟩ := bd2_some h
          refine x_callV (n := 0) (As := []) (rest := []) C hM (tX12_takes l Θ h0 g r_70 g_72 hc_71) (x_recvM C hM 0 (by decide) (eM_0 Θ _) rfl rfl) q_c_X12_takes q_mX12_315 q_i_X12_takes q_e_X12_takes q_n_X12 (by decide +kernel) ⟨by decide, by decide⟩ rfl hl.1 rfl (Nat.le_of_ble_eq_true rfl) (kX12_steps (i := 21) rfl) (fun H locs hM => ?_)
          refine x_if_eq (a' := wr r_70) hx hb rfl (tgt := 47) (kX12_steps (i := 22) rfl) (by decide) (fun c_73 => ?_) (fun c_73 => ?_)
          · have h := it_t c_73 h
            refine x_iconst hx hb (kX12_steps (i := 25) rfl) ?_
            obtain ⟨q1, q2⟩ := ret2 h
            rw [q1, q2]
            exact x_iret C hM (nar_z (Or.inl rfl)) (kX12_steps (i := 26) rfl)
          · have h := it_f c_73 h
            refine x_iconst hx hb (kX12_steps (i := 23) rfl) ?_
            refine lv_goto (tgt := 48) hx hb (kX12_steps (i := 24) rfl) (by decide) ?_
            obtain ⟨q1, q2⟩ := ret2 h
            rw [q1, q2]
            exact x_iret C hM (nar_z (Or.inr rfl)) (kX12_steps (i := 26) rfl)
    · have h := it_f c_1 h
      refine lv_aload_n hx hb (kX12_steps (i := 3) rfl) rfl (lv_at hl 0 rfl) ?_
      refine x_iload_n hx hb (kX12_steps (i := 4) rfl) rfl (lv_at hl 1 rfl) ?_
      refine x_sipush hx hb (by decide) (kX12_steps (i := 5) rfl) ?_
      refine x_isub hx hb (kX12_steps (i := 6) rfl) ?_
      refine x_iconst hx hb (kX12_steps (i := 7) rfl) ?_
      obtain ⟨g_76, hc_75, h⟩ := bd_some h
      refine x_callV (n := 2) (As := [vi (a0 - 1000), vi 0]) (rest := []) C hM (tX12_emits l Θ (a0 - 1000) 0 h0 g g_76 hc_75) (x_recvM C hM 0 (by decide) (eM_0 Θ _) rfl rfl) q_c_X12_emits q_mX12_309 q_i_X12_emits q_e_X12_emits q_n_X12 (by decide +kernel) ⟨by decide, by decide⟩ rfl hl.1 rfl (Nat.le_of_ble_eq_true rfl) (kX12_steps (i := 8) rfl) (fun H locs hM => ?_)
      refine x_iconst hx hb (kX12_steps (i := 9) rfl) ?_
      obtain ⟨q1, q2⟩ := ret2 h
      rw [q1, q2]
      exact x_iret C hM (nar_z (Or.inr rfl)) (kX12_steps (i := 10) rfl)
  exact key _ _ hM

/-! X12_reads -/
def fX12_reads_L22 : Nat → Int → Mem → (Mem → Option (Int × Mem)) → Option (Int × Mem)
  | 0, _, _, _ => none
  | n + 1, y1, g, K40 =>
    if 2 ≤ wr y1 then (
      K40 g
    ) else (
      gd y1 2 <|
      bnd (up g 39 (wr y1).toNat (-1)) fun g_7 =>
      bnd (y1 + 1) fun x_8 =>
      fX12_reads_L22 n x_8 g_7 K40
    )
def fX12_reads_L49 : Nat → Mem → (Mem → Option (Int × Mem)) → Option (Int × Mem)
  | 0, _, _ => none
  | n + 1, g, K82 =>
    if wr (g 0 54) ≤ 0 then (
      some ((-1), g)
    ) else (
      bnd (up g 0 54 ((g 0 54) - 1)) fun g_17 =>
      gd (g_17 0 54) 600 <|
      bd2 (fX12_steps (g_17 36 (wr (g_17 0 54)).toNat) g_17) fun r_19 g_21 =>
      if wr r_19 = 0 then (
        K82 g_21
      ) else (
        fX12_reads_L49 n g_21 K82
      )
    )
def fX12_reads (g : Mem) : Option (Int × Mem) :=
  bnd (up g 0 49 0) fun g_1 =>
  bnd (up g_1 0 54 0) fun g_2 =>
  bnd (up g_2 0 55 0) fun g_3 =>
  bnd (up g_3 0 59 0) fun g_4 =>
  fX12_reads_L22 fuel 0 g_4
  (fun (g_9 : Mem) =>
    bd (fX12_next g_9) fun g_12 =>
    bd (fX12_push 0 g_12) fun g_15 =>
    fX12_reads_L49 fuel g_15
    (fun (g_23 : Mem) =>
      some (g_23 0 51, g_23)
    )
  )
set_option maxRecDepth 100000 in
set_option maxHeartbeats 4000000 in
theorem wX12_reads_L22 {p : Program} {l : Launch} {e : Env} {s : State} {m : MethodId} {args : Array Value} {below : List Frame} {meth : Method} {c : Code} {Θ : Th} {h0 : Mem} {rv : Int} {gR : Mem} {K40 : Mem → Option (Int × Mem)} (C : Cx p s m args meth c cX12_reads 2 RX12 (some .int) Θ) : ∀ (n : Nat) (y1 : Int) (g : Mem) (H : Heap) (locs : List Loc) (ls : Array Slot), fX12_reads_L22 n y1 g K40 = some (rv, gR) → (∀ (gz : Mem) (H : Heap) (locs : List Loc) (ls : Array Slot), K40 gz = some (rv, gR) → Hd Θ s h0 gz H locs → lv_has ls 2 [(0, .ref (Θ.2.2.2 0))] → W p l e { frames := 9, cells := 0, slots := 0, locals := 195 } s m args below meth c H locs 0 0 (MQ below (Qx Θ s.heap.size h0 gR (some (vi rv))) args s 0 0 (AA Θ s.heap.size)) (F0 m 40 ls [])) → Hd Θ s h0 g H locs → lv_has ls 2 [(0, .ref (Θ.2.2.2 0)), (1, vi y1)] → W p l e { frames := 9, cells := 0, slots := 0, locals := 195 } s m args below meth c H locs 0 0 (MQ below (Qx Θ s.heap.size h0 gR (some (vi rv))) args s 0 0 (AA Θ s.heap.size)) (F0 m 22 ls []) := by
  intro n
  obtain ⟨hx, hb, hml, hown, hts, -⟩ := id C
  induction n with
  | zero => intro y1 g H locs ls h; cases h
  | succ n ih =>
    intro y1 g H locs ls h hK40 hM hl
    rw [fX12_reads_L22] at h
    refine x_iload_n hx hb (kX12_reads (i := 14) rfl) rfl (lv_at hl 1 rfl) ?_
    refine x_iconst hx hb (kX12_reads (i := 15) rfl) ?_
    refine x_icmp_ge (a' := wr y1) (b' := 2) hx hb rfl (by decide) (tgt := 40) (kX12_reads (i := 16) rfl) (by decide) (fun c_5 => ?_) (fun c_5 => ?_)
    · have h := it_t c_5 h
      exact hK40 g H locs ls h hM (lv_sub hl [0] rfl)
    · have h := it_f c_5 h
      refine lv_aload_n hx hb (kX12_reads (i := 17) rfl) rfl (lv_at hl 0 rfl) ?_
      refine gX12_begin C hM q_fX12_139 (kX12_reads (i := 18) rfl) ?_
      refine x_iload_n hx hb (kX12_reads (i := 19) rfl) rfl (lv_at hl 1 rfl) ?_
      refine x_iconst hx hb (kX12_reads (i := 20) rfl) ?_
      obtain ⟨hi_6, h⟩ := gd_some h
      obtain ⟨g_7, eg_7, h⟩ := bnd_some h
      refine x_iastM C hM 39 (by decide) (eM_39 Θ) hi_6 eg_7 (kX12_reads (i := 21) rfl) (fun H locs hM => ?_)
      obtain ⟨x_8, ex_8, h⟩ := bnd_some h
      refine x_iinc (k := 1) (lv' := [(1, vi x_8), (0, .ref (Θ.2.2.2 0))]) hx hb (kX12_reads (i := 22) rfl) hl rfl ex_8 (by decide) rfl (fun ls hl => ?_)
      refine lv_goto (tgt := 22) hx hb (kX12_reads (i := 23) rfl) (by decide) ?_
      exact ih x_8 g_7 H locs ls h hK40 hM (lv_sub hl [1, 0] rfl)
set_option maxRecDepth 100000 in
set_option maxHeartbeats 4000000 in
theorem wX12_reads_L49 {p : Program} {l : Launch} {e : Env} {s : State} {m : MethodId} {args : Array Value} {below : List Frame} {meth : Method} {c : Code} {Θ : Th} {h0 : Mem} {rv : Int} {gR : Mem} {K82 : Mem → Option (Int × Mem)} (C : Cx p s m args meth c cX12_reads 2 RX12 (some .int) Θ) : ∀ (n : Nat) (g : Mem) (H : Heap) (locs : List Loc) (ls : Array Slot), fX12_reads_L49 n g K82 = some (rv, gR) → (∀ (gz : Mem) (H : Heap) (locs : List Loc) (ls : Array Slot), K82 gz = some (rv, gR) → Hd Θ s h0 gz H locs → lv_has ls 2 [(0, .ref (Θ.2.2.2 0))] → W p l e { frames := 9, cells := 0, slots := 0, locals := 195 } s m args below meth c H locs 0 0 (MQ below (Qx Θ s.heap.size h0 gR (some (vi rv))) args s 0 0 (AA Θ s.heap.size)) (F0 m 82 ls [])) → Hd Θ s h0 g H locs → lv_has ls 2 [(0, .ref (Θ.2.2.2 0))] → W p l e { frames := 9, cells := 0, slots := 0, locals := 195 } s m args below meth c H locs 0 0 (MQ below (Qx Θ s.heap.size h0 gR (some (vi rv))) args s 0 0 (AA Θ s.heap.size)) (F0 m 49 ls []) := by
  intro n
  obtain ⟨hx, hb, hml, hown, hts, -⟩ := id C
  induction n with
  | zero => intro g H locs ls h; cases h
  | succ n ih =>
    intro g H locs ls h hK82 hM hl
    rw [fX12_reads_L49] at h
    refine lv_aload_n hx hb (kX12_reads (i := 29) rfl) rfl (lv_at hl 0 rfl) ?_
    refine gX12_coming C hM q_fX12_294 (kX12_reads (i := 30) rfl) ?_
    refine x_if_le (a' := wr (g 0 54)) hx hb rfl (tgt := 87) (kX12_reads (i := 31) rfl) (by decide) (fun c_16 => ?_) (fun c_16 => ?_)
    · have h := it_t c_16 h
      refine x_iconst hx hb (kX12_reads (i := 49) rfl) ?_
      obtain ⟨q1, q2⟩ := ret2 h
      rw [q1, q2]
      exact x_iret C hM (nar_i _) (kX12_reads (i := 50) rfl)
    · have h := it_f c_16 h
      refine lv_aload_n hx hb (kX12_reads (i := 32) rfl) rfl (lv_at hl 0 rfl) ?_
      refine lv_dup hx hb (kX12_reads (i := 33) rfl) rfl ?_
      refine gX12_coming C hM q_fX12_294 (kX12_reads (i := 34) rfl) ?_
      refine x_iconst hx hb (kX12_reads (i := 35) rfl) ?_
      refine x_isub hx hb (kX12_reads (i := 36) rfl) ?_
      obtain ⟨g_17, eg_17, h⟩ := bnd_some h
      refine pX12_coming C hM q_fX12_294 eg_17 (kX12_reads (i := 37) rfl) (fun H locs hM => ?_)
      refine lv_aload_n hx hb (kX12_reads (i := 38) rfl) rfl (lv_at hl 0 rfl) ?_
      refine lv_aload_n hx hb (kX12_reads (i := 39) rfl) rfl (lv_at hl 0 rfl) ?_
      refine gX12_toCome C hM q_fX12_130 (kX12_reads (i := 40) rfl) ?_
      refine lv_aload_n hx hb (kX12_reads (i := 41) rfl) rfl (lv_at hl 0 rfl) ?_
      refine gX12_coming C hM q_fX12_294 (kX12_reads (i := 42) rfl) ?_
      obtain ⟨hi_18, h⟩ := gd_some h
      refine x_ialdM C hM 36 (by decide) (eM_36 Θ) hi_18 (kX12_reads (i := 43) rfl) ?_
      obtain ⟨r_19, g_21, hc_20, h⟩ := bd2_some h
      refine x_callV (n := 1) (As := [vi (g_17 36 (wr (g_17 0 54)).toNat)]) (rest := []) C hM (tX12_steps l Θ (g_17 36 (wr (g_17 0 54)).toNat) h0 g_17 r_19 g_21 hc_20) (x_recvM C hM 0 (by decide) (eM_0 Θ _) rfl rfl) q_c_X12_steps q_mX12_352 q_i_X12_steps q_e_X12_steps q_n_X12 (by decide +kernel) ⟨by decide, by decide⟩ rfl hl.1 rfl (Nat.le_of_ble_eq_true rfl) (kX12_reads (i := 44) rfl) (fun H locs hM => ?_)
      refine x_if_ne (a' := wr r_19) hx hb rfl (tgt := 49) (kX12_reads (i := 45) rfl) (by decide) (fun c_22 => ?_) (fun c_22 => ?_)
      · have h := it_f c_22 h
        exact ih g_21 H locs ls h hK82 hM (lv_sub hl [0] rfl)
      · have h := it_t c_22 h
        exact hK82 g_21 H locs ls h hM (lv_sub hl [0] rfl)
set_option maxRecDepth 100000 in
set_option maxHeartbeats 4000000 in
theorem tX12_reads (l : Launch) (Θ : Th) (h0 g : Mem) (rv : Int) (gR : Mem) (h : fX12_reads g = some (rv, gR)) : Ct l yX12_reads cX12_reads 2 (some .int) 9 195 Θ [.ref (Θ.2.2.2 0)] h0 g h0 gR (some (vi rv)) := by
  refine x_start (by decide) (Nat.le_of_ble_eq_true rfl) ?_
  intro p e s m args below meth c ls C hM hl
  have hl : lv_has ls 2 [(0, .ref (Θ.2.2.2 0))] := hl
  obtain ⟨hx, hb, hml, hown, hts, -⟩ := id C
  unfold fX12_reads at h
  have key : ∀ (H : Heap) (locs : List Loc), Hd Θ s h0 g H locs → W p l e { frames := 9, cells := 0, slots := 0, locals := 195 } s m args below meth c H locs 0 0 (MQ below (Qx Θ s.heap.size h0 gR (some (vi rv))) args s 0 0 (AA Θ s.heap.size)) (F0 m 0 ls []) := by
    intro H locs hM
    refine lv_aload_n hx hb (kX12_reads (i := 0) rfl) rfl (lv_at hl 0 rfl) ?_
    refine x_iconst hx hb (kX12_reads (i := 1) rfl) ?_
    obtain ⟨g_1, eg_1, h⟩ := bnd_some h
    refine pX12_at C hM q_fX12_273 eg_1 (kX12_reads (i := 2) rfl) (fun H locs hM => ?_)
    refine lv_aload_n hx hb (kX12_reads (i := 3) rfl) rfl (lv_at hl 0 rfl) ?_
    refine x_iconst hx hb (kX12_reads (i := 4) rfl) ?_
    obtain ⟨g_2, eg_2, h⟩ := bnd_some h
    refine pX12_coming C hM q_fX12_294 eg_2 (kX12_reads (i := 5) rfl) (fun H locs hM => ?_)
    refine lv_aload_n hx hb (kX12_reads (i := 6) rfl) rfl (lv_at hl 0 rfl) ?_
    refine x_iconst hx hb (kX12_reads (i := 7) rfl) ?_
    obtain ⟨g_3, eg_3, h⟩ := bnd_some h
    refine pX12_deep C hM q_fX12_303 eg_3 (kX12_reads (i := 8) rfl) (fun H locs hM => ?_)
    refine lv_aload_n hx hb (kX12_reads (i := 9) rfl) rfl (lv_at hl 0 rfl) ?_
    refine x_iconst hx hb (kX12_reads (i := 10) rfl) ?_
    obtain ⟨g_4, eg_4, h⟩ := bnd_some h
    refine pX12_doing C hM q_fX12_297 eg_4 (kX12_reads (i := 11) rfl) (fun H locs hM => ?_)
    refine x_iconst hx hb (kX12_reads (i := 12) rfl) ?_
    refine x_istore_n (lv' := [(1, vi 0), (0, .ref (Θ.2.2.2 0))]) hx hb (kX12_reads (i := 13) rfl) rfl hl (by decide) rfl (fun ls hl => ?_)
    refine wX12_reads_L22  C fuel 0 g_4 H locs ls h ?_ hM (lv_sub hl [1, 0] rfl)
    · intro g_9 H locs ls h hM hl
      refine lv_aload_n hx hb (kX12_reads (i := 24) rfl) rfl (lv_at hl 0 rfl) ?_
      obtain ⟨g_12, hc_11, h⟩ := bd_some h
      refine x_callV (n := 0) (As := []) (rest := []) C hM (tX12_next l Θ h0 g_9 g_12 hc_11) (x_recvM C hM 0 (by decide) (eM_0 Θ _) rfl rfl) q_c_X12_next q_mX12_300 q_i_X12_next q_e_X12_next q_n_X12 (by decide +kernel) ⟨by decide, by decide⟩ rfl hl.1 rfl (Nat.le_of_ble_eq_true rfl) (kX12_reads (i := 25) rfl) (fun H locs hM => ?_)
      refine lv_aload_n hx hb (kX12_reads (i := 26) rfl) rfl (lv_at hl 0 rfl) ?_
      refine x_iconst hx hb (kX12_reads (i := 27) rfl) ?_
      obtain ⟨g_15, hc_14, h⟩ := bd_some h
      refine x_callV (n := 1) (As := [vi 0]) (rest := []) C hM (tX12_push l Θ 0 h0 g_12 g_15 hc_14) (x_recvM C hM 0 (by decide) (eM_0 Θ _) rfl rfl) q_c_X12_push q_mX12_306 q_i_X12_push q_e_X12_push q_n_X12 (by decide +kernel) ⟨by decide, by decide⟩ rfl hl.1 rfl (Nat.le_of_ble_eq_true rfl) (kX12_reads (i := 28) rfl) (fun H locs hM => ?_)
      refine wX12_reads_L49  C fuel g_15 H locs ls h ?_ hM (lv_sub hl [0] rfl)
      · intro g_23 H locs ls h hM hl
        refine lv_aload_n hx hb (kX12_reads (i := 46) rfl) rfl (lv_at hl 0 rfl) ?_
        refine gX12_tokenAt C hM q_fX12_276 (kX12_reads (i := 47) rfl) ?_
        obtain ⟨q1, q2⟩ := ret2 h
        rw [q1, q2]
        exact x_iret C hM (nar_i _) (kX12_reads (i := 48) rfl)
  exact key _ _ hM

/-! X12_fault -/
def fX12_fault (g : Mem) : Option (Int × Mem) :=
  bd2 (fX12_reads g) fun r_1 g_3 =>
  some (r_1, g_3)
set_option maxRecDepth 100000 in
set_option maxHeartbeats 4000000 in
theorem tX12_fault (l : Launch) (Θ : Th) (h0 g : Mem) (rv : Int) (gR : Mem) (h : fX12_fault g = some (rv, gR)) : Ct l yX12_fault cX12_fault 1 (some .int) 10 216 Θ [.ref (Θ.2.2.2 0)] h0 g h0 gR (some (vi rv)) := by
  refine x_start (by decide) (Nat.le_of_ble_eq_true rfl) ?_
  intro p e s m args below meth c ls C hM hl
  have hl : lv_has ls 1 [(0, .ref (Θ.2.2.2 0))] := hl
  obtain ⟨hx, hb, hml, hown, hts, -⟩ := id C
  unfold fX12_fault at h
  have key : ∀ (H : Heap) (locs : List Loc), Hd Θ s h0 g H locs → W p l e { frames := 10, cells := 0, slots := 0, locals := 216 } s m args below meth c H locs 0 0 (MQ below (Qx Θ s.heap.size h0 gR (some (vi rv))) args s 0 0 (AA Θ s.heap.size)) (F0 m 0 ls []) := by
    intro H locs hM
    refine lv_aload_n hx hb (kX12_fault (i := 0) rfl) rfl (lv_at hl 0 rfl) ?_
    obtain ⟨r_1, g_3, hc_2, h⟩ := bd2_some h
    refine x_callV (n := 0) (As := []) (rest := []) C hM (tX12_reads l Θ h0 g r_1 g_3 hc_2) (x_recvM C hM 0 (by decide) (eM_0 Θ _) rfl rfl) q_c_X12_reads q_mX12_355 q_i_X12_reads q_e_X12_reads q_n_X12 (by decide +kernel) ⟨by decide, by decide⟩ rfl hl.1 rfl (Nat.le_of_ble_eq_true rfl) (kX12_fault (i := 1) rfl) (fun H locs hM => ?_)
    obtain ⟨q1, q2⟩ := ret2 h
    rw [q1, q2]
    exact x_iret C hM (nar_i _) (kX12_fault (i := 2) rfl)
  exact key _ _ hM

/-! X12_rules -/
def fX12_rules_L12 : Nat → Int → Mem → (Mem → Option (Int × Mem)) → Option (Int × Mem)
  | 0, _, _, _ => none
  | n + 1, y1, g, K50 =>
    if wr (g 0 59) ≤ wr y1 then (
      K50 g
    ) else (
      gd y1 300 <|
      gd y1 300 <|
      bnd (up g 41 (wr y1).toNat (g 37 (wr y1).toNat)) fun g_8 =>
      gd y1 300 <|
      gd y1 300 <|
      bnd (up g_8 42 (wr y1).toNat (g_8 38 (wr y1).toNat)) fun g_11 =>
      bnd (y1 + 1) fun x_12 =>
      fX12_rules_L12 n x_12 g_11 K50
    )
def fX12_rules_L52 : Nat → Int → Mem → (Mem → Option (Int × Mem)) → Option (Int × Mem)
  | 0, _, _, _ => none
  | n + 1, y1, g, K87 =>
    if 2 ≤ wr y1 then (
      K87 g
    ) else (
      gd y1 2 <|
      gd y1 2 <|
      bnd (up g 43 (wr y1).toNat (g 39 (wr y1).toNat)) fun g_17 =>
      gd y1 2 <|
      gd y1 2 <|
      bnd (up g_17 44 (wr y1).toNat (g_17 40 (wr y1).toNat)) fun g_20 =>
      bnd (y1 + 1) fun x_21 =>
      fX12_rules_L52 n x_21 g_20 K87
    )
def fX12_rules (g : Mem) : Option (Int × Mem) :=
  bd2 (fX12_reads g) fun r_1 g_3 =>
  if wr r_1 = (-1) then (
    fX12_rules_L12 fuel 0 g_3
    (fun (g_13 : Mem) =>
      fX12_rules_L52 fuel 0 g_13
      (fun (g_22 : Mem) =>
        bnd (up g_22 0 48 0) fun g_23 =>
        some (1, g_23)
      )
    )
  ) else (
    some (0, g_3)
  )
set_option maxRecDepth 100000 in
set_option maxHeartbeats 4000000 in
theorem wX12_rules_L12 {p : Program} {l : Launch} {e : Env} {s : State} {m : MethodId} {args : Array Value} {below : List Frame} {meth : Method} {c : Code} {Θ : Th} {h0 : Mem} {rv : Int} {gR : Mem} {K50 : Mem → Option (Int × Mem)} (C : Cx p s m args meth c cX12_rules 2 RX12 (some .boolean) Θ) : ∀ (n : Nat) (y1 : Int) (g : Mem) (H : Heap) (locs : List Loc) (ls : Array Slot), fX12_rules_L12 n y1 g K50 = some (rv, gR) → (∀ (gz : Mem) (H : Heap) (locs : List Loc) (ls : Array Slot), K50 gz = some (rv, gR) → Hd Θ s h0 gz H locs → lv_has ls 2 [(0, .ref (Θ.2.2.2 0))] → W p l e { frames := 10, cells := 0, slots := 0, locals := 216 } s m args below meth c H locs 0 0 (MQ below (Qx Θ s.heap.size h0 gR (some (vi rv))) args s 0 0 (AA Θ s.heap.size)) (F0 m 50 ls [])) → Hd Θ s h0 g H locs → lv_has ls 2 [(0, .ref (Θ.2.2.2 0)), (1, vi y1)] → W p l e { frames := 10, cells := 0, slots := 0, locals := 216 } s m args below meth c H locs 0 0 (MQ below (Qx Θ s.heap.size h0 gR (some (vi rv))) args s 0 0 (AA Θ s.heap.size)) (F0 m 12 ls []) := by
  intro n
  obtain ⟨hx, hb, hml, hown, hts, -⟩ := id C
  induction n with
  | zero => intro y1 g H locs ls h; cases h
  | succ n ih =>
    intro y1 g H locs ls h hK50 hM hl
    rw [fX12_rules_L12] at h
    refine x_iload_n hx hb (kX12_rules (i := 8) rfl) rfl (lv_at hl 1 rfl) ?_
    refine lv_aload_n hx hb (kX12_rules (i := 9) rfl) rfl (lv_at hl 0 rfl) ?_
    refine gX12_doing C hM q_fX12_297 (kX12_rules (i := 10) rfl) ?_
    refine x_icmp_ge (a' := wr y1) (b' := wr (g 0 59)) hx hb rfl rfl (tgt := 50) (kX12_rules (i := 11) rfl) (by decide) (fun c_5 => ?_) (fun c_5 => ?_)
    · have h := it_t c_5 h
      exact hK50 g H locs ls h hM (lv_sub hl [0] rfl)
    · have h := it_f c_5 h
      refine lv_aload_n hx hb (kX12_rules (i := 12) rfl) rfl (lv_at hl 0 rfl) ?_
      refine gX12_ruleDoes C hM q_fX12_145 (kX12_rules (i := 13) rfl) ?_
      refine x_iload_n hx hb (kX12_rules (i := 14) rfl) rfl (lv_at hl 1 rfl) ?_
      refine lv_aload_n hx hb (kX12_rules (i := 15) rfl) rfl (lv_at hl 0 rfl) ?_
      refine gX12_does C hM q_fX12_133 (kX12_rules (i := 16) rfl) ?_
      refine x_iload_n hx hb (kX12_rules (i := 17) rfl) rfl (lv_at hl 1 rfl) ?_
      obtain ⟨hi_6, h⟩ := gd_some h
      refine x_ialdM C hM 37 (by decide) (eM_37 Θ) hi_6 (kX12_rules (i := 18) rfl) ?_
      obtain ⟨hi_7, h⟩ := gd_some h
      obtain ⟨g_8, eg_8, h⟩ := bnd_some h
      refine x_iastM C hM 41 (by decide) (eM_41 Θ) hi_7 eg_8 (kX12_rules (i := 19) rfl) (fun H locs hM => ?_)
      refine lv_aload_n hx hb (kX12_rules (i := 20) rfl) rfl (lv_at hl 0 rfl) ?_
      refine gX12_ruleWith C hM q_fX12_148 (kX12_rules (i := 21) rfl) ?_
      refine x_iload_n hx hb (kX12_rules (i := 22) rfl) rfl (lv_at hl 1 rfl) ?_
      refine lv_aload_n hx hb (kX12_rules (i := 23) rfl) rfl (lv_at hl 0 rfl) ?_
      refine gX12_doesWith C hM q_fX12_136 (kX12_rules (i := 24) rfl) ?_
      refine x_iload_n hx hb (kX12_rules (i := 25) rfl) rfl (lv_at hl 1 rfl) ?_
      obtain ⟨hi_9, h⟩ := gd_some h
      refine x_ialdM C hM 38 (by decide) (eM_38 Θ) hi_9 (kX12_rules (i := 26) rfl) ?_
      obtain ⟨hi_10, h⟩ := gd_some h
      obtain ⟨g_11, eg_11, h⟩ := bnd_some h
      refine x_iastM C hM 42 (by decide) (eM_42 Θ) hi_10 eg_11 (kX12_rules (i := 27) rfl) (fun H locs hM => ?_)
      obtain ⟨x_12, ex_12, h⟩ := bnd_some h
      refine x_iinc (k := 1) (lv' := [(1, vi x_12), (0, .ref (Θ.2.2.2 0))]) hx hb (kX12_rules (i := 28) rfl) hl rfl ex_12 (by decide) rfl (fun ls hl => ?_)
      refine lv_goto (tgt := 12) hx hb (kX12_rules (i := 29) rfl) (by decide) ?_
      exact ih x_12 g_11 H locs ls h hK50 hM (lv_sub hl [1, 0] rfl)
set_option maxRecDepth 100000 in
set_option maxHeartbeats 4000000 in
theorem wX12_rules_L52 {p : Program} {l : Launch} {e : Env} {s : State} {m : MethodId} {args : Array Value} {below : List Frame} {meth : Method} {c : Code} {Θ : Th} {h0 : Mem} {rv : Int} {gR : Mem} {K87 : Mem → Option (Int × Mem)} (C : Cx p s m args meth c cX12_rules 2 RX12 (some .boolean) Θ) : ∀ (n : Nat) (y1 : Int) (g : Mem) (H : Heap) (locs : List Loc) (ls : Array Slot), fX12_rules_L52 n y1 g K87 = some (rv, gR) → (∀ (gz : Mem) (H : Heap) (locs : List Loc) (ls : Array Slot), K87 gz = some (rv, gR) → Hd Θ s h0 gz H locs → lv_has ls 2 [(0, .ref (Θ.2.2.2 0))] → W p l e { frames := 10, cells := 0, slots := 0, locals := 216 } s m args below meth c H locs 0 0 (MQ below (Qx Θ s.heap.size h0 gR (some (vi rv))) args s 0 0 (AA Θ s.heap.size)) (F0 m 87 ls [])) → Hd Θ s h0 g H locs → lv_has ls 2 [(0, .ref (Θ.2.2.2 0)), (1, vi y1)] → W p l e { frames := 10, cells := 0, slots := 0, locals := 216 } s m args below meth c H locs 0 0 (MQ below (Qx Θ s.heap.size h0 gR (some (vi rv))) args s 0 0 (AA Θ s.heap.size)) (F0 m 52 ls []) := by
  intro n
  obtain ⟨hx, hb, hml, hown, hts, -⟩ := id C
  induction n with
  | zero => intro y1 g H locs ls h; cases h
  | succ n ih =>
    intro y1 g H locs ls h hK87 hM hl
    rw [fX12_rules_L52] at h
    refine x_iload_n hx hb (kX12_rules (i := 32) rfl) rfl (lv_at hl 1 rfl) ?_
    refine x_iconst hx hb (kX12_rules (i := 33) rfl) ?_
    refine x_icmp_ge (a' := wr y1) (b' := 2) hx hb rfl (by decide) (tgt := 87) (kX12_rules (i := 34) rfl) (by decide) (fun c_14 => ?_) (fun c_14 => ?_)
    · have h := it_t c_14 h
      exact hK87 g H locs ls h hM (lv_sub hl [0] rfl)
    · have h := it_f c_14 h
      refine lv_aload_n hx hb (kX12_rules (i := 35) rfl) rfl (lv_at hl 0 rfl) ?_
      refine gX12_ruleBegin C hM q_fX12_151 (kX12_rules (i := 36) rfl) ?_
      refine x_iload_n hx hb (kX12_rules (i := 37) rfl) rfl (lv_at hl 1 rfl) ?_
      refine lv_aload_n hx hb (kX12_rules (i := 38) rfl) rfl (lv_at hl 0 rfl) ?_
      refine gX12_begin C hM q_fX12_139 (kX12_rules (i := 39) rfl) ?_
      refine x_iload_n hx hb (kX12_rules (i := 40) rfl) rfl (lv_at hl 1 rfl) ?_
      obtain ⟨hi_15, h⟩ := gd_some h
      refine x_ialdM C hM 39 (by decide) (eM_39 Θ) hi_15 (kX12_rules (i := 41) rfl) ?_
      obtain ⟨hi_16, h⟩ := gd_some h
      obtain ⟨g_17, eg_17, h⟩ := bnd_some h
      refine x_iastM C hM 43 (by decide) (eM_43 Θ) hi_16 eg_17 (kX12_rules (i := 42) rfl) (fun H locs hM => ?_)
      refine lv_aload_n hx hb (kX12_rules (i := 43) rfl) rfl (lv_at hl 0 rfl) ?_
      refine gX12_ruleEnd C hM q_fX12_154 (kX12_rules (i := 44) rfl) ?_
      refine x_iload_n hx hb (kX12_rules (i := 45) rfl) rfl (lv_at hl 1 rfl) ?_
      refine lv_aload_n hx hb (kX12_rules (i := 46) rfl) rfl (lv_at hl 0 rfl) ?_
      refine gX12_close C hM q_fX12_142 (kX12_rules (i := 47) rfl) ?_
      refine x_iload_n hx hb (kX12_rules (i := 48) rfl) rfl (lv_at hl 1 rfl) ?_
      obtain ⟨hi_18, h⟩ := gd_some h
      refine x_ialdM C hM 40 (by decide) (eM_40 Θ) hi_18 (kX12_rules (i := 49) rfl) ?_
      obtain ⟨hi_19, h⟩ := gd_some h
      obtain ⟨g_20, eg_20, h⟩ := bnd_some h
      refine x_iastM C hM 44 (by decide) (eM_44 Θ) hi_19 eg_20 (kX12_rules (i := 50) rfl) (fun H locs hM => ?_)
      obtain ⟨x_21, ex_21, h⟩ := bnd_some h
      refine x_iinc (k := 1) (lv' := [(1, vi x_21), (0, .ref (Θ.2.2.2 0))]) hx hb (kX12_rules (i := 51) rfl) hl rfl ex_21 (by decide) rfl (fun ls hl => ?_)
      refine lv_goto (tgt := 52) hx hb (kX12_rules (i := 52) rfl) (by decide) ?_
      exact ih x_21 g_20 H locs ls h hK87 hM (lv_sub hl [1, 0] rfl)
set_option maxRecDepth 100000 in
set_option maxHeartbeats 4000000 in
theorem tX12_rules (l : Launch) (Θ : Th) (h0 g : Mem) (rv : Int) (gR : Mem) (h : fX12_rules g = some (rv, gR)) : Ct l yX12_rules cX12_rules 2 (some .boolean) 10 216 Θ [.ref (Θ.2.2.2 0)] h0 g h0 gR (some (vi rv)) := by
  refine x_start (by decide) (Nat.le_of_ble_eq_true rfl) ?_
  intro p e s m args below meth c ls C hM hl
  have hl : lv_has ls 2 [(0, .ref (Θ.2.2.2 0))] := hl
  obtain ⟨hx, hb, hml, hown, hts, -⟩ := id C
  unfold fX12_rules at h
  have key : ∀ (H : Heap) (locs : List Loc), Hd Θ s h0 g H locs → W p l e { frames := 10, cells := 0, slots := 0, locals := 216 } s m args below meth c H locs 0 0 (MQ below (Qx Θ s.heap.size h0 gR (some (vi rv))) args s 0 0 (AA Θ s.heap.size)) (F0 m 0 ls []) := by
    intro H locs hM
    refine lv_aload_n hx hb (kX12_rules (i := 0) rfl) rfl (lv_at hl 0 rfl) ?_
    obtain ⟨r_1, g_3, hc_2, h⟩ := bd2_some h
    refine x_callV (n := 0) (As := []) (rest := []) C hM (tX12_reads l Θ h0 g r_1 g_3 hc_2) (x_recvM C hM 0 (by decide) (eM_0 Θ _) rfl rfl) q_c_X12_reads q_mX12_355 q_i_X12_reads q_e_X12_reads q_n_X12 (by decide +kernel) ⟨by decide, by decide⟩ rfl hl.1 rfl (Nat.le_of_ble_eq_true rfl) (kX12_rules (i := 1) rfl) (fun H locs hM => ?_)
    refine x_iconst hx hb (kX12_rules (i := 2) rfl) ?_
    refine x_icmp_eq (a' := wr r_1) (b' := (-1)) hx hb rfl (by decide) (tgt := 10) (kX12_rules (i := 3) rfl) (by decide) (fun c_4 => ?_) (fun c_4 => ?_)
    · have h := it_t c_4 h
      refine x_iconst hx hb (kX12_rules (i := 6) rfl) ?_
      refine x_istore_n (lv' := [(1, vi 0), (0, .ref (Θ.2.2.2 0))]) hx hb (kX12_rules (i := 7) rfl) rfl hl (by decide) rfl (fun ls hl => ?_)
      refine wX12_rules_L12  C fuel 0 g_3 H locs ls h ?_ hM (lv_sub hl [1, 0] rfl)
      · intro g_13 H locs ls h hM hl
        refine x_iconst hx hb (kX12_rules (i := 30) rfl) ?_
        refine x_istore_n (lv' := [(1, vi 0), (0, .ref (Θ.2.2.2 0))]) hx hb (kX12_rules (i := 31) rfl) rfl hl (by decide) rfl (fun ls hl => ?_)
        refine wX12_rules_L52  C fuel 0 g_13 H locs ls h ?_ hM (lv_sub hl [1, 0] rfl)
        · intro g_22 H locs ls h hM hl
          refine lv_aload_n hx hb (kX12_rules (i := 53) rfl) rfl (lv_at hl 0 rfl) ?_
          refine x_iconst hx hb (kX12_rules (i := 54) rfl) ?_
          obtain ⟨g_23, eg_23, h⟩ := bnd_some h
          refine pX12_size C hM q_fX12_260 eg_23 (kX12_rules (i := 55) rfl) (fun H locs hM => ?_)
          refine x_iconst hx hb (kX12_rules (i := 56) rfl) ?_
          obtain ⟨q1, q2⟩ := ret2 h
          rw [q1, q2]
          exact x_iret C hM (nar_z (Or.inr rfl)) (kX12_rules (i := 57) rfl)
    · have h := it_f c_4 h
      refine x_iconst hx hb (kX12_rules (i := 4) rfl) ?_
      obtain ⟨q1, q2⟩ := ret2 h
      rw [q1, q2]
      exact x_iret C hM (nar_z (Or.inl rfl)) (kX12_rules (i := 5) rfl)
  exact key _ _ hM
