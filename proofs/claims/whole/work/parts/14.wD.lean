/-! X9_spells -/
def fX9_spells_L15 (k : Nat) : Nat → Int → Int → Mem → Option (Int)
  | 0, _, _, _ => none
  | n + 1, y2, y4, g =>
    if wr (strLen k) ≤ wr y4 then (
      some 1
    ) else (
      bd (fX9_byteAt (y2 + y4) g) fun r_3 =>
      gc (0 ≤ wr y4 ∧ wr y4 < strLen k) <|
      if wr r_3 = wr (strAt k (wr y4).toNat) then (
        bnd (y4 + 1) fun x_7 =>
        fX9_spells_L15 k n y2 x_7 g
      ) else (
        some 0
      )
    )
def fX9_spells (k : Nat) (a1 : Int) (a2 : Int) (g : Mem) : Option (Int) :=
  if wr (a2 - a1) = wr (strLen k) then (
    fX9_spells_L15 k fuel a1 0 g
  ) else (
    some 0
  )
set_option maxRecDepth 100000 in
set_option maxHeartbeats 4000000 in
theorem wX9_spells_L15 {p : Program} {l : Launch} {e : Env} {s : State} {m : MethodId} {args : Array Value} {below : List Frame} {meth : Method} {c : Code} {Θ : Th} {h0 : Mem} {g : Mem} {k : Nat} (hS : k < 13) {rv : Int} (C : Cx p s m args meth c cX9_spells 5 RX9 (some .boolean) Θ) : ∀ (n : Nat) (y2 : Int) (y4 : Int) (H : Heap) (locs : List Loc) (ls : Array Slot), fX9_spells_L15 k n y2 y4 g = some rv → Hd Θ s g h0 H locs → lv_has ls 5 [(0, .ref (Θ.2.2.1 37)), (1, .ref (Θ.2.2.1 (100 + k))), (2, vi y2), (4, vi y4)] → W p l e { frames := 4, cells := 0, slots := 0, locals := 85 } s m args below meth c H locs 0 0 (MQ below (Qx Θ s.heap.size g h0 (some (vi rv))) args s 0 0 (AA Θ s.heap.size)) (F0 m 15 ls []) := by
  intro n
  obtain ⟨hx, hb, hml, hown, hts, -⟩ := id C
  induction n with
  | zero => intro y2 y4 H locs ls h; cases h
  | succ n ih =>
    intro y2 y4 H locs ls h  hM hl
    rw [fX9_spells_L15] at h
    refine x_iload hx hb (kX9_spells (i := 10) rfl) (lv_at hl 3 rfl) ?_
    refine lv_aload_n hx hb (kX9_spells (i := 11) rfl) rfl (lv_at hl 1 rfl) ?_
    refine x_strlen C hM hl.1 k hS ⟨by decide, by decide⟩ (Nat.le_of_ble_eq_true rfl) q_mX9_19 (kX9_spells (i := 12) rfl) (fun H locs hM => ?_)
    refine x_icmp_ge (a' := wr y4) (b' := wr (strLen k)) hx hb rfl rfl (tgt := 49) (kX9_spells (i := 13) rfl) (by decide) (fun c_2 => ?_) (fun c_2 => ?_)
    · have h := it_t c_2 h
      refine x_iconst hx hb (kX9_spells (i := 27) rfl) ?_
      rw [← Option.some.inj h]
      exact x_iret C hM (nar_z (Or.inr rfl)) (kX9_spells (i := 28) rfl)
    · have h := it_f c_2 h
      refine lv_aload_n hx hb (kX9_spells (i := 14) rfl) rfl (lv_at hl 0 rfl) ?_
      refine x_iload_n hx hb (kX9_spells (i := 15) rfl) rfl (lv_at hl 2 rfl) ?_
      refine x_iload hx hb (kX9_spells (i := 16) rfl) (lv_at hl 3 rfl) ?_
      refine x_iadd hx hb (kX9_spells (i := 17) rfl) ?_
      obtain ⟨r_3, hc_4, h⟩ := bd_some h
      refine x_callV (n := 1) (As := [vi (y2 + y4)]) (rest := []) C hM (tX9_byteAt l Θ (y2 + y4) h0 g r_3 hc_4) (x_recvX C hM 37 (by decide) (eX_37 Θ _) rfl rfl) q_c_X9_byteAt q_mX9_24 q_i_X9_byteAt q_e_X9_byteAt q_n_X9 (by decide +kernel) ⟨by decide, by decide⟩ rfl hl.1 rfl (Nat.le_of_ble_eq_true rfl) (kX9_spells (i := 18) rfl) (fun H locs hM => ?_)
      refine lv_aload_n hx hb (kX9_spells (i := 19) rfl) rfl (lv_at hl 1 rfl) ?_
      refine x_iload hx hb (kX9_spells (i := 20) rfl) (lv_at hl 3 rfl) ?_
      obtain ⟨hi_5, h⟩ := gc_some h
      refine x_charAt C hM hl.1 k hS ⟨by decide, by decide⟩ (Nat.le_of_ble_eq_true rfl) hi_5 q_mX9_28 (kX9_spells (i := 21) rfl) (fun H locs hM => ?_)
      refine x_icmp_eq (a' := wr r_3) (b' := wr (strAt k (wr y4).toNat)) hx hb rfl rfl (tgt := 43) (kX9_spells (i := 22) rfl) (by decide) (fun c_6 => ?_) (fun c_6 => ?_)
      · have h := it_t c_6 h
        obtain ⟨x_7, ex_7, h⟩ := bnd_some h
        refine x_iinc (k := 3) (lv' := [(4, vi x_7), (0, .ref (Θ.2.2.1 37)), (1, .ref (Θ.2.2.1 (100 + k))), (2, vi y2)]) hx hb (kX9_spells (i := 25) rfl) hl rfl ex_7 (by decide) rfl (fun ls hl => ?_)
        refine lv_goto (tgt := 15) hx hb (kX9_spells (i := 26) rfl) (by decide) ?_
        exact ih y2 x_7 H locs ls h hM (lv_sub hl [1, 2, 3, 0] rfl)
      · have h := it_f c_6 h
        refine x_iconst hx hb (kX9_spells (i := 23) rfl) ?_
        rw [← Option.some.inj h]
        exact x_iret C hM (nar_z (Or.inl rfl)) (kX9_spells (i := 24) rfl)
set_option maxRecDepth 100000 in
set_option maxHeartbeats 4000000 in
theorem tX9_spells (l : Launch) (Θ : Th) (k : Nat) (hS : k < 13) (a1 : Int) (a2 : Int) (h0 g : Mem) (rv : Int) (h : fX9_spells k a1 a2 g = some rv) : Ct l yX9_spells cX9_spells 5 (some .boolean) 4 85 Θ [.ref (Θ.2.2.1 37), .ref (Θ.2.2.1 (100 + k)), vi a1, vi a2] g h0 g h0 (some (vi rv)) := by
  refine x_start (by decide) (Nat.le_of_ble_eq_true rfl) ?_
  intro p e s m args below meth c ls C hM hl
  have hl : lv_has ls 5 [(0, .ref (Θ.2.2.1 37)), (1, .ref (Θ.2.2.1 (100 + k))), (2, vi a1), (3, vi a2)] := hl
  obtain ⟨hx, hb, hml, hown, hts, -⟩ := id C
  unfold fX9_spells at h
  have key : ∀ (H : Heap) (locs : List Loc), Hd Θ s g h0 H locs → W p l e { frames := 4, cells := 0, slots := 0, locals := 85 } s m args below meth c H locs 0 0 (MQ below (Qx Θ s.heap.size g h0 (some (vi rv))) args s 0 0 (AA Θ s.heap.size)) (F0 m 0 ls []) := by
    intro H locs hM
    refine x_iload_n hx hb (kX9_spells (i := 0) rfl) rfl (lv_at hl 3 rfl) ?_
    refine x_iload_n hx hb (kX9_spells (i := 1) rfl) rfl (lv_at hl 2 rfl) ?_
    refine x_isub hx hb (kX9_spells (i := 2) rfl) ?_
    refine lv_aload_n hx hb (kX9_spells (i := 3) rfl) rfl (lv_at hl 1 rfl) ?_
    refine x_strlen C hM hl.1 k hS ⟨by decide, by decide⟩ (Nat.le_of_ble_eq_true rfl) q_mX9_19 (kX9_spells (i := 4) rfl) (fun H locs hM => ?_)
    refine x_icmp_eq (a' := wr (a2 - a1)) (b' := wr (strLen k)) hx hb rfl rfl (tgt := 12) (kX9_spells (i := 5) rfl) (by decide) (fun c_1 => ?_) (fun c_1 => ?_)
    · have h := it_t c_1 h
      refine x_iconst hx hb (kX9_spells (i := 8) rfl) ?_
      refine x_istore (lv' := [(4, vi 0), (0, .ref (Θ.2.2.1 37)), (1, .ref (Θ.2.2.1 (100 + k))), (2, vi a1), (3, vi a2)]) hx hb (kX9_spells (i := 9) rfl) hl (by decide) rfl (fun ls hl => ?_)
      refine wX9_spells_L15  hS C fuel a1 0 H locs ls h  hM (lv_sub hl [1, 2, 3, 0] rfl)
    · have h := it_f c_1 h
      refine x_iconst hx hb (kX9_spells (i := 6) rfl) ?_
      rw [← Option.some.inj h]
      exact x_iret C hM (nar_z (Or.inl rfl)) (kX9_spells (i := 7) rfl)
  exact key _ _ hM

/-! X5_name -/
def fX5_name (g : Mem) : Option (Int) :=
  bd (fX9_spells 5 (g 39 3) (g 39 2) g) fun r_1 =>
  if wr r_1 = 0 then (
    bd (fX9_spells 6 (g 39 3) (g 39 2) g) fun r_4 =>
    if wr r_4 = 0 then (
      bd (fX9_spells 7 (g 39 3) (g 39 2) g) fun r_7 =>
      if wr r_7 = 0 then (
        bd (fX9_spells 8 (g 39 3) (g 39 2) g) fun r_10 =>
        if wr r_10 = 0 then (
          bd (fX9_spells 9 (g 39 3) (g 39 2) g) fun r_13 =>
          if wr r_13 = 0 then (
            bd (fX9_spells 10 (g 39 3) (g 39 2) g) fun r_16 =>
            if wr r_16 = 0 then (
              bd (fX9_spells 11 (g 39 3) (g 39 2) g) fun r_19 =>
              if wr r_19 = 0 then (
                some 10028
              ) else (
                some 10006
              )
            ) else (
              some 10005
            )
          ) else (
            some 10004
          )
        ) else (
          some 10003
        )
      ) else (
        some 10002
      )
    ) else (
      some 10001
    )
  ) else (
    some 10000
  )
set_option maxRecDepth 100000 in
set_option maxHeartbeats 4000000 in
theorem tX5_name (l : Launch) (Θ : Th) (h0 g : Mem) (rv : Int) (h : fX5_name g = some rv) : Ct l yX5_name cX5_name 2 (some .int) 5 109 Θ [.ref (Θ.2.2.1 39), .ref (Θ.2.2.1 37)] g h0 g h0 (some (vi rv)) := by
  refine x_start (by decide) (Nat.le_of_ble_eq_true rfl) ?_
  intro p e s m args below meth c ls C hM hl
  have hl : lv_has ls 2 [(0, .ref (Θ.2.2.1 39)), (1, .ref (Θ.2.2.1 37))] := hl
  obtain ⟨hx, hb, hml, hown, hts, -⟩ := id C
  unfold fX5_name at h
  have key : ∀ (H : Heap) (locs : List Loc), Hd Θ s g h0 H locs → W p l e { frames := 5, cells := 0, slots := 0, locals := 109 } s m args below meth c H locs 0 0 (MQ below (Qx Θ s.heap.size g h0 (some (vi rv))) args s 0 0 (AA Θ s.heap.size)) (F0 m 0 ls []) := by
    intro H locs hM
    refine lv_aload_n hx hb (kX5_name (i := 0) rfl) rfl (lv_at hl 1 rfl) ?_
    refine x_ldcS C 5 rfl (kX5_name (i := 1) rfl) ?_
    refine lv_aload_n hx hb (kX5_name (i := 2) rfl) rfl (lv_at hl 0 rfl) ?_
    refine gX5_first C hM q_fX5_22 (kX5_name (i := 3) rfl) ?_
    refine lv_aload_n hx hb (kX5_name (i := 4) rfl) rfl (lv_at hl 0 rfl) ?_
    refine gX5_next C hM q_fX5_19 (kX5_name (i := 5) rfl) ?_
    obtain ⟨r_1, hc_2, h⟩ := bd_some h
    refine x_callV (n := 3) (As := [.ref (Θ.2.2.1 (100 + 5)), vi (g 39 3), vi (g 39 2)]) (rest := []) C hM (tX9_spells l Θ 5 (by decide) (g 39 3) (g 39 2) h0 g r_1 hc_2) (x_recvX C hM 37 (by decide) (eX_37 Θ _) rfl rfl) q_c_X9_spells q_mX5_84 q_i_X9_spells q_e_X9_spells q_n_X9 (by decide +kernel) ⟨by decide, by decide⟩ rfl hl.1 rfl (Nat.le_of_ble_eq_true rfl) (kX5_name (i := 6) rfl) (fun H locs hM => ?_)
    refine x_if_eq (a' := wr r_1) hx hb rfl (tgt := 21) (kX5_name (i := 7) rfl) (by decide) (fun c_3 => ?_) (fun c_3 => ?_)
    · have h := it_t c_3 h
      refine lv_aload_n hx hb (kX5_name (i := 10) rfl) rfl (lv_at hl 1 rfl) ?_
      refine x_ldcS C 6 rfl (kX5_name (i := 11) rfl) ?_
      refine lv_aload_n hx hb (kX5_name (i := 12) rfl) rfl (lv_at hl 0 rfl) ?_
      refine gX5_first C hM q_fX5_22 (kX5_name (i := 13) rfl) ?_
      refine lv_aload_n hx hb (kX5_name (i := 14) rfl) rfl (lv_at hl 0 rfl) ?_
      refine gX5_next C hM q_fX5_19 (kX5_name (i := 15) rfl) ?_
      obtain ⟨r_4, hc_5, h⟩ := bd_some h
      refine x_callV (n := 3) (As := [.ref (Θ.2.2.1 (100 + 6)), vi (g 39 3), vi (g 39 2)]) (rest := []) C hM (tX9_spells l Θ 6 (by decide) (g 39 3) (g 39 2) h0 g r_4 hc_5) (x_recvX C hM 37 (by decide) (eX_37 Θ _) rfl rfl) q_c_X9_spells q_mX5_84 q_i_X9_spells q_e_X9_spells q_n_X9 (by decide +kernel) ⟨by decide, by decide⟩ rfl hl.1 rfl (Nat.le_of_ble_eq_true rfl) (kX5_name (i := 16) rfl) (fun H locs hM => ?_)
      refine x_if_eq (a' := wr r_4) hx hb rfl (tgt := 42) (kX5_name (i := 17) rfl) (by decide) (fun c_6 => ?_) (fun c_6 => ?_)
      · have h := it_t c_6 h
        refine lv_aload_n hx hb (kX5_name (i := 20) rfl) rfl (lv_at hl 1 rfl) ?_
        refine x_ldcS C 7 rfl (kX5_name (i := 21) rfl) ?_
        refine lv_aload_n hx hb (kX5_name (i := 22) rfl) rfl (lv_at hl 0 rfl) ?_
        refine gX5_first C hM q_fX5_22 (kX5_name (i := 23) rfl) ?_
        refine lv_aload_n hx hb (kX5_name (i := 24) rfl) rfl (lv_at hl 0 rfl) ?_
        refine gX5_next C hM q_fX5_19 (kX5_name (i := 25) rfl) ?_
        obtain ⟨r_7, hc_8, h⟩ := bd_some h
        refine x_callV (n := 3) (As := [.ref (Θ.2.2.1 (100 + 7)), vi (g 39 3), vi (g 39 2)]) (rest := []) C hM (tX9_spells l Θ 7 (by decide) (g 39 3) (g 39 2) h0 g r_7 hc_8) (x_recvX C hM 37 (by decide) (eX_37 Θ _) rfl rfl) q_c_X9_spells q_mX5_84 q_i_X9_spells q_e_X9_spells q_n_X9 (by decide +kernel) ⟨by decide, by decide⟩ rfl hl.1 rfl (Nat.le_of_ble_eq_true rfl) (kX5_name (i := 26) rfl) (fun H locs hM => ?_)
        refine x_if_eq (a' := wr r_7) hx hb rfl (tgt := 63) (kX5_name (i := 27) rfl) (by decide) (fun c_9 => ?_) (fun c_9 => ?_)
        · have h := it_t c_9 h
          refine lv_aload_n hx hb (kX5_name (i := 30) rfl) rfl (lv_at hl 1 rfl) ?_
          refine x_ldcS C 8 rfl (kX5_name (i := 31) rfl) ?_
          refine lv_aload_n hx hb (kX5_name (i := 32) rfl) rfl (lv_at hl 0 rfl) ?_
          refine gX5_first C hM q_fX5_22 (kX5_name (i := 33) rfl) ?_
          refine lv_aload_n hx hb (kX5_name (i := 34) rfl) rfl (lv_at hl 0 rfl) ?_
          refine gX5_next C hM q_fX5_19 (kX5_name (i := 35) rfl) ?_
          obtain ⟨r_10, hc_11, h⟩ := bd_some h
          refine x_callV (n := 3) (As := [.ref (Θ.2.2.1 (100 + 8)), vi (g 39 3), vi (g 39 2)]) (rest := []) C hM (tX9_spells l Θ 8 (by decide) (g 39 3) (g 39 2) h0 g r_10 hc_11) (x_recvX C hM 37 (by decide) (eX_37 Θ _) rfl rfl) q_c_X9_spells q_mX5_84 q_i_X9_spells q_e_X9_spells q_n_X9 (by decide +kernel) ⟨by decide, by decide⟩ rfl hl.1 rfl (Nat.le_of_ble_eq_true rfl) (kX5_name (i := 36) rfl) (fun H locs hM => ?_)
          refine x_if_eq (a' := wr r_10) hx hb rfl (tgt := 84) (kX5_name (i := 37) rfl) (by decide) (fun c_12 => ?_) (fun c_12 => ?_)
          · have h := it_t c_12 h
            refine lv_aload_n hx hb (kX5_name (i := 40) rfl) rfl (lv_at hl 1 rfl) ?_
            refine x_ldcS C 9 rfl (kX5_name (i := 41) rfl) ?_
            refine lv_aload_n hx hb (kX5_name (i := 42) rfl) rfl (lv_at hl 0 rfl) ?_
            refine gX5_first C hM q_fX5_22 (kX5_name (i := 43) rfl) ?_
            refine lv_aload_n hx hb (kX5_name (i := 44) rfl) rfl (lv_at hl 0 rfl) ?_
            refine gX5_next C hM q_fX5_19 (kX5_name (i := 45) rfl) ?_
            obtain ⟨r_13, hc_14, h⟩ := bd_some h
            refine x_callV (n := 3) (As := [.ref (Θ.2.2.1 (100 + 9)), vi (g 39 3), vi (g 39 2)]) (rest := []) C hM (tX9_spells l Θ 9 (by decide) (g 39 3) (g 39 2) h0 g r_13 hc_14) (x_recvX C hM 37 (by decide) (eX_37 Θ _) rfl rfl) q_c_X9_spells q_mX5_84 q_i_X9_spells q_e_X9_spells q_n_X9 (by decide +kernel) ⟨by decide, by decide⟩ rfl hl.1 rfl (Nat.le_of_ble_eq_true rfl) (kX5_name (i := 46) rfl) (fun H locs hM => ?_)
            refine x_if_eq (a' := wr r_13) hx hb rfl (tgt := 105) (kX5_name (i := 47) rfl) (by decide) (fun c_15 => ?_) (fun c_15 => ?_)
            · have h := it_t c_15 h
              refine lv_aload_n hx hb (kX5_name (i := 50) rfl) rfl (lv_at hl 1 rfl) ?_
              refine x_ldcS C 10 rfl (kX5_name (i := 51) rfl) ?_
              refine lv_aload_n hx hb (kX5_name (i := 52) rfl) rfl (lv_at hl 0 rfl) ?_
              refine gX5_first C hM q_fX5_22 (kX5_name (i := 53) rfl) ?_
              refine lv_aload_n hx hb (kX5_name (i := 54) rfl) rfl (lv_at hl 0 rfl) ?_
              refine gX5_next C hM q_fX5_19 (kX5_name (i := 55) rfl) ?_
              obtain ⟨r_16, hc_17, h⟩ := bd_some h
              refine x_callV (n := 3) (As := [.ref (Θ.2.2.1 (100 + 10)), vi (g 39 3), vi (g 39 2)]) (rest := []) C hM (tX9_spells l Θ 10 (by decide) (g 39 3) (g 39 2) h0 g r_16 hc_17) (x_recvX C hM 37 (by decide) (eX_37 Θ _) rfl rfl) q_c_X9_spells q_mX5_84 q_i_X9_spells q_e_X9_spells q_n_X9 (by decide +kernel) ⟨by decide, by decide⟩ rfl hl.1 rfl (Nat.le_of_ble_eq_true rfl) (kX5_name (i := 56) rfl) (fun H locs hM => ?_)
              refine x_if_eq (a' := wr r_16) hx hb rfl (tgt := 126) (kX5_name (i := 57) rfl) (by decide) (fun c_18 => ?_) (fun c_18 => ?_)
              · have h := it_t c_18 h
                refine lv_aload_n hx hb (kX5_name (i := 60) rfl) rfl (lv_at hl 1 rfl) ?_
                refine x_ldcS C 11 rfl (kX5_name (i := 61) rfl) ?_
                refine lv_aload_n hx hb (kX5_name (i := 62) rfl) rfl (lv_at hl 0 rfl) ?_
                refine gX5_first C hM q_fX5_22 (kX5_name (i := 63) rfl) ?_
                refine lv_aload_n hx hb (kX5_name (i := 64) rfl) rfl (lv_at hl 0 rfl) ?_
                refine gX5_next C hM q_fX5_19 (kX5_name (i := 65) rfl) ?_
                obtain ⟨r_19, hc_20, h⟩ := bd_some h
                refine x_callV (n := 3) (As := [.ref (Θ.2.2.1 (100 + 11)), vi (g 39 3), vi (g 39 2)]) (rest := []) C hM (tX9_spells l Θ 11 (by decide) (g 39 3) (g 39 2) h0 g r_19 hc_20) (x_recvX C hM 37 (by decide) (eX_37 Θ _) rfl rfl) q_c_X9_spells q_mX5_84 q_i_X9_spells q_e_X9_spells q_n_X9 (by decide +kernel) ⟨by decide, by decide⟩ rfl hl.1 rfl (Nat.le_of_ble_eq_true rfl) (kX5_name (i := 66) rfl) (fun H locs hM => ?_)
                refine x_if_eq (a' := wr r_19) hx hb rfl (tgt := 149) (kX5_name (i := 67) rfl) (by decide) (fun c_21 => ?_) (fun c_21 => ?_)
                · have h := it_t c_21 h
                  refine x_sipush hx hb (by decide) (kX5_name (i := 70) rfl) ?_
                  rw [← Option.some.inj h]
                  exact x_iret C hM (nar_i _) (kX5_name (i := 71) rfl)
                · have h := it_f c_21 h
                  refine x_sipush hx hb (by decide) (kX5_name (i := 68) rfl) ?_
                  refine lv_goto (tgt := 152) hx hb (kX5_name (i := 69) rfl) (by decide) ?_
                  rw [← Option.some.inj h]
                  exact x_iret C hM (nar_i _) (kX5_name (i := 71) rfl)
              · have h := it_f c_18 h
                refine x_sipush hx hb (by decide) (kX5_name (i := 58) rfl) ?_
                rw [← Option.some.inj h]
                exact x_iret C hM (nar_i _) (kX5_name (i := 59) rfl)
            · have h := it_f c_15 h
              refine x_sipush hx hb (by decide) (kX5_name (i := 48) rfl) ?_
              rw [← Option.some.inj h]
              exact x_iret C hM (nar_i _) (kX5_name (i := 49) rfl)
          · have h := it_f c_12 h
            refine x_sipush hx hb (by decide) (kX5_name (i := 38) rfl) ?_
            rw [← Option.some.inj h]
            exact x_iret C hM (nar_i _) (kX5_name (i := 39) rfl)
        · have h := it_f c_9 h
          refine x_sipush hx hb (by decide) (kX5_name (i := 28) rfl) ?_
          rw [← Option.some.inj h]
          exact x_iret C hM (nar_i _) (kX5_name (i := 29) rfl)
      · have h := it_f c_6 h
        refine x_sipush hx hb (by decide) (kX5_name (i := 18) rfl) ?_
        rw [← Option.some.inj h]
        exact x_iret C hM (nar_i _) (kX5_name (i := 19) rfl)
    · have h := it_f c_3 h
      refine x_sipush hx hb (by decide) (kX5_name (i := 8) rfl) ?_
      rw [← Option.some.inj h]
      exact x_iret C hM (nar_i _) (kX5_name (i := 9) rfl)
  exact key _ _ hM

/-! X5_word -/
def fX5_word_L0 : Nat → Mem → (Mem → Option (Int × Mem)) → Option (Int × Mem)
  | 0, _, _ => none
  | n + 1, g, K38 =>
    if wr (g 37 1) ≤ wr (g 39 2) then (
      K38 g
    ) else (
      bd (fX9_byteAt (g 39 2) g) fun r_2 =>
      bd (fX5_isLetter r_2) fun r_4 =>
      if wr r_4 = 0 then (
        K38 g
      ) else (
        bnd (up g 39 2 ((g 39 2) + 1)) fun g_7 =>
        fX5_word_L0 n g_7 K38
      )
    )
def fX5_word (g : Mem) : Option (Int × Mem) :=
  fX5_word_L0 fuel g
  (fun (g_8 : Mem) =>
    bd (fX9_spells 0 (g_8 39 3) (g_8 39 2) g_8) fun r_9 =>
    if wr r_9 = 0 then (
      bd (fX9_spells 1 (g_8 39 3) (g_8 39 2) g_8) fun r_12 =>
      if wr r_12 = 0 then (
        bd (fX9_spells 2 (g_8 39 3) (g_8 39 2) g_8) fun r_15 =>
        if wr r_15 = 0 then (
          bd (fX9_spells 3 (g_8 39 3) (g_8 39 2) g_8) fun r_18 =>
          if wr r_18 = 0 then (
            bd (fX9_spells 4 (g_8 39 3) (g_8 39 2) g_8) fun r_21 =>
            if wr r_21 = 0 then (
              bd (fX5_name g_8) fun r_24 =>
              some (r_24, g_8)
            ) else (
              some (10012, g_8)
            )
          ) else (
            some (10011, g_8)
          )
        ) else (
          some (10010, g_8)
        )
      ) else (
        some (10026, g_8)
      )
    ) else (
      some (10025, g_8)
    )
  )
set_option maxRecDepth 100000 in
set_option maxHeartbeats 4000000 in
theorem wX5_word_L0 {p : Program} {l : Launch} {e : Env} {s : State} {m : MethodId} {args : Array Value} {below : List Frame} {meth : Method} {c : Code} {Θ : Th} {h0 : Mem} {rv : Int} {gR : Mem} {K38 : Mem → Option (Int × Mem)} (C : Cx p s m args meth c cX5_word 2 RX5 (some .int) Θ) : ∀ (n : Nat) (g : Mem) (H : Heap) (locs : List Loc) (ls : Array Slot), fX5_word_L0 n g K38 = some (rv, gR) → (∀ (gz : Mem) (H : Heap) (locs : List Loc) (ls : Array Slot), K38 gz = some (rv, gR) → Hd Θ s gz h0 H locs → lv_has ls 2 [(0, .ref (Θ.2.2.1 39)), (1, .ref (Θ.2.2.1 37))] → W p l e { frames := 6, cells := 0, slots := 0, locals := 130 } s m args below meth c H locs 0 0 (MQ below (Qx Θ s.heap.size gR h0 (some (vi rv))) args s 0 0 (AA Θ s.heap.size)) (F0 m 38 ls [])) → Hd Θ s g h0 H locs → lv_has ls 2 [(0, .ref (Θ.2.2.1 39)), (1, .ref (Θ.2.2.1 37))] → W p l e { frames := 6, cells := 0, slots := 0, locals := 130 } s m args below meth c H locs 0 0 (MQ below (Qx Θ s.heap.size gR h0 (some (vi rv))) args s 0 0 (AA Θ s.heap.size)) (F0 m 0 ls []) := by
  intro n
  obtain ⟨hx, hb, hml, hown, hts, -⟩ := id C
  induction n with
  | zero => intro g H locs ls h; cases h
  | succ n ih =>
    intro g H locs ls h hK38 hM hl
    rw [fX5_word_L0] at h
    refine lv_aload_n hx hb (kX5_word (i := 0) rfl) rfl (lv_at hl 0 rfl) ?_
    refine gX5_next C hM q_fX5_19 (kX5_word (i := 1) rfl) ?_
    refine lv_aload_n hx hb (kX5_word (i := 2) rfl) rfl (lv_at hl 1 rfl) ?_
    refine gX9_length C hM q_fX5_55 (kX5_word (i := 3) rfl) ?_
    refine x_icmp_ge (a' := wr (g 39 2)) (b' := wr (g 37 1)) hx hb rfl rfl (tgt := 38) (kX5_word (i := 4) rfl) (by decide) (fun c_1 => ?_) (fun c_1 => ?_)
    · have h := it_t c_1 h
      exact hK38 g H locs ls h hM (lv_sub hl [0, 1] rfl)
    · have h := it_f c_1 h
      refine lv_aload_n hx hb (kX5_word (i := 5) rfl) rfl (lv_at hl 1 rfl) ?_
      refine lv_aload_n hx hb (kX5_word (i := 6) rfl) rfl (lv_at hl 0 rfl) ?_
      refine gX5_next C hM q_fX5_19 (kX5_word (i := 7) rfl) ?_
      obtain ⟨r_2, hc_3, h⟩ := bd_some h
      refine x_callV (n := 1) (As := [vi (g 39 2)]) (rest := []) C hM (tX9_byteAt l Θ (g 39 2) h0 g r_2 hc_3) (x_recvX C hM 37 (by decide) (eX_37 Θ _) rfl rfl) q_c_X9_byteAt q_mX5_62 q_i_X9_byteAt q_e_X9_byteAt q_n_X9 (by decide +kernel) ⟨by decide, by decide⟩ rfl hl.1 rfl (Nat.le_of_ble_eq_true rfl) (kX5_word (i := 8) rfl) (fun H locs hM => ?_)
      obtain ⟨r_4, hc_5, h⟩ := bd_some h
      refine x_callS (n := 1) (As := [vi r_2]) (rest := []) C hM (tX5_isLetter l Θ r_2 h0 g r_4 hc_5) q_c_X5_isLetter q_mX5_66 q_s_X5_isLetter q_n_X5 (by decide +kernel) ⟨by decide, by decide⟩ rfl hl.1 rfl (Nat.le_of_ble_eq_true rfl) (kX5_word (i := 9) rfl) (fun H locs hM => ?_)
      refine x_if_eq (a' := wr r_4) hx hb rfl (tgt := 38) (kX5_word (i := 10) rfl) (by decide) (fun c_6 => ?_) (fun c_6 => ?_)
      · have h := it_t c_6 h
        exact hK38 g H locs ls h hM (lv_sub hl [0, 1] rfl)
      · have h := it_f c_6 h
        refine lv_aload_n hx hb (kX5_word (i := 11) rfl) rfl (lv_at hl 0 rfl) ?_
        refine lv_dup hx hb (kX5_word (i := 12) rfl) rfl ?_
        refine gX5_next C hM q_fX5_19 (kX5_word (i := 13) rfl) ?_
        refine x_iconst hx hb (kX5_word (i := 14) rfl) ?_
        refine x_iadd hx hb (kX5_word (i := 15) rfl) ?_
        obtain ⟨g_7, eg_7, h⟩ := bnd_some h
        refine pX5_next C hM q_fX5_19 eg_7 (kX5_word (i := 16) rfl) (fun H locs hM => ?_)
        refine lv_goto (tgt := 0) hx hb (kX5_word (i := 17) rfl) (by decide) ?_
        exact ih g_7 H locs ls h hK38 hM (lv_sub hl [0, 1] rfl)
set_option maxRecDepth 100000 in
set_option maxHeartbeats 4000000 in
theorem tX5_word (l : Launch) (Θ : Th) (h0 g : Mem) (rv : Int) (gR : Mem) (h : fX5_word g = some (rv, gR)) : Ct l yX5_word cX5_word 2 (some .int) 6 130 Θ [.ref (Θ.2.2.1 39), .ref (Θ.2.2.1 37)] g h0 gR h0 (some (vi rv)) := by
  refine x_start (by decide) (Nat.le_of_ble_eq_true rfl) ?_
  intro p e s m args below meth c ls C hM hl
  have hl : lv_has ls 2 [(0, .ref (Θ.2.2.1 39)), (1, .ref (Θ.2.2.1 37))] := hl
  obtain ⟨hx, hb, hml, hown, hts, -⟩ := id C
  unfold fX5_word at h
  have key : ∀ (H : Heap) (locs : List Loc), Hd Θ s g h0 H locs → W p l e { frames := 6, cells := 0, slots := 0, locals := 130 } s m args below meth c H locs 0 0 (MQ below (Qx Θ s.heap.size gR h0 (some (vi rv))) args s 0 0 (AA Θ s.heap.size)) (F0 m 0 ls []) := by
    intro H locs hM
    refine wX5_word_L0  C fuel g H locs ls h ?_ hM (lv_sub hl [0, 1] rfl)
    · intro g_8 H locs ls h hM hl
      refine lv_aload_n hx hb (kX5_word (i := 18) rfl) rfl (lv_at hl 1 rfl) ?_
      refine x_ldcS C 0 rfl (kX5_word (i := 19) rfl) ?_
      refine lv_aload_n hx hb (kX5_word (i := 20) rfl) rfl (lv_at hl 0 rfl) ?_
      refine gX5_first C hM q_fX5_22 (kX5_word (i := 21) rfl) ?_
      refine lv_aload_n hx hb (kX5_word (i := 22) rfl) rfl (lv_at hl 0 rfl) ?_
      refine gX5_next C hM q_fX5_19 (kX5_word (i := 23) rfl) ?_
      obtain ⟨r_9, hc_10, h⟩ := bd_some h
      refine x_callV (n := 3) (As := [.ref (Θ.2.2.1 (100 + 0)), vi (g_8 39 3), vi (g_8 39 2)]) (rest := []) C hM (tX9_spells l Θ 0 (by decide) (g_8 39 3) (g_8 39 2) h0 g_8 r_9 hc_10) (x_recvX C hM 37 (by decide) (eX_37 Θ _) rfl rfl) q_c_X9_spells q_mX5_84 q_i_X9_spells q_e_X9_spells q_n_X9 (by decide +kernel) ⟨by decide, by decide⟩ rfl hl.1 rfl (Nat.le_of_ble_eq_true rfl) (kX5_word (i := 24) rfl) (fun H locs hM => ?_)
      refine x_if_eq (a' := wr r_9) hx hb rfl (tgt := 59) (kX5_word (i := 25) rfl) (by decide) (fun c_11 => ?_) (fun c_11 => ?_)
      · have h := it_t c_11 h
        refine lv_aload_n hx hb (kX5_word (i := 28) rfl) rfl (lv_at hl 1 rfl) ?_
        refine x_ldcS C 1 rfl (kX5_word (i := 29) rfl) ?_
        refine lv_aload_n hx hb (kX5_word (i := 30) rfl) rfl (lv_at hl 0 rfl) ?_
        refine gX5_first C hM q_fX5_22 (kX5_word (i := 31) rfl) ?_
        refine lv_aload_n hx hb (kX5_word (i := 32) rfl) rfl (lv_at hl 0 rfl) ?_
        refine gX5_next C hM q_fX5_19 (kX5_word (i := 33) rfl) ?_
        obtain ⟨r_12, hc_13, h⟩ := bd_some h
        refine x_callV (n := 3) (As := [.ref (Θ.2.2.1 (100 + 1)), vi (g_8 39 3), vi (g_8 39 2)]) (rest := []) C hM (tX9_spells l Θ 1 (by decide) (g_8 39 3) (g_8 39 2) h0 g_8 r_12 hc_13) (x_recvX C hM 37 (by decide) (eX_37 Θ _) rfl rfl) q_c_X9_spells q_mX5_84 q_i_X9_spells q_e_X9_spells q_n_X9 (by decide +kernel) ⟨by decide, by decide⟩ rfl hl.1 rfl (Nat.le_of_ble_eq_true rfl) (kX5_word (i := 34) rfl) (fun H locs hM => ?_)
        refine x_if_eq (a' := wr r_12) hx hb rfl (tgt := 80) (kX5_word (i := 35) rfl) (by decide) (fun c_14 => ?_) (fun c_14 => ?_)
        · have h := it_t c_14 h
          refine lv_aload_n hx hb (kX5_word (i := 38) rfl) rfl (lv_at hl 1 rfl) ?_
          refine x_ldcS C 2 rfl (kX5_word (i := 39) rfl) ?_
          refine lv_aload_n hx hb (kX5_word (i := 40) rfl) rfl (lv_at hl 0 rfl) ?_
          refine gX5_first C hM q_fX5_22 (kX5_word (i := 41) rfl) ?_
          refine lv_aload_n hx hb (kX5_word (i := 42) rfl) rfl (lv_at hl 0 rfl) ?_
          refine gX5_next C hM q_fX5_19 (kX5_word (i := 43) rfl) ?_
          obtain ⟨r_15, hc_16, h⟩ := bd_some h
          refine x_callV (n := 3) (As := [.ref (Θ.2.2.1 (100 + 2)), vi (g_8 39 3), vi (g_8 39 2)]) (rest := []) C hM (tX9_spells l Θ 2 (by decide) (g_8 39 3) (g_8 39 2) h0 g_8 r_15 hc_16) (x_recvX C hM 37 (by decide) (eX_37 Θ _) rfl rfl) q_c_X9_spells q_mX5_84 q_i_X9_spells q_e_X9_spells q_n_X9 (by decide +kernel) ⟨by decide, by decide⟩ rfl hl.1 rfl (Nat.le_of_ble_eq_true rfl) (kX5_word (i := 44) rfl) (fun H locs hM => ?_)
          refine x_if_eq (a' := wr r_15) hx hb rfl (tgt := 101) (kX5_word (i := 45) rfl) (by decide) (fun c_17 => ?_) (fun c_17 => ?_)
          · have h := it_t c_17 h
            refine lv_aload_n hx hb (kX5_word (i := 48) rfl) rfl (lv_at hl 1 rfl) ?_
            refine x_ldcS C 3 rfl (kX5_word (i := 49) rfl) ?_
            refine lv_aload_n hx hb (kX5_word (i := 50) rfl) rfl (lv_at hl 0 rfl) ?_
            refine gX5_first C hM q_fX5_22 (kX5_word (i := 51) rfl) ?_
            refine lv_aload_n hx hb (kX5_word (i := 52) rfl) rfl (lv_at hl 0 rfl) ?_
            refine gX5_next C hM q_fX5_19 (kX5_word (i := 53) rfl) ?_
            obtain ⟨r_18, hc_19, h⟩ := bd_some h
            refine x_callV (n := 3) (As := [.ref (Θ.2.2.1 (100 + 3)), vi (g_8 39 3), vi (g_8 39 2)]) (rest := []) C hM (tX9_spells l Θ 3 (by decide) (g_8 39 3) (g_8 39 2) h0 g_8 r_18 hc_19) (x_recvX C hM 37 (by decide) (eX_37 Θ _) rfl rfl) q_c_X9_spells q_mX5_84 q_i_X9_spells q_e_X9_spells q_n_X9 (by decide +kernel) ⟨by decide, by decide⟩ rfl hl.1 rfl (Nat.le_of_ble_eq_true rfl) (kX5_word (i := 54) rfl) (fun H locs hM => ?_)
            refine x_if_eq (a' := wr r_18) hx hb rfl (tgt := 122) (kX5_word (i := 55) rfl) (by decide) (fun c_20 => ?_) (fun c_20 => ?_)
            · have h := it_t c_20 h
              refine lv_aload_n hx hb (kX5_word (i := 58) rfl) rfl (lv_at hl 1 rfl) ?_
              refine x_ldcS C 4 rfl (kX5_word (i := 59) rfl) ?_
              refine lv_aload_n hx hb (kX5_word (i := 60) rfl) rfl (lv_at hl 0 rfl) ?_
              refine gX5_first C hM q_fX5_22 (kX5_word (i := 61) rfl) ?_
              refine lv_aload_n hx hb (kX5_word (i := 62) rfl) rfl (lv_at hl 0 rfl) ?_
              refine gX5_next C hM q_fX5_19 (kX5_word (i := 63) rfl) ?_
              obtain ⟨r_21, hc_22, h⟩ := bd_some h
              refine x_callV (n := 3) (As := [.ref (Θ.2.2.1 (100 + 4)), vi (g_8 39 3), vi (g_8 39 2)]) (rest := []) C hM (tX9_spells l Θ 4 (by decide) (g_8 39 3) (g_8 39 2) h0 g_8 r_21 hc_22) (x_recvX C hM 37 (by decide) (eX_37 Θ _) rfl rfl) q_c_X9_spells q_mX5_84 q_i_X9_spells q_e_X9_spells q_n_X9 (by decide +kernel) ⟨by decide, by decide⟩ rfl hl.1 rfl (Nat.le_of_ble_eq_true rfl) (kX5_word (i := 64) rfl) (fun H locs hM => ?_)
              refine x_if_eq (a' := wr r_21) hx hb rfl (tgt := 143) (kX5_word (i := 65) rfl) (by decide) (fun c_23 => ?_) (fun c_23 => ?_)
              · have h := it_t c_23 h
                refine lv_aload_n hx hb (kX5_word (i := 68) rfl) rfl (lv_at hl 0 rfl) ?_
                refine lv_aload_n hx hb (kX5_word (i := 69) rfl) rfl (lv_at hl 1 rfl) ?_
                obtain ⟨r_24, hc_25, h⟩ := bd_some h
                refine x_callV (n := 1) (As := [.ref (Θ.2.2.1 37)]) (rest := []) C hM (tX5_name l Θ h0 g_8 r_24 hc_25) (x_recvX C hM 39 (by decide) (eX_39 Θ _) rfl rfl) q_c_X5_name q_mX5_96 q_i_X5_name q_e_X5_name q_n_X5 (by decide +kernel) ⟨by decide, by decide⟩ rfl hl.1 rfl (Nat.le_of_ble_eq_true rfl) (kX5_word (i := 70) rfl) (fun H locs hM => ?_)
                obtain ⟨q1, q2⟩ := ret2 h
                rw [q1, q2]
                exact x_iret C hM (nar_i _) (kX5_word (i := 71) rfl)
              · have h := it_f c_23 h
                refine x_sipush hx hb (by decide) (kX5_word (i := 66) rfl) ?_
                obtain ⟨q1, q2⟩ := ret2 h
                rw [q1, q2]
                exact x_iret C hM (nar_i _) (kX5_word (i := 67) rfl)
            · have h := it_f c_20 h
              refine x_sipush hx hb (by decide) (kX5_word (i := 56) rfl) ?_
              obtain ⟨q1, q2⟩ := ret2 h
              rw [q1, q2]
              exact x_iret C hM (nar_i _) (kX5_word (i := 57) rfl)
          · have h := it_f c_17 h
            refine x_sipush hx hb (by decide) (kX5_word (i := 46) rfl) ?_
            obtain ⟨q1, q2⟩ := ret2 h
            rw [q1, q2]
            exact x_iret C hM (nar_i _) (kX5_word (i := 47) rfl)
        · have h := it_f c_14 h
          refine x_sipush hx hb (by decide) (kX5_word (i := 36) rfl) ?_
          obtain ⟨q1, q2⟩ := ret2 h
          rw [q1, q2]
          exact x_iret C hM (nar_i _) (kX5_word (i := 37) rfl)
      · have h := it_f c_11 h
        refine x_sipush hx hb (by decide) (kX5_word (i := 26) rfl) ?_
        obtain ⟨q1, q2⟩ := ret2 h
        rw [q1, q2]
        exact x_iret C hM (nar_i _) (kX5_word (i := 27) rfl)
  exact key _ _ hM

/-! X5_nextToken -/
def fX5_nextToken_L0 : Nat → Mem → (Mem → Option (Int × Mem)) → Option (Int × Mem)
  | 0, _, _ => none
  | n + 1, g, K37 =>
    if wr (g 37 1) ≤ wr (g 39 2) then (
      K37 g
    ) else (
      bd (fX9_byteAt (g 39 2) g) fun r_2 =>
      if wr r_2 = 32 then (
        bnd (up g 39 2 ((g 39 2) + 1)) fun g_5 =>
        fX5_nextToken_L0 n g_5 K37
      ) else (
        K37 g
      )
    )
def fX5_nextToken (g : Mem) : Option (Int × Mem) :=
  fX5_nextToken_L0 fuel g
  (fun (g_6 : Mem) =>
    bnd (up g_6 39 3 (g_6 39 2)) fun g_7 =>
    bd (fX9_byteAt (g_7 39 3) g_7) fun r_8 =>
    if wr r_8 = (-1) then (
      some (10027, g_7)
    ) else (
      bd (fX5_isLetter r_8) fun r_11 =>
      if wr r_11 = 0 then (
        bd (fX5_isDigit r_8) fun r_14 =>
        if wr r_14 = 0 then (
          bnd (up g_7 39 2 ((g_7 39 2) + 1)) fun g_17 =>
          bd (fX5_signToken r_8) fun r_18 =>
          some (r_18, g_17)
        ) else (
          bd2 (fX5_number g_7) fun r_20 g_22 =>
          some (r_20, g_22)
        )
      ) else (
        bd2 (fX5_word g_7) fun r_23 g_25 =>
        some (r_23, g_25)
      )
    )
  )
set_option maxRecDepth 100000 in
set_option maxHeartbeats 4000000 in
theorem wX5_nextToken_L0 {p : Program} {l : Launch} {e : Env} {s : State} {m : MethodId} {args : Array Value} {below : List Frame} {meth : Method} {c : Code} {Θ : Th} {h0 : Mem} {rv : Int} {gR : Mem} {K37 : Mem → Option (Int × Mem)} (C : Cx p s m args meth c cX5_nextToken 3 RX5 (some .int) Θ) : ∀ (n : Nat) (g : Mem) (H : Heap) (locs : List Loc) (ls : Array Slot), fX5_nextToken_L0 n g K37 = some (rv, gR) → (∀ (gz : Mem) (H : Heap) (locs : List Loc) (ls : Array Slot), K37 gz = some (rv, gR) → Hd Θ s gz h0 H locs → lv_has ls 3 [(0, .ref (Θ.2.2.1 39)), (1, .ref (Θ.2.2.1 37))] → W p l e { frames := 7, cells := 0, slots := 0, locals := 151 } s m args below meth c H locs 0 0 (MQ below (Qx Θ s.heap.size gR h0 (some (vi rv))) args s 0 0 (AA Θ s.heap.size)) (F0 m 37 ls [])) → Hd Θ s g h0 H locs → lv_has ls 3 [(0, .ref (Θ.2.2.1 39)), (1, .ref (Θ.2.2.1 37))] → W p l e { frames := 7, cells := 0, slots := 0, locals := 151 } s m args below meth c H locs 0 0 (MQ below (Qx Θ s.heap.size gR h0 (some (vi rv))) args s 0 0 (AA Θ s.heap.size)) (F0 m 0 ls []) := by
  intro n
  obtain ⟨hx, hb, hml, hown, hts, -⟩ := id C
  induction n with
  | zero => intro g H locs ls h; cases h
  | succ n ih =>
    intro g H locs ls h hK37 hM hl
    rw [fX5_nextToken_L0] at h
    refine lv_aload_n hx hb (kX5_nextToken (i := 0) rfl) rfl (lv_at hl 0 rfl) ?_
    refine gX5_next C hM q_fX5_19 (kX5_nextToken (i := 1) rfl) ?_
    refine lv_aload_n hx hb (kX5_nextToken (i := 2) rfl) rfl (lv_at hl 1 rfl) ?_
    refine gX9_length C hM q_fX5_55 (kX5_nextToken (i := 3) rfl) ?_
    refine x_icmp_ge (a' := wr (g 39 2)) (b' := wr (g 37 1)) hx hb rfl rfl (tgt := 37) (kX5_nextToken (i := 4) rfl) (by decide) (fun c_1 => ?_) (fun c_1 => ?_)
    · have h := it_t c_1 h
      exact hK37 g H locs ls h hM (lv_sub hl [0, 1] rfl)
    · have h := it_f c_1 h
      refine lv_aload_n hx hb (kX5_nextToken (i := 5) rfl) rfl (lv_at hl 1 rfl) ?_
      refine lv_aload_n hx hb (kX5_nextToken (i := 6) rfl) rfl (lv_at hl 0 rfl) ?_
      refine gX5_next C hM q_fX5_19 (kX5_nextToken (i := 7) rfl) ?_
      obtain ⟨r_2, hc_3, h⟩ := bd_some h
      refine x_callV (n := 1) (As := [vi (g 39 2)]) (rest := []) C hM (tX9_byteAt l Θ (g 39 2) h0 g r_2 hc_3) (x_recvX C hM 37 (by decide) (eX_37 Θ _) rfl rfl) q_c_X9_byteAt q_mX5_62 q_i_X9_byteAt q_e_X9_byteAt q_n_X9 (by decide +kernel) ⟨by decide, by decide⟩ rfl hl.1 rfl (Nat.le_of_ble_eq_true rfl) (kX5_nextToken (i := 8) rfl) (fun H locs hM => ?_)
      refine x_bipush hx hb (by decide) (kX5_nextToken (i := 9) rfl) ?_
      refine x_icmp_ne (a' := wr r_2) (b' := 32) hx hb rfl (by decide) (tgt := 37) (kX5_nextToken (i := 10) rfl) (by decide) (fun c_4 => ?_) (fun c_4 => ?_)
      · have h := it_f c_4 h
        exact hK37 g H locs ls h hM (lv_sub hl [0, 1] rfl)
      · have h := it_t c_4 h
        refine lv_aload_n hx hb (kX5_nextToken (i := 11) rfl) rfl (lv_at hl 0 rfl) ?_
        refine lv_dup hx hb (kX5_nextToken (i := 12) rfl) rfl ?_
        refine gX5_next C hM q_fX5_19 (kX5_nextToken (i := 13) rfl) ?_
        refine x_iconst hx hb (kX5_nextToken (i := 14) rfl) ?_
        refine x_iadd hx hb (kX5_nextToken (i := 15) rfl) ?_
        obtain ⟨g_5, eg_5, h⟩ := bnd_some h
        refine pX5_next C hM q_fX5_19 eg_5 (kX5_nextToken (i := 16) rfl) (fun H locs hM => ?_)
        refine lv_goto (tgt := 0) hx hb (kX5_nextToken (i := 17) rfl) (by decide) ?_
        exact ih g_5 H locs ls h hK37 hM (lv_sub hl [0, 1] rfl)
set_option maxRecDepth 100000 in
set_option maxHeartbeats 4000000 in
theorem tX5_nextToken (l : Launch) (Θ : Th) (h0 g : Mem) (rv : Int) (gR : Mem) (h : fX5_nextToken g = some (rv, gR)) : Ct l yX5_nextToken cX5_nextToken 3 (some .int) 7 151 Θ [.ref (Θ.2.2.1 39), .ref (Θ.2.2.1 37)] g h0 gR h0 (some (vi rv)) := by
  refine x_start (by decide) (Nat.le_of_ble_eq_true rfl) ?_
  intro p e s m args below meth c ls C hM hl
  have hl : lv_has ls 3 [(0, .ref (Θ.2.2.1 39)), (1, .ref (Θ.2.2.1 37))] := hl
  obtain ⟨hx, hb, hml, hown, hts, -⟩ := id C
  unfold fX5_nextToken at h
  have key : ∀ (H : Heap) (locs : List Loc), Hd Θ s g h0 H locs → W p l e { frames := 7, cells := 0, slots := 0, locals := 151 } s m args below meth c H locs 0 0 (MQ below (Qx Θ s.heap.size gR h0 (some (vi rv))) args s 0 0 (AA Θ s.heap.size)) (F0 m 0 ls []) := by
    intro H locs hM
    refine wX5_nextToken_L0  C fuel g H locs ls h ?_ hM (lv_sub hl [0, 1] rfl)
    · intro g_6 H locs ls h hM hl
      refine lv_aload_n hx hb (kX5_nextToken (i := 18) rfl) rfl (lv_at hl 0 rfl) ?_
      refine lv_aload_n hx hb (kX5_nextToken (i := 19) rfl) rfl (lv_at hl 0 rfl) ?_
      refine gX5_next C hM q_fX5_19 (kX5_nextToken (i := 20) rfl) ?_
      obtain ⟨g_7, eg_7, h⟩ := bnd_some h
      refine pX5_first C hM q_fX5_22 eg_7 (kX5_nextToken (i := 21) rfl) (fun H locs hM => ?_)
      refine lv_aload_n hx hb (kX5_nextToken (i := 22) rfl) rfl (lv_at hl 1 rfl) ?_
      refine lv_aload_n hx hb (kX5_nextToken (i := 23) rfl) rfl (lv_at hl 0 rfl) ?_
      refine gX5_first C hM q_fX5_22 (kX5_nextToken (i := 24) rfl) ?_
      obtain ⟨r_8, hc_9, h⟩ := bd_some h
      refine x_callV (n := 1) (As := [vi (g_7 39 3)]) (rest := []) C hM (tX9_byteAt l Θ (g_7 39 3) h0 g_7 r_8 hc_9) (x_recvX C hM 37 (by decide) (eX_37 Θ _) rfl rfl) q_c_X9_byteAt q_mX5_62 q_i_X9_byteAt q_e_X9_byteAt q_n_X9 (by decide +kernel) ⟨by decide, by decide⟩ rfl hl.1 rfl (Nat.le_of_ble_eq_true rfl) (kX5_nextToken (i := 25) rfl) (fun H locs hM => ?_)
      refine x_istore_n (lv' := [(2, vi r_8), (0, .ref (Θ.2.2.1 39)), (1, .ref (Θ.2.2.1 37))]) hx hb (kX5_nextToken (i := 26) rfl) rfl hl (by decide) rfl (fun ls hl => ?_)
      refine x_iload_n hx hb (kX5_nextToken (i := 27) rfl) rfl (lv_at hl 0 rfl) ?_
      refine x_iconst hx hb (kX5_nextToken (i := 28) rfl) ?_
      refine x_icmp_ne (a' := wr r_8) (b' := (-1)) hx hb rfl (by decide) (tgt := 63) (kX5_nextToken (i := 29) rfl) (by decide) (fun c_10 => ?_) (fun c_10 => ?_)
      · have h := it_f c_10 h
        refine x_iload_n hx hb (kX5_nextToken (i := 32) rfl) rfl (lv_at hl 0 rfl) ?_
        obtain ⟨r_11, hc_12, h⟩ := bd_some h
        refine x_callS (n := 1) (As := [vi r_8]) (rest := []) C hM (tX5_isLetter l Θ r_8 h0 g_7 r_11 hc_12) q_c_X5_isLetter q_mX5_66 q_s_X5_isLetter q_n_X5 (by decide +kernel) ⟨by decide, by decide⟩ rfl hl.1 rfl (Nat.le_of_ble_eq_true rfl) (kX5_nextToken (i := 33) rfl) (fun H locs hM => ?_)
        refine x_if_eq (a' := wr r_11) hx hb rfl (tgt := 76) (kX5_nextToken (i := 34) rfl) (by decide) (fun c_13 => ?_) (fun c_13 => ?_)
        · have h := it_t c_13 h
          refine x_iload_n hx hb (kX5_nextToken (i := 39) rfl) rfl (lv_at hl 0 rfl) ?_
          obtain ⟨r_14, hc_15, h⟩ := bd_some h
          refine x_callS (n := 1) (As := [vi r_8]) (rest := []) C hM (tX5_isDigit l Θ r_8 h0 g_7 r_14 hc_15) q_c_X5_isDigit q_mX5_73 q_s_X5_isDigit q_n_X5 (by decide +kernel) ⟨by decide, by decide⟩ rfl hl.1 rfl (Nat.le_of_ble_eq_true rfl) (kX5_nextToken (i := 40) rfl) (fun H locs hM => ?_)
          refine x_if_eq (a' := wr r_14) hx hb rfl (tgt := 89) (kX5_nextToken (i := 41) rfl) (by decide) (fun c_16 => ?_) (fun c_16 => ?_)
          · have h := it_t c_16 h
            refine lv_aload_n hx hb (kX5_nextToken (i := 46) rfl) rfl (lv_at hl 1 rfl) ?_
            refine lv_dup hx hb (kX5_nextToken (i := 47) rfl) rfl ?_
            refine gX5_next C hM q_fX5_19 (kX5_nextToken (i := 48) rfl) ?_
            refine x_iconst hx hb (kX5_nextToken (i := 49) rfl) ?_
            refine x_iadd hx hb (kX5_nextToken (i := 50) rfl) ?_
            obtain ⟨g_17, eg_17, h⟩ := bnd_some h
            refine pX5_next C hM q_fX5_19 eg_17 (kX5_nextToken (i := 51) rfl) (fun H locs hM => ?_)
            refine x_iload_n hx hb (kX5_nextToken (i := 52) rfl) rfl (lv_at hl 0 rfl) ?_
            obtain ⟨r_18, hc_19, h⟩ := bd_some h
            refine x_callS (n := 1) (As := [vi r_8]) (rest := []) C hM (tX5_signToken l Θ r_8 h0 g_17 r_18 hc_19) q_c_X5_signToken q_mX5_79 q_s_X5_signToken q_n_X5 (by decide +kernel) ⟨by decide, by decide⟩ rfl hl.1 rfl (Nat.le_of_ble_eq_true rfl) (kX5_nextToken (i := 53) rfl) (fun H locs hM => ?_)
            obtain ⟨q1, q2⟩ := ret2 h
            rw [q1, q2]
            exact x_iret C hM (nar_i _) (kX5_nextToken (i := 54) rfl)
          · have h := it_f c_16 h
            refine lv_aload_n hx hb (kX5_nextToken (i := 42) rfl) rfl (lv_at hl 1 rfl) ?_
            refine lv_aload_n hx hb (kX5_nextToken (i := 43) rfl) rfl (lv_at hl 2 rfl) ?_
            obtain ⟨r_20, g_22, hc_21, h⟩ := bd2_some h
            refine x_callV (n := 1) (As := [.ref (Θ.2.2.1 37)]) (rest := []) C hM (tX5_number l Θ h0 g_7 r_20 g_22 hc_21) (x_recvX C hM 39 (by decide) (eX_39 Θ _) rfl rfl) q_c_X5_number q_mX5_76 q_i_X5_number q_e_X5_number q_n_X5 (by decide +kernel) ⟨by decide, by decide⟩ rfl hl.1 rfl (Nat.le_of_ble_eq_true rfl) (kX5_nextToken (i := 44) rfl) (fun H locs hM => ?_)
            obtain ⟨q1, q2⟩ := ret2 h
            rw [q1, q2]
            exact x_iret C hM (nar_i _) (kX5_nextToken (i := 45) rfl)
        · have h := it_f c_13 h
          refine lv_aload_n hx hb (kX5_nextToken (i := 35) rfl) rfl (lv_at hl 1 rfl) ?_
          refine lv_aload_n hx hb (kX5_nextToken (i := 36) rfl) rfl (lv_at hl 2 rfl) ?_
          obtain ⟨r_23, g_25, hc_24, h⟩ := bd2_some h
          refine x_callV (n := 1) (As := [.ref (Θ.2.2.1 37)]) (rest := []) C hM (tX5_word l Θ h0 g_7 r_23 g_25 hc_24) (x_recvX C hM 39 (by decide) (eX_39 Θ _) rfl rfl) q_c_X5_word q_mX5_70 q_i_X5_word q_e_X5_word q_n_X5 (by decide +kernel) ⟨by decide, by decide⟩ rfl hl.1 rfl (Nat.le_of_ble_eq_true rfl) (kX5_nextToken (i := 37) rfl) (fun H locs hM => ?_)
          obtain ⟨q1, q2⟩ := ret2 h
          rw [q1, q2]
          exact x_iret C hM (nar_i _) (kX5_nextToken (i := 38) rfl)
      · have h := it_t c_10 h
        refine x_sipush hx hb (by decide) (kX5_nextToken (i := 30) rfl) ?_
        obtain ⟨q1, q2⟩ := ret2 h
        rw [q1, q2]
        exact x_iret C hM (nar_i _) (kX5_nextToken (i := 31) rfl)
  exact key _ _ hM

/-! X5_parse -/
def fX5_parse_L26 (r : Nat) : Nat → Int → Mem → (Mem → Option (Int × Mem)) → (Mem → Option (Int × Mem)) → (Mem → Option (Int × Mem)) → Option (Int × Mem)
  | 0, _, _, _, _, _ => none
  | n + 1, y3, g, K48, K74, K85 =>
    if 300 < wr y3 then (
      K85 g
    ) else (
      bd2 (fX5_nextToken g) fun r_9 g_11 =>
      if wr r_9 = 10027 then (
        K48 g_11
      ) else (
        bd2 (fX5_take r r_9 g_11) fun r_13 g_15 =>
        if wr r_13 = 0 then (
          K74 g_15
        ) else (
          bnd (y3 + 1) fun x_17 =>
          fX5_parse_L26 r n x_17 g_15 K48 K74 K85
        )
      )
    )
def fX5_parse (r : Nat) (g : Mem) : Option (Int × Mem) :=
  bd (fX7_reset r g) fun g_3 =>
  bnd (up g_3 39 1 0) fun g_4 =>
  bnd (up g_4 39 2 0) fun g_5 =>
  bnd (up g_5 39 4 0) fun g_6 =>
  bnd (up g_6 39 6 0) fun g_7 =>
  fX5_parse_L26 r fuel 0 g_7
  (fun (g_18 : Mem) =>
    if wr (g_18 39 4) = 0 then (
      some ((-1), g_18)
    ) else (
      some (g_18 37 1, g_18)
    )
  )
  (fun (g_20 : Mem) =>
    some (g_20 39 3, g_20)
  )
  (fun (g_21 : Mem) =>
    some (g_21 37 1, g_21)
  )
set_option maxRecDepth 100000 in
set_option maxHeartbeats 4000000 in
theorem wX5_parse_L26 {p : Program} {l : Launch} {e : Env} {s : State} {m : MethodId} {args : Array Value} {below : List Frame} {meth : Method} {c : Code} {Θ : Th} {h0 : Mem} {r : Nat} (hR : isR r) {rv : Int} {gR : Mem} {K48 : Mem → Option (Int × Mem)} {K74 : Mem → Option (Int × Mem)} {K85 : Mem → Option (Int × Mem)} (C : Cx p s m args meth c cX5_parse 5 RX5 (some .int) Θ) : ∀ (n : Nat) (y3 : Int) (g : Mem) (H : Heap) (locs : List Loc) (ls : Array Slot), fX5_parse_L26 r n y3 g K48 K74 K85 = some (rv, gR) → (∀ (gz : Mem) (H : Heap) (locs : List Loc) (ls : Array Slot), K48 gz = some (rv, gR) → Hd Θ s gz h0 H locs → lv_has ls 5 [(0, .ref (Θ.2.2.1 39)), (1, .ref (Θ.2.2.1 37))] → W p l e { frames := 8, cells := 0, slots := 0, locals := 173 } s m args below meth c H locs 0 0 (MQ below (Qx Θ s.heap.size gR h0 (some (vi rv))) args s 0 0 (AA Θ s.heap.size)) (F0 m 48 ls [])) → (∀ (gz : Mem) (H : Heap) (locs : List Loc) (ls : Array Slot), K74 gz = some (rv, gR) → Hd Θ s gz h0 H locs → lv_has ls 5 [(0, .ref (Θ.2.2.1 39))] → W p l e { frames := 8, cells := 0, slots := 0, locals := 173 } s m args below meth c H locs 0 0 (MQ below (Qx Θ s.heap.size gR h0 (some (vi rv))) args s 0 0 (AA Θ s.heap.size)) (F0 m 74 ls [])) → (∀ (gz : Mem) (H : Heap) (locs : List Loc) (ls : Array Slot), K85 gz = some (rv, gR) → Hd Θ s gz h0 H locs → lv_has ls 5 [(1, .ref (Θ.2.2.1 37))] → W p l e { frames := 8, cells := 0, slots := 0, locals := 173 } s m args below meth c H locs 0 0 (MQ below (Qx Θ s.heap.size gR h0 (some (vi rv))) args s 0 0 (AA Θ s.heap.size)) (F0 m 85 ls [])) → Hd Θ s g h0 H locs → lv_has ls 5 [(0, .ref (Θ.2.2.1 39)), (1, .ref (Θ.2.2.1 37)), (2, .ref (Θ.2.2.1 r)), (3, vi y3)] → W p l e { frames := 8, cells := 0, slots := 0, locals := 173 } s m args below meth c H locs 0 0 (MQ below (Qx Θ s.heap.size gR h0 (some (vi rv))) args s 0 0 (AA Θ s.heap.size)) (F0 m 26 ls []) := by
  intro n
  obtain ⟨hx, hb, hml, hown, hts, -⟩ := id C
  induction n with
  | zero => intro y3 g H locs ls h; cases h
  | succ n ih =>
    intro y3 g H locs ls h hK48 hK74 hK85 hM hl
    rw [fX5_parse_L26] at h
    refine x_iload_n hx hb (kX5_parse (i := 16) rfl) rfl (lv_at hl 3 rfl) ?_
    refine x_sipush hx hb (by decide) (kX5_parse (i := 17) rfl) ?_
    refine x_icmp_gt (a' := wr y3) (b' := 300) hx hb rfl (by decide) (tgt := 85) (kX5_parse (i := 18) rfl) (by decide) (fun c_8 => ?_) (fun c_8 => ?_)
    · have h := it_t c_8 h
      exact hK85 g H locs ls h hM (lv_sub hl [1] rfl)
    · have h := it_f c_8 h
      refine lv_aload_n hx hb (kX5_parse (i := 19) rfl) rfl (lv_at hl 0 rfl) ?_
      refine lv_aload_n hx hb (kX5_parse (i := 20) rfl) rfl (lv_at hl 1 rfl) ?_
      obtain ⟨r_9, g_11, hc_10, h⟩ := bd2_some h
      refine x_callV (n := 1) (As := [.ref (Θ.2.2.1 37)]) (rest := []) C hM (tX5_nextToken l Θ h0 g r_9 g_11 hc_10) (x_recvX C hM 39 (by decide) (eX_39 Θ _) rfl rfl) q_c_X5_nextToken q_mX5_51 q_i_X5_nextToken q_e_X5_nextToken q_n_X5 (by decide +kernel) ⟨by decide, by decide⟩ rfl hl.1 rfl (Nat.le_of_ble_eq_true rfl) (kX5_parse (i := 21) rfl) (fun H locs hM => ?_)
      refine x_istore (lv' := [(4, vi r_9), (0, .ref (Θ.2.2.1 39)), (1, .ref (Θ.2.2.1 37)), (2, .ref (Θ.2.2.1 r)), (3, vi y3)]) hx hb (kX5_parse (i := 22) rfl) hl (by decide) rfl (fun ls hl => ?_)
      refine x_iload hx hb (kX5_parse (i := 23) rfl) (lv_at hl 0 rfl) ?_
      refine x_sipush hx hb (by decide) (kX5_parse (i := 24) rfl) ?_
      refine x_icmp_ne (a' := wr r_9) (b' := 10027) hx hb rfl (by decide) (tgt := 64) (kX5_parse (i := 25) rfl) (by decide) (fun c_12 => ?_) (fun c_12 => ?_)
      · have h := it_f c_12 h
        refine lv_aload_n hx hb (kX5_parse (i := 34) rfl) rfl (lv_at hl 1 rfl) ?_
        refine x_iload hx hb (kX5_parse (i := 35) rfl) (lv_at hl 0 rfl) ?_
        refine lv_aload_n hx hb (kX5_parse (i := 36) rfl) rfl (lv_at hl 3 rfl) ?_
        obtain ⟨r_13, g_15, hc_14, h⟩ := bd2_some h
        refine x_callV (n := 2) (As := [vi r_9, .ref (Θ.2.2.1 r)]) (rest := []) C hM (tX5_take l Θ r hR r_9 h0 g_11 r_13 g_15 hc_14) (x_recvX C hM 39 (by decide) (eX_39 Θ _) rfl rfl) q_c_X5_take q_mX5_58 q_i_X5_take q_e_X5_take q_n_X5 (by decide +kernel) ⟨by decide, by decide⟩ rfl hl.1 rfl (Nat.le_of_ble_eq_true rfl) (kX5_parse (i := 37) rfl) (fun H locs hM => ?_)
        refine x_if_ne (a' := wr r_13) hx hb rfl (tgt := 79) (kX5_parse (i := 38) rfl) (by decide) (fun c_16 => ?_) (fun c_16 => ?_)
        · have h := it_f c_16 h
          obtain ⟨x_17, ex_17, h⟩ := bnd_some h
          refine x_iinc (k := 4) (lv' := [(3, vi x_17), (4, vi r_9), (0, .ref (Θ.2.2.1 39)), (1, .ref (Θ.2.2.1 37)), (2, .ref (Θ.2.2.1 r))]) hx hb (kX5_parse (i := 42) rfl) hl rfl ex_17 (by decide) rfl (fun ls hl => ?_)
          refine lv_goto (tgt := 26) hx hb (kX5_parse (i := 43) rfl) (by decide) ?_
          exact ih x_17 g_15 H locs ls h hK48 hK74 hK85 hM (lv_sub hl [2, 3, 4, 0] rfl)
        · have h := it_t c_16 h
          exact hK74 g_15 H locs ls h hM (lv_sub hl [1] rfl)
      · have h := it_t c_12 h
        exact hK48 g_11 H locs ls h hM (lv_sub hl [1, 2] rfl)
set_option maxRecDepth 100000 in
set_option maxHeartbeats 4000000 in
theorem tX5_parse (l : Launch) (Θ : Th) (r : Nat) (hR : isR r) (h0 g : Mem) (rv : Int) (gR : Mem) (h : fX5_parse r g = some (rv, gR)) : Ct l yX5_parse cX5_parse 5 (some .int) 8 173 Θ [.ref (Θ.2.2.1 39), .ref (Θ.2.2.1 37), .ref (Θ.2.2.1 r)] g h0 gR h0 (some (vi rv)) := by
  refine x_start (by decide) (Nat.le_of_ble_eq_true rfl) ?_
  intro p e s m args below meth c ls C hM hl
  have hl : lv_has ls 5 [(0, .ref (Θ.2.2.1 39)), (1, .ref (Θ.2.2.1 37)), (2, .ref (Θ.2.2.1 r))] := hl
  obtain ⟨hx, hb, hml, hown, hts, -⟩ := id C
  unfold fX5_parse at h
  have key : ∀ (H : Heap) (locs : List Loc), Hd Θ s g h0 H locs → W p l e { frames := 8, cells := 0, slots := 0, locals := 173 } s m args below meth c H locs 0 0 (MQ below (Qx Θ s.heap.size gR h0 (some (vi rv))) args s 0 0 (AA Θ s.heap.size)) (F0 m 0 ls []) := by
    intro H locs hM
    refine lv_aload_n hx hb (kX5_parse (i := 0) rfl) rfl (lv_at hl 2 rfl) ?_
    obtain ⟨g_3, hc_2, h⟩ := bd_some h
    refine x_callV (n := 0) (As := []) (rest := []) C hM (tX7_reset l Θ r hR h0 g g_3 hc_2) (x_recvX C hM r (isR_lt hR) (eX_isR hR _) rfl rfl) q_c_X7_reset q_mX5_44 q_i_X7_reset q_e_X7_reset q_n_X7 (by decide +kernel) ⟨by decide, by decide⟩ rfl hl.1 rfl (Nat.le_of_ble_eq_true rfl) (kX5_parse (i := 1) rfl) (fun H locs hM => ?_)
    refine lv_aload_n hx hb (kX5_parse (i := 2) rfl) rfl (lv_at hl 0 rfl) ?_
    refine x_iconst hx hb (kX5_parse (i := 3) rfl) ?_
    obtain ⟨g_4, eg_4, h⟩ := bnd_some h
    refine pX5_waits C hM q_fX5_15 eg_4 (kX5_parse (i := 4) rfl) (fun H locs hM => ?_)
    refine lv_aload_n hx hb (kX5_parse (i := 5) rfl) rfl (lv_at hl 0 rfl) ?_
    refine x_iconst hx hb (kX5_parse (i := 6) rfl) ?_
    obtain ⟨g_5, eg_5, h⟩ := bnd_some h
    refine pX5_next C hM q_fX5_19 eg_5 (kX5_parse (i := 7) rfl) (fun H locs hM => ?_)
    refine lv_aload_n hx hb (kX5_parse (i := 8) rfl) rfl (lv_at hl 0 rfl) ?_
    refine x_iconst hx hb (kX5_parse (i := 9) rfl) ?_
    obtain ⟨g_6, eg_6, h⟩ := bnd_some h
    refine pX5_state C hM q_fX5_25 eg_6 (kX5_parse (i := 10) rfl) (fun H locs hM => ?_)
    refine lv_aload_n hx hb (kX5_parse (i := 11) rfl) rfl (lv_at hl 0 rfl) ?_
    refine x_iconst hx hb (kX5_parse (i := 12) rfl) ?_
    obtain ⟨g_7, eg_7, h⟩ := bnd_some h
    refine pX5_depth C hM q_fX5_31 eg_7 (kX5_parse (i := 13) rfl) (fun H locs hM => ?_)
    refine x_iconst hx hb (kX5_parse (i := 14) rfl) ?_
    refine x_istore_n (lv' := [(3, vi 0), (0, .ref (Θ.2.2.1 39)), (1, .ref (Θ.2.2.1 37)), (2, .ref (Θ.2.2.1 r))]) hx hb (kX5_parse (i := 15) rfl) rfl hl (by decide) rfl (fun ls hl => ?_)
    refine wX5_parse_L26  hR C fuel 0 g_7 H locs ls h ?_ ?_ ?_ hM (lv_sub hl [1, 2, 3, 0] rfl)
    · intro g_18 H locs ls h hM hl
      refine lv_aload_n hx hb (kX5_parse (i := 26) rfl) rfl (lv_at hl 0 rfl) ?_
      refine gX5_state C hM q_fX5_25 (kX5_parse (i := 27) rfl) ?_
      refine x_if_ne (a' := wr (g_18 39 4)) hx hb rfl (tgt := 59) (kX5_parse (i := 28) rfl) (by decide) (fun c_19 => ?_) (fun c_19 => ?_)
      · have h := it_f c_19 h
        refine lv_aload_n hx hb (kX5_parse (i := 31) rfl) rfl (lv_at hl 1 rfl) ?_
        refine gX9_length C hM q_fX5_55 (kX5_parse (i := 32) rfl) ?_
        obtain ⟨q1, q2⟩ := ret2 h
        rw [q1, q2]
        exact x_iret C hM (nar_i _) (kX5_parse (i := 33) rfl)
      · have h := it_t c_19 h
        refine x_iconst hx hb (kX5_parse (i := 29) rfl) ?_
        refine lv_goto (tgt := 63) hx hb (kX5_parse (i := 30) rfl) (by decide) ?_
        obtain ⟨q1, q2⟩ := ret2 h
        rw [q1, q2]
        exact x_iret C hM (nar_i _) (kX5_parse (i := 33) rfl)
    · intro g_20 H locs ls h hM hl
      refine lv_aload_n hx hb (kX5_parse (i := 39) rfl) rfl (lv_at hl 0 rfl) ?_
      refine gX5_first C hM q_fX5_22 (kX5_parse (i := 40) rfl) ?_
      obtain ⟨q1, q2⟩ := ret2 h
      rw [q1, q2]
      exact x_iret C hM (nar_i _) (kX5_parse (i := 41) rfl)
    · intro g_21 H locs ls h hM hl
      refine lv_aload_n hx hb (kX5_parse (i := 44) rfl) rfl (lv_at hl 0 rfl) ?_
      refine gX9_length C hM q_fX5_55 (kX5_parse (i := 45) rfl) ?_
      obtain ⟨q1, q2⟩ := ret2 h
      rw [q1, q2]
      exact x_iret C hM (nar_i _) (kX5_parse (i := 46) rfl)
  exact key _ _ hM
