theorem q_cl_X0 : Cond.classLink RX11 37 RX0 ∈ lw_g := in_g (List.mem_of_getElem? (i := 188) (by decide +kernel)) (by decide +kernel)
theorem q_in_X0 : Cond.instantiable RX0 11 ∈ lw_g := in_g (List.mem_of_getElem? (i := 189) (by decide +kernel)) (by decide +kernel)
theorem q_cl_X1 : Cond.classLink RX11 16 RX1 ∈ lw_g := in_g (List.mem_of_getElem? (i := 107) (by decide +kernel)) (by decide +kernel)
theorem q_in_X1 : Cond.instantiable RX1 11 ∈ lw_g := in_g (List.mem_of_getElem? (i := 108) (by decide +kernel)) (by decide +kernel)
theorem q_cl_X2 : Cond.classLink RX11 47 RX2 ∈ lw_g := in_g (List.mem_of_getElem? (i := 242) (by decide +kernel)) (by decide +kernel)
theorem q_in_X2 : Cond.instantiable RX2 4 ∈ lw_g := in_g (List.mem_of_getElem? (i := 243) (by decide +kernel)) (by decide +kernel)
theorem q_cl_X3 : Cond.classLink RX11 7 RX3 ∈ lw_g := in_g (List.mem_of_getElem? (i := 68) (by decide +kernel)) (by decide +kernel)
theorem q_in_X3 : Cond.instantiable RX3 10 ∈ lw_g := in_g (List.mem_of_getElem? (i := 69) (by decide +kernel)) (by decide +kernel)
theorem q_cl_X4 : Cond.classLink RX11 23 RX4 ∈ lw_g := in_g (List.mem_of_getElem? (i := 150) (by decide +kernel)) (by decide +kernel)
theorem q_in_X4 : Cond.instantiable RX4 3 ∈ lw_g := in_g (List.mem_of_getElem? (i := 151) (by decide +kernel)) (by decide +kernel)
theorem q_cl_X5 : Cond.classLink RX11 61 RX5 ∈ lw_g := in_g (List.mem_of_getElem? (i := 276) (by decide +kernel)) (by decide +kernel)
theorem q_in_X5 : Cond.instantiable RX5 10 ∈ lw_g := in_g (List.mem_of_getElem? (i := 277) (by decide +kernel)) (by decide +kernel)
theorem q_cl_X6 : Cond.classLink RX11 68 RX6 ∈ lw_g := in_g (List.mem_of_getElem? (i := 313) (by decide +kernel)) (by decide +kernel)
theorem q_in_X6 : Cond.instantiable RX6 5 ∈ lw_g := in_g (List.mem_of_getElem? (i := 314) (by decide +kernel)) (by decide +kernel)
theorem q_cl_X7 : Cond.classLink RX11 82 RX7 ∈ lw_g := in_g (List.mem_of_getElem? (i := 352) (by decide +kernel)) (by decide +kernel)
theorem q_in_X7 : Cond.instantiable RX7 5 ∈ lw_g := in_g (List.mem_of_getElem? (i := 353) (by decide +kernel)) (by decide +kernel)
theorem q_cl_X8 : Cond.classLink RX11 75 RX8 ∈ lw_g := in_g (List.mem_of_getElem? (i := 336) (by decide +kernel)) (by decide +kernel)
theorem q_in_X8 : Cond.instantiable RX8 2 ∈ lw_g := in_g (List.mem_of_getElem? (i := 337) (by decide +kernel)) (by decide +kernel)
theorem q_cl_X9 : Cond.classLink RX11 54 RX9 ∈ lw_g := in_g (List.mem_of_getElem? (i := 261) (by decide +kernel)) (by decide +kernel)
theorem q_in_X9 : Cond.instantiable RX9 2 ∈ lw_g := in_g (List.mem_of_getElem? (i := 262) (by decide +kernel)) (by decide +kernel)
theorem q_cl_X10 : Cond.classLink RX11 30 RX10 ∈ lw_g := in_g (List.mem_of_getElem? (i := 168) (by decide +kernel)) (by decide +kernel)
theorem q_in_X10 : Cond.instantiable RX10 4 ∈ lw_g := in_g (List.mem_of_getElem? (i := 169) (by decide +kernel)) (by decide +kernel)
theorem q_cl_X11 : Cond.classLink RL 7 RX11 ∈ lw_g := in_g (List.mem_of_getElem? (i := 60) (by decide +kernel)) (by decide +kernel)
theorem q_in_X11 : Cond.instantiable RX11 18 ∈ lw_g := in_g (List.mem_of_getElem? (i := 61) (by decide +kernel)) (by decide +kernel)
theorem q_cl_X12 : Cond.classLink RL 10 RX12 ∈ lw_g := in_g (List.mem_of_getElem? (i := 1000) (by decide +kernel)) (by decide +kernel)
theorem q_in_X12 : Cond.instantiable RX12 75 ∈ lw_g := in_g (List.mem_of_getElem? (i := 1001) (by decide +kernel)) (by decide +kernel)
def gX0 : Mem := (up (up (up (up (up (up (up (fun _ _ => 0) 0 12 47) 0 13 52) 0 14 1000) 0 15 1) 0 16 4) 1 6 1) 41 3 16)
def spX (D : va_G) (cy : Nat → ClassId) (ad : Nat → Nat) (j : Nat) : va_E := eX (D, cy, ad, ad) j (gX0 j)
def nxs : List Nat := [57, 8, 8, 8, 8, 8, 8, 8, 17, 17, 17, 17, 17, 17, 17, 17, 17, 20, 20, 20, 24, 24, 24, 24, 28, 28, 28, 28, 32, 32, 32, 32, 37, 37, 37, 37, 37, 39, 39, 41, 41, 44, 44, 44, 46, 46, 47, 52, 52, 52, 52, 52, 57, 57, 57, 57, 57]
set_option maxRecDepth 100000 in
theorem spX_cong {D : va_G} {cy : Nat → ClassId} {ad ad1 : Nat → Nat} : ∀ j, j ≠ 0 → j < 57 → (∀ i, i < nxs.getD j 0 → ad1 i = ad i) → spX D cy ad j = spX D cy ad1 j
  | 0, h0, _, _ => absurd rfl h0
  | 1, _, _, h => by simp only [spX, eX_1]; rw [h 2 (by decide), h 3 (by decide), h 4 (by decide), h 5 (by decide), h 6 (by decide), h 7 (by decide)]
  | 2, _, _, _ => rfl
  | 3, _, _, _ => rfl
  | 4, _, _, _ => rfl
  | 5, _, _, _ => rfl
  | 6, _, _, _ => rfl
  | 7, _, _, _ => rfl
  | 8, _, _, h => by simp only [spX, eX_8]; rw [h 9 (by decide), h 10 (by decide), h 11 (by decide), h 12 (by decide), h 13 (by decide), h 14 (by decide), h 15 (by decide), h 16 (by decide)]
  | 9, _, _, _ => rfl
  | 10, _, _, _ => rfl
  | 11, _, _, _ => rfl
  | 12, _, _, _ => rfl
  | 13, _, _, _ => rfl
  | 14, _, _, _ => rfl
  | 15, _, _, _ => rfl
  | 16, _, _, _ => rfl
  | 17, _, _, h => by simp only [spX, eX_17]; rw [h 18 (by decide), h 19 (by decide)]
  | 18, _, _, _ => rfl
  | 19, _, _, _ => rfl
  | 20, _, _, h => by simp only [spX, eX_20]; rw [h 21 (by decide), h 22 (by decide), h 23 (by decide)]
  | 21, _, _, _ => rfl
  | 22, _, _, _ => rfl
  | 23, _, _, _ => rfl
  | 24, _, _, h => by simp only [spX, eX_24]; rw [h 25 (by decide), h 26 (by decide), h 27 (by decide)]
  | 25, _, _, _ => rfl
  | 26, _, _, _ => rfl
  | 27, _, _, _ => rfl
  | 28, _, _, h => by simp only [spX, eX_28]; rw [h 29 (by decide), h 30 (by decide), h 31 (by decide)]
  | 29, _, _, _ => rfl
  | 30, _, _, _ => rfl
  | 31, _, _, _ => rfl
  | 32, _, _, h => by simp only [spX, eX_32]; rw [h 33 (by decide), h 34 (by decide), h 35 (by decide), h 36 (by decide)]
  | 33, _, _, _ => rfl
  | 34, _, _, _ => rfl
  | 35, _, _, _ => rfl
  | 36, _, _, _ => rfl
  | 37, _, _, h => by simp only [spX, eX_37]; rw [h 38 (by decide)]
  | 38, _, _, _ => rfl
  | 39, _, _, h => by simp only [spX, eX_39]; rw [h 40 (by decide)]
  | 40, _, _, _ => rfl
  | 41, _, _, h => by simp only [spX, eX_41]; rw [h 42 (by decide), h 43 (by decide)]
  | 42, _, _, _ => rfl
  | 43, _, _, _ => rfl
  | 44, _, _, h => by simp only [spX, eX_44]; rw [h 45 (by decide)]
  | 45, _, _, _ => rfl
  | 46, _, _, _ => rfl
  | 47, _, _, h => by simp only [spX, eX_47]; rw [h 48 (by decide), h 49 (by decide), h 50 (by decide), h 51 (by decide)]
  | 48, _, _, _ => rfl
  | 49, _, _, _ => rfl
  | 50, _, _, _ => rfl
  | 51, _, _, _ => rfl
  | 52, _, _, h => by simp only [spX, eX_52]; rw [h 53 (by decide), h 54 (by decide), h 55 (by decide), h 56 (by decide)]
  | 53, _, _, _ => rfl
  | 54, _, _, _ => rfl
  | 55, _, _, _ => rfl
  | 56, _, _, _ => rfl
  | j + 57, _, h, _ => absurd h (by omega)
theorem spX_go {D : va_G} {cy : Nat → ClassId} {ad ad1 : Nat → Nat} {E E1 : Nat → va_E} {n : Nat} (hn : n ≤ 57) (hnx : ∀ j, j < n → j ≠ 0 → nxs.getD j 0 ≤ n) (hag : ∀ j, j < n → ad1 j = ad j) (hE : ∀ j, j < n → E1 j = E j) (hF : ∀ j, j ≠ 0 → j < n → E j = spX D cy ad j) : ∀ j, j ≠ 0 → j < n → E1 j = spX D cy ad1 j := fun j h0 hj => by rw [hE j hj, hF j h0 hj]; exact spX_cong j h0 (by omega) (fun i hi => hag i (Nat.lt_of_lt_of_le hi (hnx j hj h0)))
set_option maxRecDepth 100000 in
set_option maxHeartbeats 8000000 in
theorem nX11_init (l : Launch) (D : va_G) (cy : Nat → ClassId) (ad : Nat → Nat) (E : Nat → va_E) (hE : E 0 = .inr (11, [.null, .null, .null, .null, .null, .null, .null, .null, .null, .null, .null, .null, .null, .null, vi 0, vi 0, vi 0, vi 0])) : Nt l yX11_init cX11_init 2 56 5527 32 D cy 0 1 57 ad E (spX D cy) := by
  refine n_start (by decide) ?_
  intro p e s m args below meth c ls C hnm hr hlk hM hl
  have hx := C.1
  have hb := C.2.1
  have hown : s.vm.findClass RX11 = some m.cls := C.2.2.2.1
  have key : ∀ (H : Heap) (locs : List Loc), Hn D (Ap ad 1 s.heap.size) s.heap ad 1 E H locs → W p l e { frames := 2, cells := 56, slots := 5527, locals := 32 } s m args below meth c H locs 0 0 (MQ below (QN D ad 1 s.heap.size 57 (spX D cy)) args s 56 5527 (Ap ad 1 s.heap.size)) (F0 m 0 ls []) := by
    intro H locs hM
    have hF : ∀ j, j ≠ 0 → j < 1 → E j = spX D cy ad j := fun j h0 h1 => absurd h1 (by omega)
    have had : ∀ j, j < 1 → ad j = ad j := fun _ _ => rfl
    refine lv_aload_n hx hb (kX11_init (i := 0) rfl) rfl (lv_at hl 0 rfl) ?_
    refine n_obj C hl.1 q_mX11_1 (Nat.le_of_ble_eq_true rfl) (Nat.le_of_ble_eq_true rfl) (kX11_init (i := 1) rfl) ?_
    refine lv_aload_n hx hb (kX11_init (i := 2) rfl) rfl (lv_at hl 0 rfl) ?_
    refine n_new (ci := 3) (fs := [.null, .null, .null, .null, .null, .null, vi 0, vi 0, vi 0, vi 0]) (C0 := RX3) (Tt := TX3) (N := 10) C hM inX3 tyX3 tyX3_ok q_cl_X3 q_in_X3 q_n_X3 rfl (by decide +kernel) (Nat.le_of_ble_eq_true rfl) (Nat.le_of_ble_eq_true rfl) (kX11_init (i := 3) rfl) (fun q1 H hM => ?_)
    refine lv_dup hx hb (kX11_init (i := 4) rfl) rfl ?_
    refine n_callN (k := 1) C hM (nX3_init l D cy 1 _ _ ue_self) q_c_X3_init (List.mem_of_getElem? (i := 0) rfl) q_i_X3_init q_n_X3 rfl (by decide +kernel) ⟨by decide, by decide⟩ ⟨(Nat.le_of_ble_eq_true rfl), (Nat.le_of_ble_eq_true rfl)⟩ hl.1 (Nat.le_of_ble_eq_true rfl) (kX11_init (i := 5) rfl) (fun ad1 H locs hag hM => ?_)
    have hE : EX3 cy 1 (ue E 1 (.inr (3, [.null, .null, .null, .null, .null, .null, vi 0, vi 0, vi 0, vi 0]))) ad1 0 = _ := (show _ = E 0 by simp [EX3, SX3, ue]).trans hE
    have hF0 := spX_go (n := 1) (ad1 := ad1) (E1 := EX3 cy 1 (ue E 1 (.inr (3, [.null, .null, .null, .null, .null, .null, vi 0, vi 0, vi 0, vi 0]))) ad1) (by omega) (by decide) (fun j hj => (hag j (by omega)).trans (ue_ne (by omega))) (fun j hj => by unfold EX3 SX3; rw [if_neg (by omega), if_neg (by omega), if_neg (by omega), if_neg (by omega), if_neg (by omega), if_neg (by omega), if_neg (by omega)]; exact ue_ne (by omega)) hF
    have hF : ∀ j, j ≠ 0 → j < 8 → EX3 cy 1 (ue E 1 (.inr (3, [.null, .null, .null, .null, .null, .null, vi 0, vi 0, vi 0, vi 0]))) ad1 j = spX D cy ad1 j := fun j h0 hj => by
      rcases Nat.lt_or_ge j 1 with h9 | h9
      · exact hF0 j h0 h9
      · rcases (show j = 1 ∨ j = 2 ∨ j = 3 ∨ j = 4 ∨ j = 5 ∨ j = 6 ∨ j = 7 by omega) with rfl | rfl | rfl | rfl | rfl | rfl | rfl
        · rfl
        · rfl
        · rfl
        · rfl
        · rfl
        · rfl
        · rfl
    have had : ∀ j, j < 1 → ad1 j = ad j := fun j hj => (hag j (by omega)).trans ((ue_ne (by omega)).trans (had j hj))
    have hq1 : ad1 1 = q1 := (hag 1 (by omega)).trans ue_self
    generalize hE9 : EX3 cy 1 (ue E 1 (.inr (3, [.null, .null, .null, .null, .null, .null, vi 0, vi 0, vi 0, vi 0]))) ad1 = E1 at hM hE hF
    clear hE9 hF0 hag
    refine n_putF (ty := tyX11 0) C hnm hM 0 (had 0 (by omega)).symm (by omega) hE (C0 := RX11) (Tt := TX11) (N := 18) rfl inX11 tyX11 tyX11_ok nmX11 0 (by decide) q_fX11_10 rfl rfl (by decide +kernel) rfl rfl (Nat.le_of_ble_eq_true rfl) (kX11_init (i := 6) rfl) (fun H locs hM => ?_)
    obtain ⟨hE, hF⟩ := nw_put hF
    generalize hE9 : ue E1 0 _ = F6 at hM hE hF
    clear hE9
    refine lv_aload_n hx hb (kX11_init (i := 7) rfl) rfl (lv_at hl 0 rfl) ?_
    refine n_new (ci := 1) (fs := [.null, .null, .null, .null, .null, .null, .null, .null, vi 0, vi 0, vi 0]) (C0 := RX1) (Tt := TX1) (N := 11) C hM inX1 tyX1 tyX1_ok q_cl_X1 q_in_X1 q_n_X1 rfl (by decide +kernel) (Nat.le_of_ble_eq_true rfl) (Nat.le_of_ble_eq_true rfl) (kX11_init (i := 8) rfl) (fun q8 H hM => ?_)
    refine lv_dup hx hb (kX11_init (i := 9) rfl) rfl ?_
    refine n_callN (k := 8) C hM (nX1_init l D cy 8 _ _ ue_self) q_c_X1_init (List.mem_of_getElem? (i := 1) rfl) q_i_X1_init q_n_X1 rfl (by decide +kernel) ⟨by decide, by decide⟩ ⟨(Nat.le_of_ble_eq_true rfl), (Nat.le_of_ble_eq_true rfl)⟩ hl.1 (Nat.le_of_ble_eq_true rfl) (kX11_init (i := 10) rfl) (fun ad8 H locs hag hM => ?_)
    have hE : EX1 cy 8 (ue F6 8 (.inr (1, [.null, .null, .null, .null, .null, .null, .null, .null, vi 0, vi 0, vi 0]))) ad8 0 = _ := (show _ = F6 0 by simp [EX1, SX1, ue]).trans hE
    have hF0 := spX_go (n := 8) (ad1 := ad8) (E1 := EX1 cy 8 (ue F6 8 (.inr (1, [.null, .null, .null, .null, .null, .null, .null, .null, vi 0, vi 0, vi 0]))) ad8) (by omega) (by decide) (fun j hj => (hag j (by omega)).trans (ue_ne (by omega))) (fun j hj => by unfold EX1 SX1; rw [if_neg (by omega), if_neg (by omega), if_neg (by omega), if_neg (by omega), if_neg (by omega), if_neg (by omega), if_neg (by omega), if_neg (by omega), if_neg (by omega)]; exact ue_ne (by omega)) hF
    have hF : ∀ j, j ≠ 0 → j < 17 → EX1 cy 8 (ue F6 8 (.inr (1, [.null, .null, .null, .null, .null, .null, .null, .null, vi 0, vi 0, vi 0]))) ad8 j = spX D cy ad8 j := fun j h0 hj => by
      rcases Nat.lt_or_ge j 8 with h9 | h9
      · exact hF0 j h0 h9
      · rcases (show j = 8 ∨ j = 9 ∨ j = 10 ∨ j = 11 ∨ j = 12 ∨ j = 13 ∨ j = 14 ∨ j = 15 ∨ j = 16 by omega) with rfl | rfl | rfl | rfl | rfl | rfl | rfl | rfl | rfl
        · rfl
        · rfl
        · rfl
        · rfl
        · rfl
        · rfl
        · rfl
        · rfl
        · rfl
    have had : ∀ j, j < 1 → ad8 j = ad j := fun j hj => (hag j (by omega)).trans ((ue_ne (by omega)).trans (had j hj))
    have hq8 : ad8 8 = q8 := (hag 8 (by omega)).trans ue_self
    have hq1 : ad8 1 = q1 := (hag 1 (by omega)).trans ((ue_ne (by omega)).trans hq1)
    generalize hE9 : EX1 cy 8 (ue F6 8 (.inr (1, [.null, .null, .null, .null, .null, .null, .null, .null, vi 0, vi 0, vi 0]))) ad8 = E8 at hM hE hF
    clear hE9 hF0 hag
    refine n_putF (ty := tyX11 1) C hnm hM 0 (had 0 (by omega)).symm (by omega) hE (C0 := RX11) (Tt := TX11) (N := 18) rfl inX11 tyX11 tyX11_ok nmX11 1 (by decide) q_fX11_19 rfl rfl (by decide +kernel) rfl rfl (Nat.le_of_ble_eq_true rfl) (kX11_init (i := 11) rfl) (fun H locs hM => ?_)
    obtain ⟨hE, hF⟩ := nw_put hF
    generalize hE9 : ue E8 0 _ = F11 at hM hE hF
    clear hE9
    refine lv_aload_n hx hb (kX11_init (i := 12) rfl) rfl (lv_at hl 0 rfl) ?_
    refine n_new (ci := 4) (fs := [.null, .null, vi 0]) (C0 := RX4) (Tt := TX4) (N := 3) C hM inX4 tyX4 tyX4_ok q_cl_X4 q_in_X4 q_n_X4 rfl (by decide +kernel) (Nat.le_of_ble_eq_true rfl) (Nat.le_of_ble_eq_true rfl) (kX11_init (i := 13) rfl) (fun q17 H hM => ?_)
    refine lv_dup hx hb (kX11_init (i := 14) rfl) rfl ?_
    refine n_callN (k := 17) C hM (nX4_init l D cy 17 _ _ ue_self) q_c_X4_init (List.mem_of_getElem? (i := 2) rfl) q_i_X4_init q_n_X4 rfl (by decide +kernel) ⟨by decide, by decide⟩ ⟨(Nat.le_of_ble_eq_true rfl), (Nat.le_of_ble_eq_true rfl)⟩ hl.1 (Nat.le_of_ble_eq_true rfl) (kX11_init (i := 15) rfl) (fun ad17 H locs hag hM => ?_)
    have hE : EX4 cy 17 (ue F11 17 (.inr (4, [.null, .null, vi 0]))) ad17 0 = _ := (show _ = F11 0 by simp [EX4, SX4, ue]).trans hE
    have hF0 := spX_go (n := 17) (ad1 := ad17) (E1 := EX4 cy 17 (ue F11 17 (.inr (4, [.null, .null, vi 0]))) ad17) (by omega) (by decide) (fun j hj => (hag j (by omega)).trans (ue_ne (by omega))) (fun j hj => by unfold EX4 SX4; rw [if_neg (by omega), if_neg (by omega), if_neg (by omega)]; exact ue_ne (by omega)) hF
    have hF : ∀ j, j ≠ 0 → j < 20 → EX4 cy 17 (ue F11 17 (.inr (4, [.null, .null, vi 0]))) ad17 j = spX D cy ad17 j := fun j h0 hj => by
      rcases Nat.lt_or_ge j 17 with h9 | h9
      · exact hF0 j h0 h9
      · rcases (show j = 17 ∨ j = 18 ∨ j = 19 by omega) with rfl | rfl | rfl
        · rfl
        · rfl
        · rfl
    have had : ∀ j, j < 1 → ad17 j = ad j := fun j hj => (hag j (by omega)).trans ((ue_ne (by omega)).trans (had j hj))
    have hq17 : ad17 17 = q17 := (hag 17 (by omega)).trans ue_self
    have hq1 : ad17 1 = q1 := (hag 1 (by omega)).trans ((ue_ne (by omega)).trans hq1)
    have hq8 : ad17 8 = q8 := (hag 8 (by omega)).trans ((ue_ne (by omega)).trans hq8)
    generalize hE9 : EX4 cy 17 (ue F11 17 (.inr (4, [.null, .null, vi 0]))) ad17 = E17 at hM hE hF
    clear hE9 hF0 hag
    refine n_putF (ty := tyX11 2) C hnm hM 0 (had 0 (by omega)).symm (by omega) hE (C0 := RX11) (Tt := TX11) (N := 18) rfl inX11 tyX11 tyX11_ok nmX11 2 (by decide) q_fX11_26 rfl rfl (by decide +kernel) rfl rfl (Nat.le_of_ble_eq_true rfl) (kX11_init (i := 16) rfl) (fun H locs hM => ?_)
    obtain ⟨hE, hF⟩ := nw_put hF
    generalize hE9 : ue E17 0 _ = F16 at hM hE hF
    clear hE9
    refine lv_aload_n hx hb (kX11_init (i := 17) rfl) rfl (lv_at hl 0 rfl) ?_
    refine n_new (ci := 10) (fs := [.null, .null, .null, vi 0]) (C0 := RX10) (Tt := TX10) (N := 4) C hM inX10 tyX10 tyX10_ok q_cl_X10 q_in_X10 q_n_X10 rfl (by decide +kernel) (Nat.le_of_ble_eq_true rfl) (Nat.le_of_ble_eq_true rfl) (kX11_init (i := 18) rfl) (fun q20 H hM => ?_)
    refine lv_dup hx hb (kX11_init (i := 19) rfl) rfl ?_
    refine n_callN (k := 20) C hM (nX10_init l D cy 20 _ _ ue_self) q_c_X10_init (List.mem_of_getElem? (i := 3) rfl) q_i_X10_init q_n_X10 rfl (by decide +kernel) ⟨by decide, by decide⟩ ⟨(Nat.le_of_ble_eq_true rfl), (Nat.le_of_ble_eq_true rfl)⟩ hl.1 (Nat.le_of_ble_eq_true rfl) (kX11_init (i := 20) rfl) (fun ad20 H locs hag hM => ?_)
    have hE : EX10 cy 20 (ue F16 20 (.inr (10, [.null, .null, .null, vi 0]))) ad20 0 = _ := (show _ = F16 0 by simp [EX10, SX10, ue]).trans hE
    have hF0 := spX_go (n := 20) (ad1 := ad20) (E1 := EX10 cy 20 (ue F16 20 (.inr (10, [.null, .null, .null, vi 0]))) ad20) (by omega) (by decide) (fun j hj => (hag j (by omega)).trans (ue_ne (by omega))) (fun j hj => by unfold EX10 SX10; rw [if_neg (by omega), if_neg (by omega), if_neg (by omega), if_neg (by omega)]; exact ue_ne (by omega)) hF
    have hF : ∀ j, j ≠ 0 → j < 24 → EX10 cy 20 (ue F16 20 (.inr (10, [.null, .null, .null, vi 0]))) ad20 j = spX D cy ad20 j := fun j h0 hj => by
      rcases Nat.lt_or_ge j 20 with h9 | h9
      · exact hF0 j h0 h9
      · rcases (show j = 20 ∨ j = 21 ∨ j = 22 ∨ j = 23 by omega) with rfl | rfl | rfl | rfl
        · rfl
        · rfl
        · rfl
        · rfl
    have had : ∀ j, j < 1 → ad20 j = ad j := fun j hj => (hag j (by omega)).trans ((ue_ne (by omega)).trans (had j hj))
    have hq20 : ad20 20 = q20 := (hag 20 (by omega)).trans ue_self
    have hq1 : ad20 1 = q1 := (hag 1 (by omega)).trans ((ue_ne (by omega)).trans hq1)
    have hq8 : ad20 8 = q8 := (hag 8 (by omega)).trans ((ue_ne (by omega)).trans hq8)
    have hq17 : ad20 17 = q17 := (hag 17 (by omega)).trans ((ue_ne (by omega)).trans hq17)
    generalize hE9 : EX10 cy 20 (ue F16 20 (.inr (10, [.null, .null, .null, vi 0]))) ad20 = E20 at hM hE hF
    clear hE9 hF0 hag
    refine n_putF (ty := tyX11 3) C hnm hM 0 (had 0 (by omega)).symm (by omega) hE (C0 := RX11) (Tt := TX11) (N := 18) rfl inX11 tyX11 tyX11_ok nmX11 3 (by decide) q_fX11_33 rfl rfl (by decide +kernel) rfl rfl (Nat.le_of_ble_eq_true rfl) (kX11_init (i := 21) rfl) (fun H locs hM => ?_)
    obtain ⟨hE, hF⟩ := nw_put hF
    generalize hE9 : ue E20 0 _ = F21 at hM hE hF
    clear hE9
    refine lv_aload_n hx hb (kX11_init (i := 22) rfl) rfl (lv_at hl 0 rfl) ?_
    refine n_new (ci := 0) (fs := [.null, .null, .null, vi 0, vi 0, vi 0, vi 0, vi 0, vi 0, vi 0, vi 0]) (C0 := RX0) (Tt := TX0) (N := 11) C hM inX0 tyX0 tyX0_ok q_cl_X0 q_in_X0 q_n_X0 rfl (by decide +kernel) (Nat.le_of_ble_eq_true rfl) (Nat.le_of_ble_eq_true rfl) (kX11_init (i := 23) rfl) (fun q24 H hM => ?_)
    refine lv_dup hx hb (kX11_init (i := 24) rfl) rfl ?_
    refine n_callN (k := 24) C hM (nX0_init l D cy 24 _ _ ue_self) q_c_X0_init (List.mem_of_getElem? (i := 4) rfl) q_i_X0_init q_n_X0 rfl (by decide +kernel) ⟨by decide, by decide⟩ ⟨(Nat.le_of_ble_eq_true rfl), (Nat.le_of_ble_eq_true rfl)⟩ hl.1 (Nat.le_of_ble_eq_true rfl) (kX11_init (i := 25) rfl) (fun ad24 H locs hag hM => ?_)
    have hE : EX0 cy 24 (ue F21 24 (.inr (0, [.null, .null, .null, vi 0, vi 0, vi 0, vi 0, vi 0, vi 0, vi 0, vi 0]))) ad24 0 = _ := (show _ = F21 0 by simp [EX0, SX0, ue]).trans hE
    have hF0 := spX_go (n := 24) (ad1 := ad24) (E1 := EX0 cy 24 (ue F21 24 (.inr (0, [.null, .null, .null, vi 0, vi 0, vi 0, vi 0, vi 0, vi 0, vi 0, vi 0]))) ad24) (by omega) (by decide) (fun j hj => (hag j (by omega)).trans (ue_ne (by omega))) (fun j hj => by unfold EX0 SX0; rw [if_neg (by omega), if_neg (by omega), if_neg (by omega), if_neg (by omega)]; exact ue_ne (by omega)) hF
    have hF : ∀ j, j ≠ 0 → j < 28 → EX0 cy 24 (ue F21 24 (.inr (0, [.null, .null, .null, vi 0, vi 0, vi 0, vi 0, vi 0, vi 0, vi 0, vi 0]))) ad24 j = spX D cy ad24 j := fun j h0 hj => by
      rcases Nat.lt_or_ge j 24 with h9 | h9
      · exact hF0 j h0 h9
      · rcases (show j = 24 ∨ j = 25 ∨ j = 26 ∨ j = 27 by omega) with rfl | rfl | rfl | rfl
        · rfl
        · rfl
        · rfl
        · rfl
    have had : ∀ j, j < 1 → ad24 j = ad j := fun j hj => (hag j (by omega)).trans ((ue_ne (by omega)).trans (had j hj))
    have hq24 : ad24 24 = q24 := (hag 24 (by omega)).trans ue_self
    have hq1 : ad24 1 = q1 := (hag 1 (by omega)).trans ((ue_ne (by omega)).trans hq1)
    have hq8 : ad24 8 = q8 := (hag 8 (by omega)).trans ((ue_ne (by omega)).trans hq8)
    have hq17 : ad24 17 = q17 := (hag 17 (by omega)).trans ((ue_ne (by omega)).trans hq17)
    have hq20 : ad24 20 = q20 := (hag 20 (by omega)).trans ((ue_ne (by omega)).trans hq20)
    generalize hE9 : EX0 cy 24 (ue F21 24 (.inr (0, [.null, .null, .null, vi 0, vi 0, vi 0, vi 0, vi 0, vi 0, vi 0, vi 0]))) ad24 = E24 at hM hE hF
    clear hE9 hF0 hag
    refine n_putF (ty := tyX11 4) C hnm hM 0 (had 0 (by omega)).symm (by omega) hE (C0 := RX11) (Tt := TX11) (N := 18) rfl inX11 tyX11 tyX11_ok nmX11 4 (by decide) q_fX11_40 rfl rfl (by decide +kernel) rfl rfl (Nat.le_of_ble_eq_true rfl) (kX11_init (i := 26) rfl) (fun H locs hM => ?_)
    obtain ⟨hE, hF⟩ := nw_put hF
    generalize hE9 : ue E24 0 _ = F26 at hM hE hF
    clear hE9
    refine lv_aload_n hx hb (kX11_init (i := 27) rfl) rfl (lv_at hl 0 rfl) ?_
    refine n_new (ci := 0) (fs := [.null, .null, .null, vi 0, vi 0, vi 0, vi 0, vi 0, vi 0, vi 0, vi 0]) (C0 := RX0) (Tt := TX0) (N := 11) C hM inX0 tyX0 tyX0_ok q_cl_X0 q_in_X0 q_n_X0 rfl (by decide +kernel) (Nat.le_of_ble_eq_true rfl) (Nat.le_of_ble_eq_true rfl) (kX11_init (i := 28) rfl) (fun q28 H hM => ?_)
    refine lv_dup hx hb (kX11_init (i := 29) rfl) rfl ?_
    refine n_callN (k := 28) C hM (nX0_init l D cy 28 _ _ ue_self) q_c_X0_init (List.mem_of_getElem? (i := 4) rfl) q_i_X0_init q_n_X0 rfl (by decide +kernel) ⟨by decide, by decide⟩ ⟨(Nat.le_of_ble_eq_true rfl), (Nat.le_of_ble_eq_true rfl)⟩ hl.1 (Nat.le_of_ble_eq_true rfl) (kX11_init (i := 30) rfl) (fun ad28 H locs hag hM => ?_)
    have hE : EX0 cy 28 (ue F26 28 (.inr (0, [.null, .null, .null, vi 0, vi 0, vi 0, vi 0, vi 0, vi 0, vi 0, vi 0]))) ad28 0 = _ := (show _ = F26 0 by simp [EX0, SX0, ue]).trans hE
    have hF0 := spX_go (n := 28) (ad1 := ad28) (E1 := EX0 cy 28 (ue F26 28 (.inr (0, [.null, .null, .null, vi 0, vi 0, vi 0, vi 0, vi 0, vi 0, vi 0, vi 0]))) ad28) (by omega) (by decide) (fun j hj => (hag j (by omega)).trans (ue_ne (by omega))) (fun j hj => by unfold EX0 SX0; rw [if_neg (by omega), if_neg (by omega), if_neg (by omega), if_neg (by omega)]; exact ue_ne (by omega)) hF
    have hF : ∀ j, j ≠ 0 → j < 32 → EX0 cy 28 (ue F26 28 (.inr (0, [.null, .null, .null, vi 0, vi 0, vi 0, vi 0, vi 0, vi 0, vi 0, vi 0]))) ad28 j = spX D cy ad28 j := fun j h0 hj => by
      rcases Nat.lt_or_ge j 28 with h9 | h9
      · exact hF0 j h0 h9
      · rcases (show j = 28 ∨ j = 29 ∨ j = 30 ∨ j = 31 by omega) with rfl | rfl | rfl | rfl
        · rfl
        · rfl
        · rfl
        · rfl
    have had : ∀ j, j < 1 → ad28 j = ad j := fun j hj => (hag j (by omega)).trans ((ue_ne (by omega)).trans (had j hj))
    have hq28 : ad28 28 = q28 := (hag 28 (by omega)).trans ue_self
    have hq1 : ad28 1 = q1 := (hag 1 (by omega)).trans ((ue_ne (by omega)).trans hq1)
    have hq8 : ad28 8 = q8 := (hag 8 (by omega)).trans ((ue_ne (by omega)).trans hq8)
    have hq17 : ad28 17 = q17 := (hag 17 (by omega)).trans ((ue_ne (by omega)).trans hq17)
    have hq20 : ad28 20 = q20 := (hag 20 (by omega)).trans ((ue_ne (by omega)).trans hq20)
    have hq24 : ad28 24 = q24 := (hag 24 (by omega)).trans ((ue_ne (by omega)).trans hq24)
    generalize hE9 : EX0 cy 28 (ue F26 28 (.inr (0, [.null, .null, .null, vi 0, vi 0, vi 0, vi 0, vi 0, vi 0, vi 0, vi 0]))) ad28 = E28 at hM hE hF
    clear hE9 hF0 hag
    refine n_putF (ty := tyX11 5) C hnm hM 0 (had 0 (by omega)).symm (by omega) hE (C0 := RX11) (Tt := TX11) (N := 18) rfl inX11 tyX11 tyX11_ok nmX11 5 (by decide) q_fX11_44 rfl rfl (by decide +kernel) rfl rfl (Nat.le_of_ble_eq_true rfl) (kX11_init (i := 31) rfl) (fun H locs hM => ?_)
    obtain ⟨hE, hF⟩ := nw_put hF
    generalize hE9 : ue E28 0 _ = F31 at hM hE hF
    clear hE9
    refine lv_aload_n hx hb (kX11_init (i := 32) rfl) rfl (lv_at hl 0 rfl) ?_
    refine n_new (ci := 2) (fs := [.null, .null, .null, .null]) (C0 := RX2) (Tt := TX2) (N := 4) C hM inX2 tyX2 tyX2_ok q_cl_X2 q_in_X2 q_n_X2 rfl (by decide +kernel) (Nat.le_of_ble_eq_true rfl) (Nat.le_of_ble_eq_true rfl) (kX11_init (i := 33) rfl) (fun q32 H hM => ?_)
    refine lv_dup hx hb (kX11_init (i := 34) rfl) rfl ?_
    refine n_callN (k := 32) C hM (nX2_init l D cy 32 _ _ ue_self) q_c_X2_init (List.mem_of_getElem? (i := 5) rfl) q_i_X2_init q_n_X2 rfl (by decide +kernel) ⟨by decide, by decide⟩ ⟨(Nat.le_of_ble_eq_true rfl), (Nat.le_of_ble_eq_true rfl)⟩ hl.1 (Nat.le_of_ble_eq_true rfl) (kX11_init (i := 35) rfl) (fun ad32 H locs hag hM => ?_)
    have hE : EX2 cy 32 (ue F31 32 (.inr (2, [.null, .null, .null, .null]))) ad32 0 = _ := (show _ = F31 0 by simp [EX2, SX2, ue]).trans hE
    have hF0 := spX_go (n := 32) (ad1 := ad32) (E1 := EX2 cy 32 (ue F31 32 (.inr (2, [.null, .null, .null, .null]))) ad32) (by omega) (by decide) (fun j hj => (hag j (by omega)).trans (ue_ne (by omega))) (fun j hj => by unfold EX2 SX2; rw [if_neg (by omega), if_neg (by omega), if_neg (by omega), if_neg (by omega), if_neg (by omega)]; exact ue_ne (by omega)) hF
    have hF : ∀ j, j ≠ 0 → j < 37 → EX2 cy 32 (ue F31 32 (.inr (2, [.null, .null, .null, .null]))) ad32 j = spX D cy ad32 j := fun j h0 hj => by
      rcases Nat.lt_or_ge j 32 with h9 | h9
      · exact hF0 j h0 h9
      · rcases (show j = 32 ∨ j = 33 ∨ j = 34 ∨ j = 35 ∨ j = 36 by omega) with rfl | rfl | rfl | rfl | rfl
        · rfl
        · rfl
        · rfl
        · rfl
        · rfl
    have had : ∀ j, j < 1 → ad32 j = ad j := fun j hj => (hag j (by omega)).trans ((ue_ne (by omega)).trans (had j hj))
    have hq32 : ad32 32 = q32 := (hag 32 (by omega)).trans ue_self
    have hq1 : ad32 1 = q1 := (hag 1 (by omega)).trans ((ue_ne (by omega)).trans hq1)
    have hq8 : ad32 8 = q8 := (hag 8 (by omega)).trans ((ue_ne (by omega)).trans hq8)
    have hq17 : ad32 17 = q17 := (hag 17 (by omega)).trans ((ue_ne (by omega)).trans hq17)
    have hq20 : ad32 20 = q20 := (hag 20 (by omega)).trans ((ue_ne (by omega)).trans hq20)
    have hq24 : ad32 24 = q24 := (hag 24 (by omega)).trans ((ue_ne (by omega)).trans hq24)
    have hq28 : ad32 28 = q28 := (hag 28 (by omega)).trans ((ue_ne (by omega)).trans hq28)
    generalize hE9 : EX2 cy 32 (ue F31 32 (.inr (2, [.null, .null, .null, .null]))) ad32 = E32 at hM hE hF
    clear hE9 hF0 hag
    refine n_putF (ty := tyX11 6) C hnm hM 0 (had 0 (by omega)).symm (by omega) hE (C0 := RX11) (Tt := TX11) (N := 18) rfl inX11 tyX11 tyX11_ok nmX11 6 (by decide) q_fX11_50 rfl rfl (by decide +kernel) rfl rfl (Nat.le_of_ble_eq_true rfl) (kX11_init (i := 36) rfl) (fun H locs hM => ?_)
    obtain ⟨hE, hF⟩ := nw_put hF
    generalize hE9 : ue E32 0 _ = F36 at hM hE hF
    clear hE9
    refine lv_aload_n hx hb (kX11_init (i := 37) rfl) rfl (lv_at hl 0 rfl) ?_
    refine n_new (ci := 9) (fs := [.null, vi 0]) (C0 := RX9) (Tt := TX9) (N := 2) C hM inX9 tyX9 tyX9_ok q_cl_X9 q_in_X9 q_n_X9 rfl (by decide +kernel) (Nat.le_of_ble_eq_true rfl) (Nat.le_of_ble_eq_true rfl) (kX11_init (i := 38) rfl) (fun q37 H hM => ?_)
    refine lv_dup hx hb (kX11_init (i := 39) rfl) rfl ?_
    refine n_callN (k := 37) C hM (nX9_init l D cy 37 _ _ ue_self) q_c_X9_init (List.mem_of_getElem? (i := 6) rfl) q_i_X9_init q_n_X9 rfl (by decide +kernel) ⟨by decide, by decide⟩ ⟨(Nat.le_of_ble_eq_true rfl), (Nat.le_of_ble_eq_true rfl)⟩ hl.1 (Nat.le_of_ble_eq_true rfl) (kX11_init (i := 40) rfl) (fun ad37 H locs hag hM => ?_)
    have hE : EX9 cy 37 (ue F36 37 (.inr (9, [.null, vi 0]))) ad37 0 = _ := (show _ = F36 0 by simp [EX9, SX9, ue]).trans hE
    have hF0 := spX_go (n := 37) (ad1 := ad37) (E1 := EX9 cy 37 (ue F36 37 (.inr (9, [.null, vi 0]))) ad37) (by omega) (by decide) (fun j hj => (hag j (by omega)).trans (ue_ne (by omega))) (fun j hj => by unfold EX9 SX9; rw [if_neg (by omega), if_neg (by omega)]; exact ue_ne (by omega)) hF
    have hF : ∀ j, j ≠ 0 → j < 39 → EX9 cy 37 (ue F36 37 (.inr (9, [.null, vi 0]))) ad37 j = spX D cy ad37 j := fun j h0 hj => by
      rcases Nat.lt_or_ge j 37 with h9 | h9
      · exact hF0 j h0 h9
      · rcases (show j = 37 ∨ j = 38 by omega) with rfl | rfl
        · rfl
        · rfl
    have had : ∀ j, j < 1 → ad37 j = ad j := fun j hj => (hag j (by omega)).trans ((ue_ne (by omega)).trans (had j hj))
    have hq37 : ad37 37 = q37 := (hag 37 (by omega)).trans ue_self
    have hq1 : ad37 1 = q1 := (hag 1 (by omega)).trans ((ue_ne (by omega)).trans hq1)
    have hq8 : ad37 8 = q8 := (hag 8 (by omega)).trans ((ue_ne (by omega)).trans hq8)
    have hq17 : ad37 17 = q17 := (hag 17 (by omega)).trans ((ue_ne (by omega)).trans hq17)
    have hq20 : ad37 20 = q20 := (hag 20 (by omega)).trans ((ue_ne (by omega)).trans hq20)
    have hq24 : ad37 24 = q24 := (hag 24 (by omega)).trans ((ue_ne (by omega)).trans hq24)
    have hq28 : ad37 28 = q28 := (hag 28 (by omega)).trans ((ue_ne (by omega)).trans hq28)
    have hq32 : ad37 32 = q32 := (hag 32 (by omega)).trans ((ue_ne (by omega)).trans hq32)
    generalize hE9 : EX9 cy 37 (ue F36 37 (.inr (9, [.null, vi 0]))) ad37 = E37 at hM hE hF
    clear hE9 hF0 hag
    refine n_putF (ty := tyX11 7) C hnm hM 0 (had 0 (by omega)).symm (by omega) hE (C0 := RX11) (Tt := TX11) (N := 18) rfl inX11 tyX11 tyX11_ok nmX11 7 (by decide) q_fX11_57 rfl rfl (by decide +kernel) rfl rfl (Nat.le_of_ble_eq_true rfl) (kX11_init (i := 41) rfl) (fun H locs hM => ?_)
    obtain ⟨hE, hF⟩ := nw_put hF
    generalize hE9 : ue E37 0 _ = F41 at hM hE hF
    clear hE9
    refine lv_aload_n hx hb (kX11_init (i := 42) rfl) rfl (lv_at hl 0 rfl) ?_
    refine n_new (ci := 5) (fs := [.null, vi 0, vi 0, vi 0, vi 0, vi 0, vi 0, vi 0, vi 0, vi 0]) (C0 := RX5) (Tt := TX5) (N := 10) C hM inX5 tyX5 tyX5_ok q_cl_X5 q_in_X5 q_n_X5 rfl (by decide +kernel) (Nat.le_of_ble_eq_true rfl) (Nat.le_of_ble_eq_true rfl) (kX11_init (i := 43) rfl) (fun q39 H hM => ?_)
    refine lv_dup hx hb (kX11_init (i := 44) rfl) rfl ?_
    refine n_callN (k := 39) C hM (nX5_init l D cy 39 _ _ ue_self) q_c_X5_init (List.mem_of_getElem? (i := 7) rfl) q_i_X5_init q_n_X5 rfl (by decide +kernel) ⟨by decide, by decide⟩ ⟨(Nat.le_of_ble_eq_true rfl), (Nat.le_of_ble_eq_true rfl)⟩ hl.1 (Nat.le_of_ble_eq_true rfl) (kX11_init (i := 45) rfl) (fun ad39 H locs hag hM => ?_)
    have hE : EX5 cy 39 (ue F41 39 (.inr (5, [.null, vi 0, vi 0, vi 0, vi 0, vi 0, vi 0, vi 0, vi 0, vi 0]))) ad39 0 = _ := (show _ = F41 0 by simp [EX5, SX5, ue]).trans hE
    have hF0 := spX_go (n := 39) (ad1 := ad39) (E1 := EX5 cy 39 (ue F41 39 (.inr (5, [.null, vi 0, vi 0, vi 0, vi 0, vi 0, vi 0, vi 0, vi 0, vi 0]))) ad39) (by omega) (by decide) (fun j hj => (hag j (by omega)).trans (ue_ne (by omega))) (fun j hj => by unfold EX5 SX5; rw [if_neg (by omega), if_neg (by omega)]; exact ue_ne (by omega)) hF
    have hF : ∀ j, j ≠ 0 → j < 41 → EX5 cy 39 (ue F41 39 (.inr (5, [.null, vi 0, vi 0, vi 0, vi 0, vi 0, vi 0, vi 0, vi 0, vi 0]))) ad39 j = spX D cy ad39 j := fun j h0 hj => by
      rcases Nat.lt_or_ge j 39 with h9 | h9
      · exact hF0 j h0 h9
      · rcases (show j = 39 ∨ j = 40 by omega) with rfl | rfl
        · rfl
        · rfl
    have had : ∀ j, j < 1 → ad39 j = ad j := fun j hj => (hag j (by omega)).trans ((ue_ne (by omega)).trans (had j hj))
    have hq39 : ad39 39 = q39 := (hag 39 (by omega)).trans ue_self
    have hq1 : ad39 1 = q1 := (hag 1 (by omega)).trans ((ue_ne (by omega)).trans hq1)
    have hq8 : ad39 8 = q8 := (hag 8 (by omega)).trans ((ue_ne (by omega)).trans hq8)
    have hq17 : ad39 17 = q17 := (hag 17 (by omega)).trans ((ue_ne (by omega)).trans hq17)
    have hq20 : ad39 20 = q20 := (hag 20 (by omega)).trans ((ue_ne (by omega)).trans hq20)
    have hq24 : ad39 24 = q24 := (hag 24 (by omega)).trans ((ue_ne (by omega)).trans hq24)
    have hq28 : ad39 28 = q28 := (hag 28 (by omega)).trans ((ue_ne (by omega)).trans hq28)
    have hq32 : ad39 32 = q32 := (hag 32 (by omega)).trans ((ue_ne (by omega)).trans hq32)
    have hq37 : ad39 37 = q37 := (hag 37 (by omega)).trans ((ue_ne (by omega)).trans hq37)
    generalize hE9 : EX5 cy 39 (ue F41 39 (.inr (5, [.null, vi 0, vi 0, vi 0, vi 0, vi 0, vi 0, vi 0, vi 0, vi 0]))) ad39 = E39 at hM hE hF
    clear hE9 hF0 hag
    refine n_putF (ty := tyX11 8) C hnm hM 0 (had 0 (by omega)).symm (by omega) hE (C0 := RX11) (Tt := TX11) (N := 18) rfl inX11 tyX11 tyX11_ok nmX11 8 (by decide) q_fX11_64 rfl rfl (by decide +kernel) rfl rfl (Nat.le_of_ble_eq_true rfl) (kX11_init (i := 46) rfl) (fun H locs hM => ?_)
    obtain ⟨hE, hF⟩ := nw_put hF
    generalize hE9 : ue E39 0 _ = F46 at hM hE hF
    clear hE9
    refine lv_aload_n hx hb (kX11_init (i := 47) rfl) rfl (lv_at hl 0 rfl) ?_
    refine n_new (ci := 6) (fs := [.null, .null, vi 0, vi 0, vi 0]) (C0 := RX6) (Tt := TX6) (N := 5) C hM inX6 tyX6 tyX6_ok q_cl_X6 q_in_X6 q_n_X6 rfl (by decide +kernel) (Nat.le_of_ble_eq_true rfl) (Nat.le_of_ble_eq_true rfl) (kX11_init (i := 48) rfl) (fun q41 H hM => ?_)
    refine lv_dup hx hb (kX11_init (i := 49) rfl) rfl ?_
    refine n_callN (k := 41) C hM (nX6_init l D cy 41 _ _ ue_self) q_c_X6_init (List.mem_of_getElem? (i := 8) rfl) q_i_X6_init q_n_X6 rfl (by decide +kernel) ⟨by decide, by decide⟩ ⟨(Nat.le_of_ble_eq_true rfl), (Nat.le_of_ble_eq_true rfl)⟩ hl.1 (Nat.le_of_ble_eq_true rfl) (kX11_init (i := 50) rfl) (fun ad41 H locs hag hM => ?_)
    have hE : EX6 cy 41 (ue F46 41 (.inr (6, [.null, .null, vi 0, vi 0, vi 0]))) ad41 0 = _ := (show _ = F46 0 by simp [EX6, SX6, ue]).trans hE
    have hF0 := spX_go (n := 41) (ad1 := ad41) (E1 := EX6 cy 41 (ue F46 41 (.inr (6, [.null, .null, vi 0, vi 0, vi 0]))) ad41) (by omega) (by decide) (fun j hj => (hag j (by omega)).trans (ue_ne (by omega))) (fun j hj => by unfold EX6 SX6; rw [if_neg (by omega), if_neg (by omega), if_neg (by omega)]; exact ue_ne (by omega)) hF
    have hF : ∀ j, j ≠ 0 → j < 44 → EX6 cy 41 (ue F46 41 (.inr (6, [.null, .null, vi 0, vi 0, vi 0]))) ad41 j = spX D cy ad41 j := fun j h0 hj => by
      rcases Nat.lt_or_ge j 41 with h9 | h9
      · exact hF0 j h0 h9
      · rcases (show j = 41 ∨ j = 42 ∨ j = 43 by omega) with rfl | rfl | rfl
        · rfl
        · rfl
        · rfl
    have had : ∀ j, j < 1 → ad41 j = ad j := fun j hj => (hag j (by omega)).trans ((ue_ne (by omega)).trans (had j hj))
    have hq41 : ad41 41 = q41 := (hag 41 (by omega)).trans ue_self
    have hq1 : ad41 1 = q1 := (hag 1 (by omega)).trans ((ue_ne (by omega)).trans hq1)
    have hq8 : ad41 8 = q8 := (hag 8 (by omega)).trans ((ue_ne (by omega)).trans hq8)
    have hq17 : ad41 17 = q17 := (hag 17 (by omega)).trans ((ue_ne (by omega)).trans hq17)
    have hq20 : ad41 20 = q20 := (hag 20 (by omega)).trans ((ue_ne (by omega)).trans hq20)
    have hq24 : ad41 24 = q24 := (hag 24 (by omega)).trans ((ue_ne (by omega)).trans hq24)
    have hq28 : ad41 28 = q28 := (hag 28 (by omega)).trans ((ue_ne (by omega)).trans hq28)
    have hq32 : ad41 32 = q32 := (hag 32 (by omega)).trans ((ue_ne (by omega)).trans hq32)
    have hq37 : ad41 37 = q37 := (hag 37 (by omega)).trans ((ue_ne (by omega)).trans hq37)
    have hq39 : ad41 39 = q39 := (hag 39 (by omega)).trans ((ue_ne (by omega)).trans hq39)
    generalize hE9 : EX6 cy 41 (ue F46 41 (.inr (6, [.null, .null, vi 0, vi 0, vi 0]))) ad41 = E41 at hM hE hF
    clear hE9 hF0 hag
    refine n_putF (ty := tyX11 9) C hnm hM 0 (had 0 (by omega)).symm (by omega) hE (C0 := RX11) (Tt := TX11) (N := 18) rfl inX11 tyX11 tyX11_ok nmX11 9 (by decide) q_fX11_71 rfl rfl (by decide +kernel) rfl rfl (Nat.le_of_ble_eq_true rfl) (kX11_init (i := 51) rfl) (fun H locs hM => ?_)
    obtain ⟨hE, hF⟩ := nw_put hF
    generalize hE9 : ue E41 0 _ = F51 at hM hE hF
    clear hE9
    refine lv_aload_n hx hb (kX11_init (i := 52) rfl) rfl (lv_at hl 0 rfl) ?_
    refine n_new (ci := 8) (fs := [.null, vi 0]) (C0 := RX8) (Tt := TX8) (N := 2) C hM inX8 tyX8 tyX8_ok q_cl_X8 q_in_X8 q_n_X8 rfl (by decide +kernel) (Nat.le_of_ble_eq_true rfl) (Nat.le_of_ble_eq_true rfl) (kX11_init (i := 53) rfl) (fun q44 H hM => ?_)
    refine lv_dup hx hb (kX11_init (i := 54) rfl) rfl ?_
    refine n_callN (k := 44) C hM (nX8_init l D cy 44 _ _ ue_self) q_c_X8_init (List.mem_of_getElem? (i := 9) rfl) q_i_X8_init q_n_X8 rfl (by decide +kernel) ⟨by decide, by decide⟩ ⟨(Nat.le_of_ble_eq_true rfl), (Nat.le_of_ble_eq_true rfl)⟩ hl.1 (Nat.le_of_ble_eq_true rfl) (kX11_init (i := 55) rfl) (fun ad44 H locs hag hM => ?_)
    have hE : EX8 cy 44 (ue F51 44 (.inr (8, [.null, vi 0]))) ad44 0 = _ := (show _ = F51 0 by simp [EX8, SX8, ue]).trans hE
    have hF0 := spX_go (n := 44) (ad1 := ad44) (E1 := EX8 cy 44 (ue F51 44 (.inr (8, [.null, vi 0]))) ad44) (by omega) (by decide) (fun j hj => (hag j (by omega)).trans (ue_ne (by omega))) (fun j hj => by unfold EX8 SX8; rw [if_neg (by omega), if_neg (by omega)]; exact ue_ne (by omega)) hF
    have hF : ∀ j, j ≠ 0 → j < 46 → EX8 cy 44 (ue F51 44 (.inr (8, [.null, vi 0]))) ad44 j = spX D cy ad44 j := fun j h0 hj => by
      rcases Nat.lt_or_ge j 44 with h9 | h9
      · exact hF0 j h0 h9
      · rcases (show j = 44 ∨ j = 45 by omega) with rfl | rfl
        · rfl
        · rfl
    have had : ∀ j, j < 1 → ad44 j = ad j := fun j hj => (hag j (by omega)).trans ((ue_ne (by omega)).trans (had j hj))
    have hq44 : ad44 44 = q44 := (hag 44 (by omega)).trans ue_self
    have hq1 : ad44 1 = q1 := (hag 1 (by omega)).trans ((ue_ne (by omega)).trans hq1)
    have hq8 : ad44 8 = q8 := (hag 8 (by omega)).trans ((ue_ne (by omega)).trans hq8)
    have hq17 : ad44 17 = q17 := (hag 17 (by omega)).trans ((ue_ne (by omega)).trans hq17)
    have hq20 : ad44 20 = q20 := (hag 20 (by omega)).trans ((ue_ne (by omega)).trans hq20)
    have hq24 : ad44 24 = q24 := (hag 24 (by omega)).trans ((ue_ne (by omega)).trans hq24)
    have hq28 : ad44 28 = q28 := (hag 28 (by omega)).trans ((ue_ne (by omega)).trans hq28)
    have hq32 : ad44 32 = q32 := (hag 32 (by omega)).trans ((ue_ne (by omega)).trans hq32)
    have hq37 : ad44 37 = q37 := (hag 37 (by omega)).trans ((ue_ne (by omega)).trans hq37)
    have hq39 : ad44 39 = q39 := (hag 39 (by omega)).trans ((ue_ne (by omega)).trans hq39)
    have hq41 : ad44 41 = q41 := (hag 41 (by omega)).trans ((ue_ne (by omega)).trans hq41)
    generalize hE9 : EX8 cy 44 (ue F51 44 (.inr (8, [.null, vi 0]))) ad44 = E44 at hM hE hF
    clear hE9 hF0 hag
    refine n_putF (ty := tyX11 10) C hnm hM 0 (had 0 (by omega)).symm (by omega) hE (C0 := RX11) (Tt := TX11) (N := 18) rfl inX11 tyX11 tyX11_ok nmX11 10 (by decide) q_fX11_78 rfl rfl (by decide +kernel) rfl rfl (Nat.le_of_ble_eq_true rfl) (kX11_init (i := 56) rfl) (fun H locs hM => ?_)
    obtain ⟨hE, hF⟩ := nw_put hF
    generalize hE9 : ue E44 0 _ = F56 at hM hE hF
    clear hE9
    refine lv_aload_n hx hb (kX11_init (i := 57) rfl) rfl (lv_at hl 0 rfl) ?_
    refine x_bipush hx hb (by decide) (kX11_init (i := 58) rfl) ?_
    refine n_newa (atype := .int) (N' := 7) (t := 0) (ty := .int) (a0 := (7, .inl (fun _ => Int32.ofInt 0))) C hM q_aI rfl rfl (fun _ _ h1 h2 => Option.some.inj (h1.symm.trans h2)) (fun _ => rfl) (by decide) (by decide) (by decide) (Nat.le_of_ble_eq_true rfl) (Nat.le_of_ble_eq_true rfl) (kX11_init (i := 59) rfl) (fun q46 H hM => ?_)
    have hF0 := spX_go (n := 46) (ad1 := ue ad44 46 q46) (E1 := ue F56 46 (.inl (cy 0, 7, .inl (fun _ => Int32.ofInt 0)))) (by omega) (by decide) (fun j hj => ue_ne (by omega)) (fun j hj => ue_ne (by omega)) hF
    have hF : ∀ j, j ≠ 0 → j < 47 → ue F56 46 (.inl (cy 0, 7, .inl (fun _ => Int32.ofInt 0))) j = spX D cy (ue ad44 46 q46) j := fun j h0 hj => by
      rcases Nat.lt_or_ge j 46 with h9 | h9
      · exact hF0 j h0 h9
      · rw [show j = 46 by omega, ue_self]; rfl
    have hE : ue F56 46 (.inl (cy 0, 7, .inl (fun _ => Int32.ofInt 0))) 0 = _ := (ue_ne (by omega)).trans hE
    have had : ∀ j, j < 1 → ue ad44 46 q46 j = ad j := fun j hj => (ue_ne (by omega)).trans (had j hj)
    have hq46 : ue ad44 46 q46 46 = q46 := ue_self
    have hq1 : ue ad44 46 q46 1 = q1 := (ue_ne (by omega)).trans hq1
    have hq8 : ue ad44 46 q46 8 = q8 := (ue_ne (by omega)).trans hq8
    have hq17 : ue ad44 46 q46 17 = q17 := (ue_ne (by omega)).trans hq17
    have hq20 : ue ad44 46 q46 20 = q20 := (ue_ne (by omega)).trans hq20
    have hq24 : ue ad44 46 q46 24 = q24 := (ue_ne (by omega)).trans hq24
    have hq28 : ue ad44 46 q46 28 = q28 := (ue_ne (by omega)).trans hq28
    have hq32 : ue ad44 46 q46 32 = q32 := (ue_ne (by omega)).trans hq32
    have hq37 : ue ad44 46 q46 37 = q37 := (ue_ne (by omega)).trans hq37
    have hq39 : ue ad44 46 q46 39 = q39 := (ue_ne (by omega)).trans hq39
    have hq41 : ue ad44 46 q46 41 = q41 := (ue_ne (by omega)).trans hq41
    have hq44 : ue ad44 46 q46 44 = q44 := (ue_ne (by omega)).trans hq44
    generalize hA9 : ue ad44 46 q46 = ad46 at hM hF had hq1 hq8 hq17 hq20 hq24 hq28 hq32 hq37 hq39 hq41 hq44 hq46
    generalize hE9 : ue F56 46 (.inl (cy 0, 7, .inl (fun _ => Int32.ofInt 0))) = E46 at hM hE hF
    clear hA9 hE9 hF0
    refine n_putF (ty := tyX11 11) C hnm hM 0 (had 0 (by omega)).symm (by omega) hE (C0 := RX11) (Tt := TX11) (N := 18) rfl inX11 tyX11 tyX11_ok nmX11 11 (by decide) q_fX11_84 rfl rfl (by decide +kernel) rfl rfl (Nat.le_of_ble_eq_true rfl) (kX11_init (i := 60) rfl) (fun H locs hM => ?_)
    obtain ⟨hE, hF⟩ := nw_put hF
    generalize hE9 : ue E46 0 _ = F60 at hM hE hF
    clear hE9
    refine lv_aload_n hx hb (kX11_init (i := 61) rfl) rfl (lv_at hl 0 rfl) ?_
    refine n_new (ci := 7) (fs := [.null, .null, .null, .null, vi 0]) (C0 := RX7) (Tt := TX7) (N := 5) C hM inX7 tyX7 tyX7_ok q_cl_X7 q_in_X7 q_n_X7 rfl (by decide +kernel) (Nat.le_of_ble_eq_true rfl) (Nat.le_of_ble_eq_true rfl) (kX11_init (i := 62) rfl) (fun q47 H hM => ?_)
    refine lv_dup hx hb (kX11_init (i := 63) rfl) rfl ?_
    refine n_callN (k := 47) C hM (nX7_init l D cy 47 _ _ ue_self) q_c_X7_init (List.mem_of_getElem? (i := 10) rfl) q_i_X7_init q_n_X7 rfl (by decide +kernel) ⟨by decide, by decide⟩ ⟨(Nat.le_of_ble_eq_true rfl), (Nat.le_of_ble_eq_true rfl)⟩ hl.1 (Nat.le_of_ble_eq_true rfl) (kX11_init (i := 64) rfl) (fun ad47 H locs hag hM => ?_)
    have hE : EX7 cy 47 (ue F60 47 (.inr (7, [.null, .null, .null, .null, vi 0]))) ad47 0 = _ := (show _ = F60 0 by simp [EX7, SX7, ue]).trans hE
    have hF0 := spX_go (n := 47) (ad1 := ad47) (E1 := EX7 cy 47 (ue F60 47 (.inr (7, [.null, .null, .null, .null, vi 0]))) ad47) (by omega) (by decide) (fun j hj => (hag j (by omega)).trans (ue_ne (by omega))) (fun j hj => by unfold EX7 SX7; rw [if_neg (by omega), if_neg (by omega), if_neg (by omega), if_neg (by omega), if_neg (by omega)]; exact ue_ne (by omega)) hF
    have hF : ∀ j, j ≠ 0 → j < 52 → EX7 cy 47 (ue F60 47 (.inr (7, [.null, .null, .null, .null, vi 0]))) ad47 j = spX D cy ad47 j := fun j h0 hj => by
      rcases Nat.lt_or_ge j 47 with h9 | h9
      · exact hF0 j h0 h9
      · rcases (show j = 47 ∨ j = 48 ∨ j = 49 ∨ j = 50 ∨ j = 51 by omega) with rfl | rfl | rfl | rfl | rfl
        · rfl
        · rfl
        · rfl
        · rfl
        · rfl
    have had : ∀ j, j < 1 → ad47 j = ad j := fun j hj => (hag j (by omega)).trans ((ue_ne (by omega)).trans (had j hj))
    have hq47 : ad47 47 = q47 := (hag 47 (by omega)).trans ue_self
    have hq1 : ad47 1 = q1 := (hag 1 (by omega)).trans ((ue_ne (by omega)).trans hq1)
    have hq8 : ad47 8 = q8 := (hag 8 (by omega)).trans ((ue_ne (by omega)).trans hq8)
    have hq17 : ad47 17 = q17 := (hag 17 (by omega)).trans ((ue_ne (by omega)).trans hq17)
    have hq20 : ad47 20 = q20 := (hag 20 (by omega)).trans ((ue_ne (by omega)).trans hq20)
    have hq24 : ad47 24 = q24 := (hag 24 (by omega)).trans ((ue_ne (by omega)).trans hq24)
    have hq28 : ad47 28 = q28 := (hag 28 (by omega)).trans ((ue_ne (by omega)).trans hq28)
    have hq32 : ad47 32 = q32 := (hag 32 (by omega)).trans ((ue_ne (by omega)).trans hq32)
    have hq37 : ad47 37 = q37 := (hag 37 (by omega)).trans ((ue_ne (by omega)).trans hq37)
    have hq39 : ad47 39 = q39 := (hag 39 (by omega)).trans ((ue_ne (by omega)).trans hq39)
    have hq41 : ad47 41 = q41 := (hag 41 (by omega)).trans ((ue_ne (by omega)).trans hq41)
    have hq44 : ad47 44 = q44 := (hag 44 (by omega)).trans ((ue_ne (by omega)).trans hq44)
    have hq46 : ad47 46 = q46 := (hag 46 (by omega)).trans ((ue_ne (by omega)).trans hq46)
    generalize hE9 : EX7 cy 47 (ue F60 47 (.inr (7, [.null, .null, .null, .null, vi 0]))) ad47 = E47 at hM hE hF
    clear hE9 hF0 hag
    refine n_put (ty := tyX11 12) C hM 0 (had 0 (by omega)).symm (by omega) hE (C0 := RX11) (Tt := TX11) (N := 18) rfl inX11 tyX11 tyX11_ok nmX11 12 (by decide) q_fX11_89 rfl (by decide +kernel) rfl rfl (Nat.le_of_ble_eq_true rfl) (kX11_init (i := 65) rfl) (fun H locs hM => ?_)
    obtain ⟨hE, hF⟩ := nw_put hF
    generalize hE9 : ue E47 0 _ = F65 at hM hE hF
    clear hE9
    refine lv_aload_n hx hb (kX11_init (i := 66) rfl) rfl (lv_at hl 0 rfl) ?_
    refine n_new (ci := 7) (fs := [.null, .null, .null, .null, vi 0]) (C0 := RX7) (Tt := TX7) (N := 5) C hM inX7 tyX7 tyX7_ok q_cl_X7 q_in_X7 q_n_X7 rfl (by decide +kernel) (Nat.le_of_ble_eq_true rfl) (Nat.le_of_ble_eq_true rfl) (kX11_init (i := 67) rfl) (fun q52 H hM => ?_)
    refine lv_dup hx hb (kX11_init (i := 68) rfl) rfl ?_
    refine n_callN (k := 52) C hM (nX7_init l D cy 52 _ _ ue_self) q_c_X7_init (List.mem_of_getElem? (i := 10) rfl) q_i_X7_init q_n_X7 rfl (by decide +kernel) ⟨by decide, by decide⟩ ⟨(Nat.le_of_ble_eq_true rfl), (Nat.le_of_ble_eq_true rfl)⟩ hl.1 (Nat.le_of_ble_eq_true rfl) (kX11_init (i := 69) rfl) (fun ad52 H locs hag hM => ?_)
    have hE : EX7 cy 52 (ue F65 52 (.inr (7, [.null, .null, .null, .null, vi 0]))) ad52 0 = _ := (show _ = F65 0 by simp [EX7, SX7, ue]).trans hE
    have hF0 := spX_go (n := 52) (ad1 := ad52) (E1 := EX7 cy 52 (ue F65 52 (.inr (7, [.null, .null, .null, .null, vi 0]))) ad52) (by omega) (by decide) (fun j hj => (hag j (by omega)).trans (ue_ne (by omega))) (fun j hj => by unfold EX7 SX7; rw [if_neg (by omega), if_neg (by omega), if_neg (by omega), if_neg (by omega), if_neg (by omega)]; exact ue_ne (by omega)) hF
    have hF : ∀ j, j ≠ 0 → j < 57 → EX7 cy 52 (ue F65 52 (.inr (7, [.null, .null, .null, .null, vi 0]))) ad52 j = spX D cy ad52 j := fun j h0 hj => by
      rcases Nat.lt_or_ge j 52 with h9 | h9
      · exact hF0 j h0 h9
      · rcases (show j = 52 ∨ j = 53 ∨ j = 54 ∨ j = 55 ∨ j = 56 by omega) with rfl | rfl | rfl | rfl | rfl
        · rfl
        · rfl
        · rfl
        · rfl
        · rfl
    have had : ∀ j, j < 1 → ad52 j = ad j := fun j hj => (hag j (by omega)).trans ((ue_ne (by omega)).trans (had j hj))
    have hq52 : ad52 52 = q52 := (hag 52 (by omega)).trans ue_self
    have hq1 : ad52 1 = q1 := (hag 1 (by omega)).trans ((ue_ne (by omega)).trans hq1)
    have hq8 : ad52 8 = q8 := (hag 8 (by omega)).trans ((ue_ne (by omega)).trans hq8)
    have hq17 : ad52 17 = q17 := (hag 17 (by omega)).trans ((ue_ne (by omega)).trans hq17)
    have hq20 : ad52 20 = q20 := (hag 20 (by omega)).trans ((ue_ne (by omega)).trans hq20)
    have hq24 : ad52 24 = q24 := (hag 24 (by omega)).trans ((ue_ne (by omega)).trans hq24)
    have hq28 : ad52 28 = q28 := (hag 28 (by omega)).trans ((ue_ne (by omega)).trans hq28)
    have hq32 : ad52 32 = q32 := (hag 32 (by omega)).trans ((ue_ne (by omega)).trans hq32)
    have hq37 : ad52 37 = q37 := (hag 37 (by omega)).trans ((ue_ne (by omega)).trans hq37)
    have hq39 : ad52 39 = q39 := (hag 39 (by omega)).trans ((ue_ne (by omega)).trans hq39)
    have hq41 : ad52 41 = q41 := (hag 41 (by omega)).trans ((ue_ne (by omega)).trans hq41)
    have hq44 : ad52 44 = q44 := (hag 44 (by omega)).trans ((ue_ne (by omega)).trans hq44)
    have hq46 : ad52 46 = q46 := (hag 46 (by omega)).trans ((ue_ne (by omega)).trans hq46)
    have hq47 : ad52 47 = q47 := (hag 47 (by omega)).trans ((ue_ne (by omega)).trans hq47)
    generalize hE9 : EX7 cy 52 (ue F65 52 (.inr (7, [.null, .null, .null, .null, vi 0]))) ad52 = E52 at hM hE hF
    clear hE9 hF0 hag
    refine n_put (ty := tyX11 13) C hM 0 (had 0 (by omega)).symm (by omega) hE (C0 := RX11) (Tt := TX11) (N := 18) rfl inX11 tyX11 tyX11_ok nmX11 13 (by decide) q_fX11_93 rfl (by decide +kernel) rfl rfl (Nat.le_of_ble_eq_true rfl) (kX11_init (i := 70) rfl) (fun H locs hM => ?_)
    obtain ⟨hE, hF⟩ := nw_put hF
    generalize hE9 : ue E52 0 _ = F70 at hM hE hF
    clear hE9
    refine lv_aload_n hx hb (kX11_init (i := 71) rfl) rfl (lv_at hl 0 rfl) ?_
    refine x_sipush hx hb (by decide) (kX11_init (i := 72) rfl) ?_
    refine n_put (ty := tyX11 14) C hM 0 (had 0 (by omega)).symm (by omega) hE (C0 := RX11) (Tt := TX11) (N := 18) rfl inX11 tyX11 tyX11_ok nmX11 14 (by decide) q_fX11_96 rfl (by decide +kernel) rfl rfl (Nat.le_of_ble_eq_true rfl) (kX11_init (i := 73) rfl) (fun H locs hM => ?_)
    obtain ⟨hE, hF⟩ := nw_put hF
    generalize hE9 : ue F70 0 _ = F73 at hM hE hF
    clear hE9
    refine lv_aload_n hx hb (kX11_init (i := 74) rfl) rfl (lv_at hl 0 rfl) ?_
    refine x_iconst hx hb (kX11_init (i := 75) rfl) ?_
    refine n_put (ty := tyX11 15) C hM 0 (had 0 (by omega)).symm (by omega) hE (C0 := RX11) (Tt := TX11) (N := 18) rfl inX11 tyX11 tyX11_ok nmX11 15 (by decide) q_fX11_100 rfl (by decide +kernel) rfl rfl (Nat.le_of_ble_eq_true rfl) (kX11_init (i := 76) rfl) (fun H locs hM => ?_)
    obtain ⟨hE, hF⟩ := nw_put hF
    generalize hE9 : ue F73 0 _ = F76 at hM hE hF
    clear hE9
    refine lv_aload_n hx hb (kX11_init (i := 77) rfl) rfl (lv_at hl 0 rfl) ?_
    refine x_iconst hx hb (kX11_init (i := 78) rfl) ?_
    refine n_put (ty := tyX11 16) C hM 0 (had 0 (by omega)).symm (by omega) hE (C0 := RX11) (Tt := TX11) (N := 18) rfl inX11 tyX11 tyX11_ok nmX11 16 (by decide) q_fX11_103 rfl (by decide +kernel) rfl rfl (Nat.le_of_ble_eq_true rfl) (kX11_init (i := 79) rfl) (fun H locs hM => ?_)
    obtain ⟨hE, hF⟩ := nw_put hF
    generalize hE9 : ue F76 0 _ = F79 at hM hE hF
    clear hE9
    refine lv_aload_n hx hb (kX11_init (i := 80) rfl) rfl (lv_at hl 0 rfl) ?_
    refine x_iconst hx hb (kX11_init (i := 81) rfl) ?_
    refine n_put (ty := tyX11 17) C hM 0 (had 0 (by omega)).symm (by omega) hE (C0 := RX11) (Tt := TX11) (N := 18) rfl inX11 tyX11 tyX11_ok nmX11 17 (by decide) q_fX11_106 rfl (by decide +kernel) rfl rfl (Nat.le_of_ble_eq_true rfl) (kX11_init (i := 82) rfl) (fun H locs hM => ?_)
    obtain ⟨hE, hF⟩ := nw_put hF
    generalize hE9 : ue F79 0 _ = F82 at hM hE hF
    clear hE9
    refine n_ret C hr hlk hM had (fun j hj => ?_) rfl rfl (kX11_init (i := 83) rfl)
    by_cases h1 : j = 0
    · subst h1; rw [hE]; simp [spX, eX_0, gX0, up, hq1, hq8, hq17, hq20, hq24, hq28, hq32, hq37, hq39, hq41, hq44, hq46, hq47, hq52]
    · exact hF j h1 hj
  exact key _ _ hM
