def hM0 : Mem := fun k j => if k = 0 then (if j = 22 then 1000 else if j = 23 then 1 else if j = 24 then 4 else if j = 44 then 16 else 0) else if k = 1 then sineF j else if k = 39 then (if j < 2 then -1 else 0) else if k = 43 then (if j < 2 then -1 else 0) else 0
def SM (D : va_G) (cy : Nat → ClassId) (E : Nat → va_E) (j : Nat) : va_E := if j < 57 then E j else eM (D, cy, fun _ => 0, fun _ => 0) (j - 57) (hM0 (j - 57))
def EM (D : va_G) (cy : Nat → ClassId) (E : Nat → va_E) (ad : Nat → Nat) (j : Nat) : va_E := if j < 57 then E j else eM (D, cy, fun k => ad k, fun k => ad (57 + k)) (j - 57) (hM0 (j - 57))
theorem eM_ad {D : va_G} {cy : Nat → ClassId} {a1 a2 b1 b2 : Nat → Nat} : ∀ j, j ≠ 0 → j < 50 → ∀ r, eM (D, cy, a1, a2) j r = eM (D, cy, b1, b2) j r
  | 0, h, _, _ => absurd rfl h
  | 1, _, _, _ => rfl
  | 2, _, _, _ => rfl
  | 3, _, _, _ => rfl
  | 4, _, _, _ => rfl
  | 5, _, _, _ => rfl
  | 6, _, _, _ => rfl
  | 7, _, _, _ => rfl
  | 8, _, _, _ => rfl
  | 9, _, _, _ => rfl
  | 10, _, _, _ => rfl
  | 11, _, _, _ => rfl
  | 12, _, _, _ => rfl
  | 13, _, _, _ => rfl
  | 14, _, _, _ => rfl
  | 15, _, _, _ => rfl
  | 16, _, _, _ => rfl
  | 17, _, _, _ => rfl
  | 18, _, _, _ => rfl
  | 19, _, _, _ => rfl
  | 20, _, _, _ => rfl
  | 21, _, _, _ => rfl
  | 22, _, _, _ => rfl
  | 23, _, _, _ => rfl
  | 24, _, _, _ => rfl
  | 25, _, _, _ => rfl
  | 26, _, _, _ => rfl
  | 27, _, _, _ => rfl
  | 28, _, _, _ => rfl
  | 29, _, _, _ => rfl
  | 30, _, _, _ => rfl
  | 31, _, _, _ => rfl
  | 32, _, _, _ => rfl
  | 33, _, _, _ => rfl
  | 34, _, _, _ => rfl
  | 35, _, _, _ => rfl
  | 36, _, _, _ => rfl
  | 37, _, _, _ => rfl
  | 38, _, _, _ => rfl
  | 39, _, _, _ => rfl
  | 40, _, _, _ => rfl
  | 41, _, _, _ => rfl
  | 42, _, _, _ => rfl
  | 43, _, _, _ => rfl
  | 44, _, _, _ => rfl
  | 45, _, _, _ => rfl
  | 46, _, _, _ => rfl
  | 47, _, _, _ => rfl
  | 48, _, _, _ => rfl
  | 49, _, _, _ => rfl
  | j + 50, _, h, _ => absurd h (by omega)
theorem ue_ue {α : Type} {E : Nat → α} {n : Nat} {a b : α} : ue (ue E n a) n b = ue E n b := by funext j; unfold ue; by_cases h : j = n <;> simp [h]
theorem ok_sines : (upd (upd (upd (upd (upd (upd (upd (upd (upd (upd (upd (upd (upd (upd (upd (upd (fun _ => Int32.ofInt 0) (wr 0).toNat (Int32.ofInt 0)) (wr 1).toNat (Int32.ofInt 383)) (wr 2).toNat (Int32.ofInt 707)) (wr 3).toNat (Int32.ofInt 924)) (wr 4).toNat (Int32.ofInt 1000)) (wr 5).toNat (Int32.ofInt 924)) (wr 6).toNat (Int32.ofInt 707)) (wr 7).toNat (Int32.ofInt 383)) (wr 8).toNat (Int32.ofInt 0)) (wr 9).toNat (Int32.ofInt (-383))) (wr 10).toNat (Int32.ofInt (-707))) (wr 11).toNat (Int32.ofInt (-924))) (wr 12).toNat (Int32.ofInt (-1000))) (wr 13).toNat (Int32.ofInt (-924))) (wr 14).toNat (Int32.ofInt (-707))) (wr 15).toNat (Int32.ofInt (-383))) = (fun j => Int32.ofInt (hM0 1 j)) := by
  funext j
  rcases (show j = 0 ∨ j = 1 ∨ j = 2 ∨ j = 3 ∨ j = 4 ∨ j = 5 ∨ j = 6 ∨ j = 7 ∨ j = 8 ∨ j = 9 ∨ j = 10 ∨ j = 11 ∨ j = 12 ∨ j = 13 ∨ j = 14 ∨ j = 15 ∨ 16 ≤ j by omega) with rfl | rfl | rfl | rfl | rfl | rfl | rfl | rfl | rfl | rfl | rfl | rfl | rfl | rfl | rfl | rfl | h
  · rfl
  · rfl
  · rfl
  · rfl
  · rfl
  · rfl
  · rfl
  · rfl
  · rfl
  · rfl
  · rfl
  · rfl
  · rfl
  · rfl
  · rfl
  · rfl
  · have h9 : ∀ i : Nat, i < 16 → (wr (i : Int)).toNat = i := by decide
    unfold upd
    rw [if_neg (by have h8 : (wr (15 : Int)).toNat = 15 := rfl; omega), if_neg (by have h8 : (wr (14 : Int)).toNat = 14 := rfl; omega), if_neg (by have h8 : (wr (13 : Int)).toNat = 13 := rfl; omega), if_neg (by have h8 : (wr (12 : Int)).toNat = 12 := rfl; omega), if_neg (by have h8 : (wr (11 : Int)).toNat = 11 := rfl; omega), if_neg (by have h8 : (wr (10 : Int)).toNat = 10 := rfl; omega), if_neg (by have h8 : (wr (9 : Int)).toNat = 9 := rfl; omega), if_neg (by have h8 : (wr (8 : Int)).toNat = 8 := rfl; omega), if_neg (by have h8 : (wr (7 : Int)).toNat = 7 := rfl; omega), if_neg (by have h8 : (wr (6 : Int)).toNat = 6 := rfl; omega), if_neg (by have h8 : (wr (5 : Int)).toNat = 5 := rfl; omega), if_neg (by have h8 : (wr (4 : Int)).toNat = 4 := rfl; omega), if_neg (by have h8 : (wr (3 : Int)).toNat = 3 := rfl; omega), if_neg (by have h8 : (wr (2 : Int)).toNat = 2 := rfl; omega), if_neg (by have h8 : (wr (1 : Int)).toNat = 1 := rfl; omega), if_neg (by have h8 : (wr (0 : Int)).toNat = 0 := rfl; omega)]
    simp [hM0, sineF, sines, List.getD, List.getElem?_eq_none (show ([0, 383, 707, 924, 1000, 924, 707, 383, 0, -383, -707, -924, -1000, -924, -707, -383] : List Int).length ≤ j from h)]
theorem ok_begin : (upd (upd (fun _ => Int32.ofInt 0) (wr 0).toNat (Int32.ofInt (-1))) (wr 1).toNat (Int32.ofInt (-1))) = (fun j => Int32.ofInt (hM0 39 j)) := by
  funext j
  rcases (show j = 0 ∨ j = 1 ∨ 2 ≤ j by omega) with rfl | rfl | h
  · rfl
  · rfl
  · have h9 : ∀ i : Nat, i < 2 → (wr (i : Int)).toNat = i := by decide
    unfold upd
    rw [if_neg (by have h8 : (wr (1 : Int)).toNat = 1 := rfl; omega), if_neg (by have h8 : (wr (0 : Int)).toNat = 0 := rfl; omega)]
    simp [hM0, show ¬ j < 2 from by omega]
theorem ok_rb : (upd (upd (fun _ => Int32.ofInt 0) (wr 0).toNat (Int32.ofInt (-1))) (wr 1).toNat (Int32.ofInt (-1))) = (fun j => Int32.ofInt (hM0 43 j)) := by
  funext j
  rcases (show j = 0 ∨ j = 1 ∨ 2 ≤ j by omega) with rfl | rfl | h
  · rfl
  · rfl
  · have h9 : ∀ i : Nat, i < 2 → (wr (i : Int)).toNat = i := by decide
    unfold upd
    rw [if_neg (by have h8 : (wr (1 : Int)).toNat = 1 := rfl; omega), if_neg (by have h8 : (wr (0 : Int)).toNat = 0 := rfl; omega)]
    simp [hM0, show ¬ j < 2 from by omega]
set_option maxRecDepth 100000 in
set_option maxHeartbeats 16000000 in
theorem nX12_init (l : Launch) (D : va_G) (cy : Nat → ClassId) (ad : Nat → Nat) (E : Nat → va_E) (hE : E 57 = .inr (12, [.null, vi 0, .null, .null, vi 0, .null, .null, .null, .null, .null, vi 0, .null, .null, .null, .null, vi 0, .null, .null, vi 0, .null, .null, .null, vi 0, vi 0, vi 0, vi 0, vi 0, .null, .null, .null, .null, .null, .null, .null, .null, .null, .null, .null, .null, .null, .null, vi 0, .null, .null, vi 0, vi 0, .null, .null, vi 0, vi 0, vi 0, vi 0, vi 0, .null, vi 0, vi 0, vi 0, .null, .null, vi 0, .null, .null, .null, .null, .null, .null, vi 0, vl 0, .null, .null, vi 0, .null, .null, vi 0, .null])) : Nt l yX12_init cX12_init 1 49 6566 12 D cy 57 58 107 ad E (EM D cy E) := by
  refine n_start (by decide) ?_
  intro p e s m args below meth c ls C hnm hr hlk hM hl
  have hx := C.1
  have hb := C.2.1
  have key : ∀ (H : Heap) (locs : List Loc), Hn D (Ap ad 58 s.heap.size) s.heap ad 58 E H locs → W p l e { frames := 1, cells := 49, slots := 6566, locals := 12 } s m args below meth c H locs 0 0 (MQ below (QN D ad 58 s.heap.size 107 (EM D cy E)) args s 49 6566 (Ap ad 58 s.heap.size)) (F0 m 0 ls []) := by
    intro H locs hM
    have hF : ∀ j, j ≠ 57 → j < 58 → E j = SM D cy E j := fun j h1 h2 => by unfold SM; rw [if_pos (by omega)]
    have had : ∀ j, j < 58 → ad j = ad j := fun _ _ => rfl
    obtain ⟨E0, hE0⟩ : ∃ z, z = E := ⟨_, rfl⟩
    refine lv_aload_n hx hb (kX12_init (i := 0) rfl) rfl (lv_at hl 0 rfl) ?_
    refine n_obj C hl.1 q_mX12_1 (Nat.le_of_ble_eq_true rfl) (Nat.le_of_ble_eq_true rfl) (kX12_init (i := 1) rfl) ?_
    refine lv_aload_n hx hb (kX12_init (i := 2) rfl) rfl (lv_at hl 0 rfl) ?_
    refine x_bipush hx hb (by decide) (kX12_init (i := 3) rfl) ?_
    refine n_newa (atype := .int) (N' := 16) (t := 0) (ty := .int) (a0 := (16, .inl (fun _ => Int32.ofInt 0))) C hM q_aI rfl rfl (fun _ _ h1 h2 => Option.some.inj (h1.symm.trans h2)) (fun _ => rfl) (by decide) (by decide) (by decide) (Nat.le_of_ble_eq_true rfl) (Nat.le_of_ble_eq_true rfl) (kX12_init (i := 4) rfl) (fun q1 H hM => ?_)
    refine lv_dup hx hb (kX12_init (i := 5) rfl) rfl ?_
    refine x_iconst hx hb (kX12_init (i := 6) rfl) ?_
    refine x_iconst hx hb (kX12_init (i := 7) rfl) ?_
    refine n_iast (i := 0) C hM 58 (a := q1) ue_self.symm (by omega) ue_self (by decide) (kX12_init (i := 8) rfl) (fun H locs hM => ?_)
    rw [ue_ue] at hM
    refine lv_dup hx hb (kX12_init (i := 9) rfl) rfl ?_
    refine x_iconst hx hb (kX12_init (i := 10) rfl) ?_
    refine x_sipush hx hb (by decide) (kX12_init (i := 11) rfl) ?_
    refine n_iast (i := 1) C hM 58 (a := q1) ue_self.symm (by omega) ue_self (by decide) (kX12_init (i := 12) rfl) (fun H locs hM => ?_)
    rw [ue_ue] at hM
    refine lv_dup hx hb (kX12_init (i := 13) rfl) rfl ?_
    refine x_iconst hx hb (kX12_init (i := 14) rfl) ?_
    refine x_sipush hx hb (by decide) (kX12_init (i := 15) rfl) ?_
    refine n_iast (i := 2) C hM 58 (a := q1) ue_self.symm (by omega) ue_self (by decide) (kX12_init (i := 16) rfl) (fun H locs hM => ?_)
    rw [ue_ue] at hM
    refine lv_dup hx hb (kX12_init (i := 17) rfl) rfl ?_
    refine x_iconst hx hb (kX12_init (i := 18) rfl) ?_
    refine x_sipush hx hb (by decide) (kX12_init (i := 19) rfl) ?_
    refine n_iast (i := 3) C hM 58 (a := q1) ue_self.symm (by omega) ue_self (by decide) (kX12_init (i := 20) rfl) (fun H locs hM => ?_)
    rw [ue_ue] at hM
    refine lv_dup hx hb (kX12_init (i := 21) rfl) rfl ?_
    refine x_iconst hx hb (kX12_init (i := 22) rfl) ?_
    refine x_sipush hx hb (by decide) (kX12_init (i := 23) rfl) ?_
    refine n_iast (i := 4) C hM 58 (a := q1) ue_self.symm (by omega) ue_self (by decide) (kX12_init (i := 24) rfl) (fun H locs hM => ?_)
    rw [ue_ue] at hM
    refine lv_dup hx hb (kX12_init (i := 25) rfl) rfl ?_
    refine x_iconst hx hb (kX12_init (i := 26) rfl) ?_
    refine x_sipush hx hb (by decide) (kX12_init (i := 27) rfl) ?_
    refine n_iast (i := 5) C hM 58 (a := q1) ue_self.symm (by omega) ue_self (by decide) (kX12_init (i := 28) rfl) (fun H locs hM => ?_)
    rw [ue_ue] at hM
    refine lv_dup hx hb (kX12_init (i := 29) rfl) rfl ?_
    refine x_bipush hx hb (by decide) (kX12_init (i := 30) rfl) ?_
    refine x_sipush hx hb (by decide) (kX12_init (i := 31) rfl) ?_
    refine n_iast (i := 6) C hM 58 (a := q1) ue_self.symm (by omega) ue_self (by decide) (kX12_init (i := 32) rfl) (fun H locs hM => ?_)
    rw [ue_ue] at hM
    refine lv_dup hx hb (kX12_init (i := 33) rfl) rfl ?_
    refine x_bipush hx hb (by decide) (kX12_init (i := 34) rfl) ?_
    refine x_sipush hx hb (by decide) (kX12_init (i := 35) rfl) ?_
    refine n_iast (i := 7) C hM 58 (a := q1) ue_self.symm (by omega) ue_self (by decide) (kX12_init (i := 36) rfl) (fun H locs hM => ?_)
    rw [ue_ue] at hM
    refine lv_dup hx hb (kX12_init (i := 37) rfl) rfl ?_
    refine x_bipush hx hb (by decide) (kX12_init (i := 38) rfl) ?_
    refine x_iconst hx hb (kX12_init (i := 39) rfl) ?_
    refine n_iast (i := 8) C hM 58 (a := q1) ue_self.symm (by omega) ue_self (by decide) (kX12_init (i := 40) rfl) (fun H locs hM => ?_)
    rw [ue_ue] at hM
    refine lv_dup hx hb (kX12_init (i := 41) rfl) rfl ?_
    refine x_bipush hx hb (by decide) (kX12_init (i := 42) rfl) ?_
    refine x_sipush hx hb (by decide) (kX12_init (i := 43) rfl) ?_
    refine n_iast (i := 9) C hM 58 (a := q1) ue_self.symm (by omega) ue_self (by decide) (kX12_init (i := 44) rfl) (fun H locs hM => ?_)
    rw [ue_ue] at hM
    refine lv_dup hx hb (kX12_init (i := 45) rfl) rfl ?_
    refine x_bipush hx hb (by decide) (kX12_init (i := 46) rfl) ?_
    refine x_sipush hx hb (by decide) (kX12_init (i := 47) rfl) ?_
    refine n_iast (i := 10) C hM 58 (a := q1) ue_self.symm (by omega) ue_self (by decide) (kX12_init (i := 48) rfl) (fun H locs hM => ?_)
    rw [ue_ue] at hM
    refine lv_dup hx hb (kX12_init (i := 49) rfl) rfl ?_
    refine x_bipush hx hb (by decide) (kX12_init (i := 50) rfl) ?_
    refine x_sipush hx hb (by decide) (kX12_init (i := 51) rfl) ?_
    refine n_iast (i := 11) C hM 58 (a := q1) ue_self.symm (by omega) ue_self (by decide) (kX12_init (i := 52) rfl) (fun H locs hM => ?_)
    rw [ue_ue] at hM
    refine lv_dup hx hb (kX12_init (i := 53) rfl) rfl ?_
    refine x_bipush hx hb (by decide) (kX12_init (i := 54) rfl) ?_
    refine x_sipush hx hb (by decide) (kX12_init (i := 55) rfl) ?_
    refine n_iast (i := 12) C hM 58 (a := q1) ue_self.symm (by omega) ue_self (by decide) (kX12_init (i := 56) rfl) (fun H locs hM => ?_)
    rw [ue_ue] at hM
    refine lv_dup hx hb (kX12_init (i := 57) rfl) rfl ?_
    refine x_bipush hx hb (by decide) (kX12_init (i := 58) rfl) ?_
    refine x_sipush hx hb (by decide) (kX12_init (i := 59) rfl) ?_
    refine n_iast (i := 13) C hM 58 (a := q1) ue_self.symm (by omega) ue_self (by decide) (kX12_init (i := 60) rfl) (fun H locs hM => ?_)
    rw [ue_ue] at hM
    refine lv_dup hx hb (kX12_init (i := 61) rfl) rfl ?_
    refine x_bipush hx hb (by decide) (kX12_init (i := 62) rfl) ?_
    refine x_sipush hx hb (by decide) (kX12_init (i := 63) rfl) ?_
    refine n_iast (i := 14) C hM 58 (a := q1) ue_self.symm (by omega) ue_self (by decide) (kX12_init (i := 64) rfl) (fun H locs hM => ?_)
    rw [ue_ue] at hM
    refine lv_dup hx hb (kX12_init (i := 65) rfl) rfl ?_
    refine x_bipush hx hb (by decide) (kX12_init (i := 66) rfl) ?_
    refine x_sipush hx hb (by decide) (kX12_init (i := 67) rfl) ?_
    refine n_iast (i := 15) C hM 58 (a := q1) ue_self.symm (by omega) ue_self (by decide) (kX12_init (i := 68) rfl) (fun H locs hM => ?_)
    rw [ue_ue] at hM
    rw [ok_sines] at hM
    obtain ⟨hE, hF⟩ := nw_new (e1 := .inl (cy 0, 16, .inl (fun j => Int32.ofInt (hM0 1 j)))) (by omega) hE hF (show _ = SM D cy E 58 from rfl)
    have had := nw_ad (q := q1) (n := 58) (by omega) had
    generalize hE9 : ue E 58 _ = G68 at hM hE hF
    clear hE9
    refine n_putF (ty := tyX12 0) C hnm hM 57 (had 57 (by omega)).symm (by omega) hE (C0 := RX12) (Tt := TX12) (N := 75) rfl inX12 tyX12 tyX12_ok nmX12 0 (by decide) q_fX12_7 rfl rfl (by decide +kernel) rfl rfl (Nat.le_of_ble_eq_true rfl) (kX12_init (i := 69) rfl) (fun H locs hM => ?_)
    obtain ⟨hE, hF⟩ := nw_put hF
    generalize hE9 : ue G68 57 _ = G69 at hM hE hF
    clear hE9
    have hE : G69 57 = .inr (12, [.ref q1, vi 0, .null, .null, vi 0, .null, .null, .null, .null, .null, vi 0, .null, .null, .null, .null, vi 0, .null, .null, vi 0, .null, .null, .null, vi 0, vi 0, vi 0, vi 0, vi 0, .null, .null, .null, .null, .null, .null, .null, .null, .null, .null, .null, .null, .null, .null, vi 0, .null, .null, vi 0, vi 0, .null, .null, vi 0, vi 0, vi 0, vi 0, vi 0, .null, vi 0, vi 0, vi 0, .null, .null, vi 0, .null, .null, .null, .null, .null, .null, vi 0, vl 0, .null, .null, vi 0, .null, .null, vi 0, .null]) := hE
    refine lv_aload_n hx hb (kX12_init (i := 70) rfl) rfl (lv_at hl 0 rfl) ?_
    refine x_bipush hx hb (by decide) (kX12_init (i := 71) rfl) ?_
    refine n_newa (atype := .int) (N' := 6) (t := 0) (ty := .int) (a0 := (6, .inl (fun _ => Int32.ofInt 0))) C hM q_aI rfl rfl (fun _ _ h1 h2 => Option.some.inj (h1.symm.trans h2)) (fun _ => rfl) (by decide) (by decide) (by decide) (Nat.le_of_ble_eq_true rfl) (Nat.le_of_ble_eq_true rfl) (kX12_init (i := 72) rfl) (fun q2 H hM => ?_)
    obtain ⟨hE, hF⟩ := nw_new (e1 := .inl (cy 0, 6, .inl (fun _ => Int32.ofInt 0))) (by omega) hE hF (show _ = SM D cy E 59 from rfl)
    have had := nw_ad (q := q2) (n := 59) (by omega) had
    generalize hE9 : ue G69 59 _ = G72 at hM hE hF
    clear hE9
    refine n_putF (ty := tyX12 2) C hnm hM 57 (had 57 (by omega)).symm (by omega) hE (C0 := RX12) (Tt := TX12) (N := 75) rfl inX12 tyX12 tyX12_ok nmX12 2 (by decide) q_fX12_13 rfl rfl (by decide +kernel) rfl rfl (Nat.le_of_ble_eq_true rfl) (kX12_init (i := 73) rfl) (fun H locs hM => ?_)
    obtain ⟨hE, hF⟩ := nw_put hF
    generalize hE9 : ue G72 57 _ = G73 at hM hE hF
    clear hE9
    have hE : G73 57 = .inr (12, [.ref q1, vi 0, .ref q2, .null, vi 0, .null, .null, .null, .null, .null, vi 0, .null, .null, .null, .null, vi 0, .null, .null, vi 0, .null, .null, .null, vi 0, vi 0, vi 0, vi 0, vi 0, .null, .null, .null, .null, .null, .null, .null, .null, .null, .null, .null, .null, .null, .null, vi 0, .null, .null, vi 0, vi 0, .null, .null, vi 0, vi 0, vi 0, vi 0, vi 0, .null, vi 0, vi 0, vi 0, .null, .null, vi 0, .null, .null, .null, .null, .null, .null, vi 0, vl 0, .null, .null, vi 0, .null, .null, vi 0, .null]) := hE
    refine lv_aload_n hx hb (kX12_init (i := 74) rfl) rfl (lv_at hl 0 rfl) ?_
    refine x_bipush hx hb (by decide) (kX12_init (i := 75) rfl) ?_
    refine n_newa (atype := .int) (N' := 60) (t := 0) (ty := .int) (a0 := (60, .inl (fun _ => Int32.ofInt 0))) C hM q_aI rfl rfl (fun _ _ h1 h2 => Option.some.inj (h1.symm.trans h2)) (fun _ => rfl) (by decide) (by decide) (by decide) (Nat.le_of_ble_eq_true rfl) (Nat.le_of_ble_eq_true rfl) (kX12_init (i := 76) rfl) (fun q3 H hM => ?_)
    obtain ⟨hE, hF⟩ := nw_new (e1 := .inl (cy 0, 60, .inl (fun _ => Int32.ofInt 0))) (by omega) hE hF (show _ = SM D cy E 60 from rfl)
    have had := nw_ad (q := q3) (n := 60) (by omega) had
    generalize hE9 : ue G73 60 _ = G76 at hM hE hF
    clear hE9
    refine n_putF (ty := tyX12 3) C hnm hM 57 (had 57 (by omega)).symm (by omega) hE (C0 := RX12) (Tt := TX12) (N := 75) rfl inX12 tyX12 tyX12_ok nmX12 3 (by decide) q_fX12_16 rfl rfl (by decide +kernel) rfl rfl (Nat.le_of_ble_eq_true rfl) (kX12_init (i := 77) rfl) (fun H locs hM => ?_)
    obtain ⟨hE, hF⟩ := nw_put hF
    generalize hE9 : ue G76 57 _ = G77 at hM hE hF
    clear hE9
    have hE : G77 57 = .inr (12, [.ref q1, vi 0, .ref q2, .ref q3, vi 0, .null, .null, .null, .null, .null, vi 0, .null, .null, .null, .null, vi 0, .null, .null, vi 0, .null, .null, .null, vi 0, vi 0, vi 0, vi 0, vi 0, .null, .null, .null, .null, .null, .null, .null, .null, .null, .null, .null, .null, .null, .null, vi 0, .null, .null, vi 0, vi 0, .null, .null, vi 0, vi 0, vi 0, vi 0, vi 0, .null, vi 0, vi 0, vi 0, .null, .null, vi 0, .null, .null, .null, .null, .null, .null, vi 0, vl 0, .null, .null, vi 0, .null, .null, vi 0, .null]) := hE
    refine lv_aload_n hx hb (kX12_init (i := 78) rfl) rfl (lv_at hl 0 rfl) ?_
    refine x_bipush hx hb (by decide) (kX12_init (i := 79) rfl) ?_
    refine n_newa (atype := .int) (N' := 12) (t := 0) (ty := .int) (a0 := (12, .inl (fun _ => Int32.ofInt 0))) C hM q_aI rfl rfl (fun _ _ h1 h2 => Option.some.inj (h1.symm.trans h2)) (fun _ => rfl) (by decide) (by decide) (by decide) (Nat.le_of_ble_eq_true rfl) (Nat.le_of_ble_eq_true rfl) (kX12_init (i := 80) rfl) (fun q4 H hM => ?_)
    obtain ⟨hE, hF⟩ := nw_new (e1 := .inl (cy 0, 12, .inl (fun _ => Int32.ofInt 0))) (by omega) hE hF (show _ = SM D cy E 61 from rfl)
    have had := nw_ad (q := q4) (n := 61) (by omega) had
    generalize hE9 : ue G77 61 _ = G80 at hM hE hF
    clear hE9
    refine n_putF (ty := tyX12 5) C hnm hM 57 (had 57 (by omega)).symm (by omega) hE (C0 := RX12) (Tt := TX12) (N := 75) rfl inX12 tyX12 tyX12_ok nmX12 5 (by decide) q_fX12_19 rfl rfl (by decide +kernel) rfl rfl (Nat.le_of_ble_eq_true rfl) (kX12_init (i := 81) rfl) (fun H locs hM => ?_)
    obtain ⟨hE, hF⟩ := nw_put hF
    generalize hE9 : ue G80 57 _ = G81 at hM hE hF
    clear hE9
    have hE : G81 57 = .inr (12, [.ref q1, vi 0, .ref q2, .ref q3, vi 0, .ref q4, .null, .null, .null, .null, vi 0, .null, .null, .null, .null, vi 0, .null, .null, vi 0, .null, .null, .null, vi 0, vi 0, vi 0, vi 0, vi 0, .null, .null, .null, .null, .null, .null, .null, .null, .null, .null, .null, .null, .null, .null, vi 0, .null, .null, vi 0, vi 0, .null, .null, vi 0, vi 0, vi 0, vi 0, vi 0, .null, vi 0, vi 0, vi 0, .null, .null, vi 0, .null, .null, .null, .null, .null, .null, vi 0, vl 0, .null, .null, vi 0, .null, .null, vi 0, .null]) := hE
    refine lv_aload_n hx hb (kX12_init (i := 82) rfl) rfl (lv_at hl 0 rfl) ?_
    refine x_bipush hx hb (by decide) (kX12_init (i := 83) rfl) ?_
    refine n_newa (atype := .int) (N' := 12) (t := 0) (ty := .int) (a0 := (12, .inl (fun _ => Int32.ofInt 0))) C hM q_aI rfl rfl (fun _ _ h1 h2 => Option.some.inj (h1.symm.trans h2)) (fun _ => rfl) (by decide) (by decide) (by decide) (Nat.le_of_ble_eq_true rfl) (Nat.le_of_ble_eq_true rfl) (kX12_init (i := 84) rfl) (fun q5 H hM => ?_)
    obtain ⟨hE, hF⟩ := nw_new (e1 := .inl (cy 0, 12, .inl (fun _ => Int32.ofInt 0))) (by omega) hE hF (show _ = SM D cy E 62 from rfl)
    have had := nw_ad (q := q5) (n := 62) (by omega) had
    generalize hE9 : ue G81 62 _ = G84 at hM hE hF
    clear hE9
    refine n_putF (ty := tyX12 6) C hnm hM 57 (had 57 (by omega)).symm (by omega) hE (C0 := RX12) (Tt := TX12) (N := 75) rfl inX12 tyX12 tyX12_ok nmX12 6 (by decide) q_fX12_22 rfl rfl (by decide +kernel) rfl rfl (Nat.le_of_ble_eq_true rfl) (kX12_init (i := 85) rfl) (fun H locs hM => ?_)
    obtain ⟨hE, hF⟩ := nw_put hF
    generalize hE9 : ue G84 57 _ = G85 at hM hE hF
    clear hE9
    have hE : G85 57 = .inr (12, [.ref q1, vi 0, .ref q2, .ref q3, vi 0, .ref q4, .ref q5, .null, .null, .null, vi 0, .null, .null, .null, .null, vi 0, .null, .null, vi 0, .null, .null, .null, vi 0, vi 0, vi 0, vi 0, vi 0, .null, .null, .null, .null, .null, .null, .null, .null, .null, .null, .null, .null, .null, .null, vi 0, .null, .null, vi 0, vi 0, .null, .null, vi 0, vi 0, vi 0, vi 0, vi 0, .null, vi 0, vi 0, vi 0, .null, .null, vi 0, .null, .null, .null, .null, .null, .null, vi 0, vl 0, .null, .null, vi 0, .null, .null, vi 0, .null]) := hE
    refine lv_aload_n hx hb (kX12_init (i := 86) rfl) rfl (lv_at hl 0 rfl) ?_
    refine x_bipush hx hb (by decide) (kX12_init (i := 87) rfl) ?_
    refine n_newa (atype := .int) (N' := 12) (t := 0) (ty := .int) (a0 := (12, .inl (fun _ => Int32.ofInt 0))) C hM q_aI rfl rfl (fun _ _ h1 h2 => Option.some.inj (h1.symm.trans h2)) (fun _ => rfl) (by decide) (by decide) (by decide) (Nat.le_of_ble_eq_true rfl) (Nat.le_of_ble_eq_true rfl) (kX12_init (i := 88) rfl) (fun q6 H hM => ?_)
    obtain ⟨hE, hF⟩ := nw_new (e1 := .inl (cy 0, 12, .inl (fun _ => Int32.ofInt 0))) (by omega) hE hF (show _ = SM D cy E 63 from rfl)
    have had := nw_ad (q := q6) (n := 63) (by omega) had
    generalize hE9 : ue G85 63 _ = G88 at hM hE hF
    clear hE9
    refine n_putF (ty := tyX12 7) C hnm hM 57 (had 57 (by omega)).symm (by omega) hE (C0 := RX12) (Tt := TX12) (N := 75) rfl inX12 tyX12 tyX12_ok nmX12 7 (by decide) q_fX12_25 rfl rfl (by decide +kernel) rfl rfl (Nat.le_of_ble_eq_true rfl) (kX12_init (i := 89) rfl) (fun H locs hM => ?_)
    obtain ⟨hE, hF⟩ := nw_put hF
    generalize hE9 : ue G88 57 _ = G89 at hM hE hF
    clear hE9
    have hE : G89 57 = .inr (12, [.ref q1, vi 0, .ref q2, .ref q3, vi 0, .ref q4, .ref q5, .ref q6, .null, .null, vi 0, .null, .null, .null, .null, vi 0, .null, .null, vi 0, .null, .null, .null, vi 0, vi 0, vi 0, vi 0, vi 0, .null, .null, .null, .null, .null, .null, .null, .null, .null, .null, .null, .null, .null, .null, vi 0, .null, .null, vi 0, vi 0, .null, .null, vi 0, vi 0, vi 0, vi 0, vi 0, .null, vi 0, vi 0, vi 0, .null, .null, vi 0, .null, .null, .null, .null, .null, .null, vi 0, vl 0, .null, .null, vi 0, .null, .null, vi 0, .null]) := hE
    refine lv_aload_n hx hb (kX12_init (i := 90) rfl) rfl (lv_at hl 0 rfl) ?_
    refine x_bipush hx hb (by decide) (kX12_init (i := 91) rfl) ?_
    refine n_newa (atype := .int) (N' := 12) (t := 0) (ty := .int) (a0 := (12, .inl (fun _ => Int32.ofInt 0))) C hM q_aI rfl rfl (fun _ _ h1 h2 => Option.some.inj (h1.symm.trans h2)) (fun _ => rfl) (by decide) (by decide) (by decide) (Nat.le_of_ble_eq_true rfl) (Nat.le_of_ble_eq_true rfl) (kX12_init (i := 92) rfl) (fun q7 H hM => ?_)
    obtain ⟨hE, hF⟩ := nw_new (e1 := .inl (cy 0, 12, .inl (fun _ => Int32.ofInt 0))) (by omega) hE hF (show _ = SM D cy E 64 from rfl)
    have had := nw_ad (q := q7) (n := 64) (by omega) had
    generalize hE9 : ue G89 64 _ = G92 at hM hE hF
    clear hE9
    refine n_putF (ty := tyX12 8) C hnm hM 57 (had 57 (by omega)).symm (by omega) hE (C0 := RX12) (Tt := TX12) (N := 75) rfl inX12 tyX12 tyX12_ok nmX12 8 (by decide) q_fX12_28 rfl rfl (by decide +kernel) rfl rfl (Nat.le_of_ble_eq_true rfl) (kX12_init (i := 93) rfl) (fun H locs hM => ?_)
    obtain ⟨hE, hF⟩ := nw_put hF
    generalize hE9 : ue G92 57 _ = G93 at hM hE hF
    clear hE9
    have hE : G93 57 = .inr (12, [.ref q1, vi 0, .ref q2, .ref q3, vi 0, .ref q4, .ref q5, .ref q6, .ref q7, .null, vi 0, .null, .null, .null, .null, vi 0, .null, .null, vi 0, .null, .null, .null, vi 0, vi 0, vi 0, vi 0, vi 0, .null, .null, .null, .null, .null, .null, .null, .null, .null, .null, .null, .null, .null, .null, vi 0, .null, .null, vi 0, vi 0, .null, .null, vi 0, vi 0, vi 0, vi 0, vi 0, .null, vi 0, vi 0, vi 0, .null, .null, vi 0, .null, .null, .null, .null, .null, .null, vi 0, vl 0, .null, .null, vi 0, .null, .null, vi 0, .null]) := hE
    refine lv_aload_n hx hb (kX12_init (i := 94) rfl) rfl (lv_at hl 0 rfl) ?_
    refine x_bipush hx hb (by decide) (kX12_init (i := 95) rfl) ?_
    refine n_newa (atype := .boolean) (N' := 12) (t := 3) (ty := .boolean) (a0 := (12, .inl (fun _ => Int32.ofInt 0))) C hM q_aZ rfl rfl (fun _ _ h1 h2 => Option.some.inj (h1.symm.trans h2)) (fun _ => rfl) (by decide) (by decide) (by decide) (Nat.le_of_ble_eq_true rfl) (Nat.le_of_ble_eq_true rfl) (kX12_init (i := 96) rfl) (fun q8 H hM => ?_)
    obtain ⟨hE, hF⟩ := nw_new (e1 := .inl (cy 3, 12, .inl (fun _ => Int32.ofInt 0))) (by omega) hE hF (show _ = SM D cy E 65 from rfl)
    have had := nw_ad (q := q8) (n := 65) (by omega) had
    generalize hE9 : ue G93 65 _ = G96 at hM hE hF
    clear hE9
    refine n_putF (ty := tyX12 9) C hnm hM 57 (had 57 (by omega)).symm (by omega) hE (C0 := RX12) (Tt := TX12) (N := 75) rfl inX12 tyX12 tyX12_ok nmX12 9 (by decide) q_fX12_31 rfl rfl (by decide +kernel) rfl rfl (Nat.le_of_ble_eq_true rfl) (kX12_init (i := 97) rfl) (fun H locs hM => ?_)
    obtain ⟨hE, hF⟩ := nw_put hF
    generalize hE9 : ue G96 57 _ = G97 at hM hE hF
    clear hE9
    have hE : G97 57 = .inr (12, [.ref q1, vi 0, .ref q2, .ref q3, vi 0, .ref q4, .ref q5, .ref q6, .ref q7, .ref q8, vi 0, .null, .null, .null, .null, vi 0, .null, .null, vi 0, .null, .null, .null, vi 0, vi 0, vi 0, vi 0, vi 0, .null, .null, .null, .null, .null, .null, .null, .null, .null, .null, .null, .null, .null, .null, vi 0, .null, .null, vi 0, vi 0, .null, .null, vi 0, vi 0, vi 0, vi 0, vi 0, .null, vi 0, vi 0, vi 0, .null, .null, vi 0, .null, .null, .null, .null, .null, .null, vi 0, vl 0, .null, .null, vi 0, .null, .null, vi 0, .null]) := hE
    refine lv_aload_n hx hb (kX12_init (i := 98) rfl) rfl (lv_at hl 0 rfl) ?_
    refine x_iconst hx hb (kX12_init (i := 99) rfl) ?_
    refine n_newa (atype := .int) (N' := 4) (t := 0) (ty := .int) (a0 := (4, .inl (fun _ => Int32.ofInt 0))) C hM q_aI rfl rfl (fun _ _ h1 h2 => Option.some.inj (h1.symm.trans h2)) (fun _ => rfl) (by decide) (by decide) (by decide) (Nat.le_of_ble_eq_true rfl) (Nat.le_of_ble_eq_true rfl) (kX12_init (i := 100) rfl) (fun q9 H hM => ?_)
    obtain ⟨hE, hF⟩ := nw_new (e1 := .inl (cy 0, 4, .inl (fun _ => Int32.ofInt 0))) (by omega) hE hF (show _ = SM D cy E 66 from rfl)
    have had := nw_ad (q := q9) (n := 66) (by omega) had
    generalize hE9 : ue G97 66 _ = G100 at hM hE hF
    clear hE9
    refine n_putF (ty := tyX12 11) C hnm hM 57 (had 57 (by omega)).symm (by omega) hE (C0 := RX12) (Tt := TX12) (N := 75) rfl inX12 tyX12 tyX12_ok nmX12 11 (by decide) q_fX12_35 rfl rfl (by decide +kernel) rfl rfl (Nat.le_of_ble_eq_true rfl) (kX12_init (i := 101) rfl) (fun H locs hM => ?_)
    obtain ⟨hE, hF⟩ := nw_put hF
    generalize hE9 : ue G100 57 _ = G101 at hM hE hF
    clear hE9
    have hE : G101 57 = .inr (12, [.ref q1, vi 0, .ref q2, .ref q3, vi 0, .ref q4, .ref q5, .ref q6, .ref q7, .ref q8, vi 0, .ref q9, .null, .null, .null, vi 0, .null, .null, vi 0, .null, .null, .null, vi 0, vi 0, vi 0, vi 0, vi 0, .null, .null, .null, .null, .null, .null, .null, .null, .null, .null, .null, .null, .null, .null, vi 0, .null, .null, vi 0, vi 0, .null, .null, vi 0, vi 0, vi 0, vi 0, vi 0, .null, vi 0, vi 0, vi 0, .null, .null, vi 0, .null, .null, .null, .null, .null, .null, vi 0, vl 0, .null, .null, vi 0, .null, .null, vi 0, .null]) := hE
    refine lv_aload_n hx hb (kX12_init (i := 102) rfl) rfl (lv_at hl 0 rfl) ?_
    refine x_iconst hx hb (kX12_init (i := 103) rfl) ?_
    refine n_newa (atype := .int) (N' := 4) (t := 0) (ty := .int) (a0 := (4, .inl (fun _ => Int32.ofInt 0))) C hM q_aI rfl rfl (fun _ _ h1 h2 => Option.some.inj (h1.symm.trans h2)) (fun _ => rfl) (by decide) (by decide) (by decide) (Nat.le_of_ble_eq_true rfl) (Nat.le_of_ble_eq_true rfl) (kX12_init (i := 104) rfl) (fun q10 H hM => ?_)
    obtain ⟨hE, hF⟩ := nw_new (e1 := .inl (cy 0, 4, .inl (fun _ => Int32.ofInt 0))) (by omega) hE hF (show _ = SM D cy E 67 from rfl)
    have had := nw_ad (q := q10) (n := 67) (by omega) had
    generalize hE9 : ue G101 67 _ = G104 at hM hE hF
    clear hE9
    refine n_putF (ty := tyX12 12) C hnm hM 57 (had 57 (by omega)).symm (by omega) hE (C0 := RX12) (Tt := TX12) (N := 75) rfl inX12 tyX12 tyX12_ok nmX12 12 (by decide) q_fX12_38 rfl rfl (by decide +kernel) rfl rfl (Nat.le_of_ble_eq_true rfl) (kX12_init (i := 105) rfl) (fun H locs hM => ?_)
    obtain ⟨hE, hF⟩ := nw_put hF
    generalize hE9 : ue G104 57 _ = G105 at hM hE hF
    clear hE9
    have hE : G105 57 = .inr (12, [.ref q1, vi 0, .ref q2, .ref q3, vi 0, .ref q4, .ref q5, .ref q6, .ref q7, .ref q8, vi 0, .ref q9, .ref q10, .null, .null, vi 0, .null, .null, vi 0, .null, .null, .null, vi 0, vi 0, vi 0, vi 0, vi 0, .null, .null, .null, .null, .null, .null, .null, .null, .null, .null, .null, .null, .null, .null, vi 0, .null, .null, vi 0, vi 0, .null, .null, vi 0, vi 0, vi 0, vi 0, vi 0, .null, vi 0, vi 0, vi 0, .null, .null, vi 0, .null, .null, .null, .null, .null, .null, vi 0, vl 0, .null, .null, vi 0, .null, .null, vi 0, .null]) := hE
    refine lv_aload_n hx hb (kX12_init (i := 106) rfl) rfl (lv_at hl 0 rfl) ?_
    refine x_iconst hx hb (kX12_init (i := 107) rfl) ?_
    refine n_newa (atype := .int) (N' := 4) (t := 0) (ty := .int) (a0 := (4, .inl (fun _ => Int32.ofInt 0))) C hM q_aI rfl rfl (fun _ _ h1 h2 => Option.some.inj (h1.symm.trans h2)) (fun _ => rfl) (by decide) (by decide) (by decide) (Nat.le_of_ble_eq_true rfl) (Nat.le_of_ble_eq_true rfl) (kX12_init (i := 108) rfl) (fun q11 H hM => ?_)
    obtain ⟨hE, hF⟩ := nw_new (e1 := .inl (cy 0, 4, .inl (fun _ => Int32.ofInt 0))) (by omega) hE hF (show _ = SM D cy E 68 from rfl)
    have had := nw_ad (q := q11) (n := 68) (by omega) had
    generalize hE9 : ue G105 68 _ = G108 at hM hE hF
    clear hE9
    refine n_putF (ty := tyX12 13) C hnm hM 57 (had 57 (by omega)).symm (by omega) hE (C0 := RX12) (Tt := TX12) (N := 75) rfl inX12 tyX12 tyX12_ok nmX12 13 (by decide) q_fX12_41 rfl rfl (by decide +kernel) rfl rfl (Nat.le_of_ble_eq_true rfl) (kX12_init (i := 109) rfl) (fun H locs hM => ?_)
    obtain ⟨hE, hF⟩ := nw_put hF
    generalize hE9 : ue G108 57 _ = G109 at hM hE hF
    clear hE9
    have hE : G109 57 = .inr (12, [.ref q1, vi 0, .ref q2, .ref q3, vi 0, .ref q4, .ref q5, .ref q6, .ref q7, .ref q8, vi 0, .ref q9, .ref q10, .ref q11, .null, vi 0, .null, .null, vi 0, .null, .null, .null, vi 0, vi 0, vi 0, vi 0, vi 0, .null, .null, .null, .null, .null, .null, .null, .null, .null, .null, .null, .null, .null, .null, vi 0, .null, .null, vi 0, vi 0, .null, .null, vi 0, vi 0, vi 0, vi 0, vi 0, .null, vi 0, vi 0, vi 0, .null, .null, vi 0, .null, .null, .null, .null, .null, .null, vi 0, vl 0, .null, .null, vi 0, .null, .null, vi 0, .null]) := hE
    refine lv_aload_n hx hb (kX12_init (i := 110) rfl) rfl (lv_at hl 0 rfl) ?_
    refine x_iconst hx hb (kX12_init (i := 111) rfl) ?_
    refine n_newa (atype := .int) (N' := 4) (t := 0) (ty := .int) (a0 := (4, .inl (fun _ => Int32.ofInt 0))) C hM q_aI rfl rfl (fun _ _ h1 h2 => Option.some.inj (h1.symm.trans h2)) (fun _ => rfl) (by decide) (by decide) (by decide) (Nat.le_of_ble_eq_true rfl) (Nat.le_of_ble_eq_true rfl) (kX12_init (i := 112) rfl) (fun q12 H hM => ?_)
    obtain ⟨hE, hF⟩ := nw_new (e1 := .inl (cy 0, 4, .inl (fun _ => Int32.ofInt 0))) (by omega) hE hF (show _ = SM D cy E 69 from rfl)
    have had := nw_ad (q := q12) (n := 69) (by omega) had
    generalize hE9 : ue G109 69 _ = G112 at hM hE hF
    clear hE9
    refine n_putF (ty := tyX12 14) C hnm hM 57 (had 57 (by omega)).symm (by omega) hE (C0 := RX12) (Tt := TX12) (N := 75) rfl inX12 tyX12 tyX12_ok nmX12 14 (by decide) q_fX12_44 rfl rfl (by decide +kernel) rfl rfl (Nat.le_of_ble_eq_true rfl) (kX12_init (i := 113) rfl) (fun H locs hM => ?_)
    obtain ⟨hE, hF⟩ := nw_put hF
    generalize hE9 : ue G112 57 _ = G113 at hM hE hF
    clear hE9
    have hE : G113 57 = .inr (12, [.ref q1, vi 0, .ref q2, .ref q3, vi 0, .ref q4, .ref q5, .ref q6, .ref q7, .ref q8, vi 0, .ref q9, .ref q10, .ref q11, .ref q12, vi 0, .null, .null, vi 0, .null, .null, .null, vi 0, vi 0, vi 0, vi 0, vi 0, .null, .null, .null, .null, .null, .null, .null, .null, .null, .null, .null, .null, .null, .null, vi 0, .null, .null, vi 0, vi 0, .null, .null, vi 0, vi 0, vi 0, vi 0, vi 0, .null, vi 0, vi 0, vi 0, .null, .null, vi 0, .null, .null, .null, .null, .null, .null, vi 0, vl 0, .null, .null, vi 0, .null, .null, vi 0, .null]) := hE
    refine lv_aload_n hx hb (kX12_init (i := 114) rfl) rfl (lv_at hl 0 rfl) ?_
    refine x_bipush hx hb (by decide) (kX12_init (i := 115) rfl) ?_
    refine n_newa (atype := .int) (N' := 6) (t := 0) (ty := .int) (a0 := (6, .inl (fun _ => Int32.ofInt 0))) C hM q_aI rfl rfl (fun _ _ h1 h2 => Option.some.inj (h1.symm.trans h2)) (fun _ => rfl) (by decide) (by decide) (by decide) (Nat.le_of_ble_eq_true rfl) (Nat.le_of_ble_eq_true rfl) (kX12_init (i := 116) rfl) (fun q13 H hM => ?_)
    obtain ⟨hE, hF⟩ := nw_new (e1 := .inl (cy 0, 6, .inl (fun _ => Int32.ofInt 0))) (by omega) hE hF (show _ = SM D cy E 70 from rfl)
    have had := nw_ad (q := q13) (n := 70) (by omega) had
    generalize hE9 : ue G113 70 _ = G116 at hM hE hF
    clear hE9
    refine n_putF (ty := tyX12 16) C hnm hM 57 (had 57 (by omega)).symm (by omega) hE (C0 := RX12) (Tt := TX12) (N := 75) rfl inX12 tyX12 tyX12_ok nmX12 16 (by decide) q_fX12_47 rfl rfl (by decide +kernel) rfl rfl (Nat.le_of_ble_eq_true rfl) (kX12_init (i := 117) rfl) (fun H locs hM => ?_)
    obtain ⟨hE, hF⟩ := nw_put hF
    generalize hE9 : ue G116 57 _ = G117 at hM hE hF
    clear hE9
    have hE : G117 57 = .inr (12, [.ref q1, vi 0, .ref q2, .ref q3, vi 0, .ref q4, .ref q5, .ref q6, .ref q7, .ref q8, vi 0, .ref q9, .ref q10, .ref q11, .ref q12, vi 0, .ref q13, .null, vi 0, .null, .null, .null, vi 0, vi 0, vi 0, vi 0, vi 0, .null, .null, .null, .null, .null, .null, .null, .null, .null, .null, .null, .null, .null, .null, vi 0, .null, .null, vi 0, vi 0, .null, .null, vi 0, vi 0, vi 0, vi 0, vi 0, .null, vi 0, vi 0, vi 0, .null, .null, vi 0, .null, .null, .null, .null, .null, .null, vi 0, vl 0, .null, .null, vi 0, .null, .null, vi 0, .null]) := hE
    refine lv_aload_n hx hb (kX12_init (i := 118) rfl) rfl (lv_at hl 0 rfl) ?_
    refine x_bipush hx hb (by decide) (kX12_init (i := 119) rfl) ?_
    refine n_newa (atype := .int) (N' := 6) (t := 0) (ty := .int) (a0 := (6, .inl (fun _ => Int32.ofInt 0))) C hM q_aI rfl rfl (fun _ _ h1 h2 => Option.some.inj (h1.symm.trans h2)) (fun _ => rfl) (by decide) (by decide) (by decide) (Nat.le_of_ble_eq_true rfl) (Nat.le_of_ble_eq_true rfl) (kX12_init (i := 120) rfl) (fun q14 H hM => ?_)
    obtain ⟨hE, hF⟩ := nw_new (e1 := .inl (cy 0, 6, .inl (fun _ => Int32.ofInt 0))) (by omega) hE hF (show _ = SM D cy E 71 from rfl)
    have had := nw_ad (q := q14) (n := 71) (by omega) had
    generalize hE9 : ue G117 71 _ = G120 at hM hE hF
    clear hE9
    refine n_putF (ty := tyX12 17) C hnm hM 57 (had 57 (by omega)).symm (by omega) hE (C0 := RX12) (Tt := TX12) (N := 75) rfl inX12 tyX12 tyX12_ok nmX12 17 (by decide) q_fX12_50 rfl rfl (by decide +kernel) rfl rfl (Nat.le_of_ble_eq_true rfl) (kX12_init (i := 121) rfl) (fun H locs hM => ?_)
    obtain ⟨hE, hF⟩ := nw_put hF
    generalize hE9 : ue G120 57 _ = G121 at hM hE hF
    clear hE9
    have hE : G121 57 = .inr (12, [.ref q1, vi 0, .ref q2, .ref q3, vi 0, .ref q4, .ref q5, .ref q6, .ref q7, .ref q8, vi 0, .ref q9, .ref q10, .ref q11, .ref q12, vi 0, .ref q13, .ref q14, vi 0, .null, .null, .null, vi 0, vi 0, vi 0, vi 0, vi 0, .null, .null, .null, .null, .null, .null, .null, .null, .null, .null, .null, .null, .null, .null, vi 0, .null, .null, vi 0, vi 0, .null, .null, vi 0, vi 0, vi 0, vi 0, vi 0, .null, vi 0, vi 0, vi 0, .null, .null, vi 0, .null, .null, .null, .null, .null, .null, vi 0, vl 0, .null, .null, vi 0, .null, .null, vi 0, .null]) := hE
    refine lv_aload_n hx hb (kX12_init (i := 122) rfl) rfl (lv_at hl 0 rfl) ?_
    refine x_bipush hx hb (by decide) (kX12_init (i := 123) rfl) ?_
    refine n_newa (atype := .int) (N' := 8) (t := 0) (ty := .int) (a0 := (8, .inl (fun _ => Int32.ofInt 0))) C hM q_aI rfl rfl (fun _ _ h1 h2 => Option.some.inj (h1.symm.trans h2)) (fun _ => rfl) (by decide) (by decide) (by decide) (Nat.le_of_ble_eq_true rfl) (Nat.le_of_ble_eq_true rfl) (kX12_init (i := 124) rfl) (fun q15 H hM => ?_)
    obtain ⟨hE, hF⟩ := nw_new (e1 := .inl (cy 0, 8, .inl (fun _ => Int32.ofInt 0))) (by omega) hE hF (show _ = SM D cy E 72 from rfl)
    have had := nw_ad (q := q15) (n := 72) (by omega) had
    generalize hE9 : ue G121 72 _ = G124 at hM hE hF
    clear hE9
    refine n_putF (ty := tyX12 19) C hnm hM 57 (had 57 (by omega)).symm (by omega) hE (C0 := RX12) (Tt := TX12) (N := 75) rfl inX12 tyX12 tyX12_ok nmX12 19 (by decide) q_fX12_53 rfl rfl (by decide +kernel) rfl rfl (Nat.le_of_ble_eq_true rfl) (kX12_init (i := 125) rfl) (fun H locs hM => ?_)
    obtain ⟨hE, hF⟩ := nw_put hF
    generalize hE9 : ue G124 57 _ = G125 at hM hE hF
    clear hE9
    have hE : G125 57 = .inr (12, [.ref q1, vi 0, .ref q2, .ref q3, vi 0, .ref q4, .ref q5, .ref q6, .ref q7, .ref q8, vi 0, .ref q9, .ref q10, .ref q11, .ref q12, vi 0, .ref q13, .ref q14, vi 0, .ref q15, .null, .null, vi 0, vi 0, vi 0, vi 0, vi 0, .null, .null, .null, .null, .null, .null, .null, .null, .null, .null, .null, .null, .null, .null, vi 0, .null, .null, vi 0, vi 0, .null, .null, vi 0, vi 0, vi 0, vi 0, vi 0, .null, vi 0, vi 0, vi 0, .null, .null, vi 0, .null, .null, .null, .null, .null, .null, vi 0, vl 0, .null, .null, vi 0, .null, .null, vi 0, .null]) := hE
    refine lv_aload_n hx hb (kX12_init (i := 126) rfl) rfl (lv_at hl 0 rfl) ?_
    refine x_bipush hx hb (by decide) (kX12_init (i := 127) rfl) ?_
    refine n_newa (atype := .int) (N' := 8) (t := 0) (ty := .int) (a0 := (8, .inl (fun _ => Int32.ofInt 0))) C hM q_aI rfl rfl (fun _ _ h1 h2 => Option.some.inj (h1.symm.trans h2)) (fun _ => rfl) (by decide) (by decide) (by decide) (Nat.le_of_ble_eq_true rfl) (Nat.le_of_ble_eq_true rfl) (kX12_init (i := 128) rfl) (fun q16 H hM => ?_)
    obtain ⟨hE, hF⟩ := nw_new (e1 := .inl (cy 0, 8, .inl (fun _ => Int32.ofInt 0))) (by omega) hE hF (show _ = SM D cy E 73 from rfl)
    have had := nw_ad (q := q16) (n := 73) (by omega) had
    generalize hE9 : ue G125 73 _ = G128 at hM hE hF
    clear hE9
    refine n_putF (ty := tyX12 20) C hnm hM 57 (had 57 (by omega)).symm (by omega) hE (C0 := RX12) (Tt := TX12) (N := 75) rfl inX12 tyX12 tyX12_ok nmX12 20 (by decide) q_fX12_56 rfl rfl (by decide +kernel) rfl rfl (Nat.le_of_ble_eq_true rfl) (kX12_init (i := 129) rfl) (fun H locs hM => ?_)
    obtain ⟨hE, hF⟩ := nw_put hF
    generalize hE9 : ue G128 57 _ = G129 at hM hE hF
    clear hE9
    have hE : G129 57 = .inr (12, [.ref q1, vi 0, .ref q2, .ref q3, vi 0, .ref q4, .ref q5, .ref q6, .ref q7, .ref q8, vi 0, .ref q9, .ref q10, .ref q11, .ref q12, vi 0, .ref q13, .ref q14, vi 0, .ref q15, .ref q16, .null, vi 0, vi 0, vi 0, vi 0, vi 0, .null, .null, .null, .null, .null, .null, .null, .null, .null, .null, .null, .null, .null, .null, vi 0, .null, .null, vi 0, vi 0, .null, .null, vi 0, vi 0, vi 0, vi 0, vi 0, .null, vi 0, vi 0, vi 0, .null, .null, vi 0, .null, .null, .null, .null, .null, .null, vi 0, vl 0, .null, .null, vi 0, .null, .null, vi 0, .null]) := hE
    refine lv_aload_n hx hb (kX12_init (i := 130) rfl) rfl (lv_at hl 0 rfl) ?_
    refine x_bipush hx hb (by decide) (kX12_init (i := 131) rfl) ?_
    refine n_newa (atype := .int) (N' := 8) (t := 0) (ty := .int) (a0 := (8, .inl (fun _ => Int32.ofInt 0))) C hM q_aI rfl rfl (fun _ _ h1 h2 => Option.some.inj (h1.symm.trans h2)) (fun _ => rfl) (by decide) (by decide) (by decide) (Nat.le_of_ble_eq_true rfl) (Nat.le_of_ble_eq_true rfl) (kX12_init (i := 132) rfl) (fun q17 H hM => ?_)
    obtain ⟨hE, hF⟩ := nw_new (e1 := .inl (cy 0, 8, .inl (fun _ => Int32.ofInt 0))) (by omega) hE hF (show _ = SM D cy E 74 from rfl)
    have had := nw_ad (q := q17) (n := 74) (by omega) had
    generalize hE9 : ue G129 74 _ = G132 at hM hE hF
    clear hE9
    refine n_putF (ty := tyX12 21) C hnm hM 57 (had 57 (by omega)).symm (by omega) hE (C0 := RX12) (Tt := TX12) (N := 75) rfl inX12 tyX12 tyX12_ok nmX12 21 (by decide) q_fX12_59 rfl rfl (by decide +kernel) rfl rfl (Nat.le_of_ble_eq_true rfl) (kX12_init (i := 133) rfl) (fun H locs hM => ?_)
    obtain ⟨hE, hF⟩ := nw_put hF
    generalize hE9 : ue G132 57 _ = G133 at hM hE hF
    clear hE9
    have hE : G133 57 = .inr (12, [.ref q1, vi 0, .ref q2, .ref q3, vi 0, .ref q4, .ref q5, .ref q6, .ref q7, .ref q8, vi 0, .ref q9, .ref q10, .ref q11, .ref q12, vi 0, .ref q13, .ref q14, vi 0, .ref q15, .ref q16, .ref q17, vi 0, vi 0, vi 0, vi 0, vi 0, .null, .null, .null, .null, .null, .null, .null, .null, .null, .null, .null, .null, .null, .null, vi 0, .null, .null, vi 0, vi 0, .null, .null, vi 0, vi 0, vi 0, vi 0, vi 0, .null, vi 0, vi 0, vi 0, .null, .null, vi 0, .null, .null, .null, .null, .null, .null, vi 0, vl 0, .null, .null, vi 0, .null, .null, vi 0, .null]) := hE
    refine lv_aload_n hx hb (kX12_init (i := 134) rfl) rfl (lv_at hl 0 rfl) ?_
    refine x_sipush hx hb (by decide) (kX12_init (i := 135) rfl) ?_
    refine n_put (ty := tyX12 22) C hM 57 (had 57 (by omega)).symm (by omega) hE (C0 := RX12) (Tt := TX12) (N := 75) rfl inX12 tyX12 tyX12_ok nmX12 22 (by decide) q_fX12_62 rfl (by decide +kernel) rfl rfl (Nat.le_of_ble_eq_true rfl) (kX12_init (i := 136) rfl) (fun H locs hM => ?_)
    obtain ⟨hE, hF⟩ := nw_put hF
    generalize hE9 : ue G133 57 _ = G136 at hM hE hF
    clear hE9
    have hE : G136 57 = .inr (12, [.ref q1, vi 0, .ref q2, .ref q3, vi 0, .ref q4, .ref q5, .ref q6, .ref q7, .ref q8, vi 0, .ref q9, .ref q10, .ref q11, .ref q12, vi 0, .ref q13, .ref q14, vi 0, .ref q15, .ref q16, .ref q17, vi 1000, vi 0, vi 0, vi 0, vi 0, .null, .null, .null, .null, .null, .null, .null, .null, .null, .null, .null, .null, .null, .null, vi 0, .null, .null, vi 0, vi 0, .null, .null, vi 0, vi 0, vi 0, vi 0, vi 0, .null, vi 0, vi 0, vi 0, .null, .null, vi 0, .null, .null, .null, .null, .null, .null, vi 0, vl 0, .null, .null, vi 0, .null, .null, vi 0, .null]) := hE
    refine lv_aload_n hx hb (kX12_init (i := 137) rfl) rfl (lv_at hl 0 rfl) ?_
    refine x_iconst hx hb (kX12_init (i := 138) rfl) ?_
    refine n_put (ty := tyX12 23) C hM 57 (had 57 (by omega)).symm (by omega) hE (C0 := RX12) (Tt := TX12) (N := 75) rfl inX12 tyX12 tyX12_ok nmX12 23 (by decide) q_fX12_66 rfl (by decide +kernel) rfl rfl (Nat.le_of_ble_eq_true rfl) (kX12_init (i := 139) rfl) (fun H locs hM => ?_)
    obtain ⟨hE, hF⟩ := nw_put hF
    generalize hE9 : ue G136 57 _ = G139 at hM hE hF
    clear hE9
    have hE : G139 57 = .inr (12, [.ref q1, vi 0, .ref q2, .ref q3, vi 0, .ref q4, .ref q5, .ref q6, .ref q7, .ref q8, vi 0, .ref q9, .ref q10, .ref q11, .ref q12, vi 0, .ref q13, .ref q14, vi 0, .ref q15, .ref q16, .ref q17, vi 1000, vi 1, vi 0, vi 0, vi 0, .null, .null, .null, .null, .null, .null, .null, .null, .null, .null, .null, .null, .null, .null, vi 0, .null, .null, vi 0, vi 0, .null, .null, vi 0, vi 0, vi 0, vi 0, vi 0, .null, vi 0, vi 0, vi 0, .null, .null, vi 0, .null, .null, .null, .null, .null, .null, vi 0, vl 0, .null, .null, vi 0, .null, .null, vi 0, .null]) := hE
    refine lv_aload_n hx hb (kX12_init (i := 140) rfl) rfl (lv_at hl 0 rfl) ?_
    refine x_iconst hx hb (kX12_init (i := 141) rfl) ?_
    refine n_put (ty := tyX12 24) C hM 57 (had 57 (by omega)).symm (by omega) hE (C0 := RX12) (Tt := TX12) (N := 75) rfl inX12 tyX12 tyX12_ok nmX12 24 (by decide) q_fX12_69 rfl (by decide +kernel) rfl rfl (Nat.le_of_ble_eq_true rfl) (kX12_init (i := 142) rfl) (fun H locs hM => ?_)
    obtain ⟨hE, hF⟩ := nw_put hF
    generalize hE9 : ue G139 57 _ = G142 at hM hE hF
    clear hE9
    have hE : G142 57 = .inr (12, [.ref q1, vi 0, .ref q2, .ref q3, vi 0, .ref q4, .ref q5, .ref q6, .ref q7, .ref q8, vi 0, .ref q9, .ref q10, .ref q11, .ref q12, vi 0, .ref q13, .ref q14, vi 0, .ref q15, .ref q16, .ref q17, vi 1000, vi 1, vi 4, vi 0, vi 0, .null, .null, .null, .null, .null, .null, .null, .null, .null, .null, .null, .null, .null, .null, vi 0, .null, .null, vi 0, vi 0, .null, .null, vi 0, vi 0, vi 0, vi 0, vi 0, .null, vi 0, vi 0, vi 0, .null, .null, vi 0, .null, .null, .null, .null, .null, .null, vi 0, vl 0, .null, .null, vi 0, .null, .null, vi 0, .null]) := hE
    refine lv_aload_n hx hb (kX12_init (i := 143) rfl) rfl (lv_at hl 0 rfl) ?_
    refine x_bipush hx hb (by decide) (kX12_init (i := 144) rfl) ?_
    refine n_newa (atype := .int) (N' := 24) (t := 0) (ty := .int) (a0 := (24, .inl (fun _ => Int32.ofInt 0))) C hM q_aI rfl rfl (fun _ _ h1 h2 => Option.some.inj (h1.symm.trans h2)) (fun _ => rfl) (by decide) (by decide) (by decide) (Nat.le_of_ble_eq_true rfl) (Nat.le_of_ble_eq_true rfl) (kX12_init (i := 145) rfl) (fun q18 H hM => ?_)
    obtain ⟨hE, hF⟩ := nw_new (e1 := .inl (cy 0, 24, .inl (fun _ => Int32.ofInt 0))) (by omega) hE hF (show _ = SM D cy E 75 from rfl)
    have had := nw_ad (q := q18) (n := 75) (by omega) had
    generalize hE9 : ue G142 75 _ = G145 at hM hE hF
    clear hE9
    refine n_putF (ty := tyX12 27) C hnm hM 57 (had 57 (by omega)).symm (by omega) hE (C0 := RX12) (Tt := TX12) (N := 75) rfl inX12 tyX12 tyX12_ok nmX12 27 (by decide) q_fX12_72 rfl rfl (by decide +kernel) rfl rfl (Nat.le_of_ble_eq_true rfl) (kX12_init (i := 146) rfl) (fun H locs hM => ?_)
    obtain ⟨hE, hF⟩ := nw_put hF
    generalize hE9 : ue G145 57 _ = G146 at hM hE hF
    clear hE9
    have hE : G146 57 = .inr (12, [.ref q1, vi 0, .ref q2, .ref q3, vi 0, .ref q4, .ref q5, .ref q6, .ref q7, .ref q8, vi 0, .ref q9, .ref q10, .ref q11, .ref q12, vi 0, .ref q13, .ref q14, vi 0, .ref q15, .ref q16, .ref q17, vi 1000, vi 1, vi 4, vi 0, vi 0, .ref q18, .null, .null, .null, .null, .null, .null, .null, .null, .null, .null, .null, .null, .null, vi 0, .null, .null, vi 0, vi 0, .null, .null, vi 0, vi 0, vi 0, vi 0, vi 0, .null, vi 0, vi 0, vi 0, .null, .null, vi 0, .null, .null, .null, .null, .null, .null, vi 0, vl 0, .null, .null, vi 0, .null, .null, vi 0, .null]) := hE
    refine lv_aload_n hx hb (kX12_init (i := 147) rfl) rfl (lv_at hl 0 rfl) ?_
    refine x_iconst hx hb (kX12_init (i := 148) rfl) ?_
    refine n_newa (atype := .int) (N' := 2) (t := 0) (ty := .int) (a0 := (2, .inl (fun _ => Int32.ofInt 0))) C hM q_aI rfl rfl (fun _ _ h1 h2 => Option.some.inj (h1.symm.trans h2)) (fun _ => rfl) (by decide) (by decide) (by decide) (Nat.le_of_ble_eq_true rfl) (Nat.le_of_ble_eq_true rfl) (kX12_init (i := 149) rfl) (fun q19 H hM => ?_)
    obtain ⟨hE, hF⟩ := nw_new (e1 := .inl (cy 0, 2, .inl (fun _ => Int32.ofInt 0))) (by omega) hE hF (show _ = SM D cy E 76 from rfl)
    have had := nw_ad (q := q19) (n := 76) (by omega) had
    generalize hE9 : ue G146 76 _ = G149 at hM hE hF
    clear hE9
    refine n_putF (ty := tyX12 28) C hnm hM 57 (had 57 (by omega)).symm (by omega) hE (C0 := RX12) (Tt := TX12) (N := 75) rfl inX12 tyX12 tyX12_ok nmX12 28 (by decide) q_fX12_75 rfl rfl (by decide +kernel) rfl rfl (Nat.le_of_ble_eq_true rfl) (kX12_init (i := 150) rfl) (fun H locs hM => ?_)
    obtain ⟨hE, hF⟩ := nw_put hF
    generalize hE9 : ue G149 57 _ = G150 at hM hE hF
    clear hE9
    have hE : G150 57 = .inr (12, [.ref q1, vi 0, .ref q2, .ref q3, vi 0, .ref q4, .ref q5, .ref q6, .ref q7, .ref q8, vi 0, .ref q9, .ref q10, .ref q11, .ref q12, vi 0, .ref q13, .ref q14, vi 0, .ref q15, .ref q16, .ref q17, vi 1000, vi 1, vi 4, vi 0, vi 0, .ref q18, .ref q19, .null, .null, .null, .null, .null, .null, .null, .null, .null, .null, .null, .null, vi 0, .null, .null, vi 0, vi 0, .null, .null, vi 0, vi 0, vi 0, vi 0, vi 0, .null, vi 0, vi 0, vi 0, .null, .null, vi 0, .null, .null, .null, .null, .null, .null, vi 0, vl 0, .null, .null, vi 0, .null, .null, vi 0, .null]) := hE
    refine lv_aload_n hx hb (kX12_init (i := 151) rfl) rfl (lv_at hl 0 rfl) ?_
    refine x_iconst hx hb (kX12_init (i := 152) rfl) ?_
    refine n_newa (atype := .int) (N' := 2) (t := 0) (ty := .int) (a0 := (2, .inl (fun _ => Int32.ofInt 0))) C hM q_aI rfl rfl (fun _ _ h1 h2 => Option.some.inj (h1.symm.trans h2)) (fun _ => rfl) (by decide) (by decide) (by decide) (Nat.le_of_ble_eq_true rfl) (Nat.le_of_ble_eq_true rfl) (kX12_init (i := 153) rfl) (fun q20 H hM => ?_)
    obtain ⟨hE, hF⟩ := nw_new (e1 := .inl (cy 0, 2, .inl (fun _ => Int32.ofInt 0))) (by omega) hE hF (show _ = SM D cy E 77 from rfl)
    have had := nw_ad (q := q20) (n := 77) (by omega) had
    generalize hE9 : ue G150 77 _ = G153 at hM hE hF
    clear hE9
    refine n_putF (ty := tyX12 29) C hnm hM 57 (had 57 (by omega)).symm (by omega) hE (C0 := RX12) (Tt := TX12) (N := 75) rfl inX12 tyX12 tyX12_ok nmX12 29 (by decide) q_fX12_78 rfl rfl (by decide +kernel) rfl rfl (Nat.le_of_ble_eq_true rfl) (kX12_init (i := 154) rfl) (fun H locs hM => ?_)
    obtain ⟨hE, hF⟩ := nw_put hF
    generalize hE9 : ue G153 57 _ = G154 at hM hE hF
    clear hE9
    have hE : G154 57 = .inr (12, [.ref q1, vi 0, .ref q2, .ref q3, vi 0, .ref q4, .ref q5, .ref q6, .ref q7, .ref q8, vi 0, .ref q9, .ref q10, .ref q11, .ref q12, vi 0, .ref q13, .ref q14, vi 0, .ref q15, .ref q16, .ref q17, vi 1000, vi 1, vi 4, vi 0, vi 0, .ref q18, .ref q19, .ref q20, .null, .null, .null, .null, .null, .null, .null, .null, .null, .null, .null, vi 0, .null, .null, vi 0, vi 0, .null, .null, vi 0, vi 0, vi 0, vi 0, vi 0, .null, vi 0, vi 0, vi 0, .null, .null, vi 0, .null, .null, .null, .null, .null, .null, vi 0, vl 0, .null, .null, vi 0, .null, .null, vi 0, .null]) := hE
    refine lv_aload_n hx hb (kX12_init (i := 155) rfl) rfl (lv_at hl 0 rfl) ?_
    refine x_iconst hx hb (kX12_init (i := 156) rfl) ?_
    refine n_newa (atype := .int) (N' := 2) (t := 0) (ty := .int) (a0 := (2, .inl (fun _ => Int32.ofInt 0))) C hM q_aI rfl rfl (fun _ _ h1 h2 => Option.some.inj (h1.symm.trans h2)) (fun _ => rfl) (by decide) (by decide) (by decide) (Nat.le_of_ble_eq_true rfl) (Nat.le_of_ble_eq_true rfl) (kX12_init (i := 157) rfl) (fun q21 H hM => ?_)
    obtain ⟨hE, hF⟩ := nw_new (e1 := .inl (cy 0, 2, .inl (fun _ => Int32.ofInt 0))) (by omega) hE hF (show _ = SM D cy E 78 from rfl)
    have had := nw_ad (q := q21) (n := 78) (by omega) had
    generalize hE9 : ue G154 78 _ = G157 at hM hE hF
    clear hE9
    refine n_putF (ty := tyX12 30) C hnm hM 57 (had 57 (by omega)).symm (by omega) hE (C0 := RX12) (Tt := TX12) (N := 75) rfl inX12 tyX12 tyX12_ok nmX12 30 (by decide) q_fX12_81 rfl rfl (by decide +kernel) rfl rfl (Nat.le_of_ble_eq_true rfl) (kX12_init (i := 158) rfl) (fun H locs hM => ?_)
    obtain ⟨hE, hF⟩ := nw_put hF
    generalize hE9 : ue G157 57 _ = G158 at hM hE hF
    clear hE9
    have hE : G158 57 = .inr (12, [.ref q1, vi 0, .ref q2, .ref q3, vi 0, .ref q4, .ref q5, .ref q6, .ref q7, .ref q8, vi 0, .ref q9, .ref q10, .ref q11, .ref q12, vi 0, .ref q13, .ref q14, vi 0, .ref q15, .ref q16, .ref q17, vi 1000, vi 1, vi 4, vi 0, vi 0, .ref q18, .ref q19, .ref q20, .ref q21, .null, .null, .null, .null, .null, .null, .null, .null, .null, .null, vi 0, .null, .null, vi 0, vi 0, .null, .null, vi 0, vi 0, vi 0, vi 0, vi 0, .null, vi 0, vi 0, vi 0, .null, .null, vi 0, .null, .null, .null, .null, .null, .null, vi 0, vl 0, .null, .null, vi 0, .null, .null, vi 0, .null]) := hE
    refine lv_aload_n hx hb (kX12_init (i := 159) rfl) rfl (lv_at hl 0 rfl) ?_
    refine x_iconst hx hb (kX12_init (i := 160) rfl) ?_
    refine n_newa (atype := .int) (N' := 2) (t := 0) (ty := .int) (a0 := (2, .inl (fun _ => Int32.ofInt 0))) C hM q_aI rfl rfl (fun _ _ h1 h2 => Option.some.inj (h1.symm.trans h2)) (fun _ => rfl) (by decide) (by decide) (by decide) (Nat.le_of_ble_eq_true rfl) (Nat.le_of_ble_eq_true rfl) (kX12_init (i := 161) rfl) (fun q22 H hM => ?_)
    obtain ⟨hE, hF⟩ := nw_new (e1 := .inl (cy 0, 2, .inl (fun _ => Int32.ofInt 0))) (by omega) hE hF (show _ = SM D cy E 79 from rfl)
    have had := nw_ad (q := q22) (n := 79) (by omega) had
    generalize hE9 : ue G158 79 _ = G161 at hM hE hF
    clear hE9
    refine n_putF (ty := tyX12 31) C hnm hM 57 (had 57 (by omega)).symm (by omega) hE (C0 := RX12) (Tt := TX12) (N := 75) rfl inX12 tyX12 tyX12_ok nmX12 31 (by decide) q_fX12_84 rfl rfl (by decide +kernel) rfl rfl (Nat.le_of_ble_eq_true rfl) (kX12_init (i := 162) rfl) (fun H locs hM => ?_)
    obtain ⟨hE, hF⟩ := nw_put hF
    generalize hE9 : ue G161 57 _ = G162 at hM hE hF
    clear hE9
    have hE : G162 57 = .inr (12, [.ref q1, vi 0, .ref q2, .ref q3, vi 0, .ref q4, .ref q5, .ref q6, .ref q7, .ref q8, vi 0, .ref q9, .ref q10, .ref q11, .ref q12, vi 0, .ref q13, .ref q14, vi 0, .ref q15, .ref q16, .ref q17, vi 1000, vi 1, vi 4, vi 0, vi 0, .ref q18, .ref q19, .ref q20, .ref q21, .ref q22, .null, .null, .null, .null, .null, .null, .null, .null, .null, vi 0, .null, .null, vi 0, vi 0, .null, .null, vi 0, vi 0, vi 0, vi 0, vi 0, .null, vi 0, vi 0, vi 0, .null, .null, vi 0, .null, .null, .null, .null, .null, .null, vi 0, vl 0, .null, .null, vi 0, .null, .null, vi 0, .null]) := hE
    refine lv_aload_n hx hb (kX12_init (i := 163) rfl) rfl (lv_at hl 0 rfl) ?_
    refine x_iconst hx hb (kX12_init (i := 164) rfl) ?_
    refine n_newa (atype := .boolean) (N' := 2) (t := 3) (ty := .boolean) (a0 := (2, .inl (fun _ => Int32.ofInt 0))) C hM q_aZ rfl rfl (fun _ _ h1 h2 => Option.some.inj (h1.symm.trans h2)) (fun _ => rfl) (by decide) (by decide) (by decide) (Nat.le_of_ble_eq_true rfl) (Nat.le_of_ble_eq_true rfl) (kX12_init (i := 165) rfl) (fun q23 H hM => ?_)
    obtain ⟨hE, hF⟩ := nw_new (e1 := .inl (cy 3, 2, .inl (fun _ => Int32.ofInt 0))) (by omega) hE hF (show _ = SM D cy E 80 from rfl)
    have had := nw_ad (q := q23) (n := 80) (by omega) had
    generalize hE9 : ue G162 80 _ = G165 at hM hE hF
    clear hE9
    refine n_putF (ty := tyX12 32) C hnm hM 57 (had 57 (by omega)).symm (by omega) hE (C0 := RX12) (Tt := TX12) (N := 75) rfl inX12 tyX12 tyX12_ok nmX12 32 (by decide) q_fX12_87 rfl rfl (by decide +kernel) rfl rfl (Nat.le_of_ble_eq_true rfl) (kX12_init (i := 166) rfl) (fun H locs hM => ?_)
    obtain ⟨hE, hF⟩ := nw_put hF
    generalize hE9 : ue G165 57 _ = G166 at hM hE hF
    clear hE9
    have hE : G166 57 = .inr (12, [.ref q1, vi 0, .ref q2, .ref q3, vi 0, .ref q4, .ref q5, .ref q6, .ref q7, .ref q8, vi 0, .ref q9, .ref q10, .ref q11, .ref q12, vi 0, .ref q13, .ref q14, vi 0, .ref q15, .ref q16, .ref q17, vi 1000, vi 1, vi 4, vi 0, vi 0, .ref q18, .ref q19, .ref q20, .ref q21, .ref q22, .ref q23, .null, .null, .null, .null, .null, .null, .null, .null, vi 0, .null, .null, vi 0, vi 0, .null, .null, vi 0, vi 0, vi 0, vi 0, vi 0, .null, vi 0, vi 0, vi 0, .null, .null, vi 0, .null, .null, .null, .null, .null, .null, vi 0, vl 0, .null, .null, vi 0, .null, .null, vi 0, .null]) := hE
    refine lv_aload_n hx hb (kX12_init (i := 167) rfl) rfl (lv_at hl 0 rfl) ?_
    refine x_bipush hx hb (by decide) (kX12_init (i := 168) rfl) ?_
    refine n_newa (atype := .boolean) (N' := 12) (t := 3) (ty := .boolean) (a0 := (12, .inl (fun _ => Int32.ofInt 0))) C hM q_aZ rfl rfl (fun _ _ h1 h2 => Option.some.inj (h1.symm.trans h2)) (fun _ => rfl) (by decide) (by decide) (by decide) (Nat.le_of_ble_eq_true rfl) (Nat.le_of_ble_eq_true rfl) (kX12_init (i := 169) rfl) (fun q24 H hM => ?_)
    obtain ⟨hE, hF⟩ := nw_new (e1 := .inl (cy 3, 12, .inl (fun _ => Int32.ofInt 0))) (by omega) hE hF (show _ = SM D cy E 81 from rfl)
    have had := nw_ad (q := q24) (n := 81) (by omega) had
    generalize hE9 : ue G166 81 _ = G169 at hM hE hF
    clear hE9
    refine n_putF (ty := tyX12 33) C hnm hM 57 (had 57 (by omega)).symm (by omega) hE (C0 := RX12) (Tt := TX12) (N := 75) rfl inX12 tyX12 tyX12_ok nmX12 33 (by decide) q_fX12_90 rfl rfl (by decide +kernel) rfl rfl (Nat.le_of_ble_eq_true rfl) (kX12_init (i := 170) rfl) (fun H locs hM => ?_)
    obtain ⟨hE, hF⟩ := nw_put hF
    generalize hE9 : ue G169 57 _ = G170 at hM hE hF
    clear hE9
    have hE : G170 57 = .inr (12, [.ref q1, vi 0, .ref q2, .ref q3, vi 0, .ref q4, .ref q5, .ref q6, .ref q7, .ref q8, vi 0, .ref q9, .ref q10, .ref q11, .ref q12, vi 0, .ref q13, .ref q14, vi 0, .ref q15, .ref q16, .ref q17, vi 1000, vi 1, vi 4, vi 0, vi 0, .ref q18, .ref q19, .ref q20, .ref q21, .ref q22, .ref q23, .ref q24, .null, .null, .null, .null, .null, .null, .null, vi 0, .null, .null, vi 0, vi 0, .null, .null, vi 0, vi 0, vi 0, vi 0, vi 0, .null, vi 0, vi 0, vi 0, .null, .null, vi 0, .null, .null, .null, .null, .null, .null, vi 0, vl 0, .null, .null, vi 0, .null, .null, vi 0, .null]) := hE
    refine lv_aload_n hx hb (kX12_init (i := 171) rfl) rfl (lv_at hl 0 rfl) ?_
    refine x_bipush hx hb (by decide) (kX12_init (i := 172) rfl) ?_
    refine n_newa (atype := .int) (N' := 12) (t := 0) (ty := .int) (a0 := (12, .inl (fun _ => Int32.ofInt 0))) C hM q_aI rfl rfl (fun _ _ h1 h2 => Option.some.inj (h1.symm.trans h2)) (fun _ => rfl) (by decide) (by decide) (by decide) (Nat.le_of_ble_eq_true rfl) (Nat.le_of_ble_eq_true rfl) (kX12_init (i := 173) rfl) (fun q25 H hM => ?_)
    obtain ⟨hE, hF⟩ := nw_new (e1 := .inl (cy 0, 12, .inl (fun _ => Int32.ofInt 0))) (by omega) hE hF (show _ = SM D cy E 82 from rfl)
    have had := nw_ad (q := q25) (n := 82) (by omega) had
    generalize hE9 : ue G170 82 _ = G173 at hM hE hF
    clear hE9
    refine n_putF (ty := tyX12 34) C hnm hM 57 (had 57 (by omega)).symm (by omega) hE (C0 := RX12) (Tt := TX12) (N := 75) rfl inX12 tyX12 tyX12_ok nmX12 34 (by decide) q_fX12_93 rfl rfl (by decide +kernel) rfl rfl (Nat.le_of_ble_eq_true rfl) (kX12_init (i := 174) rfl) (fun H locs hM => ?_)
    obtain ⟨hE, hF⟩ := nw_put hF
    generalize hE9 : ue G173 57 _ = G174 at hM hE hF
    clear hE9
    have hE : G174 57 = .inr (12, [.ref q1, vi 0, .ref q2, .ref q3, vi 0, .ref q4, .ref q5, .ref q6, .ref q7, .ref q8, vi 0, .ref q9, .ref q10, .ref q11, .ref q12, vi 0, .ref q13, .ref q14, vi 0, .ref q15, .ref q16, .ref q17, vi 1000, vi 1, vi 4, vi 0, vi 0, .ref q18, .ref q19, .ref q20, .ref q21, .ref q22, .ref q23, .ref q24, .ref q25, .null, .null, .null, .null, .null, .null, vi 0, .null, .null, vi 0, vi 0, .null, .null, vi 0, vi 0, vi 0, vi 0, vi 0, .null, vi 0, vi 0, vi 0, .null, .null, vi 0, .null, .null, .null, .null, .null, .null, vi 0, vl 0, .null, .null, vi 0, .null, .null, vi 0, .null]) := hE
    refine lv_aload_n hx hb (kX12_init (i := 175) rfl) rfl (lv_at hl 0 rfl) ?_
    refine x_bipush hx hb (by decide) (kX12_init (i := 176) rfl) ?_
    refine n_newa (atype := .int) (N' := 8) (t := 0) (ty := .int) (a0 := (8, .inl (fun _ => Int32.ofInt 0))) C hM q_aI rfl rfl (fun _ _ h1 h2 => Option.some.inj (h1.symm.trans h2)) (fun _ => rfl) (by decide) (by decide) (by decide) (Nat.le_of_ble_eq_true rfl) (Nat.le_of_ble_eq_true rfl) (kX12_init (i := 177) rfl) (fun q26 H hM => ?_)
    obtain ⟨hE, hF⟩ := nw_new (e1 := .inl (cy 0, 8, .inl (fun _ => Int32.ofInt 0))) (by omega) hE hF (show _ = SM D cy E 83 from rfl)
    have had := nw_ad (q := q26) (n := 83) (by omega) had
    generalize hE9 : ue G174 83 _ = G177 at hM hE hF
    clear hE9
    refine n_putF (ty := tyX12 35) C hnm hM 57 (had 57 (by omega)).symm (by omega) hE (C0 := RX12) (Tt := TX12) (N := 75) rfl inX12 tyX12 tyX12_ok nmX12 35 (by decide) q_fX12_96 rfl rfl (by decide +kernel) rfl rfl (Nat.le_of_ble_eq_true rfl) (kX12_init (i := 178) rfl) (fun H locs hM => ?_)
    obtain ⟨hE, hF⟩ := nw_put hF
    generalize hE9 : ue G177 57 _ = G178 at hM hE hF
    clear hE9
    have hE : G178 57 = .inr (12, [.ref q1, vi 0, .ref q2, .ref q3, vi 0, .ref q4, .ref q5, .ref q6, .ref q7, .ref q8, vi 0, .ref q9, .ref q10, .ref q11, .ref q12, vi 0, .ref q13, .ref q14, vi 0, .ref q15, .ref q16, .ref q17, vi 1000, vi 1, vi 4, vi 0, vi 0, .ref q18, .ref q19, .ref q20, .ref q21, .ref q22, .ref q23, .ref q24, .ref q25, .ref q26, .null, .null, .null, .null, .null, vi 0, .null, .null, vi 0, vi 0, .null, .null, vi 0, vi 0, vi 0, vi 0, vi 0, .null, vi 0, vi 0, vi 0, .null, .null, vi 0, .null, .null, .null, .null, .null, .null, vi 0, vl 0, .null, .null, vi 0, .null, .null, vi 0, .null]) := hE
    refine lv_aload_n hx hb (kX12_init (i := 179) rfl) rfl (lv_at hl 0 rfl) ?_
    refine x_sipush hx hb (by decide) (kX12_init (i := 180) rfl) ?_
    refine n_newa (atype := .int) (N' := 600) (t := 0) (ty := .int) (a0 := (600, .inl (fun _ => Int32.ofInt 0))) C hM q_aI rfl rfl (fun _ _ h1 h2 => Option.some.inj (h1.symm.trans h2)) (fun _ => rfl) (by decide) (by decide) (by decide) (Nat.le_of_ble_eq_true rfl) (Nat.le_of_ble_eq_true rfl) (kX12_init (i := 181) rfl) (fun q27 H hM => ?_)
    obtain ⟨hE, hF⟩ := nw_new (e1 := .inl (cy 0, 600, .inl (fun _ => Int32.ofInt 0))) (by omega) hE hF (show _ = SM D cy E 84 from rfl)
    have had := nw_ad (q := q27) (n := 84) (by omega) had
    generalize hE9 : ue G178 84 _ = G181 at hM hE hF
    clear hE9
    refine n_putF (ty := tyX12 36) C hnm hM 57 (had 57 (by omega)).symm (by omega) hE (C0 := RX12) (Tt := TX12) (N := 75) rfl inX12 tyX12 tyX12_ok nmX12 36 (by decide) q_fX12_99 rfl rfl (by decide +kernel) rfl rfl (Nat.le_of_ble_eq_true rfl) (kX12_init (i := 182) rfl) (fun H locs hM => ?_)
    obtain ⟨hE, hF⟩ := nw_put hF
    generalize hE9 : ue G181 57 _ = G182 at hM hE hF
    clear hE9
    have hE : G182 57 = .inr (12, [.ref q1, vi 0, .ref q2, .ref q3, vi 0, .ref q4, .ref q5, .ref q6, .ref q7, .ref q8, vi 0, .ref q9, .ref q10, .ref q11, .ref q12, vi 0, .ref q13, .ref q14, vi 0, .ref q15, .ref q16, .ref q17, vi 1000, vi 1, vi 4, vi 0, vi 0, .ref q18, .ref q19, .ref q20, .ref q21, .ref q22, .ref q23, .ref q24, .ref q25, .ref q26, .ref q27, .null, .null, .null, .null, vi 0, .null, .null, vi 0, vi 0, .null, .null, vi 0, vi 0, vi 0, vi 0, vi 0, .null, vi 0, vi 0, vi 0, .null, .null, vi 0, .null, .null, .null, .null, .null, .null, vi 0, vl 0, .null, .null, vi 0, .null, .null, vi 0, .null]) := hE
    refine lv_aload_n hx hb (kX12_init (i := 183) rfl) rfl (lv_at hl 0 rfl) ?_
    refine x_sipush hx hb (by decide) (kX12_init (i := 184) rfl) ?_
    refine n_newa (atype := .int) (N' := 600) (t := 0) (ty := .int) (a0 := (600, .inl (fun _ => Int32.ofInt 0))) C hM q_aI rfl rfl (fun _ _ h1 h2 => Option.some.inj (h1.symm.trans h2)) (fun _ => rfl) (by decide) (by decide) (by decide) (Nat.le_of_ble_eq_true rfl) (Nat.le_of_ble_eq_true rfl) (kX12_init (i := 185) rfl) (fun q28 H hM => ?_)
    obtain ⟨hE, hF⟩ := nw_new (e1 := .inl (cy 0, 600, .inl (fun _ => Int32.ofInt 0))) (by omega) hE hF (show _ = SM D cy E 85 from rfl)
    have had := nw_ad (q := q28) (n := 85) (by omega) had
    generalize hE9 : ue G182 85 _ = G185 at hM hE hF
    clear hE9
    refine n_putF (ty := tyX12 37) C hnm hM 57 (had 57 (by omega)).symm (by omega) hE (C0 := RX12) (Tt := TX12) (N := 75) rfl inX12 tyX12 tyX12_ok nmX12 37 (by decide) q_fX12_102 rfl rfl (by decide +kernel) rfl rfl (Nat.le_of_ble_eq_true rfl) (kX12_init (i := 186) rfl) (fun H locs hM => ?_)
    obtain ⟨hE, hF⟩ := nw_put hF
    generalize hE9 : ue G185 57 _ = G186 at hM hE hF
    clear hE9
    have hE : G186 57 = .inr (12, [.ref q1, vi 0, .ref q2, .ref q3, vi 0, .ref q4, .ref q5, .ref q6, .ref q7, .ref q8, vi 0, .ref q9, .ref q10, .ref q11, .ref q12, vi 0, .ref q13, .ref q14, vi 0, .ref q15, .ref q16, .ref q17, vi 1000, vi 1, vi 4, vi 0, vi 0, .ref q18, .ref q19, .ref q20, .ref q21, .ref q22, .ref q23, .ref q24, .ref q25, .ref q26, .ref q27, .ref q28, .null, .null, .null, vi 0, .null, .null, vi 0, vi 0, .null, .null, vi 0, vi 0, vi 0, vi 0, vi 0, .null, vi 0, vi 0, vi 0, .null, .null, vi 0, .null, .null, .null, .null, .null, .null, vi 0, vl 0, .null, .null, vi 0, .null, .null, vi 0, .null]) := hE
    refine lv_aload_n hx hb (kX12_init (i := 187) rfl) rfl (lv_at hl 0 rfl) ?_
    refine x_sipush hx hb (by decide) (kX12_init (i := 188) rfl) ?_
    refine n_newa (atype := .int) (N' := 600) (t := 0) (ty := .int) (a0 := (600, .inl (fun _ => Int32.ofInt 0))) C hM q_aI rfl rfl (fun _ _ h1 h2 => Option.some.inj (h1.symm.trans h2)) (fun _ => rfl) (by decide) (by decide) (by decide) (Nat.le_of_ble_eq_true rfl) (Nat.le_of_ble_eq_true rfl) (kX12_init (i := 189) rfl) (fun q29 H hM => ?_)
    obtain ⟨hE, hF⟩ := nw_new (e1 := .inl (cy 0, 600, .inl (fun _ => Int32.ofInt 0))) (by omega) hE hF (show _ = SM D cy E 86 from rfl)
    have had := nw_ad (q := q29) (n := 86) (by omega) had
    generalize hE9 : ue G186 86 _ = G189 at hM hE hF
    clear hE9
    refine n_putF (ty := tyX12 38) C hnm hM 57 (had 57 (by omega)).symm (by omega) hE (C0 := RX12) (Tt := TX12) (N := 75) rfl inX12 tyX12 tyX12_ok nmX12 38 (by decide) q_fX12_105 rfl rfl (by decide +kernel) rfl rfl (Nat.le_of_ble_eq_true rfl) (kX12_init (i := 190) rfl) (fun H locs hM => ?_)
    obtain ⟨hE, hF⟩ := nw_put hF
    generalize hE9 : ue G189 57 _ = G190 at hM hE hF
    clear hE9
    have hE : G190 57 = .inr (12, [.ref q1, vi 0, .ref q2, .ref q3, vi 0, .ref q4, .ref q5, .ref q6, .ref q7, .ref q8, vi 0, .ref q9, .ref q10, .ref q11, .ref q12, vi 0, .ref q13, .ref q14, vi 0, .ref q15, .ref q16, .ref q17, vi 1000, vi 1, vi 4, vi 0, vi 0, .ref q18, .ref q19, .ref q20, .ref q21, .ref q22, .ref q23, .ref q24, .ref q25, .ref q26, .ref q27, .ref q28, .ref q29, .null, .null, vi 0, .null, .null, vi 0, vi 0, .null, .null, vi 0, vi 0, vi 0, vi 0, vi 0, .null, vi 0, vi 0, vi 0, .null, .null, vi 0, .null, .null, .null, .null, .null, .null, vi 0, vl 0, .null, .null, vi 0, .null, .null, vi 0, .null]) := hE
    refine lv_aload_n hx hb (kX12_init (i := 191) rfl) rfl (lv_at hl 0 rfl) ?_
    refine x_sipush hx hb (by decide) (kX12_init (i := 192) rfl) ?_
    refine n_newa (atype := .int) (N' := 600) (t := 0) (ty := .int) (a0 := (600, .inl (fun _ => Int32.ofInt 0))) C hM q_aI rfl rfl (fun _ _ h1 h2 => Option.some.inj (h1.symm.trans h2)) (fun _ => rfl) (by decide) (by decide) (by decide) (Nat.le_of_ble_eq_true rfl) (Nat.le_of_ble_eq_true rfl) (kX12_init (i := 193) rfl) (fun q30 H hM => ?_)
    obtain ⟨hE, hF⟩ := nw_new (e1 := .inl (cy 0, 600, .inl (fun _ => Int32.ofInt 0))) (by omega) hE hF (show _ = SM D cy E 87 from rfl)
    have had := nw_ad (q := q30) (n := 87) (by omega) had
    generalize hE9 : ue G190 87 _ = G193 at hM hE hF
    clear hE9
    refine n_putF (ty := tyX12 39) C hnm hM 57 (had 57 (by omega)).symm (by omega) hE (C0 := RX12) (Tt := TX12) (N := 75) rfl inX12 tyX12 tyX12_ok nmX12 39 (by decide) q_fX12_108 rfl rfl (by decide +kernel) rfl rfl (Nat.le_of_ble_eq_true rfl) (kX12_init (i := 194) rfl) (fun H locs hM => ?_)
    obtain ⟨hE, hF⟩ := nw_put hF
    generalize hE9 : ue G193 57 _ = G194 at hM hE hF
    clear hE9
    have hE : G194 57 = .inr (12, [.ref q1, vi 0, .ref q2, .ref q3, vi 0, .ref q4, .ref q5, .ref q6, .ref q7, .ref q8, vi 0, .ref q9, .ref q10, .ref q11, .ref q12, vi 0, .ref q13, .ref q14, vi 0, .ref q15, .ref q16, .ref q17, vi 1000, vi 1, vi 4, vi 0, vi 0, .ref q18, .ref q19, .ref q20, .ref q21, .ref q22, .ref q23, .ref q24, .ref q25, .ref q26, .ref q27, .ref q28, .ref q29, .ref q30, .null, vi 0, .null, .null, vi 0, vi 0, .null, .null, vi 0, vi 0, vi 0, vi 0, vi 0, .null, vi 0, vi 0, vi 0, .null, .null, vi 0, .null, .null, .null, .null, .null, .null, vi 0, vl 0, .null, .null, vi 0, .null, .null, vi 0, .null]) := hE
    refine lv_aload_n hx hb (kX12_init (i := 195) rfl) rfl (lv_at hl 0 rfl) ?_
    refine x_sipush hx hb (by decide) (kX12_init (i := 196) rfl) ?_
    refine n_newa (atype := .boolean) (N' := 600) (t := 3) (ty := .boolean) (a0 := (600, .inl (fun _ => Int32.ofInt 0))) C hM q_aZ rfl rfl (fun _ _ h1 h2 => Option.some.inj (h1.symm.trans h2)) (fun _ => rfl) (by decide) (by decide) (by decide) (Nat.le_of_ble_eq_true rfl) (Nat.le_of_ble_eq_true rfl) (kX12_init (i := 197) rfl) (fun q31 H hM => ?_)
    obtain ⟨hE, hF⟩ := nw_new (e1 := .inl (cy 3, 600, .inl (fun _ => Int32.ofInt 0))) (by omega) hE hF (show _ = SM D cy E 88 from rfl)
    have had := nw_ad (q := q31) (n := 88) (by omega) had
    generalize hE9 : ue G194 88 _ = G197 at hM hE hF
    clear hE9
    refine n_putF (ty := tyX12 40) C hnm hM 57 (had 57 (by omega)).symm (by omega) hE (C0 := RX12) (Tt := TX12) (N := 75) rfl inX12 tyX12 tyX12_ok nmX12 40 (by decide) q_fX12_111 rfl rfl (by decide +kernel) rfl rfl (Nat.le_of_ble_eq_true rfl) (kX12_init (i := 198) rfl) (fun H locs hM => ?_)
    obtain ⟨hE, hF⟩ := nw_put hF
    generalize hE9 : ue G197 57 _ = G198 at hM hE hF
    clear hE9
    have hE : G198 57 = .inr (12, [.ref q1, vi 0, .ref q2, .ref q3, vi 0, .ref q4, .ref q5, .ref q6, .ref q7, .ref q8, vi 0, .ref q9, .ref q10, .ref q11, .ref q12, vi 0, .ref q13, .ref q14, vi 0, .ref q15, .ref q16, .ref q17, vi 1000, vi 1, vi 4, vi 0, vi 0, .ref q18, .ref q19, .ref q20, .ref q21, .ref q22, .ref q23, .ref q24, .ref q25, .ref q26, .ref q27, .ref q28, .ref q29, .ref q30, .ref q31, vi 0, .null, .null, vi 0, vi 0, .null, .null, vi 0, vi 0, vi 0, vi 0, vi 0, .null, vi 0, vi 0, vi 0, .null, .null, vi 0, .null, .null, .null, .null, .null, .null, vi 0, vl 0, .null, .null, vi 0, .null, .null, vi 0, .null]) := hE
    refine lv_aload_n hx hb (kX12_init (i := 199) rfl) rfl (lv_at hl 0 rfl) ?_
    refine x_bipush hx hb (by decide) (kX12_init (i := 200) rfl) ?_
    refine n_newa (atype := .int) (N' := 12) (t := 0) (ty := .int) (a0 := (12, .inl (fun _ => Int32.ofInt 0))) C hM q_aI rfl rfl (fun _ _ h1 h2 => Option.some.inj (h1.symm.trans h2)) (fun _ => rfl) (by decide) (by decide) (by decide) (Nat.le_of_ble_eq_true rfl) (Nat.le_of_ble_eq_true rfl) (kX12_init (i := 201) rfl) (fun q32 H hM => ?_)
    obtain ⟨hE, hF⟩ := nw_new (e1 := .inl (cy 0, 12, .inl (fun _ => Int32.ofInt 0))) (by omega) hE hF (show _ = SM D cy E 89 from rfl)
    have had := nw_ad (q := q32) (n := 89) (by omega) had
    generalize hE9 : ue G198 89 _ = G201 at hM hE hF
    clear hE9
    refine n_putF (ty := tyX12 42) C hnm hM 57 (had 57 (by omega)).symm (by omega) hE (C0 := RX12) (Tt := TX12) (N := 75) rfl inX12 tyX12 tyX12_ok nmX12 42 (by decide) q_fX12_114 rfl rfl (by decide +kernel) rfl rfl (Nat.le_of_ble_eq_true rfl) (kX12_init (i := 202) rfl) (fun H locs hM => ?_)
    obtain ⟨hE, hF⟩ := nw_put hF
    generalize hE9 : ue G201 57 _ = G202 at hM hE hF
    clear hE9
    have hE : G202 57 = .inr (12, [.ref q1, vi 0, .ref q2, .ref q3, vi 0, .ref q4, .ref q5, .ref q6, .ref q7, .ref q8, vi 0, .ref q9, .ref q10, .ref q11, .ref q12, vi 0, .ref q13, .ref q14, vi 0, .ref q15, .ref q16, .ref q17, vi 1000, vi 1, vi 4, vi 0, vi 0, .ref q18, .ref q19, .ref q20, .ref q21, .ref q22, .ref q23, .ref q24, .ref q25, .ref q26, .ref q27, .ref q28, .ref q29, .ref q30, .ref q31, vi 0, .ref q32, .null, vi 0, vi 0, .null, .null, vi 0, vi 0, vi 0, vi 0, vi 0, .null, vi 0, vi 0, vi 0, .null, .null, vi 0, .null, .null, .null, .null, .null, .null, vi 0, vl 0, .null, .null, vi 0, .null, .null, vi 0, .null]) := hE
    refine lv_aload_n hx hb (kX12_init (i := 203) rfl) rfl (lv_at hl 0 rfl) ?_
    refine x_bipush hx hb (by decide) (kX12_init (i := 204) rfl) ?_
    refine n_newa (atype := .int) (N' := 12) (t := 0) (ty := .int) (a0 := (12, .inl (fun _ => Int32.ofInt 0))) C hM q_aI rfl rfl (fun _ _ h1 h2 => Option.some.inj (h1.symm.trans h2)) (fun _ => rfl) (by decide) (by decide) (by decide) (Nat.le_of_ble_eq_true rfl) (Nat.le_of_ble_eq_true rfl) (kX12_init (i := 205) rfl) (fun q33 H hM => ?_)
    obtain ⟨hE, hF⟩ := nw_new (e1 := .inl (cy 0, 12, .inl (fun _ => Int32.ofInt 0))) (by omega) hE hF (show _ = SM D cy E 90 from rfl)
    have had := nw_ad (q := q33) (n := 90) (by omega) had
    generalize hE9 : ue G202 90 _ = G205 at hM hE hF
    clear hE9
    refine n_putF (ty := tyX12 43) C hnm hM 57 (had 57 (by omega)).symm (by omega) hE (C0 := RX12) (Tt := TX12) (N := 75) rfl inX12 tyX12 tyX12_ok nmX12 43 (by decide) q_fX12_117 rfl rfl (by decide +kernel) rfl rfl (Nat.le_of_ble_eq_true rfl) (kX12_init (i := 206) rfl) (fun H locs hM => ?_)
    obtain ⟨hE, hF⟩ := nw_put hF
    generalize hE9 : ue G205 57 _ = G206 at hM hE hF
    clear hE9
    have hE : G206 57 = .inr (12, [.ref q1, vi 0, .ref q2, .ref q3, vi 0, .ref q4, .ref q5, .ref q6, .ref q7, .ref q8, vi 0, .ref q9, .ref q10, .ref q11, .ref q12, vi 0, .ref q13, .ref q14, vi 0, .ref q15, .ref q16, .ref q17, vi 1000, vi 1, vi 4, vi 0, vi 0, .ref q18, .ref q19, .ref q20, .ref q21, .ref q22, .ref q23, .ref q24, .ref q25, .ref q26, .ref q27, .ref q28, .ref q29, .ref q30, .ref q31, vi 0, .ref q32, .ref q33, vi 0, vi 0, .null, .null, vi 0, vi 0, vi 0, vi 0, vi 0, .null, vi 0, vi 0, vi 0, .null, .null, vi 0, .null, .null, .null, .null, .null, .null, vi 0, vl 0, .null, .null, vi 0, .null, .null, vi 0, .null]) := hE
    refine lv_aload_n hx hb (kX12_init (i := 207) rfl) rfl (lv_at hl 0 rfl) ?_
    refine x_bipush hx hb (by decide) (kX12_init (i := 208) rfl) ?_
    refine n_put (ty := tyX12 44) C hM 57 (had 57 (by omega)).symm (by omega) hE (C0 := RX12) (Tt := TX12) (N := 75) rfl inX12 tyX12 tyX12_ok nmX12 44 (by decide) q_fX12_120 rfl (by decide +kernel) rfl rfl (Nat.le_of_ble_eq_true rfl) (kX12_init (i := 209) rfl) (fun H locs hM => ?_)
    obtain ⟨hE, hF⟩ := nw_put hF
    generalize hE9 : ue G206 57 _ = G209 at hM hE hF
    clear hE9
    have hE : G209 57 = .inr (12, [.ref q1, vi 0, .ref q2, .ref q3, vi 0, .ref q4, .ref q5, .ref q6, .ref q7, .ref q8, vi 0, .ref q9, .ref q10, .ref q11, .ref q12, vi 0, .ref q13, .ref q14, vi 0, .ref q15, .ref q16, .ref q17, vi 1000, vi 1, vi 4, vi 0, vi 0, .ref q18, .ref q19, .ref q20, .ref q21, .ref q22, .ref q23, .ref q24, .ref q25, .ref q26, .ref q27, .ref q28, .ref q29, .ref q30, .ref q31, vi 0, .ref q32, .ref q33, vi 16, vi 0, .null, .null, vi 0, vi 0, vi 0, vi 0, vi 0, .null, vi 0, vi 0, vi 0, .null, .null, vi 0, .null, .null, .null, .null, .null, .null, vi 0, vl 0, .null, .null, vi 0, .null, .null, vi 0, .null]) := hE
    refine lv_aload_n hx hb (kX12_init (i := 210) rfl) rfl (lv_at hl 0 rfl) ?_
    refine x_bipush hx hb (by decide) (kX12_init (i := 211) rfl) ?_
    refine n_newa (atype := .int) (N' := 64) (t := 0) (ty := .int) (a0 := (64, .inl (fun _ => Int32.ofInt 0))) C hM q_aI rfl rfl (fun _ _ h1 h2 => Option.some.inj (h1.symm.trans h2)) (fun _ => rfl) (by decide) (by decide) (by decide) (Nat.le_of_ble_eq_true rfl) (Nat.le_of_ble_eq_true rfl) (kX12_init (i := 212) rfl) (fun q34 H hM => ?_)
    obtain ⟨hE, hF⟩ := nw_new (e1 := .inl (cy 0, 64, .inl (fun _ => Int32.ofInt 0))) (by omega) hE hF (show _ = SM D cy E 91 from rfl)
    have had := nw_ad (q := q34) (n := 91) (by omega) had
    generalize hE9 : ue G209 91 _ = G212 at hM hE hF
    clear hE9
    refine n_putF (ty := tyX12 46) C hnm hM 57 (had 57 (by omega)).symm (by omega) hE (C0 := RX12) (Tt := TX12) (N := 75) rfl inX12 tyX12 tyX12_ok nmX12 46 (by decide) q_fX12_123 rfl rfl (by decide +kernel) rfl rfl (Nat.le_of_ble_eq_true rfl) (kX12_init (i := 213) rfl) (fun H locs hM => ?_)
    obtain ⟨hE, hF⟩ := nw_put hF
    generalize hE9 : ue G212 57 _ = G213 at hM hE hF
    clear hE9
    have hE : G213 57 = .inr (12, [.ref q1, vi 0, .ref q2, .ref q3, vi 0, .ref q4, .ref q5, .ref q6, .ref q7, .ref q8, vi 0, .ref q9, .ref q10, .ref q11, .ref q12, vi 0, .ref q13, .ref q14, vi 0, .ref q15, .ref q16, .ref q17, vi 1000, vi 1, vi 4, vi 0, vi 0, .ref q18, .ref q19, .ref q20, .ref q21, .ref q22, .ref q23, .ref q24, .ref q25, .ref q26, .ref q27, .ref q28, .ref q29, .ref q30, .ref q31, vi 0, .ref q32, .ref q33, vi 16, vi 0, .ref q34, .null, vi 0, vi 0, vi 0, vi 0, vi 0, .null, vi 0, vi 0, vi 0, .null, .null, vi 0, .null, .null, .null, .null, .null, .null, vi 0, vl 0, .null, .null, vi 0, .null, .null, vi 0, .null]) := hE
    refine lv_aload_n hx hb (kX12_init (i := 214) rfl) rfl (lv_at hl 0 rfl) ?_
    refine x_sipush hx hb (by decide) (kX12_init (i := 215) rfl) ?_
    refine n_newa (atype := .byte) (N' := 300) (t := 2) (ty := .byte) (a0 := (300, .inl (fun _ => Int32.ofInt 0))) C hM q_aB rfl rfl (fun _ _ h1 h2 => Option.some.inj (h1.symm.trans h2)) (fun _ => rfl) (by decide) (by decide) (by decide) (Nat.le_of_ble_eq_true rfl) (Nat.le_of_ble_eq_true rfl) (kX12_init (i := 216) rfl) (fun q35 H hM => ?_)
    obtain ⟨hE, hF⟩ := nw_new (e1 := .inl (cy 2, 300, .inl (fun _ => Int32.ofInt 0))) (by omega) hE hF (show _ = SM D cy E 92 from rfl)
    have had := nw_ad (q := q35) (n := 92) (by omega) had
    generalize hE9 : ue G213 92 _ = G216 at hM hE hF
    clear hE9
    refine n_putF (ty := tyX12 47) C hnm hM 57 (had 57 (by omega)).symm (by omega) hE (C0 := RX12) (Tt := TX12) (N := 75) rfl inX12 tyX12 tyX12_ok nmX12 47 (by decide) q_fX12_126 rfl rfl (by decide +kernel) rfl rfl (Nat.le_of_ble_eq_true rfl) (kX12_init (i := 217) rfl) (fun H locs hM => ?_)
    obtain ⟨hE, hF⟩ := nw_put hF
    generalize hE9 : ue G216 57 _ = G217 at hM hE hF
    clear hE9
    have hE : G217 57 = .inr (12, [.ref q1, vi 0, .ref q2, .ref q3, vi 0, .ref q4, .ref q5, .ref q6, .ref q7, .ref q8, vi 0, .ref q9, .ref q10, .ref q11, .ref q12, vi 0, .ref q13, .ref q14, vi 0, .ref q15, .ref q16, .ref q17, vi 1000, vi 1, vi 4, vi 0, vi 0, .ref q18, .ref q19, .ref q20, .ref q21, .ref q22, .ref q23, .ref q24, .ref q25, .ref q26, .ref q27, .ref q28, .ref q29, .ref q30, .ref q31, vi 0, .ref q32, .ref q33, vi 16, vi 0, .ref q34, .ref q35, vi 0, vi 0, vi 0, vi 0, vi 0, .null, vi 0, vi 0, vi 0, .null, .null, vi 0, .null, .null, .null, .null, .null, .null, vi 0, vl 0, .null, .null, vi 0, .null, .null, vi 0, .null]) := hE
    refine lv_aload_n hx hb (kX12_init (i := 218) rfl) rfl (lv_at hl 0 rfl) ?_
    refine x_sipush hx hb (by decide) (kX12_init (i := 219) rfl) ?_
    refine n_newa (atype := .int) (N' := 600) (t := 0) (ty := .int) (a0 := (600, .inl (fun _ => Int32.ofInt 0))) C hM q_aI rfl rfl (fun _ _ h1 h2 => Option.some.inj (h1.symm.trans h2)) (fun _ => rfl) (by decide) (by decide) (by decide) (Nat.le_of_ble_eq_true rfl) (Nat.le_of_ble_eq_true rfl) (kX12_init (i := 220) rfl) (fun q36 H hM => ?_)
    obtain ⟨hE, hF⟩ := nw_new (e1 := .inl (cy 0, 600, .inl (fun _ => Int32.ofInt 0))) (by omega) hE hF (show _ = SM D cy E 93 from rfl)
    have had := nw_ad (q := q36) (n := 93) (by omega) had
    generalize hE9 : ue G217 93 _ = G220 at hM hE hF
    clear hE9
    refine n_putF (ty := tyX12 53) C hnm hM 57 (had 57 (by omega)).symm (by omega) hE (C0 := RX12) (Tt := TX12) (N := 75) rfl inX12 tyX12 tyX12_ok nmX12 53 (by decide) q_fX12_130 rfl rfl (by decide +kernel) rfl rfl (Nat.le_of_ble_eq_true rfl) (kX12_init (i := 221) rfl) (fun H locs hM => ?_)
    obtain ⟨hE, hF⟩ := nw_put hF
    generalize hE9 : ue G220 57 _ = G221 at hM hE hF
    clear hE9
    have hE : G221 57 = .inr (12, [.ref q1, vi 0, .ref q2, .ref q3, vi 0, .ref q4, .ref q5, .ref q6, .ref q7, .ref q8, vi 0, .ref q9, .ref q10, .ref q11, .ref q12, vi 0, .ref q13, .ref q14, vi 0, .ref q15, .ref q16, .ref q17, vi 1000, vi 1, vi 4, vi 0, vi 0, .ref q18, .ref q19, .ref q20, .ref q21, .ref q22, .ref q23, .ref q24, .ref q25, .ref q26, .ref q27, .ref q28, .ref q29, .ref q30, .ref q31, vi 0, .ref q32, .ref q33, vi 16, vi 0, .ref q34, .ref q35, vi 0, vi 0, vi 0, vi 0, vi 0, .ref q36, vi 0, vi 0, vi 0, .null, .null, vi 0, .null, .null, .null, .null, .null, .null, vi 0, vl 0, .null, .null, vi 0, .null, .null, vi 0, .null]) := hE
    refine lv_aload_n hx hb (kX12_init (i := 222) rfl) rfl (lv_at hl 0 rfl) ?_
    refine x_sipush hx hb (by decide) (kX12_init (i := 223) rfl) ?_
    refine n_newa (atype := .int) (N' := 300) (t := 0) (ty := .int) (a0 := (300, .inl (fun _ => Int32.ofInt 0))) C hM q_aI rfl rfl (fun _ _ h1 h2 => Option.some.inj (h1.symm.trans h2)) (fun _ => rfl) (by decide) (by decide) (by decide) (Nat.le_of_ble_eq_true rfl) (Nat.le_of_ble_eq_true rfl) (kX12_init (i := 224) rfl) (fun q37 H hM => ?_)
    obtain ⟨hE, hF⟩ := nw_new (e1 := .inl (cy 0, 300, .inl (fun _ => Int32.ofInt 0))) (by omega) hE hF (show _ = SM D cy E 94 from rfl)
    have had := nw_ad (q := q37) (n := 94) (by omega) had
    generalize hE9 : ue G221 94 _ = G224 at hM hE hF
    clear hE9
    refine n_putF (ty := tyX12 57) C hnm hM 57 (had 57 (by omega)).symm (by omega) hE (C0 := RX12) (Tt := TX12) (N := 75) rfl inX12 tyX12 tyX12_ok nmX12 57 (by decide) q_fX12_133 rfl rfl (by decide +kernel) rfl rfl (Nat.le_of_ble_eq_true rfl) (kX12_init (i := 225) rfl) (fun H locs hM => ?_)
    obtain ⟨hE, hF⟩ := nw_put hF
    generalize hE9 : ue G224 57 _ = G225 at hM hE hF
    clear hE9
    have hE : G225 57 = .inr (12, [.ref q1, vi 0, .ref q2, .ref q3, vi 0, .ref q4, .ref q5, .ref q6, .ref q7, .ref q8, vi 0, .ref q9, .ref q10, .ref q11, .ref q12, vi 0, .ref q13, .ref q14, vi 0, .ref q15, .ref q16, .ref q17, vi 1000, vi 1, vi 4, vi 0, vi 0, .ref q18, .ref q19, .ref q20, .ref q21, .ref q22, .ref q23, .ref q24, .ref q25, .ref q26, .ref q27, .ref q28, .ref q29, .ref q30, .ref q31, vi 0, .ref q32, .ref q33, vi 16, vi 0, .ref q34, .ref q35, vi 0, vi 0, vi 0, vi 0, vi 0, .ref q36, vi 0, vi 0, vi 0, .ref q37, .null, vi 0, .null, .null, .null, .null, .null, .null, vi 0, vl 0, .null, .null, vi 0, .null, .null, vi 0, .null]) := hE
    refine lv_aload_n hx hb (kX12_init (i := 226) rfl) rfl (lv_at hl 0 rfl) ?_
    refine x_sipush hx hb (by decide) (kX12_init (i := 227) rfl) ?_
    refine n_newa (atype := .int) (N' := 300) (t := 0) (ty := .int) (a0 := (300, .inl (fun _ => Int32.ofInt 0))) C hM q_aI rfl rfl (fun _ _ h1 h2 => Option.some.inj (h1.symm.trans h2)) (fun _ => rfl) (by decide) (by decide) (by decide) (Nat.le_of_ble_eq_true rfl) (Nat.le_of_ble_eq_true rfl) (kX12_init (i := 228) rfl) (fun q38 H hM => ?_)
    obtain ⟨hE, hF⟩ := nw_new (e1 := .inl (cy 0, 300, .inl (fun _ => Int32.ofInt 0))) (by omega) hE hF (show _ = SM D cy E 95 from rfl)
    have had := nw_ad (q := q38) (n := 95) (by omega) had
    generalize hE9 : ue G225 95 _ = G228 at hM hE hF
    clear hE9
    refine n_putF (ty := tyX12 58) C hnm hM 57 (had 57 (by omega)).symm (by omega) hE (C0 := RX12) (Tt := TX12) (N := 75) rfl inX12 tyX12 tyX12_ok nmX12 58 (by decide) q_fX12_136 rfl rfl (by decide +kernel) rfl rfl (Nat.le_of_ble_eq_true rfl) (kX12_init (i := 229) rfl) (fun H locs hM => ?_)
    obtain ⟨hE, hF⟩ := nw_put hF
    generalize hE9 : ue G228 57 _ = G229 at hM hE hF
    clear hE9
    have hE : G229 57 = .inr (12, [.ref q1, vi 0, .ref q2, .ref q3, vi 0, .ref q4, .ref q5, .ref q6, .ref q7, .ref q8, vi 0, .ref q9, .ref q10, .ref q11, .ref q12, vi 0, .ref q13, .ref q14, vi 0, .ref q15, .ref q16, .ref q17, vi 1000, vi 1, vi 4, vi 0, vi 0, .ref q18, .ref q19, .ref q20, .ref q21, .ref q22, .ref q23, .ref q24, .ref q25, .ref q26, .ref q27, .ref q28, .ref q29, .ref q30, .ref q31, vi 0, .ref q32, .ref q33, vi 16, vi 0, .ref q34, .ref q35, vi 0, vi 0, vi 0, vi 0, vi 0, .ref q36, vi 0, vi 0, vi 0, .ref q37, .ref q38, vi 0, .null, .null, .null, .null, .null, .null, vi 0, vl 0, .null, .null, vi 0, .null, .null, vi 0, .null]) := hE
    refine lv_aload_n hx hb (kX12_init (i := 230) rfl) rfl (lv_at hl 0 rfl) ?_
    refine x_iconst hx hb (kX12_init (i := 231) rfl) ?_
    refine n_newa (atype := .int) (N' := 2) (t := 0) (ty := .int) (a0 := (2, .inl (fun _ => Int32.ofInt 0))) C hM q_aI rfl rfl (fun _ _ h1 h2 => Option.some.inj (h1.symm.trans h2)) (fun _ => rfl) (by decide) (by decide) (by decide) (Nat.le_of_ble_eq_true rfl) (Nat.le_of_ble_eq_true rfl) (kX12_init (i := 232) rfl) (fun q39 H hM => ?_)
    refine lv_dup hx hb (kX12_init (i := 233) rfl) rfl ?_
    refine x_iconst hx hb (kX12_init (i := 234) rfl) ?_
    refine x_iconst hx hb (kX12_init (i := 235) rfl) ?_
    refine n_iast (i := 0) C hM 96 (a := q39) ue_self.symm (by omega) ue_self (by decide) (kX12_init (i := 236) rfl) (fun H locs hM => ?_)
    rw [ue_ue] at hM
    refine lv_dup hx hb (kX12_init (i := 237) rfl) rfl ?_
    refine x_iconst hx hb (kX12_init (i := 238) rfl) ?_
    refine x_iconst hx hb (kX12_init (i := 239) rfl) ?_
    refine n_iast (i := 1) C hM 96 (a := q39) ue_self.symm (by omega) ue_self (by decide) (kX12_init (i := 240) rfl) (fun H locs hM => ?_)
    rw [ue_ue] at hM
    rw [ok_begin] at hM
    obtain ⟨hE, hF⟩ := nw_new (e1 := .inl (cy 0, 2, .inl (fun j => Int32.ofInt (hM0 39 j)))) (by omega) hE hF (show _ = SM D cy E 96 from rfl)
    have had := nw_ad (q := q39) (n := 96) (by omega) had
    generalize hE9 : ue G229 96 _ = G240 at hM hE hF
    clear hE9
    refine n_putF (ty := tyX12 60) C hnm hM 57 (had 57 (by omega)).symm (by omega) hE (C0 := RX12) (Tt := TX12) (N := 75) rfl inX12 tyX12 tyX12_ok nmX12 60 (by decide) q_fX12_139 rfl rfl (by decide +kernel) rfl rfl (Nat.le_of_ble_eq_true rfl) (kX12_init (i := 241) rfl) (fun H locs hM => ?_)
    obtain ⟨hE, hF⟩ := nw_put hF
    generalize hE9 : ue G240 57 _ = G241 at hM hE hF
    clear hE9
    have hE : G241 57 = .inr (12, [.ref q1, vi 0, .ref q2, .ref q3, vi 0, .ref q4, .ref q5, .ref q6, .ref q7, .ref q8, vi 0, .ref q9, .ref q10, .ref q11, .ref q12, vi 0, .ref q13, .ref q14, vi 0, .ref q15, .ref q16, .ref q17, vi 1000, vi 1, vi 4, vi 0, vi 0, .ref q18, .ref q19, .ref q20, .ref q21, .ref q22, .ref q23, .ref q24, .ref q25, .ref q26, .ref q27, .ref q28, .ref q29, .ref q30, .ref q31, vi 0, .ref q32, .ref q33, vi 16, vi 0, .ref q34, .ref q35, vi 0, vi 0, vi 0, vi 0, vi 0, .ref q36, vi 0, vi 0, vi 0, .ref q37, .ref q38, vi 0, .ref q39, .null, .null, .null, .null, .null, vi 0, vl 0, .null, .null, vi 0, .null, .null, vi 0, .null]) := hE
    refine lv_aload_n hx hb (kX12_init (i := 242) rfl) rfl (lv_at hl 0 rfl) ?_
    refine x_iconst hx hb (kX12_init (i := 243) rfl) ?_
    refine n_newa (atype := .int) (N' := 2) (t := 0) (ty := .int) (a0 := (2, .inl (fun _ => Int32.ofInt 0))) C hM q_aI rfl rfl (fun _ _ h1 h2 => Option.some.inj (h1.symm.trans h2)) (fun _ => rfl) (by decide) (by decide) (by decide) (Nat.le_of_ble_eq_true rfl) (Nat.le_of_ble_eq_true rfl) (kX12_init (i := 244) rfl) (fun q40 H hM => ?_)
    obtain ⟨hE, hF⟩ := nw_new (e1 := .inl (cy 0, 2, .inl (fun _ => Int32.ofInt 0))) (by omega) hE hF (show _ = SM D cy E 97 from rfl)
    have had := nw_ad (q := q40) (n := 97) (by omega) had
    generalize hE9 : ue G241 97 _ = G244 at hM hE hF
    clear hE9
    refine n_putF (ty := tyX12 61) C hnm hM 57 (had 57 (by omega)).symm (by omega) hE (C0 := RX12) (Tt := TX12) (N := 75) rfl inX12 tyX12 tyX12_ok nmX12 61 (by decide) q_fX12_142 rfl rfl (by decide +kernel) rfl rfl (Nat.le_of_ble_eq_true rfl) (kX12_init (i := 245) rfl) (fun H locs hM => ?_)
    obtain ⟨hE, hF⟩ := nw_put hF
    generalize hE9 : ue G244 57 _ = G245 at hM hE hF
    clear hE9
    have hE : G245 57 = .inr (12, [.ref q1, vi 0, .ref q2, .ref q3, vi 0, .ref q4, .ref q5, .ref q6, .ref q7, .ref q8, vi 0, .ref q9, .ref q10, .ref q11, .ref q12, vi 0, .ref q13, .ref q14, vi 0, .ref q15, .ref q16, .ref q17, vi 1000, vi 1, vi 4, vi 0, vi 0, .ref q18, .ref q19, .ref q20, .ref q21, .ref q22, .ref q23, .ref q24, .ref q25, .ref q26, .ref q27, .ref q28, .ref q29, .ref q30, .ref q31, vi 0, .ref q32, .ref q33, vi 16, vi 0, .ref q34, .ref q35, vi 0, vi 0, vi 0, vi 0, vi 0, .ref q36, vi 0, vi 0, vi 0, .ref q37, .ref q38, vi 0, .ref q39, .ref q40, .null, .null, .null, .null, vi 0, vl 0, .null, .null, vi 0, .null, .null, vi 0, .null]) := hE
    refine lv_aload_n hx hb (kX12_init (i := 246) rfl) rfl (lv_at hl 0 rfl) ?_
    refine x_sipush hx hb (by decide) (kX12_init (i := 247) rfl) ?_
    refine n_newa (atype := .int) (N' := 300) (t := 0) (ty := .int) (a0 := (300, .inl (fun _ => Int32.ofInt 0))) C hM q_aI rfl rfl (fun _ _ h1 h2 => Option.some.inj (h1.symm.trans h2)) (fun _ => rfl) (by decide) (by decide) (by decide) (Nat.le_of_ble_eq_true rfl) (Nat.le_of_ble_eq_true rfl) (kX12_init (i := 248) rfl) (fun q41 H hM => ?_)
    obtain ⟨hE, hF⟩ := nw_new (e1 := .inl (cy 0, 300, .inl (fun _ => Int32.ofInt 0))) (by omega) hE hF (show _ = SM D cy E 98 from rfl)
    have had := nw_ad (q := q41) (n := 98) (by omega) had
    generalize hE9 : ue G245 98 _ = G248 at hM hE hF
    clear hE9
    refine n_putF (ty := tyX12 62) C hnm hM 57 (had 57 (by omega)).symm (by omega) hE (C0 := RX12) (Tt := TX12) (N := 75) rfl inX12 tyX12 tyX12_ok nmX12 62 (by decide) q_fX12_145 rfl rfl (by decide +kernel) rfl rfl (Nat.le_of_ble_eq_true rfl) (kX12_init (i := 249) rfl) (fun H locs hM => ?_)
    obtain ⟨hE, hF⟩ := nw_put hF
    generalize hE9 : ue G248 57 _ = G249 at hM hE hF
    clear hE9
    have hE : G249 57 = .inr (12, [.ref q1, vi 0, .ref q2, .ref q3, vi 0, .ref q4, .ref q5, .ref q6, .ref q7, .ref q8, vi 0, .ref q9, .ref q10, .ref q11, .ref q12, vi 0, .ref q13, .ref q14, vi 0, .ref q15, .ref q16, .ref q17, vi 1000, vi 1, vi 4, vi 0, vi 0, .ref q18, .ref q19, .ref q20, .ref q21, .ref q22, .ref q23, .ref q24, .ref q25, .ref q26, .ref q27, .ref q28, .ref q29, .ref q30, .ref q31, vi 0, .ref q32, .ref q33, vi 16, vi 0, .ref q34, .ref q35, vi 0, vi 0, vi 0, vi 0, vi 0, .ref q36, vi 0, vi 0, vi 0, .ref q37, .ref q38, vi 0, .ref q39, .ref q40, .ref q41, .null, .null, .null, vi 0, vl 0, .null, .null, vi 0, .null, .null, vi 0, .null]) := hE
    refine lv_aload_n hx hb (kX12_init (i := 250) rfl) rfl (lv_at hl 0 rfl) ?_
    refine x_sipush hx hb (by decide) (kX12_init (i := 251) rfl) ?_
    refine n_newa (atype := .int) (N' := 300) (t := 0) (ty := .int) (a0 := (300, .inl (fun _ => Int32.ofInt 0))) C hM q_aI rfl rfl (fun _ _ h1 h2 => Option.some.inj (h1.symm.trans h2)) (fun _ => rfl) (by decide) (by decide) (by decide) (Nat.le_of_ble_eq_true rfl) (Nat.le_of_ble_eq_true rfl) (kX12_init (i := 252) rfl) (fun q42 H hM => ?_)
    obtain ⟨hE, hF⟩ := nw_new (e1 := .inl (cy 0, 300, .inl (fun _ => Int32.ofInt 0))) (by omega) hE hF (show _ = SM D cy E 99 from rfl)
    have had := nw_ad (q := q42) (n := 99) (by omega) had
    generalize hE9 : ue G249 99 _ = G252 at hM hE hF
    clear hE9
    refine n_putF (ty := tyX12 63) C hnm hM 57 (had 57 (by omega)).symm (by omega) hE (C0 := RX12) (Tt := TX12) (N := 75) rfl inX12 tyX12 tyX12_ok nmX12 63 (by decide) q_fX12_148 rfl rfl (by decide +kernel) rfl rfl (Nat.le_of_ble_eq_true rfl) (kX12_init (i := 253) rfl) (fun H locs hM => ?_)
    obtain ⟨hE, hF⟩ := nw_put hF
    generalize hE9 : ue G252 57 _ = G253 at hM hE hF
    clear hE9
    have hE : G253 57 = .inr (12, [.ref q1, vi 0, .ref q2, .ref q3, vi 0, .ref q4, .ref q5, .ref q6, .ref q7, .ref q8, vi 0, .ref q9, .ref q10, .ref q11, .ref q12, vi 0, .ref q13, .ref q14, vi 0, .ref q15, .ref q16, .ref q17, vi 1000, vi 1, vi 4, vi 0, vi 0, .ref q18, .ref q19, .ref q20, .ref q21, .ref q22, .ref q23, .ref q24, .ref q25, .ref q26, .ref q27, .ref q28, .ref q29, .ref q30, .ref q31, vi 0, .ref q32, .ref q33, vi 16, vi 0, .ref q34, .ref q35, vi 0, vi 0, vi 0, vi 0, vi 0, .ref q36, vi 0, vi 0, vi 0, .ref q37, .ref q38, vi 0, .ref q39, .ref q40, .ref q41, .ref q42, .null, .null, vi 0, vl 0, .null, .null, vi 0, .null, .null, vi 0, .null]) := hE
    refine lv_aload_n hx hb (kX12_init (i := 254) rfl) rfl (lv_at hl 0 rfl) ?_
    refine x_iconst hx hb (kX12_init (i := 255) rfl) ?_
    refine n_newa (atype := .int) (N' := 2) (t := 0) (ty := .int) (a0 := (2, .inl (fun _ => Int32.ofInt 0))) C hM q_aI rfl rfl (fun _ _ h1 h2 => Option.some.inj (h1.symm.trans h2)) (fun _ => rfl) (by decide) (by decide) (by decide) (Nat.le_of_ble_eq_true rfl) (Nat.le_of_ble_eq_true rfl) (kX12_init (i := 256) rfl) (fun q43 H hM => ?_)
    refine lv_dup hx hb (kX12_init (i := 257) rfl) rfl ?_
    refine x_iconst hx hb (kX12_init (i := 258) rfl) ?_
    refine x_iconst hx hb (kX12_init (i := 259) rfl) ?_
    refine n_iast (i := 0) C hM 100 (a := q43) ue_self.symm (by omega) ue_self (by decide) (kX12_init (i := 260) rfl) (fun H locs hM => ?_)
    rw [ue_ue] at hM
    refine lv_dup hx hb (kX12_init (i := 261) rfl) rfl ?_
    refine x_iconst hx hb (kX12_init (i := 262) rfl) ?_
    refine x_iconst hx hb (kX12_init (i := 263) rfl) ?_
    refine n_iast (i := 1) C hM 100 (a := q43) ue_self.symm (by omega) ue_self (by decide) (kX12_init (i := 264) rfl) (fun H locs hM => ?_)
    rw [ue_ue] at hM
    rw [ok_rb] at hM
    obtain ⟨hE, hF⟩ := nw_new (e1 := .inl (cy 0, 2, .inl (fun j => Int32.ofInt (hM0 43 j)))) (by omega) hE hF (show _ = SM D cy E 100 from rfl)
    have had := nw_ad (q := q43) (n := 100) (by omega) had
    generalize hE9 : ue G253 100 _ = G264 at hM hE hF
    clear hE9
    refine n_putF (ty := tyX12 64) C hnm hM 57 (had 57 (by omega)).symm (by omega) hE (C0 := RX12) (Tt := TX12) (N := 75) rfl inX12 tyX12 tyX12_ok nmX12 64 (by decide) q_fX12_151 rfl rfl (by decide +kernel) rfl rfl (Nat.le_of_ble_eq_true rfl) (kX12_init (i := 265) rfl) (fun H locs hM => ?_)
    obtain ⟨hE, hF⟩ := nw_put hF
    generalize hE9 : ue G264 57 _ = G265 at hM hE hF
    clear hE9
    have hE : G265 57 = .inr (12, [.ref q1, vi 0, .ref q2, .ref q3, vi 0, .ref q4, .ref q5, .ref q6, .ref q7, .ref q8, vi 0, .ref q9, .ref q10, .ref q11, .ref q12, vi 0, .ref q13, .ref q14, vi 0, .ref q15, .ref q16, .ref q17, vi 1000, vi 1, vi 4, vi 0, vi 0, .ref q18, .ref q19, .ref q20, .ref q21, .ref q22, .ref q23, .ref q24, .ref q25, .ref q26, .ref q27, .ref q28, .ref q29, .ref q30, .ref q31, vi 0, .ref q32, .ref q33, vi 16, vi 0, .ref q34, .ref q35, vi 0, vi 0, vi 0, vi 0, vi 0, .ref q36, vi 0, vi 0, vi 0, .ref q37, .ref q38, vi 0, .ref q39, .ref q40, .ref q41, .ref q42, .ref q43, .null, vi 0, vl 0, .null, .null, vi 0, .null, .null, vi 0, .null]) := hE
    refine lv_aload_n hx hb (kX12_init (i := 266) rfl) rfl (lv_at hl 0 rfl) ?_
    refine x_iconst hx hb (kX12_init (i := 267) rfl) ?_
    refine n_newa (atype := .int) (N' := 2) (t := 0) (ty := .int) (a0 := (2, .inl (fun _ => Int32.ofInt 0))) C hM q_aI rfl rfl (fun _ _ h1 h2 => Option.some.inj (h1.symm.trans h2)) (fun _ => rfl) (by decide) (by decide) (by decide) (Nat.le_of_ble_eq_true rfl) (Nat.le_of_ble_eq_true rfl) (kX12_init (i := 268) rfl) (fun q44 H hM => ?_)
    obtain ⟨hE, hF⟩ := nw_new (e1 := .inl (cy 0, 2, .inl (fun _ => Int32.ofInt 0))) (by omega) hE hF (show _ = SM D cy E 101 from rfl)
    have had := nw_ad (q := q44) (n := 101) (by omega) had
    generalize hE9 : ue G265 101 _ = G268 at hM hE hF
    clear hE9
    refine n_putF (ty := tyX12 65) C hnm hM 57 (had 57 (by omega)).symm (by omega) hE (C0 := RX12) (Tt := TX12) (N := 75) rfl inX12 tyX12 tyX12_ok nmX12 65 (by decide) q_fX12_154 rfl rfl (by decide +kernel) rfl rfl (Nat.le_of_ble_eq_true rfl) (kX12_init (i := 269) rfl) (fun H locs hM => ?_)
    obtain ⟨hE, hF⟩ := nw_put hF
    generalize hE9 : ue G268 57 _ = G269 at hM hE hF
    clear hE9
    have hE : G269 57 = .inr (12, [.ref q1, vi 0, .ref q2, .ref q3, vi 0, .ref q4, .ref q5, .ref q6, .ref q7, .ref q8, vi 0, .ref q9, .ref q10, .ref q11, .ref q12, vi 0, .ref q13, .ref q14, vi 0, .ref q15, .ref q16, .ref q17, vi 1000, vi 1, vi 4, vi 0, vi 0, .ref q18, .ref q19, .ref q20, .ref q21, .ref q22, .ref q23, .ref q24, .ref q25, .ref q26, .ref q27, .ref q28, .ref q29, .ref q30, .ref q31, vi 0, .ref q32, .ref q33, vi 16, vi 0, .ref q34, .ref q35, vi 0, vi 0, vi 0, vi 0, vi 0, .ref q36, vi 0, vi 0, vi 0, .ref q37, .ref q38, vi 0, .ref q39, .ref q40, .ref q41, .ref q42, .ref q43, .ref q44, vi 0, vl 0, .null, .null, vi 0, .null, .null, vi 0, .null]) := hE
    refine lv_aload_n hx hb (kX12_init (i := 270) rfl) rfl (lv_at hl 0 rfl) ?_
    refine x_sipush hx hb (by decide) (kX12_init (i := 271) rfl) ?_
    refine n_newa (atype := .long) (N' := 161) (t := 1) (ty := .long) (a0 := (161, .inr (.inl (fun _ => Int64.ofInt 0)))) C hM q_aJ rfl rfl (fun _ _ h1 h2 => Option.some.inj (h1.symm.trans h2)) (fun _ => rfl) (by decide) (by decide) (by decide) (Nat.le_of_ble_eq_true rfl) (Nat.le_of_ble_eq_true rfl) (kX12_init (i := 272) rfl) (fun q45 H hM => ?_)
    obtain ⟨hE, hF⟩ := nw_new (e1 := .inl (cy 1, 161, .inr (.inl (fun _ => Int64.ofInt 0)))) (by omega) hE hF (show _ = SM D cy E 102 from rfl)
    have had := nw_ad (q := q45) (n := 102) (by omega) had
    generalize hE9 : ue G269 102 _ = G272 at hM hE hF
    clear hE9
    refine n_putF (ty := tyX12 68) C hnm hM 57 (had 57 (by omega)).symm (by omega) hE (C0 := RX12) (Tt := TX12) (N := 75) rfl inX12 tyX12 tyX12_ok nmX12 68 (by decide) q_fX12_157 rfl rfl (by decide +kernel) rfl rfl (Nat.le_of_ble_eq_true rfl) (kX12_init (i := 273) rfl) (fun H locs hM => ?_)
    obtain ⟨hE, hF⟩ := nw_put hF
    generalize hE9 : ue G272 57 _ = G273 at hM hE hF
    clear hE9
    have hE : G273 57 = .inr (12, [.ref q1, vi 0, .ref q2, .ref q3, vi 0, .ref q4, .ref q5, .ref q6, .ref q7, .ref q8, vi 0, .ref q9, .ref q10, .ref q11, .ref q12, vi 0, .ref q13, .ref q14, vi 0, .ref q15, .ref q16, .ref q17, vi 1000, vi 1, vi 4, vi 0, vi 0, .ref q18, .ref q19, .ref q20, .ref q21, .ref q22, .ref q23, .ref q24, .ref q25, .ref q26, .ref q27, .ref q28, .ref q29, .ref q30, .ref q31, vi 0, .ref q32, .ref q33, vi 16, vi 0, .ref q34, .ref q35, vi 0, vi 0, vi 0, vi 0, vi 0, .ref q36, vi 0, vi 0, vi 0, .ref q37, .ref q38, vi 0, .ref q39, .ref q40, .ref q41, .ref q42, .ref q43, .ref q44, vi 0, vl 0, .ref q45, .null, vi 0, .null, .null, vi 0, .null]) := hE
    refine lv_aload_n hx hb (kX12_init (i := 274) rfl) rfl (lv_at hl 0 rfl) ?_
    refine x_sipush hx hb (by decide) (kX12_init (i := 275) rfl) ?_
    refine n_newa (atype := .boolean) (N' := 161) (t := 3) (ty := .boolean) (a0 := (161, .inl (fun _ => Int32.ofInt 0))) C hM q_aZ rfl rfl (fun _ _ h1 h2 => Option.some.inj (h1.symm.trans h2)) (fun _ => rfl) (by decide) (by decide) (by decide) (Nat.le_of_ble_eq_true rfl) (Nat.le_of_ble_eq_true rfl) (kX12_init (i := 276) rfl) (fun q46 H hM => ?_)
    obtain ⟨hE, hF⟩ := nw_new (e1 := .inl (cy 3, 161, .inl (fun _ => Int32.ofInt 0))) (by omega) hE hF (show _ = SM D cy E 103 from rfl)
    have had := nw_ad (q := q46) (n := 103) (by omega) had
    generalize hE9 : ue G273 103 _ = G276 at hM hE hF
    clear hE9
    refine n_putF (ty := tyX12 69) C hnm hM 57 (had 57 (by omega)).symm (by omega) hE (C0 := RX12) (Tt := TX12) (N := 75) rfl inX12 tyX12 tyX12_ok nmX12 69 (by decide) q_fX12_161 rfl rfl (by decide +kernel) rfl rfl (Nat.le_of_ble_eq_true rfl) (kX12_init (i := 277) rfl) (fun H locs hM => ?_)
    obtain ⟨hE, hF⟩ := nw_put hF
    generalize hE9 : ue G276 57 _ = G277 at hM hE hF
    clear hE9
    have hE : G277 57 = .inr (12, [.ref q1, vi 0, .ref q2, .ref q3, vi 0, .ref q4, .ref q5, .ref q6, .ref q7, .ref q8, vi 0, .ref q9, .ref q10, .ref q11, .ref q12, vi 0, .ref q13, .ref q14, vi 0, .ref q15, .ref q16, .ref q17, vi 1000, vi 1, vi 4, vi 0, vi 0, .ref q18, .ref q19, .ref q20, .ref q21, .ref q22, .ref q23, .ref q24, .ref q25, .ref q26, .ref q27, .ref q28, .ref q29, .ref q30, .ref q31, vi 0, .ref q32, .ref q33, vi 16, vi 0, .ref q34, .ref q35, vi 0, vi 0, vi 0, vi 0, vi 0, .ref q36, vi 0, vi 0, vi 0, .ref q37, .ref q38, vi 0, .ref q39, .ref q40, .ref q41, .ref q42, .ref q43, .ref q44, vi 0, vl 0, .ref q45, .ref q46, vi 0, .null, .null, vi 0, .null]) := hE
    refine lv_aload_n hx hb (kX12_init (i := 278) rfl) rfl (lv_at hl 0 rfl) ?_
    refine x_bipush hx hb (by decide) (kX12_init (i := 279) rfl) ?_
    refine n_newa (atype := .int) (N' := 7) (t := 0) (ty := .int) (a0 := (7, .inl (fun _ => Int32.ofInt 0))) C hM q_aI rfl rfl (fun _ _ h1 h2 => Option.some.inj (h1.symm.trans h2)) (fun _ => rfl) (by decide) (by decide) (by decide) (Nat.le_of_ble_eq_true rfl) (Nat.le_of_ble_eq_true rfl) (kX12_init (i := 280) rfl) (fun q47 H hM => ?_)
    obtain ⟨hE, hF⟩ := nw_new (e1 := .inl (cy 0, 7, .inl (fun _ => Int32.ofInt 0))) (by omega) hE hF (show _ = SM D cy E 104 from rfl)
    have had := nw_ad (q := q47) (n := 104) (by omega) had
    generalize hE9 : ue G277 104 _ = G280 at hM hE hF
    clear hE9
    refine n_putF (ty := tyX12 71) C hnm hM 57 (had 57 (by omega)).symm (by omega) hE (C0 := RX12) (Tt := TX12) (N := 75) rfl inX12 tyX12 tyX12_ok nmX12 71 (by decide) q_fX12_164 rfl rfl (by decide +kernel) rfl rfl (Nat.le_of_ble_eq_true rfl) (kX12_init (i := 281) rfl) (fun H locs hM => ?_)
    obtain ⟨hE, hF⟩ := nw_put hF
    generalize hE9 : ue G280 57 _ = G281 at hM hE hF
    clear hE9
    have hE : G281 57 = .inr (12, [.ref q1, vi 0, .ref q2, .ref q3, vi 0, .ref q4, .ref q5, .ref q6, .ref q7, .ref q8, vi 0, .ref q9, .ref q10, .ref q11, .ref q12, vi 0, .ref q13, .ref q14, vi 0, .ref q15, .ref q16, .ref q17, vi 1000, vi 1, vi 4, vi 0, vi 0, .ref q18, .ref q19, .ref q20, .ref q21, .ref q22, .ref q23, .ref q24, .ref q25, .ref q26, .ref q27, .ref q28, .ref q29, .ref q30, .ref q31, vi 0, .ref q32, .ref q33, vi 16, vi 0, .ref q34, .ref q35, vi 0, vi 0, vi 0, vi 0, vi 0, .ref q36, vi 0, vi 0, vi 0, .ref q37, .ref q38, vi 0, .ref q39, .ref q40, .ref q41, .ref q42, .ref q43, .ref q44, vi 0, vl 0, .ref q45, .ref q46, vi 0, .ref q47, .null, vi 0, .null]) := hE
    refine lv_aload_n hx hb (kX12_init (i := 282) rfl) rfl (lv_at hl 0 rfl) ?_
    refine x_sipush hx hb (by decide) (kX12_init (i := 283) rfl) ?_
    refine n_newa (atype := .int) (N' := 300) (t := 0) (ty := .int) (a0 := (300, .inl (fun _ => Int32.ofInt 0))) C hM q_aI rfl rfl (fun _ _ h1 h2 => Option.some.inj (h1.symm.trans h2)) (fun _ => rfl) (by decide) (by decide) (by decide) (Nat.le_of_ble_eq_true rfl) (Nat.le_of_ble_eq_true rfl) (kX12_init (i := 284) rfl) (fun q48 H hM => ?_)
    obtain ⟨hE, hF⟩ := nw_new (e1 := .inl (cy 0, 300, .inl (fun _ => Int32.ofInt 0))) (by omega) hE hF (show _ = SM D cy E 105 from rfl)
    have had := nw_ad (q := q48) (n := 105) (by omega) had
    generalize hE9 : ue G281 105 _ = G284 at hM hE hF
    clear hE9
    refine n_putF (ty := tyX12 72) C hnm hM 57 (had 57 (by omega)).symm (by omega) hE (C0 := RX12) (Tt := TX12) (N := 75) rfl inX12 tyX12 tyX12_ok nmX12 72 (by decide) q_fX12_167 rfl rfl (by decide +kernel) rfl rfl (Nat.le_of_ble_eq_true rfl) (kX12_init (i := 285) rfl) (fun H locs hM => ?_)
    obtain ⟨hE, hF⟩ := nw_put hF
    generalize hE9 : ue G284 57 _ = G285 at hM hE hF
    clear hE9
    have hE : G285 57 = .inr (12, [.ref q1, vi 0, .ref q2, .ref q3, vi 0, .ref q4, .ref q5, .ref q6, .ref q7, .ref q8, vi 0, .ref q9, .ref q10, .ref q11, .ref q12, vi 0, .ref q13, .ref q14, vi 0, .ref q15, .ref q16, .ref q17, vi 1000, vi 1, vi 4, vi 0, vi 0, .ref q18, .ref q19, .ref q20, .ref q21, .ref q22, .ref q23, .ref q24, .ref q25, .ref q26, .ref q27, .ref q28, .ref q29, .ref q30, .ref q31, vi 0, .ref q32, .ref q33, vi 16, vi 0, .ref q34, .ref q35, vi 0, vi 0, vi 0, vi 0, vi 0, .ref q36, vi 0, vi 0, vi 0, .ref q37, .ref q38, vi 0, .ref q39, .ref q40, .ref q41, .ref q42, .ref q43, .ref q44, vi 0, vl 0, .ref q45, .ref q46, vi 0, .ref q47, .ref q48, vi 0, .null]) := hE
    refine lv_aload_n hx hb (kX12_init (i := 286) rfl) rfl (lv_at hl 0 rfl) ?_
    refine x_sipush hx hb (by decide) (kX12_init (i := 287) rfl) ?_
    refine n_newa (atype := .int) (N' := 481) (t := 0) (ty := .int) (a0 := (481, .inl (fun _ => Int32.ofInt 0))) C hM q_aI rfl rfl (fun _ _ h1 h2 => Option.some.inj (h1.symm.trans h2)) (fun _ => rfl) (by decide) (by decide) (by decide) (Nat.le_of_ble_eq_true rfl) (Nat.le_of_ble_eq_true rfl) (kX12_init (i := 288) rfl) (fun q49 H hM => ?_)
    obtain ⟨hE, hF⟩ := nw_new (e1 := .inl (cy 0, 481, .inl (fun _ => Int32.ofInt 0))) (by omega) hE hF (show _ = SM D cy E 106 from rfl)
    have had := nw_ad (q := q49) (n := 106) (by omega) had
    generalize hE9 : ue G285 106 _ = G288 at hM hE hF
    clear hE9
    refine n_putF (ty := tyX12 74) C hnm hM 57 (had 57 (by omega)).symm (by omega) hE (C0 := RX12) (Tt := TX12) (N := 75) rfl inX12 tyX12 tyX12_ok nmX12 74 (by decide) q_fX12_170 rfl rfl (by decide +kernel) rfl rfl (Nat.le_of_ble_eq_true rfl) (kX12_init (i := 289) rfl) (fun H locs hM => ?_)
    obtain ⟨hE, hF⟩ := nw_put hF
    generalize hE9 : ue G288 57 _ = G289 at hM hE hF
    clear hE9
    have hE : G289 57 = .inr (12, [.ref q1, vi 0, .ref q2, .ref q3, vi 0, .ref q4, .ref q5, .ref q6, .ref q7, .ref q8, vi 0, .ref q9, .ref q10, .ref q11, .ref q12, vi 0, .ref q13, .ref q14, vi 0, .ref q15, .ref q16, .ref q17, vi 1000, vi 1, vi 4, vi 0, vi 0, .ref q18, .ref q19, .ref q20, .ref q21, .ref q22, .ref q23, .ref q24, .ref q25, .ref q26, .ref q27, .ref q28, .ref q29, .ref q30, .ref q31, vi 0, .ref q32, .ref q33, vi 16, vi 0, .ref q34, .ref q35, vi 0, vi 0, vi 0, vi 0, vi 0, .ref q36, vi 0, vi 0, vi 0, .ref q37, .ref q38, vi 0, .ref q39, .ref q40, .ref q41, .ref q42, .ref q43, .ref q44, vi 0, vl 0, .ref q45, .ref q46, vi 0, .ref q47, .ref q48, vi 0, .ref q49]) := hE
    refine n_ret C hr hlk hM had (fun j hj => ?_) rfl rfl (kX12_init (i := 290) rfl)
    by_cases h1 : j = 57
    · subst h1; rw [hE]; rfl
    · rw [hF j h1 hj]
      unfold SM EM
      by_cases h2 : j < 57
      · rw [if_pos h2, if_pos h2]
      · rw [if_neg h2, if_neg h2]
        exact eM_ad (j - 57) (by omega) (by omega) _
  exact key _ _ hM
