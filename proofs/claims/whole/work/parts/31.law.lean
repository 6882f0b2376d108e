/-! THE LAW, open in the relation and its simulations (laid by gen_law.py) -/
section LAW
variable {p : Program} {l : Launch} {e : Env} {s : State} {m : MethodId} {args : Array Value} {below : List Frame} {meth : Method} {c : Code} {H : Heap} {locs : List Loc} {Q : State → Prop}
variable {cc : ByteArray} {pc nL : Nat} {own : String} {rt0 : Option FieldType} {Θ : Th} {g h g' h' : Mem} {ls : Array Slot} {rest st0 : List Value}
theorem xl_run {a : Array Value} {res : Option Value} (hS : va_S (AA Θ s.heap.size) s.heap H locs) (hr : va_Run p l e room_1 s m args below meth c H locs 107 12186 0 0 (F0 m pc ls st0) rest (Qx Θ H.size g' h' res a) (AA Θ H.size))
    (kk : ∀ (H1 : Heap) (locs1 : List Loc), Hd Θ s g' h' H1 locs1 → W p l e room_1 s m args below meth c H1 locs1 107 12186 Q (F0 m (pc + 3) ls (res.toList ++ rest))) : W p l e room_1 s m args below meth c H locs 107 12186 Q (F0 m pc ls st0) := by
  intro T hT X
  obtain ⟨v, st₀, t, T', L, h0, X', hL, e1, e2, ⟨hv, hP, hz, hk⟩, st⟩ := hr T hT X
  cases hv
  rw [h0] at hz hk
  have hn := AA_le (Θ := Θ) hS.1
  obtain ⟨t2, a1, b1⟩ := kk T'.heap (locs ++ L) ⟨by rw [e1]; exact hP, Nat.le_trans hS.1 (by rw [e1]; exact hz), fun q h1 h2 => by rw [e1, hk q (Nat.lt_of_lt_of_le h1 hS.1) (fun z => h2 (hn q z))]; exact hS.2.1 q h1 h2, fun q hq => by
      rcases List.mem_append.mp hq with h | h
      · exact hS.2.2 q h
      · exact hn _ (hL q h)⟩ T' rfl X'
  exact ⟨t2, st t2 a1, b1⟩
theorem xl_callV {y : MethodName} {bytes : ByteArray} {maxL fr lo index n b : Nat} {rt : Option FieldType} {As : List Value} {res : Option Value} (C : Cx p s m args meth c cc nL own rt0 Θ) (hM : Hd Θ s g h H locs) (hct : Ct l y bytes maxL rt fr lo Θ (.ref b :: As) g h g' h' res)
    (hrv : ∃ cell : Cell, H[b]? = some cell ∧ cell.vm.isStatics = false ∧ s.vm.findClass y.cls = some cell.cls)
    (hc : Cond.code y bytes maxL rt ∈ lw_g) (hlk : Cond.methodLink own index y ∈ lw_g) (hit : Cond.instanceMethod y ∈ lw_g) (hse : Cond.selects y.cls y y ∈ lw_g) (hini : Cond.initialized y.cls ∈ lw_g)
    (hd : y.cls ≠ "java/lang/invoke/MethodHandle" ∧ y.cls ≠ "java/lang/invoke/VarHandle" ∧ (parseMethodDescriptor y.desc).map (fun d => d.parameters.length) = some n) (hR : fr + 1 ≤ room_1.frames ∧ 8 + (maxL + 11) + lo ≤ room_1.locals)
    (hn : As.length = n) (hl : ls.size = nL) (hs0 : st0 = As.reverse ++ .ref b :: rest) (hrm : (rest.map fun v => v.category).sum ≤ 8) (hdg : decode cc pc = .ok (.invokevirtual index, 3))
    (kk : ∀ (H1 : Heap) (locs1 : List Loc), Hd Θ s g' h' H1 locs1 → W p l e room_1 s m args below meth c H1 locs1 107 12186 Q (F0 m (pc + 3) ls (res.toList ++ rest))) : W p l e room_1 s m args below meth c H locs 107 12186 Q (F0 m pc ls st0) := by
  obtain ⟨hx, hb, hml, hown, hts, -⟩ := id C
  exact xl_run hM.2 (va_runV (C := y.cls) ⟨hx, hb, hml, hown, hts⟩ (hct H.size) ⟨callB_of n hts (good_in hc) rfl rfl rfl (hts _ hini) (hts _ hlk) hd hR, hts _ hit, hts _ hse⟩ ⟨Wd_blind, hrv, (x_preS C hM).2⟩ rfl hn hl hs0 (lv_room hrm) hdg ⟨by decide, by decide⟩) kk
theorem xl_scr {b L : Nat} {xs : Nat → Int32} {j : Nat} {z : Int} (C : Cx p s m args meth c cc nL own rt0 Θ) (hM : Hd Θ s g h H locs) (hX : va_X b L xs s s.heap) (hbl : b < s.heap.size) (hbA : ¬ AA Θ s.heap.size b) (hL : L ≤ 3072) (hj : j < L) (hz : z = (j : Int)) (hdg : decode cc pc = .ok (.iaload, 1))
    (kk : W p l e room_1 s m args below meth c H locs 107 12186 Q (F0 m (pc + 1) ls (vi (sc xs j) :: rest))) : W p l e room_1 s m args below meth c H locs 107 12186 Q (F0 m pc ls (vi z :: .ref b :: rest)) := by
  have hw : wr z = (j : Int) := by rw [hz]; exact wr_id (by omega) (by omega)
  refine va_sld C.1 C.2.1 hX hbl hbA hM.2 (vpin (n := L) (by rw [hw]; omega)) hdg ?_
  rw [clamp, hw, Int.toNat_natCast]
  have e1 : vi (sc xs j) = .int (xs j) := by unfold vi sc; rw [oi]
  rw [← e1]
  exact kk
theorem xl_tableIn {x : Int} {dflt lo hi off : Int} {offs : Array Int} {len tgt : Nat} (v : Int) (hv : wr x = v) (hx : p.tables.exec = Jvm.exec) (hb : c.code = cc) (hdg : decode cc pc = .ok (.tableswitch dflt lo hi offs, len)) (h1 : ¬ v < lo) (h2 : ¬ hi < v) (ho : offs[(v - lo).toNat]? = some off) (ht : (pc : Int) + off = (tgt : Int)) (k : W p l e room_1 s m args below meth c H locs 107 12186 Q (F0 m tgt ls rest)) : W p l e room_1 s m args below meth c H locs 107 12186 Q (F0 m pc ls (vi x :: rest)) := by
  subst hv
  exact lv_tableIn hx hb hdg (by rw [ti]; exact h1) (by rw [ti]; exact h2) (by rw [ti]; exact ho) ht k
theorem xl_tableOut {x : Int} {dflt lo hi : Int} {offs : Array Int} {len tgt : Nat} (hx : p.tables.exec = Jvm.exec) (hb : c.code = cc) (hdg : decode cc pc = .ok (.tableswitch dflt lo hi offs, len)) (h1 : wr x < lo ∨ hi < wr x) (ht : (pc : Int) + dflt = (tgt : Int)) (k : W p l e room_1 s m args below meth c H locs 107 12186 Q (F0 m tgt ls rest)) : W p l e room_1 s m args below meth c H locs 107 12186 Q (F0 m pc ls (vi x :: rest)) :=
  lv_tableOut hx hb hdg (by rw [ti]; exact h1) ht k
end LAW
set_option maxRecDepth 100000 in
set_option maxHeartbeats 4000000 in
theorem lc_0 {p : Program} {l : Launch} {e : Env} {s : State} {m : MethodId} {args : Array Value} {below : List Frame} {meth : Method} {c : Code} {Q : State → Prop} {rt0 : Option FieldType} {Θ : Th} {RR : Nat → Mem → Mem → Prop} {b L : Nat} {xs : Nat → Int32} (C : Cx p s m args meth c cL_law 4 RL rt0 Θ) (hX : va_X b L xs s s.heap) (hbl : b < s.heap.size) (hbA : ¬ AA Θ s.heap.size b) (hL : L ≤ 3072) (hsim : Sim_slice RR) {i : Nat} (hi : i + 6 ≤ L) {g h : Mem} {H : Heap} {locs : List Loc} {ls : Array Slot} (hR : RR i g h) (hM : Hd Θ s g h H locs) (hl : lv_has ls 4 [(0, .ref b), (1, .ref (Θ.2.2.1 0)), (2, .ref (Θ.2.2.2 0)), (3, vi (i : Int))])
    (kk : ∀ (g' h' : Mem) (H : Heap) (locs : List Loc), RR (i + 1) g' h' → Hd Θ s g' h' H locs → W p l e room_1 s m args below meth c H locs 107 12186 Q (F0 m 1139 ls [])) : W p l e room_1 s m args below meth c H locs 107 12186 Q (F0 m 180 ls []) := by
  obtain ⟨hx, hb, hml, hown, hts, -⟩ := id C
  obtain ⟨r, r2, g', h', hf1, hf2, hrr, hR⟩ := hsim i g h (sc xs (i + 1)) (sc xs (i + 2)) (sc xs (i + 3)) (by omega) hR (sc_ir xs _) (sc_ir xs _) (sc_ir xs _)
  refine lv_aload_n hx hb (kL0 (i := 22) rfl) rfl (lv_at hl 1 rfl) ?_
  refine lv_aload_n hx hb (kL0 (i := 23) rfl) rfl (lv_at hl 0 rfl) ?_
  refine x_iload_n hx hb (kL0 (i := 24) rfl) rfl (lv_at hl 3 rfl) ?_
  refine x_iconst hx hb (kL0 (i := 25) rfl) ?_
  refine x_iadd hx hb (kL0 (i := 26) rfl) ?_
  refine xl_scr (j := i + 1) C hM hX hbl hbA hL (by omega) (by omega) (kL0 (i := 27) rfl) ?_
  refine lv_aload_n hx hb (kL0 (i := 28) rfl) rfl (lv_at hl 0 rfl) ?_
  refine x_iload_n hx hb (kL0 (i := 29) rfl) rfl (lv_at hl 3 rfl) ?_
  refine x_iconst hx hb (kL0 (i := 30) rfl) ?_
  refine x_iadd hx hb (kL0 (i := 31) rfl) ?_
  refine xl_scr (j := i + 2) C hM hX hbl hbA hL (by omega) (by omega) (kL0 (i := 32) rfl) ?_
  refine lv_aload_n hx hb (kL0 (i := 33) rfl) rfl (lv_at hl 0 rfl) ?_
  refine x_iload_n hx hb (kL0 (i := 34) rfl) rfl (lv_at hl 3 rfl) ?_
  refine x_iconst hx hb (kL0 (i := 35) rfl) ?_
  refine x_iadd hx hb (kL0 (i := 36) rfl) ?_
  refine xl_scr (j := i + 3) C hM hX hbl hbA hL (by omega) (by omega) (kL0 (i := 37) rfl) ?_
  refine xl_callV (n := 3) (As := [vi (sc xs (i + 1)), vi (sc xs (i + 2)), vi (sc xs (i + 3))]) (rest := []) C hM (tX11_slice l Θ (sc xs (i + 1)) (sc xs (i + 2)) (sc xs (i + 3)) h g r g' hf1) (x_recvX C hM 0 (by decide) (eX_0 Θ _) rfl rfl) q_c_X11_slice q_mL_13 q_i_X11_slice q_e_X11_slice q_n_X11 (by decide +kernel) ⟨by decide, by decide⟩ rfl hl.1 rfl (Nat.le_of_ble_eq_true rfl) (kL0 (i := 38) rfl) (fun H locs hM => ?_)
  refine lv_aload_n hx hb (kL0 (i := 39) rfl) rfl (lv_at hl 2 rfl) ?_
  refine lv_aload_n hx hb (kL0 (i := 40) rfl) rfl (lv_at hl 0 rfl) ?_
  refine x_iload_n hx hb (kL0 (i := 41) rfl) rfl (lv_at hl 3 rfl) ?_
  refine x_iconst hx hb (kL0 (i := 42) rfl) ?_
  refine x_iadd hx hb (kL0 (i := 43) rfl) ?_
  refine xl_scr (j := i + 1) C hM hX hbl hbA hL (by omega) (by omega) (kL0 (i := 44) rfl) ?_
  refine lv_aload_n hx hb (kL0 (i := 45) rfl) rfl (lv_at hl 0 rfl) ?_
  refine x_iload_n hx hb (kL0 (i := 46) rfl) rfl (lv_at hl 3 rfl) ?_
  refine x_iconst hx hb (kL0 (i := 47) rfl) ?_
  refine x_iadd hx hb (kL0 (i := 48) rfl) ?_
  refine xl_scr (j := i + 2) C hM hX hbl hbA hL (by omega) (by omega) (kL0 (i := 49) rfl) ?_
  refine lv_aload_n hx hb (kL0 (i := 50) rfl) rfl (lv_at hl 0 rfl) ?_
  refine x_iload_n hx hb (kL0 (i := 51) rfl) rfl (lv_at hl 3 rfl) ?_
  refine x_iconst hx hb (kL0 (i := 52) rfl) ?_
  refine x_iadd hx hb (kL0 (i := 53) rfl) ?_
  refine xl_scr (j := i + 3) C hM hX hbl hbA hL (by omega) (by omega) (kL0 (i := 54) rfl) ?_
  refine xl_callV (n := 3) (As := [vi (sc xs (i + 1)), vi (sc xs (i + 2)), vi (sc xs (i + 3))]) (rest := [vi r]) C hM (tX12_slice l Θ (sc xs (i + 1)) (sc xs (i + 2)) (sc xs (i + 3)) g' h r2 h' hf2) (x_recvM C hM 0 (by decide) (eM_0 Θ _) rfl rfl) q_c_X12_slice q_mL_17 q_i_X12_slice q_e_X12_slice q_n_X12 (by decide +kernel) ⟨by decide, by decide⟩ rfl hl.1 rfl (Nat.le_of_ble_eq_true rfl) (kL0 (i := 55) rfl) (fun H locs hM => ?_)
  exact x_icmp_eq (a' := wr r) (b' := wr r2) hx hb rfl rfl (tgt := 1139) (kL0 (i := 56) rfl) (by decide) (fun _ => kk _ _ _ _ hR hM) (fun q => absurd hrr q)
set_option maxRecDepth 100000 in
set_option maxHeartbeats 4000000 in
theorem lc_1 {p : Program} {l : Launch} {e : Env} {s : State} {m : MethodId} {args : Array Value} {below : List Frame} {meth : Method} {c : Code} {Q : State → Prop} {rt0 : Option FieldType} {Θ : Th} {RR : Nat → Mem → Mem → Prop} {b L : Nat} {xs : Nat → Int32} (C : Cx p s m args meth c cL_law 4 RL rt0 Θ) (hX : va_X b L xs s s.heap) (hbl : b < s.heap.size) (hbA : ¬ AA Θ s.heap.size b) (hL : L ≤ 3072) (hsim : Sim_weight RR) {i : Nat} (hi : i + 6 ≤ L) {g h : Mem} {H : Heap} {locs : List Loc} {ls : Array Slot} (hR : RR i g h) (hM : Hd Θ s g h H locs) (hl : lv_has ls 4 [(0, .ref b), (1, .ref (Θ.2.2.1 0)), (2, .ref (Θ.2.2.2 0)), (3, vi (i : Int))])
    (kk : ∀ (g' h' : Mem) (H : Heap) (locs : List Loc), RR (i + 1) g' h' → Hd Θ s g' h' H locs → W p l e room_1 s m args below meth c H locs 107 12186 Q (F0 m 1139 ls [])) : W p l e room_1 s m args below meth c H locs 107 12186 Q (F0 m 223 ls []) := by
  obtain ⟨hx, hb, hml, hown, hts, -⟩ := id C
  obtain ⟨r, r2, g', h', hf1, hf2, hrr, hR⟩ := hsim i g h (sc xs (i + 1)) (sc xs (i + 2)) (sc xs (i + 3)) (sc xs (i + 4)) (by omega) hR (sc_ir xs _) (sc_ir xs _) (sc_ir xs _) (sc_ir xs _)
  refine lv_aload_n hx hb (kL0 (i := 59) rfl) rfl (lv_at hl 1 rfl) ?_
  refine lv_aload_n hx hb (kL0 (i := 60) rfl) rfl (lv_at hl 0 rfl) ?_
  refine x_iload_n hx hb (kL0 (i := 61) rfl) rfl (lv_at hl 3 rfl) ?_
  refine x_iconst hx hb (kL0 (i := 62) rfl) ?_
  refine x_iadd hx hb (kL0 (i := 63) rfl) ?_
  refine xl_scr (j := i + 1) C hM hX hbl hbA hL (by omega) (by omega) (kL0 (i := 64) rfl) ?_
  refine lv_aload_n hx hb (kL0 (i := 65) rfl) rfl (lv_at hl 0 rfl) ?_
  refine x_iload_n hx hb (kL0 (i := 66) rfl) rfl (lv_at hl 3 rfl) ?_
  refine x_iconst hx hb (kL0 (i := 67) rfl) ?_
  refine x_iadd hx hb (kL0 (i := 68) rfl) ?_
  refine xl_scr (j := i + 2) C hM hX hbl hbA hL (by omega) (by omega) (kL0 (i := 69) rfl) ?_
  refine lv_aload_n hx hb (kL0 (i := 70) rfl) rfl (lv_at hl 0 rfl) ?_
  refine x_iload_n hx hb (kL0 (i := 71) rfl) rfl (lv_at hl 3 rfl) ?_
  refine x_iconst hx hb (kL0 (i := 72) rfl) ?_
  refine x_iadd hx hb (kL0 (i := 73) rfl) ?_
  refine xl_scr (j := i + 3) C hM hX hbl hbA hL (by omega) (by omega) (kL0 (i := 74) rfl) ?_
  refine lv_aload_n hx hb (kL0 (i := 75) rfl) rfl (lv_at hl 0 rfl) ?_
  refine x_iload_n hx hb (kL0 (i := 76) rfl) rfl (lv_at hl 3 rfl) ?_
  refine x_iconst hx hb (kL0 (i := 77) rfl) ?_
  refine x_iadd hx hb (kL0 (i := 78) rfl) ?_
  refine xl_scr (j := i + 4) C hM hX hbl hbA hL (by omega) (by omega) (kL0 (i := 79) rfl) ?_
  refine xl_callV (n := 4) (As := [vi (sc xs (i + 1)), vi (sc xs (i + 2)), vi (sc xs (i + 3)), vi (sc xs (i + 4))]) (rest := []) C hM (tX11_weight l Θ (sc xs (i + 1)) (sc xs (i + 2)) (sc xs (i + 3)) (sc xs (i + 4)) h g r g' hf1) (x_recvX C hM 0 (by decide) (eX_0 Θ _) rfl rfl) q_c_X11_weight q_mL_18 q_i_X11_weight q_e_X11_weight q_n_X11 (by decide +kernel) ⟨by decide, by decide⟩ rfl hl.1 rfl (Nat.le_of_ble_eq_true rfl) (kL0 (i := 80) rfl) (fun H locs hM => ?_)
  refine lv_aload_n hx hb (kL0 (i := 81) rfl) rfl (lv_at hl 2 rfl) ?_
  refine lv_aload_n hx hb (kL0 (i := 82) rfl) rfl (lv_at hl 0 rfl) ?_
  refine x_iload_n hx hb (kL0 (i := 83) rfl) rfl (lv_at hl 3 rfl) ?_
  refine x_iconst hx hb (kL0 (i := 84) rfl) ?_
  refine x_iadd hx hb (kL0 (i := 85) rfl) ?_
  refine xl_scr (j := i + 1) C hM hX hbl hbA hL (by omega) (by omega) (kL0 (i := 86) rfl) ?_
  refine lv_aload_n hx hb (kL0 (i := 87) rfl) rfl (lv_at hl 0 rfl) ?_
  refine x_iload_n hx hb (kL0 (i := 88) rfl) rfl (lv_at hl 3 rfl) ?_
  refine x_iconst hx hb (kL0 (i := 89) rfl) ?_
  refine x_iadd hx hb (kL0 (i := 90) rfl) ?_
  refine xl_scr (j := i + 2) C hM hX hbl hbA hL (by omega) (by omega) (kL0 (i := 91) rfl) ?_
  refine lv_aload_n hx hb (kL0 (i := 92) rfl) rfl (lv_at hl 0 rfl) ?_
  refine x_iload_n hx hb (kL0 (i := 93) rfl) rfl (lv_at hl 3 rfl) ?_
  refine x_iconst hx hb (kL0 (i := 94) rfl) ?_
  refine x_iadd hx hb (kL0 (i := 95) rfl) ?_
  refine xl_scr (j := i + 3) C hM hX hbl hbA hL (by omega) (by omega) (kL0 (i := 96) rfl) ?_
  refine lv_aload_n hx hb (kL0 (i := 97) rfl) rfl (lv_at hl 0 rfl) ?_
  refine x_iload_n hx hb (kL0 (i := 98) rfl) rfl (lv_at hl 3 rfl) ?_
  refine x_iconst hx hb (kL0 (i := 99) rfl) ?_
  refine x_iadd hx hb (kL1 (i := 0) rfl) ?_
  refine xl_scr (j := i + 4) C hM hX hbl hbA hL (by omega) (by omega) (kL1 (i := 1) rfl) ?_
  refine xl_callV (n := 4) (As := [vi (sc xs (i + 1)), vi (sc xs (i + 2)), vi (sc xs (i + 3)), vi (sc xs (i + 4))]) (rest := [vi r]) C hM (tX12_weight l Θ (sc xs (i + 1)) (sc xs (i + 2)) (sc xs (i + 3)) (sc xs (i + 4)) g' h r2 h' hf2) (x_recvM C hM 0 (by decide) (eM_0 Θ _) rfl rfl) q_c_X12_weight q_mL_22 q_i_X12_weight q_e_X12_weight q_n_X12 (by decide +kernel) ⟨by decide, by decide⟩ rfl hl.1 rfl (Nat.le_of_ble_eq_true rfl) (kL1 (i := 2) rfl) (fun H locs hM => ?_)
  exact x_icmp_eq (a' := wr r) (b' := wr r2) hx hb rfl rfl (tgt := 1139) (kL1 (i := 3) rfl) (by decide) (fun _ => kk _ _ _ _ hR hM) (fun q => absurd hrr q)
set_option maxRecDepth 100000 in
set_option maxHeartbeats 4000000 in
theorem lc_2 {p : Program} {l : Launch} {e : Env} {s : State} {m : MethodId} {args : Array Value} {below : List Frame} {meth : Method} {c : Code} {Q : State → Prop} {rt0 : Option FieldType} {Θ : Th} {RR : Nat → Mem → Mem → Prop} {b L : Nat} {xs : Nat → Int32} (C : Cx p s m args meth c cL_law 4 RL rt0 Θ) (hX : va_X b L xs s s.heap) (hbl : b < s.heap.size) (hbA : ¬ AA Θ s.heap.size b) (hL : L ≤ 3072) (hsim : Sim_lose RR) {i : Nat} (hi : i + 6 ≤ L) {g h : Mem} {H : Heap} {locs : List Loc} {ls : Array Slot} (hR : RR i g h) (hM : Hd Θ s g h H locs) (hl : lv_has ls 4 [(0, .ref b), (1, .ref (Θ.2.2.1 0)), (2, .ref (Θ.2.2.2 0)), (3, vi (i : Int))])
    (kk : ∀ (g' h' : Mem) (H : Heap) (locs : List Loc), RR (i + 1) g' h' → Hd Θ s g' h' H locs → W p l e room_1 s m args below meth c H locs 107 12186 Q (F0 m 1139 ls [])) : W p l e room_1 s m args below meth c H locs 107 12186 Q (F0 m 276 ls []) := by
  obtain ⟨hx, hb, hml, hown, hts, -⟩ := id C
  obtain ⟨r, r2, g', h', hf1, hf2, hrr, hR⟩ := hsim i g h (sc xs (i + 1)) (by omega) hR (sc_ir xs _)
  refine lv_aload_n hx hb (kL1 (i := 6) rfl) rfl (lv_at hl 1 rfl) ?_
  refine lv_aload_n hx hb (kL1 (i := 7) rfl) rfl (lv_at hl 0 rfl) ?_
  refine x_iload_n hx hb (kL1 (i := 8) rfl) rfl (lv_at hl 3 rfl) ?_
  refine x_iconst hx hb (kL1 (i := 9) rfl) ?_
  refine x_iadd hx hb (kL1 (i := 10) rfl) ?_
  refine xl_scr (j := i + 1) C hM hX hbl hbA hL (by omega) (by omega) (kL1 (i := 11) rfl) ?_
  refine xl_callV (n := 1) (As := [vi (sc xs (i + 1))]) (rest := []) C hM (tX11_lose l Θ (sc xs (i + 1)) h g r g' hf1) (x_recvX C hM 0 (by decide) (eX_0 Θ _) rfl rfl) q_c_X11_lose q_mL_23 q_i_X11_lose q_e_X11_lose q_n_X11 (by decide +kernel) ⟨by decide, by decide⟩ rfl hl.1 rfl (Nat.le_of_ble_eq_true rfl) (kL1 (i := 12) rfl) (fun H locs hM => ?_)
  refine lv_aload_n hx hb (kL1 (i := 13) rfl) rfl (lv_at hl 2 rfl) ?_
  refine lv_aload_n hx hb (kL1 (i := 14) rfl) rfl (lv_at hl 0 rfl) ?_
  refine x_iload_n hx hb (kL1 (i := 15) rfl) rfl (lv_at hl 3 rfl) ?_
  refine x_iconst hx hb (kL1 (i := 16) rfl) ?_
  refine x_iadd hx hb (kL1 (i := 17) rfl) ?_
  refine xl_scr (j := i + 1) C hM hX hbl hbA hL (by omega) (by omega) (kL1 (i := 18) rfl) ?_
  refine xl_callV (n := 1) (As := [vi (sc xs (i + 1))]) (rest := [vi r]) C hM (tX12_lose l Θ (sc xs (i + 1)) g' h r2 h' hf2) (x_recvM C hM 0 (by decide) (eM_0 Θ _) rfl rfl) q_c_X12_lose q_mL_27 q_i_X12_lose q_e_X12_lose q_n_X12 (by decide +kernel) ⟨by decide, by decide⟩ rfl hl.1 rfl (Nat.le_of_ble_eq_true rfl) (kL1 (i := 19) rfl) (fun H locs hM => ?_)
  exact x_icmp_eq (a' := wr r) (b' := wr r2) hx hb rfl rfl (tgt := 1139) (kL1 (i := 20) rfl) (by decide) (fun _ => kk _ _ _ _ hR hM) (fun q => absurd hrr q)
set_option maxRecDepth 100000 in
set_option maxHeartbeats 4000000 in
theorem lc_3 {p : Program} {l : Launch} {e : Env} {s : State} {m : MethodId} {args : Array Value} {below : List Frame} {meth : Method} {c : Code} {Q : State → Prop} {rt0 : Option FieldType} {Θ : Th} {RR : Nat → Mem → Mem → Prop} {b L : Nat} {xs : Nat → Int32} (C : Cx p s m args meth c cL_law 4 RL rt0 Θ) (hX : va_X b L xs s s.heap) (hbl : b < s.heap.size) (hbA : ¬ AA Θ s.heap.size b) (hL : L ≤ 3072) (hsim : Sim_tank RR) {i : Nat} (hi : i + 6 ≤ L) {g h : Mem} {H : Heap} {locs : List Loc} {ls : Array Slot} (hR : RR i g h) (hM : Hd Θ s g h H locs) (hl : lv_has ls 4 [(0, .ref b), (1, .ref (Θ.2.2.1 0)), (2, .ref (Θ.2.2.2 0)), (3, vi (i : Int))])
    (kk : ∀ (g' h' : Mem) (H : Heap) (locs : List Loc), RR (i + 1) g' h' → Hd Θ s g' h' H locs → W p l e room_1 s m args below meth c H locs 107 12186 Q (F0 m 1139 ls [])) : W p l e room_1 s m args below meth c H locs 107 12186 Q (F0 m 299 ls []) := by
  obtain ⟨hx, hb, hml, hown, hts, -⟩ := id C
  obtain ⟨r, r2, g', h', hf1, hf2, hrr, hR⟩ := hsim i g h (sc xs (i + 1)) (sc xs (i + 2)) (sc xs (i + 3)) (by omega) hR (sc_ir xs _) (sc_ir xs _) (sc_ir xs _)
  refine lv_aload_n hx hb (kL1 (i := 23) rfl) rfl (lv_at hl 1 rfl) ?_
  refine lv_aload_n hx hb (kL1 (i := 24) rfl) rfl (lv_at hl 0 rfl) ?_
  refine x_iload_n hx hb (kL1 (i := 25) rfl) rfl (lv_at hl 3 rfl) ?_
  refine x_iconst hx hb (kL1 (i := 26) rfl) ?_
  refine x_iadd hx hb (kL1 (i := 27) rfl) ?_
  refine xl_scr (j := i + 1) C hM hX hbl hbA hL (by omega) (by omega) (kL1 (i := 28) rfl) ?_
  refine lv_aload_n hx hb (kL1 (i := 29) rfl) rfl (lv_at hl 0 rfl) ?_
  refine x_iload_n hx hb (kL1 (i := 30) rfl) rfl (lv_at hl 3 rfl) ?_
  refine x_iconst hx hb (kL1 (i := 31) rfl) ?_
  refine x_iadd hx hb (kL1 (i := 32) rfl) ?_
  refine xl_scr (j := i + 2) C hM hX hbl hbA hL (by omega) (by omega) (kL1 (i := 33) rfl) ?_
  refine lv_aload_n hx hb (kL1 (i := 34) rfl) rfl (lv_at hl 0 rfl) ?_
  refine x_iload_n hx hb (kL1 (i := 35) rfl) rfl (lv_at hl 3 rfl) ?_
  refine x_iconst hx hb (kL1 (i := 36) rfl) ?_
  refine x_iadd hx hb (kL1 (i := 37) rfl) ?_
  refine xl_scr (j := i + 3) C hM hX hbl hbA hL (by omega) (by omega) (kL1 (i := 38) rfl) ?_
  refine xl_callV (n := 3) (As := [vi (sc xs (i + 1)), vi (sc xs (i + 2)), vi (sc xs (i + 3))]) (rest := []) C hM (tX11_tank l Θ (sc xs (i + 1)) (sc xs (i + 2)) (sc xs (i + 3)) h g r g' hf1) (x_recvX C hM 0 (by decide) (eX_0 Θ _) rfl rfl) q_c_X11_tank q_mL_28 q_i_X11_tank q_e_X11_tank q_n_X11 (by decide +kernel) ⟨by decide, by decide⟩ rfl hl.1 rfl (Nat.le_of_ble_eq_true rfl) (kL1 (i := 39) rfl) (fun H locs hM => ?_)
  refine lv_aload_n hx hb (kL1 (i := 40) rfl) rfl (lv_at hl 2 rfl) ?_
  refine lv_aload_n hx hb (kL1 (i := 41) rfl) rfl (lv_at hl 0 rfl) ?_
  refine x_iload_n hx hb (kL1 (i := 42) rfl) rfl (lv_at hl 3 rfl) ?_
  refine x_iconst hx hb (kL1 (i := 43) rfl) ?_
  refine x_iadd hx hb (kL1 (i := 44) rfl) ?_
  refine xl_scr (j := i + 1) C hM hX hbl hbA hL (by omega) (by omega) (kL1 (i := 45) rfl) ?_
  refine lv_aload_n hx hb (kL1 (i := 46) rfl) rfl (lv_at hl 0 rfl) ?_
  refine x_iload_n hx hb (kL1 (i := 47) rfl) rfl (lv_at hl 3 rfl) ?_
  refine x_iconst hx hb (kL1 (i := 48) rfl) ?_
  refine x_iadd hx hb (kL1 (i := 49) rfl) ?_
  refine xl_scr (j := i + 2) C hM hX hbl hbA hL (by omega) (by omega) (kL1 (i := 50) rfl) ?_
  refine lv_aload_n hx hb (kL1 (i := 51) rfl) rfl (lv_at hl 0 rfl) ?_
  refine x_iload_n hx hb (kL1 (i := 52) rfl) rfl (lv_at hl 3 rfl) ?_
  refine x_iconst hx hb (kL1 (i := 53) rfl) ?_
  refine x_iadd hx hb (kL1 (i := 54) rfl) ?_
  refine xl_scr (j := i + 3) C hM hX hbl hbA hL (by omega) (by omega) (kL1 (i := 55) rfl) ?_
  refine xl_callV (n := 3) (As := [vi (sc xs (i + 1)), vi (sc xs (i + 2)), vi (sc xs (i + 3))]) (rest := [vi r]) C hM (tX12_tank l Θ (sc xs (i + 1)) (sc xs (i + 2)) (sc xs (i + 3)) g' h r2 h' hf2) (x_recvM C hM 0 (by decide) (eM_0 Θ _) rfl rfl) q_c_X12_tank q_mL_31 q_i_X12_tank q_e_X12_tank q_n_X12 (by decide +kernel) ⟨by decide, by decide⟩ rfl hl.1 rfl (Nat.le_of_ble_eq_true rfl) (kL1 (i := 56) rfl) (fun H locs hM => ?_)
  exact x_icmp_eq (a' := wr r) (b' := wr r2) hx hb rfl rfl (tgt := 1139) (kL1 (i := 57) rfl) (by decide) (fun _ => kk _ _ _ _ hR hM) (fun q => absurd hrr q)
set_option maxRecDepth 100000 in
set_option maxHeartbeats 4000000 in
theorem lc_4 {p : Program} {l : Launch} {e : Env} {s : State} {m : MethodId} {args : Array Value} {below : List Frame} {meth : Method} {c : Code} {Q : State → Prop} {rt0 : Option FieldType} {Θ : Th} {RR : Nat → Mem → Mem → Prop} {b L : Nat} {xs : Nat → Int32} (C : Cx p s m args meth c cL_law 4 RL rt0 Θ) (hX : va_X b L xs s s.heap) (hbl : b < s.heap.size) (hbA : ¬ AA Θ s.heap.size b) (hL : L ≤ 3072) (hsim : Sim_fill RR) {i : Nat} (hi : i + 6 ≤ L) {g h : Mem} {H : Heap} {locs : List Loc} {ls : Array Slot} (hR : RR i g h) (hM : Hd Θ s g h H locs) (hl : lv_has ls 4 [(0, .ref b), (1, .ref (Θ.2.2.1 0)), (2, .ref (Θ.2.2.2 0)), (3, vi (i : Int))])
    (kk : ∀ (g' h' : Mem) (H : Heap) (locs : List Loc), RR (i + 1) g' h' → Hd Θ s g' h' H locs → W p l e room_1 s m args below meth c H locs 107 12186 Q (F0 m 1139 ls [])) : W p l e room_1 s m args below meth c H locs 107 12186 Q (F0 m 342 ls []) := by
  obtain ⟨hx, hb, hml, hown, hts, -⟩ := id C
  obtain ⟨r, r2, g', h', hf1, hf2, hrr, hR⟩ := hsim i g h (sc xs (i + 1)) (sc xs (i + 2)) (by omega) hR (sc_ir xs _) (sc_ir xs _)
  refine lv_aload_n hx hb (kL1 (i := 60) rfl) rfl (lv_at hl 1 rfl) ?_
  refine lv_aload_n hx hb (kL1 (i := 61) rfl) rfl (lv_at hl 0 rfl) ?_
  refine x_iload_n hx hb (kL1 (i := 62) rfl) rfl (lv_at hl 3 rfl) ?_
  refine x_iconst hx hb (kL1 (i := 63) rfl) ?_
  refine x_iadd hx hb (kL1 (i := 64) rfl) ?_
  refine xl_scr (j := i + 1) C hM hX hbl hbA hL (by omega) (by omega) (kL1 (i := 65) rfl) ?_
  refine lv_aload_n hx hb (kL1 (i := 66) rfl) rfl (lv_at hl 0 rfl) ?_
  refine x_iload_n hx hb (kL1 (i := 67) rfl) rfl (lv_at hl 3 rfl) ?_
  refine x_iconst hx hb (kL1 (i := 68) rfl) ?_
  refine x_iadd hx hb (kL1 (i := 69) rfl) ?_
  refine xl_scr (j := i + 2) C hM hX hbl hbA hL (by omega) (by omega) (kL1 (i := 70) rfl) ?_
  refine xl_callV (n := 2) (As := [vi (sc xs (i + 1)), vi (sc xs (i + 2))]) (rest := []) C hM (tX11_fill l Θ (sc xs (i + 1)) (sc xs (i + 2)) h g r g' hf1) (x_recvX C hM 0 (by decide) (eX_0 Θ _) rfl rfl) q_c_X11_fill q_mL_32 q_i_X11_fill q_e_X11_fill q_n_X11 (by decide +kernel) ⟨by decide, by decide⟩ rfl hl.1 rfl (Nat.le_of_ble_eq_true rfl) (kL1 (i := 71) rfl) (fun H locs hM => ?_)
  refine lv_aload_n hx hb (kL1 (i := 72) rfl) rfl (lv_at hl 2 rfl) ?_
  refine lv_aload_n hx hb (kL1 (i := 73) rfl) rfl (lv_at hl 0 rfl) ?_
  refine x_iload_n hx hb (kL1 (i := 74) rfl) rfl (lv_at hl 3 rfl) ?_
  refine x_iconst hx hb (kL1 (i := 75) rfl) ?_
  refine x_iadd hx hb (kL1 (i := 76) rfl) ?_
  refine xl_scr (j := i + 1) C hM hX hbl hbA hL (by omega) (by omega) (kL1 (i := 77) rfl) ?_
  refine lv_aload_n hx hb (kL1 (i := 78) rfl) rfl (lv_at hl 0 rfl) ?_
  refine x_iload_n hx hb (kL1 (i := 79) rfl) rfl (lv_at hl 3 rfl) ?_
  refine x_iconst hx hb (kL1 (i := 80) rfl) ?_
  refine x_iadd hx hb (kL1 (i := 81) rfl) ?_
  refine xl_scr (j := i + 2) C hM hX hbl hbA hL (by omega) (by omega) (kL1 (i := 82) rfl) ?_
  refine xl_callV (n := 2) (As := [vi (sc xs (i + 1)), vi (sc xs (i + 2))]) (rest := [vi r]) C hM (tX12_fill l Θ (sc xs (i + 1)) (sc xs (i + 2)) g' h r2 h' hf2) (x_recvM C hM 0 (by decide) (eM_0 Θ _) rfl rfl) q_c_X12_fill q_mL_36 q_i_X12_fill q_e_X12_fill q_n_X12 (by decide +kernel) ⟨by decide, by decide⟩ rfl hl.1 rfl (Nat.le_of_ble_eq_true rfl) (kL1 (i := 83) rfl) (fun H locs hM => ?_)
  exact x_icmp_eq (a' := wr r) (b' := wr r2) hx hb rfl rfl (tgt := 1139) (kL1 (i := 84) rfl) (by decide) (fun _ => kk _ _ _ _ hR hM) (fun q => absurd hrr q)
set_option maxRecDepth 100000 in
set_option maxHeartbeats 4000000 in
theorem lc_5 {p : Program} {l : Launch} {e : Env} {s : State} {m : MethodId} {args : Array Value} {below : List Frame} {meth : Method} {c : Code} {Q : State → Prop} {rt0 : Option FieldType} {Θ : Th} {RR : Nat → Mem → Mem → Prop} {b L : Nat} {xs : Nat → Int32} (C : Cx p s m args meth c cL_law 4 RL rt0 Θ) (hX : va_X b L xs s s.heap) (hbl : b < s.heap.size) (hbA : ¬ AA Θ s.heap.size b) (hL : L ≤ 3072) (hsim : Sim_mark RR) {i : Nat} (hi : i + 6 ≤ L) {g h : Mem} {H : Heap} {locs : List Loc} {ls : Array Slot} (hR : RR i g h) (hM : Hd Θ s g h H locs) (hl : lv_has ls 4 [(0, .ref b), (1, .ref (Θ.2.2.1 0)), (2, .ref (Θ.2.2.2 0)), (3, vi (i : Int))])
    (kk : ∀ (g' h' : Mem) (H : Heap) (locs : List Loc), RR (i + 1) g' h' → Hd Θ s g' h' H locs → W p l e room_1 s m args below meth c H locs 107 12186 Q (F0 m 1139 ls [])) : W p l e room_1 s m args below meth c H locs 107 12186 Q (F0 m 375 ls []) := by
  obtain ⟨hx, hb, hml, hown, hts, -⟩ := id C
  obtain ⟨r, r2, g', h', hf1, hf2, hrr, hR⟩ := hsim i g h (sc xs (i + 1)) (sc xs (i + 2)) (by omega) hR (sc_ir xs _) (sc_ir xs _)
  refine lv_aload_n hx hb (kL1 (i := 87) rfl) rfl (lv_at hl 1 rfl) ?_
  refine lv_aload_n hx hb (kL1 (i := 88) rfl) rfl (lv_at hl 0 rfl) ?_
  refine x_iload_n hx hb (kL1 (i := 89) rfl) rfl (lv_at hl 3 rfl) ?_
  refine x_iconst hx hb (kL1 (i := 90) rfl) ?_
  refine x_iadd hx hb (kL1 (i := 91) rfl) ?_
  refine xl_scr (j := i + 1) C hM hX hbl hbA hL (by omega) (by omega) (kL1 (i := 92) rfl) ?_
  refine lv_aload_n hx hb (kL1 (i := 93) rfl) rfl (lv_at hl 0 rfl) ?_
  refine x_iload_n hx hb (kL1 (i := 94) rfl) rfl (lv_at hl 3 rfl) ?_
  refine x_iconst hx hb (kL1 (i := 95) rfl) ?_
  refine x_iadd hx hb (kL1 (i := 96) rfl) ?_
  refine xl_scr (j := i + 2) C hM hX hbl hbA hL (by omega) (by omega) (kL1 (i := 97) rfl) ?_
  refine xl_callV (n := 2) (As := [vi (sc xs (i + 1)), vi (sc xs (i + 2))]) (rest := []) C hM (tX11_mark l Θ (sc xs (i + 1)) (sc xs (i + 2)) h g r g' hf1) (x_recvX C hM 0 (by decide) (eX_0 Θ _) rfl rfl) q_c_X11_mark q_mL_37 q_i_X11_mark q_e_X11_mark q_n_X11 (by decide +kernel) ⟨by decide, by decide⟩ rfl hl.1 rfl (Nat.le_of_ble_eq_true rfl) (kL1 (i := 98) rfl) (fun H locs hM => ?_)
  refine lv_aload_n hx hb (kL1 (i := 99) rfl) rfl (lv_at hl 2 rfl) ?_
  refine lv_aload_n hx hb (kL2 (i := 0) rfl) rfl (lv_at hl 0 rfl) ?_
  refine x_iload_n hx hb (kL2 (i := 1) rfl) rfl (lv_at hl 3 rfl) ?_
  refine x_iconst hx hb (kL2 (i := 2) rfl) ?_
  refine x_iadd hx hb (kL2 (i := 3) rfl) ?_
  refine xl_scr (j := i + 1) C hM hX hbl hbA hL (by omega) (by omega) (kL2 (i := 4) rfl) ?_
  refine lv_aload_n hx hb (kL2 (i := 5) rfl) rfl (lv_at hl 0 rfl) ?_
  refine x_iload_n hx hb (kL2 (i := 6) rfl) rfl (lv_at hl 3 rfl) ?_
  refine x_iconst hx hb (kL2 (i := 7) rfl) ?_
  refine x_iadd hx hb (kL2 (i := 8) rfl) ?_
  refine xl_scr (j := i + 2) C hM hX hbl hbA hL (by omega) (by omega) (kL2 (i := 9) rfl) ?_
  refine xl_callV (n := 2) (As := [vi (sc xs (i + 1)), vi (sc xs (i + 2))]) (rest := [vi r]) C hM (tX12_mark l Θ (sc xs (i + 1)) (sc xs (i + 2)) g' h r2 h' hf2) (x_recvM C hM 0 (by decide) (eM_0 Θ _) rfl rfl) q_c_X12_mark q_mL_41 q_i_X12_mark q_e_X12_mark q_n_X12 (by decide +kernel) ⟨by decide, by decide⟩ rfl hl.1 rfl (Nat.le_of_ble_eq_true rfl) (kL2 (i := 10) rfl) (fun H locs hM => ?_)
  exact x_icmp_eq (a' := wr r) (b' := wr r2) hx hb rfl rfl (tgt := 1139) (kL2 (i := 11) rfl) (by decide) (fun _ => kk _ _ _ _ hR hM) (fun q => absurd hrr q)
set_option maxRecDepth 100000 in
set_option maxHeartbeats 4000000 in
theorem lc_6 {p : Program} {l : Launch} {e : Env} {s : State} {m : MethodId} {args : Array Value} {below : List Frame} {meth : Method} {c : Code} {Q : State → Prop} {rt0 : Option FieldType} {Θ : Th} {RR : Nat → Mem → Mem → Prop} {b L : Nat} {xs : Nat → Int32} (C : Cx p s m args meth c cL_law 4 RL rt0 Θ) (hX : va_X b L xs s s.heap) (hbl : b < s.heap.size) (hbA : ¬ AA Θ s.heap.size b) (hL : L ≤ 3072) (hsim : Sim_at RR) {i : Nat} (hi : i + 6 ≤ L) {g h : Mem} {H : Heap} {locs : List Loc} {ls : Array Slot} (hR : RR i g h) (hM : Hd Θ s g h H locs) (hl : lv_has ls 4 [(0, .ref b), (1, .ref (Θ.2.2.1 0)), (2, .ref (Θ.2.2.2 0)), (3, vi (i : Int))])
    (kk : ∀ (g' h' : Mem) (H : Heap) (locs : List Loc), RR (i + 1) g' h' → Hd Θ s g' h' H locs → W p l e room_1 s m args below meth c H locs 107 12186 Q (F0 m 1139 ls [])) : W p l e room_1 s m args below meth c H locs 107 12186 Q (F0 m 408 ls []) := by
  obtain ⟨hx, hb, hml, hown, hts, -⟩ := id C
  obtain ⟨r, r2, g', h', hf1, hf2, hrr, hR⟩ := hsim i g h (sc xs (i + 1)) (sc xs (i + 2)) (by omega) hR (sc_ir xs _) (sc_ir xs _)
  refine lv_aload_n hx hb (kL2 (i := 14) rfl) rfl (lv_at hl 1 rfl) ?_
  refine lv_aload_n hx hb (kL2 (i := 15) rfl) rfl (lv_at hl 0 rfl) ?_
  refine x_iload_n hx hb (kL2 (i := 16) rfl) rfl (lv_at hl 3 rfl) ?_
  refine x_iconst hx hb (kL2 (i := 17) rfl) ?_
  refine x_iadd hx hb (kL2 (i := 18) rfl) ?_
  refine xl_scr (j := i + 1) C hM hX hbl hbA hL (by omega) (by omega) (kL2 (i := 19) rfl) ?_
  refine lv_aload_n hx hb (kL2 (i := 20) rfl) rfl (lv_at hl 0 rfl) ?_
  refine x_iload_n hx hb (kL2 (i := 21) rfl) rfl (lv_at hl 3 rfl) ?_
  refine x_iconst hx hb (kL2 (i := 22) rfl) ?_
  refine x_iadd hx hb (kL2 (i := 23) rfl) ?_
  refine xl_scr (j := i + 2) C hM hX hbl hbA hL (by omega) (by omega) (kL2 (i := 24) rfl) ?_
  refine xl_callV (n := 2) (As := [vi (sc xs (i + 1)), vi (sc xs (i + 2))]) (rest := []) C hM (tX11_at l Θ (sc xs (i + 1)) (sc xs (i + 2)) h g r g' hf1) (x_recvX C hM 0 (by decide) (eX_0 Θ _) rfl rfl) q_c_X11_at q_mL_42 q_i_X11_at q_e_X11_at q_n_X11 (by decide +kernel) ⟨by decide, by decide⟩ rfl hl.1 rfl (Nat.le_of_ble_eq_true rfl) (kL2 (i := 25) rfl) (fun H locs hM => ?_)
  refine lv_aload_n hx hb (kL2 (i := 26) rfl) rfl (lv_at hl 2 rfl) ?_
  refine lv_aload_n hx hb (kL2 (i := 27) rfl) rfl (lv_at hl 0 rfl) ?_
  refine x_iload_n hx hb (kL2 (i := 28) rfl) rfl (lv_at hl 3 rfl) ?_
  refine x_iconst hx hb (kL2 (i := 29) rfl) ?_
  refine x_iadd hx hb (kL2 (i := 30) rfl) ?_
  refine xl_scr (j := i + 1) C hM hX hbl hbA hL (by omega) (by omega) (kL2 (i := 31) rfl) ?_
  refine lv_aload_n hx hb (kL2 (i := 32) rfl) rfl (lv_at hl 0 rfl) ?_
  refine x_iload_n hx hb (kL2 (i := 33) rfl) rfl (lv_at hl 3 rfl) ?_
  refine x_iconst hx hb (kL2 (i := 34) rfl) ?_
  refine x_iadd hx hb (kL2 (i := 35) rfl) ?_
  refine xl_scr (j := i + 2) C hM hX hbl hbA hL (by omega) (by omega) (kL2 (i := 36) rfl) ?_
  refine xl_callV (n := 2) (As := [vi (sc xs (i + 1)), vi (sc xs (i + 2))]) (rest := [vi r]) C hM (tX12_at l Θ (sc xs (i + 1)) (sc xs (i + 2)) g' h r2 h' hf2) (x_recvM C hM 0 (by decide) (eM_0 Θ _) rfl rfl) q_c_X12_at q_mL_45 q_i_X12_at q_e_X12_at q_n_X12 (by decide +kernel) ⟨by decide, by decide⟩ rfl hl.1 rfl (Nat.le_of_ble_eq_true rfl) (kL2 (i := 37) rfl) (fun H locs hM => ?_)
  exact x_icmp_eq (a' := wr r) (b' := wr r2) hx hb rfl rfl (tgt := 1139) (kL2 (i := 38) rfl) (by decide) (fun _ => kk _ _ _ _ hR hM) (fun q => absurd hrr q)
set_option maxRecDepth 100000 in
set_option maxHeartbeats 4000000 in
theorem lc_7 {p : Program} {l : Launch} {e : Env} {s : State} {m : MethodId} {args : Array Value} {below : List Frame} {meth : Method} {c : Code} {Q : State → Prop} {rt0 : Option FieldType} {Θ : Th} {RR : Nat → Mem → Mem → Prop} {b L : Nat} {xs : Nat → Int32} (C : Cx p s m args meth c cL_law 4 RL rt0 Θ) (hX : va_X b L xs s s.heap) (hbl : b < s.heap.size) (hbA : ¬ AA Θ s.heap.size b) (hL : L ≤ 3072) (hsim : Sim_rest RR) {i : Nat} (hi : i + 6 ≤ L) {g h : Mem} {H : Heap} {locs : List Loc} {ls : Array Slot} (hR : RR i g h) (hM : Hd Θ s g h H locs) (hl : lv_has ls 4 [(0, .ref b), (1, .ref (Θ.2.2.1 0)), (2, .ref (Θ.2.2.2 0)), (3, vi (i : Int))])
    (kk : ∀ (g' h' : Mem) (H : Heap) (locs : List Loc), RR (i + 1) g' h' → Hd Θ s g' h' H locs → W p l e room_1 s m args below meth c H locs 107 12186 Q (F0 m 1139 ls [])) : W p l e room_1 s m args below meth c H locs 107 12186 Q (F0 m 441 ls []) := by
  obtain ⟨hx, hb, hml, hown, hts, -⟩ := id C
  obtain ⟨r, r2, g', h', hf1, hf2, hrr, hR⟩ := hsim i g h (sc xs (i + 1)) (by omega) hR (sc_ir xs _)
  refine lv_aload_n hx hb (kL2 (i := 41) rfl) rfl (lv_at hl 1 rfl) ?_
  refine lv_aload_n hx hb (kL2 (i := 42) rfl) rfl (lv_at hl 0 rfl) ?_
  refine x_iload_n hx hb (kL2 (i := 43) rfl) rfl (lv_at hl 3 rfl) ?_
  refine x_iconst hx hb (kL2 (i := 44) rfl) ?_
  refine x_iadd hx hb (kL2 (i := 45) rfl) ?_
  refine xl_scr (j := i + 1) C hM hX hbl hbA hL (by omega) (by omega) (kL2 (i := 46) rfl) ?_
  refine xl_callV (n := 1) (As := [vi (sc xs (i + 1))]) (rest := []) C hM (tX11_rest l Θ (sc xs (i + 1)) h g r g' hf1) (x_recvX C hM 0 (by decide) (eX_0 Θ _) rfl rfl) q_c_X11_rest q_mL_46 q_i_X11_rest q_e_X11_rest q_n_X11 (by decide +kernel) ⟨by decide, by decide⟩ rfl hl.1 rfl (Nat.le_of_ble_eq_true rfl) (kL2 (i := 47) rfl) (fun H locs hM => ?_)
  refine lv_aload_n hx hb (kL2 (i := 48) rfl) rfl (lv_at hl 2 rfl) ?_
  refine lv_aload_n hx hb (kL2 (i := 49) rfl) rfl (lv_at hl 0 rfl) ?_
  refine x_iload_n hx hb (kL2 (i := 50) rfl) rfl (lv_at hl 3 rfl) ?_
  refine x_iconst hx hb (kL2 (i := 51) rfl) ?_
  refine x_iadd hx hb (kL2 (i := 52) rfl) ?_
  refine xl_scr (j := i + 1) C hM hX hbl hbA hL (by omega) (by omega) (kL2 (i := 53) rfl) ?_
  refine xl_callV (n := 1) (As := [vi (sc xs (i + 1))]) (rest := [vi r]) C hM (tX12_rest l Θ (sc xs (i + 1)) g' h r2 h' hf2) (x_recvM C hM 0 (by decide) (eM_0 Θ _) rfl rfl) q_c_X12_rest q_mL_50 q_i_X12_rest q_e_X12_rest q_n_X12 (by decide +kernel) ⟨by decide, by decide⟩ rfl hl.1 rfl (Nat.le_of_ble_eq_true rfl) (kL2 (i := 54) rfl) (fun H locs hM => ?_)
  exact x_icmp_eq (a' := wr r) (b' := wr r2) hx hb rfl rfl (tgt := 1139) (kL2 (i := 55) rfl) (by decide) (fun _ => kk _ _ _ _ hR hM) (fun q => absurd hrr q)
set_option maxRecDepth 100000 in
set_option maxHeartbeats 4000000 in
theorem lc_8 {p : Program} {l : Launch} {e : Env} {s : State} {m : MethodId} {args : Array Value} {below : List Frame} {meth : Method} {c : Code} {Q : State → Prop} {rt0 : Option FieldType} {Θ : Th} {RR : Nat → Mem → Mem → Prop} {b L : Nat} {xs : Nat → Int32} (C : Cx p s m args meth c cL_law 4 RL rt0 Θ) (hX : va_X b L xs s s.heap) (hbl : b < s.heap.size) (hbA : ¬ AA Θ s.heap.size b) (hL : L ≤ 3072) (hsim : Sim_stays RR) {i : Nat} (hi : i + 6 ≤ L) {g h : Mem} {H : Heap} {locs : List Loc} {ls : Array Slot} (hR : RR i g h) (hM : Hd Θ s g h H locs) (hl : lv_has ls 4 [(0, .ref b), (1, .ref (Θ.2.2.1 0)), (2, .ref (Θ.2.2.2 0)), (3, vi (i : Int))])
    (kk : ∀ (g' h' : Mem) (H : Heap) (locs : List Loc), RR (i + 1) g' h' → Hd Θ s g' h' H locs → W p l e room_1 s m args below meth c H locs 107 12186 Q (F0 m 1139 ls [])) : W p l e room_1 s m args below meth c H locs 107 12186 Q (F0 m 464 ls []) := by
  obtain ⟨hx, hb, hml, hown, hts, -⟩ := id C
  obtain ⟨r, r2, g', h', hf1, hf2, hrr, hR⟩ := hsim i g h (sc xs (i + 1)) (by omega) hR (sc_ir xs _)
  refine lv_aload_n hx hb (kL2 (i := 58) rfl) rfl (lv_at hl 1 rfl) ?_
  refine lv_aload_n hx hb (kL2 (i := 59) rfl) rfl (lv_at hl 0 rfl) ?_
  refine x_iload_n hx hb (kL2 (i := 60) rfl) rfl (lv_at hl 3 rfl) ?_
  refine x_iconst hx hb (kL2 (i := 61) rfl) ?_
  refine x_iadd hx hb (kL2 (i := 62) rfl) ?_
  refine xl_scr (j := i + 1) C hM hX hbl hbA hL (by omega) (by omega) (kL2 (i := 63) rfl) ?_
  refine xl_callV (n := 1) (As := [vi (sc xs (i + 1))]) (rest := []) C hM (tX11_stays l Θ (sc xs (i + 1)) h g r g' hf1) (x_recvX C hM 0 (by decide) (eX_0 Θ _) rfl rfl) q_c_X11_stays q_mL_51 q_i_X11_stays q_e_X11_stays q_n_X11 (by decide +kernel) ⟨by decide, by decide⟩ rfl hl.1 rfl (Nat.le_of_ble_eq_true rfl) (kL2 (i := 64) rfl) (fun H locs hM => ?_)
  refine lv_aload_n hx hb (kL2 (i := 65) rfl) rfl (lv_at hl 2 rfl) ?_
  refine lv_aload_n hx hb (kL2 (i := 66) rfl) rfl (lv_at hl 0 rfl) ?_
  refine x_iload_n hx hb (kL2 (i := 67) rfl) rfl (lv_at hl 3 rfl) ?_
  refine x_iconst hx hb (kL2 (i := 68) rfl) ?_
  refine x_iadd hx hb (kL2 (i := 69) rfl) ?_
  refine xl_scr (j := i + 1) C hM hX hbl hbA hL (by omega) (by omega) (kL2 (i := 70) rfl) ?_
  refine xl_callV (n := 1) (As := [vi (sc xs (i + 1))]) (rest := [vi r]) C hM (tX12_stays l Θ (sc xs (i + 1)) g' h r2 h' hf2) (x_recvM C hM 0 (by decide) (eM_0 Θ _) rfl rfl) q_c_X12_stays q_mL_54 q_i_X12_stays q_e_X12_stays q_n_X12 (by decide +kernel) ⟨by decide, by decide⟩ rfl hl.1 rfl (Nat.le_of_ble_eq_true rfl) (kL2 (i := 71) rfl) (fun H locs hM => ?_)
  exact x_icmp_eq (a' := wr r) (b' := wr r2) hx hb rfl rfl (tgt := 1139) (kL2 (i := 72) rfl) (by decide) (fun _ => kk _ _ _ _ hR hM) (fun q => absurd hrr q)
set_option maxRecDepth 100000 in
set_option maxHeartbeats 4000000 in
theorem lc_9 {p : Program} {l : Launch} {e : Env} {s : State} {m : MethodId} {args : Array Value} {below : List Frame} {meth : Method} {c : Code} {Q : State → Prop} {rt0 : Option FieldType} {Θ : Th} {RR : Nat → Mem → Mem → Prop} {b L : Nat} {xs : Nat → Int32} (C : Cx p s m args meth c cL_law 4 RL rt0 Θ) (hX : va_X b L xs s s.heap) (hbl : b < s.heap.size) (hbA : ¬ AA Θ s.heap.size b) (hL : L ≤ 3072) (hsim : Sim_wave RR) {i : Nat} (hi : i + 6 ≤ L) {g h : Mem} {H : Heap} {locs : List Loc} {ls : Array Slot} (hR : RR i g h) (hM : Hd Θ s g h H locs) (hl : lv_has ls 4 [(0, .ref b), (1, .ref (Θ.2.2.1 0)), (2, .ref (Θ.2.2.2 0)), (3, vi (i : Int))])
    (kk : ∀ (g' h' : Mem) (H : Heap) (locs : List Loc), RR (i + 1) g' h' → Hd Θ s g' h' H locs → W p l e room_1 s m args below meth c H locs 107 12186 Q (F0 m 1139 ls [])) : W p l e room_1 s m args below meth c H locs 107 12186 Q (F0 m 487 ls []) := by
  obtain ⟨hx, hb, hml, hown, hts, -⟩ := id C
  obtain ⟨r, r2, g', h', hf1, hf2, hrr, hR⟩ := hsim i g h (sc xs (i + 1)) (sc xs (i + 2)) (sc xs (i + 3)) (by omega) hR (sc_ir xs _) (sc_ir xs _) (sc_ir xs _)
  refine lv_aload_n hx hb (kL2 (i := 75) rfl) rfl (lv_at hl 1 rfl) ?_
  refine lv_aload_n hx hb (kL2 (i := 76) rfl) rfl (lv_at hl 0 rfl) ?_
  refine x_iload_n hx hb (kL2 (i := 77) rfl) rfl (lv_at hl 3 rfl) ?_
  refine x_iconst hx hb (kL2 (i := 78) rfl) ?_
  refine x_iadd hx hb (kL2 (i := 79) rfl) ?_
  refine xl_scr (j := i + 1) C hM hX hbl hbA hL (by omega) (by omega) (kL2 (i := 80) rfl) ?_
  refine lv_aload_n hx hb (kL2 (i := 81) rfl) rfl (lv_at hl 0 rfl) ?_
  refine x_iload_n hx hb (kL2 (i := 82) rfl) rfl (lv_at hl 3 rfl) ?_
  refine x_iconst hx hb (kL2 (i := 83) rfl) ?_
  refine x_iadd hx hb (kL2 (i := 84) rfl) ?_
  refine xl_scr (j := i + 2) C hM hX hbl hbA hL (by omega) (by omega) (kL2 (i := 85) rfl) ?_
  refine lv_aload_n hx hb (kL2 (i := 86) rfl) rfl (lv_at hl 0 rfl) ?_
  refine x_iload_n hx hb (kL2 (i := 87) rfl) rfl (lv_at hl 3 rfl) ?_
  refine x_iconst hx hb (kL2 (i := 88) rfl) ?_
  refine x_iadd hx hb (kL2 (i := 89) rfl) ?_
  refine xl_scr (j := i + 3) C hM hX hbl hbA hL (by omega) (by omega) (kL2 (i := 90) rfl) ?_
  refine xl_callV (n := 3) (As := [vi (sc xs (i + 1)), vi (sc xs (i + 2)), vi (sc xs (i + 3))]) (rest := []) C hM (tX11_wave l Θ (sc xs (i + 1)) (sc xs (i + 2)) (sc xs (i + 3)) h g r g' hf1) (x_recvX C hM 0 (by decide) (eX_0 Θ _) rfl rfl) q_c_X11_wave q_mL_55 q_i_X11_wave q_e_X11_wave q_n_X11 (by decide +kernel) ⟨by decide, by decide⟩ rfl hl.1 rfl (Nat.le_of_ble_eq_true rfl) (kL2 (i := 91) rfl) (fun H locs hM => ?_)
  refine lv_aload_n hx hb (kL2 (i := 92) rfl) rfl (lv_at hl 2 rfl) ?_
  refine lv_aload_n hx hb (kL2 (i := 93) rfl) rfl (lv_at hl 0 rfl) ?_
  refine x_iload_n hx hb (kL2 (i := 94) rfl) rfl (lv_at hl 3 rfl) ?_
  refine x_iconst hx hb (kL2 (i := 95) rfl) ?_
  refine x_iadd hx hb (kL2 (i := 96) rfl) ?_
  refine xl_scr (j := i + 1) C hM hX hbl hbA hL (by omega) (by omega) (kL2 (i := 97) rfl) ?_
  refine lv_aload_n hx hb (kL2 (i := 98) rfl) rfl (lv_at hl 0 rfl) ?_
  refine x_iload_n hx hb (kL2 (i := 99) rfl) rfl (lv_at hl 3 rfl) ?_
  refine x_iconst hx hb (kL3 (i := 0) rfl) ?_
  refine x_iadd hx hb (kL3 (i := 1) rfl) ?_
  refine xl_scr (j := i + 2) C hM hX hbl hbA hL (by omega) (by omega) (kL3 (i := 2) rfl) ?_
  refine lv_aload_n hx hb (kL3 (i := 3) rfl) rfl (lv_at hl 0 rfl) ?_
  refine x_iload_n hx hb (kL3 (i := 4) rfl) rfl (lv_at hl 3 rfl) ?_
  refine x_iconst hx hb (kL3 (i := 5) rfl) ?_
  refine x_iadd hx hb (kL3 (i := 6) rfl) ?_
  refine xl_scr (j := i + 3) C hM hX hbl hbA hL (by omega) (by omega) (kL3 (i := 7) rfl) ?_
  refine xl_callV (n := 3) (As := [vi (sc xs (i + 1)), vi (sc xs (i + 2)), vi (sc xs (i + 3))]) (rest := [vi r]) C hM (tX12_wave l Θ (sc xs (i + 1)) (sc xs (i + 2)) (sc xs (i + 3)) g' h r2 h' hf2) (x_recvM C hM 0 (by decide) (eM_0 Θ _) rfl rfl) q_c_X12_wave q_mL_58 q_i_X12_wave q_e_X12_wave q_n_X12 (by decide +kernel) ⟨by decide, by decide⟩ rfl hl.1 rfl (Nat.le_of_ble_eq_true rfl) (kL3 (i := 8) rfl) (fun H locs hM => ?_)
  exact x_icmp_eq (a' := wr r) (b' := wr r2) hx hb rfl rfl (tgt := 1139) (kL3 (i := 9) rfl) (by decide) (fun _ => kk _ _ _ _ hR hM) (fun q => absurd hrr q)
set_option maxRecDepth 100000 in
set_option maxHeartbeats 4000000 in
theorem lc_10 {p : Program} {l : Launch} {e : Env} {s : State} {m : MethodId} {args : Array Value} {below : List Frame} {meth : Method} {c : Code} {Q : State → Prop} {rt0 : Option FieldType} {Θ : Th} {RR : Nat → Mem → Mem → Prop} {b L : Nat} {xs : Nat → Int32} (C : Cx p s m args meth c cL_law 4 RL rt0 Θ) (hX : va_X b L xs s s.heap) (hbl : b < s.heap.size) (hbA : ¬ AA Θ s.heap.size b) (hL : L ≤ 3072) (hsim : Sim_sea RR) {i : Nat} (hi : i + 6 ≤ L) {g h : Mem} {H : Heap} {locs : List Loc} {ls : Array Slot} (hR : RR i g h) (hM : Hd Θ s g h H locs) (hl : lv_has ls 4 [(0, .ref b), (1, .ref (Θ.2.2.1 0)), (2, .ref (Θ.2.2.2 0)), (3, vi (i : Int))])
    (kk : ∀ (g' h' : Mem) (H : Heap) (locs : List Loc), RR (i + 1) g' h' → Hd Θ s g' h' H locs → W p l e room_1 s m args below meth c H locs 107 12186 Q (F0 m 1139 ls [])) : W p l e room_1 s m args below meth c H locs 107 12186 Q (F0 m 530 ls []) := by
  obtain ⟨hx, hb, hml, hown, hts, -⟩ := id C
  obtain ⟨r, r2, hf1, hf2, hrr, hR⟩ := hsim i g h (sc xs (i + 1)) (by omega) hR (sc_ir xs _)
  refine lv_aload_n hx hb (kL3 (i := 12) rfl) rfl (lv_at hl 1 rfl) ?_
  refine lv_aload_n hx hb (kL3 (i := 13) rfl) rfl (lv_at hl 0 rfl) ?_
  refine x_iload_n hx hb (kL3 (i := 14) rfl) rfl (lv_at hl 3 rfl) ?_
  refine x_iconst hx hb (kL3 (i := 15) rfl) ?_
  refine x_iadd hx hb (kL3 (i := 16) rfl) ?_
  refine xl_scr (j := i + 1) C hM hX hbl hbA hL (by omega) (by omega) (kL3 (i := 17) rfl) ?_
  refine xl_callV (n := 1) (As := [vi (sc xs (i + 1))]) (rest := []) C hM (tX11_sea l Θ (sc xs (i + 1)) h g r hf1) (x_recvX C hM 0 (by decide) (eX_0 Θ _) rfl rfl) q_c_X11_sea q_mL_59 q_i_X11_sea q_e_X11_sea q_n_X11 (by decide +kernel) ⟨by decide, by decide⟩ rfl hl.1 rfl (Nat.le_of_ble_eq_true rfl) (kL3 (i := 18) rfl) (fun H locs hM => ?_)
  refine lv_aload_n hx hb (kL3 (i := 19) rfl) rfl (lv_at hl 2 rfl) ?_
  refine lv_aload_n hx hb (kL3 (i := 20) rfl) rfl (lv_at hl 0 rfl) ?_
  refine x_iload_n hx hb (kL3 (i := 21) rfl) rfl (lv_at hl 3 rfl) ?_
  refine x_iconst hx hb (kL3 (i := 22) rfl) ?_
  refine x_iadd hx hb (kL3 (i := 23) rfl) ?_
  refine xl_scr (j := i + 1) C hM hX hbl hbA hL (by omega) (by omega) (kL3 (i := 24) rfl) ?_
  refine xl_callV (n := 1) (As := [vi (sc xs (i + 1))]) (rest := [vi r]) C hM (tX12_sea l Θ (sc xs (i + 1)) g h r2 hf2) (x_recvM C hM 0 (by decide) (eM_0 Θ _) rfl rfl) q_c_X12_sea q_mL_62 q_i_X12_sea q_e_X12_sea q_n_X12 (by decide +kernel) ⟨by decide, by decide⟩ rfl hl.1 rfl (Nat.le_of_ble_eq_true rfl) (kL3 (i := 25) rfl) (fun H locs hM => ?_)
  exact x_icmp_eq (a' := wr r) (b' := wr r2) hx hb rfl rfl (tgt := 1139) (kL3 (i := 26) rfl) (by decide) (fun _ => kk _ _ _ _ hR hM) (fun q => absurd hrr q)
set_option maxRecDepth 100000 in
set_option maxHeartbeats 4000000 in
theorem lc_11 {p : Program} {l : Launch} {e : Env} {s : State} {m : MethodId} {args : Array Value} {below : List Frame} {meth : Method} {c : Code} {Q : State → Prop} {rt0 : Option FieldType} {Θ : Th} {RR : Nat → Mem → Mem → Prop} {b L : Nat} {xs : Nat → Int32} (C : Cx p s m args meth c cL_law 4 RL rt0 Θ) (hX : va_X b L xs s s.heap) (hbl : b < s.heap.size) (hbA : ¬ AA Θ s.heap.size b) (hL : L ≤ 3072) (hsim : Sim_set RR) {i : Nat} (hi : i + 6 ≤ L) {g h : Mem} {H : Heap} {locs : List Loc} {ls : Array Slot} (hR : RR i g h) (hM : Hd Θ s g h H locs) (hl : lv_has ls 4 [(0, .ref b), (1, .ref (Θ.2.2.1 0)), (2, .ref (Θ.2.2.2 0)), (3, vi (i : Int))])
    (kk : ∀ (g' h' : Mem) (H : Heap) (locs : List Loc), RR (i + 1) g' h' → Hd Θ s g' h' H locs → W p l e room_1 s m args below meth c H locs 107 12186 Q (F0 m 1139 ls [])) : W p l e room_1 s m args below meth c H locs 107 12186 Q (F0 m 553 ls []) := by
  obtain ⟨hx, hb, hml, hown, hts, -⟩ := id C
  obtain ⟨r, r2, g', h', hf1, hf2, hrr, hR⟩ := hsim i g h (sc xs (i + 1)) (sc xs (i + 2)) (by omega) hR (sc_ir xs _) (sc_ir xs _)
  refine lv_aload_n hx hb (kL3 (i := 29) rfl) rfl (lv_at hl 1 rfl) ?_
  refine lv_aload_n hx hb (kL3 (i := 30) rfl) rfl (lv_at hl 0 rfl) ?_
  refine x_iload_n hx hb (kL3 (i := 31) rfl) rfl (lv_at hl 3 rfl) ?_
  refine x_iconst hx hb (kL3 (i := 32) rfl) ?_
  refine x_iadd hx hb (kL3 (i := 33) rfl) ?_
  refine xl_scr (j := i + 1) C hM hX hbl hbA hL (by omega) (by omega) (kL3 (i := 34) rfl) ?_
  refine lv_aload_n hx hb (kL3 (i := 35) rfl) rfl (lv_at hl 0 rfl) ?_
  refine x_iload_n hx hb (kL3 (i := 36) rfl) rfl (lv_at hl 3 rfl) ?_
  refine x_iconst hx hb (kL3 (i := 37) rfl) ?_
  refine x_iadd hx hb (kL3 (i := 38) rfl) ?_
  refine xl_scr (j := i + 2) C hM hX hbl hbA hL (by omega) (by omega) (kL3 (i := 39) rfl) ?_
  refine xl_callV (n := 2) (As := [vi (sc xs (i + 1)), vi (sc xs (i + 2))]) (rest := []) C hM (tX11_set l Θ (sc xs (i + 1)) (sc xs (i + 2)) h g r g' hf1) (x_recvX C hM 0 (by decide) (eX_0 Θ _) rfl rfl) q_c_X11_set q_mL_63 q_i_X11_set q_e_X11_set q_n_X11 (by decide +kernel) ⟨by decide, by decide⟩ rfl hl.1 rfl (Nat.le_of_ble_eq_true rfl) (kL3 (i := 40) rfl) (fun H locs hM => ?_)
  refine lv_aload_n hx hb (kL3 (i := 41) rfl) rfl (lv_at hl 2 rfl) ?_
  refine lv_aload_n hx hb (kL3 (i := 42) rfl) rfl (lv_at hl 0 rfl) ?_
  refine x_iload_n hx hb (kL3 (i := 43) rfl) rfl (lv_at hl 3 rfl) ?_
  refine x_iconst hx hb (kL3 (i := 44) rfl) ?_
  refine x_iadd hx hb (kL3 (i := 45) rfl) ?_
  refine xl_scr (j := i + 1) C hM hX hbl hbA hL (by omega) (by omega) (kL3 (i := 46) rfl) ?_
  refine lv_aload_n hx hb (kL3 (i := 47) rfl) rfl (lv_at hl 0 rfl) ?_
  refine x_iload_n hx hb (kL3 (i := 48) rfl) rfl (lv_at hl 3 rfl) ?_
  refine x_iconst hx hb (kL3 (i := 49) rfl) ?_
  refine x_iadd hx hb (kL3 (i := 50) rfl) ?_
  refine xl_scr (j := i + 2) C hM hX hbl hbA hL (by omega) (by omega) (kL3 (i := 51) rfl) ?_
  refine xl_callV (n := 2) (As := [vi (sc xs (i + 1)), vi (sc xs (i + 2))]) (rest := [vi r]) C hM (tX12_set l Θ (sc xs (i + 1)) (sc xs (i + 2)) g' h r2 h' hf2) (x_recvM C hM 0 (by decide) (eM_0 Θ _) rfl rfl) q_c_X12_set q_mL_66 q_i_X12_set q_e_X12_set q_n_X12 (by decide +kernel) ⟨by decide, by decide⟩ rfl hl.1 rfl (Nat.le_of_ble_eq_true rfl) (kL3 (i := 52) rfl) (fun H locs hM => ?_)
  exact x_icmp_eq (a' := wr r) (b' := wr r2) hx hb rfl rfl (tgt := 1139) (kL3 (i := 53) rfl) (by decide) (fun _ => kk _ _ _ _ hR hM) (fun q => absurd hrr q)
set_option maxRecDepth 100000 in
set_option maxHeartbeats 4000000 in
theorem lc_12 {p : Program} {l : Launch} {e : Env} {s : State} {m : MethodId} {args : Array Value} {below : List Frame} {meth : Method} {c : Code} {Q : State → Prop} {rt0 : Option FieldType} {Θ : Th} {RR : Nat → Mem → Mem → Prop} {b L : Nat} {xs : Nat → Int32} (C : Cx p s m args meth c cL_law 4 RL rt0 Θ) (hX : va_X b L xs s s.heap) (hbl : b < s.heap.size) (hbA : ¬ AA Θ s.heap.size b) (hL : L ≤ 3072) (hsim : Sim_go RR) {i : Nat} (hi : i + 6 ≤ L) {g h : Mem} {H : Heap} {locs : List Loc} {ls : Array Slot} (hR : RR i g h) (hM : Hd Θ s g h H locs) (hl : lv_has ls 4 [(0, .ref b), (1, .ref (Θ.2.2.1 0)), (2, .ref (Θ.2.2.2 0)), (3, vi (i : Int))])
    (kk : ∀ (g' h' : Mem) (H : Heap) (locs : List Loc), RR (i + 1) g' h' → Hd Θ s g' h' H locs → W p l e room_1 s m args below meth c H locs 107 12186 Q (F0 m 1139 ls [])) : W p l e room_1 s m args below meth c H locs 107 12186 Q (F0 m 586 ls []) := by
  obtain ⟨hx, hb, hml, hown, hts, -⟩ := id C
  obtain ⟨r, r2, g', h', hf1, hf2, hrr, hR⟩ := hsim i g h (sc xs (i + 1)) (by omega) hR (sc_ir xs _)
  refine lv_aload_n hx hb (kL3 (i := 56) rfl) rfl (lv_at hl 1 rfl) ?_
  refine lv_aload_n hx hb (kL3 (i := 57) rfl) rfl (lv_at hl 0 rfl) ?_
  refine x_iload_n hx hb (kL3 (i := 58) rfl) rfl (lv_at hl 3 rfl) ?_
  refine x_iconst hx hb (kL3 (i := 59) rfl) ?_
  refine x_iadd hx hb (kL3 (i := 60) rfl) ?_
  refine xl_scr (j := i + 1) C hM hX hbl hbA hL (by omega) (by omega) (kL3 (i := 61) rfl) ?_
  refine xl_callV (n := 1) (As := [vi (sc xs (i + 1))]) (rest := []) C hM (tX11_go l Θ (sc xs (i + 1)) h g r g' hf1) (x_recvX C hM 0 (by decide) (eX_0 Θ _) rfl rfl) q_c_X11_go q_mL_67 q_i_X11_go q_e_X11_go q_n_X11 (by decide +kernel) ⟨by decide, by decide⟩ rfl hl.1 rfl (Nat.le_of_ble_eq_true rfl) (kL3 (i := 62) rfl) (fun H locs hM => ?_)
  refine lv_aload_n hx hb (kL3 (i := 63) rfl) rfl (lv_at hl 2 rfl) ?_
  refine lv_aload_n hx hb (kL3 (i := 64) rfl) rfl (lv_at hl 0 rfl) ?_
  refine x_iload_n hx hb (kL3 (i := 65) rfl) rfl (lv_at hl 3 rfl) ?_
  refine x_iconst hx hb (kL3 (i := 66) rfl) ?_
  refine x_iadd hx hb (kL3 (i := 67) rfl) ?_
  refine xl_scr (j := i + 1) C hM hX hbl hbA hL (by omega) (by omega) (kL3 (i := 68) rfl) ?_
  refine xl_callV (n := 1) (As := [vi (sc xs (i + 1))]) (rest := [vi r]) C hM (tX12_go l Θ (sc xs (i + 1)) g' h r2 h' hf2) (x_recvM C hM 0 (by decide) (eM_0 Θ _) rfl rfl) q_c_X12_go q_mL_70 q_i_X12_go q_e_X12_go q_n_X12 (by decide +kernel) ⟨by decide, by decide⟩ rfl hl.1 rfl (Nat.le_of_ble_eq_true rfl) (kL3 (i := 69) rfl) (fun H locs hM => ?_)
  exact x_icmp_eq (a' := wr r) (b' := wr r2) hx hb rfl rfl (tgt := 1139) (kL3 (i := 70) rfl) (by decide) (fun _ => kk _ _ _ _ hR hM) (fun q => absurd hrr q)
set_option maxRecDepth 100000 in
set_option maxHeartbeats 4000000 in
theorem lc_13 {p : Program} {l : Launch} {e : Env} {s : State} {m : MethodId} {args : Array Value} {below : List Frame} {meth : Method} {c : Code} {Q : State → Prop} {rt0 : Option FieldType} {Θ : Th} {RR : Nat → Mem → Mem → Prop} {b L : Nat} {xs : Nat → Int32} (C : Cx p s m args meth c cL_law 4 RL rt0 Θ) (hX : va_X b L xs s s.heap) (hbl : b < s.heap.size) (hbA : ¬ AA Θ s.heap.size b) (hL : L ≤ 3072) (hsim : Sim_kept RR) {i : Nat} (hi : i + 6 ≤ L) {g h : Mem} {H : Heap} {locs : List Loc} {ls : Array Slot} (hR : RR i g h) (hM : Hd Θ s g h H locs) (hl : lv_has ls 4 [(0, .ref b), (1, .ref (Θ.2.2.1 0)), (2, .ref (Θ.2.2.2 0)), (3, vi (i : Int))])
    (kk : ∀ (g' h' : Mem) (H : Heap) (locs : List Loc), RR (i + 1) g' h' → Hd Θ s g' h' H locs → W p l e room_1 s m args below meth c H locs 107 12186 Q (F0 m 1139 ls [])) : W p l e room_1 s m args below meth c H locs 107 12186 Q (F0 m 609 ls []) := by
  obtain ⟨hx, hb, hml, hown, hts, -⟩ := id C
  obtain ⟨r, r2, hf1, hf2, hrr, hR⟩ := hsim i g h (sc xs (i + 1)) (sc xs (i + 2)) (by omega) hR (sc_ir xs _) (sc_ir xs _)
  refine lv_aload_n hx hb (kL3 (i := 73) rfl) rfl (lv_at hl 1 rfl) ?_
  refine lv_aload_n hx hb (kL3 (i := 74) rfl) rfl (lv_at hl 0 rfl) ?_
  refine x_iload_n hx hb (kL3 (i := 75) rfl) rfl (lv_at hl 3 rfl) ?_
  refine x_iconst hx hb (kL3 (i := 76) rfl) ?_
  refine x_iadd hx hb (kL3 (i := 77) rfl) ?_
  refine xl_scr (j := i + 1) C hM hX hbl hbA hL (by omega) (by omega) (kL3 (i := 78) rfl) ?_
  refine lv_aload_n hx hb (kL3 (i := 79) rfl) rfl (lv_at hl 0 rfl) ?_
  refine x_iload_n hx hb (kL3 (i := 80) rfl) rfl (lv_at hl 3 rfl) ?_
  refine x_iconst hx hb (kL3 (i := 81) rfl) ?_
  refine x_iadd hx hb (kL3 (i := 82) rfl) ?_
  refine xl_scr (j := i + 2) C hM hX hbl hbA hL (by omega) (by omega) (kL3 (i := 83) rfl) ?_
  refine xl_callV (n := 2) (As := [vi (sc xs (i + 1)), vi (sc xs (i + 2))]) (rest := []) C hM (tX11_kept l Θ (sc xs (i + 1)) (sc xs (i + 2)) h g r hf1) (x_recvX C hM 0 (by decide) (eX_0 Θ _) rfl rfl) q_c_X11_kept q_mL_71 q_i_X11_kept q_e_X11_kept q_n_X11 (by decide +kernel) ⟨by decide, by decide⟩ rfl hl.1 rfl (Nat.le_of_ble_eq_true rfl) (kL3 (i := 84) rfl) (fun H locs hM => ?_)
  refine lv_aload_n hx hb (kL3 (i := 85) rfl) rfl (lv_at hl 2 rfl) ?_
  refine lv_aload_n hx hb (kL3 (i := 86) rfl) rfl (lv_at hl 0 rfl) ?_
  refine x_iload_n hx hb (kL3 (i := 87) rfl) rfl (lv_at hl 3 rfl) ?_
  refine x_iconst hx hb (kL3 (i := 88) rfl) ?_
  refine x_iadd hx hb (kL3 (i := 89) rfl) ?_
  refine xl_scr (j := i + 1) C hM hX hbl hbA hL (by omega) (by omega) (kL3 (i := 90) rfl) ?_
  refine lv_aload_n hx hb (kL3 (i := 91) rfl) rfl (lv_at hl 0 rfl) ?_
  refine x_iload_n hx hb (kL3 (i := 92) rfl) rfl (lv_at hl 3 rfl) ?_
  refine x_iconst hx hb (kL3 (i := 93) rfl) ?_
  refine x_iadd hx hb (kL3 (i := 94) rfl) ?_
  refine xl_scr (j := i + 2) C hM hX hbl hbA hL (by omega) (by omega) (kL3 (i := 95) rfl) ?_
  refine xl_callV (n := 2) (As := [vi (sc xs (i + 1)), vi (sc xs (i + 2))]) (rest := [vi r]) C hM (tX12_kept l Θ (sc xs (i + 1)) (sc xs (i + 2)) g h r2 hf2) (x_recvM C hM 0 (by decide) (eM_0 Θ _) rfl rfl) q_c_X12_kept q_mL_74 q_i_X12_kept q_e_X12_kept q_n_X12 (by decide +kernel) ⟨by decide, by decide⟩ rfl hl.1 rfl (Nat.le_of_ble_eq_true rfl) (kL3 (i := 96) rfl) (fun H locs hM => ?_)
  exact x_icmp_eq (a' := wr r) (b' := wr r2) hx hb rfl rfl (tgt := 1139) (kL3 (i := 97) rfl) (by decide) (fun _ => kk _ _ _ _ hR hM) (fun q => absurd hrr q)
set_option maxRecDepth 100000 in
set_option maxHeartbeats 4000000 in
theorem lc_14 {p : Program} {l : Launch} {e : Env} {s : State} {m : MethodId} {args : Array Value} {below : List Frame} {meth : Method} {c : Code} {Q : State → Prop} {rt0 : Option FieldType} {Θ : Th} {RR : Nat → Mem → Mem → Prop} {b L : Nat} {xs : Nat → Int32} (C : Cx p s m args meth c cL_law 4 RL rt0 Θ) (hX : va_X b L xs s s.heap) (hbl : b < s.heap.size) (hbA : ¬ AA Θ s.heap.size b) (hL : L ≤ 3072) (hsim : Sim_lead RR) {i : Nat} (hi : i + 6 ≤ L) {g h : Mem} {H : Heap} {locs : List Loc} {ls : Array Slot} (hR : RR i g h) (hM : Hd Θ s g h H locs) (hl : lv_has ls 4 [(0, .ref b), (1, .ref (Θ.2.2.1 0)), (2, .ref (Θ.2.2.2 0)), (3, vi (i : Int))])
    (kk : ∀ (g' h' : Mem) (H : Heap) (locs : List Loc), RR (i + 1) g' h' → Hd Θ s g' h' H locs → W p l e room_1 s m args below meth c H locs 107 12186 Q (F0 m 1139 ls [])) : W p l e room_1 s m args below meth c H locs 107 12186 Q (F0 m 642 ls []) := by
  obtain ⟨hx, hb, hml, hown, hts, -⟩ := id C
  obtain ⟨r, r2, hf1, hf2, hrr, hR⟩ := hsim i g h (sc xs (i + 1)) (by omega) hR (sc_ir xs _)
  refine lv_aload_n hx hb (kL4 (i := 0) rfl) rfl (lv_at hl 1 rfl) ?_
  refine lv_aload_n hx hb (kL4 (i := 1) rfl) rfl (lv_at hl 0 rfl) ?_
  refine x_iload_n hx hb (kL4 (i := 2) rfl) rfl (lv_at hl 3 rfl) ?_
  refine x_iconst hx hb (kL4 (i := 3) rfl) ?_
  refine x_iadd hx hb (kL4 (i := 4) rfl) ?_
  refine xl_scr (j := i + 1) C hM hX hbl hbA hL (by omega) (by omega) (kL4 (i := 5) rfl) ?_
  refine xl_callV (n := 1) (As := [vi (sc xs (i + 1))]) (rest := []) C hM (tX11_lead l Θ (sc xs (i + 1)) h g r hf1) (x_recvX C hM 0 (by decide) (eX_0 Θ _) rfl rfl) q_c_X11_lead q_mL_75 q_i_X11_lead q_e_X11_lead q_n_X11 (by decide +kernel) ⟨by decide, by decide⟩ rfl hl.1 rfl (Nat.le_of_ble_eq_true rfl) (kL4 (i := 6) rfl) (fun H locs hM => ?_)
  refine lv_aload_n hx hb (kL4 (i := 7) rfl) rfl (lv_at hl 2 rfl) ?_
  refine lv_aload_n hx hb (kL4 (i := 8) rfl) rfl (lv_at hl 0 rfl) ?_
  refine x_iload_n hx hb (kL4 (i := 9) rfl) rfl (lv_at hl 3 rfl) ?_
  refine x_iconst hx hb (kL4 (i := 10) rfl) ?_
  refine x_iadd hx hb (kL4 (i := 11) rfl) ?_
  refine xl_scr (j := i + 1) C hM hX hbl hbA hL (by omega) (by omega) (kL4 (i := 12) rfl) ?_
  refine xl_callV (n := 1) (As := [vi (sc xs (i + 1))]) (rest := [vi r]) C hM (tX12_lead l Θ (sc xs (i + 1)) g h r2 hf2) (x_recvM C hM 0 (by decide) (eM_0 Θ _) rfl rfl) q_c_X12_lead q_mL_78 q_i_X12_lead q_e_X12_lead q_n_X12 (by decide +kernel) ⟨by decide, by decide⟩ rfl hl.1 rfl (Nat.le_of_ble_eq_true rfl) (kL4 (i := 13) rfl) (fun H locs hM => ?_)
  exact x_icmp_eq (a' := wr r) (b' := wr r2) hx hb rfl rfl (tgt := 1139) (kL4 (i := 14) rfl) (by decide) (fun _ => kk _ _ _ _ hR hM) (fun q => absurd hrr q)
set_option maxRecDepth 100000 in
set_option maxHeartbeats 4000000 in
theorem lc_15 {p : Program} {l : Launch} {e : Env} {s : State} {m : MethodId} {args : Array Value} {below : List Frame} {meth : Method} {c : Code} {Q : State → Prop} {rt0 : Option FieldType} {Θ : Th} {RR : Nat → Mem → Mem → Prop} {b L : Nat} {xs : Nat → Int32} (C : Cx p s m args meth c cL_law 4 RL rt0 Θ) (hX : va_X b L xs s s.heap) (hbl : b < s.heap.size) (hbA : ¬ AA Θ s.heap.size b) (hL : L ≤ 3072) (hsim : Sim_feed RR) {i : Nat} (hi : i + 6 ≤ L) {g h : Mem} {H : Heap} {locs : List Loc} {ls : Array Slot} (hR : RR i g h) (hM : Hd Θ s g h H locs) (hl : lv_has ls 4 [(0, .ref b), (1, .ref (Θ.2.2.1 0)), (2, .ref (Θ.2.2.2 0)), (3, vi (i : Int))])
    (kk : ∀ (g' h' : Mem) (H : Heap) (locs : List Loc), RR (i + 1) g' h' → Hd Θ s g' h' H locs → W p l e room_1 s m args below meth c H locs 107 12186 Q (F0 m 1139 ls [])) : W p l e room_1 s m args below meth c H locs 107 12186 Q (F0 m 665 ls []) := by
  obtain ⟨hx, hb, hml, hown, hts, -⟩ := id C
  obtain ⟨r, r2, g', h', hf1, hf2, hrr, hR⟩ := hsim i g h (sc xs (i + 1)) (sc xs (i + 2)) (sc xs (i + 3)) (sc xs (i + 4)) (sc xs (i + 5)) (by omega) hR (sc_ir xs _) (sc_ir xs _) (sc_ir xs _) (sc_ir xs _) (sc_ir xs _)
  refine lv_aload_n hx hb (kL4 (i := 17) rfl) rfl (lv_at hl 1 rfl) ?_
  refine lv_aload_n hx hb (kL4 (i := 18) rfl) rfl (lv_at hl 0 rfl) ?_
  refine x_iload_n hx hb (kL4 (i := 19) rfl) rfl (lv_at hl 3 rfl) ?_
  refine x_iconst hx hb (kL4 (i := 20) rfl) ?_
  refine x_iadd hx hb (kL4 (i := 21) rfl) ?_
  refine xl_scr (j := i + 1) C hM hX hbl hbA hL (by omega) (by omega) (kL4 (i := 22) rfl) ?_
  refine lv_aload_n hx hb (kL4 (i := 23) rfl) rfl (lv_at hl 0 rfl) ?_
  refine x_iload_n hx hb (kL4 (i := 24) rfl) rfl (lv_at hl 3 rfl) ?_
  refine x_iconst hx hb (kL4 (i := 25) rfl) ?_
  refine x_iadd hx hb (kL4 (i := 26) rfl) ?_
  refine xl_scr (j := i + 2) C hM hX hbl hbA hL (by omega) (by omega) (kL4 (i := 27) rfl) ?_
  refine lv_aload_n hx hb (kL4 (i := 28) rfl) rfl (lv_at hl 0 rfl) ?_
  refine x_iload_n hx hb (kL4 (i := 29) rfl) rfl (lv_at hl 3 rfl) ?_
  refine x_iconst hx hb (kL4 (i := 30) rfl) ?_
  refine x_iadd hx hb (kL4 (i := 31) rfl) ?_
  refine xl_scr (j := i + 3) C hM hX hbl hbA hL (by omega) (by omega) (kL4 (i := 32) rfl) ?_
  refine lv_aload_n hx hb (kL4 (i := 33) rfl) rfl (lv_at hl 0 rfl) ?_
  refine x_iload_n hx hb (kL4 (i := 34) rfl) rfl (lv_at hl 3 rfl) ?_
  refine x_iconst hx hb (kL4 (i := 35) rfl) ?_
  refine x_iadd hx hb (kL4 (i := 36) rfl) ?_
  refine xl_scr (j := i + 4) C hM hX hbl hbA hL (by omega) (by omega) (kL4 (i := 37) rfl) ?_
  refine lv_aload_n hx hb (kL4 (i := 38) rfl) rfl (lv_at hl 0 rfl) ?_
  refine x_iload_n hx hb (kL4 (i := 39) rfl) rfl (lv_at hl 3 rfl) ?_
  refine x_iconst hx hb (kL4 (i := 40) rfl) ?_
  refine x_iadd hx hb (kL4 (i := 41) rfl) ?_
  refine xl_scr (j := i + 5) C hM hX hbl hbA hL (by omega) (by omega) (kL4 (i := 42) rfl) ?_
  refine xl_callV (n := 5) (As := [vi (sc xs (i + 1)), vi (sc xs (i + 2)), vi (sc xs (i + 3)), vi (sc xs (i + 4)), vi (sc xs (i + 5))]) (rest := []) C hM (tX11_feed l Θ (sc xs (i + 1)) (sc xs (i + 2)) (sc xs (i + 3)) (sc xs (i + 4)) (sc xs (i + 5)) h g r g' hf1) (x_recvX C hM 0 (by decide) (eX_0 Θ _) rfl rfl) q_c_X11_feed q_mL_79 q_i_X11_feed q_e_X11_feed q_n_X11 (by decide +kernel) ⟨by decide, by decide⟩ rfl hl.1 rfl (Nat.le_of_ble_eq_true rfl) (kL4 (i := 43) rfl) (fun H locs hM => ?_)
  refine lv_aload_n hx hb (kL4 (i := 44) rfl) rfl (lv_at hl 2 rfl) ?_
  refine lv_aload_n hx hb (kL4 (i := 45) rfl) rfl (lv_at hl 0 rfl) ?_
  refine x_iload_n hx hb (kL4 (i := 46) rfl) rfl (lv_at hl 3 rfl) ?_
  refine x_iconst hx hb (kL4 (i := 47) rfl) ?_
  refine x_iadd hx hb (kL4 (i := 48) rfl) ?_
  refine xl_scr (j := i + 1) C hM hX hbl hbA hL (by omega) (by omega) (kL4 (i := 49) rfl) ?_
  refine lv_aload_n hx hb (kL4 (i := 50) rfl) rfl (lv_at hl 0 rfl) ?_
  refine x_iload_n hx hb (kL4 (i := 51) rfl) rfl (lv_at hl 3 rfl) ?_
  refine x_iconst hx hb (kL4 (i := 52) rfl) ?_
  refine x_iadd hx hb (kL4 (i := 53) rfl) ?_
  refine xl_scr (j := i + 2) C hM hX hbl hbA hL (by omega) (by omega) (kL4 (i := 54) rfl) ?_
  refine lv_aload_n hx hb (kL4 (i := 55) rfl) rfl (lv_at hl 0 rfl) ?_
  refine x_iload_n hx hb (kL4 (i := 56) rfl) rfl (lv_at hl 3 rfl) ?_
  refine x_iconst hx hb (kL4 (i := 57) rfl) ?_
  refine x_iadd hx hb (kL4 (i := 58) rfl) ?_
  refine xl_scr (j := i + 3) C hM hX hbl hbA hL (by omega) (by omega) (kL4 (i := 59) rfl) ?_
  refine lv_aload_n hx hb (kL4 (i := 60) rfl) rfl (lv_at hl 0 rfl) ?_
  refine x_iload_n hx hb (kL4 (i := 61) rfl) rfl (lv_at hl 3 rfl) ?_
  refine x_iconst hx hb (kL4 (i := 62) rfl) ?_
  refine x_iadd hx hb (kL4 (i := 63) rfl) ?_
  refine xl_scr (j := i + 4) C hM hX hbl hbA hL (by omega) (by omega) (kL4 (i := 64) rfl) ?_
  refine lv_aload_n hx hb (kL4 (i := 65) rfl) rfl (lv_at hl 0 rfl) ?_
  refine x_iload_n hx hb (kL4 (i := 66) rfl) rfl (lv_at hl 3 rfl) ?_
  refine x_iconst hx hb (kL4 (i := 67) rfl) ?_
  refine x_iadd hx hb (kL4 (i := 68) rfl) ?_
  refine xl_scr (j := i + 5) C hM hX hbl hbA hL (by omega) (by omega) (kL4 (i := 69) rfl) ?_
  refine xl_callV (n := 5) (As := [vi (sc xs (i + 1)), vi (sc xs (i + 2)), vi (sc xs (i + 3)), vi (sc xs (i + 4)), vi (sc xs (i + 5))]) (rest := [vi r]) C hM (tX12_feed l Θ (sc xs (i + 1)) (sc xs (i + 2)) (sc xs (i + 3)) (sc xs (i + 4)) (sc xs (i + 5)) g' h r2 h' hf2) (x_recvM C hM 0 (by decide) (eM_0 Θ _) rfl rfl) q_c_X12_feed q_mL_83 q_i_X12_feed q_e_X12_feed q_n_X12 (by decide +kernel) ⟨by decide, by decide⟩ rfl hl.1 rfl (Nat.le_of_ble_eq_true rfl) (kL4 (i := 70) rfl) (fun H locs hM => ?_)
  exact x_icmp_eq (a' := wr r) (b' := wr r2) hx hb rfl rfl (tgt := 1139) (kL4 (i := 71) rfl) (by decide) (fun _ => kk _ _ _ _ hR hM) (fun q => absurd hrr q)
set_option maxRecDepth 100000 in
set_option maxHeartbeats 4000000 in
theorem lc_16 {p : Program} {l : Launch} {e : Env} {s : State} {m : MethodId} {args : Array Value} {below : List Frame} {meth : Method} {c : Code} {Q : State → Prop} {rt0 : Option FieldType} {Θ : Th} {RR : Nat → Mem → Mem → Prop} {b L : Nat} {xs : Nat → Int32} (C : Cx p s m args meth c cL_law 4 RL rt0 Θ) (hX : va_X b L xs s s.heap) (hbl : b < s.heap.size) (hbA : ¬ AA Θ s.heap.size b) (hL : L ≤ 3072) (hsim : Sim_end RR) {i : Nat} (hi : i + 6 ≤ L) {g h : Mem} {H : Heap} {locs : List Loc} {ls : Array Slot} (hR : RR i g h) (hM : Hd Θ s g h H locs) (hl : lv_has ls 4 [(0, .ref b), (1, .ref (Θ.2.2.1 0)), (2, .ref (Θ.2.2.2 0)), (3, vi (i : Int))])
    (kk : ∀ (g' h' : Mem) (H : Heap) (locs : List Loc), RR (i + 1) g' h' → Hd Θ s g' h' H locs → W p l e room_1 s m args below meth c H locs 107 12186 Q (F0 m 1139 ls [])) : W p l e room_1 s m args below meth c H locs 107 12186 Q (F0 m 728 ls []) := by
  obtain ⟨hx, hb, hml, hown, hts, -⟩ := id C
  obtain ⟨r, r2, g', h', hf1, hf2, hrr, hR⟩ := hsim i g h (sc xs (i + 1)) (by omega) hR (sc_ir xs _)
  refine lv_aload_n hx hb (kL4 (i := 74) rfl) rfl (lv_at hl 1 rfl) ?_
  refine lv_aload_n hx hb (kL4 (i := 75) rfl) rfl (lv_at hl 0 rfl) ?_
  refine x_iload_n hx hb (kL4 (i := 76) rfl) rfl (lv_at hl 3 rfl) ?_
  refine x_iconst hx hb (kL4 (i := 77) rfl) ?_
  refine x_iadd hx hb (kL4 (i := 78) rfl) ?_
  refine xl_scr (j := i + 1) C hM hX hbl hbA hL (by omega) (by omega) (kL4 (i := 79) rfl) ?_
  refine xl_callV (n := 1) (As := [vi (sc xs (i + 1))]) (rest := []) C hM (tX11_end l Θ (sc xs (i + 1)) h g r g' hf1) (x_recvX C hM 0 (by decide) (eX_0 Θ _) rfl rfl) q_c_X11_end q_mL_84 q_i_X11_end q_e_X11_end q_n_X11 (by decide +kernel) ⟨by decide, by decide⟩ rfl hl.1 rfl (Nat.le_of_ble_eq_true rfl) (kL4 (i := 80) rfl) (fun H locs hM => ?_)
  refine lv_aload_n hx hb (kL4 (i := 81) rfl) rfl (lv_at hl 2 rfl) ?_
  refine lv_aload_n hx hb (kL4 (i := 82) rfl) rfl (lv_at hl 0 rfl) ?_
  refine x_iload_n hx hb (kL4 (i := 83) rfl) rfl (lv_at hl 3 rfl) ?_
  refine x_iconst hx hb (kL4 (i := 84) rfl) ?_
  refine x_iadd hx hb (kL4 (i := 85) rfl) ?_
  refine xl_scr (j := i + 1) C hM hX hbl hbA hL (by omega) (by omega) (kL4 (i := 86) rfl) ?_
  refine xl_callV (n := 1) (As := [vi (sc xs (i + 1))]) (rest := [vi r]) C hM (tX12_end l Θ (sc xs (i + 1)) g' h r2 h' hf2) (x_recvM C hM 0 (by decide) (eM_0 Θ _) rfl rfl) q_c_X12_end q_mL_87 q_i_X12_end q_e_X12_end q_n_X12 (by decide +kernel) ⟨by decide, by decide⟩ rfl hl.1 rfl (Nat.le_of_ble_eq_true rfl) (kL4 (i := 87) rfl) (fun H locs hM => ?_)
  exact x_icmp_eq (a' := wr r) (b' := wr r2) hx hb rfl rfl (tgt := 1139) (kL4 (i := 88) rfl) (by decide) (fun _ => kk _ _ _ _ hR hM) (fun q => absurd hrr q)
set_option maxRecDepth 100000 in
set_option maxHeartbeats 4000000 in
theorem lc_17 {p : Program} {l : Launch} {e : Env} {s : State} {m : MethodId} {args : Array Value} {below : List Frame} {meth : Method} {c : Code} {Q : State → Prop} {rt0 : Option FieldType} {Θ : Th} {RR : Nat → Mem → Mem → Prop} {b L : Nat} {xs : Nat → Int32} (C : Cx p s m args meth c cL_law 4 RL rt0 Θ) (hX : va_X b L xs s s.heap) (hbl : b < s.heap.size) (hbA : ¬ AA Θ s.heap.size b) (hL : L ≤ 3072) (hsim : Sim_fault RR) {i : Nat} (hi : i + 6 ≤ L) {g h : Mem} {H : Heap} {locs : List Loc} {ls : Array Slot} (hR : RR i g h) (hM : Hd Θ s g h H locs) (hl : lv_has ls 4 [(0, .ref b), (1, .ref (Θ.2.2.1 0)), (2, .ref (Θ.2.2.2 0)), (3, vi (i : Int))])
    (kk : ∀ (g' h' : Mem) (H : Heap) (locs : List Loc), RR (i + 1) g' h' → Hd Θ s g' h' H locs → W p l e room_1 s m args below meth c H locs 107 12186 Q (F0 m 1139 ls [])) : W p l e room_1 s m args below meth c H locs 107 12186 Q (F0 m 751 ls []) := by
  obtain ⟨hx, hb, hml, hown, hts, -⟩ := id C
  obtain ⟨r, r2, g', h', hf1, hf2, hrr, hR⟩ := hsim i g h (by omega) hR
  refine lv_aload_n hx hb (kL4 (i := 91) rfl) rfl (lv_at hl 1 rfl) ?_
  refine xl_callV (n := 0) (As := []) (rest := []) C hM (tX11_fault l Θ h g r g' hf1) (x_recvX C hM 0 (by decide) (eX_0 Θ _) rfl rfl) q_c_X11_fault q_mL_88 q_i_X11_fault q_e_X11_fault q_n_X11 (by decide +kernel) ⟨by decide, by decide⟩ rfl hl.1 rfl (Nat.le_of_ble_eq_true rfl) (kL4 (i := 92) rfl) (fun H locs hM => ?_)
  refine lv_aload_n hx hb (kL4 (i := 93) rfl) rfl (lv_at hl 2 rfl) ?_
  refine xl_callV (n := 0) (As := []) (rest := [vi r]) C hM (tX12_fault l Θ g' h r2 h' hf2) (x_recvM C hM 0 (by decide) (eM_0 Θ _) rfl rfl) q_c_X12_fault q_mL_92 q_i_X12_fault q_e_X12_fault q_n_X12 (by decide +kernel) ⟨by decide, by decide⟩ rfl hl.1 rfl (Nat.le_of_ble_eq_true rfl) (kL4 (i := 94) rfl) (fun H locs hM => ?_)
  exact x_icmp_eq (a' := wr r) (b' := wr r2) hx hb rfl rfl (tgt := 1139) (kL4 (i := 95) rfl) (by decide) (fun _ => kk _ _ _ _ hR hM) (fun q => absurd hrr q)
set_option maxRecDepth 100000 in
set_option maxHeartbeats 4000000 in
theorem lc_18 {p : Program} {l : Launch} {e : Env} {s : State} {m : MethodId} {args : Array Value} {below : List Frame} {meth : Method} {c : Code} {Q : State → Prop} {rt0 : Option FieldType} {Θ : Th} {RR : Nat → Mem → Mem → Prop} {b L : Nat} {xs : Nat → Int32} (C : Cx p s m args meth c cL_law 4 RL rt0 Θ) (hX : va_X b L xs s s.heap) (hbl : b < s.heap.size) (hbA : ¬ AA Θ s.heap.size b) (hL : L ≤ 3072) (hsim : Sim_rules RR) {i : Nat} (hi : i + 6 ≤ L) {g h : Mem} {H : Heap} {locs : List Loc} {ls : Array Slot} (hR : RR i g h) (hM : Hd Θ s g h H locs) (hl : lv_has ls 4 [(0, .ref b), (1, .ref (Θ.2.2.1 0)), (2, .ref (Θ.2.2.2 0)), (3, vi (i : Int))])
    (kk : ∀ (g' h' : Mem) (H : Heap) (locs : List Loc), RR (i + 1) g' h' → Hd Θ s g' h' H locs → W p l e room_1 s m args below meth c H locs 107 12186 Q (F0 m 1139 ls [])) : W p l e room_1 s m args below meth c H locs 107 12186 Q (F0 m 764 ls []) := by
  obtain ⟨hx, hb, hml, hown, hts, -⟩ := id C
  obtain ⟨r, r2, g', h', hf1, hf2, hrr, hR⟩ := hsim i g h (by omega) hR
  refine lv_aload_n hx hb (kL4 (i := 98) rfl) rfl (lv_at hl 1 rfl) ?_
  refine xl_callV (n := 0) (As := []) (rest := []) C hM (tX11_rules l Θ h g r g' hf1) (x_recvX C hM 0 (by decide) (eX_0 Θ _) rfl rfl) q_c_X11_rules q_mL_93 q_i_X11_rules q_e_X11_rules q_n_X11 (by decide +kernel) ⟨by decide, by decide⟩ rfl hl.1 rfl (Nat.le_of_ble_eq_true rfl) (kL4 (i := 99) rfl) (fun H locs hM => ?_)
  refine lv_aload_n hx hb (kL5 (i := 0) rfl) rfl (lv_at hl 2 rfl) ?_
  refine xl_callV (n := 0) (As := []) (rest := [vi r]) C hM (tX12_rules l Θ g' h r2 h' hf2) (x_recvM C hM 0 (by decide) (eM_0 Θ _) rfl rfl) q_c_X12_rules q_mL_97 q_i_X12_rules q_e_X12_rules q_n_X12 (by decide +kernel) ⟨by decide, by decide⟩ rfl hl.1 rfl (Nat.le_of_ble_eq_true rfl) (kL5 (i := 1) rfl) (fun H locs hM => ?_)
  exact x_icmp_eq (a' := wr r) (b' := wr r2) hx hb rfl rfl (tgt := 1139) (kL5 (i := 2) rfl) (by decide) (fun _ => kk _ _ _ _ hR hM) (fun q => absurd hrr q)
set_option maxRecDepth 100000 in
set_option maxHeartbeats 4000000 in
theorem lc_19 {p : Program} {l : Launch} {e : Env} {s : State} {m : MethodId} {args : Array Value} {below : List Frame} {meth : Method} {c : Code} {Q : State → Prop} {rt0 : Option FieldType} {Θ : Th} {RR : Nat → Mem → Mem → Prop} {b L : Nat} {xs : Nat → Int32} (C : Cx p s m args meth c cL_law 4 RL rt0 Θ) (hX : va_X b L xs s s.heap) (hbl : b < s.heap.size) (hbA : ¬ AA Θ s.heap.size b) (hL : L ≤ 3072) (hsim : Sim_holds RR) {i : Nat} (hi : i + 6 ≤ L) {g h : Mem} {H : Heap} {locs : List Loc} {ls : Array Slot} (hR : RR i g h) (hM : Hd Θ s g h H locs) (hl : lv_has ls 4 [(0, .ref b), (1, .ref (Θ.2.2.1 0)), (2, .ref (Θ.2.2.2 0)), (3, vi (i : Int))])
    (kk : ∀ (g' h' : Mem) (H : Heap) (locs : List Loc), RR (i + 1) g' h' → Hd Θ s g' h' H locs → W p l e room_1 s m args below meth c H locs 107 12186 Q (F0 m 1139 ls [])) : W p l e room_1 s m args below meth c H locs 107 12186 Q (F0 m 777 ls []) := by
  obtain ⟨hx, hb, hml, hown, hts, -⟩ := id C
  obtain ⟨r, r2, g', h', hf1, hf2, hrr, hR⟩ := hsim i g h (sc xs (i + 1)) (by omega) hR (sc_ir xs _)
  refine lv_aload_n hx hb (kL5 (i := 5) rfl) rfl (lv_at hl 1 rfl) ?_
  refine lv_aload_n hx hb (kL5 (i := 6) rfl) rfl (lv_at hl 0 rfl) ?_
  refine x_iload_n hx hb (kL5 (i := 7) rfl) rfl (lv_at hl 3 rfl) ?_
  refine x_iconst hx hb (kL5 (i := 8) rfl) ?_
  refine x_iadd hx hb (kL5 (i := 9) rfl) ?_
  refine xl_scr (j := i + 1) C hM hX hbl hbA hL (by omega) (by omega) (kL5 (i := 10) rfl) ?_
  refine xl_callV (n := 1) (As := [vi (sc xs (i + 1))]) (rest := []) C hM (tX11_holds l Θ (sc xs (i + 1)) h g r g' hf1) (x_recvX C hM 0 (by decide) (eX_0 Θ _) rfl rfl) q_c_X11_holds q_mL_98 q_i_X11_holds q_e_X11_holds q_n_X11 (by decide +kernel) ⟨by decide, by decide⟩ rfl hl.1 rfl (Nat.le_of_ble_eq_true rfl) (kL5 (i := 11) rfl) (fun H locs hM => ?_)
  refine lv_aload_n hx hb (kL5 (i := 12) rfl) rfl (lv_at hl 2 rfl) ?_
  refine lv_aload_n hx hb (kL5 (i := 13) rfl) rfl (lv_at hl 0 rfl) ?_
  refine x_iload_n hx hb (kL5 (i := 14) rfl) rfl (lv_at hl 3 rfl) ?_
  refine x_iconst hx hb (kL5 (i := 15) rfl) ?_
  refine x_iadd hx hb (kL5 (i := 16) rfl) ?_
  refine xl_scr (j := i + 1) C hM hX hbl hbA hL (by omega) (by omega) (kL5 (i := 17) rfl) ?_
  refine xl_callV (n := 1) (As := [vi (sc xs (i + 1))]) (rest := [vi r]) C hM (tX12_holds l Θ (sc xs (i + 1)) g' h r2 h' hf2) (x_recvM C hM 0 (by decide) (eM_0 Θ _) rfl rfl) q_c_X12_holds q_mL_101 q_i_X12_holds q_e_X12_holds q_n_X12 (by decide +kernel) ⟨by decide, by decide⟩ rfl hl.1 rfl (Nat.le_of_ble_eq_true rfl) (kL5 (i := 18) rfl) (fun H locs hM => ?_)
  exact x_icmp_eq (a' := wr r) (b' := wr r2) hx hb rfl rfl (tgt := 1139) (kL5 (i := 19) rfl) (by decide) (fun _ => kk _ _ _ _ hR hM) (fun q => absurd hrr q)
set_option maxRecDepth 100000 in
set_option maxHeartbeats 4000000 in
theorem lc_20 {p : Program} {l : Launch} {e : Env} {s : State} {m : MethodId} {args : Array Value} {below : List Frame} {meth : Method} {c : Code} {Q : State → Prop} {rt0 : Option FieldType} {Θ : Th} {RR : Nat → Mem → Mem → Prop} {b L : Nat} {xs : Nat → Int32} (C : Cx p s m args meth c cL_law 4 RL rt0 Θ) (hX : va_X b L xs s s.heap) (hbl : b < s.heap.size) (hbA : ¬ AA Θ s.heap.size b) (hL : L ≤ 3072) (hsim : Sim_tried RR) {i : Nat} (hi : i + 6 ≤ L) {g h : Mem} {H : Heap} {locs : List Loc} {ls : Array Slot} (hR : RR i g h) (hM : Hd Θ s g h H locs) (hl : lv_has ls 4 [(0, .ref b), (1, .ref (Θ.2.2.1 0)), (2, .ref (Θ.2.2.2 0)), (3, vi (i : Int))])
    (kk : ∀ (g' h' : Mem) (H : Heap) (locs : List Loc), RR (i + 1) g' h' → Hd Θ s g' h' H locs → W p l e room_1 s m args below meth c H locs 107 12186 Q (F0 m 1139 ls [])) : W p l e room_1 s m args below meth c H locs 107 12186 Q (F0 m 800 ls []) := by
  obtain ⟨hx, hb, hml, hown, hts, -⟩ := id C
  obtain ⟨r, r2, g', h', hf1, hf2, hrr, hR⟩ := hsim i g h (sc xs (i + 1)) (sc xs (i + 2)) (by omega) hR (sc_ir xs _) (sc_ir xs _)
  refine lv_aload_n hx hb (kL5 (i := 22) rfl) rfl (lv_at hl 1 rfl) ?_
  refine lv_aload_n hx hb (kL5 (i := 23) rfl) rfl (lv_at hl 0 rfl) ?_
  refine x_iload_n hx hb (kL5 (i := 24) rfl) rfl (lv_at hl 3 rfl) ?_
  refine x_iconst hx hb (kL5 (i := 25) rfl) ?_
  refine x_iadd hx hb (kL5 (i := 26) rfl) ?_
  refine xl_scr (j := i + 1) C hM hX hbl hbA hL (by omega) (by omega) (kL5 (i := 27) rfl) ?_
  refine lv_aload_n hx hb (kL5 (i := 28) rfl) rfl (lv_at hl 0 rfl) ?_
  refine x_iload_n hx hb (kL5 (i := 29) rfl) rfl (lv_at hl 3 rfl) ?_
  refine x_iconst hx hb (kL5 (i := 30) rfl) ?_
  refine x_iadd hx hb (kL5 (i := 31) rfl) ?_
  refine xl_scr (j := i + 2) C hM hX hbl hbA hL (by omega) (by omega) (kL5 (i := 32) rfl) ?_
  refine xl_callV (n := 2) (As := [vi (sc xs (i + 1)), vi (sc xs (i + 2))]) (rest := []) C hM (tX11_tried l Θ (sc xs (i + 1)) (sc xs (i + 2)) h g r g' hf1) (x_recvX C hM 0 (by decide) (eX_0 Θ _) rfl rfl) q_c_X11_tried q_mL_102 q_i_X11_tried q_e_X11_tried q_n_X11 (by decide +kernel) ⟨by decide, by decide⟩ rfl hl.1 rfl (Nat.le_of_ble_eq_true rfl) (kL5 (i := 33) rfl) (fun H locs hM => ?_)
  refine lv_aload_n hx hb (kL5 (i := 34) rfl) rfl (lv_at hl 2 rfl) ?_
  refine lv_aload_n hx hb (kL5 (i := 35) rfl) rfl (lv_at hl 0 rfl) ?_
  refine x_iload_n hx hb (kL5 (i := 36) rfl) rfl (lv_at hl 3 rfl) ?_
  refine x_iconst hx hb (kL5 (i := 37) rfl) ?_
  refine x_iadd hx hb (kL5 (i := 38) rfl) ?_
  refine xl_scr (j := i + 1) C hM hX hbl hbA hL (by omega) (by omega) (kL5 (i := 39) rfl) ?_
  refine lv_aload_n hx hb (kL5 (i := 40) rfl) rfl (lv_at hl 0 rfl) ?_
  refine x_iload_n hx hb (kL5 (i := 41) rfl) rfl (lv_at hl 3 rfl) ?_
  refine x_iconst hx hb (kL5 (i := 42) rfl) ?_
  refine x_iadd hx hb (kL5 (i := 43) rfl) ?_
  refine xl_scr (j := i + 2) C hM hX hbl hbA hL (by omega) (by omega) (kL5 (i := 44) rfl) ?_
  refine xl_callV (n := 2) (As := [vi (sc xs (i + 1)), vi (sc xs (i + 2))]) (rest := [vi r]) C hM (tX12_tried l Θ (sc xs (i + 1)) (sc xs (i + 2)) g' h r2 h' hf2) (x_recvM C hM 0 (by decide) (eM_0 Θ _) rfl rfl) q_c_X12_tried q_mL_105 q_i_X12_tried q_e_X12_tried q_n_X12 (by decide +kernel) ⟨by decide, by decide⟩ rfl hl.1 rfl (Nat.le_of_ble_eq_true rfl) (kL5 (i := 45) rfl) (fun H locs hM => ?_)
  exact x_icmp_eq (a' := wr r) (b' := wr r2) hx hb rfl rfl (tgt := 1139) (kL5 (i := 46) rfl) (by decide) (fun _ => kk _ _ _ _ hR hM) (fun q => absurd hrr q)
set_option maxRecDepth 100000 in
set_option maxHeartbeats 4000000 in
theorem lc_21 {p : Program} {l : Launch} {e : Env} {s : State} {m : MethodId} {args : Array Value} {below : List Frame} {meth : Method} {c : Code} {Q : State → Prop} {rt0 : Option FieldType} {Θ : Th} {RR : Nat → Mem → Mem → Prop} {b L : Nat} {xs : Nat → Int32} (C : Cx p s m args meth c cL_law 4 RL rt0 Θ) (hX : va_X b L xs s s.heap) (hbl : b < s.heap.size) (hbA : ¬ AA Θ s.heap.size b) (hL : L ≤ 3072) (hsim : Sim_still RR) {i : Nat} (hi : i + 6 ≤ L) {g h : Mem} {H : Heap} {locs : List Loc} {ls : Array Slot} (hR : RR i g h) (hM : Hd Θ s g h H locs) (hl : lv_has ls 4 [(0, .ref b), (1, .ref (Θ.2.2.1 0)), (2, .ref (Θ.2.2.2 0)), (3, vi (i : Int))])
    (kk : ∀ (g' h' : Mem) (H : Heap) (locs : List Loc), RR (i + 1) g' h' → Hd Θ s g' h' H locs → W p l e room_1 s m args below meth c H locs 107 12186 Q (F0 m 1139 ls [])) : W p l e room_1 s m args below meth c H locs 107 12186 Q (F0 m 833 ls []) := by
  obtain ⟨hx, hb, hml, hown, hts, -⟩ := id C
  obtain ⟨r, r2, g', h', hf1, hf2, hrr, hR⟩ := hsim i g h (sc xs (i + 1)) (by omega) hR (sc_ir xs _)
  refine lv_aload_n hx hb (kL5 (i := 49) rfl) rfl (lv_at hl 1 rfl) ?_
  refine lv_aload_n hx hb (kL5 (i := 50) rfl) rfl (lv_at hl 0 rfl) ?_
  refine x_iload_n hx hb (kL5 (i := 51) rfl) rfl (lv_at hl 3 rfl) ?_
  refine x_iconst hx hb (kL5 (i := 52) rfl) ?_
  refine x_iadd hx hb (kL5 (i := 53) rfl) ?_
  refine xl_scr (j := i + 1) C hM hX hbl hbA hL (by omega) (by omega) (kL5 (i := 54) rfl) ?_
  refine xl_callV (n := 1) (As := [vi (sc xs (i + 1))]) (rest := []) C hM (tX11_still l Θ (sc xs (i + 1)) h g r g' hf1) (x_recvX C hM 0 (by decide) (eX_0 Θ _) rfl rfl) q_c_X11_still q_mL_106 q_i_X11_still q_e_X11_still q_n_X11 (by decide +kernel) ⟨by decide, by decide⟩ rfl hl.1 rfl (Nat.le_of_ble_eq_true rfl) (kL5 (i := 55) rfl) (fun H locs hM => ?_)
  refine lv_aload_n hx hb (kL5 (i := 56) rfl) rfl (lv_at hl 2 rfl) ?_
  refine lv_aload_n hx hb (kL5 (i := 57) rfl) rfl (lv_at hl 0 rfl) ?_
  refine x_iload_n hx hb (kL5 (i := 58) rfl) rfl (lv_at hl 3 rfl) ?_
  refine x_iconst hx hb (kL5 (i := 59) rfl) ?_
  refine x_iadd hx hb (kL5 (i := 60) rfl) ?_
  refine xl_scr (j := i + 1) C hM hX hbl hbA hL (by omega) (by omega) (kL5 (i := 61) rfl) ?_
  refine xl_callV (n := 1) (As := [vi (sc xs (i + 1))]) (rest := [vi r]) C hM (tX12_still l Θ (sc xs (i + 1)) g' h r2 h' hf2) (x_recvM C hM 0 (by decide) (eM_0 Θ _) rfl rfl) q_c_X12_still q_mL_109 q_i_X12_still q_e_X12_still q_n_X12 (by decide +kernel) ⟨by decide, by decide⟩ rfl hl.1 rfl (Nat.le_of_ble_eq_true rfl) (kL5 (i := 62) rfl) (fun H locs hM => ?_)
  exact x_icmp_eq (a' := wr r) (b' := wr r2) hx hb rfl rfl (tgt := 1139) (kL5 (i := 63) rfl) (by decide) (fun _ => kk _ _ _ _ hR hM) (fun q => absurd hrr q)
set_option maxRecDepth 100000 in
set_option maxHeartbeats 4000000 in
theorem lc_22 {p : Program} {l : Launch} {e : Env} {s : State} {m : MethodId} {args : Array Value} {below : List Frame} {meth : Method} {c : Code} {Q : State → Prop} {rt0 : Option FieldType} {Θ : Th} {RR : Nat → Mem → Mem → Prop} {b L : Nat} {xs : Nat → Int32} (C : Cx p s m args meth c cL_law 4 RL rt0 Θ) (hX : va_X b L xs s s.heap) (hbl : b < s.heap.size) (hbA : ¬ AA Θ s.heap.size b) (hL : L ≤ 3072) (hsim : Sim_hour RR) {i : Nat} (hi : i + 6 ≤ L) {g h : Mem} {H : Heap} {locs : List Loc} {ls : Array Slot} (hR : RR i g h) (hM : Hd Θ s g h H locs) (hl : lv_has ls 4 [(0, .ref b), (1, .ref (Θ.2.2.1 0)), (2, .ref (Θ.2.2.2 0)), (3, vi (i : Int))])
    (kk : ∀ (g' h' : Mem) (H : Heap) (locs : List Loc), RR (i + 1) g' h' → Hd Θ s g' h' H locs → W p l e room_1 s m args below meth c H locs 107 12186 Q (F0 m 1139 ls [])) : W p l e room_1 s m args below meth c H locs 107 12186 Q (F0 m 856 ls []) := by
  obtain ⟨hx, hb, hml, hown, hts, -⟩ := id C
  obtain ⟨r, r2, g', h', hf1, hf2, hrr, hR⟩ := hsim i g h (sc xs (i + 1)) (sc xs (i + 2)) (by omega) hR (sc_ir xs _) (sc_ir xs _)
  refine lv_aload_n hx hb (kL5 (i := 66) rfl) rfl (lv_at hl 1 rfl) ?_
  refine lv_aload_n hx hb (kL5 (i := 67) rfl) rfl (lv_at hl 0 rfl) ?_
  refine x_iload_n hx hb (kL5 (i := 68) rfl) rfl (lv_at hl 3 rfl) ?_
  refine x_iconst hx hb (kL5 (i := 69) rfl) ?_
  refine x_iadd hx hb (kL5 (i := 70) rfl) ?_
  refine xl_scr (j := i + 1) C hM hX hbl hbA hL (by omega) (by omega) (kL5 (i := 71) rfl) ?_
  refine lv_aload_n hx hb (kL5 (i := 72) rfl) rfl (lv_at hl 0 rfl) ?_
  refine x_iload_n hx hb (kL5 (i := 73) rfl) rfl (lv_at hl 3 rfl) ?_
  refine x_iconst hx hb (kL5 (i := 74) rfl) ?_
  refine x_iadd hx hb (kL5 (i := 75) rfl) ?_
  refine xl_scr (j := i + 2) C hM hX hbl hbA hL (by omega) (by omega) (kL5 (i := 76) rfl) ?_
  refine xl_callV (n := 2) (As := [vi (sc xs (i + 1)), vi (sc xs (i + 2))]) (rest := []) C hM (tX11_hour l Θ (sc xs (i + 1)) (sc xs (i + 2)) h g r g' hf1) (x_recvX C hM 0 (by decide) (eX_0 Θ _) rfl rfl) q_c_X11_hour q_mL_110 q_i_X11_hour q_e_X11_hour q_n_X11 (by decide +kernel) ⟨by decide, by decide⟩ rfl hl.1 rfl (Nat.le_of_ble_eq_true rfl) (kL5 (i := 77) rfl) (fun H locs hM => ?_)
  refine lv_aload_n hx hb (kL5 (i := 78) rfl) rfl (lv_at hl 2 rfl) ?_
  refine lv_aload_n hx hb (kL5 (i := 79) rfl) rfl (lv_at hl 0 rfl) ?_
  refine x_iload_n hx hb (kL5 (i := 80) rfl) rfl (lv_at hl 3 rfl) ?_
  refine x_iconst hx hb (kL5 (i := 81) rfl) ?_
  refine x_iadd hx hb (kL5 (i := 82) rfl) ?_
  refine xl_scr (j := i + 1) C hM hX hbl hbA hL (by omega) (by omega) (kL5 (i := 83) rfl) ?_
  refine lv_aload_n hx hb (kL5 (i := 84) rfl) rfl (lv_at hl 0 rfl) ?_
  refine x_iload_n hx hb (kL5 (i := 85) rfl) rfl (lv_at hl 3 rfl) ?_
  refine x_iconst hx hb (kL5 (i := 86) rfl) ?_
  refine x_iadd hx hb (kL5 (i := 87) rfl) ?_
  refine xl_scr (j := i + 2) C hM hX hbl hbA hL (by omega) (by omega) (kL5 (i := 88) rfl) ?_
  refine xl_callV (n := 2) (As := [vi (sc xs (i + 1)), vi (sc xs (i + 2))]) (rest := [vi r]) C hM (tX12_hour l Θ (sc xs (i + 1)) (sc xs (i + 2)) g' h r2 h' hf2) (x_recvM C hM 0 (by decide) (eM_0 Θ _) rfl rfl) q_c_X12_hour q_mL_113 q_i_X12_hour q_e_X12_hour q_n_X12 (by decide +kernel) ⟨by decide, by decide⟩ rfl hl.1 rfl (Nat.le_of_ble_eq_true rfl) (kL5 (i := 89) rfl) (fun H locs hM => ?_)
  exact x_icmp_eq (a' := wr r) (b' := wr r2) hx hb rfl rfl (tgt := 1139) (kL5 (i := 90) rfl) (by decide) (fun _ => kk _ _ _ _ hR hM) (fun q => absurd hrr q)
set_option maxRecDepth 100000 in
set_option maxHeartbeats 4000000 in
theorem lc_23 {p : Program} {l : Launch} {e : Env} {s : State} {m : MethodId} {args : Array Value} {below : List Frame} {meth : Method} {c : Code} {Q : State → Prop} {rt0 : Option FieldType} {Θ : Th} {RR : Nat → Mem → Mem → Prop} {b L : Nat} {xs : Nat → Int32} (C : Cx p s m args meth c cL_law 4 RL rt0 Θ) (hX : va_X b L xs s s.heap) (hbl : b < s.heap.size) (hbA : ¬ AA Θ s.heap.size b) (hL : L ≤ 3072) (hsim : Sim_begin RR) {i : Nat} (hi : i + 6 ≤ L) {g h : Mem} {H : Heap} {locs : List Loc} {ls : Array Slot} (hR : RR i g h) (hM : Hd Θ s g h H locs) (hl : lv_has ls 4 [(0, .ref b), (1, .ref (Θ.2.2.1 0)), (2, .ref (Θ.2.2.2 0)), (3, vi (i : Int))])
    (kk : ∀ (g' h' : Mem) (H : Heap) (locs : List Loc), RR (i + 1) g' h' → Hd Θ s g' h' H locs → W p l e room_1 s m args below meth c H locs 107 12186 Q (F0 m 1139 ls [])) : W p l e room_1 s m args below meth c H locs 107 12186 Q (F0 m 889 ls []) := by
  obtain ⟨hx, hb, hml, hown, hts, -⟩ := id C
  obtain ⟨r, r2, g', h', hf1, hf2, hrr, hR⟩ := hsim i g h (sc xs (i + 1)) (by omega) hR (sc_ir xs _)
  refine lv_aload_n hx hb (kL5 (i := 93) rfl) rfl (lv_at hl 1 rfl) ?_
  refine lv_aload_n hx hb (kL5 (i := 94) rfl) rfl (lv_at hl 0 rfl) ?_
  refine x_iload_n hx hb (kL5 (i := 95) rfl) rfl (lv_at hl 3 rfl) ?_
  refine x_iconst hx hb (kL5 (i := 96) rfl) ?_
  refine x_iadd hx hb (kL5 (i := 97) rfl) ?_
  refine xl_scr (j := i + 1) C hM hX hbl hbA hL (by omega) (by omega) (kL5 (i := 98) rfl) ?_
  refine xl_callV (n := 1) (As := [vi (sc xs (i + 1))]) (rest := []) C hM (tX11_begin l Θ (sc xs (i + 1)) h g r g' hf1) (x_recvX C hM 0 (by decide) (eX_0 Θ _) rfl rfl) q_c_X11_begin q_mL_114 q_i_X11_begin q_e_X11_begin q_n_X11 (by decide +kernel) ⟨by decide, by decide⟩ rfl hl.1 rfl (Nat.le_of_ble_eq_true rfl) (kL5 (i := 99) rfl) (fun H locs hM => ?_)
  refine lv_aload_n hx hb (kL6 (i := 0) rfl) rfl (lv_at hl 2 rfl) ?_
  refine lv_aload_n hx hb (kL6 (i := 1) rfl) rfl (lv_at hl 0 rfl) ?_
  refine x_iload_n hx hb (kL6 (i := 2) rfl) rfl (lv_at hl 3 rfl) ?_
  refine x_iconst hx hb (kL6 (i := 3) rfl) ?_
  refine x_iadd hx hb (kL6 (i := 4) rfl) ?_
  refine xl_scr (j := i + 1) C hM hX hbl hbA hL (by omega) (by omega) (kL6 (i := 5) rfl) ?_
  refine xl_callV (n := 1) (As := [vi (sc xs (i + 1))]) (rest := [vi r]) C hM (tX12_begin l Θ (sc xs (i + 1)) g' h r2 h' hf2) (x_recvM C hM 0 (by decide) (eM_0 Θ _) rfl rfl) q_c_X12_begin q_mL_117 q_i_X12_begin q_e_X12_begin q_n_X12 (by decide +kernel) ⟨by decide, by decide⟩ rfl hl.1 rfl (Nat.le_of_ble_eq_true rfl) (kL6 (i := 6) rfl) (fun H locs hM => ?_)
  exact x_icmp_eq (a' := wr r) (b' := wr r2) hx hb rfl rfl (tgt := 1139) (kL6 (i := 7) rfl) (by decide) (fun _ => kk _ _ _ _ hR hM) (fun q => absurd hrr q)
set_option maxRecDepth 100000 in
set_option maxHeartbeats 4000000 in
theorem lc_24 {p : Program} {l : Launch} {e : Env} {s : State} {m : MethodId} {args : Array Value} {below : List Frame} {meth : Method} {c : Code} {Q : State → Prop} {rt0 : Option FieldType} {Θ : Th} {RR : Nat → Mem → Mem → Prop} {b L : Nat} {xs : Nat → Int32} (C : Cx p s m args meth c cL_law 4 RL rt0 Θ) (hX : va_X b L xs s s.heap) (hbl : b < s.heap.size) (hbA : ¬ AA Θ s.heap.size b) (hL : L ≤ 3072) (hsim : Sim_best RR) {i : Nat} (hi : i + 6 ≤ L) {g h : Mem} {H : Heap} {locs : List Loc} {ls : Array Slot} (hR : RR i g h) (hM : Hd Θ s g h H locs) (hl : lv_has ls 4 [(0, .ref b), (1, .ref (Θ.2.2.1 0)), (2, .ref (Θ.2.2.2 0)), (3, vi (i : Int))])
    (kk : ∀ (g' h' : Mem) (H : Heap) (locs : List Loc), RR (i + 1) g' h' → Hd Θ s g' h' H locs → W p l e room_1 s m args below meth c H locs 107 12186 Q (F0 m 1139 ls [])) : W p l e room_1 s m args below meth c H locs 107 12186 Q (F0 m 912 ls []) := by
  obtain ⟨hx, hb, hml, hown, hts, -⟩ := id C
  obtain ⟨r, r2, g', h', hf1, hf2, hrr, hR⟩ := hsim i g h (sc xs (i + 1)) (sc xs (i + 2)) (by omega) hR (sc_ir xs _) (sc_ir xs _)
  refine lv_aload_n hx hb (kL6 (i := 10) rfl) rfl (lv_at hl 1 rfl) ?_
  refine lv_aload_n hx hb (kL6 (i := 11) rfl) rfl (lv_at hl 0 rfl) ?_
  refine x_iload_n hx hb (kL6 (i := 12) rfl) rfl (lv_at hl 3 rfl) ?_
  refine x_iconst hx hb (kL6 (i := 13) rfl) ?_
  refine x_iadd hx hb (kL6 (i := 14) rfl) ?_
  refine xl_scr (j := i + 1) C hM hX hbl hbA hL (by omega) (by omega) (kL6 (i := 15) rfl) ?_
  refine lv_aload_n hx hb (kL6 (i := 16) rfl) rfl (lv_at hl 0 rfl) ?_
  refine x_iload_n hx hb (kL6 (i := 17) rfl) rfl (lv_at hl 3 rfl) ?_
  refine x_iconst hx hb (kL6 (i := 18) rfl) ?_
  refine x_iadd hx hb (kL6 (i := 19) rfl) ?_
  refine xl_scr (j := i + 2) C hM hX hbl hbA hL (by omega) (by omega) (kL6 (i := 20) rfl) ?_
  refine xl_callV (n := 2) (As := [vi (sc xs (i + 1)), vi (sc xs (i + 2))]) (rest := []) C hM (tX11_best l Θ (sc xs (i + 1)) (sc xs (i + 2)) h g r g' hf1) (x_recvX C hM 0 (by decide) (eX_0 Θ _) rfl rfl) q_c_X11_best q_mL_118 q_i_X11_best q_e_X11_best q_n_X11 (by decide +kernel) ⟨by decide, by decide⟩ rfl hl.1 rfl (Nat.le_of_ble_eq_true rfl) (kL6 (i := 21) rfl) (fun H locs hM => ?_)
  refine lv_aload_n hx hb (kL6 (i := 22) rfl) rfl (lv_at hl 2 rfl) ?_
  refine lv_aload_n hx hb (kL6 (i := 23) rfl) rfl (lv_at hl 0 rfl) ?_
  refine x_iload_n hx hb (kL6 (i := 24) rfl) rfl (lv_at hl 3 rfl) ?_
  refine x_iconst hx hb (kL6 (i := 25) rfl) ?_
  refine x_iadd hx hb (kL6 (i := 26) rfl) ?_
  refine xl_scr (j := i + 1) C hM hX hbl hbA hL (by omega) (by omega) (kL6 (i := 27) rfl) ?_
  refine lv_aload_n hx hb (kL6 (i := 28) rfl) rfl (lv_at hl 0 rfl) ?_
  refine x_iload_n hx hb (kL6 (i := 29) rfl) rfl (lv_at hl 3 rfl) ?_
  refine x_iconst hx hb (kL6 (i := 30) rfl) ?_
  refine x_iadd hx hb (kL6 (i := 31) rfl) ?_
  refine xl_scr (j := i + 2) C hM hX hbl hbA hL (by omega) (by omega) (kL6 (i := 32) rfl) ?_
  refine xl_callV (n := 2) (As := [vi (sc xs (i + 1)), vi (sc xs (i + 2))]) (rest := [vi r]) C hM (tX12_best l Θ (sc xs (i + 1)) (sc xs (i + 2)) g' h r2 h' hf2) (x_recvM C hM 0 (by decide) (eM_0 Θ _) rfl rfl) q_c_X12_best q_mL_121 q_i_X12_best q_e_X12_best q_n_X12 (by decide +kernel) ⟨by decide, by decide⟩ rfl hl.1 rfl (Nat.le_of_ble_eq_true rfl) (kL6 (i := 33) rfl) (fun H locs hM => ?_)
  exact x_icmp_eq (a' := wr r) (b' := wr r2) hx hb rfl rfl (tgt := 1139) (kL6 (i := 34) rfl) (by decide) (fun _ => kk _ _ _ _ hR hM) (fun q => absurd hrr q)
set_option maxRecDepth 100000 in
set_option maxHeartbeats 4000000 in
theorem lc_25 {p : Program} {l : Launch} {e : Env} {s : State} {m : MethodId} {args : Array Value} {below : List Frame} {meth : Method} {c : Code} {Q : State → Prop} {rt0 : Option FieldType} {Θ : Th} {RR : Nat → Mem → Mem → Prop} {b L : Nat} {xs : Nat → Int32} (C : Cx p s m args meth c cL_law 4 RL rt0 Θ) (hX : va_X b L xs s s.heap) (hbl : b < s.heap.size) (hbA : ¬ AA Θ s.heap.size b) (hL : L ≤ 3072) (hsim : Sim_record RR) {i : Nat} (hi : i + 6 ≤ L) {g h : Mem} {H : Heap} {locs : List Loc} {ls : Array Slot} (hR : RR i g h) (hM : Hd Θ s g h H locs) (hl : lv_has ls 4 [(0, .ref b), (1, .ref (Θ.2.2.1 0)), (2, .ref (Θ.2.2.2 0)), (3, vi (i : Int))])
    (kk : ∀ (g' h' : Mem) (H : Heap) (locs : List Loc), RR (i + 1) g' h' → Hd Θ s g' h' H locs → W p l e room_1 s m args below meth c H locs 107 12186 Q (F0 m 1139 ls [])) : W p l e room_1 s m args below meth c H locs 107 12186 Q (F0 m 945 ls []) := by
  obtain ⟨hx, hb, hml, hown, hts, -⟩ := id C
  obtain ⟨r, r2, g', h', hf1, hf2, hrr, hR⟩ := hsim i g h (sc xs (i + 1)) (by omega) hR (sc_ir xs _)
  refine lv_aload_n hx hb (kL6 (i := 37) rfl) rfl (lv_at hl 1 rfl) ?_
  refine lv_aload_n hx hb (kL6 (i := 38) rfl) rfl (lv_at hl 0 rfl) ?_
  refine x_iload_n hx hb (kL6 (i := 39) rfl) rfl (lv_at hl 3 rfl) ?_
  refine x_iconst hx hb (kL6 (i := 40) rfl) ?_
  refine x_iadd hx hb (kL6 (i := 41) rfl) ?_
  refine xl_scr (j := i + 1) C hM hX hbl hbA hL (by omega) (by omega) (kL6 (i := 42) rfl) ?_
  refine xl_callV (n := 1) (As := [vi (sc xs (i + 1))]) (rest := []) C hM (tX11_record l Θ (sc xs (i + 1)) h g r g' hf1) (x_recvX C hM 0 (by decide) (eX_0 Θ _) rfl rfl) q_c_X11_record q_mL_122 q_i_X11_record q_e_X11_record q_n_X11 (by decide +kernel) ⟨by decide, by decide⟩ rfl hl.1 rfl (Nat.le_of_ble_eq_true rfl) (kL6 (i := 43) rfl) (fun H locs hM => ?_)
  refine lv_aload_n hx hb (kL6 (i := 44) rfl) rfl (lv_at hl 2 rfl) ?_
  refine lv_aload_n hx hb (kL6 (i := 45) rfl) rfl (lv_at hl 0 rfl) ?_
  refine x_iload_n hx hb (kL6 (i := 46) rfl) rfl (lv_at hl 3 rfl) ?_
  refine x_iconst hx hb (kL6 (i := 47) rfl) ?_
  refine x_iadd hx hb (kL6 (i := 48) rfl) ?_
  refine xl_scr (j := i + 1) C hM hX hbl hbA hL (by omega) (by omega) (kL6 (i := 49) rfl) ?_
  refine xl_callV (n := 1) (As := [vi (sc xs (i + 1))]) (rest := [vi r]) C hM (tX12_record l Θ (sc xs (i + 1)) g' h r2 h' hf2) (x_recvM C hM 0 (by decide) (eM_0 Θ _) rfl rfl) q_c_X12_record q_mL_125 q_i_X12_record q_e_X12_record q_n_X12 (by decide +kernel) ⟨by decide, by decide⟩ rfl hl.1 rfl (Nat.le_of_ble_eq_true rfl) (kL6 (i := 50) rfl) (fun H locs hM => ?_)
  exact x_icmp_eq (a' := wr r) (b' := wr r2) hx hb rfl rfl (tgt := 1139) (kL6 (i := 51) rfl) (by decide) (fun _ => kk _ _ _ _ hR hM) (fun q => absurd hrr q)
set_option maxRecDepth 100000 in
set_option maxHeartbeats 4000000 in
theorem lc_26 {p : Program} {l : Launch} {e : Env} {s : State} {m : MethodId} {args : Array Value} {below : List Frame} {meth : Method} {c : Code} {Q : State → Prop} {rt0 : Option FieldType} {Θ : Th} {RR : Nat → Mem → Mem → Prop} {b L : Nat} {xs : Nat → Int32} (C : Cx p s m args meth c cL_law 4 RL rt0 Θ) (hX : va_X b L xs s s.heap) (hbl : b < s.heap.size) (hbA : ¬ AA Θ s.heap.size b) (hL : L ≤ 3072) (hsim : Sim_clear RR) {i : Nat} (hi : i + 6 ≤ L) {g h : Mem} {H : Heap} {locs : List Loc} {ls : Array Slot} (hR : RR i g h) (hM : Hd Θ s g h H locs) (hl : lv_has ls 4 [(0, .ref b), (1, .ref (Θ.2.2.1 0)), (2, .ref (Θ.2.2.2 0)), (3, vi (i : Int))])
    (kk : ∀ (g' h' : Mem) (H : Heap) (locs : List Loc), RR (i + 1) g' h' → Hd Θ s g' h' H locs → W p l e room_1 s m args below meth c H locs 107 12186 Q (F0 m 1139 ls [])) : W p l e room_1 s m args below meth c H locs 107 12186 Q (F0 m 968 ls []) := by
  obtain ⟨hx, hb, hml, hown, hts, -⟩ := id C
  obtain ⟨r, r2, g', h', hf1, hf2, hrr, hR⟩ := hsim i g h (by omega) hR
  refine lv_aload_n hx hb (kL6 (i := 54) rfl) rfl (lv_at hl 1 rfl) ?_
  refine xl_callV (n := 0) (As := []) (rest := []) C hM (tX11_clear l Θ h g r g' hf1) (x_recvX C hM 0 (by decide) (eX_0 Θ _) rfl rfl) q_c_X11_clear q_mL_126 q_i_X11_clear q_e_X11_clear q_n_X11 (by decide +kernel) ⟨by decide, by decide⟩ rfl hl.1 rfl (Nat.le_of_ble_eq_true rfl) (kL6 (i := 55) rfl) (fun H locs hM => ?_)
  refine lv_aload_n hx hb (kL6 (i := 56) rfl) rfl (lv_at hl 2 rfl) ?_
  refine xl_callV (n := 0) (As := []) (rest := [vi r]) C hM (tX12_clear l Θ g' h r2 h' hf2) (x_recvM C hM 0 (by decide) (eM_0 Θ _) rfl rfl) q_c_X12_clear q_mL_129 q_i_X12_clear q_e_X12_clear q_n_X12 (by decide +kernel) ⟨by decide, by decide⟩ rfl hl.1 rfl (Nat.le_of_ble_eq_true rfl) (kL6 (i := 57) rfl) (fun H locs hM => ?_)
  exact x_icmp_eq (a' := wr r) (b' := wr r2) hx hb rfl rfl (tgt := 1139) (kL6 (i := 58) rfl) (by decide) (fun _ => kk _ _ _ _ hR hM) (fun q => absurd hrr q)
set_option maxRecDepth 100000 in
set_option maxHeartbeats 4000000 in
theorem lc_27 {p : Program} {l : Launch} {e : Env} {s : State} {m : MethodId} {args : Array Value} {below : List Frame} {meth : Method} {c : Code} {Q : State → Prop} {rt0 : Option FieldType} {Θ : Th} {RR : Nat → Mem → Mem → Prop} {b L : Nat} {xs : Nat → Int32} (C : Cx p s m args meth c cL_law 4 RL rt0 Θ) (hX : va_X b L xs s s.heap) (hbl : b < s.heap.size) (hbA : ¬ AA Θ s.heap.size b) (hL : L ≤ 3072) (hsim : Sim_read RR) {i : Nat} (hi : i + 6 ≤ L) {g h : Mem} {H : Heap} {locs : List Loc} {ls : Array Slot} (hR : RR i g h) (hM : Hd Θ s g h H locs) (hl : lv_has ls 4 [(0, .ref b), (1, .ref (Θ.2.2.1 0)), (2, .ref (Θ.2.2.2 0)), (3, vi (i : Int))])
    (kk : ∀ (g' h' : Mem) (H : Heap) (locs : List Loc), RR (i + 1) g' h' → Hd Θ s g' h' H locs → W p l e room_1 s m args below meth c H locs 107 12186 Q (F0 m 1139 ls [])) : W p l e room_1 s m args below meth c H locs 107 12186 Q (F0 m 981 ls []) := by
  obtain ⟨hx, hb, hml, hown, hts, -⟩ := id C
  obtain ⟨r, r2, hf1, hf2, hrr, hR⟩ := hsim i g h (sc xs (i + 1)) (by omega) hR (sc_ir xs _)
  refine lv_aload_n hx hb (kL6 (i := 61) rfl) rfl (lv_at hl 1 rfl) ?_
  refine lv_aload_n hx hb (kL6 (i := 62) rfl) rfl (lv_at hl 0 rfl) ?_
  refine x_iload_n hx hb (kL6 (i := 63) rfl) rfl (lv_at hl 3 rfl) ?_
  refine x_iconst hx hb (kL6 (i := 64) rfl) ?_
  refine x_iadd hx hb (kL6 (i := 65) rfl) ?_
  refine xl_scr (j := i + 1) C hM hX hbl hbA hL (by omega) (by omega) (kL6 (i := 66) rfl) ?_
  refine xl_callV (n := 1) (As := [vi (sc xs (i + 1))]) (rest := []) C hM (tX11_read l Θ (sc xs (i + 1)) h g r hf1) (x_recvX C hM 0 (by decide) (eX_0 Θ _) rfl rfl) q_c_X11_read q_mL_130 q_i_X11_read q_e_X11_read q_n_X11 (by decide +kernel) ⟨by decide, by decide⟩ rfl hl.1 rfl (Nat.le_of_ble_eq_true rfl) (kL6 (i := 67) rfl) (fun H locs hM => ?_)
  refine lv_aload_n hx hb (kL6 (i := 68) rfl) rfl (lv_at hl 2 rfl) ?_
  refine lv_aload_n hx hb (kL6 (i := 69) rfl) rfl (lv_at hl 0 rfl) ?_
  refine x_iload_n hx hb (kL6 (i := 70) rfl) rfl (lv_at hl 3 rfl) ?_
  refine x_iconst hx hb (kL6 (i := 71) rfl) ?_
  refine x_iadd hx hb (kL6 (i := 72) rfl) ?_
  refine xl_scr (j := i + 1) C hM hX hbl hbA hL (by omega) (by omega) (kL6 (i := 73) rfl) ?_
  refine xl_callV (n := 1) (As := [vi (sc xs (i + 1))]) (rest := [vi r]) C hM (tX12_read l Θ (sc xs (i + 1)) g h r2 hf2) (x_recvM C hM 0 (by decide) (eM_0 Θ _) rfl rfl) q_c_X12_read q_mL_133 q_i_X12_read q_e_X12_read q_n_X12 (by decide +kernel) ⟨by decide, by decide⟩ rfl hl.1 rfl (Nat.le_of_ble_eq_true rfl) (kL6 (i := 74) rfl) (fun H locs hM => ?_)
  exact x_icmp_eq (a' := wr r) (b' := wr r2) hx hb rfl rfl (tgt := 1139) (kL6 (i := 75) rfl) (by decide) (fun _ => kk _ _ _ _ hR hM) (fun q => absurd hrr q)
set_option maxRecDepth 100000 in
set_option maxHeartbeats 4000000 in
theorem lc_28 {p : Program} {l : Launch} {e : Env} {s : State} {m : MethodId} {args : Array Value} {below : List Frame} {meth : Method} {c : Code} {Q : State → Prop} {rt0 : Option FieldType} {Θ : Th} {RR : Nat → Mem → Mem → Prop} {b L : Nat} {xs : Nat → Int32} (C : Cx p s m args meth c cL_law 4 RL rt0 Θ) (hX : va_X b L xs s s.heap) (hbl : b < s.heap.size) (hbA : ¬ AA Θ s.heap.size b) (hL : L ≤ 3072) (hsim : Sim_goes RR) {i : Nat} (hi : i + 6 ≤ L) {g h : Mem} {H : Heap} {locs : List Loc} {ls : Array Slot} (hR : RR i g h) (hM : Hd Θ s g h H locs) (hl : lv_has ls 4 [(0, .ref b), (1, .ref (Θ.2.2.1 0)), (2, .ref (Θ.2.2.2 0)), (3, vi (i : Int))])
    (kk : ∀ (g' h' : Mem) (H : Heap) (locs : List Loc), RR (i + 1) g' h' → Hd Θ s g' h' H locs → W p l e room_1 s m args below meth c H locs 107 12186 Q (F0 m 1139 ls [])) : W p l e room_1 s m args below meth c H locs 107 12186 Q (F0 m 1004 ls []) := by
  obtain ⟨hx, hb, hml, hown, hts, -⟩ := id C
  obtain ⟨r, r2, hf1, hf2, hrr, hR⟩ := hsim i g h (sc xs (i + 1)) (by omega) hR (sc_ir xs _)
  refine lv_aload_n hx hb (kL6 (i := 78) rfl) rfl (lv_at hl 1 rfl) ?_
  refine lv_aload_n hx hb (kL6 (i := 79) rfl) rfl (lv_at hl 0 rfl) ?_
  refine x_iload_n hx hb (kL6 (i := 80) rfl) rfl (lv_at hl 3 rfl) ?_
  refine x_iconst hx hb (kL6 (i := 81) rfl) ?_
  refine x_iadd hx hb (kL6 (i := 82) rfl) ?_
  refine xl_scr (j := i + 1) C hM hX hbl hbA hL (by omega) (by omega) (kL6 (i := 83) rfl) ?_
  refine xl_callV (n := 1) (As := [vi (sc xs (i + 1))]) (rest := []) C hM (tX11_goes l Θ (sc xs (i + 1)) h g r hf1) (x_recvX C hM 0 (by decide) (eX_0 Θ _) rfl rfl) q_c_X11_goes q_mL_134 q_i_X11_goes q_e_X11_goes q_n_X11 (by decide +kernel) ⟨by decide, by decide⟩ rfl hl.1 rfl (Nat.le_of_ble_eq_true rfl) (kL6 (i := 84) rfl) (fun H locs hM => ?_)
  refine lv_aload_n hx hb (kL6 (i := 85) rfl) rfl (lv_at hl 2 rfl) ?_
  refine lv_aload_n hx hb (kL6 (i := 86) rfl) rfl (lv_at hl 0 rfl) ?_
  refine x_iload_n hx hb (kL6 (i := 87) rfl) rfl (lv_at hl 3 rfl) ?_
  refine x_iconst hx hb (kL6 (i := 88) rfl) ?_
  refine x_iadd hx hb (kL6 (i := 89) rfl) ?_
  refine xl_scr (j := i + 1) C hM hX hbl hbA hL (by omega) (by omega) (kL6 (i := 90) rfl) ?_
  refine xl_callV (n := 1) (As := [vi (sc xs (i + 1))]) (rest := [vi r]) C hM (tX12_goes l Θ (sc xs (i + 1)) g h r2 hf2) (x_recvM C hM 0 (by decide) (eM_0 Θ _) rfl rfl) q_c_X12_goes q_mL_137 q_i_X12_goes q_e_X12_goes q_n_X12 (by decide +kernel) ⟨by decide, by decide⟩ rfl hl.1 rfl (Nat.le_of_ble_eq_true rfl) (kL6 (i := 91) rfl) (fun H locs hM => ?_)
  exact x_icmp_eq (a' := wr r) (b' := wr r2) hx hb rfl rfl (tgt := 1139) (kL6 (i := 92) rfl) (by decide) (fun _ => kk _ _ _ _ hR hM) (fun q => absurd hrr q)
set_option maxRecDepth 100000 in
set_option maxHeartbeats 4000000 in
theorem lc_29 {p : Program} {l : Launch} {e : Env} {s : State} {m : MethodId} {args : Array Value} {below : List Frame} {meth : Method} {c : Code} {Q : State → Prop} {rt0 : Option FieldType} {Θ : Th} {RR : Nat → Mem → Mem → Prop} {b L : Nat} {xs : Nat → Int32} (C : Cx p s m args meth c cL_law 4 RL rt0 Θ) (hX : va_X b L xs s s.heap) (hbl : b < s.heap.size) (hbA : ¬ AA Θ s.heap.size b) (hL : L ≤ 3072) (hsim : Sim_check RR) {i : Nat} (hi : i + 6 ≤ L) {g h : Mem} {H : Heap} {locs : List Loc} {ls : Array Slot} (hR : RR i g h) (hM : Hd Θ s g h H locs) (hl : lv_has ls 4 [(0, .ref b), (1, .ref (Θ.2.2.1 0)), (2, .ref (Θ.2.2.2 0)), (3, vi (i : Int))])
    (kk : ∀ (g' h' : Mem) (H : Heap) (locs : List Loc), RR (i + 1) g' h' → Hd Θ s g' h' H locs → W p l e room_1 s m args below meth c H locs 107 12186 Q (F0 m 1139 ls [])) : W p l e room_1 s m args below meth c H locs 107 12186 Q (F0 m 1027 ls []) := by
  obtain ⟨hx, hb, hml, hown, hts, -⟩ := id C
  obtain ⟨r, r2, hf1, hf2, hrr, hR⟩ := hsim i g h (sc xs (i + 1)) (sc xs (i + 2)) (sc xs (i + 3)) (by omega) hR (sc_ir xs _) (sc_ir xs _) (sc_ir xs _)
  refine lv_aload_n hx hb (kL6 (i := 95) rfl) rfl (lv_at hl 1 rfl) ?_
  refine lv_aload_n hx hb (kL6 (i := 96) rfl) rfl (lv_at hl 0 rfl) ?_
  refine x_iload_n hx hb (kL6 (i := 97) rfl) rfl (lv_at hl 3 rfl) ?_
  refine x_iconst hx hb (kL6 (i := 98) rfl) ?_
  refine x_iadd hx hb (kL6 (i := 99) rfl) ?_
  refine xl_scr (j := i + 1) C hM hX hbl hbA hL (by omega) (by omega) (kL7 (i := 0) rfl) ?_
  refine lv_aload_n hx hb (kL7 (i := 1) rfl) rfl (lv_at hl 0 rfl) ?_
  refine x_iload_n hx hb (kL7 (i := 2) rfl) rfl (lv_at hl 3 rfl) ?_
  refine x_iconst hx hb (kL7 (i := 3) rfl) ?_
  refine x_iadd hx hb (kL7 (i := 4) rfl) ?_
  refine xl_scr (j := i + 2) C hM hX hbl hbA hL (by omega) (by omega) (kL7 (i := 5) rfl) ?_
  refine lv_aload_n hx hb (kL7 (i := 6) rfl) rfl (lv_at hl 0 rfl) ?_
  refine x_iload_n hx hb (kL7 (i := 7) rfl) rfl (lv_at hl 3 rfl) ?_
  refine x_iconst hx hb (kL7 (i := 8) rfl) ?_
  refine x_iadd hx hb (kL7 (i := 9) rfl) ?_
  refine xl_scr (j := i + 3) C hM hX hbl hbA hL (by omega) (by omega) (kL7 (i := 10) rfl) ?_
  refine xl_callV (n := 3) (As := [vi (sc xs (i + 1)), vi (sc xs (i + 2)), vi (sc xs (i + 3))]) (rest := []) C hM (tX11_check l Θ (sc xs (i + 1)) (sc xs (i + 2)) (sc xs (i + 3)) h g r hf1) (x_recvX C hM 0 (by decide) (eX_0 Θ _) rfl rfl) q_c_X11_check q_mL_138 q_i_X11_check q_e_X11_check q_n_X11 (by decide +kernel) ⟨by decide, by decide⟩ rfl hl.1 rfl (Nat.le_of_ble_eq_true rfl) (kL7 (i := 11) rfl) (fun H locs hM => ?_)
  refine lv_aload_n hx hb (kL7 (i := 12) rfl) rfl (lv_at hl 2 rfl) ?_
  refine lv_aload_n hx hb (kL7 (i := 13) rfl) rfl (lv_at hl 0 rfl) ?_
  refine x_iload_n hx hb (kL7 (i := 14) rfl) rfl (lv_at hl 3 rfl) ?_
  refine x_iconst hx hb (kL7 (i := 15) rfl) ?_
  refine x_iadd hx hb (kL7 (i := 16) rfl) ?_
  refine xl_scr (j := i + 1) C hM hX hbl hbA hL (by omega) (by omega) (kL7 (i := 17) rfl) ?_
  refine lv_aload_n hx hb (kL7 (i := 18) rfl) rfl (lv_at hl 0 rfl) ?_
  refine x_iload_n hx hb (kL7 (i := 19) rfl) rfl (lv_at hl 3 rfl) ?_
  refine x_iconst hx hb (kL7 (i := 20) rfl) ?_
  refine x_iadd hx hb (kL7 (i := 21) rfl) ?_
  refine xl_scr (j := i + 2) C hM hX hbl hbA hL (by omega) (by omega) (kL7 (i := 22) rfl) ?_
  refine lv_aload_n hx hb (kL7 (i := 23) rfl) rfl (lv_at hl 0 rfl) ?_
  refine x_iload_n hx hb (kL7 (i := 24) rfl) rfl (lv_at hl 3 rfl) ?_
  refine x_iconst hx hb (kL7 (i := 25) rfl) ?_
  refine x_iadd hx hb (kL7 (i := 26) rfl) ?_
  refine xl_scr (j := i + 3) C hM hX hbl hbA hL (by omega) (by omega) (kL7 (i := 27) rfl) ?_
  refine xl_callV (n := 3) (As := [vi (sc xs (i + 1)), vi (sc xs (i + 2)), vi (sc xs (i + 3))]) (rest := [vi r]) C hM (tX12_check l Θ (sc xs (i + 1)) (sc xs (i + 2)) (sc xs (i + 3)) g h r2 hf2) (x_recvM C hM 0 (by decide) (eM_0 Θ _) rfl rfl) q_c_X12_check q_mL_141 q_i_X12_check q_e_X12_check q_n_X12 (by decide +kernel) ⟨by decide, by decide⟩ rfl hl.1 rfl (Nat.le_of_ble_eq_true rfl) (kL7 (i := 28) rfl) (fun H locs hM => ?_)
  exact x_icmp_eq (a' := wr r) (b' := wr r2) hx hb rfl rfl (tgt := 1139) (kL7 (i := 29) rfl) (by decide) (fun _ => kk _ _ _ _ hR hM) (fun q => absurd hrr q)
set_option maxRecDepth 100000 in
set_option maxHeartbeats 4000000 in
theorem lc_30 {p : Program} {l : Launch} {e : Env} {s : State} {m : MethodId} {args : Array Value} {below : List Frame} {meth : Method} {c : Code} {Q : State → Prop} {rt0 : Option FieldType} {Θ : Th} {RR : Nat → Mem → Mem → Prop} {b L : Nat} {xs : Nat → Int32} (C : Cx p s m args meth c cL_law 4 RL rt0 Θ) (hX : va_X b L xs s s.heap) (hbl : b < s.heap.size) (hbA : ¬ AA Θ s.heap.size b) (hL : L ≤ 3072) (hsim : Sim_count RR) {i : Nat} (hi : i + 6 ≤ L) {g h : Mem} {H : Heap} {locs : List Loc} {ls : Array Slot} (hR : RR i g h) (hM : Hd Θ s g h H locs) (hl : lv_has ls 4 [(0, .ref b), (1, .ref (Θ.2.2.1 0)), (2, .ref (Θ.2.2.2 0)), (3, vi (i : Int))])
    (kk : ∀ (g' h' : Mem) (H : Heap) (locs : List Loc), RR (i + 1) g' h' → Hd Θ s g' h' H locs → W p l e room_1 s m args below meth c H locs 107 12186 Q (F0 m 1139 ls [])) : W p l e room_1 s m args below meth c H locs 107 12186 Q (F0 m 1070 ls []) := by
  obtain ⟨hx, hb, hml, hown, hts, -⟩ := id C
  obtain ⟨r, r2, hf1, hf2, hrr, hR⟩ := hsim i g h (sc xs (i + 1)) (by omega) hR (sc_ir xs _)
  refine lv_aload_n hx hb (kL7 (i := 32) rfl) rfl (lv_at hl 1 rfl) ?_
  refine lv_aload_n hx hb (kL7 (i := 33) rfl) rfl (lv_at hl 0 rfl) ?_
  refine x_iload_n hx hb (kL7 (i := 34) rfl) rfl (lv_at hl 3 rfl) ?_
  refine x_iconst hx hb (kL7 (i := 35) rfl) ?_
  refine x_iadd hx hb (kL7 (i := 36) rfl) ?_
  refine xl_scr (j := i + 1) C hM hX hbl hbA hL (by omega) (by omega) (kL7 (i := 37) rfl) ?_
  refine xl_callV (n := 1) (As := [vi (sc xs (i + 1))]) (rest := []) C hM (tX11_count l Θ (sc xs (i + 1)) h g r hf1) (x_recvX C hM 0 (by decide) (eX_0 Θ _) rfl rfl) q_c_X11_count q_mL_142 q_i_X11_count q_e_X11_count q_n_X11 (by decide +kernel) ⟨by decide, by decide⟩ rfl hl.1 rfl (Nat.le_of_ble_eq_true rfl) (kL7 (i := 38) rfl) (fun H locs hM => ?_)
  refine lv_aload_n hx hb (kL7 (i := 39) rfl) rfl (lv_at hl 2 rfl) ?_
  refine lv_aload_n hx hb (kL7 (i := 40) rfl) rfl (lv_at hl 0 rfl) ?_
  refine x_iload_n hx hb (kL7 (i := 41) rfl) rfl (lv_at hl 3 rfl) ?_
  refine x_iconst hx hb (kL7 (i := 42) rfl) ?_
  refine x_iadd hx hb (kL7 (i := 43) rfl) ?_
  refine xl_scr (j := i + 1) C hM hX hbl hbA hL (by omega) (by omega) (kL7 (i := 44) rfl) ?_
  refine xl_callV (n := 1) (As := [vi (sc xs (i + 1))]) (rest := [vi r]) C hM (tX12_count l Θ (sc xs (i + 1)) g h r2 hf2) (x_recvM C hM 0 (by decide) (eM_0 Θ _) rfl rfl) q_c_X12_count q_mL_145 q_i_X12_count q_e_X12_count q_n_X12 (by decide +kernel) ⟨by decide, by decide⟩ rfl hl.1 rfl (Nat.le_of_ble_eq_true rfl) (kL7 (i := 45) rfl) (fun H locs hM => ?_)
  exact x_icmp_eq (a' := wr r) (b' := wr r2) hx hb rfl rfl (tgt := 1139) (kL7 (i := 46) rfl) (by decide) (fun _ => kk _ _ _ _ hR hM) (fun q => absurd hrr q)
set_option maxRecDepth 100000 in
set_option maxHeartbeats 4000000 in
theorem lc_31 {p : Program} {l : Launch} {e : Env} {s : State} {m : MethodId} {args : Array Value} {below : List Frame} {meth : Method} {c : Code} {Q : State → Prop} {rt0 : Option FieldType} {Θ : Th} {RR : Nat → Mem → Mem → Prop} {b L : Nat} {xs : Nat → Int32} (C : Cx p s m args meth c cL_law 4 RL rt0 Θ) (hX : va_X b L xs s s.heap) (hbl : b < s.heap.size) (hbA : ¬ AA Θ s.heap.size b) (hL : L ≤ 3072) (hsim : Sim_place RR) {i : Nat} (hi : i + 6 ≤ L) {g h : Mem} {H : Heap} {locs : List Loc} {ls : Array Slot} (hR : RR i g h) (hM : Hd Θ s g h H locs) (hl : lv_has ls 4 [(0, .ref b), (1, .ref (Θ.2.2.1 0)), (2, .ref (Θ.2.2.2 0)), (3, vi (i : Int))])
    (kk : ∀ (g' h' : Mem) (H : Heap) (locs : List Loc), RR (i + 1) g' h' → Hd Θ s g' h' H locs → W p l e room_1 s m args below meth c H locs 107 12186 Q (F0 m 1139 ls [])) : W p l e room_1 s m args below meth c H locs 107 12186 Q (F0 m 1093 ls []) := by
  obtain ⟨hx, hb, hml, hown, hts, -⟩ := id C
  obtain ⟨r, r2, hf1, hf2, hrr, hR⟩ := hsim i g h (sc xs (i + 1)) (by omega) hR (sc_ir xs _)
  refine lv_aload_n hx hb (kL7 (i := 49) rfl) rfl (lv_at hl 1 rfl) ?_
  refine lv_aload_n hx hb (kL7 (i := 50) rfl) rfl (lv_at hl 0 rfl) ?_
  refine x_iload_n hx hb (kL7 (i := 51) rfl) rfl (lv_at hl 3 rfl) ?_
  refine x_iconst hx hb (kL7 (i := 52) rfl) ?_
  refine x_iadd hx hb (kL7 (i := 53) rfl) ?_
  refine xl_scr (j := i + 1) C hM hX hbl hbA hL (by omega) (by omega) (kL7 (i := 54) rfl) ?_
  refine xl_callV (n := 1) (As := [vi (sc xs (i + 1))]) (rest := []) C hM (tX11_place l Θ (sc xs (i + 1)) h g r hf1) (x_recvX C hM 0 (by decide) (eX_0 Θ _) rfl rfl) q_c_X11_place q_mL_146 q_i_X11_place q_e_X11_place q_n_X11 (by decide +kernel) ⟨by decide, by decide⟩ rfl hl.1 rfl (Nat.le_of_ble_eq_true rfl) (kL7 (i := 55) rfl) (fun H locs hM => ?_)
  refine lv_aload_n hx hb (kL7 (i := 56) rfl) rfl (lv_at hl 2 rfl) ?_
  refine lv_aload_n hx hb (kL7 (i := 57) rfl) rfl (lv_at hl 0 rfl) ?_
  refine x_iload_n hx hb (kL7 (i := 58) rfl) rfl (lv_at hl 3 rfl) ?_
  refine x_iconst hx hb (kL7 (i := 59) rfl) ?_
  refine x_iadd hx hb (kL7 (i := 60) rfl) ?_
  refine xl_scr (j := i + 1) C hM hX hbl hbA hL (by omega) (by omega) (kL7 (i := 61) rfl) ?_
  refine xl_callV (n := 1) (As := [vi (sc xs (i + 1))]) (rest := [vi r]) C hM (tX12_place l Θ (sc xs (i + 1)) g h r2 hf2) (x_recvM C hM 0 (by decide) (eM_0 Θ _) rfl rfl) q_c_X12_place q_mL_149 q_i_X12_place q_e_X12_place q_n_X12 (by decide +kernel) ⟨by decide, by decide⟩ rfl hl.1 rfl (Nat.le_of_ble_eq_true rfl) (kL7 (i := 62) rfl) (fun H locs hM => ?_)
  exact x_icmp_eq (a' := wr r) (b' := wr r2) hx hb rfl rfl (tgt := 1139) (kL7 (i := 63) rfl) (by decide) (fun _ => kk _ _ _ _ hR hM) (fun q => absurd hrr q)
set_option maxRecDepth 100000 in
set_option maxHeartbeats 4000000 in
theorem lc_32 {p : Program} {l : Launch} {e : Env} {s : State} {m : MethodId} {args : Array Value} {below : List Frame} {meth : Method} {c : Code} {Q : State → Prop} {rt0 : Option FieldType} {Θ : Th} {RR : Nat → Mem → Mem → Prop} {b L : Nat} {xs : Nat → Int32} (C : Cx p s m args meth c cL_law 4 RL rt0 Θ) (hX : va_X b L xs s s.heap) (hbl : b < s.heap.size) (hbA : ¬ AA Θ s.heap.size b) (hL : L ≤ 3072) (hsim : Sim_wetted RR) {i : Nat} (hi : i + 6 ≤ L) {g h : Mem} {H : Heap} {locs : List Loc} {ls : Array Slot} (hR : RR i g h) (hM : Hd Θ s g h H locs) (hl : lv_has ls 4 [(0, .ref b), (1, .ref (Θ.2.2.1 0)), (2, .ref (Θ.2.2.2 0)), (3, vi (i : Int))])
    (kk : ∀ (g' h' : Mem) (H : Heap) (locs : List Loc), RR (i + 1) g' h' → Hd Θ s g' h' H locs → W p l e room_1 s m args below meth c H locs 107 12186 Q (F0 m 1139 ls [])) : W p l e room_1 s m args below meth c H locs 107 12186 Q (F0 m 1116 ls []) := by
  obtain ⟨hx, hb, hml, hown, hts, -⟩ := id C
  obtain ⟨r, r2, hf1, hf2, hrr, hR⟩ := hsim i g h (sc xs (i + 1)) (by omega) hR (sc_ir xs _)
  refine lv_aload_n hx hb (kL7 (i := 66) rfl) rfl (lv_at hl 1 rfl) ?_
  refine lv_aload_n hx hb (kL7 (i := 67) rfl) rfl (lv_at hl 0 rfl) ?_
  refine x_iload_n hx hb (kL7 (i := 68) rfl) rfl (lv_at hl 3 rfl) ?_
  refine x_iconst hx hb (kL7 (i := 69) rfl) ?_
  refine x_iadd hx hb (kL7 (i := 70) rfl) ?_
  refine xl_scr (j := i + 1) C hM hX hbl hbA hL (by omega) (by omega) (kL7 (i := 71) rfl) ?_
  refine xl_callV (n := 1) (As := [vi (sc xs (i + 1))]) (rest := []) C hM (tX11_wetted l Θ (sc xs (i + 1)) h g r hf1) (x_recvX C hM 0 (by decide) (eX_0 Θ _) rfl rfl) q_c_X11_wetted q_mL_150 q_i_X11_wetted q_e_X11_wetted q_n_X11 (by decide +kernel) ⟨by decide, by decide⟩ rfl hl.1 rfl (Nat.le_of_ble_eq_true rfl) (kL7 (i := 72) rfl) (fun H locs hM => ?_)
  refine lv_aload_n hx hb (kL7 (i := 73) rfl) rfl (lv_at hl 2 rfl) ?_
  refine lv_aload_n hx hb (kL7 (i := 74) rfl) rfl (lv_at hl 0 rfl) ?_
  refine x_iload_n hx hb (kL7 (i := 75) rfl) rfl (lv_at hl 3 rfl) ?_
  refine x_iconst hx hb (kL7 (i := 76) rfl) ?_
  refine x_iadd hx hb (kL7 (i := 77) rfl) ?_
  refine xl_scr (j := i + 1) C hM hX hbl hbA hL (by omega) (by omega) (kL7 (i := 78) rfl) ?_
  refine xl_callV (n := 1) (As := [vi (sc xs (i + 1))]) (rest := [vi r]) C hM (tX12_wetted l Θ (sc xs (i + 1)) g h r2 hf2) (x_recvM C hM 0 (by decide) (eM_0 Θ _) rfl rfl) q_c_X12_wetted q_mL_153 q_i_X12_wetted q_e_X12_wetted q_n_X12 (by decide +kernel) ⟨by decide, by decide⟩ rfl hl.1 rfl (Nat.le_of_ble_eq_true rfl) (kL7 (i := 79) rfl) (fun H locs hM => ?_)
  exact x_icmp_eq (a' := wr r) (b' := wr r2) hx hb rfl rfl (tgt := 1139) (kL7 (i := 80) rfl) (by decide) (fun _ => kk _ _ _ _ hR hM) (fun q => absurd hrr q)
theorem wr_len {L : Nat} (hL : L ≤ 3072) : wr ((L : Int) - 6) = (L : Int) - 6 := wr_id (by omega) (by omega)
set_option maxRecDepth 100000 in
set_option maxHeartbeats 8000000 in
theorem law_loop {p : Program} {l : Launch} {e : Env} {s : State} {m : MethodId} {below : List Frame} {meth : Method} {c : Code} {Θ : Th} {RR : Nat → Mem → Mem → Prop} {b L : Nat} {xs : Nat → Int32} (C : Cx p s m #[Value.ref b] meth c cL_law 4 RL ret Θ) (hX : va_X b L xs s s.heap) (hbl : b < s.heap.size) (hbA : ¬ AA Θ s.heap.size b) (hA : ∀ k, k < 107 → s.heap.size ≤ adr Θ k) (hL : L ≤ 3072) (hsims : Sims RR) :
    ∀ (n i : Nat) (g h : Mem) (H : Heap) (locs : List Loc) (ls : Array Slot), L ≤ i + 6 * n → i ≤ L + 6 → RR i g h → Hd Θ s g h H locs → lv_has ls 4 [(0, .ref b), (1, .ref (Θ.2.2.1 0)), (2, .ref (Θ.2.2.2 0)), (3, vi (i : Int))] → W p l e room_1 s m #[Value.ref b] below meth c H locs 107 12186 (lw_Z below #[Value.ref b] s) (F0 m 18 ls []) := by
  obtain ⟨hx, hb, hml, hown, hts, hrt, hlk, hSx⟩ := id C
  obtain ⟨hmono, s0, s1, s2, s3, s4, s5, s6, s7, s8, s9, s10, s11, s12, s13, s14, s15, s16, s17, s18, s19, s20, s21, s22, s23, s24, s25, s26, s27, s28, s29, s30, s31, s32⟩ := hsims
  intro n
  induction n with
  | zero =>
    intro i g h H locs ls hn hi2 hR hM hl
    refine x_iload_n hx hb (kL0 (i := 10) rfl) rfl (lv_at hl 3 rfl) ?_
    refine lv_aload_n hx hb (kL0 (i := 11) rfl) rfl (lv_at hl 0 rfl) ?_
    refine va_slen hx hb hX hbl hbA hM.2 (kL0 (i := 12) rfl) ?_
    rw [show (Value.int (Int32.ofNat L)) = vi (L : Int) from by unfold vi; congr 1]
    refine x_bipush hx hb (by decide) (kL0 (i := 13) rfl) ?_
    refine x_isub hx hb (kL0 (i := 14) rfl) ?_
    refine x_icmp_gt (a' := (i : Int)) (b' := (L : Int) - 6) hx hb (wr_id (by omega) (by omega)) (wr_len hL) (tgt := 1145) (kL0 (i := 15) rfl) (by decide) (fun _ => ?_) (fun q => absurd (by omega) q)
    refine va_forget (fun q hq => (hM.2.2.2 q hq).elim (fun z => by obtain ⟨k, hk, z⟩ := z; rw [z]; exact hA k hk) id) ?_
    refine x_iconst hx hb (kL7 (i := 85) rfl) ?_
    exact lw_ret hx hb hrt hlk (kL7 (i := 86) rfl)
  | succ n ih =>
    intro i g h H locs ls hn hi2 hR hM hl
    refine x_iload_n hx hb (kL0 (i := 10) rfl) rfl (lv_at hl 3 rfl) ?_
    refine lv_aload_n hx hb (kL0 (i := 11) rfl) rfl (lv_at hl 0 rfl) ?_
    refine va_slen hx hb hX hbl hbA hM.2 (kL0 (i := 12) rfl) ?_
    rw [show (Value.int (Int32.ofNat L)) = vi (L : Int) from by unfold vi; congr 1]
    refine x_bipush hx hb (by decide) (kL0 (i := 13) rfl) ?_
    refine x_isub hx hb (kL0 (i := 14) rfl) ?_
    refine x_icmp_gt (a' := (i : Int)) (b' := (L : Int) - 6) hx hb (wr_id (by omega) (by omega)) (wr_len hL) (tgt := 1145) (kL0 (i := 15) rfl) (by decide) (fun _ => ?_) (fun q => ?_)
    · refine va_forget (fun q hq => (hM.2.2.2 q hq).elim (fun z => by obtain ⟨k, hk, z⟩ := z; rw [z]; exact hA k hk) id) ?_
      refine x_iconst hx hb (kL7 (i := 85) rfl) ?_
      exact lw_ret hx hb hrt hlk (kL7 (i := 86) rfl)
    · have hi : i + 6 ≤ L := by omega
      refine lv_aload_n hx hb (kL0 (i := 16) rfl) rfl (lv_at hl 0 rfl) ?_
      refine x_iload_n hx hb (kL0 (i := 17) rfl) rfl (lv_at hl 3 rfl) ?_
      refine xl_scr (j := i) C hM hX hbl hbA hL (by omega) rfl (kL0 (i := 18) rfl) ?_
      refine x_bipush hx hb (by decide) (kL0 (i := 19) rfl) ?_
      refine x_iand hx hb (kL0 (i := 20) rfl) ?_
      have kk : ∀ (g' h' : Mem) (H : Heap) (locs : List Loc), RR (i + 1) g' h' → Hd Θ s g' h' H locs → W p l e room_1 s m #[Value.ref b] below meth c H locs 107 12186 (lw_Z below #[Value.ref b] s) (F0 m 1139 ls []) := by
        intro g' h' H locs hR hM
        refine x_iinc (k := 3) (b := ((i + 6 : Nat) : Int)) (lv' := [(3, vi ((i + 6 : Nat) : Int)), (0, .ref b), (1, .ref (Θ.2.2.1 0)), (2, .ref (Θ.2.2.2 0))]) hx hb (kL7 (i := 83) rfl) hl rfl (by omega) (by decide) rfl (fun ls hl => ?_)
        refine lv_goto (tgt := 18) hx hb (kL7 (i := 84) rfl) (by decide) ?_
        exact ih (i + 6) g' h' H locs ls (by omega) (by omega) (hmono _ _ _ _ (by omega) hR) hM (lv_sub hl [1, 2, 3, 0] rfl)
      by_cases c0 : wr (iAnd (sc xs i) 63) = 0
      · refine xl_tableIn (tgt := 180) 0 c0 hx hb (kL0 (i := 21) rfl) (by decide) (by decide) rfl (by decide) ?_
        exact lc_0 C hX hbl hbA hL s0 hi hR hM hl kk
      by_cases c1 : wr (iAnd (sc xs i) 63) = 1
      · refine xl_tableIn (tgt := 223) 1 c1 hx hb (kL0 (i := 21) rfl) (by decide) (by decide) rfl (by decide) ?_
        exact lc_1 C hX hbl hbA hL s1 hi hR hM hl kk
      by_cases c2 : wr (iAnd (sc xs i) 63) = 2
      · refine xl_tableIn (tgt := 276) 2 c2 hx hb (kL0 (i := 21) rfl) (by decide) (by decide) rfl (by decide) ?_
        exact lc_2 C hX hbl hbA hL s2 hi hR hM hl kk
      by_cases c3 : wr (iAnd (sc xs i) 63) = 3
      · refine xl_tableIn (tgt := 299) 3 c3 hx hb (kL0 (i := 21) rfl) (by decide) (by decide) rfl (by decide) ?_
        exact lc_3 C hX hbl hbA hL s3 hi hR hM hl kk
      by_cases c4 : wr (iAnd (sc xs i) 63) = 4
      · refine xl_tableIn (tgt := 342) 4 c4 hx hb (kL0 (i := 21) rfl) (by decide) (by decide) rfl (by decide) ?_
        exact lc_4 C hX hbl hbA hL s4 hi hR hM hl kk
      by_cases c5 : wr (iAnd (sc xs i) 63) = 5
      · refine xl_tableIn (tgt := 375) 5 c5 hx hb (kL0 (i := 21) rfl) (by decide) (by decide) rfl (by decide) ?_
        exact lc_5 C hX hbl hbA hL s5 hi hR hM hl kk
      by_cases c6 : wr (iAnd (sc xs i) 63) = 6
      · refine xl_tableIn (tgt := 408) 6 c6 hx hb (kL0 (i := 21) rfl) (by decide) (by decide) rfl (by decide) ?_
        exact lc_6 C hX hbl hbA hL s6 hi hR hM hl kk
      by_cases c7 : wr (iAnd (sc xs i) 63) = 7
      · refine xl_tableIn (tgt := 441) 7 c7 hx hb (kL0 (i := 21) rfl) (by decide) (by decide) rfl (by decide) ?_
        exact lc_7 C hX hbl hbA hL s7 hi hR hM hl kk
      by_cases c8 : wr (iAnd (sc xs i) 63) = 8
      · refine xl_tableIn (tgt := 464) 8 c8 hx hb (kL0 (i := 21) rfl) (by decide) (by decide) rfl (by decide) ?_
        exact lc_8 C hX hbl hbA hL s8 hi hR hM hl kk
      by_cases c9 : wr (iAnd (sc xs i) 63) = 9
      · refine xl_tableIn (tgt := 487) 9 c9 hx hb (kL0 (i := 21) rfl) (by decide) (by decide) rfl (by decide) ?_
        exact lc_9 C hX hbl hbA hL s9 hi hR hM hl kk
      by_cases c10 : wr (iAnd (sc xs i) 63) = 10
      · refine xl_tableIn (tgt := 530) 10 c10 hx hb (kL0 (i := 21) rfl) (by decide) (by decide) rfl (by decide) ?_
        exact lc_10 C hX hbl hbA hL s10 hi hR hM hl kk
      by_cases c11 : wr (iAnd (sc xs i) 63) = 11
      · refine xl_tableIn (tgt := 553) 11 c11 hx hb (kL0 (i := 21) rfl) (by decide) (by decide) rfl (by decide) ?_
        exact lc_11 C hX hbl hbA hL s11 hi hR hM hl kk
      by_cases c12 : wr (iAnd (sc xs i) 63) = 12
      · refine xl_tableIn (tgt := 586) 12 c12 hx hb (kL0 (i := 21) rfl) (by decide) (by decide) rfl (by decide) ?_
        exact lc_12 C hX hbl hbA hL s12 hi hR hM hl kk
      by_cases c13 : wr (iAnd (sc xs i) 63) = 13
      · refine xl_tableIn (tgt := 609) 13 c13 hx hb (kL0 (i := 21) rfl) (by decide) (by decide) rfl (by decide) ?_
        exact lc_13 C hX hbl hbA hL s13 hi hR hM hl kk
      by_cases c14 : wr (iAnd (sc xs i) 63) = 14
      · refine xl_tableIn (tgt := 642) 14 c14 hx hb (kL0 (i := 21) rfl) (by decide) (by decide) rfl (by decide) ?_
        exact lc_14 C hX hbl hbA hL s14 hi hR hM hl kk
      by_cases c15 : wr (iAnd (sc xs i) 63) = 15
      · refine xl_tableIn (tgt := 665) 15 c15 hx hb (kL0 (i := 21) rfl) (by decide) (by decide) rfl (by decide) ?_
        exact lc_15 C hX hbl hbA hL s15 hi hR hM hl kk
      by_cases c16 : wr (iAnd (sc xs i) 63) = 16
      · refine xl_tableIn (tgt := 728) 16 c16 hx hb (kL0 (i := 21) rfl) (by decide) (by decide) rfl (by decide) ?_
        exact lc_16 C hX hbl hbA hL s16 hi hR hM hl kk
      by_cases c17 : wr (iAnd (sc xs i) 63) = 17
      · refine xl_tableIn (tgt := 751) 17 c17 hx hb (kL0 (i := 21) rfl) (by decide) (by decide) rfl (by decide) ?_
        exact lc_17 C hX hbl hbA hL s17 hi hR hM hl kk
      by_cases c18 : wr (iAnd (sc xs i) 63) = 18
      · refine xl_tableIn (tgt := 764) 18 c18 hx hb (kL0 (i := 21) rfl) (by decide) (by decide) rfl (by decide) ?_
        exact lc_18 C hX hbl hbA hL s18 hi hR hM hl kk
      by_cases c19 : wr (iAnd (sc xs i) 63) = 19
      · refine xl_tableIn (tgt := 777) 19 c19 hx hb (kL0 (i := 21) rfl) (by decide) (by decide) rfl (by decide) ?_
        exact lc_19 C hX hbl hbA hL s19 hi hR hM hl kk
      by_cases c20 : wr (iAnd (sc xs i) 63) = 20
      · refine xl_tableIn (tgt := 800) 20 c20 hx hb (kL0 (i := 21) rfl) (by decide) (by decide) rfl (by decide) ?_
        exact lc_20 C hX hbl hbA hL s20 hi hR hM hl kk
      by_cases c21 : wr (iAnd (sc xs i) 63) = 21
      · refine xl_tableIn (tgt := 833) 21 c21 hx hb (kL0 (i := 21) rfl) (by decide) (by decide) rfl (by decide) ?_
        exact lc_21 C hX hbl hbA hL s21 hi hR hM hl kk
      by_cases c22 : wr (iAnd (sc xs i) 63) = 22
      · refine xl_tableIn (tgt := 856) 22 c22 hx hb (kL0 (i := 21) rfl) (by decide) (by decide) rfl (by decide) ?_
        exact lc_22 C hX hbl hbA hL s22 hi hR hM hl kk
      by_cases c23 : wr (iAnd (sc xs i) 63) = 23
      · refine xl_tableIn (tgt := 889) 23 c23 hx hb (kL0 (i := 21) rfl) (by decide) (by decide) rfl (by decide) ?_
        exact lc_23 C hX hbl hbA hL s23 hi hR hM hl kk
      by_cases c24 : wr (iAnd (sc xs i) 63) = 24
      · refine xl_tableIn (tgt := 912) 24 c24 hx hb (kL0 (i := 21) rfl) (by decide) (by decide) rfl (by decide) ?_
        exact lc_24 C hX hbl hbA hL s24 hi hR hM hl kk
      by_cases c25 : wr (iAnd (sc xs i) 63) = 25
      · refine xl_tableIn (tgt := 945) 25 c25 hx hb (kL0 (i := 21) rfl) (by decide) (by decide) rfl (by decide) ?_
        exact lc_25 C hX hbl hbA hL s25 hi hR hM hl kk
      by_cases c26 : wr (iAnd (sc xs i) 63) = 26
      · refine xl_tableIn (tgt := 968) 26 c26 hx hb (kL0 (i := 21) rfl) (by decide) (by decide) rfl (by decide) ?_
        exact lc_26 C hX hbl hbA hL s26 hi hR hM hl kk
      by_cases c27 : wr (iAnd (sc xs i) 63) = 27
      · refine xl_tableIn (tgt := 981) 27 c27 hx hb (kL0 (i := 21) rfl) (by decide) (by decide) rfl (by decide) ?_
        exact lc_27 C hX hbl hbA hL s27 hi hR hM hl kk
      by_cases c28 : wr (iAnd (sc xs i) 63) = 28
      · refine xl_tableIn (tgt := 1004) 28 c28 hx hb (kL0 (i := 21) rfl) (by decide) (by decide) rfl (by decide) ?_
        exact lc_28 C hX hbl hbA hL s28 hi hR hM hl kk
      by_cases c29 : wr (iAnd (sc xs i) 63) = 29
      · refine xl_tableIn (tgt := 1027) 29 c29 hx hb (kL0 (i := 21) rfl) (by decide) (by decide) rfl (by decide) ?_
        exact lc_29 C hX hbl hbA hL s29 hi hR hM hl kk
      by_cases c30 : wr (iAnd (sc xs i) 63) = 30
      · refine xl_tableIn (tgt := 1070) 30 c30 hx hb (kL0 (i := 21) rfl) (by decide) (by decide) rfl (by decide) ?_
        exact lc_30 C hX hbl hbA hL s30 hi hR hM hl kk
      by_cases c31 : wr (iAnd (sc xs i) 63) = 31
      · refine xl_tableIn (tgt := 1093) 31 c31 hx hb (kL0 (i := 21) rfl) (by decide) (by decide) rfl (by decide) ?_
        exact lc_31 C hX hbl hbA hL s31 hi hR hM hl kk
      by_cases c32 : wr (iAnd (sc xs i) 63) = 32
      · refine xl_tableIn (tgt := 1116) 32 c32 hx hb (kL0 (i := 21) rfl) (by decide) (by decide) rfl (by decide) ?_
        exact lc_32 C hX hbl hbA hL s32 hi hR hM hl kk
      refine xl_tableOut (tgt := 1139) hx hb (kL0 (i := 21) rfl) (by omega) (by decide) ?_
      exact kk g h H locs (hmono _ _ _ _ (by omega) hR) hM
