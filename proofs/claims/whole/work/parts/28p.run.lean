/-! one step of a run of codes on either side -/
theorem X_num {r c top i N : Nat} {g : Mem} {K : Int → Mem → Option (Int × Mem)} {to x : Int} (hc : c < 2) (ht : top < 32) (hi : (i : Int) < to) (hto : to ≤ 300) (g4 : g (r + 4) c = to) (gx : g (r + 1) i = x) (hx : 0 ≤ x ∧ x ≤ 9999) : fX7_isTrue_L20 r (N + 1) c top i g K = fX7_isTrue_L20 r N c ((top + 1 : Nat) : Int) ((i + 1 : Nat) : Int) (up g (r + 2) top x) K := by
  rw [fX7_isTrue_L20]
  simp (disch := omega) only [if_true, if_false, if_pos, if_neg, wr_0, wr_id, gd_i, bnd_e, bd_s, bd2_s, jn_e, Int.toNat_natCast, g4, gx, ncs]
theorem X_name {r c top i N : Nat} {g : Mem} {K : Int → Mem → Option (Int × Mem)} {to x : Int} {w : Nat} (hc : c < 2) (ht : top < 32) (hi : (i : Int) < to) (hto : to ≤ 300) (g4 : g (r + 4) c = to) (gx : g (r + 1) i = x) (hx : x = 10000 + (w : Int)) (hw : w < 7) : fX7_isTrue_L20 r (N + 1) c top i g K = fX7_isTrue_L20 r N c ((top + 1 : Nat) : Int) ((i + 1 : Nat) : Int) (up g (r + 2) top (g 46 w)) K := by
  rw [fX7_isTrue_L20]
  have e : x - 10000 = (w : Int) := by omega
  simp (disch := omega) only [if_true, if_false, if_pos, if_neg, wr_0, wr_id, gd_i, bnd_e, bd_s, bd2_s, jn_e, Int.toNat_natCast, g4, gx, ncs, e]
theorem X_not {r c top i N : Nat} {g : Mem} {K : Int → Mem → Option (Int × Mem)} {to x : Int} (hc : c < 2) (ht : top < 32) (hi : (i : Int) < to) (hto : to ≤ 300) (g4 : g (r + 4) c = to) (gx : g (r + 1) i = x) (hx : x = 10012) : fX7_isTrue_L20 r (N + 1) c ((top + 1 : Nat) : Int) i g K = fX7_isTrue_L20 r N c ((top + 1 : Nat) : Int) ((i + 1 : Nat) : Int) (up g (r + 2) top (1 - g (r + 2) top)) K := by
  rw [fX7_isTrue_L20]
  have e : (((top + 1 : Nat) : Int) - 1).toNat = top := by omega
  subst hx
  simp (disch := omega) only [if_true, if_false, if_pos, if_neg, wr_0, wr_id, gd_i, bnd_e, bd_s, bd2_s, jn_e, Int.toNat_natCast, g4, gx, ncs, e]
theorem xc_rng (d : Int) : 10010 ≤ xc d ∧ xc d ≤ 10019 ∧ ¬ xc d = 10012 := by
  unfold xc
  repeat' split
  all_goals omega
theorem X_bin {r c top i N : Nat} {g : Mem} {K : Int → Mem → Option (Int × Mem)} {to x d j v : Int} (hc : c < 2) (ht : top < 31) (hi : (i : Int) < to) (hto : to ≤ 300) (g4 : g (r + 4) c = to) (gx : g (r + 1) i = x) (hx : x = xc d) (hj : fX7_join (xc d) (g (r + 2) top) (g (r + 2) (top + 1)) = some j) (hv : fX11_bring j 1000000 = some v) : fX7_isTrue_L20 r (N + 1) c ((top + 2 : Nat) : Int) i g K = fX7_isTrue_L20 r N c ((top + 1 : Nat) : Int) ((i + 1 : Nat) : Int) (up g (r + 2) top v) K := by
  rw [fX7_isTrue_L20]
  have e1 : (((top + 2 : Nat) : Int) - 1).toNat = top + 1 := by omega
  have e2 : (((top + 2 : Nat) : Int) - 2).toNat = top := by omega
  have e3 : ((top + 2 : Nat) : Int) + -1 = ((top + 1 : Nat) : Int) := by omega
  have hr := xc_rng d
  rw [hx] at gx
  simp (disch := omega) only [if_true, if_false, if_pos, if_neg, wr_0, wr_id, gd_i, bnd_e, bd_s, bd2_s, jn_e, Int.toNat_natCast, g4, gx, ncs, e1, e2, e3, hj, hv]
theorem M_num {c top i N : Nat} {h : Mem} {K : Mem → Option (Int × Mem)} {to : Int} (hc : c < 2) (ht : top < 32) (hi : (i : Int) < to) (hto : to ≤ 300) (h44 : h 44 c = to) (hd : h 41 i = 0) : fX12_isSo_L204 (N + 1) c top i h K = fX12_isSo_L204 N c ((top + 1 : Nat) : Int) ((i + 1 : Nat) : Int) (up h 48 top (h 42 i)) K := by
  rw [fX12_isSo_L204]
  simp (disch := omega) only [if_true, if_false, if_pos, if_neg, wr_0, wr_id, gd_i, bnd_e, bd_s, bd2_s, jn_e, Int.toNat_natCast, h44, hd, ncs]
theorem M_name {c top i N : Nat} {h : Mem} {K : Mem → Option (Int × Mem)} {to : Int} {w : Nat} (hc : c < 2) (ht : top < 32) (hi : (i : Int) < to) (hto : to ≤ 300) (h44 : h 44 c = to) (hd : h 41 i = 1) (hw : h 42 i = (w : Int)) (hw7 : w < 7) : fX12_isSo_L204 (N + 1) c top i h K = fX12_isSo_L204 N c ((top + 1 : Nat) : Int) ((i + 1 : Nat) : Int) (up h 48 top (h 47 w)) K := by
  rw [fX12_isSo_L204]
  simp (disch := omega) only [if_true, if_false, if_pos, if_neg, wr_0, wr_id, gd_i, bnd_e, bd_s, bd2_s, jn_e, Int.toNat_natCast, h44, hd, hw, ncs]
theorem M_not {c top i N : Nat} {h : Mem} {K : Mem → Option (Int × Mem)} {to : Int} (hc : c < 2) (ht : top < 32) (hi : (i : Int) < to) (hto : to ≤ 300) (h44 : h 44 c = to) (hd : h 41 i = 11) : fX12_isSo_L204 (N + 1) c ((top + 1 : Nat) : Int) i h K = fX12_isSo_L204 N c ((top + 1 : Nat) : Int) ((i + 1 : Nat) : Int) (up h 48 top (1 - h 48 top)) K := by
  rw [fX12_isSo_L204]
  have e : (((top + 1 : Nat) : Int) - 1).toNat = top := by omega
  simp (disch := omega) only [if_true, if_false, if_pos, if_neg, wr_0, wr_id, gd_i, bnd_e, bd_s, bd2_s, jn_e, Int.toNat_natCast, h44, hd, ncs, e]
theorem M_bin {c top i N : Nat} {h : Mem} {K : Mem → Option (Int × Mem)} {to d v : Int} (hc : c < 2) (ht : top < 31) (hi : (i : Int) < to) (hto : to ≤ 300) (h44 : h 44 c = to) (hd : h 41 i = d) (hd2 : 2 ≤ d ∧ d ≤ 10) (hv : fX12_of d (h 48 top) (h 48 (top + 1)) = some v) : fX12_isSo_L204 (N + 1) c ((top + 2 : Nat) : Int) i h K = fX12_isSo_L204 N c ((top + 1 : Nat) : Int) ((i + 1 : Nat) : Int) (up h 48 top v) K := by
  rw [fX12_isSo_L204]
  have e1 : ((top + 2 : Nat) : Int) + -1 = ((top + 1 : Nat) : Int) := by omega
  have e2 : (((top + 1 : Nat) : Int) - 1).toNat = top := by omega
  simp (disch := omega) only [if_true, if_false, if_pos, if_neg, wr_0, wr_id, gd_i, bnd_e, bd_s, bd2_s, jn_e, Int.toNat_natCast, h44, hd, ncs, e1, e2, hv]
theorem tst_push {d : Int} {ts ts' : List Bool} (hd : d = 0 ∨ d = 1) (h : tst d ts = some ts') : ts' = false :: ts := by
  unfold tst at h; rw [if_pos hd] at h; exact (Option.some.inj h).symm
theorem tst_not {ts ts' : List Bool} (h : tst 11 ts = some ts') : ∃ r, ts = true :: r ∧ ts' = true :: r := by
  unfold tst at h
  rw [if_neg (by decide), if_pos rfl] at h
  cases ts with
  | nil => cases h
  | cons t r => cases t with
    | false => cases h
    | true => exact ⟨r, rfl, (Option.some.inj h).symm⟩
theorem tst_bin {d : Int} {ts ts' : List Bool} (hd : 2 ≤ d ∧ d ≤ 10) (h : tst d ts = some ts') : ∃ t r t', ts = t :: t :: r ∧ ts' = t' :: r ∧ (9 ≤ d → t = true) ∧ (t' = true → 6 ≤ d) := by
  unfold tst at h
  rw [if_neg (by omega), if_neg (by omega)] at h
  by_cases c1 : 2 ≤ d ∧ d ≤ 5
  · rw [if_pos c1] at h
    match ts, h with
    | false :: false :: r, h => exact ⟨false, r, false, rfl, (Option.some.inj h).symm, fun z => by omega, fun z => by cases z⟩
  · rw [if_neg c1] at h
    by_cases c2 : 6 ≤ d ∧ d ≤ 8
    · rw [if_pos c2] at h
      match ts, h with
      | false :: false :: r, h => exact ⟨false, r, true, rfl, (Option.some.inj h).symm, fun z => by omega, fun _ => by omega⟩
    · rw [if_neg c2, if_pos (by omega)] at h
      match ts, h with
      | true :: true :: r, h => exact ⟨true, r, true, rfl, (Option.some.inj h).symm, fun _ => rfl, fun _ => by omega⟩
theorem CdR_bin {x d w : Int} (hd : 2 ≤ d ∧ d ≤ 10) (h : CdR x d w) : x = xc d := by
  unfold CdR at h
  rcases (by omega : d = 2 ∨ d = 3 ∨ d = 4 ∨ d = 5 ∨ d = 6 ∨ d = 7 ∨ d = 8 ∨ d = 9 ∨ d = 10) with rfl | rfl | rfl | rfl | rfl | rfl | rfl | rfl | rfl <;> simp at h <;> rw [h] <;> rfl
theorem run_e {r : Nat} (hr : r = 47 ∨ r = 52) {c : Nat} (hc : c < 2) {nm X D Wt : Nat → Int} (hnm : ∀ j, j < 7 → MB (nm j)) {to : Int} (hto : to ≤ 300) (K : Int → Mem → Option (Int × Mem)) (K2 : Mem → Option (Int × Mem)) :
    ∀ (k N N2 i : Nat) (ts : List Bool) (g h : Mem), (i : Int) + k = to → k < N → k < N2 → g (r + 4) c = to → h 44 c = to → g (r + 1) = X → h 41 = D → h 42 = Wt → (∀ j : Nat, i ≤ j → (j : Int) < to → CdR (X j) (D j) (Wt j)) → (∀ j, j < 7 → g 46 j = nm j ∧ h 47 j = nm j) → VS (h 48) ts → (∀ j, j < ts.length → g (r + 2) j = h 48 j) → ts.length ≤ 32 → tyr D i k ts = some [true] →
    ∃ g' h', fX7_isTrue_L20 r N c (ts.length : Nat) i g K = K 1 g' ∧ fX12_isSo_L204 N2 c (ts.length : Nat) i h K2 = K2 h' ∧ g' (r + 2) 0 = h' 48 0 ∧ (h' 48 0 = 0 ∨ h' 48 0 = 1) ∧ (∀ a, a ≠ r + 2 → g' a = g a) ∧ (∀ a, a ≠ 48 → h' a = h a) := by
  intro k
  induction k with
  | zero =>
    intro N N2 i ts g h hi hN hN2 g4 h44 gx hd hw hcode hn V hs hl ht
    obtain ⟨N, rfl⟩ : ∃ m, N = m + 1 := ⟨N - 1, by omega⟩
    obtain ⟨N2, rfl⟩ : ∃ m, N2 = m + 1 := ⟨N2 - 1, by omega⟩
    have e : ts = [true] := Option.some.inj ht
    subst e
    refine ⟨g, h, ?_, ?_, hs 0 (by simp), V.2.1 rfl, fun _ _ => rfl, fun _ _ => rfl⟩
    · rw [fX7_isTrue_L20]
      simp (disch := omega) only [if_true, if_false, if_pos, if_neg, wr_0, wr_id, gd_i, bnd_e, bd_s, bd2_s, jn_e, Int.toNat_natCast, g4]
      rfl
    · rw [fX12_isSo_L204]
      simp (disch := omega) only [if_true, if_false, if_pos, if_neg, wr_0, wr_id, gd_i, bnd_e, bd_s, bd2_s, jn_e, Int.toNat_natCast, h44]
  | succ k ih =>
    intro N N2 i ts g h hi hN hN2 g4 h44 gx hd hw hcode hn V hs hl ht
    obtain ⟨N, rfl⟩ : ∃ m, N = m + 1 := ⟨N - 1, by omega⟩
    obtain ⟨N2, rfl⟩ : ∃ m, N2 = m + 1 := ⟨N2 - 1, by omega⟩
    have ito : (i : Int) < to := by omega
    have cd := hcode i (by omega) ito
    have gxi : g (r + 1) i = X i := by rw [gx]
    have hdi : h 41 i = D i := by rw [hd]
    have hwi : h 42 i = Wt i := by rw [hw]
    have ht' : (match tst (D i) ts with | none => none | some ts' => if ts'.length ≤ 32 then tyr D (i + 1) k ts' else none) = some [true] := ht
    cases hts : tst (D i) ts with
    | none => rw [hts] at ht'; cases ht'
    | some ts' =>
      rw [hts] at ht'
      have hl' : ts'.length ≤ 32 := by
        by_cases z : ts'.length ≤ 32
        · exact z
        · simp only [if_neg z] at ht'; cases ht'
      simp only [if_pos hl'] at ht'
      /- the common end: value v put at place q = ts'.length - 1 -/
      have fin : ∀ (q : Nat) (v : Int), ts'.length = q + 1 → VS (up h 48 q v 48) ts' → (∀ j, j < q → g (r + 2) j = h 48 j) → ∃ g' h', fX7_isTrue_L20 r N c ((q + 1 : Nat) : Int) ((i + 1 : Nat) : Int) (up g (r + 2) q v) K = K 1 g' ∧ fX12_isSo_L204 N2 c ((q + 1 : Nat) : Int) ((i + 1 : Nat) : Int) (up h 48 q v) K2 = K2 h' ∧ g' (r + 2) 0 = h' 48 0 ∧ (h' 48 0 = 0 ∨ h' 48 0 = 1) ∧ (∀ a, a ≠ r + 2 → g' a = g a) ∧ (∀ a, a ≠ 48 → h' a = h a) := by
        intro q v hq V' hs'
        have n1 : r + 4 ≠ r + 2 := by omega
        have n2 : r + 1 ≠ r + 2 := by omega
        have n3 : 46 ≠ r + 2 := by omega
        obtain ⟨g', h', p1, p2, p3, p4, p5, p6⟩ := ih N N2 (i + 1) ts' (up g (r + 2) q v) (up h 48 q v) (by omega) (by omega) (by omega) (by rw [up_ne n1]; exact g4) h44 (by rw [up_ne n2]; exact gx) hd hw (fun j h1 h2 => hcode j (by omega) h2) (fun j hj => ⟨by rw [up_ne n3]; exact (hn j hj).1, (hn j hj).2⟩) V' (fun j hj => by
          rw [up_row, up_row]
          by_cases z : j = q
          · rw [if_pos z, if_pos z]
          · rw [if_neg z, if_neg z]; exact hs' j (by omega)) hl' ht'
        rw [hq] at p1 p2
        exact ⟨g', h', p1, p2, p3, p4, fun a ha => by rw [p5 a ha, up_ne ha], fun a ha => by rw [p6 a ha, up_ne ha]⟩
      have VSup : ∀ (ts0 : List Bool) (v : Int), VS (h 48) ts0 → VS (up h 48 ts0.length v 48) ts0 := fun ts0 v V0 => VS_congr ts0 (fun j hj => by rw [up_row, if_neg (by omega)]) V0
      have cd2 := cd
      unfold CdR at cd2
      by_cases b0 : D i = 0
      · have e := tst_push (.inl b0) hts
        subst e
        have hx : 0 ≤ X i ∧ X i ≤ 9999 ∧ X i = Wt i := by omega
        have hl2 : ts.length < 32 := by simp at hl'; omega
        rw [X_num hc hl2 ito hto g4 gxi ⟨hx.1, hx.2.1⟩, M_num hc hl2 ito hto h44 (hdi.trans b0), hwi, ← hx.2.2]
        refine fin ts.length (X i) rfl ⟨?_, fun z => absurd z (by decide), VSup ts _ V⟩ hs
        rw [up_row, if_pos rfl]; unfold MB; omega
      by_cases b1 : D i = 1
      · have e := tst_push (.inr b1) hts
        subst e
        obtain ⟨w, hw1⟩ : ∃ w : Nat, Wt i = w := ⟨(Wt i).toNat, by omega⟩
        have hx : X i = 10000 + (w : Int) ∧ w < 7 := by omega
        have hl2 : ts.length < 32 := by simp at hl'; omega
        rw [X_name hc hl2 ito hto g4 gxi hx.1 hx.2, M_name hc hl2 ito hto h44 (hdi.trans b1) (hwi.trans hw1) hx.2, (hn w hx.2).1, (hn w hx.2).2]
        refine fin ts.length (nm w) rfl ⟨?_, fun z => absurd z (by decide), VSup ts _ V⟩ hs
        rw [up_row, if_pos rfl]; exact hnm w hx.2
      by_cases b11 : D i = 11
      · rw [b11] at hts
        obtain ⟨r', e1, e2⟩ := tst_not hts
        subst e1 e2
        have hx : X i = 10012 := by omega
        have hl2 : r'.length < 32 := by simp at hl'; omega
        have v0 := V.2.1 rfl
        have es := hs r'.length (by simp)
        show ∃ g' h', fX7_isTrue_L20 r (N + 1) c ((r'.length + 1 : Nat) : Int) i g K = K 1 g' ∧ fX12_isSo_L204 (N2 + 1) c ((r'.length + 1 : Nat) : Int) i h K2 = K2 h' ∧ _
        rw [X_not hc hl2 ito hto g4 gxi hx, M_not hc hl2 ito hto h44 (hdi.trans b11), es]
        refine fin r'.length _ rfl ⟨?_, fun _ => ?_, VSup r' _ V.2.2⟩ (fun j hj => hs j (by simp; omega))
        · rw [up_row, if_pos rfl]; unfold MB; omega
        · rw [up_row, if_pos rfl]; omega
      have bb : 2 ≤ D i ∧ D i ≤ 10 := by omega
      obtain ⟨t, r', t', e1, e2, e3, e4⟩ := tst_bin bb hts
      subst e1 e2
      have hl2 : r'.length < 31 := by simp at hl; omega
      have es := hs r'.length (by simp; omega)
      have es2 := hs (r'.length + 1) (by simp)
      have mb1 : MB (h 48 (r'.length + 1)) := V.1
      have mb2 : MB (h 48 r'.length) := V.2.2.1
      have o1 : 9 ≤ D i → (h 48 r'.length = 0 ∨ h 48 r'.length = 1) ∧ (h 48 (r'.length + 1) = 0 ∨ h 48 (r'.length + 1) = 1) := fun z => ⟨V.2.2.2.1 (e3 z), V.2.1 (e3 z)⟩
      obtain ⟨jv, j1, j2⟩ := join_e bb mb2 mb1 o1
      have ov := opv_MB (b := h 48 (r'.length + 1)) bb mb2
      show ∃ g' h', fX7_isTrue_L20 r (N + 1) c ((r'.length + 2 : Nat) : Int) i g K = K 1 g' ∧ fX12_isSo_L204 (N2 + 1) c ((r'.length + 2 : Nat) : Int) i h K2 = K2 h' ∧ _
      rw [X_bin hc hl2 ito hto g4 gxi (CdR_bin bb cd) (by rw [es, es2]; exact j1) j2, M_bin hc hl2 ito hto h44 hdi bb (of_e bb mb2 mb1)]
      refine fin r'.length _ rfl ⟨?_, fun z => ?_, VSup r' _ V.2.2.2.2⟩ (fun j hj => hs j (by simp; omega))
      · rw [up_row, if_pos rfl]; exact ov.1
      · rw [up_row, if_pos rfl]; exact ov.2 (e4 z)
