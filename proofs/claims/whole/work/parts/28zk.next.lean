/-! ONE TOKEN on both sides -/
def TokR (t k v : Int) : Prop :=
  (k = 0 ∧ v = 0 ∧ t = 10027) ∨ (k = 1 ∧ 0 ≤ v ∧ v ≤ 9999 ∧ t = v) ∨ (k = 1 ∧ 9999 < v ∧ v ≤ 10000009 ∧ t = 10028) ∨
  (k = 2 ∧ ((v = 0 ∧ t = 10025) ∨ (v = 1 ∧ t = 10026) ∨ (2 ≤ v ∧ v ≤ 8 ∧ t = 9998 + v) ∨ (9 ≤ v ∧ v ≤ 11 ∧ t = 10001 + v) ∨ (v = -1 ∧ t = 10028))) ∨
  (k = 3 ∧ ((v = 40 ∧ t = 10020) ∨ (v = 41 ∧ t = 10021) ∨ (v = 42 ∧ t = 10018) ∨ (v = 43 ∧ t = 10016) ∨ (v = 45 ∧ t = 10017) ∨ (v = 47 ∧ t = 10019) ∨ (v = 59 ∧ t = 10024) ∨ (v = 60 ∧ t = 10013) ∨ (v = 61 ∧ t = 10015) ∨ (v = 62 ∧ t = 10014) ∨ (v = 91 ∧ t = 10022) ∨ (v = 93 ∧ t = 10023))) ∨
  (k = 4 ∧ (-128 ≤ v ∧ v ≤ 127) ∧ t = 10028)
def XN (b : Nat → Int) (S p : Nat) (t : Int) (f q : Nat) : Prop := ∀ g : Mem, g 37 1 = (S : Int) → (∀ j, g 38 j = b j % 256) → g 39 2 = (p : Int) → ∃ g', fX5_nextToken g = some (t, g') ∧ g' 39 2 = (q : Int) ∧ g' 39 3 = (f : Int) ∧ (∀ a, a ≠ 39 → g' a = g a) ∧ (∀ c, c ≠ 2 → c ≠ 3 → g' 39 c = g 39 c)
def MN (b : Nat → Int) (S p : Nat) (k v : Int) (f q : Nat) : Prop := ∀ h : Mem, h 0 48 = (S : Int) → h 35 = b → h 0 49 = (p : Int) → ∃ h', fX12_next h = some h' ∧ h' 0 49 = (q : Int) ∧ h' 0 50 = k ∧ h' 0 51 = (f : Int) ∧ h' 0 52 = v ∧ (∀ a, a ≠ 0 → h' a = h a) ∧ (∀ c, c < 49 ∨ 52 < c → h' 0 c = h 0 c)
def NTB (f : Int) (g_7 : Mem) : Option (Int × Mem) :=
    bd (fX9_byteAt f g_7) fun r_8 =>
    if wr r_8 = (-1) then (
      some (10027, g_7)
    ) else (
      bd (fX5_isLetter r_8) fun r_11 =>
      if wr r_11 = 0 then (
        bd (fX5_isDigit r_8) fun r_14 =>
        if wr r_14 = 0 then (
          bnd (up g_7 39 2 ((g_7 39 2) + 1)) fun g_17 =>
          bd (fX5_signToken r_8) fun r_18 =>
          some (r_18, g_17)
        ) else (
          bd2 (fX5_number g_7) fun r_20 g_22 =>
          some (r_20, g_22)
        )
      ) else (
        bd2 (fX5_word g_7) fun r_23 g_25 =>
        some (r_23, g_25)
      )
    )
def MTB (g_8 : Mem) : Option Mem :=
    if wr (g_8 0 49) = wr (g_8 0 48) then (
      some g_8
    ) else (
      gd (g_8 0 49) 300 <|
      bnd (g_8 35 (wr (g_8 0 49)).toNat) fun x_11 =>
      bd (fX12_isLetter x_11) fun r_12 =>
      if wr r_12 = 0 then (
        bd (fX12_isDigit x_11) fun r_15 =>
        if wr r_15 = 0 then (
          jn (fun (v_18 : Int) =>
            bnd (up g_8 0 50 v_18) fun g_19 =>
            bnd (up g_19 0 52 x_11) fun g_20 =>
            bnd (up g_20 0 49 ((g_20 0 49) + 1)) fun g_21 =>
            some g_21
          ) fun J320 =>
          jn (fun (_ : Unit) =>
            J320 3
          ) fun J315 =>
          if wr x_11 = 43 then J315 () else (
            if wr x_11 = 45 then J315 () else (
              if wr x_11 = 42 then J315 () else (
                if wr x_11 = 47 then J315 () else (
                  if wr x_11 = 40 then J315 () else (
                    if wr x_11 = 41 then J315 () else (
                      if wr x_11 = 91 then J315 () else (
                        if wr x_11 = 93 then J315 () else (
                          if wr x_11 = 60 then J315 () else (
                            if wr x_11 = 62 then J315 () else (
                              if wr x_11 = 61 then J315 () else (
                                if wr x_11 = 59 then J315 () else J320 4)))))))))))
        ) else (
          fX12_next_L155 fuel g_8
          (fun (g_44 : Mem) =>
            bnd (up g_44 0 50 1) fun g_45 =>
            some g_45
          )
        )
      ) else (
        fX12_next_L85 fuel g_8
        (fun (g_52 : Mem) =>
          bnd (up g_52 0 50 2) fun g_53 =>
          bd (fX12_wordAt (g_53 0 51) (g_53 0 49) g_53) fun r_54 =>
          bnd (up g_53 0 52 r_54) fun g_56 =>
          some g_56
        )
      )
    )
def GX (g : Mem) (f : Int) : Mem := up (up g 39 2 f) 39 3 f
def HM (h : Mem) (f : Int) : Mem := up (up (up (up h 0 49 f) 0 51 f) 0 52 0) 0 50 0
theorem nextX_s {g : Mem} {b : Nat → Int} {S p : Nat} (hS : S ≤ 300) (hb : ∀ j, -128 ≤ b j ∧ b j ≤ 127) (g37 : g 37 1 = (S : Int)) (g38 : ∀ j, g 38 j = b j % 256) (hp : p ≤ S) (hg : g 39 2 = (p : Int)) : fX5_nextToken g = NTB (skp b (S - p) p : Nat) (GX g (skp b (S - p) p : Nat)) := by
  obtain ⟨F, hF, hF2⟩ := fuel_g
  have hg2 : up g 39 2 (p : Int) = g := by rw [← hg]; exact up_self g 39 2
  have sk := fun K => skipX_e (g := g) hS hb g37 g38 K (S - p) F p (by omega) (by omega)
  simp only [hg2] at sk
  unfold fX5_nextToken
  rw [hF, sk]
  generalize ((skp b (S - p) p : Nat) : Int) = X
  have e1 : up g 39 2 X 39 2 = X := by rw [up_row, if_pos rfl]
  have e2 : up (up g 39 2 X) 39 3 X 39 3 = X := by rw [up_row, if_pos rfl]
  rw [bnd_e, e1, e2]
  unfold NTB GX
  rfl
theorem nextM_s {h : Mem} {b : Nat → Int} {S p : Nat} (hS : S ≤ 300) (hb : ∀ j, -128 ≤ b j ∧ b j ≤ 127) (h48 : h 0 48 = (S : Int)) (h35 : h 35 = b) (hp : p ≤ S) (hh : h 0 49 = (p : Int)) : fX12_next h = MTB (HM h (skp b (S - p) p : Nat)) := by
  obtain ⟨F, hF, hF2⟩ := fuel_g
  have hg2 : up h 0 49 (p : Int) = h := by rw [← hh]; exact up_self h 0 49
  have sk := fun K => skipM_e (h := h) hS hb h48 h35 K (S - p) F p (by omega) (by omega)
  simp only [hg2] at sk
  unfold fX12_next MTB
  rw [hF, sk]
  generalize ((skp b (S - p) p : Nat) : Int) = X
  have e1 : up h 0 49 X 0 49 = X := by rw [up_row, if_pos rfl]
  rw [bnd_e, e1, bnd_e, bnd_e]
  unfold HM
  rfl
/-- at the end -/
theorem xn_end {b : Nat → Int} {S p : Nat} (hS : S ≤ 300) (hb : ∀ j, -128 ≤ b j ∧ b j ≤ 127) (hp : p ≤ S) (hf : skp b (S - p) p = S) : XN b S p 10027 S S ∧ MN b S p 0 0 S S := by
  constructor
  · intro g g37 g38 hg
    have e := nextX_s hS hb g37 g38 hp hg
    rw [hf] at e
    have eb := byteX_end (g := GX g (S : Int)) (S := S) (p := S) hS g37 (by omega) (by omega)
    refine ⟨GX g (S : Int), ?_, rfl, rfl, fun a ha => ?_, fun c h1 h2 => ?_⟩
    · rw [e]; unfold NTB; rw [eb, bd_s, if_pos (by decide)]
    · unfold GX; rw [up_ne ha, up_ne ha]
    · simp [GX, up, h1, h2]
  · intro h h48 h35 hh
    have e := nextM_s hS hb h48 h35 hp hh
    rw [hf] at e
    refine ⟨HM h (S : Int), ?_, rfl, rfl, rfl, rfl, fun a ha => ?_, fun c hc => ?_⟩
    · have e1 : HM h (S : Int) 0 49 = (S : Int) := rfl
      have e2 : HM h (S : Int) 0 48 = (S : Int) := h48
      rw [e]; unfold MTB; rw [e1, e2, if_pos rfl]
    · unfold HM; rw [up_ne ha, up_ne ha, up_ne ha, up_ne ha]
    · have c1 : c ≠ 49 := by omega
      have c2 : c ≠ 50 := by omega
      have c3 : c ≠ 51 := by omega
      have c4 : c ≠ 52 := by omega
      simp [HM, up, c1, c2, c3, c4]
/-- both sides at a byte -/
theorem xm_at {b : Nat → Int} {S p f : Nat} (hS : S ≤ 300) (hb : ∀ j, -128 ≤ b j ∧ b j ≤ 127) (hp : p ≤ S) (hf : skp b (S - p) p = f) (hfS : f < S) :
    (∀ g : Mem, g 37 1 = (S : Int) → (∀ j, g 38 j = b j % 256) → g 39 2 = (p : Int) → fX5_nextToken g =
      (if 97 ≤ b f ∧ b f ≤ 122 then bd2 (fX5_word (GX g f)) fun r_23 g_25 => some (r_23, g_25)
       else if 48 ≤ b f ∧ b f ≤ 57 then bd2 (fX5_number (GX g f)) fun r_20 g_22 => some (r_20, g_22)
       else bd (fX5_signToken (b f % 256)) fun r_18 => some (r_18, up (GX g f) 39 2 ((f : Int) + 1)))) := by
  intro g g37 g38 hg
  have e := nextX_s hS hb g37 g38 hp hg
  rw [hf] at e
  have eb := byteX_e (g := GX g (f : Int)) (b := b) (S := S) (p := f) hS g37 g38 hfS
  have hbf := hb f
  have nz : ¬ wr (b f % 256) = -1 := by rw [wr_id (by omega) (by omega)]; omega
  rw [e]; unfold NTB
  rw [eb, bd_s, if_neg nz, letX_e hbf, bd_s]
  by_cases c : 97 ≤ b f ∧ b f ≤ 122
  · rw [if_pos c, if_pos c, if_neg (by decide)]
  · rw [if_neg c, if_neg c, if_pos (by decide), digX_e hbf, bd_s]
    by_cases d : 48 ≤ b f ∧ b f ≤ 57
    · rw [if_pos d, if_pos d, if_neg (by decide)]
    · rw [if_neg d, if_neg d, if_pos (by decide)]
      rfl
theorem word_tok {b : Nat → Int} {S p f : Nat} (hS : S ≤ 300) (hb : ∀ j, -128 ≤ b j ∧ b j ≤ 127) (hp : p ≤ S) (hf : skp b (S - p) p = f) (hfS : f < S) (c : 97 ≤ b f ∧ b f ≤ 122) : ∃ (t v : Int) (q : Nat), TokR t 2 v ∧ f < q ∧ q ≤ S ∧ XN b S p t f q ∧ MN b S p 2 v f q := by
  obtain ⟨F, hF, hF2⟩ := fuel_g
  have lb := ltr_bd b (S - f) f
  have lq : f < ltr b (S - f) f := by
    rw [show S - f = (S - f - 1) + 1 by omega, ltr, if_pos c]
    have := ltr_bd b (S - f - 1) (f + 1); omega
  generalize hq : ltr b (S - f) f = q at lb lq
  have o1 : f + (S - f) = S := by omega
  have o2 : S - f < F := by omega
  obtain ⟨r, hr, hcase⟩ : ∃ r : Int, (∀ h : Mem, h 35 = b → fX12_wordAt f q h = some r) ∧ ((∃ q' : Nat, q' < 12 ∧ r = (q' : Int) ∧ mt b (wk.getD q' 0) f q) ∨ (r = -1 ∧ ∀ q', q' < 12 → ¬ mt b (wk.getD q' 0) f q)) := by
    obtain ⟨r, hr, hc⟩ := wordAt_e (b := b) (h := fun _ => b) rfl hb (f := f) (t := q) (by omega) (by omega)
    refine ⟨r, fun h hh => ?_, ?_⟩
    · obtain ⟨r', hr', hc'⟩ := wordAt_e (b := b) (h := h) hh hb (f := f) (t := q) (by omega) (by omega)
      rw [hr']
      have tab : ∀ q1 : Fin 12, wk.getD q1.val 0 < 12 := by decide
      have inj : ∀ q1 q2 : Fin 12, wk.getD q1.val 0 = wk.getD q2.val 0 → q1 = q2 := by decide
      rcases hc with ⟨q1, a1, a2, a3, a4⟩ | ⟨a1, a2⟩
      · rcases hc' with ⟨q2, b1, b2, b3, b4⟩ | ⟨b1, b2⟩
        · have e := inj ⟨q1, a1⟩ ⟨q2, b1⟩ (mt_uniq (tab ⟨q1, a1⟩) (tab ⟨q2, b1⟩) a3 b3)
          have e2 : q1 = q2 := congrArg Fin.val e
          rw [a2, b2, e2]
        · exact absurd a3 (b2 q1 a1)
      · rcases hc' with ⟨q2, b1, b2, b3, b4⟩ | ⟨b1, b2⟩
        · exact absurd b3 (a2 q2 b1)
        · rw [a1, b1]
    · rcases hc with ⟨q1, a1, a2, a3, a4⟩ | ⟨a1, a2⟩
      · exact .inl ⟨q1, a1, a2, a3⟩
      · exact .inr ⟨a1, a2⟩
  obtain ⟨k0, hk0, hks, htk⟩ : ∃ k0 : Nat, k0 ≤ 12 ∧ (∀ k, k < 12 → (mt b k f q ↔ k = k0)) ∧ TokR (ktk.getD k0 0) 2 r := by
    rcases hcase with ⟨q1, a1, a2, a3⟩ | ⟨a1, a2⟩
    · have tab : ∀ q1 : Fin 12, wk.getD q1.val 0 < 12 := by decide
      have t1 := tab ⟨q1, a1⟩
      refine ⟨wk.getD q1 0, by simp only at t1; omega, fun k hk => ⟨fun z => mt_uniq hk t1 z a3, fun z => by rw [z]; exact a3⟩, ?_⟩
      rw [a2]
      unfold TokR
      rcases (by omega : q1 = 0 ∨ q1 = 1 ∨ q1 = 2 ∨ q1 = 3 ∨ q1 = 4 ∨ q1 = 5 ∨ q1 = 6 ∨ q1 = 7 ∨ q1 = 8 ∨ q1 = 9 ∨ q1 = 10 ∨ q1 = 11) with rfl | rfl | rfl | rfl | rfl | rfl | rfl | rfl | rfl | rfl | rfl | rfl <;> decide
    · refine ⟨12, by omega, fun k hk => ⟨fun z => ?_, fun z => by omega⟩, ?_⟩
      · have inv : ∀ k : Fin 12, ∃ q : Fin 12, wk.getD q.val 0 = k.val := by decide
        obtain ⟨q', hq'⟩ := inv ⟨k, hk⟩
        have := a2 q'.val q'.isLt
        rw [hq'] at this
        exact absurd z this
      · rw [a1]; unfold TokR; decide
  refine ⟨ktk.getD k0 0, r, q, htk, lq, by omega, ?_, ?_⟩
  · intro g g37 g38 hg
    have e := xm_at hS hb hp hf hfS g g37 g38 hg
    rw [if_pos c] at e
    have hG : up (GX g f) 39 2 (f : Int) = GX g f := up_self (GX g f) 39 2
    have wl := fun K => wordX_e (g := GX g f) hS hb g37 g38 K (S - f) F f o1 o2
    simp only [hG, hq] at wl
    have sp : ∀ k, k < 12 → fX9_spells k f q (up (GX g f) 39 2 (q : Int)) = some (if k = k0 then 1 else 0) := by
      intro k hk
      have s := spells_e (g := up (GX g f) 39 2 (q : Int)) hS hb g37 g38 hk (f := f) (t := q) (by omega) (by omega)
      by_cases z : k = k0
      · rw [if_pos z]; exact s.1 ((hks k hk).2 z)
      · rw [if_neg z]; exact s.2 (fun y => z ((hks k hk).1 y))
    have ch := chain_e (g := up (GX g f) 39 2 (q : Int)) (f := f) (t := q) rfl rfl k0 hk0 sp
    refine ⟨up (GX g f) 39 2 (q : Int), ?_, rfl, rfl, fun a ha => ?_, fun c h1 h2 => ?_⟩
    · rw [e]; unfold fX5_word
      rw [hF, wl, ch]; rfl
    · unfold GX; rw [up_ne ha, up_ne ha, up_ne ha]
    · simp [GX, up, h1, h2]
  · intro h h48 h35 hh
    have e := nextM_s hS hb h48 h35 hp hh
    rw [hf] at e
    have hG : up (HM h f) 0 49 (f : Int) = HM h f := up_self (HM h f) 0 49
    have wl := fun K => wordM_e (h := HM h f) hS hb h48 h35 K (S - f) F f o1 o2
    simp only [hG, hq] at wl
    refine ⟨up (up (up (HM h f) 0 49 (q : Int)) 0 50 2) 0 52 r, ?_, rfl, rfl, rfl, rfl, fun a ha => ?_, fun c hc => ?_⟩
    · have e1 : HM h (f : Int) 0 49 = (f : Int) := rfl
      have e2 : HM h (f : Int) 0 48 = (S : Int) := h48
      have e3 : HM h (f : Int) 35 f = b f := by show h 35 f = _; rw [h35]
      have wa := hr (up (up (HM h f) 0 49 (q : Int)) 0 50 2) h35
      have el := letM_e (hb f)
      rw [if_pos c] at el
      rw [e]; unfold MTB
      rw [e1, e2, if_neg (by rw [wr_id (by omega) (by omega), wr_id (by omega) (by omega)]; omega), gd_i (by omega) (by omega) (by omega), wr_id (by omega) (by omega), Int.toNat_natCast, bnd_e, e3, el, bd_s, if_neg (by decide), hF, wl, bnd_e]
      have e5 : up (up (HM h f) 0 49 (q : Int)) 0 50 2 0 51 = (f : Int) := rfl
      have e6 : up (up (HM h f) 0 49 (q : Int)) 0 50 2 0 49 = (q : Int) := rfl
      rw [e5, e6, wa]
      rfl
    · unfold HM; rw [up_ne ha, up_ne ha, up_ne ha, up_ne ha, up_ne ha, up_ne ha, up_ne ha]
    · have c1 : c ≠ 49 := by omega
      have c2 : c ≠ 50 := by omega
      have c3 : c ≠ 51 := by omega
      have c4 : c ≠ 52 := by omega
      simp [HM, up, c1, c2, c3, c4]
theorem num_tok {b : Nat → Int} {S p f : Nat} (hS : S ≤ 300) (hb : ∀ j, -128 ≤ b j ∧ b j ≤ 127) (hp : p ≤ S) (hf : skp b (S - p) p = f) (hfS : f < S) (c : 48 ≤ b f ∧ b f ≤ 57) : ∃ (t v : Int) (q : Nat), TokR t 1 v ∧ f < q ∧ q ≤ S ∧ XN b S p t f q ∧ MN b S p 1 v f q := by
  obtain ⟨F, hF, hF2⟩ := fuel_g
  have lb := dgt_bd b (S - f) f
  have lq : f < dgt b (S - f) f := by
    rw [show S - f = (S - f - 1) + 1 by omega, dgt, if_pos c]
    have := dgt_bd b (S - f - 1) (f + 1); omega
  have vb := nvl_bd b (S - f) f 0 (by omega)
  generalize hq : dgt b (S - f) f = q at lb lq
  generalize hv : nvl b (S - f) f 0 = v at vb
  have nl : ¬ (97 ≤ b f ∧ b f ≤ 122) := by omega
  have ht : TokR (if v ≤ 9999 then v else 10028) 1 v := by
    unfold TokR
    by_cases d : v ≤ 9999
    · rw [if_pos d]; exact .inr (.inl ⟨rfl, vb.1, d, rfl⟩)
    · rw [if_neg d]; exact .inr (.inr (.inl ⟨rfl, by omega, vb.2, rfl⟩))
  refine ⟨if v ≤ 9999 then v else 10028, v, q, ht, lq, by omega, ?_, ?_⟩
  · intro g g37 g38 hg
    have e := xm_at hS hb hp hf hfS g g37 g38 hg
    rw [if_neg nl, if_pos c] at e
    have hG : up (GX g f) 39 2 (f : Int) = GX g f := up_self (GX g f) 39 2
    have wl := fun K => numX_e (g := GX g f) hS hb g37 g38 K (S - f) F f 0 (by omega) (by omega) (by omega)
    simp only [hG, hq, hv, show cp4 0 = 0 from by decide] at wl
    refine ⟨up (GX g f) 39 2 (q : Int), ?_, rfl, rfl, fun a ha => ?_, fun c h1 h2 => ?_⟩
    · rw [e]; unfold fX5_number
      rw [hF, wl]
      unfold cp4
      by_cases d : v ≤ 9999
      · rw [if_pos (show v < 10000 by omega), if_pos d, wr_id (by omega) (by omega), if_pos d]; rfl
      · rw [if_neg (show ¬ v < 10000 by omega), if_neg d, if_neg (by decide)]; rfl
    · unfold GX; rw [up_ne ha, up_ne ha, up_ne ha]
    · simp [GX, up, h1, h2]
  · intro h h48 h35 hh
    have e := nextM_s hS hb h48 h35 hp hh
    rw [hf] at e
    have hG : up (up (HM h f) 0 52 0) 0 49 (f : Int) = HM h f := by
      have e1 : up (HM h f) 0 52 0 = HM h f := up_self (HM h f) 0 52
      rw [e1]; exact up_self (HM h f) 0 49
    have wl := fun K => numM_e (h := HM h f) hS hb h48 h35 K (S - f) F f 0 (by omega) (by omega) (by omega)
    simp only [hG, hq, hv] at wl
    refine ⟨up (up (up (HM h f) 0 52 v) 0 49 (q : Int)) 0 50 1, ?_, rfl, rfl, rfl, rfl, fun a ha => ?_, fun c hc => ?_⟩
    · have e1 : HM h (f : Int) 0 49 = (f : Int) := rfl
      have e2 : HM h (f : Int) 0 48 = (S : Int) := h48
      have e3 : HM h (f : Int) 35 f = b f := by show h 35 f = _; rw [h35]
      have el := letM_e (hb f)
      rw [if_neg nl] at el
      have ed := digM_e (hb f)
      rw [if_pos c] at ed
      rw [e]; unfold MTB
      rw [e1, e2, if_neg (by rw [wr_id (by omega) (by omega), wr_id (by omega) (by omega)]; omega), gd_i (by omega) (by omega) (by omega), wr_id (by omega) (by omega), Int.toNat_natCast, bnd_e, e3, el, bd_s, if_pos (by decide), ed, bd_s, if_neg (by decide), hF, wl, bnd_e]
    · unfold HM; rw [up_ne ha, up_ne ha, up_ne ha, up_ne ha, up_ne ha, up_ne ha, up_ne ha]
    · have c1 : c ≠ 49 := by omega
      have c2 : c ≠ 50 := by omega
      have c3 : c ≠ 51 := by omega
      have c4 : c ≠ 52 := by omega
      simp [HM, up, c1, c2, c3, c4]
def sgt (x : Int) : Int := if x = 40 then 10020 else if x = 41 then 10021 else if x = 42 then 10018 else if x = 43 then 10016 else if x = 45 then 10017 else if x = 47 then 10019 else if x = 59 then 10024 else if x = 60 then 10013 else if x = 61 then 10015 else if x = 62 then 10014 else if x = 91 then 10022 else if x = 93 then 10023 else 10028
theorem sgt_e {x : Int} (hx : -128 ≤ x ∧ x ≤ 127) : fX5_signToken (x % 256) = some (sgt x) := by
  unfold fX5_signToken sgt
  rw [wr_id (by omega) (by omega)]
  have e : ∀ c : Int, 0 ≤ c → c ≤ 127 → (x % 256 = c ↔ x = c) := fun c h1 h2 => by omega
  simp only [e 40 (by omega) (by omega), e 41 (by omega) (by omega), e 42 (by omega) (by omega), e 43 (by omega) (by omega), e 45 (by omega) (by omega), e 47 (by omega) (by omega), e 59 (by omega) (by omega), e 60 (by omega) (by omega), e 61 (by omega) (by omega), e 62 (by omega) (by omega), e 91 (by omega) (by omega), e 93 (by omega) (by omega)]
  simp only [apply_ite (some : Int → Option Int)]
def sgk (x : Int) : Int := if x = 43 then 3 else if x = 45 then 3 else if x = 42 then 3 else if x = 47 then 3 else if x = 40 then 3 else if x = 41 then 3 else if x = 91 then 3 else if x = 93 then 3 else if x = 60 then 3 else if x = 62 then 3 else if x = 61 then 3 else if x = 59 then 3 else 4
theorem sgk_e {α : Type} (x : Int) (hx : -128 ≤ x ∧ x ≤ 127) (J : Int → α) : (if wr x = 43 then J 3 else if wr x = 45 then J 3 else if wr x = 42 then J 3 else if wr x = 47 then J 3 else if wr x = 40 then J 3 else if wr x = 41 then J 3 else if wr x = 91 then J 3 else if wr x = 93 then J 3 else if wr x = 60 then J 3 else if wr x = 62 then J 3 else if wr x = 61 then J 3 else if wr x = 59 then J 3 else J 4) = J (sgk x) := by
  rw [wr_id (by omega) (by omega)]
  unfold sgk
  simp only [apply_ite J]
theorem sg_rel {x : Int} (hx : -128 ≤ x ∧ x ≤ 127) : TokR (sgt x) (sgk x) x := by
  by_cases z : x = 40 ∨ x = 41 ∨ x = 42 ∨ x = 43 ∨ x = 45 ∨ x = 47 ∨ x = 59 ∨ x = 60 ∨ x = 61 ∨ x = 62 ∨ x = 91 ∨ x = 93
  · unfold TokR
    rcases z with rfl | rfl | rfl | rfl | rfl | rfl | rfl | rfl | rfl | rfl | rfl | rfl <;> decide
  · have e1 : sgt x = 10028 := by
      unfold sgt
      rw [if_neg (by omega), if_neg (by omega), if_neg (by omega), if_neg (by omega), if_neg (by omega), if_neg (by omega), if_neg (by omega), if_neg (by omega), if_neg (by omega), if_neg (by omega), if_neg (by omega), if_neg (by omega)]
    have e2 : sgk x = 4 := by
      unfold sgk
      rw [if_neg (by omega), if_neg (by omega), if_neg (by omega), if_neg (by omega), if_neg (by omega), if_neg (by omega), if_neg (by omega), if_neg (by omega), if_neg (by omega), if_neg (by omega), if_neg (by omega), if_neg (by omega)]
    rw [e1, e2]; unfold TokR
    exact .inr (.inr (.inr (.inr (.inr ⟨rfl, hx, rfl⟩))))
theorem sign_tok {b : Nat → Int} {S p f : Nat} (hS : S ≤ 300) (hb : ∀ j, -128 ≤ b j ∧ b j ≤ 127) (hp : p ≤ S) (hf : skp b (S - p) p = f) (hfS : f < S) (nl : ¬ (97 ≤ b f ∧ b f ≤ 122)) (nd : ¬ (48 ≤ b f ∧ b f ≤ 57)) : XN b S p (sgt (b f)) f (f + 1) ∧ MN b S p (sgk (b f)) (b f) f (f + 1) := by
  constructor
  · intro g g37 g38 hg
    have e := xm_at hS hb hp hf hfS g g37 g38 hg
    rw [if_neg nl, if_neg nd, sgt_e (hb f), bd_s] at e
    refine ⟨_, e, rfl, rfl, fun a ha => ?_, fun c h1 h2 => ?_⟩
    · unfold GX; rw [up_ne ha, up_ne ha, up_ne ha]
    · simp [GX, up, h1, h2]
  · intro h h48 h35 hh
    have e := nextM_s hS hb h48 h35 hp hh
    rw [hf] at e
    refine ⟨up (up (up (HM h f) 0 50 (sgk (b f))) 0 52 (b f)) 0 49 ((f : Int) + 1), ?_, rfl, rfl, rfl, rfl, fun a ha => ?_, fun c hc => ?_⟩
    · have e1 : HM h (f : Int) 0 49 = (f : Int) := rfl
      have e2 : HM h (f : Int) 0 48 = (S : Int) := h48
      have e3 : HM h (f : Int) 35 f = b f := by show h 35 f = _; rw [h35]
      have el := letM_e (hb f)
      rw [if_neg nl] at el
      have ed := digM_e (hb f)
      rw [if_neg nd] at ed
      rw [e]; unfold MTB
      rw [e1, e2, if_neg (by rw [wr_id (by omega) (by omega), wr_id (by omega) (by omega)]; omega), gd_i (by omega) (by omega) (by omega), wr_id (by omega) (by omega), Int.toNat_natCast, bnd_e, e3, el, bd_s, if_pos (by decide), ed, bd_s, if_pos (by decide), jn_e, jn_e, sgk_e (b f) (hb f)]
      rfl
    · unfold HM; rw [up_ne ha, up_ne ha, up_ne ha, up_ne ha, up_ne ha, up_ne ha, up_ne ha]
    · have c1 : c ≠ 49 := by omega
      have c2 : c ≠ 50 := by omega
      have c3 : c ≠ 51 := by omega
      have c4 : c ≠ 52 := by omega
      simp [HM, up, c1, c2, c3, c4]
/-- a token is read alike -/
theorem tok_e {b : Nat → Int} {S p : Nat} (hS : S ≤ 300) (hb : ∀ j, -128 ≤ b j ∧ b j ≤ 127) (hp : p ≤ S) : ∃ (t k v : Int) (f q : Nat), TokR t k v ∧ p ≤ f ∧ q ≤ S ∧ ((t = 10027 ∧ f = S ∧ q = S) ∨ (t ≠ 10027 ∧ f < q)) ∧ XN b S p t f q ∧ MN b S p k v f q := by
  have sb := skp_bd b (S - p) p
  by_cases z : skp b (S - p) p = S
  · obtain ⟨a1, a2⟩ := xn_end hS hb hp z
    exact ⟨10027, 0, 0, S, S, .inl ⟨rfl, rfl, rfl⟩, hp, by omega, .inl ⟨rfl, rfl, rfl⟩, a1, a2⟩
  · generalize hf : skp b (S - p) p = f at sb z
    have hfS : f < S := by omega
    have ne : ∀ t k v : Int, TokR t k v → k ≠ 0 → t ≠ 10027 := by
      intro t k v h hk ht
      unfold TokR at h
      omega
    by_cases c : 97 ≤ b f ∧ b f ≤ 122
    · obtain ⟨t, v, q, a1, a2, a3, a4, a5⟩ := word_tok hS hb hp hf hfS c
      exact ⟨t, 2, v, f, q, a1, sb.1, a3, .inr ⟨ne _ _ _ a1 (by omega), a2⟩, a4, a5⟩
    · by_cases d : 48 ≤ b f ∧ b f ≤ 57
      · obtain ⟨t, v, q, a1, a2, a3, a4, a5⟩ := num_tok hS hb hp hf hfS d
        exact ⟨t, 1, v, f, q, a1, sb.1, a3, .inr ⟨ne _ _ _ a1 (by omega), a2⟩, a4, a5⟩
      · obtain ⟨a4, a5⟩ := sign_tok hS hb hp hf hfS c d
        have a1 := sg_rel (hb f)
        refine ⟨_, _, _, f, f + 1, a1, sb.1, by omega, .inr ⟨ne _ _ _ a1 ?_, by omega⟩, a4, a5⟩
        unfold sgk; intro h
        repeat' split at h
        all_goals omega
