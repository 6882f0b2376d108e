/-! WHAT WAITS, and what is to come -/
def lv (t : Int) : Nat := if t = 10018 ∨ t = 10019 then 0 else if t = 10016 ∨ t = 10017 then 1 else if t = 10013 ∨ t = 10014 ∨ t = 10015 ∨ t = 10020 then 2 else if t = 10011 ∨ t = 10012 then 3 else if t = 10010 then 4 else 5
def rs (t : Int) : Nat := if t = 10018 ∨ t = 10019 ∨ t = 10020 then 0 else if t = 10016 ∨ t = 10017 then 1 else if t = 10010 then 4 else 3
def nl (t : Int) : Nat := if t = 10018 ∨ t = 10019 then 1 else if t = 10016 ∨ t = 10017 then 2 else if t = 10020 then 0 else if t = 10011 then 4 else if t = 10010 then 5 else 3
def dc (t : Int) : Int := if t = 10010 then 10 else if t = 10011 then 9 else if t = 10012 then 11 else if t = 10013 then 6 else if t = 10014 then 7 else if t = 10015 then 8 else if t = 10016 then 2 else if t = 10017 then 3 else if t = 10018 then 4 else 5
def hd (t : Int) : List Int := if t = 10020 then [141, 12] else if t = 10022 then [193, 12] else if t = 10012 then [1011, 12] else [1000 + dc t]
def Ent (t : Int) : Prop := (10010 ≤ t ∧ t ≤ 10020) ∨ t = 10022
def lvW : List Int → Nat
  | [] => 5
  | t :: _ => lv t
def fil : Nat → Nat → List Int
  | _, 0 => []
  | l, c + 1 => fc l :: fil (l + 1) c
def Ktl : List Int → List Int
  | [] => [159, 13, 0]
  | t :: W => hd t ++ (fil (rs t) (lvW W - rs t) ++ Ktl W)
def KK (l : Nat) (W : List Int) : List Int := fil l (lvW W - l) ++ Ktl W
def WF : List Int → Prop
  | [] => True
  | t :: W => Ent t ∧ nl t ≤ lvW W ∧ WF W
def isO (t : Int) : Nat := if t = 10020 ∨ t = 10022 ∨ t = 10012 then 1 else 0
def isPa (t : Int) : Nat := if t = 10020 then 1 else 0
def isBr (t : Int) : Nat := if t = 10022 then 1 else 0
def opn : List Int → Nat
  | [] => 0
  | t :: W => isO t + opn W
def pcn : List Int → Nat
  | [] => 0
  | t :: W => isPa t + pcn W
def bcn : List Int → Nat
  | [] => 0
  | t :: W => isBr t + bcn W
def bl : List Int → Nat
  | [] => 5
  | t :: W => if lv t ≤ 1 then bl W else lv t
def cmd : List Int → Int
  | [] => 0
  | t :: W => if t = 10013 ∨ t = 10014 ∨ t = 10015 then 1 else if lv t ≤ 2 then cmd W else 0
def PT : List Int → List Bool
  | [] => []
  | t :: W => if isO t = 1 then PT W else (decide (t ≤ 10011)) :: PT W
/-- the codes, one by one -/
theorem ent_tab {t : Int} (h : Ent t) :
    (t = 10010 ∧ lv t = 4 ∧ rs t = 4 ∧ nl t = 5 ∧ bdg t = 1 ∧ isO t = 0 ∧ isPa t = 0 ∧ isBr t = 0 ∧ nob t = 0) ∨
    (t = 10011 ∧ lv t = 3 ∧ rs t = 3 ∧ nl t = 4 ∧ bdg t = 2 ∧ isO t = 0 ∧ isPa t = 0 ∧ isBr t = 0 ∧ nob t = 0) ∨
    (t = 10012 ∧ lv t = 3 ∧ rs t = 3 ∧ nl t = 3 ∧ bdg t = 3 ∧ isO t = 1 ∧ isPa t = 0 ∧ isBr t = 0 ∧ nob t = 1) ∨
    ((t = 10013 ∨ t = 10014 ∨ t = 10015) ∧ lv t = 2 ∧ rs t = 3 ∧ nl t = 3 ∧ bdg t = 4 ∧ isO t = 0 ∧ isPa t = 0 ∧ isBr t = 0 ∧ nob t = 0) ∨
    ((t = 10016 ∨ t = 10017) ∧ lv t = 1 ∧ rs t = 1 ∧ nl t = 2 ∧ bdg t = 5 ∧ isO t = 0 ∧ isPa t = 0 ∧ isBr t = 0 ∧ nob t = 0) ∨
    ((t = 10018 ∨ t = 10019) ∧ lv t = 0 ∧ rs t = 0 ∧ nl t = 1 ∧ bdg t = 6 ∧ isO t = 0 ∧ isPa t = 0 ∧ isBr t = 0 ∧ nob t = 0) ∨
    (t = 10020 ∧ lv t = 2 ∧ rs t = 0 ∧ nl t = 0 ∧ bdg t = 0 ∧ isO t = 1 ∧ isPa t = 1 ∧ isBr t = 0 ∧ nob t = 0) ∨
    (t = 10022 ∧ lv t = 5 ∧ rs t = 3 ∧ nl t = 3 ∧ bdg t = 0 ∧ isO t = 1 ∧ isPa t = 0 ∧ isBr t = 1 ∧ nob t = 0) := by
  unfold Ent at h
  rcases (by omega : t = 10010 ∨ t = 10011 ∨ t = 10012 ∨ t = 10013 ∨ t = 10014 ∨ t = 10015 ∨ t = 10016 ∨ t = 10017 ∨ t = 10018 ∨ t = 10019 ∨ t = 10020 ∨ t = 10022) with rfl | rfl | rfl | rfl | rfl | rfl | rfl | rfl | rfl | rfl | rfl | rfl
  · exact .inl (by decide)
  · exact .inr (.inl (by decide))
  · exact .inr (.inr (.inl (by decide)))
  · exact .inr (.inr (.inr (.inl (by decide))))
  · exact .inr (.inr (.inr (.inl (by decide))))
  · exact .inr (.inr (.inr (.inl (by decide))))
  · exact .inr (.inr (.inr (.inr (.inl (by decide)))))
  · exact .inr (.inr (.inr (.inr (.inl (by decide)))))
  · exact .inr (.inr (.inr (.inr (.inr (.inl (by decide))))))
  · exact .inr (.inr (.inr (.inr (.inr (.inl (by decide))))))
  · exact .inr (.inr (.inr (.inr (.inr (.inr (.inl (by decide)))))))
  · exact .inr (.inr (.inr (.inr (.inr (.inr (.inr (by decide)))))))
theorem ent_num {t : Int} (h : Ent t) : lv t ≤ 5 ∧ rs t ≤ nl t ∧ rs t ≤ 4 ∧ nl t ≤ 5 ∧ isO t ≤ 1 ∧ (0 ≤ t ∧ t ≤ 20000) := by
  have ht : 0 ≤ t ∧ t ≤ 20000 := by unfold Ent at h; omega
  rcases ent_tab h with z | z | z | z | z | z | z | z <;> omega
theorem ent_cd {t : Int} (h : Ent t) (hb : 1 ≤ bdg t) : CdR t (dc t) 0 ∧ (2 ≤ dc t ∧ dc t ≤ 11) ∧ hd t = (1000 + dc t) :: (if t = 10012 then [12] else []) := by
  unfold Ent at h
  rcases (by omega : t = 10010 ∨ t = 10011 ∨ t = 10012 ∨ t = 10013 ∨ t = 10014 ∨ t = 10015 ∨ t = 10016 ∨ t = 10017 ∨ t = 10018 ∨ t = 10019 ∨ t = 10020 ∨ t = 10022) with rfl | rfl | rfl | rfl | rfl | rfl | rfl | rfl | rfl | rfl | rfl | rfl
  all_goals first | exact absurd hb (by decide) | (refine ⟨?_, by decide, by decide⟩; unfold CdR; decide)
theorem lvW_le : ∀ {W : List Int}, WF W → lvW W ≤ 5
  | [], _ => Nat.le_refl _
  | _ :: _, h => (ent_num h.1).1
theorem len_W : ∀ {W : List Int}, WF W → W.length + lvW W ≤ 3 * opn W + 5
  | [], _ => by decide
  | t :: W, h => by
    have ih := len_W h.2.2
    have hn := h.2.1
    show W.length + 1 + lv t ≤ 3 * (isO t + opn W) + 5
    rcases ent_tab h.1 with z | z | z | z | z | z | z | z <;> omega
theorem fil_len : ∀ (c l : Nat), (fil l c).length = c
  | 0, _ => rfl
  | c + 1, l => by show (fil (l + 1) c).length + 1 = _; rw [fil_len c (l + 1)]
theorem hd_len (t : Int) : (hd t).length ≤ 2 := by
  unfold hd
  repeat' split
  all_goals simp
theorem len_Kt : ∀ {W : List Int}, WF W → (Ktl W).length ≤ 3 + 7 * W.length
  | [], _ => by decide
  | t :: W, h => by
    have ih := len_Kt h.2.2
    have a := hd_len t
    have b := lvW_le h.2.2
    show (hd t ++ (fil (rs t) (lvW W - rs t) ++ Ktl W)).length ≤ 3 + 7 * (W.length + 1)
    rw [List.length_append, List.length_append, fil_len]
    omega
theorem len_K {W : List Int} (l : Nat) (h : WF W) : (KK l W).length ≤ 8 + 7 * W.length := by
  have := len_Kt h
  have b := lvW_le h
  unfold KK
  rw [List.length_append, fil_len]; omega
theorem pc0 : ∀ {W : List Int}, WF W → 3 ≤ lvW W → pcn W = 0
  | [], _, _ => rfl
  | t :: W, h, hl => by
    have hl' : 3 ≤ lv t := hl
    have hn := h.2.1
    show isPa t + pcn W = 0
    have ih := fun z => pc0 h.2.2 z
    rcases ent_tab h.1 with z | z | z | z | z | z | z | z
    all_goals first | omega | (rw [ih (by omega)]; omega)
theorem cmd0 {W : List Int} (h : WF W) (hl : 3 ≤ lvW W) : cmd W = 0 := by
  cases W with
  | nil => rfl
  | cons t W =>
    have hl' : 3 ≤ lv t := hl
    unfold cmd
    rw [if_neg, if_neg (by omega)]
    rcases ent_tab h.1 with z | z | z | z | z | z | z | z <;> omega
theorem bl_3 : ∀ {W : List Int}, WF W → (pcn W = 0 → cmd W = 0 → 3 ≤ bl W) ∧ (0 < pcn W ∨ cmd W = 1 → bl W = 2) ∧ (cmd W = 0 ∨ cmd W = 1) ∧ (cmd W = 1 → 3 ≤ lvW W → False) ∧ (3 ≤ lvW W → bl W = lvW W) ∧ lvW W ≤ bl W
  | [], _ => by decide
  | t :: W, h => by
    have ih := bl_3 h.2.2
    have hn := h.2.1
    have p0 := fun z => pc0 h.2.2 z
    have c0 := fun z => cmd0 h.2.2 z
    show (isPa t + pcn W = 0 → (if t = 10013 ∨ t = 10014 ∨ t = 10015 then 1 else if lv t ≤ 2 then cmd W else 0) = 0 → 3 ≤ (if lv t ≤ 1 then bl W else lv t)) ∧ (0 < isPa t + pcn W ∨ (if t = 10013 ∨ t = 10014 ∨ t = 10015 then 1 else if lv t ≤ 2 then cmd W else 0) = 1 → (if lv t ≤ 1 then bl W else lv t) = 2) ∧ ((if t = 10013 ∨ t = 10014 ∨ t = 10015 then 1 else if lv t ≤ 2 then cmd W else 0) = 0 ∨ (if t = 10013 ∨ t = 10014 ∨ t = 10015 then 1 else if lv t ≤ 2 then cmd W else 0) = 1) ∧ ((if t = 10013 ∨ t = 10014 ∨ t = 10015 then 1 else if lv t ≤ 2 then cmd W else 0) = 1 → 3 ≤ lv t → False) ∧ (3 ≤ lv t → (if lv t ≤ 1 then bl W else lv t) = lv t) ∧ lv t ≤ (if lv t ≤ 1 then bl W else lv t)
    rcases ent_tab h.1 with z | z | z | z | z | z | z | z
    · rw [if_neg (by omega), if_neg (by omega), if_neg (by omega), p0 (by omega)]; omega
    · rw [if_neg (by omega), if_neg (by omega), if_neg (by omega), p0 (by omega)]; omega
    · rw [if_neg (by omega), if_neg (by omega), if_neg (by omega), p0 (by omega)]; omega
    · rw [if_pos z.1, if_neg (by omega), p0 (by omega)]; omega
    · rw [if_neg (by omega), if_pos (by omega), if_pos (by omega)]
      obtain ⟨i1, i2, i3, i4, i5, i6⟩ := ih
      refine ⟨fun a b => i1 (by omega) b, fun a => i2 (by omega), i3, fun _ _ => by omega, fun _ => by omega, by omega⟩
    · rw [if_neg (by omega), if_pos (by omega), if_pos (by omega)]
      obtain ⟨i1, i2, i3, i4, i5, i6⟩ := ih
      refine ⟨fun a b => i1 (by omega) b, fun a => i2 (by omega), i3, fun _ _ => by omega, fun _ => by omega, by omega⟩
    · rw [if_neg (by omega), if_pos (by omega), if_neg (by omega)]
      obtain ⟨i1, i2, i3, i4, i5, i6⟩ := ih
      refine ⟨fun a b => by omega, fun a => by omega, i3, fun _ _ => by omega, fun _ => by omega, by omega⟩
    · rw [if_neg (by omega), if_neg (by omega), if_neg (by omega), p0 (by omega)]; omega
theorem fil_split : ∀ (a l c : Nat), fil l (a + c) = fil l a ++ fil (l + a) c
  | 0, l, c => by rw [Nat.zero_add]; rfl
  | a + 1, l, c => by
    rw [show a + 1 + c = (a + c) + 1 by omega]
    show fc l :: fil (l + 1) (a + c) = fc l :: (fil (l + 1) a ++ fil (l + (a + 1)) c)
    rw [fil_split a (l + 1) c, show l + 1 + a = l + (a + 1) by omega]
theorem K_split {l L : Nat} {W : List Int} (h1 : l ≤ L) (h2 : L ≤ lvW W) : KK l W = fil l (L - l) ++ KK L W := by
  unfold KK
  rw [show lvW W - l = (L - l) + (lvW W - L) by omega, fil_split, show l + (L - l) = L by omega, List.append_assoc]
theorem K_at {L : Nat} {W : List Int} (h2 : L < lvW W) : KK L W = fc L :: KK (L + 1) W := by
  unfold KK
  rw [show lvW W - L = (lvW W - (L + 1)) + 1 by omega]; rfl
theorem K_top (t : Int) (W : List Int) : KK (lv t) (t :: W) = hd t ++ KK (rs t) W := by
  show fil (lv t) (lv t - lv t) ++ Ktl (t :: W) = _
  rw [Nat.sub_self]; rfl
theorem K_nil : KK 5 [] = [159, 13, 0] := rfl
theorem ent_mem : ∀ {W : List Int}, WF W → ∀ t, t ∈ W → 0 ≤ t ∧ t ≤ 20000
  | [], _, t, h => by simp at h
  | x :: W, h, t, ht => by
    rcases List.mem_cons.1 ht with e | e
    · rw [e]; exact (ent_num h.1).2.2.2.2.2
    · exact ent_mem h.2.2 t e
theorem PT_len : ∀ (W : List Int), (PT W).length ≤ W.length
  | [] => by decide
  | t :: W => by
    have ih := PT_len W
    unfold PT
    split
    · simp only [List.length_cons]; omega
    · simp only [List.length_cons]; omega
/-! types of the codes -/
theorem tyr_snoc (f : Nat → Int) : ∀ (k i : Nat) (t0 ts ts' : List Bool), tyr f i k t0 = some ts → tst (f (i + k)) ts = some ts' → ts'.length ≤ 32 → tyr f i (k + 1) t0 = some ts'
  | 0, i, t0, ts, ts', h1, h2, h3 => by
    have e : t0 = ts := by simpa [tyr] using h1
    subst e
    have h2' : tst (f i) t0 = some ts' := h2
    simp [tyr, h2', h3]
  | k + 1, i, t0, ts, ts', h1, h2, h3 => by
    have e : tyr f i (k + 1 + 1) t0 = (match tst (f i) t0 with
      | none => none
      | some ts' => if ts'.length ≤ 32 then tyr f (i + 1) (k + 1) ts' else none) := rfl
    have e1 : tyr f i (k + 1) t0 = (match tst (f i) t0 with
      | none => none
      | some ts' => if ts'.length ≤ 32 then tyr f (i + 1) k ts' else none) := rfl
    rw [e1] at h1
    rw [e]
    cases hh : tst (f i) t0 with
    | none => rw [hh] at h1; simp at h1
    | some t1 =>
      rw [hh] at h1
      simp only at h1 ⊢
      by_cases c : t1.length ≤ 32
      · rw [if_pos c] at h1 ⊢
        exact tyr_snoc f k (i + 1) t1 ts ts' h1 (by rw [show i + 1 + k = i + (k + 1) by omega]; exact h2) h3
      · rw [if_neg c] at h1; simp at h1
theorem tyr_congr {f f' : Nat → Int} : ∀ (k i : Nat) (t0 : List Bool), (∀ j, i ≤ j → j < i + k → f' j = f j) → tyr f' i k t0 = tyr f i k t0
  | 0, _, _, _ => rfl
  | k + 1, i, t0, h => by
    have e : f' i = f i := h i (by omega) (by omega)
    have ih := fun t => tyr_congr k (i + 1) t (fun j h1 h2 => h j (by omega) (by omega))
    show (match tst (f' i) t0 with
      | none => none
      | some ts' => if ts'.length ≤ 32 then tyr f' (i + 1) k ts' else none) = (match tst (f i) t0 with
      | none => none
      | some ts' => if ts'.length ≤ 32 then tyr f (i + 1) k ts' else none)
    rw [e]
    cases tst (f i) t0 with
    | none => rfl
    | some t1 => simp only [ih]
def TY (C : tyC) (beg : Nat) (ts : List Bool) : Prop := beg ≤ C.1 ∧ tyr C.2.1 beg (C.1 - beg) [] = some ts
theorem ty_em {C : tyC} {beg : Nat} {ts ts' : List Bool} {d w : Int} (h : TY C beg ts) (h2 : tst d ts = some ts') (h3 : ts'.length ≤ 32) : TY (em C d w) beg ts' := by
  refine ⟨Nat.le_succ_of_le h.1, ?_⟩
  show tyr (ups C.2.1 C.1 d) beg (C.1 + 1 - beg) [] = some ts'
  have h1 := h.1
  rw [show C.1 + 1 - beg = (C.1 - beg) + 1 by omega]
  refine tyr_snoc _ _ _ _ ts ts' ?_ ?_ h3
  · rw [tyr_congr (f := C.2.1) (f' := ups C.2.1 C.1 d) (C.1 - beg) beg [] (fun j a b => if_neg (by omega))]; exact h.2
  · rw [show beg + (C.1 - beg) = C.1 by omega, show ups C.2.1 C.1 d C.1 = d from if_pos rfl]; exact h2
def CR (D : Nat × (Nat → Int)) (C : tyC) : Prop := D.1 = C.1 ∧ ∀ k, k < D.1 → CdR (D.2 k) (C.2.1 k) (C.2.2 k)
theorem cr_em {D : Nat × (Nat → Int)} {C : tyC} {t d w : Int} (h : CR D C) (hc : CdR t d w) : CR (xem D t) (em C d w) := by
  refine ⟨congrArg (· + 1) h.1, fun k hk => ?_⟩
  have hk' : k < D.1 + 1 := hk
  show CdR (ups D.2 D.1 t k) (ups C.2.1 C.1 d k) (ups C.2.2 C.1 w k)
  unfold ups
  rw [← h.1]
  by_cases c : k = D.1
  · rw [if_pos c, if_pos c, if_pos c]; exact hc
  · rw [if_neg c, if_neg c, if_neg c]; exact h.2 k (by omega)
theorem Go_fil {h0 : Mem} {C : tyC} {B : tyB} {T : tyT} {dp : Int} : ∀ (c l : Nat) (s : List Int), (∀ j, l ≤ j → j < l + c → nm T.1 T.2.1 j) → l + c ≤ 5 → s.length < 500 → Go h0 c (fil l c ++ s) C B T dp s C B T dp
  | 0, _, _, _, _, _ => Go_rfl
  | c + 1, l, s, h1, h2, h3 => by
    have g := g_pass (h0 := h0) (C := C) (B := B) (T := T) (dp := dp) (l := fil (l + 1) c ++ s) (by rw [List.length_append, fil_len]; omega) l (by omega) (h1 l (by omega) (by omega))
    exact Go_le (Go_tr g (Go_fil c (l + 1) s (fun j a b => h1 j (by omega) (by omega)) (by omega) h3)) (by omega)
theorem Go_K {h0 : Mem} {C : tyC} {B : tyB} {T : tyT} {dp : Int} {l L : Nat} {W : List Int} (hW : WF W) (hw : W.length < 60) (h1 : l ≤ L) (h2 : L ≤ lvW W) (hn : ∀ j, l ≤ j → j < L → nm T.1 T.2.1 j) : Go h0 5 (KK l W) C B T dp (KK L W) C B T dp := by
  have a := len_K L hW
  have b := lvW_le hW
  rw [K_split h1 h2]
  exact Go_le (Go_fil (L - l) l (KK L W) (fun j a b => hn j a (by omega)) (by omega) (by omega)) (by omega)
