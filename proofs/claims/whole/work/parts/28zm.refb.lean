/-! THE REFERENCE's steps -/
def fc : Nat → Int
  | 0 => 4
  | 1 => 2
  | 2 => 11
  | 3 => 9
  | _ => 7
def nm (k v : Int) (j : Nat) : Prop := (j = 0 → ¬ (k = 3 ∧ (v = 42 ∨ v = 47))) ∧ (j = 1 → ¬ (k = 3 ∧ (v = 43 ∨ v = 45))) ∧ (j = 2 → False) ∧ (j = 3 → ¬ (k = 2 ∧ v = 10)) ∧ (j = 4 → ¬ (k = 2 ∧ v = 9))
theorem g_does {h0 : Mem} {l : List Int} {C : tyC} {B : tyB} {T : tyT} {dp : Int} (hl : l.length < 580) (d : Int) (hd : 0 ≤ d ∧ d ≤ 20) (hn : C.1 < 300) : Go h0 1 ((1000 + d) :: l) C B T dp l (em C d 0) B T dp := by
  refine go1 (by omega) (fun h1 M => ?_)
  obtain ⟨h2, e2, M2⟩ := m_emits d 0 M hn
  refine ⟨h2, ?_, M2⟩
  unfold fX12_steps
  rw [if_neg (by rw [wr_id (by omega) (by omega)]; omega), show 1000 + d - 1000 = d by omega, e2]; rfl
theorem g_up {h0 : Mem} {l : List Int} {C : tyC} {B : tyB} {T : tyT} {dp : Int} (hl : l.length < 580) (hd : 1 ≤ dp) : Go h0 1 (12 :: l) C B T dp l C B T (dp - 1) := by
  refine go1 (by omega) (fun h1 M => ?_)
  obtain ⟨a, b, c, d, ⟨e1, e2, e3⟩, f⟩ := M
  exact ⟨up h1 0 55 (dp - 1), by rw [st_12, e1], a, b, c, d, ⟨rfl, by omega, by omega⟩, FM_0 (by omega) f⟩
theorem g_1 {h0 : Mem} {l : List Int} {C : tyC} {B : tyB} {T : tyT} {dp : Int} (hl : l.length < 580) : Go h0 1 (1 :: l) C B T dp (3 :: 2 :: l) C B T dp := by
  refine go1 (by omega) (fun h1 M => ?_)
  obtain ⟨h2, e2, M2⟩ := m_push 2 M (by omega)
  obtain ⟨h3, e3, M3⟩ := m_push 3 M2 (by simp only [List.length_cons]; omega)
  refine ⟨h3, st_1 (.inr rfl) ?_, M3⟩
  unfold fX12_both; rw [e2, bd_s, e3, bd_s]
theorem g_3 {h0 : Mem} {l : List Int} {C : tyC} {B : tyB} {T : tyT} {dp : Int} (hl : l.length < 580) : Go h0 1 (3 :: l) C B T dp (5 :: 4 :: l) C B T dp := by
  refine go1 (by omega) (fun h1 M => ?_)
  obtain ⟨h2, e2, M2⟩ := m_push 4 M (by omega)
  obtain ⟨h3, e3, M3⟩ := m_push 5 M2 (by simp only [List.length_cons]; omega)
  refine ⟨h3, st_3 (.inr rfl) ?_, M3⟩
  unfold fX12_both; rw [e2, bd_s, e3, bd_s]
theorem g_6 {h0 : Mem} {l : List Int} {C : tyC} {B : tyB} {T : tyT} {dp : Int} (hl : l.length < 580) : Go h0 1 (6 :: l) C B T dp (8 :: 7 :: l) C B T dp := by
  refine go1 (by omega) (fun h1 M => ?_)
  obtain ⟨h2, e2, M2⟩ := m_push 7 M (by omega)
  obtain ⟨h3, e3, M3⟩ := m_push 8 M2 (by simp only [List.length_cons]; omega)
  refine ⟨h3, st_6 (.inr rfl) ?_, M3⟩
  unfold fX12_both; rw [e2, bd_s, e3, bd_s]
theorem g_8 {h0 : Mem} {l : List Int} {C : tyC} {B : tyB} {T : tyT} {dp : Int} (hl : l.length < 580) : Go h0 1 (8 :: l) C B T dp (10 :: 9 :: l) C B T dp := by
  refine go1 (by omega) (fun h1 M => ?_)
  obtain ⟨h2, e2, M2⟩ := m_push 9 M (by omega)
  obtain ⟨h3, e3, M3⟩ := m_push 10 M2 (by simp only [List.length_cons]; omega)
  refine ⟨h3, st_8 (.inr rfl) ?_, M3⟩
  unfold fX12_both; rw [e2, bd_s, e3, bd_s]
theorem g_2p {h0 : Mem} {l : List Int} {C : tyC} {B : tyB} {T : tyT} {dp : Int} (hl : l.length < 580) (hn : nm T.1 T.2.1 1) : Go h0 1 (2 :: l) C B T dp l C B T dp := by
  refine go1 (by omega) (fun h1 M => ⟨h1, st_2 (.inr rfl) ?_, M⟩)
  have s1 : fX12_isSign 43 h1 = some 0 := by
    rw [sgn_e M 43 (by omega), if_neg (fun z => hn.2.1 rfl ⟨z.1, .inl z.2⟩)]
  have s2 : fX12_isSign 45 h1 = some 0 := by
    rw [sgn_e M 45 (by omega), if_neg (fun z => hn.2.1 rfl ⟨z.1, .inr z.2⟩)]
  unfold fX12_more
  simp only [s1, s2, bd_s, jn_e, w0t, if_true]
theorem g_2a {h0 : Mem} {l : List Int} {C : tyC} {B : tyB} {f dp : Int} (hl : l.length < 580) {b : Nat → Int} {S p q' f' : Nat} {k' v' : Int} (N : MN b S p k' v' f' q') (hS : h0 0 48 = (S : Int)) (hb : h0 35 = b) (hT : tb (k', v', (f' : Int), (q' : Int))) : Go h0 1 (2 :: l) C B (3, 43, f, (p : Int)) dp (3 :: 1002 :: 2 :: l) C B (k', v', (f' : Int), (q' : Int)) dp := by
  refine go1 (by omega) (fun h1 M => ?_)
  have s1 : fX12_isSign 43 h1 = some 1 := by rw [sgn_e M 43 (by omega), if_pos ⟨rfl, rfl⟩]
  obtain ⟨h2, e2, M2⟩ := m_next N hS hb hT M
  obtain ⟨h3, e3, M3⟩ := m_push 2 M2 (by omega)
  obtain ⟨h4, e4, M4⟩ := m_push 1002 M3 (by simp only [List.length_cons]; omega)
  obtain ⟨h5, e5, M5⟩ := m_push 3 M4 (by simp only [List.length_cons]; omega)
  refine ⟨h5, st_2 (.inr rfl) ?_, M5⟩
  have e4' : fX12_push (1000 + 2) h3 = some h4 := e4
  unfold fX12_more
  simp only [↓s1, ↓e2, ↓e3, ↓e4', ↓e5, ↓bd_s, ↓jn_e, ↓w1f, ↓if_false]
theorem g_2b {h0 : Mem} {l : List Int} {C : tyC} {B : tyB} {f dp : Int} (hl : l.length < 580) {b : Nat → Int} {S p q' f' : Nat} {k' v' : Int} (N : MN b S p k' v' f' q') (hS : h0 0 48 = (S : Int)) (hb : h0 35 = b) (hT : tb (k', v', (f' : Int), (q' : Int))) : Go h0 1 (2 :: l) C B (3, 45, f, (p : Int)) dp (3 :: 1003 :: 2 :: l) C B (k', v', (f' : Int), (q' : Int)) dp := by
  refine go1 (by omega) (fun h1 M => ?_)
  have s1 : fX12_isSign 43 h1 = some 0 := by rw [sgn_e M 43 (by omega), if_neg (fun z => absurd z.2 (show ¬ (45 : Int) = 43 by decide))]
  have s2 : fX12_isSign 45 h1 = some 1 := by rw [sgn_e M 45 (by omega), if_pos ⟨rfl, rfl⟩]
  obtain ⟨h2, e2, M2⟩ := m_next N hS hb hT M
  obtain ⟨h3, e3, M3⟩ := m_push 2 M2 (by omega)
  obtain ⟨h4, e4, M4⟩ := m_push 1003 M3 (by simp only [List.length_cons]; omega)
  obtain ⟨h5, e5, M5⟩ := m_push 3 M4 (by simp only [List.length_cons]; omega)
  refine ⟨h5, st_2 (.inr rfl) ?_, M5⟩
  have e4' : fX12_push (1000 + 3) h3 = some h4 := e4
  unfold fX12_more
  simp only [↓s1, ↓s2, ↓e2, ↓e3, ↓e4', ↓e5, ↓bd_s, ↓jn_e, ↓w1f, ↓w0t, ↓if_true, ↓if_false]
theorem g_4p {h0 : Mem} {l : List Int} {C : tyC} {B : tyB} {T : tyT} {dp : Int} (hl : l.length < 580) (hn : nm T.1 T.2.1 0) : Go h0 1 (4 :: l) C B T dp l C B T dp := by
  refine go1 (by omega) (fun h1 M => ⟨h1, st_4 (.inr rfl) ?_, M⟩)
  have s1 : fX12_isSign 42 h1 = some 0 := by
    rw [sgn_e M 42 (by omega), if_neg (fun z => hn.1 rfl ⟨z.1, .inl z.2⟩)]
  have s2 : fX12_isSign 47 h1 = some 0 := by
    rw [sgn_e M 47 (by omega), if_neg (fun z => hn.1 rfl ⟨z.1, .inr z.2⟩)]
  unfold fX12_more
  simp only [s1, s2, bd_s, jn_e, w0t, if_true]
theorem g_4a {h0 : Mem} {l : List Int} {C : tyC} {B : tyB} {f dp : Int} (hl : l.length < 580) {b : Nat → Int} {S p q' f' : Nat} {k' v' : Int} (N : MN b S p k' v' f' q') (hS : h0 0 48 = (S : Int)) (hb : h0 35 = b) (hT : tb (k', v', (f' : Int), (q' : Int))) : Go h0 1 (4 :: l) C B (3, 42, f, (p : Int)) dp (5 :: 1004 :: 4 :: l) C B (k', v', (f' : Int), (q' : Int)) dp := by
  refine go1 (by omega) (fun h1 M => ?_)
  have s1 : fX12_isSign 42 h1 = some 1 := by rw [sgn_e M 42 (by omega), if_pos ⟨rfl, rfl⟩]
  obtain ⟨h2, e2, M2⟩ := m_next N hS hb hT M
  obtain ⟨h3, e3, M3⟩ := m_push 4 M2 (by omega)
  obtain ⟨h4, e4, M4⟩ := m_push 1004 M3 (by simp only [List.length_cons]; omega)
  obtain ⟨h5, e5, M5⟩ := m_push 5 M4 (by simp only [List.length_cons]; omega)
  refine ⟨h5, st_4 (.inr rfl) ?_, M5⟩
  have e4' : fX12_push (1000 + 4) h3 = some h4 := e4
  unfold fX12_more
  simp only [↓s1, ↓e2, ↓e3, ↓e4', ↓e5, ↓bd_s, ↓jn_e, ↓w1f, ↓if_false]
theorem g_4b {h0 : Mem} {l : List Int} {C : tyC} {B : tyB} {f dp : Int} (hl : l.length < 580) {b : Nat → Int} {S p q' f' : Nat} {k' v' : Int} (N : MN b S p k' v' f' q') (hS : h0 0 48 = (S : Int)) (hb : h0 35 = b) (hT : tb (k', v', (f' : Int), (q' : Int))) : Go h0 1 (4 :: l) C B (3, 47, f, (p : Int)) dp (5 :: 1005 :: 4 :: l) C B (k', v', (f' : Int), (q' : Int)) dp := by
  refine go1 (by omega) (fun h1 M => ?_)
  have s1 : fX12_isSign 42 h1 = some 0 := by rw [sgn_e M 42 (by omega), if_neg (fun z => absurd z.2 (show ¬ (47 : Int) = 42 by decide))]
  have s2 : fX12_isSign 47 h1 = some 1 := by rw [sgn_e M 47 (by omega), if_pos ⟨rfl, rfl⟩]
  obtain ⟨h2, e2, M2⟩ := m_next N hS hb hT M
  obtain ⟨h3, e3, M3⟩ := m_push 4 M2 (by omega)
  obtain ⟨h4, e4, M4⟩ := m_push 1005 M3 (by simp only [List.length_cons]; omega)
  obtain ⟨h5, e5, M5⟩ := m_push 5 M4 (by simp only [List.length_cons]; omega)
  refine ⟨h5, st_4 (.inr rfl) ?_, M5⟩
  have e4' : fX12_push (1000 + 5) h3 = some h4 := e4
  unfold fX12_more
  simp only [↓s1, ↓s2, ↓e2, ↓e3, ↓e4', ↓e5, ↓bd_s, ↓jn_e, ↓w1f, ↓w0t, ↓if_true, ↓if_false]
theorem g_7p {h0 : Mem} {l : List Int} {C : tyC} {B : tyB} {T : tyT} {dp : Int} (hl : l.length < 580) (hn : nm T.1 T.2.1 4) : Go h0 1 (7 :: l) C B T dp l C B T dp := by
  refine go1 (by omega) (fun h1 M => ⟨h1, st_7 (.inr rfl) ?_, M⟩)
  have s1 : fX12_isWord 9 h1 = some 0 := by
    rw [wrd_e M 9 (by omega), if_neg (fun z => hn.2.2.2.2 rfl z)]
  unfold fX12_moreWords
  simp only [s1, bd_s, w0t, if_true]
theorem g_7a {h0 : Mem} {l : List Int} {C : tyC} {B : tyB} {f dp : Int} (hl : l.length < 580) {b : Nat → Int} {S p q' f' : Nat} {k' v' : Int} (N : MN b S p k' v' f' q') (hS : h0 0 48 = (S : Int)) (hb : h0 35 = b) (hT : tb (k', v', (f' : Int), (q' : Int))) : Go h0 1 (7 :: l) C B (2, 9, f, (p : Int)) dp (8 :: 1010 :: 7 :: l) C B (k', v', (f' : Int), (q' : Int)) dp := by
  refine go1 (by omega) (fun h1 M => ?_)
  have s1 : fX12_isWord 9 h1 = some 1 := by rw [wrd_e M 9 (by omega), if_pos ⟨rfl, rfl⟩]
  obtain ⟨h2, e2, M2⟩ := m_next N hS hb hT M
  obtain ⟨h3, e3, M3⟩ := m_push 7 M2 (by omega)
  obtain ⟨h4, e4, M4⟩ := m_push 1010 M3 (by simp only [List.length_cons]; omega)
  obtain ⟨h5, e5, M5⟩ := m_push 8 M4 (by simp only [List.length_cons]; omega)
  refine ⟨h5, st_7 (.inr rfl) ?_, M5⟩
  have e4' : fX12_push (1000 + 10) h3 = some h4 := e4
  unfold fX12_moreWords
  simp only [↓s1, ↓e2, ↓e3, ↓e4', ↓e5, ↓bd_s, ↓w1f, ↓if_false]
theorem g_9p {h0 : Mem} {l : List Int} {C : tyC} {B : tyB} {T : tyT} {dp : Int} (hl : l.length < 580) (hn : nm T.1 T.2.1 3) : Go h0 1 (9 :: l) C B T dp l C B T dp := by
  refine go1 (by omega) (fun h1 M => ⟨h1, st_9 (.inr rfl) ?_, M⟩)
  have s1 : fX12_isWord 10 h1 = some 0 := by
    rw [wrd_e M 10 (by omega), if_neg (fun z => hn.2.2.2.1 rfl z)]
  unfold fX12_moreWords
  simp only [s1, bd_s, w0t, if_true]
theorem g_9a {h0 : Mem} {l : List Int} {C : tyC} {B : tyB} {f dp : Int} (hl : l.length < 580) {b : Nat → Int} {S p q' f' : Nat} {k' v' : Int} (N : MN b S p k' v' f' q') (hS : h0 0 48 = (S : Int)) (hb : h0 35 = b) (hT : tb (k', v', (f' : Int), (q' : Int))) : Go h0 1 (9 :: l) C B (2, 10, f, (p : Int)) dp (10 :: 1009 :: 9 :: l) C B (k', v', (f' : Int), (q' : Int)) dp := by
  refine go1 (by omega) (fun h1 M => ?_)
  have s1 : fX12_isWord 10 h1 = some 1 := by rw [wrd_e M 10 (by omega), if_pos ⟨rfl, rfl⟩]
  obtain ⟨h2, e2, M2⟩ := m_next N hS hb hT M
  obtain ⟨h3, e3, M3⟩ := m_push 9 M2 (by omega)
  obtain ⟨h4, e4, M4⟩ := m_push 1009 M3 (by simp only [List.length_cons]; omega)
  obtain ⟨h5, e5, M5⟩ := m_push 10 M4 (by simp only [List.length_cons]; omega)
  refine ⟨h5, st_9 (.inr rfl) ?_, M5⟩
  have e4' : fX12_push (1000 + 9) h3 = some h4 := e4
  unfold fX12_moreWords
  simp only [↓s1, ↓e2, ↓e3, ↓e4', ↓e5, ↓bd_s, ↓w1f, ↓if_false]
theorem g_pass {h0 : Mem} {l : List Int} {C : tyC} {B : tyB} {T : tyT} {dp : Int} (hl : l.length < 580) (j : Nat) (hj : j < 5) (hn : nm T.1 T.2.1 j) : Go h0 1 (fc j :: l) C B T dp l C B T dp := by
  rcases (by omega : j = 0 ∨ j = 1 ∨ j = 2 ∨ j = 3 ∨ j = 4) with rfl | rfl | rfl | rfl | rfl
  · exact g_4p hl hn
  · exact g_2p hl hn
  · exact absurd rfl (fun z => hn.2.2.1 z)
  · exact g_9p hl hn
  · exact g_7p hl hn
theorem g_11_60 {h0 : Mem} {l : List Int} {C : tyC} {B : tyB} {f dp : Int} (hl : l.length < 580) {b : Nat → Int} {S p q' f' : Nat} {k' v' : Int} (N : MN b S p k' v' f' q') (hS : h0 0 48 = (S : Int)) (hb : h0 35 = b) (hT : tb (k', v', (f' : Int), (q' : Int))) : Go h0 1 (11 :: l) C B (3, 60, f, (p : Int)) dp (1 :: 1006 :: l) C B (k', v', (f' : Int), (q' : Int)) dp := by
  refine go1 (by omega) (fun h1 M => ?_)
  have s1 : fX12_isSign 60 h1 = some 1 := by rw [sgn_e M 60 (by omega)]; rfl
  have s2 : fX12_isSign 62 h1 = some 0 := by rw [sgn_e M 62 (by omega)]; rfl
  have s3 : fX12_isSign 61 h1 = some 0 := by rw [sgn_e M 61 (by omega)]; rfl
  obtain ⟨h3, e3, M3⟩ := m_push 1006 M (by omega)
  obtain ⟨h4, e4, M4⟩ := m_push 1 M3 (by simp only [List.length_cons]; omega)
  obtain ⟨h5, e5, M5⟩ := m_next N hS hb hT M4
  refine ⟨h5, st_11 (.inr rfl) ?_, M5⟩
  have e3' : fX12_push (1000 + 6) h1 = some h3 := e3
  have e5' := tk_e e5
  have g1 : ∀ z : Option (Int × Mem), gc ((1 : Int) = 0 ∨ (1 : Int) = 1) z = z := fun z => gc_of (.inr rfl)
  unfold fX12_compares
  simp only [↓s1, ↓s2, ↓s3, ↓e3', ↓e4, ↓e5', ↓bd_s, ↓bd2_s, ↓jn_e, ↓w1f, ↓w0t, ↓if_false, ↓if_true, ↓g1]
theorem g_11_62 {h0 : Mem} {l : List Int} {C : tyC} {B : tyB} {f dp : Int} (hl : l.length < 580) {b : Nat → Int} {S p q' f' : Nat} {k' v' : Int} (N : MN b S p k' v' f' q') (hS : h0 0 48 = (S : Int)) (hb : h0 35 = b) (hT : tb (k', v', (f' : Int), (q' : Int))) : Go h0 1 (11 :: l) C B (3, 62, f, (p : Int)) dp (1 :: 1007 :: l) C B (k', v', (f' : Int), (q' : Int)) dp := by
  refine go1 (by omega) (fun h1 M => ?_)
  have s1 : fX12_isSign 60 h1 = some 0 := by rw [sgn_e M 60 (by omega)]; rfl
  have s2 : fX12_isSign 62 h1 = some 1 := by rw [sgn_e M 62 (by omega)]; rfl
  have s3 : fX12_isSign 61 h1 = some 0 := by rw [sgn_e M 61 (by omega)]; rfl
  obtain ⟨h3, e3, M3⟩ := m_push 1007 M (by omega)
  obtain ⟨h4, e4, M4⟩ := m_push 1 M3 (by simp only [List.length_cons]; omega)
  obtain ⟨h5, e5, M5⟩ := m_next N hS hb hT M4
  refine ⟨h5, st_11 (.inr rfl) ?_, M5⟩
  have e3' : fX12_push (1000 + 7) h1 = some h3 := e3
  have e5' := tk_e e5
  have g1 : ∀ z : Option (Int × Mem), gc ((1 : Int) = 0 ∨ (1 : Int) = 1) z = z := fun z => gc_of (.inr rfl)
  unfold fX12_compares
  simp only [↓s1, ↓s2, ↓s3, ↓e3', ↓e4, ↓e5', ↓bd_s, ↓bd2_s, ↓jn_e, ↓w1f, ↓w0t, ↓if_false, ↓if_true, ↓g1]
theorem g_11_61 {h0 : Mem} {l : List Int} {C : tyC} {B : tyB} {f dp : Int} (hl : l.length < 580) {b : Nat → Int} {S p q' f' : Nat} {k' v' : Int} (N : MN b S p k' v' f' q') (hS : h0 0 48 = (S : Int)) (hb : h0 35 = b) (hT : tb (k', v', (f' : Int), (q' : Int))) : Go h0 1 (11 :: l) C B (3, 61, f, (p : Int)) dp (1 :: 1008 :: l) C B (k', v', (f' : Int), (q' : Int)) dp := by
  refine go1 (by omega) (fun h1 M => ?_)
  have s1 : fX12_isSign 60 h1 = some 0 := by rw [sgn_e M 60 (by omega)]; rfl
  have s2 : fX12_isSign 62 h1 = some 0 := by rw [sgn_e M 62 (by omega)]; rfl
  have s3 : fX12_isSign 61 h1 = some 1 := by rw [sgn_e M 61 (by omega)]; rfl
  obtain ⟨h3, e3, M3⟩ := m_push 1008 M (by omega)
  obtain ⟨h4, e4, M4⟩ := m_push 1 M3 (by simp only [List.length_cons]; omega)
  obtain ⟨h5, e5, M5⟩ := m_next N hS hb hT M4
  refine ⟨h5, st_11 (.inr rfl) ?_, M5⟩
  have e3' : fX12_push (1000 + 8) h1 = some h3 := e3
  have e5' := tk_e e5
  have g1 : ∀ z : Option (Int × Mem), gc ((1 : Int) = 0 ∨ (1 : Int) = 1) z = z := fun z => gc_of (.inr rfl)
  unfold fX12_compares
  simp only [↓s1, ↓s2, ↓s3, ↓e3', ↓e4, ↓e5', ↓bd_s, ↓bd2_s, ↓jn_e, ↓w1f, ↓w0t, ↓if_false, ↓if_true, ↓g1]
theorem f_11 {h0 : Mem} {l : List Int} {C : tyC} {B : tyB} {T : tyT} {dp : Int} (hl : l.length < 580) (hn : ¬ (T.1 = 3 ∧ (T.2.1 = 60 ∨ T.2.1 = 61 ∨ T.2.1 = 62))) : Fa h0 1 (11 :: l) C B T dp := by
  refine fa1 (by omega) (fun h1 M => st_11 (.inl rfl) ?_)
  have s1 : fX12_isSign 60 h1 = some 0 := by rw [sgn_e M 60 (by omega), if_neg (fun z => hn ⟨z.1, .inl z.2⟩)]
  have s2 : fX12_isSign 62 h1 = some 0 := by rw [sgn_e M 62 (by omega), if_neg (fun z => hn ⟨z.1, .inr (.inr z.2)⟩)]
  have s3 : fX12_isSign 61 h1 = some 0 := by rw [sgn_e M 61 (by omega), if_neg (fun z => hn ⟨z.1, .inr (.inl z.2)⟩)]
  unfold fX12_compares
  simp only [↓s1, ↓s2, ↓s3, ↓bd_s, ↓jn_e, ↓w0t, ↓if_true]
theorem g_141 {h0 : Mem} {l : List Int} {C : tyC} {B : tyB} {f dp : Int} (hl : l.length < 580) {b : Nat → Int} {S p q' f' : Nat} {k' v' : Int} (N : MN b S p k' v' f' q') (hS : h0 0 48 = (S : Int)) (hb : h0 35 = b) (hT : tb (k', v', (f' : Int), (q' : Int))) : Go h0 1 (141 :: l) C B (3, 41, f, (p : Int)) dp l C B (k', v', (f' : Int), (q' : Int)) dp := by
  refine go1 (by omega) (fun h1 M => ?_)
  obtain ⟨h5, e5, M5⟩ := m_next N hS hb hT M
  exact ⟨h5, st_141 (by rw [sgn_e M 41 (by omega)]; rfl) e5, M5⟩
theorem f_141 {h0 : Mem} {l : List Int} {C : tyC} {B : tyB} {T : tyT} {dp : Int} (hl : l.length < 580) (hn : ¬ (T.1 = 3 ∧ T.2.1 = 41)) : Fa h0 1 (141 :: l) C B T dp :=
  fa1 (by omega) (fun h1 M => st_141f (by rw [sgn_e M 41 (by omega), if_neg hn]))
theorem g_193 {h0 : Mem} {l : List Int} {C : tyC} {B : tyB} {f dp : Int} (hl : l.length < 580) {b : Nat → Int} {S p q' f' : Nat} {k' v' : Int} (N : MN b S p k' v' f' q') (hS : h0 0 48 = (S : Int)) (hb : h0 35 = b) (hT : tb (k', v', (f' : Int), (q' : Int))) : Go h0 1 (193 :: l) C B (3, 93, f, (p : Int)) dp l C B (k', v', (f' : Int), (q' : Int)) dp := by
  refine go1 (by omega) (fun h1 M => ?_)
  obtain ⟨h5, e5, M5⟩ := m_next N hS hb hT M
  exact ⟨h5, st_193 (by rw [sgn_e M 93 (by omega)]; rfl) e5, M5⟩
theorem f_193 {h0 : Mem} {l : List Int} {C : tyC} {B : tyB} {T : tyT} {dp : Int} (hl : l.length < 580) (hn : ¬ (T.1 = 3 ∧ T.2.1 = 93)) : Fa h0 1 (193 :: l) C B T dp :=
  fa1 (by omega) (fun h1 M => st_193f (by rw [sgn_e M 93 (by omega), if_neg hn]))
theorem g_159 {h0 : Mem} {l : List Int} {C : tyC} {B : tyB} {f dp : Int} (hl : l.length < 580) {b : Nat → Int} {S p q' f' : Nat} {k' v' : Int} (N : MN b S p k' v' f' q') (hS : h0 0 48 = (S : Int)) (hb : h0 35 = b) (hT : tb (k', v', (f' : Int), (q' : Int))) : Go h0 1 (159 :: l) C B (3, 59, f, (p : Int)) dp l C B (k', v', (f' : Int), (q' : Int)) dp := by
  refine go1 (by omega) (fun h1 M => ?_)
  obtain ⟨h5, e5, M5⟩ := m_next N hS hb hT M
  exact ⟨h5, st_159 (by rw [sgn_e M 59 (by omega)]; rfl) e5, M5⟩
theorem f_159 {h0 : Mem} {l : List Int} {C : tyC} {B : tyB} {T : tyT} {dp : Int} (hl : l.length < 580) (hn : ¬ (T.1 = 3 ∧ T.2.1 = 59)) : Fa h0 1 (159 :: l) C B T dp :=
  fa1 (by omega) (fun h1 M => st_159f (by rw [sgn_e M 59 (by omega), if_neg hn]))
theorem g_5n {h0 : Mem} {l : List Int} {C : tyC} {B : tyB} {f dp : Int} (hl : l.length < 580) {b : Nat → Int} {S p q' f' : Nat} {k' v' : Int} (N : MN b S p k' v' f' q') (hS : h0 0 48 = (S : Int)) (hb : h0 35 = b) (hT : tb (k', v', (f' : Int), (q' : Int))) {v : Int} (hv : 0 ≤ v ∧ v ≤ 9999) (hn : C.1 < 300) : Go h0 1 (5 :: l) C B (1, v, f, (p : Int)) dp l (em C 0 v) B (k', v', (f' : Int), (q' : Int)) dp := by
  refine go1 (by omega) (fun h1 M => ?_)
  obtain ⟨h4, e4, M4⟩ := m_emits 0 v M hn
  obtain ⟨h5, e5, M5⟩ := m_next N hS hb hT M4
  refine ⟨h5, st_5 (.inr rfl) ?_, M5⟩
  have d1 : h1 0 50 = 1 := M.2.2.2.1.1
  have d2 : h1 0 52 = v := M.2.2.2.1.2.1
  have e5' := tk_e e5
  have g1 : ∀ z : Option (Int × Mem), gc ((1 : Int) = 0 ∨ (1 : Int) = 1) z = z := fun z => gc_of (.inr rfl)
  unfold fX12_factor
  rw [d1, d2, if_pos (by decide), if_pos (by rw [wr_id (by omega) (by omega)]; omega), e4, bd_s, e5', bd2_s, g1]
theorem g_5w {h0 : Mem} {l : List Int} {C : tyC} {B : tyB} {f dp : Int} (hl : l.length < 580) {b : Nat → Int} {S p q' f' : Nat} {k' v' : Int} (N : MN b S p k' v' f' q') (hS : h0 0 48 = (S : Int)) (hb : h0 35 = b) (hT : tb (k', v', (f' : Int), (q' : Int))) {v : Int} (hv : 2 ≤ v ∧ v ≤ 8) (hn : C.1 < 300) : Go h0 1 (5 :: l) C B (2, v, f, (p : Int)) dp l (em C 1 (v - 2)) B (k', v', (f' : Int), (q' : Int)) dp := by
  refine go1 (by omega) (fun h1 M => ?_)
  obtain ⟨h4, e4, M4⟩ := m_emits 1 (v - 2) M hn
  obtain ⟨h5, e5, M5⟩ := m_next N hS hb hT M4
  refine ⟨h5, st_5 (.inr rfl) ?_, M5⟩
  have d1 : h1 0 50 = 2 := M.2.2.2.1.1
  have d2 : h1 0 52 = v := M.2.2.2.1.2.1
  have e5' := tk_e e5
  have g1 : ∀ z : Option (Int × Mem), gc ((1 : Int) = 0 ∨ (1 : Int) = 1) z = z := fun z => gc_of (.inr rfl)
  have w : fX12_in v 2 8 = some 1 := by rw [in_e (by omega) (by omega) (by omega), if_pos hv]
  unfold fX12_factor
  rw [d1, d2, if_neg (by decide), jn_e, if_pos (by decide), w, bd_s, if_neg (by decide), e4, bd_s, e5', bd2_s, g1]
theorem m_deep {h0 h : Mem} {l : List Int} {C : tyC} {B : tyB} {T : tyT} {dp : Int} (M : MS h0 h l C B T dp) (hl : l.length < 600) (hd : dp < 8) : ∃ h2, fX12_deeper h = some (1, h2) ∧ MS h0 h2 (12 :: l) C B T (dp + 1) := by
  obtain ⟨a, b, c, d, ⟨e1, e2, e3⟩, f⟩ := M
  have M1 : MS h0 (up h 0 55 (dp + 1)) l C B T (dp + 1) := ⟨a, b, c, d, ⟨rfl, by omega, by omega⟩, FM_0 (by omega) f⟩
  obtain ⟨h2, p2, M2⟩ := m_push 12 M1 hl
  refine ⟨h2, ?_, M2⟩
  unfold fX12_deeper
  rw [e1, if_neg (by rw [wr_id (by omega) (by omega)]; omega), bnd_e, p2, bd_s]
theorem m_deepf {h0 h : Mem} {l : List Int} {C : tyC} {B : tyB} {T : tyT} (M : MS h0 h l C B T 8) : fX12_deeper h = some (0, h) := by
  have e1 : h 0 55 = 8 := M.2.2.2.2.1.1
  unfold fX12_deeper
  rw [e1, if_pos (by decide)]
theorem g_5o {h0 : Mem} {l : List Int} {C : tyC} {B : tyB} {f dp : Int} (hl : l.length < 580) {b : Nat → Int} {S p q' f' : Nat} {k' v' : Int} (N : MN b S p k' v' f' q') (hS : h0 0 48 = (S : Int)) (hb : h0 35 = b) (hT : tb (k', v', (f' : Int), (q' : Int))) (hd : dp < 8) : Go h0 1 (5 :: l) C B (3, 40, f, (p : Int)) dp (1 :: 141 :: 12 :: l) C B (k', v', (f' : Int), (q' : Int)) (dp + 1) := by
  refine go1 (by omega) (fun h1 M => ?_)
  obtain ⟨h2, e2, M2⟩ := m_deep M (by omega) hd
  obtain ⟨h3, e3, M3⟩ := m_push 141 M2 (by simp only [List.length_cons]; omega)
  obtain ⟨h4, e4, M4⟩ := m_push 1 M3 (by simp only [List.length_cons]; omega)
  obtain ⟨h5, e5, M5⟩ := m_next N hS hb hT M4
  refine ⟨h5, st_5 (.inr rfl) ?_, M5⟩
  have d1 : h1 0 50 = 3 := M.2.2.2.1.1
  have s1 : fX12_isSign 40 h1 = some 1 := by rw [sgn_e M 40 (by omega)]; rfl
  have e5' := tk_e e5
  have g1 : ∀ z : Option (Int × Mem), gc ((1 : Int) = 0 ∨ (1 : Int) = 1) z = z := fun z => gc_of (.inr rfl)
  unfold fX12_factor
  rw [d1, if_neg (by decide), jn_e, if_neg (by decide)]
  simp only [↓s1, ↓e2, ↓e3, ↓e4, ↓e5', ↓bd_s, ↓bd2_s, ↓w1f, ↓if_false, ↓g1]
theorem f_5 {h0 : Mem} {l : List Int} {C : tyC} {B : tyB} {T : tyT} {dp : Int} (hl : l.length < 580) (h1 : ¬ (T.1 = 1 ∧ T.2.1 ≤ 9999)) (h2 : ¬ (T.1 = 2 ∧ 2 ≤ T.2.1 ∧ T.2.1 ≤ 8)) (h3 : ¬ (T.1 = 3 ∧ T.2.1 = 40 ∧ dp < 8)) : Fa h0 1 (5 :: l) C B T dp := by
  refine fa1 (by omega) (fun g M => st_5 (.inl rfl) ?_)
  have d1 : g 0 50 = T.1 := M.2.2.2.1.1
  have d2 : g 0 52 = T.2.1 := M.2.2.2.1.2.1
  have t5 := M.2.2.2.1.2.2.2.2
  have dd := M.2.2.2.2.1.2
  unfold tb at t5
  have last : (bd (fX12_isSign 40 g) fun r_2 =>
      if wr r_2 = 0 then (
        some ((0 : Int), g)
      ) else (
        bd2 (fX12_deeper g) fun r_5 g_7 =>
        if wr r_5 = 0 then (
          some (0, g_7)
        ) else (
          bd (fX12_push 141 g_7) fun g_11 =>
          bd (fX12_push 1 g_11) fun g_14 =>
          bd2 (fX12_takes g_14) fun r_15 g_17 =>
          gc (r_15 = 0 ∨ r_15 = 1) <|
          some (r_15, g_17)
        )
      )) = some (0, g) := by
    by_cases c : T.1 = 3 ∧ T.2.1 = 40
    · have e8 : dp = 8 := by omega
      subst e8
      rw [sgn_e M 40 (by omega), if_pos c, bd_s, if_neg (by decide), m_deepf M, bd2_s, if_pos (by decide)]
    · rw [sgn_e M 40 (by omega), if_neg c, bd_s, if_pos (by decide)]
  unfold fX12_factor
  rw [d1, d2, wr_id (by omega) (by omega), wr_id (by omega) (by omega)]
  by_cases c1 : T.1 = 1
  · rw [if_pos c1, if_neg (fun z => h1 ⟨c1, z⟩)]
  · rw [if_neg c1, jn_e]
    by_cases c2 : T.1 = 2
    · rw [if_pos c2, in_e (by omega) (by omega) (by omega), if_neg (fun z => h2 ⟨c2, z⟩), bd_s, if_pos (by decide)]
      exact last
    · rw [if_neg c2]
      exact last
theorem g_10n {h0 : Mem} {l : List Int} {C : tyC} {B : tyB} {f dp : Int} (hl : l.length < 580) {b : Nat → Int} {S p q' f' : Nat} {k' v' : Int} (N : MN b S p k' v' f' q') (hS : h0 0 48 = (S : Int)) (hb : h0 35 = b) (hT : tb (k', v', (f' : Int), (q' : Int))) (hd : dp < 8) : Go h0 1 (10 :: l) C B (2, 11, f, (p : Int)) dp (10 :: 1011 :: 12 :: l) C B (k', v', (f' : Int), (q' : Int)) (dp + 1) := by
  refine go1 (by omega) (fun h1 M => ?_)
  obtain ⟨h2, e2, M2⟩ := m_deep M (by omega) hd
  obtain ⟨h3, e3, M3⟩ := m_push 1011 M2 (by simp only [List.length_cons]; omega)
  obtain ⟨h4, e4, M4⟩ := m_push 10 M3 (by simp only [List.length_cons]; omega)
  obtain ⟨h5, e5, M5⟩ := m_next N hS hb hT M4
  refine ⟨h5, st_10 (.inr rfl) ?_, M5⟩
  have s1 : fX12_isWord 11 h1 = some 1 := by rw [wrd_e M 11 (by omega)]; rfl
  have e5' := tk_e e5
  have g1 : ∀ z : Option (Int × Mem), gc ((1 : Int) = 0 ∨ (1 : Int) = 1) z = z := fun z => gc_of (.inr rfl)
  unfold fX12_holdsOne
  simp only [↓s1, ↓e2, ↓e3, ↓e4, ↓e5', ↓bd_s, ↓bd2_s, ↓jn_e, ↓w1f, ↓if_false, ↓g1]
theorem g_10o {h0 : Mem} {l : List Int} {C : tyC} {B : tyB} {f dp : Int} (hl : l.length < 580) {b : Nat → Int} {S p q' f' : Nat} {k' v' : Int} (N : MN b S p k' v' f' q') (hS : h0 0 48 = (S : Int)) (hb : h0 35 = b) (hT : tb (k', v', (f' : Int), (q' : Int))) (hd : dp < 8) : Go h0 1 (10 :: l) C B (3, 91, f, (p : Int)) dp (6 :: 193 :: 12 :: l) C B (k', v', (f' : Int), (q' : Int)) (dp + 1) := by
  refine go1 (by omega) (fun h1 M => ?_)
  obtain ⟨h2, e2, M2⟩ := m_deep M (by omega) hd
  obtain ⟨h3, e3, M3⟩ := m_push 193 M2 (by simp only [List.length_cons]; omega)
  obtain ⟨h4, e4, M4⟩ := m_push 6 M3 (by simp only [List.length_cons]; omega)
  obtain ⟨h5, e5, M5⟩ := m_next N hS hb hT M4
  refine ⟨h5, st_10 (.inr rfl) ?_, M5⟩
  have s1 : fX12_isWord 11 h1 = some 0 := by rw [wrd_e M 11 (by omega)]; rfl
  have s2 : fX12_isSign 91 h1 = some 1 := by rw [sgn_e M 91 (by omega)]; rfl
  have e5' := tk_e e5
  have g1 : ∀ z : Option (Int × Mem), gc ((1 : Int) = 0 ∨ (1 : Int) = 1) z = z := fun z => gc_of (.inr rfl)
  unfold fX12_holdsOne
  simp only [↓s1, ↓s2, ↓e2, ↓e3, ↓e4, ↓e5', ↓bd_s, ↓bd2_s, ↓jn_e, ↓w1f, ↓w0t, ↓if_true, ↓if_false, ↓g1]
theorem g_10e {h0 : Mem} {l : List Int} {C : tyC} {B : tyB} {T : tyT} {dp : Int} (hl : l.length < 580) (h1 : ¬ (T.1 = 2 ∧ T.2.1 = 11)) (h2 : ¬ (T.1 = 3 ∧ T.2.1 = 91)) : Go h0 1 (10 :: l) C B T dp (1 :: 11 :: l) C B T dp := by
  refine go1 (by omega) (fun g M => ?_)
  obtain ⟨h3, e3, M3⟩ := m_push 11 M (by omega)
  obtain ⟨h4, e4, M4⟩ := m_push 1 M3 (by simp only [List.length_cons]; omega)
  refine ⟨h4, st_10 (.inr rfl) ?_, M4⟩
  have s1 : fX12_isWord 11 g = some 0 := by rw [wrd_e M 11 (by omega), if_neg h1]
  have s2 : fX12_isSign 91 g = some 0 := by rw [sgn_e M 91 (by omega), if_neg h2]
  have e5 : fX12_both 11 1 g = some (1, h4) := by unfold fX12_both; rw [e3, bd_s, e4, bd_s]
  have g1 : ∀ z : Option (Int × Mem), gc ((1 : Int) = 0 ∨ (1 : Int) = 1) z = z := fun z => gc_of (.inr rfl)
  unfold fX12_holdsOne
  simp only [↓s1, ↓s2, ↓e5, ↓bd_s, ↓bd2_s, ↓jn_e, ↓w0t, ↓if_true, ↓g1]
theorem f_10 {h0 : Mem} {l : List Int} {C : tyC} {B : tyB} {T : tyT} (hl : l.length < 580) (h1 : (T.1 = 2 ∧ T.2.1 = 11) ∨ (T.1 = 3 ∧ T.2.1 = 91)) : Fa h0 1 (10 :: l) C B T 8 := by
  refine fa1 (by omega) (fun g M => st_10 (.inl rfl) ?_)
  have e2 := m_deepf M
  unfold fX12_holdsOne
  by_cases c : T.1 = 2 ∧ T.2.1 = 11
  · have s1 : fX12_isWord 11 g = some 1 := by rw [wrd_e M 11 (by omega), if_pos c]
    simp only [↓s1, ↓e2, ↓bd_s, ↓bd2_s, ↓jn_e, ↓w1f, ↓w0t, ↓if_true, ↓if_false]
  · have s1 : fX12_isWord 11 g = some 0 := by rw [wrd_e M 11 (by omega), if_neg c]
    have s2 : fX12_isSign 91 g = some 1 := by rw [sgn_e M 91 (by omega), if_pos (h1.resolve_left c)]
    simp only [↓s1, ↓s2, ↓e2, ↓bd_s, ↓bd2_s, ↓jn_e, ↓w1f, ↓w0t, ↓if_true, ↓if_false]
theorem g_13 {h0 : Mem} {l : List Int} {C : tyC} {bg cl : Nat → Int} {c : Nat} {T : tyT} {dp : Int} (hl : l.length < 580) (hc : c < 2) : Go h0 1 (13 :: l) C (bg, cl, (c : Int)) T dp l C (bg, ups cl c (C.1 : Int), (c : Int)) T dp := by
  refine go1 (by omega) (fun h1 M => ?_)
  obtain ⟨a, b, ⟨c1, c2, c3⟩, d, e, f⟩ := M
  have c3' : h1 0 56 = (c : Int) := c3
  refine ⟨up h1 40 c (C.1 : Int), ?_, a, b, ⟨c1, ?_, c3⟩, d, e, FM_r (by omega) f⟩
  · rw [st_13, c3', b.1]
    simp (disch := omega) only [if_true, if_false, if_pos, if_neg, wr_0, wr_id, gd_i, bnd_e, bd_s, bd2_s, jn_e, Int.toNat_natCast]
  · show _ = ups cl c (C.1 : Int)
    rw [← (show h1 40 = cl from c2)]; funext j; simp [up, ups]
theorem g_0 {h0 : Mem} {C : tyC} {bg cl : Nat → Int} {c : Nat} {cs f dp : Int} (hc : c < 2) (hbg : bg c = -1) {b : Nat → Int} {S p q' f' : Nat} {k' v' : Int} (N : MN b S p k' v' f' q') (hS : h0 0 48 = (S : Int)) (hb : h0 35 = b) (hT : tb (k', v', (f' : Int), (q' : Int))) : Go h0 1 [0] C (bg, cl, cs) (2, (c : Int), f, (p : Int)) dp [6, 159, 13, 0] C (ups bg c (C.1 : Int), cl, (c : Int)) (k', v', (f' : Int), (q' : Int)) dp := by
  refine go1 (by simp) (fun h1 M => ?_)
  have M' := M
  obtain ⟨a, b, ⟨c1, c2, c3⟩, d, e, ff⟩ := M
  have M1 : MS h0 (up (up h1 0 56 (c : Int)) 39 c (C.1 : Int)) [] C (ups bg c (C.1 : Int), cl, (c : Int)) (2, (c : Int), f, (p : Int)) dp := by
    refine ⟨a, b, ⟨?_, c2, rfl⟩, d, e, FM_r (by omega) (FM_0 (by omega) ff)⟩
    show _ = ups bg c (C.1 : Int)
    rw [← (show h1 39 = bg from c1)]; funext j; simp [up, ups]
  obtain ⟨h2, e2, M2⟩ := m_push 0 M1 (by simp)
  obtain ⟨h3, e3, M3⟩ := m_push 13 M2 (by simp)
  obtain ⟨h4, e4, M4⟩ := m_push 159 M3 (by simp)
  obtain ⟨h5, e5, M5⟩ := m_push 6 M4 (by simp)
  obtain ⟨h6, e6, M6⟩ := m_next N hS hb hT M5
  refine ⟨h6, st_0 (.inr rfl) ?_, M6⟩
  have d1 : h1 0 50 = 2 := d.1
  have d2 : h1 0 52 = (c : Int) := d.2.1
  have e6' := tk_e e6
  have g1 : ∀ z : Option (Int × Mem), gc ((1 : Int) = 0 ∨ (1 : Int) = 1) z = z := fun z => gc_of (.inr rfl)
  have w : fX12_in (c : Int) 0 1 = some 1 := by rw [in_e (by omega) (by omega) (by omega), if_pos (by omega)]
  have u1 : up h1 0 56 (c : Int) 0 56 = (c : Int) := rfl
  have u2 : up h1 0 56 (c : Int) 0 59 = (C.1 : Int) := b.1
  have u3 : h1 39 c = -1 := by rw [show h1 39 = bg from c1, hbg]
  have gi : ∀ z : Option (Int × Mem), gd (c : Int) 2 z = z := fun z => gd_i (by omega) (by omega) (by omega)
  have wc : wr (c : Int) = (c : Int) := wr_id (by omega) (by omega)
  unfold fX12_clauses
  rw [d1, d2, if_neg (by decide), if_pos (by decide), w, bd_s, if_neg (by decide), gi, wc, Int.toNat_natCast, u3, if_pos (by decide), bnd_e, u1, gi, wc, Int.toNat_natCast, u2, bnd_e, e2, bd_s, e3, bd_s, e4, bd_s, e5, bd_s, e6', bd2_s, g1]
theorem f_0 {h0 : Mem} {C : tyC} {B : tyB} {T : tyT} {dp : Int} (h1 : T.1 ≠ 0) (h2 : ¬ (T.1 = 2 ∧ (T.2.1 = 0 ∨ T.2.1 = 1) ∧ B.1 T.2.1.toNat = -1)) (hB : ∀ c, c < 2 → -1 ≤ B.1 c ∧ B.1 c ≤ 300) : Fa h0 1 [0] C B T dp := by
  refine fa1 (by simp) (fun g M => st_0 (.inl rfl) ?_)
  obtain ⟨a, b, ⟨c1, c2, c3⟩, ⟨d1, d2, d3, d4, d5, d6⟩, e, ff⟩ := M
  unfold fX12_clauses
  rw [d1, d2, wr_id (by omega) (by omega), if_neg h1]
  by_cases c : T.1 = 2
  · rw [if_pos c, in_e (by omega) (by omega) (by omega)]
    by_cases c4 : 0 ≤ T.2.1 ∧ T.2.1 ≤ 1
    · have hb := hB T.2.1.toNat (by omega)
      have nb : ¬ B.1 T.2.1.toNat = -1 := fun z => h2 ⟨c, by omega, z⟩
      rw [if_pos c4, bd_s, if_neg (by decide), gd_i (by omega) (by omega) (by omega), c1, wr_id (z := T.2.1) (by omega) (by omega), wr_id (by omega) (by omega), if_neg nb]
    · rw [if_neg c4, bd_s, if_pos (by decide)]
  · rw [if_neg c]
theorem end_0 {h0 h : Mem} {C : tyC} {B : tyB} {v f q dp : Int} (M : MS h0 h [0] C B (0, v, f, q) dp) : ∃ h2, FM h0 h2 ∧ MS h0 h2 [] C B (0, v, f, q) dp ∧ ∀ (n : Nat) (Kc : Mem → Option (Int × Mem)), fX12_reads_L49 (n + 2) h Kc = some (-1, h2) := by
  obtain ⟨h1, M1, r1⟩ := m_pop M (by simp)
  refine ⟨h1, M1.2.2.2.2.2, M1, fun n Kc => ?_⟩
  have d1 : h1 0 50 = 0 := M1.2.2.2.1.1
  have a1 : h1 0 54 = 0 := M1.1.1
  have e : fX12_steps 0 h1 = some (1, h1) := st_0 (.inr rfl) (by unfold fX12_clauses; rw [d1, if_pos (by decide)])
  rw [show n + 2 = (n + 1) + 1 from rfl, r1, e, bd2_s, if_neg (by decide), fX12_reads_L49, a1, if_pos (by decide)]
