/-! TOKENS: the reference's words -/
def wo : List Nat := [1, 6, 10, 16, 22, 27, 32, 36, 40, 46, 49, 53, 57]
def wk : List Nat := [0, 1, 5, 6, 7, 8, 9, 10, 11, 2, 3, 4]
theorem w_tab (q : Nat) (hq : q < 12) : (wk.getD q 0 < 12) ∧ (((wo.getD q 0 : Nat) : Int) + strLen (wk.getD q 0) + 1 = ((wo.getD (q + 1) 0 : Nat) : Int)) ∧ (((wo.getD (q + 1) 0 : Nat) : Int) ≤ strLen 12) ∧ strLen 12 = 57 ∧ strAt 12 (wo.getD q 0 + (strLen (wk.getD q 0)).toNat) = 32 ∧ ∀ i : Nat, (i : Int) < strLen (wk.getD q 0) → strAt 12 (wo.getD q 0 + i) = strAt (wk.getD q 0) i := by
  have h1 : ∀ q : Fin 12, (wk.getD q.val 0 < 12) ∧ (((wo.getD q.val 0 : Nat) : Int) + strLen (wk.getD q.val 0) + 1 = ((wo.getD (q.val + 1) 0 : Nat) : Int)) ∧ (((wo.getD (q.val + 1) 0 : Nat) : Int) ≤ strLen 12) ∧ strLen 12 = 57 ∧ strAt 12 (wo.getD q.val 0 + (strLen (wk.getD q.val 0)).toNat) = 32 := by decide
  have h2 : ∀ q : Fin 12, ∀ i : Fin 5, ((i.val : Nat) : Int) < strLen (wk.getD q.val 0) → strAt 12 (wo.getD q.val 0 + i.val) = strAt (wk.getD q.val 0) i.val := by decide
  obtain ⟨a, b, c, d, e⟩ := h1 ⟨q, hq⟩
  refine ⟨a, b, c, d, e, fun i hi => h2 ⟨q, hq⟩ ⟨i, ?_⟩ hi⟩
  have t5 : strLen (wk.getD q 0) ≤ 5 := (str_rng _ a).1.2
  have hi' : (i : Int) < strLen (wk.getD q 0) := hi
  omega
theorem w19_e {k o : Nat} {len : Int} (hlen : 2 ≤ len ∧ len ≤ 5) (ho : (o : Int) + len < 57) (h57 : strLen 12 = 57) (h32 : strAt 12 (o + len.toNat) = 32) (hl : ∀ i : Nat, (i : Int) < len → 97 ≤ strAt 12 (o + i) ∧ strAt 12 (o + i) ≤ 122) (y1 y2 y3 : Int) (h : Mem) (K : Int → Int → Int → Int → Int → Option Int) : ∀ (r N i : Nat), (i : Int) + r = len → r < N → fX12_wordAt_L19 N y1 y2 y3 o i h K = K y1 y2 y3 o len := by
  intro r
  induction r with
  | zero =>
    intro N i hi hN
    obtain ⟨N, rfl⟩ : ∃ x, N = x + 1 := ⟨N - 1, by omega⟩
    have e1 : (o : Int) + (i : Int) = ((o + i : Nat) : Int) := by omega
    have e2 : o + i = o + len.toNat := by omega
    have e3 : (i : Int) = len := by omega
    have eg : ∀ k' : Option Int, gc (0 ≤ ((o + i : Nat) : Int) ∧ ((o + i : Nat) : Int) < strLen 12) k' = k' := fun k' => gc_of (by omega)
    have es : strAt 12 (o + i) = 32 := by rw [e2]; exact h32
    rw [fX12_wordAt_L19]
    simp (disch := omega) only [if_true, if_false, if_pos, if_neg, wr_0, wr_id, gd_i, bnd_e, bd_s, bd2_s, jn_e, Int.toNat_natCast, e1, eg, es]
    rw [e3]
  | succ r ih =>
    intro N i hi hN
    obtain ⟨N, rfl⟩ : ∃ x, N = x + 1 := ⟨N - 1, by omega⟩
    have e1 : (o : Int) + (i : Int) = ((o + i : Nat) : Int) := by omega
    have eg : ∀ k' : Option Int, gc (0 ≤ ((o + i : Nat) : Int) ∧ ((o + i : Nat) : Int) < strLen 12) k' = k' := fun k' => gc_of (by omega)
    have es := hl i (by omega)
    rw [fX12_wordAt_L19]
    simp (disch := omega) only [if_true, if_false, if_pos, if_neg, wr_0, wr_id, gd_i, bnd_e, bd_s, bd2_s, jn_e, Int.toNat_natCast, e1, eg, ncs]
    exact ih N (i + 1) (by omega) (by omega)
theorem w59_e {b : Nat → Int} {h : Mem} (h35 : h 35 = b) (hb : ∀ j, -128 ≤ b j ∧ b j ≤ 127) {f o : Nat} {len : Int} (hlen : 2 ≤ len ∧ len ≤ 5) (hf : (f : Int) + len ≤ 300) (ho : (o : Int) + len < 57) (h57 : strLen 12 = 57) (hl : ∀ i : Nat, (i : Int) < len → 97 ≤ strAt 12 (o + i) ∧ strAt 12 (o + i) ≤ 122) (y2 y3 : Int) (K : Int → Int → Int → Int → Int → Int → Option Int) : ∀ (r N i : Nat), (i : Int) + r = len → r < N → ((∀ j : Nat, i ≤ j → (j : Int) < len → b (f + j) = strAt 12 (o + j)) → fX12_wordAt_L59 N f y2 y3 o len 1 i h K = K f y2 y3 o len 1) ∧ (¬ (∀ j : Nat, i ≤ j → (j : Int) < len → b (f + j) = strAt 12 (o + j)) → fX12_wordAt_L59 N f y2 y3 o len 1 i h K = K f y2 y3 o len 0) := by
  intro r
  induction r with
  | zero =>
    intro N i hi hN
    obtain ⟨N, rfl⟩ : ∃ x, N = x + 1 := ⟨N - 1, by omega⟩
    rw [fX12_wordAt_L59]
    refine ⟨fun _ => ?_, fun z => absurd (fun j h1 h2 => by omega) z⟩
    simp (disch := omega) only [if_true, if_false, if_pos, if_neg, wr_0, wr_id, gd_i, bnd_e, bd_s, bd2_s, jn_e, Int.toNat_natCast]
  | succ r ih =>
    intro N i hi hN
    obtain ⟨N, rfl⟩ : ∃ x, N = x + 1 := ⟨N - 1, by omega⟩
    have e1 : (o : Int) + (i : Int) = ((o + i : Nat) : Int) := by omega
    have e2 : (f : Int) + (i : Int) = ((f + i : Nat) : Int) := by omega
    have eg : ∀ k' : Option Int, gc (0 ≤ ((o + i : Nat) : Int) ∧ ((o + i : Nat) : Int) < strLen 12) k' = k' := fun k' => gc_of (by omega)
    have es := hl i (by omega)
    have hbi := hb (f + i)
    have nx := ih N (i + 1) (by omega) (by omega)
    by_cases c : b (f + i) = strAt 12 (o + i)
    · have st : fX12_wordAt_L59 (N + 1) f y2 y3 o len 1 i h K = fX12_wordAt_L59 N f y2 y3 o len 1 ((i + 1 : Nat) : Int) h K := by
        rw [fX12_wordAt_L59, h35]
        simp (disch := omega) only [if_true, if_false, if_pos, if_neg, wr_0, wr_id, gd_i, bnd_e, bd_s, bd2_s, jn_e, Int.toNat_natCast, e1, e2, eg, c, ncs]
      rw [st]
      refine ⟨fun z => nx.1 (fun j h1 h2 => z j (by omega) h2), fun z => nx.2 (fun y => z (fun j h1 h2 => ?_))⟩
      by_cases d : j = i
      · rw [d]; exact c
      · exact y j (by omega) h2
    · refine ⟨fun z => absurd (z i (by omega) (by omega)) c, fun _ => ?_⟩
      have c2 : ¬ strAt 12 (o + i) = b (f + i) := fun z => c z.symm
      have st : fX12_wordAt_L59 (N + 1) f y2 y3 o len 1 i h K = fX12_wordAt_L59 N f y2 y3 o len 0 ((i + 1 : Nat) : Int) h K := by
        rw [fX12_wordAt_L59, h35]
        simp (disch := omega) only [if_true, if_false, if_pos, if_neg, wr_0, wr_id, gd_i, bnd_e, bd_s, bd2_s, jn_e, Int.toNat_natCast, e1, e2, eg, if_neg c2, ncs]
      rw [st]
      obtain ⟨N, rfl⟩ : ∃ x, N = x + 1 := ⟨N - 1, by omega⟩
      rw [fX12_wordAt_L59]
      by_cases d : len ≤ ((i + 1 : Nat) : Int)
      · simp (disch := omega) only [if_true, if_false, if_pos, if_neg, wr_0, wr_id, gd_i, bnd_e, bd_s, bd2_s, jn_e, Int.toNat_natCast]
      · simp (disch := omega) only [if_true, if_false, if_pos, if_neg, wr_0, wr_id, gd_i, bnd_e, bd_s, bd2_s, jn_e, Int.toNat_natCast]
