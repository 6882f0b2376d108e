/-! TOKENS: the reference's words -/
def wo : List Nat := [1, 6, 10, 16, 22, 27, 32, 36, 40, 46, 49, 53, 57]
def wk : List Nat := [0, 1, 5, 6, 7, 8, 9, 10, 11, 2, 3, 4]
theorem w_tab (q : Nat) (hq : q < 12) : (wk.getD q 0 < 12) ∧ (((wo.getD q 0 : Nat) : Int) + strLen (wk.getD q 0) + 1 = ((wo.getD (q + 1) 0 : Nat) : Int)) ∧ (((wo.getD (q + 1) 0 : Nat) : Int) ≤ strLen 12) ∧ strLen 12 = 57 ∧ strAt 12 (wo.getD q 0 + (strLen (wk.getD q 0)).toNat) = 32 ∧ ∀ i : Nat, (i : Int) < strLen (wk.getD q 0) → strAt 12 (wo.getD q 0 + i) = strAt (wk.getD q 0) i := by
  have h1 : ∀ q : Fin 12, (wk.getD q.val 0 < 12) ∧ (((wo.getD q.val 0 : Nat) : Int) + strLen (wk.getD q.val 0) + 1 = ((wo.getD (q.val + 1) 0 : Nat) : Int)) ∧ (((wo.getD (q.val + 1) 0 : Nat) : Int) ≤ strLen 12) ∧ strLen 12 = 57 ∧ strAt 12 (wo.getD q.val 0 + (strLen (wk.getD q.val 0)).toNat) = 32 := by decide
  have h2 : ∀ q : Fin 12, ∀ i : Fin 5, ((i.val : Nat) : Int) < strLen (wk.getD q.val 0) → strAt 12 (wo.getD q.val 0 + i.val) = strAt (wk.getD q.val 0) i.val := by decide
  obtain ⟨a, b, c, d, e⟩ := h1 ⟨q, hq⟩
  refine ⟨a, b, c, d, e, fun i hi => h2 ⟨q, hq⟩ ⟨i, ?_⟩ hi⟩
  have t5 : strLen (wk.getD q 0) ≤ 5 := (str_rng _ a).1.2
  have hi' : (i : Int) < strLen (wk.getD q 0) := hi
  omega
theorem w19_e {k o : Nat} {len : Int} (hlen : 2 ≤ len ∧ len ≤ 5) (ho : (o : Int) + len < 57) (h57 : strLen 12 = 57) (h32 : strAt 12 (o + len.toNat) = 32) (hl : ∀ i : Nat, (i : Int) < len → 97 ≤ strAt 12 (o + i) ∧ strAt 12 (o + i) ≤ 122) (y1 y2 y3 : Int) (h : Mem) (K : Int → Int → Int → Int → Int → Option Int) : ∀ (r N i : Nat), (i : Int) + r = len → r < N → fX12_wordAt_L19 N y1 y2 y3 o i h K = K y1 y2 y3 o len := by
  intro r
  induction r with
  | zero =>
    intro N i hi hN
    obtain ⟨N, rfl⟩ : ∃ x, N = x + 1 := ⟨N - 1, by omega⟩
    have e1 : (o : Int) + (i : Int) = ((o + i : Nat) : Int) := by omega
    have e2 : o + i = o + len.toNat := by omega
    have e3 : (i : Int) = len := by omega
    have eg : ∀ k' : Option Int, gc (0 ≤ ((o + i : Nat) : Int) ∧ ((o + i : Nat) : Int) < strLen 12) k' = k' := fun k' => gc_of (by omega)
    have es : strAt 12 (o + i) = 32 := by rw [e2]; exact h32
    rw [fX12_wordAt_L19]
    simp (disch := omega) only [if_true, if_false, if_pos, if_neg, wr_0, wr_id, gd_i, bnd_e, bd_s, bd2_s, jn_e, Int.toNat_natCast, e1, eg, es]
    rw [e3]
  | succ r ih =>
    intro N i hi hN
    obtain ⟨N, rfl⟩ : ∃ x, N = x + 1 := ⟨N - 1, by omega⟩
    have e1 : (o : Int) + (i : Int) = ((o + i : Nat) : Int) := by omega
    have eg : ∀ k' : Option Int, gc (0 ≤ ((o + i : Nat) : Int) ∧ ((o + i : Nat) : Int) < strLen 12) k' = k' := fun k' => gc_of (by omega)
    have es := hl i (by omega)
    rw [fX12_wordAt_L19]
    simp (disch := omega) only [if_true, if_false, if_pos, if_neg, wr_0, wr_id, gd_i, bnd_e, bd_s, bd2_s, jn_e, Int.toNat_natCast, e1, eg, ncs]
    exact ih N (i + 1) (by omega) (by omega)
theorem w59_e {b : Nat → Int} {h : Mem} (h35 : h 35 = b) (hb : ∀ j, -128 ≤ b j ∧ b j ≤ 127) {f o : Nat} {len : Int} (hlen : 2 ≤ len ∧ len ≤ 5) (hf : (f : Int) + len ≤ 300) (ho : (o : Int) + len < 57) (h57 : strLen 12 = 57) (hl : ∀ i : Nat, (i : Int) < len → 97 ≤ strAt 12 (o + i) ∧ strAt 12 (o + i) ≤ 122) (y2 y3 : Int) (K : Int → Int → Int → Int → Int → Int → Option Int) : ∀ (r N i : Nat), (i : Int) + r = len → r < N → ((∀ j : Nat, i ≤ j → (j : Int) < len → b (f + j) = strAt 12 (o + j)) → fX12_wordAt_L59 N f y2 y3 o len 1 i h K = K f y2 y3 o len 1) ∧ (¬ (∀ j : Nat, i ≤ j → (j : Int) < len → b (f + j) = strAt 12 (o + j)) → fX12_wordAt_L59 N f y2 y3 o len 1 i h K = K f y2 y3 o len 0) := by
  intro r
  induction r with
  | zero =>
    intro N i hi hN
    obtain ⟨N, rfl⟩ : ∃ x, N = x + 1 := ⟨N - 1, by omega⟩
    rw [fX12_wordAt_L59]
    refine ⟨fun _ => ?_, fun z => absurd (fun j h1 h2 => by omega) z⟩
    simp (disch := omega) only [if_true, if_false, if_pos, if_neg, wr_0, wr_id, gd_i, bnd_e, bd_s, bd2_s, jn_e, Int.toNat_natCast]
  | succ r ih =>
    intro N i hi hN
    obtain ⟨N, rfl⟩ : ∃ x, N = x + 1 := ⟨N - 1, by omega⟩
    have e1 : (o : Int) + (i : Int) = ((o + i : Nat) : Int) := by omega
    have e2 : (f : Int) + (i : Int) = ((f + i : Nat) : Int) := by omega
    have eg : ∀ k' : Option Int, gc (0 ≤ ((o + i : Nat) : Int) ∧ ((o + i : Nat) : Int) < strLen 12) k' = k' := fun k' => gc_of (by omega)
    have es := hl i (by omega)
    have hbi := hb (f + i)
    have nx := ih N (i + 1) (by omega) (by omega)
    by_cases c : b (f + i) = strAt 12 (o + i)
    · have st : fX12_wordAt_L59 (N + 1) f y2 y3 o len 1 i h K = fX12_wordAt_L59 N f y2 y3 o len 1 ((i + 1 : Nat) : Int) h K := by
        rw [fX12_wordAt_L59, h35]
        simp (disch := omega) only [if_true, if_false, if_pos, if_neg, wr_0, wr_id, gd_i, bnd_e, bd_s, bd2_s, jn_e, Int.toNat_natCast, e1, e2, eg, c, ncs]
      rw [st]
      refine ⟨fun z => nx.1 (fun j h1 h2 => z j (by omega) h2), fun z => nx.2 (fun y => z (fun j h1 h2 => ?_))⟩
      by_cases d : j = i
      · rw [d]; exact c
      · exact y j (by omega) h2
    · refine ⟨fun z => absurd (z i (by omega) (by omega)) c, fun _ => ?_⟩
      have c2 : ¬ strAt 12 (o + i) = b (f + i) := fun z => c z.symm
      have st : fX12_wordAt_L59 (N + 1) f y2 y3 o len 1 i h K = fX12_wordAt_L59 N f y2 y3 o len 0 ((i + 1 : Nat) : Int) h K := by
        rw [fX12_wordAt_L59, h35]
        simp (disch := omega) only [if_true, if_false, if_pos, if_neg, wr_0, wr_id, gd_i, bnd_e, bd_s, bd2_s, jn_e, Int.toNat_natCast, e1, e2, eg, if_neg c2, ncs]
      rw [st]
      obtain ⟨N, rfl⟩ : ∃ x, N = x + 1 := ⟨N - 1, by omega⟩
      rw [fX12_wordAt_L59]
      by_cases d : len ≤ ((i + 1 : Nat) : Int)
      · simp (disch := omega) only [if_true, if_false, if_pos, if_neg, wr_0, wr_id, gd_i, bnd_e, bd_s, bd2_s, jn_e, Int.toNat_natCast]
      · simp (disch := omega) only [if_true, if_false, if_pos, if_neg, wr_0, wr_id, gd_i, bnd_e, bd_s, bd2_s, jn_e, Int.toNat_natCast]
theorem w5_e {b : Nat → Int} {h : Mem} (h35 : h 35 = b) (hb : ∀ j, -128 ≤ b j ∧ b j ≤ 127) {f t : Nat} (hft : f ≤ t) (ht : t ≤ 300) {q : Nat} (hq : q < 12) (N : Nat) : (mt b (wk.getD q 0) f t → fX12_wordAt_L5 (N + 1) f t q ((wo.getD q 0 : Nat) : Int) h = some (q : Int)) ∧ (¬ mt b (wk.getD q 0) f t → fX12_wordAt_L5 (N + 1) f t q ((wo.getD q 0 : Nat) : Int) h = fX12_wordAt_L5 N f t ((q + 1 : Nat) : Int) ((wo.getD (q + 1) 0 : Nat) : Int) h) := by
  obtain ⟨a1, a2, a3, a4, a5, a6⟩ := w_tab q hq
  obtain ⟨s1, s2⟩ := str_rng _ a1
  have hl : ∀ i : Nat, (i : Int) < strLen (wk.getD q 0) → 97 ≤ strAt 12 (wo.getD q 0 + i) ∧ strAt 12 (wo.getD q 0 + i) ≤ 122 := fun i hi => by rw [a6 i hi]; exact s2 i hi
  obtain ⟨F, hF, hF2⟩ := fuel_g
  unfold mt
  generalize wo.getD q 0 = o at *
  generalize wo.getD (q + 1) 0 = o2 at *
  generalize strLen (wk.getD q 0) = len at *
  have nz : ¬ wr (strLen 12) ≤ wr (o : Int) := by rw [a4, wr_id (by omega) (by omega), wr_id (by omega) (by omega)]; omega
  have e19 : ∀ K, fX12_wordAt_L19 fuel f t q o 0 h K = K f t q o len := fun K => by
    rw [hF]; exact w19_e (k := 0) s1 (by omega) a4 a5 hl f t q h K len.toNat F 0 (by omega) (by omega)
  have e59z : ∀ K, fX12_wordAt_L59 fuel f t q o len 0 0 h K = K f t q o len 0 := fun K => by
    rw [hF]
    obtain ⟨F, rfl⟩ : ∃ x, F = x + 1 := ⟨F - 1, by omega⟩
    rw [fX12_wordAt_L59]
    simp (disch := omega) only [if_true, if_false, if_pos, if_neg, wr_0, wr_id, gd_i, bnd_e, bd_s, bd2_s, jn_e, Int.toNat_natCast]
  have rt : IR ((t : Int) - (f : Int)) := by unfold IR; omega
  have rl : IR len := by unfold IR; omega
  have eo : (o : Int) + (len + 1) = (o2 : Int) := by omega
  rw [fX12_wordAt_L5, if_neg nz, e19, jn_e, wr_id rt.1 rt.2, wr_id rl.1 rl.2]
  clear nz
  by_cases c : len = (t : Int) - (f : Int)
  · rw [if_pos c]
    have e59 := fun K => w59_e (b := b) (h := h) h35 hb (f := f) (o := o) s1 (by omega) (by omega) a4 hl (t : Int) (q : Int) K len.toNat F 0 (by omega) (by omega)
    refine ⟨fun z => ?_, fun z => ?_⟩
    · have e : ∀ K, fX12_wordAt_L59 fuel f t q o len 1 0 h K = K f t q o len 1 := fun K => by
        rw [hF]; exact (e59 K).1 (fun j _ h2 => by rw [a6 j h2]; exact z.2 j h2)
      dsimp only
      rw [e, if_neg (show ¬ wr 1 = 0 by decide)]
    · have e : ∀ K, fX12_wordAt_L59 fuel f t q o len 1 0 h K = K f t q o len 0 := fun K => by
        rw [hF]; exact (e59 K).2 (fun y => z ⟨c.symm, fun j h2 => by rw [← a6 j h2]; exact y j (by omega) h2⟩)
      dsimp only
      rw [e, if_pos (show wr 0 = 0 by decide), bnd_e, bnd_e, eo]
      rfl
  · rw [if_neg c]
    refine ⟨fun z => absurd z.1.symm c, fun z => ?_⟩
    dsimp only
    rw [e59z, if_pos (show wr 0 = 0 by decide), bnd_e, bnd_e, eo]
    rfl
theorem wordAt_e {b : Nat → Int} {h : Mem} (h35 : h 35 = b) (hb : ∀ j, -128 ≤ b j ∧ b j ≤ 127) {f t : Nat} (hft : f ≤ t) (ht : t ≤ 300) : ∃ r : Int, fX12_wordAt f t h = some r ∧ ((∃ q : Nat, q < 12 ∧ r = (q : Int) ∧ mt b (wk.getD q 0) f t ∧ ∀ q', q' < q → ¬ mt b (wk.getD q' 0) f t) ∨ (r = -1 ∧ ∀ q, q < 12 → ¬ mt b (wk.getD q 0) f t)) := by
  have key : ∀ (k N q : Nat), q + k = 12 → k < N → (∀ q', q' < q → ¬ mt b (wk.getD q' 0) f t) → ∃ r : Int, fX12_wordAt_L5 N f t q ((wo.getD q 0 : Nat) : Int) h = some r ∧ ((∃ q : Nat, q < 12 ∧ r = (q : Int) ∧ mt b (wk.getD q 0) f t ∧ ∀ q', q' < q → ¬ mt b (wk.getD q' 0) f t) ∨ (r = -1 ∧ ∀ q, q < 12 → ¬ mt b (wk.getD q 0) f t)) := by
    intro k
    induction k with
    | zero =>
      intro N q hq hN hno
      obtain ⟨N, rfl⟩ : ∃ x, N = x + 1 := ⟨N - 1, by omega⟩
      have e : q = 12 := by omega
      subst e
      rw [fX12_wordAt_L5, if_pos (show wr (strLen 12) ≤ wr ((wo.getD 12 0 : Nat) : Int) by decide)]
      exact ⟨-1, rfl, .inr ⟨rfl, hno⟩⟩
    | succ k ih =>
      intro N q hq hN hno
      obtain ⟨N, rfl⟩ : ∃ x, N = x + 1 := ⟨N - 1, by omega⟩
      have w := w5_e h35 hb hft ht (q := q) (by omega) N
      rcases Classical.em (mt b (wk.getD q 0) f t) with z | z
      · exact ⟨q, w.1 z, .inl ⟨q, by omega, rfl, z, hno⟩⟩
      · rw [w.2 z]
        exact ih N (q + 1) (by omega) (by omega) (fun q' h' => by
          by_cases d : q' = q
          · rw [d]; exact z
          · exact hno q' (by omega))
  obtain ⟨F, hF, hF2⟩ := fuel_g
  unfold fX12_wordAt
  rw [hF]
  exact key 12 F 0 (by omega) (by omega) (fun q' h' => by omega)
theorem mt_uniq {b : Nat → Int} {f t k k' : Nat} (hk : k < 12) (hk' : k' < 12) (h : mt b k f t) (h' : mt b k' f t) : k = k' := by
  have tab : ∀ k k' : Fin 12, strLen k.val = strLen k'.val → (∀ i : Fin 5, ((i.val : Nat) : Int) < strLen k.val → strAt k.val i.val = strAt k'.val i.val) → k = k' := by decide
  have e : strLen k = strLen k' := h.1.symm.trans h'.1
  have := tab ⟨k, hk⟩ ⟨k', hk'⟩ e (fun i hi => (h.2 i.val hi).symm.trans (h'.2 i.val (by
    have hi' : ((i.val : Nat) : Int) < strLen k := hi
    rw [← e]; exact hi')))
  exact congrArg Fin.val this
