/-! TOKENS: words spelled -/
def mt (b : Nat → Int) (k f t : Nat) : Prop := (t : Int) - (f : Int) = strLen k ∧ ∀ i : Nat, (i : Int) < strLen k → b (f + i) = strAt k i
theorem str_rng (k : Nat) (hk : k < 12) : (2 ≤ strLen k ∧ strLen k ≤ 5) ∧ ∀ i : Nat, (i : Int) < strLen k → 97 ≤ strAt k i ∧ strAt k i ≤ 122 := by
  have h1 : ∀ k : Fin 12, 2 ≤ strLen k.val ∧ strLen k.val ≤ 5 := by decide
  have h2 : ∀ k : Fin 12, ∀ i : Fin 5, ((i.val : Nat) : Int) < strLen k.val → 97 ≤ strAt k.val i.val ∧ strAt k.val i.val ≤ 122 := by decide
  have a := h1 ⟨k, hk⟩
  refine ⟨a, fun i hi => h2 ⟨k, hk⟩ ⟨i, by have : strLen k ≤ 5 := a.2; omega⟩ hi⟩
theorem spell1_e {g : Mem} {b : Nat → Int} {S f : Nat} (hS : S ≤ 300) (hb : ∀ j, -128 ≤ b j ∧ b j ≤ 127) (g37 : g 37 1 = (S : Int)) (g38 : ∀ j, g 38 j = b j % 256) {k : Nat} (hk : k < 12) (hf : (f : Int) + strLen k ≤ (S : Int)) : ∀ (r N i : Nat), (i : Int) + r = strLen k → r < N → ((∀ j : Nat, i ≤ j → (j : Int) < strLen k → b (f + j) = strAt k j) → fX9_spells_L15 k N f i g = some 1) ∧ (¬ (∀ j : Nat, i ≤ j → (j : Int) < strLen k → b (f + j) = strAt k j) → fX9_spells_L15 k N f i g = some 0) := by
  obtain ⟨s1, s2⟩ := str_rng k hk
  intro r
  induction r with
  | zero =>
    intro N i hi hN
    obtain ⟨N, rfl⟩ : ∃ x, N = x + 1 := ⟨N - 1, by omega⟩
    rw [fX9_spells_L15]
    refine ⟨fun _ => ?_, fun z => absurd (fun j h1 h2 => by omega) z⟩
    simp (disch := omega) only [if_true, if_false, if_pos, if_neg, wr_0, wr_id, gd_i, bnd_e, bd_s, bd2_s, jn_e, Int.toNat_natCast]
  | succ r ih =>
    intro N i hi hN
    obtain ⟨N, rfl⟩ : ∃ x, N = x + 1 := ⟨N - 1, by omega⟩
    have eb := byteX_e (g := g) (b := b) (S := S) (p := f + i) hS g37 g38 (by omega)
    have sa := s2 i (by omega)
    have hbi := hb (f + i)
    have ef : (f : Int) + (i : Int) = ((f + i : Nat) : Int) := by omega
    have eg : ∀ k' : Option Int, gc (0 ≤ (i : Int) ∧ (i : Int) < strLen k) k' = k' := fun k' => gc_of (by omega)
    have nx := ih N (i + 1) (by omega) (by omega)
    rw [fX9_spells_L15]
    by_cases c : b (f + i) = strAt k i
    · have e1 : fX9_spells_L15 k (N + 1) f i g = fX9_spells_L15 k N f ((i + 1 : Nat) : Int) g := by
        rw [fX9_spells_L15]
        have c2 : b (f + i) % 256 = strAt k i := by omega
        simp (disch := omega) only [if_true, if_false, if_pos, if_neg, wr_0, wr_id, gd_i, bnd_e, bd_s, bd2_s, jn_e, Int.toNat_natCast, ef, eb, eg, c2, ncs]
      rw [fX9_spells_L15] at e1
      rw [e1]
      refine ⟨fun z => nx.1 (fun j h1 h2 => z j (by omega) h2), fun z => nx.2 (fun y => z (fun j h1 h2 => ?_))⟩
      by_cases d : j = i
      · rw [d]; exact c
      · exact y j (by omega) h2
    · have c2 : ¬ b (f + i) % 256 = strAt k i := by omega
      refine ⟨fun z => absurd (z i (by omega) (by omega)) c, fun _ => ?_⟩
      simp (disch := omega) only [if_true, if_false, if_pos, if_neg, wr_0, wr_id, gd_i, bnd_e, bd_s, bd2_s, jn_e, Int.toNat_natCast, ef, eb, eg, if_neg c2]
theorem spells_e {g : Mem} {b : Nat → Int} {S f t : Nat} (hS : S ≤ 300) (hb : ∀ j, -128 ≤ b j ∧ b j ≤ 127) (g37 : g 37 1 = (S : Int)) (g38 : ∀ j, g 38 j = b j % 256) {k : Nat} (hk : k < 12) (hft : f ≤ t) (ht : t ≤ S) : (mt b k f t → fX9_spells k f t g = some 1) ∧ (¬ mt b k f t → fX9_spells k f t g = some 0) := by
  obtain ⟨s1, s2⟩ := str_rng k hk
  unfold fX9_spells mt
  rw [wr_id (z := (t : Int) - (f : Int)) (by omega) (by omega), wr_id (z := strLen k) (by omega) (by omega)]
  by_cases c : (t : Int) - (f : Int) = strLen k
  · rw [if_pos c]
    obtain ⟨F, hF, hF2⟩ := fuel_g
    rw [hF]
    have := spell1_e (g := g) hS hb g37 g38 hk (f := f) (by omega) (strLen k).toNat F 0 (by omega) (by omega)
    exact ⟨fun z => this.1 (fun j _ h2 => z.2 j h2), fun z => this.2 (fun y => z ⟨c, fun j h2 => y j (by omega) h2⟩)⟩
  · rw [if_neg c]
    exact ⟨fun z => absurd z.1 c, fun _ => rfl⟩
