/-! THE LOOP over tokens; fault and rules -/
def KX48 : Mem → Option (Int × Mem) := fun (g_18 : Mem) =>
    if wr (g_18 39 4) = 0 then (
      some ((-1), g_18)
    ) else (
      some (g_18 37 1, g_18)
    )
def KX74 : Mem → Option (Int × Mem) := fun (g_20 : Mem) => some (g_20 39 3, g_20)
def KX85 : Mem → Option (Int × Mem) := fun (g_21 : Mem) => some (g_21 37 1, g_21)
def KM82 : Mem → Option (Int × Mem) := fun (g_23 : Mem) => some (g_23 0 51, g_23)
def PFin (r : Nat) (g0 h0 g h : Mem) : Prop := ∃ (D : Nat × (Nat → Int)) (C : tyC) (fr to : Nat → Int) (B : tyB) (T : tyT) (st cs pa br cm p f dp : Int), XS r g0 g [] D fr to st cs 0 pa br cm p f ∧ MS h0 h [] C B T dp ∧ CR D C ∧ CLS C fr to B 0 ∧ CLS C fr to B 1 ∧ C.1 ≤ 300
theorem tokT {t k v : Int} {f q : Int} (h : TokR t k v) : tb (k, v, f, q) := by
  unfold TokR at h
  refine ⟨?_, ?_⟩
  · show 0 ≤ k ∧ k ≤ 4; omega
  · show -128 ≤ v ∧ v ≤ 10000009; omega
theorem loop_e {r : Nat} {g0 h0 : Mem} {b : Nat → Int} {S : Nat} (hr : 41 ≤ r) (hS : S ≤ 300) (hb : ∀ j, -128 ≤ b j ∧ b j ≤ 127) (hS0 : h0 0 48 = (S : Int)) (hb0 : h0 35 = b) (g37 : g0 37 1 = (S : Int)) (g38 : ∀ j, g0 38 j = b j % 256) :
    ∀ (m : Nat) (i p st : Nat) (W : List Int) (D : Nat × (Nat → Int)) (C : tyC) (fr to : Nat → Int) (B : tyB) (cs pa br cm f0 : Int) (t k v : Int) (f q : Nat) (g h : Mem), S < p + m → p ≤ S → i ≤ p →
      TokR t k v → p ≤ f → q ≤ S → ((t = 10027 ∧ f = S ∧ q = S) ∨ (t ≠ 10027 ∧ f < q)) → XN b S p t f q →
      XS r g0 g W D fr to (st : Int) cs (opn W : Int) pa br cm (p : Int) f0 → MS h0 h (stk st W) C B (k, v, (f : Int), (q : Int)) (opn W : Int) → PI st W D C fr to B cs pa br cm i →
      ∃ (res : Int) (g' h' : Mem), (∀ N, m ≤ N → fX5_parse_L26 r N (i : Int) g KX48 KX74 KX85 = some (res, g')) ∧ (∀ n, 300 * m + 5 ≤ n → fX12_reads_L49 n h KM82 = some (res, h')) ∧ FX r g0 g' ∧ FM h0 h' ∧ (-1 ≤ res ∧ res ≤ 300) ∧ (res = -1 → PFin r g0 h0 g' h') := by
  intro m
  induction m with
  | zero => intro i p st W D C fr to B cs pa br cm f0 t k v f q g h h1 h2; omega
  | succ m ih =>
    intro i p st W D C fr to B cs pa br cm f0 t k v f q g h h1 h2 h3 hK hpf hqS hend hX X M P
    obtain ⟨g1, n1, n2, n3, n4, n5⟩ := hX g (by rw [X.2.2.2.2.2 37 (by omega) (by omega) (by omega)]; exact g37) (fun j => by rw [X.2.2.2.2.2 38 (by omega) (by omega) (by omega)]; exact g38 j) X.2.2.2.1.1
    have X1 := x_pf hr n2 n3 n4 n5 X
    have st1 : ∀ N, fX5_parse_L26 r (N + 1) (i : Int) g KX48 KX74 KX85 = if t = 10027 then KX48 g1 else bd2 (fX5_take r t g1) fun r_13 g_15 => if wr r_13 = 0 then KX74 g_15 else fX5_parse_L26 r N ((i + 1 : Nat) : Int) g_15 KX48 KX74 KX85 := by
      intro N
      rw [fX5_parse_L26, if_neg (by rw [wr_id (by omega) (by omega)]; omega), n1, bd2_s, wtE (tokB hK)]
      rfl
    have g137 : g1 37 1 = (S : Int) := by rw [X1.2.2.2.2.2 37 (by omega) (by omega) (by omega)]; exact g37
    have st4 : g1 39 4 = (st : Int) := X1.2.2.2.2.1.1
    have st5 : st ≤ 4 := by
      obtain ⟨_, _, _, _, z⟩ := P
      rcases z with z | ⟨_, _, _, _, _, z⟩
      · omega
      · omega
    obtain ⟨t', k', v', f', q', hK', hpf', hqS', hend', hXN', hMN'⟩ := tok_e (b := b) (S := S) (p := q) hS hb hqS
    by_cases ct : t = 10027
    · obtain ⟨_, hfS, hqS2⟩ := hend.resolve_right (fun z => z.1 ct)
      by_cases cs0 : st = 0
      · subst cs0
        subst ct
        obtain ⟨p1, p2, p3, p4, p5⟩ := P
        have k0 : k = 0 := by unfold TokR at hK; omega
        subst k0
        obtain ⟨_, w1, w2, w3⟩ | ⟨c0, beg, _, _, _, z⟩ := p5
        · subst w1
          obtain ⟨h2', F2, M2, e2⟩ := end_0 M
          refine ⟨-1, g1, h2', fun N hN => ?_, fun n hn => ?_, X1.2.2.2.2.2, F2, by omega, fun _ => ⟨D, C, fr, to, B, _, _, cs, pa, br, cm, _, _, _, X1, M2, p2, w2, w3, ?_⟩⟩
          · obtain ⟨N, rfl⟩ : ∃ x, N = x + 1 := ⟨N - 1, by omega⟩
            rw [st1, if_pos rfl]
            unfold KX48
            rw [st4, if_pos (by decide)]
          · obtain ⟨n, rfl⟩ : ∃ x, n = x + 2 := ⟨n - 2, by omega⟩
            exact e2 n _
          · have : C.1 + 0 ≤ i := p4
            omega
        · omega
      · have tk := take_e (t := t) (k := k) (v := v) (p := q) hr hMN' hS0 hb0 (tokT hK') hK X1 P (by omega) (fun z => absurd ct z) (fun z => absurd z cs0)
        rcases tk with ⟨j0, _⟩ | ⟨g2, j1, j2, j3, j4⟩
        · exact absurd ct j0
        · obtain ⟨kk, h2', kle, e2, e3, F2⟩ := j4 h M
          refine ⟨(S : Int), g1, h2', fun N hN => ?_, fun n hn => ?_, X1.2.2.2.2.2, F2, by omega, fun z => by omega⟩
          · obtain ⟨N, rfl⟩ : ∃ x, N = x + 1 := ⟨N - 1, by omega⟩
            rw [st1, if_pos ct]
            unfold KX48
            rw [st4, if_neg (by rw [wr_id (by omega) (by omega)]; omega), g137]
          · obtain ⟨n, rfl⟩ : ∃ x, n = x + kk := ⟨n - kk, by omega⟩
            rw [e2]
            have e3' : h2' 0 51 = (f : Int) := e3
            show some (h2' 0 51, h2') = _
            rw [e3', hfS]
    · obtain ⟨_, hfq⟩ := hend.resolve_left (fun z => ct z.1)
      have tk := take_e (t := t) (k := k) (v := v) (p := q) hr hMN' hS0 hb0 (tokT hK') hK X1 P (by omega) (fun _ => by omega) (fun _ => ct)
      rcases tk with ⟨j0, st', W', D', C', fr', to', B', cs', pa', br', cm', g2, j1, j2, j3, j4⟩ | ⟨g2, j1, j2, j3, j4⟩
      · obtain ⟨kk, h2', kle, e2, M2⟩ := j3 h M
        obtain ⟨res, g3, h3', w1, w2, w3, w4, w5, w6⟩ := ih (i + 1) q st' W' D' C' fr' to' B' cs' pa' br' cm' _ t' k' v' f' q' g2 h2' (by omega) hqS (by omega) hK' hpf' hqS' hend' hXN' j2 M2 j4
        refine ⟨res, g3, h3', fun N hN => ?_, fun n hn => ?_, w3, w4, w5, w6⟩
        · obtain ⟨N, rfl⟩ : ∃ x, N = x + 1 := ⟨N - 1, by omega⟩
          rw [st1, if_neg ct, j1, bd2_s, if_neg (by decide)]
          exact w1 N (by omega)
        · obtain ⟨n, rfl⟩ : ∃ x, n = x + kk := ⟨n - kk, by omega⟩
          rw [e2]
          exact w2 n (by omega)
      · obtain ⟨kk, h2', kle, e2, e3, F2⟩ := j4 h M
        refine ⟨(f : Int), g2, h2', fun N hN => ?_, fun n hn => ?_, j2, F2, by omega, fun z => by omega⟩
        · obtain ⟨N, rfl⟩ : ∃ x, N = x + 1 := ⟨N - 1, by omega⟩
          rw [st1, if_neg ct, j1, bd2_s, if_pos (by decide)]
          unfold KX74
          rw [j3]
        · obtain ⟨n, rfl⟩ : ∃ x, n = x + kk := ⟨n - kk, by omega⟩
          rw [e2]
          have e3' : h2' 0 51 = (f : Int) := e3
          show some (h2' 0 51, h2') = _
          rw [e3']
theorem reset_e {r : Nat} (g : Mem) : fX7_reset r g = some (up (up (up (up (up g r 4 0) (r + 3) 0 0) (r + 4) 0 0) (r + 3) 1 0) (r + 4) 1 0) := by
  obtain ⟨F, hF, hF2⟩ := fuel_g
  obtain ⟨G, rfl⟩ : ∃ G, F = G + 1 + 1 + 1 := ⟨F - 3, by omega⟩
  clear hF2
  unfold fX7_reset
  rw [hF, bnd_e, fX7_reset_L7]
  simp (disch := omega) only [if_true, if_false, if_pos, if_neg, wr_0, wr_id, gd_i, bnd_e, bd_s, bd2_s, jn_e, Int.toNat_natCast]
  rw [fX7_reset_L7]
  simp (disch := omega) only [if_true, if_false, if_pos, if_neg, wr_0, wr_id, gd_i, bnd_e, bd_s, bd2_s, jn_e, Int.toNat_natCast]
  rw [fX7_reset_L7]
  simp (disch := omega) only [if_true, if_false, if_pos, if_neg, wr_0, wr_id, gd_i, bnd_e, bd_s, bd2_s, jn_e, Int.toNat_natCast]
  rfl
theorem fil39_e (h : Mem) (K : Mem → Option (Int × Mem)) : fX12_reads_L22 fuel 0 h K = K (up (up h 39 0 (-1)) 39 1 (-1)) := by
  obtain ⟨F, hF, hF2⟩ := fuel_g
  obtain ⟨G, rfl⟩ : ∃ G, F = G + 1 + 1 + 1 := ⟨F - 3, by omega⟩
  clear hF2
  rw [hF, fX12_reads_L22]
  simp (disch := omega) only [if_true, if_false, if_pos, if_neg, wr_0, wr_id, gd_i, bnd_e, bd_s, bd2_s, jn_e, Int.toNat_natCast]
  rw [fX12_reads_L22]
  simp (disch := omega) only [if_true, if_false, if_pos, if_neg, wr_0, wr_id, gd_i, bnd_e, bd_s, bd2_s, jn_e, Int.toNat_natCast]
  rw [fX12_reads_L22]
  simp (disch := omega) only [if_true, if_false, if_pos, if_neg, wr_0, wr_id, gd_i, bnd_e, bd_s, bd2_s, jn_e, Int.toNat_natCast]
  rfl
/-- both parsers, from any state -/
theorem both_e {r : Nat} {g h : Mem} (hr : 41 ≤ r) (T : RText g h) : ∃ (res : Int) (g' h' : Mem), fX5_parse r g = some (res, g') ∧ fX12_reads h = some (res, h') ∧ FX r g g' ∧ FM h h' ∧ (-1 ≤ res ∧ res ≤ 300) ∧ (res = -1 → PFin r g h g' h') := by
  obtain ⟨t1, t2, t3, t4⟩ := T
  obtain ⟨S, hS⟩ : ∃ S : Nat, h 0 48 = (S : Int) := ⟨(h 0 48).toNat, by omega⟩
  have hS3 : S ≤ 300 := by omega
  obtain ⟨t, k, v, f, q, hK, hpf, hqS, hend, hXN, hMN⟩ := tok_e (b := h 35) (S := S) (p := 0) hS3 t3 (by omega)
  have X0 : XS r g (up (up (up (up (up (up (up (up (up g r 4 0) (r + 3) 0 0) (r + 4) 0 0) (r + 3) 1 0) (r + 4) 1 0) 39 1 0) 39 2 0) 39 4 0) 39 6 0) [] (0, g (r + 1)) (ups (ups (g (r + 3)) 0 0) 1 0) (ups (ups (g (r + 4)) 0 0) 1 0) ((0 : Nat) : Int) (g 39 5) ((opn [] : Nat) : Int) (g 39 7) (g 39 8) (g 39 9) ((0 : Nat) : Int) (g 39 3) := by
    have n39 : ∀ j : Nat, up (up (up (up (up g r 4 0) (r + 3) 0 0) (r + 4) 0 0) (r + 3) 1 0) (r + 4) 1 0 39 j = g 39 j := fun j => by
      rw [up_ne (by omega), up_ne (by omega), up_ne (by omega), up_ne (by omega), up_ne (by omega)]
    refine ⟨⟨rfl, trivial⟩, ⟨?_, ?_⟩, ⟨?_, ?_⟩, ⟨rfl, ?_⟩, ⟨rfl, ?_, rfl, ?_, ?_, ?_⟩, ?_⟩
    · rw [up_ne (by omega), up_ne (by omega), up_ne (by omega), up_ne (by omega), up_ne (by omega), up_ne (by omega), up_ne (by omega), up_ne (by omega), up_row, if_pos rfl]; rfl
    · rw [up_ne (by omega), up_ne (by omega), up_ne (by omega), up_ne (by omega), up_ne (by omega), up_ne (by omega), up_ne (by omega), up_ne (by omega), up_ne (by omega)]
    · rw [up_ne (by omega), up_ne (by omega), up_ne (by omega), up_ne (by omega), up_ne (by omega)]
      funext j; simp [up, ups]
    · rw [up_ne (by omega), up_ne (by omega), up_ne (by omega), up_ne (by omega)]
      funext j; simp [up, ups]
    · exact n39 3
    · exact n39 5
    · exact n39 7
    · exact n39 8
    · exact n39 9
    · exact FX_39 (FX_39 (FX_39 (FX_39 (FX_r (by omega) (FX_r (by omega) (FX_r (by omega) (FX_r (by omega) (FX_r (by omega) (fun _ _ _ _ => rfl)))))))))
  have hm0 : MN (h 35) S 0 k v f q := hMN
  have M00 : (up (up (up (up (up (up h 0 49 0) 0 54 0) 0 55 0) 0 59 0) 39 0 (-1)) 39 1 (-1)) 0 49 = ((0 : Nat) : Int) := rfl
  obtain ⟨h1, m1, m2, m3, m4, m5, m6, m7⟩ := hMN (up (up (up (up (up (up h 0 49 0) 0 54 0) 0 55 0) 0 59 0) 39 0 (-1)) 39 1 (-1)) hS rfl M00
  have F0 : FM h (up (up (up (up (up (up h 0 49 0) 0 54 0) 0 55 0) 0 59 0) 39 0 (-1)) 39 1 (-1)) := FM_r (by omega) (FM_r (by omega) (FM_0 (by omega) (FM_0 (by omega) (FM_0 (by omega) (FM_0 (by omega) ⟨fun _ _ _ => rfl, fun _ _ => rfl⟩)))))
  have M1 : MS h h1 [] (0, h 37, h 38) (ups (ups (h 39) 0 (-1)) 1 (-1), h 40, h 0 56) (k, v, (f : Int), (q : Int)) ((opn [] : Nat) : Int) := by
    refine ⟨⟨?_, trivial⟩, ⟨?_, ?_, ?_⟩, ⟨?_, ?_, ?_⟩, ⟨m3, m5, m4, m2, tokT hK⟩, ⟨?_, by decide, by decide⟩, ⟨fun a x y => ?_, fun c hc => ?_⟩⟩
    · rw [m7 54 (by omega)]; rfl
    · rw [m7 59 (by omega)]; rfl
    · rw [m6 37 (by omega)]; rfl
    · rw [m6 38 (by omega)]; rfl
    · rw [m6 39 (by omega)]; funext j; simp [up, ups]
    · rw [m6 40 (by omega)]; rfl
    · rw [m7 56 (by omega)]; rfl
    · rw [m7 55 (by omega)]; rfl
    · rw [m6 a x]; exact F0.1 a x y
    · rw [m7 c (by omega)]; exact F0.2 c hc
  obtain ⟨h2, e2, M2⟩ := m_push 0 M1 (by decide)
  have P0 : PI 0 [] (0, g (r + 1)) (0, h 37, h 38) (ups (ups (g (r + 3)) 0 0) 1 0) (ups (ups (g (r + 4)) 0 0) 1 0) (ups (ups (h 39) 0 (-1)) 1 (-1), h 40, h 0 56) (g 39 5) (g 39 7) (g 39 8) (g 39 9) 0 :=
    ⟨trivial, ⟨rfl, fun k hk => absurd hk (Nat.not_lt_zero _)⟩, by decide, Nat.le_refl 0, .inl ⟨rfl, rfl, .inl ⟨rfl, rfl, rfl⟩, .inl ⟨rfl, rfl, rfl⟩⟩⟩
  obtain ⟨res, g', h', w1, w2, w3, w4, w5, w6⟩ := loop_e (b := h 35) (S := S) hr hS3 t3 hS rfl (by rw [t2, hS]) t4 (S + 1) 0 0 0 [] _ _ _ _ _ _ _ _ _ _ t k v f q _ h2 (by omega) (by omega) (by omega) hK (by omega) hqS hend hXN X0 M2 P0
  refine ⟨res, g', h', ?_, ?_, w3, w4, w5, w6⟩
  · unfold fX5_parse
    rw [reset_e, bd_s, bnd_e, bnd_e, bnd_e, bnd_e]
    exact w1 fuel (by rw [fuel_s]; omega)
  · unfold fX12_reads
    rw [bnd_e, bnd_e, bnd_e, bnd_e, fil39_e, m1, bd_s, e2, bd_s]
    exact w2 fuel (by rw [fuel_s]; omega)
theorem RCl_fr {a r : Nat} {g h g' h' : Mem} {c : Nat} (hg : ∀ j, j ≤ 4 → g' (a + j) = g (a + j)) (hh : ∀ j, 41 ≤ j → j ≤ 44 → h' j = h j) (R : RCl a g h c) : RCl a g' h' c := by
  unfold RCl at R ⊢
  rw [hg 1 (by omega), hg 3 (by omega), hg 4 (by omega), hh 41 (by omega) (by omega), hh 42 (by omega) (by omega), hh 43 (by omega) (by omega), hh 44 (by omega) (by omega)]
  exact R
theorem RR_par {n r : Nat} {g h g' h' : Mem} (hr : (r = 47 ∧ g 0 12 = 52 ∧ RCl 52 g h 0 ∧ RCl 52 g h 1) ∨ (r = 52 ∧ g 0 12 = 47 ∧ RCl 47 g h 0 ∧ RCl 47 g h 1)) (hs : g 0 13 = (r : Int)) (R : RR n g h) (F : FX r g g') (G : FM h h') : RR (n + 1) g' h' := by
  have R1 := RR_mono n (n + 1) g h (by omega) R
  have T := R.2.2.2.2.2.2.2.2.1
  have r0 : g' 0 = g 0 := F 0 (by omega) (by omega) (by omega)
  refine RR_txt R1 (fun a ha => F a (by omega) (by omega) (by omega)) (fun b _ => by rw [r0]) (fun a ha => G.1 a (by omega) (by omega)) (fun b hb => G.2 b (by omega)) ?_ ?_
  · unfold RText
    rw [F 37 (by omega) (by omega) (by omega), F 38 (by omega) (by omega) (by omega), G.1 35 (by omega) (by omega), G.2 48 (by omega)]
    exact T
  · unfold RRules
    rw [r0]
    rcases hr with ⟨rfl, a1, a2, a3⟩ | ⟨rfl, a1, a2, a3⟩
    · exact .inr ⟨a1, hs, RCl_fr (r := 0) (fun j hj => F _ (by omega) (by omega) (by omega)) (fun j x y => G.1 j (by omega) (by omega)) a2, RCl_fr (r := 0) (fun j hj => F _ (by omega) (by omega) (by omega)) (fun j x y => G.1 j (by omega) (by omega)) a3⟩
    · exact .inl ⟨a1, hs, RCl_fr (r := 0) (fun j hj => F _ (by omega) (by omega) (by omega)) (fun j x y => G.1 j (by omega) (by omega)) a2, RCl_fr (r := 0) (fun j hj => F _ (by omega) (by omega) (by omega)) (fun j x y => G.1 j (by omega) (by omega)) a3⟩
theorem spare_e {n : Nat} {g h : Mem} (R : RR n g h) : ∃ r : Nat, g 0 13 = (r : Int) ∧ ((r = 47 ∧ g 0 12 = 52 ∧ RCl 52 g h 0 ∧ RCl 52 g h 1) ∨ (r = 52 ∧ g 0 12 = 47 ∧ RCl 47 g h 0 ∧ RCl 47 g h 1)) := by
  have U := R.2.2.2.2.2.2.2.2.2.1
  unfold RRules at U
  rcases U with ⟨a1, a2, a3, a4⟩ | ⟨a1, a2, a3, a4⟩
  · exact ⟨52, a2, .inr ⟨rfl, a1, a3, a4⟩⟩
  · exact ⟨47, a2, .inl ⟨rfl, a1, a3, a4⟩⟩
theorem S_fault : Sim_fault RR := by
  intro n g h hn R
  obtain ⟨r, hs, hr⟩ := spare_e R
  obtain ⟨res, g', h', e1, e2, F, G, _, _⟩ := both_e (r := r) (g := g) (h := h) (by omega) R.2.2.2.2.2.2.2.2.1
  refine ⟨res, res, g', h', ?_, ?_, rfl, RR_par hr hs R F G⟩
  · unfold fX11_fault
    rw [hs, Int.toNat_natCast, bnd_e, gc_of (by omega), e1, bd2_s]
  · unfold fX12_fault
    rw [e2, bd2_s]

theorem copy1_e {K : Mem → Option (Int × Mem)} {nn : Nat} (hn : nn ≤ 300) : ∀ (m N k : Nat) (h : Mem), k + m = nn → m < N → h 0 59 = (nn : Int) → ∃ h', fX12_rules_L12 N (k : Int) h K = K h' ∧ (∀ a, a ≠ 41 → a ≠ 42 → h' a = h a) ∧ (∀ j, k ≤ j → j < nn → h' 41 j = h 37 j ∧ h' 42 j = h 38 j) ∧ (∀ j, j < k → h' 41 j = h 41 j ∧ h' 42 j = h 42 j) := by
  intro m
  induction m with
  | zero =>
    intro N k h hk hN h59
    obtain ⟨N, rfl⟩ : ∃ x, N = x + 1 := ⟨N - 1, by omega⟩
    refine ⟨h, ?_, fun _ _ _ => rfl, fun j x y => by omega, fun _ _ => ⟨rfl, rfl⟩⟩
    rw [fX12_rules_L12, h59, if_pos (by rw [wr_id (by omega) (by omega), wr_id (by omega) (by omega)]; omega)]
  | succ m ih =>
    intro N k h hk hN h59
    obtain ⟨N, rfl⟩ : ∃ x, N = x + 1 := ⟨N - 1, by omega⟩
    obtain ⟨h', e1, e2, e3, e4⟩ := ih N (k + 1) (up (up h 41 k (h 37 k)) 42 k (h 38 k)) (by omega) (by omega) h59
    refine ⟨h', ?_, fun a x y => ?_, fun j x y => ?_, fun j x => ?_⟩
    · rw [← e1, fX12_rules_L12, h59, if_neg (by rw [wr_id (by omega) (by omega), wr_id (by omega) (by omega)]; omega)]
      have wk : wr (k : Int) = (k : Int) := wr_id (by omega) (by omega)
      have gi : ∀ z : Option (Int × Mem), gd (k : Int) 300 z = z := fun z => gd_i (by omega) (by omega) (by omega)
      rw [gi, gi, wk, Int.toNat_natCast, bnd_e, gi, gi, bnd_e, bnd_e]
      rfl
    · rw [e2 a x y, up_ne y, up_ne x]
    · by_cases c : j = k
      · rw [(e4 j (by omega)).1, (e4 j (by omega)).2, c]
        constructor
        · rw [up_ne (by omega), up_row, if_pos rfl]
        · rw [up_row, if_pos rfl]
      · exact e3 j (by omega) y
    · rw [(e4 j (by omega)).1, (e4 j (by omega)).2]
      constructor
      · rw [up_ne (by omega), up_row, if_neg (by omega)]
      · rw [up_row, if_neg (by omega), up_ne (by omega)]
theorem copy2_e {K : Mem → Option (Int × Mem)} (h : Mem) : fX12_rules_L52 fuel 0 h K = K (up (up (up (up h 43 0 (h 39 0)) 44 0 (h 40 0)) 43 1 (h 39 1)) 44 1 (h 40 1)) := by
  obtain ⟨F, hF, hF2⟩ := fuel_g
  obtain ⟨G, rfl⟩ : ∃ G, F = G + 1 + 1 + 1 := ⟨F - 3, by omega⟩
  clear hF2
  rw [hF, fX12_rules_L52]
  simp (disch := omega) only [if_true, if_false, if_pos, if_neg, wr_0, wr_id, gd_i, bnd_e, bd_s, bd2_s, jn_e, Int.toNat_natCast]
  rw [fX12_rules_L52]
  simp (disch := omega) only [if_true, if_false, if_pos, if_neg, wr_0, wr_id, gd_i, bnd_e, bd_s, bd2_s, jn_e, Int.toNat_natCast]
  rw [fX12_rules_L52]
  simp (disch := omega) only [if_true, if_false, if_pos, if_neg, wr_0, wr_id, gd_i, bnd_e, bd_s, bd2_s, jn_e, Int.toNat_natCast]
  rfl
theorem RCl_new {r : Nat} {g' h' : Mem} {C : tyC} {D : Nat × (Nat → Int)} {fr to : Nat → Int} {B : tyB} {c : Nat} (hn : C.1 ≤ 300) (hD : CR D C) (L : CLS C fr to B c) (a1 : g' (r + 1) = D.2) (a3 : g' (r + 3) = fr) (a4 : g' (r + 4) = to) (b1 : ∀ j, j < C.1 → h' 41 j = C.2.1 j ∧ h' 42 j = C.2.2 j) (b3 : h' 43 c = B.1 c) (b4 : h' 44 c = B.2.1 c) : RCl r g' h' c := by
  unfold RCl
  rw [a1, a3, a4, b3, b4]
  rcases L with ⟨l1, l2, l3⟩ | ⟨b, e, l1, l2, l3, l4, l5, l6, l7⟩
  · rw [l1, l2, l3]
    exact ⟨by omega, by omega, .inl ⟨rfl, by omega⟩⟩
  · rw [l1, l2, l3, l4]
    refine ⟨by omega, by omega, .inr ⟨rfl, rfl, by omega, fun k x y => ?_, ?_⟩⟩
    · rw [(b1 k (by omega)).1, (b1 k (by omega)).2]
      exact hD.2 k (by rw [hD.1]; omega)
    · rw [Int.toNat_natCast, show ((e : Int) - (b : Int)).toNat = e - b by omega, tyr_congr (f := C.2.1) _ _ _ (fun j x y => (b1 j (by omega)).1)]
      exact l7
theorem S_rules : Sim_rules RR := by
  intro n g h hn R
  obtain ⟨r, hs, hr⟩ := spare_e R
  obtain ⟨res, g', h', e1, e2, F, G, hres, hfin⟩ := both_e (r := r) (g := g) (h := h) (by omega) R.2.2.2.2.2.2.2.2.1
  have RP := RR_par hr hs R F G
  have r0 : g' 0 = g 0 := F 0 (by omega) (by omega) (by omega)
  have wres : wr res = res := wr_id (by omega) (by omega)
  by_cases c : res = -1
  · obtain ⟨D, C, fr, to, B, T, st, cs, pa, br, cm, p, f, dp, X, M, hD, L0, L1, hn3⟩ := hfin c
    obtain ⟨a, ha12, hav⟩ : ∃ a : Nat, g 0 12 = (a : Int) ∧ ((r = 47 ∧ a = 52) ∨ (r = 52 ∧ a = 47)) := by
      rcases hr with z | z
      · exact ⟨52, z.2.1, .inl ⟨z.1, rfl⟩⟩
      · exact ⟨47, z.2.1, .inr ⟨z.1, rfl⟩⟩
    obtain ⟨⟨_, _⟩, ⟨x1, x2⟩, ⟨x3, x4⟩, _⟩ := X
    obtain ⟨⟨_, _⟩, ⟨y1, y2, y3⟩, ⟨y4, y5, y6⟩, _⟩ := M
    obtain ⟨h2, k1, k2, k3, k4⟩ := copy1_e (K := fun (g_13 : Mem) => fX12_rules_L52 fuel 0 g_13 (fun (g_22 : Mem) => bnd (up g_22 0 48 0) fun g_23 => some (1, g_23))) hn3 C.1 fuel 0 h' (by omega) (by rw [fuel_s]; omega) y1
    refine ⟨1, 1, up (up (up g' 0 12 (r : Int)) 0 13 (a : Int)) 37 1 0, up (up (up (up (up h2 43 0 (h2 39 0)) 44 0 (h2 40 0)) 43 1 (h2 39 1)) 44 1 (h2 40 1)) 0 48 0, ?_, ?_, rfl, ?_⟩
    · unfold fX11_rules
      rw [hs, Int.toNat_natCast, bnd_e, gc_of (by omega), e1, bd2_s, wres, if_pos c, r0, ha12, Int.toNat_natCast, bnd_e, gc_of (by omega), hs, Int.toNat_natCast, bnd_e, gc_of (by omega), bnd_e, bnd_e, bnd_e]
    · unfold fX12_rules
      rw [e2, bd2_s, wres, if_pos c]
      have k1' : fX12_rules_L12 fuel 0 h' (fun (g_13 : Mem) => fX12_rules_L52 fuel 0 g_13 (fun (g_22 : Mem) => bnd (up g_22 0 48 0) fun g_23 => some (1, g_23))) = _ := k1
      rw [k1', copy2_e, bnd_e]
    · have T := RP.2.2.2.2.2.2.2.2.1
      have hrow : ∀ z, z ≠ 41 → z ≠ 42 → z ≠ 43 → z ≠ 44 → z ≠ 0 → up (up (up (up (up h2 43 0 (h2 39 0)) 44 0 (h2 40 0)) 43 1 (h2 39 1)) 44 1 (h2 40 1)) 0 48 0 z = h' z := fun z z1 z2 z3 z4 z5 => by
        rw [up_ne z5, up_ne z4, up_ne z3, up_ne z4, up_ne z3, k2 z z1 z2]
      have hrow0 : ∀ j, j ≠ 48 → up (up (up (up (up h2 43 0 (h2 39 0)) 44 0 (h2 40 0)) 43 1 (h2 39 1)) 44 1 (h2 40 1)) 0 48 0 0 j = h' 0 j := fun j hj => by
        rw [up_row, if_neg hj, up_ne (by omega), up_ne (by omega), up_ne (by omega), up_ne (by omega), k2 0 (by omega) (by omega)]
      have grow : ∀ z, z ≠ 0 → z ≠ 37 → up (up (up g' 0 12 (r : Int)) 0 13 (a : Int)) 37 1 0 z = g' z := fun z z1 z2 => by
        rw [up_ne z2, up_ne z1, up_ne z1]
      refine RR_txt RP (fun z hz => grow z (by omega) (by omega)) (fun b hb => ?_) (fun z hz => hrow z (by omega) (by omega) (by omega) (by omega) (by omega)) (fun b hb => hrow0 b (by omega)) ?_ ?_
      · rw [up_ne (by omega), up_row, if_neg (by omega), up_row, if_neg (by omega)]
      · refine ⟨?_, ?_, ?_, ?_⟩
        · rw [up_row, if_pos rfl]; omega
        · rw [up_row, if_pos rfl, up_row, if_pos rfl]
        · rw [hrow 35 (by omega) (by omega) (by omega) (by omega) (by omega)]; exact T.2.2.1
        · rw [hrow 35 (by omega) (by omega) (by omega) (by omega) (by omega), grow 38 (by omega) (by omega)]; exact T.2.2.2
      · have new : ∀ c, c < 2 → CLS C fr to B c → RCl r (up (up (up g' 0 12 (r : Int)) 0 13 (a : Int)) 37 1 0) (up (up (up (up (up h2 43 0 (h2 39 0)) 44 0 (h2 40 0)) 43 1 (h2 39 1)) 44 1 (h2 40 1)) 0 48 0) c := by
          intro c hc L
          refine RCl_new hn3 hD L (by rw [grow _ (by omega) (by omega)]; exact x2) (by rw [grow _ (by omega) (by omega)]; exact x3) (by rw [grow _ (by omega) (by omega)]; exact x4) (fun j hj => ?_) ?_ ?_
          · rw [up_ne (by omega), up_ne (by omega), up_ne (by omega), up_ne (by omega), up_ne (by omega), up_ne (by omega), up_ne (by omega), up_ne (by omega), up_ne (by omega), up_ne (by omega), (k3 j (by omega) hj).1, (k3 j (by omega) hj).2, y2, y3]
            exact ⟨rfl, rfl⟩
          · rw [← y4, ← k2 39 (by omega) (by omega)]
            rcases (by omega : c = 0 ∨ c = 1) with rfl | rfl
            · rfl
            · rfl
          · rw [← y5, ← k2 40 (by omega) (by omega)]
            rcases (by omega : c = 0 ∨ c = 1) with rfl | rfl
            · rfl
            · rfl
        unfold RRules
        rcases hav with ⟨rfl, rfl⟩ | ⟨rfl, rfl⟩
        · exact .inl ⟨rfl, rfl, new 0 (by omega) L0, new 1 (by omega) L1⟩
        · exact .inr ⟨rfl, rfl, new 0 (by omega) L0, new 1 (by omega) L1⟩
  · refine ⟨0, 0, g', h', ?_, ?_, rfl, RP⟩
    · unfold fX11_rules
      rw [hs, Int.toNat_natCast, bnd_e, gc_of (by omega), e1, bd2_s, wres, if_neg c]
    · unfold fX12_rules
      rw [e2, bd2_s, wres, if_neg c]
