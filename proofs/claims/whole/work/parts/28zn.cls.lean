/-! THE CLASS's parser, its cells told -/
def FX (r : Nat) (g0 g : Mem) : Prop := ∀ a, a ≠ 39 → a ≠ 40 → (a < r ∨ r + 4 < a) → g a = g0 a
def XS (r : Nat) (g0 g : Mem) (W : List Int) (D : Nat × (Nat → Int)) (fr to : Nat → Int) (st cs dp pa br cm p f : Int) : Prop :=
  (g 39 1 = (W.length : Int) ∧ Stk (g 40) W) ∧ (g r 4 = (D.1 : Int) ∧ g (r + 1) = D.2) ∧ (g (r + 3) = fr ∧ g (r + 4) = to) ∧ (g 39 2 = p ∧ g 39 3 = f) ∧ (g 39 4 = st ∧ g 39 5 = cs ∧ g 39 6 = dp ∧ g 39 7 = pa ∧ g 39 8 = br ∧ g 39 9 = cm) ∧ FX r g0 g
theorem FX_39 {r : Nat} {g0 g : Mem} {j : Nat} {v : Int} (F : FX r g0 g) : FX r g0 (up g 39 j v) := by
  intro a h1 h2 h3; rw [up_ne h1]; exact F a h1 h2 h3
theorem FX_40 {r : Nat} {g0 g : Mem} {j : Nat} {v : Int} (F : FX r g0 g) : FX r g0 (up g 40 j v) := by
  intro a h1 h2 h3; rw [up_ne h2]; exact F a h1 h2 h3
theorem FX_r {r k : Nat} {g0 g : Mem} {j : Nat} {v : Int} (hk : r ≤ k ∧ k ≤ r + 4) (F : FX r g0 g) : FX r g0 (up g k j v) := by
  intro a h1 h2 h3; rw [up_ne (by omega)]; exact F a h1 h2 h3
def xem (D : Nat × (Nat → Int)) (t : Int) : Nat × (Nat → Int) := (D.1 + 1, ups D.2 D.1 t)
theorem x_st {r : Nat} {g0 g : Mem} {W : List Int} {D : Nat × (Nat → Int)} {fr to : Nat → Int} {st cs dp pa br cm p f : Int} {v : Int} (hr : 41 ≤ r) (X : XS r g0 g W D fr to st cs dp pa br cm p f) : XS r g0 (up g 39 4 v) W D fr to v cs dp pa br cm p f := by
  obtain ⟨a, ⟨b1, b2⟩, ⟨c1, c2⟩, d, ⟨e1, e2, e3, e4, e5, e6⟩, ff⟩ := X
  exact ⟨a, ⟨by rw [up_ne (by omega)]; exact b1, by rw [up_ne (by omega)]; exact b2⟩, ⟨by rw [up_ne (by omega)]; exact c1, by rw [up_ne (by omega)]; exact c2⟩, d, ⟨rfl, e2, e3, e4, e5, e6⟩, FX_39 ff⟩
theorem x_cs {r : Nat} {g0 g : Mem} {W : List Int} {D : Nat × (Nat → Int)} {fr to : Nat → Int} {st cs dp pa br cm p f : Int} {v : Int} (hr : 41 ≤ r) (X : XS r g0 g W D fr to st cs dp pa br cm p f) : XS r g0 (up g 39 5 v) W D fr to st v dp pa br cm p f := by
  obtain ⟨a, ⟨b1, b2⟩, ⟨c1, c2⟩, d, ⟨e1, e2, e3, e4, e5, e6⟩, ff⟩ := X
  exact ⟨a, ⟨by rw [up_ne (by omega)]; exact b1, by rw [up_ne (by omega)]; exact b2⟩, ⟨by rw [up_ne (by omega)]; exact c1, by rw [up_ne (by omega)]; exact c2⟩, d, ⟨e1, rfl, e3, e4, e5, e6⟩, FX_39 ff⟩
theorem x_dp {r : Nat} {g0 g : Mem} {W : List Int} {D : Nat × (Nat → Int)} {fr to : Nat → Int} {st cs dp pa br cm p f : Int} {v : Int} (hr : 41 ≤ r) (X : XS r g0 g W D fr to st cs dp pa br cm p f) : XS r g0 (up g 39 6 v) W D fr to st cs v pa br cm p f := by
  obtain ⟨a, ⟨b1, b2⟩, ⟨c1, c2⟩, d, ⟨e1, e2, e3, e4, e5, e6⟩, ff⟩ := X
  exact ⟨a, ⟨by rw [up_ne (by omega)]; exact b1, by rw [up_ne (by omega)]; exact b2⟩, ⟨by rw [up_ne (by omega)]; exact c1, by rw [up_ne (by omega)]; exact c2⟩, d, ⟨e1, e2, rfl, e4, e5, e6⟩, FX_39 ff⟩
theorem x_pa {r : Nat} {g0 g : Mem} {W : List Int} {D : Nat × (Nat → Int)} {fr to : Nat → Int} {st cs dp pa br cm p f : Int} {v : Int} (hr : 41 ≤ r) (X : XS r g0 g W D fr to st cs dp pa br cm p f) : XS r g0 (up g 39 7 v) W D fr to st cs dp v br cm p f := by
  obtain ⟨a, ⟨b1, b2⟩, ⟨c1, c2⟩, d, ⟨e1, e2, e3, e4, e5, e6⟩, ff⟩ := X
  exact ⟨a, ⟨by rw [up_ne (by omega)]; exact b1, by rw [up_ne (by omega)]; exact b2⟩, ⟨by rw [up_ne (by omega)]; exact c1, by rw [up_ne (by omega)]; exact c2⟩, d, ⟨e1, e2, e3, rfl, e5, e6⟩, FX_39 ff⟩
theorem x_br {r : Nat} {g0 g : Mem} {W : List Int} {D : Nat × (Nat → Int)} {fr to : Nat → Int} {st cs dp pa br cm p f : Int} {v : Int} (hr : 41 ≤ r) (X : XS r g0 g W D fr to st cs dp pa br cm p f) : XS r g0 (up g 39 8 v) W D fr to st cs dp pa v cm p f := by
  obtain ⟨a, ⟨b1, b2⟩, ⟨c1, c2⟩, d, ⟨e1, e2, e3, e4, e5, e6⟩, ff⟩ := X
  exact ⟨a, ⟨by rw [up_ne (by omega)]; exact b1, by rw [up_ne (by omega)]; exact b2⟩, ⟨by rw [up_ne (by omega)]; exact c1, by rw [up_ne (by omega)]; exact c2⟩, d, ⟨e1, e2, e3, e4, rfl, e6⟩, FX_39 ff⟩
theorem x_cm {r : Nat} {g0 g : Mem} {W : List Int} {D : Nat × (Nat → Int)} {fr to : Nat → Int} {st cs dp pa br cm p f : Int} {v : Int} (hr : 41 ≤ r) (X : XS r g0 g W D fr to st cs dp pa br cm p f) : XS r g0 (up g 39 9 v) W D fr to st cs dp pa br v p f := by
  obtain ⟨a, ⟨b1, b2⟩, ⟨c1, c2⟩, d, ⟨e1, e2, e3, e4, e5, e6⟩, ff⟩ := X
  exact ⟨a, ⟨by rw [up_ne (by omega)]; exact b1, by rw [up_ne (by omega)]; exact b2⟩, ⟨by rw [up_ne (by omega)]; exact c1, by rw [up_ne (by omega)]; exact c2⟩, d, ⟨e1, e2, e3, e4, e5, rfl⟩, FX_39 ff⟩
theorem x_pf {r : Nat} {g0 g g' : Mem} {W : List Int} {D : Nat × (Nat → Int)} {fr to : Nat → Int} {st cs dp pa br cm p f p' f' : Int} (hr : 41 ≤ r) (n1 : g' 39 2 = p') (n2 : g' 39 3 = f') (n3 : ∀ a, a ≠ 39 → g' a = g a) (n4 : ∀ c, c ≠ 2 → c ≠ 3 → g' 39 c = g 39 c) (X : XS r g0 g W D fr to st cs dp pa br cm p f) : XS r g0 g' W D fr to st cs dp pa br cm p' f' := by
  obtain ⟨⟨a1, a2⟩, ⟨b1, b2⟩, ⟨c1, c2⟩, d, ⟨e1, e2, e3, e4, e5, e6⟩, ff⟩ := X
  refine ⟨⟨?_, ?_⟩, ⟨?_, ?_⟩, ⟨?_, ?_⟩, ⟨n1, n2⟩, ⟨?_, ?_, ?_, ?_, ?_, ?_⟩, fun a h1 h2 h3 => ?_⟩
  · rw [n4 1 (by omega) (by omega)]; exact a1
  · rw [n3 40 (by omega)]; exact a2
  · rw [n3 r (by omega)]; exact b1
  · rw [n3 (r + 1) (by omega)]; exact b2
  · rw [n3 (r + 3) (by omega)]; exact c1
  · rw [n3 (r + 4) (by omega)]; exact c2
  · rw [n4 4 (by omega) (by omega)]; exact e1
  · rw [n4 5 (by omega) (by omega)]; exact e2
  · rw [n4 6 (by omega) (by omega)]; exact e3
  · rw [n4 7 (by omega) (by omega)]; exact e4
  · rw [n4 8 (by omega) (by omega)]; exact e5
  · rw [n4 9 (by omega) (by omega)]; exact e6
  · rw [n3 a h1]; exact ff a h1 h2 h3
theorem x_await {r : Nat} {g0 g : Mem} {W : List Int} {D : Nat × (Nat → Int)} {fr to : Nat → Int} {st cs dp pa br cm p f : Int} (t : Int) (hr : 41 ≤ r) (hl : W.length < 32) (X : XS r g0 g W D fr to st cs dp pa br cm p f) : ∃ g', fX5_await t g = some g' ∧ XS r g0 g' (t :: W) D fr to st cs dp pa br cm p f := by
  obtain ⟨⟨a1, a2⟩, ⟨b1, b2⟩, ⟨c1, c2⟩, d, e, ff⟩ := X
  have u1 : up g 40 W.length t 39 1 = (W.length : Int) := a1
  refine ⟨up (up g 40 W.length t) 39 1 ((W.length : Int) + 1), ?_, ⟨rfl, ?_, ?_⟩, ⟨?_, ?_⟩, ⟨?_, ?_⟩, d, e, FX_39 (FX_40 ff)⟩
  · unfold fX5_await
    simp (disch := omega) only [if_true, if_false, if_pos, if_neg, wr_0, wr_id, gd_i, bnd_e, bd_s, bd2_s, jn_e, Int.toNat_natCast, a1, u1]
  · simp [up]
  · refine Stk_up (fun j hj => ?_) a2
    have : j ≠ W.length := by omega
    simp [up, this]
  · rw [up_ne (by omega), up_ne (by omega)]; exact b1
  · rw [up_ne (by omega), up_ne (by omega)]; exact b2
  · rw [up_ne (by omega), up_ne (by omega)]; exact c1
  · rw [up_ne (by omega), up_ne (by omega)]; exact c2
theorem x_emit {r : Nat} {g0 g : Mem} {W : List Int} {D : Nat × (Nat → Int)} {fr to : Nat → Int} {st cs dp pa br cm p f : Int} (t : Int) (hr : 41 ≤ r) (hn : D.1 < 300) (X : XS r g0 g W D fr to st cs dp pa br cm p f) : ∃ g', fX7_emit r t g = some g' ∧ XS r g0 g' W (xem D t) fr to st cs dp pa br cm p f := by
  obtain ⟨⟨a1, a2⟩, ⟨b1, b2⟩, ⟨c1, c2⟩, d, e, ff⟩ := X
  have u1 : up g (r + 1) D.1 t r 4 = (D.1 : Int) := by rw [up_ne (by omega)]; exact b1
  have rn : ∀ a, a ≠ r → a ≠ r + 1 → up (up g (r + 1) D.1 t) r 4 ((D.1 : Int) + 1) a = g a := fun a h1 h2 => by rw [up_ne h1, up_ne h2]
  refine ⟨up (up g (r + 1) D.1 t) r 4 ((D.1 : Int) + 1), ?_, ⟨?_, ?_⟩, ⟨?_, ?_⟩, ⟨?_, ?_⟩, ?_, ?_, FX_r (by omega) (FX_r (by omega) ff)⟩
  · unfold fX7_emit
    simp (disch := omega) only [if_true, if_false, if_pos, if_neg, wr_0, wr_id, gd_i, bnd_e, bd_s, bd2_s, jn_e, Int.toNat_natCast, b1, u1]
  · rw [rn 39 (by omega) (by omega)]; exact a1
  · rw [rn 40 (by omega) (by omega)]; exact a2
  · rw [up_row, if_pos rfl]; rfl
  · show _ = ups D.2 D.1 t
    rw [up_ne (by omega), ← b2]; funext j; simp [up, ups]
  · rw [rn _ (by omega) (by omega)]; exact c1
  · rw [rn _ (by omega) (by omega)]; exact c2
  · rw [rn 39 (by omega) (by omega)]; exact d
  · rw [rn 39 (by omega) (by omega)]; exact e
theorem x_deep {r : Nat} {g0 g : Mem} {W : List Int} {D : Nat × (Nat → Int)} {fr to : Nat → Int} {st cs dp pa br cm p f : Int} (t : Int) (hr : 41 ≤ r) (hl : W.length < 32) (hd : 0 ≤ dp ∧ dp < 8) (X : XS r g0 g W D fr to st cs dp pa br cm p f) : ∃ g', fX5_goDeeper t g = some (1, g') ∧ XS r g0 g' (t :: W) D fr to st cs (dp + 1) pa br cm p f := by
  have e3 : g 39 6 = dp := X.2.2.2.2.1.2.2.1
  obtain ⟨g', e, X'⟩ := x_await t hr hl (x_dp (v := dp + 1) hr X)
  refine ⟨g', ?_, X'⟩
  unfold fX5_goDeeper
  rw [e3, if_pos (by rw [wr_id (by omega) (by omega)]; omega), bnd_e, e, bd_s]
theorem x_deepf {r : Nat} {g0 g : Mem} {W : List Int} {D : Nat × (Nat → Int)} {fr to : Nat → Int} {st cs pa br cm p f : Int} (t : Int) (X : XS r g0 g W D fr to st cs 8 pa br cm p f) : fX5_goDeeper t g = some (0, g) := by
  have e3 : g 39 6 = 8 := X.2.2.2.2.1.2.2.1
  unfold fX5_goDeeper
  rw [e3, if_neg (by decide)]
theorem x_popW {r : Nat} {g0 g : Mem} {t : Int} {W : List Int} {D : Nat × (Nat → Int)} {fr to : Nat → Int} {st cs dp pa br cm p f : Int} (hr : 41 ≤ r) (X : XS r g0 g (t :: W) D fr to st cs dp pa br cm p f) : XS r g0 (up g 39 1 (W.length : Int)) W D fr to st cs dp pa br cm p f := by
  obtain ⟨⟨a1, a2, a3⟩, ⟨b1, b2⟩, ⟨c1, c2⟩, d, e, ff⟩ := X
  exact ⟨⟨rfl, a3⟩, ⟨by rw [up_ne (by omega)]; exact b1, by rw [up_ne (by omega)]; exact b2⟩, ⟨by rw [up_ne (by omega)]; exact c1, by rw [up_ne (by omega)]; exact c2⟩, d, e, FX_39 ff⟩
theorem x_drop {r : Nat} {g0 g : Mem} {t : Int} {W : List Int} {D : Nat × (Nat → Int)} {fr to : Nat → Int} {st cs dp pa br cm p f : Int} (hr : 41 ≤ r) (hl : W.length < 32) (X : XS r g0 g (t :: W) D fr to st cs dp pa br cm p f) : ∃ g', fX5_dropOpener g = some g' ∧ XS r g0 g' W D fr to st cs (dp - 1) pa br cm p f := by
  have a1 : g 39 1 = (W.length : Int) + 1 := X.1.1
  have e3 : g 39 6 = dp := X.2.2.2.2.1.2.2.1
  have X2 := x_popW hr X
  have u1 : up g 39 1 (W.length : Int) 39 6 = dp := e3
  have e1 : (W.length : Int) + 1 - 1 = (W.length : Int) := by omega
  refine ⟨up (up g 39 1 (W.length : Int)) 39 6 (dp - 1), ?_, x_dp hr X2⟩
  unfold fX5_dropOpener
  simp (disch := omega) only [if_true, if_false, if_pos, if_neg, wr_0, wr_id, gd_i, bnd_e, bd_s, bd2_s, jn_e, Int.toNat_natCast, a1, e1, u1]
theorem wtE {t : Int} (h : 0 ≤ t ∧ t ≤ 20000) : wr t = t := wr_id (by omega) (by omega)
def bdg (t : Int) : Int := if t = 10010 then 1 else if t = 10011 then 2 else if t = 10012 then 3 else if t = 10013 then 4 else if t = 10014 then 4 else if t = 10015 then 4 else if t = 10016 then 5 else if t = 10017 then 5 else if t = 10018 then 6 else if t = 10019 then 6 else 0
theorem bind_e {t : Int} (ht : 0 ≤ t ∧ t ≤ 20000) : fX5_bindingOf t = some (bdg t) := by
  unfold fX5_bindingOf bdg
  rw [wr_id (by omega) (by omega)]
  split
  · rfl
  split
  · rfl
  split
  · rfl
  split
  · rfl
  split
  · rfl
  split
  · rfl
  split
  · rfl
  split
  · rfl
  split
  · rfl
  split
  · rfl
  rfl
theorem bdg_bd (t : Int) : 0 ≤ bdg t ∧ bdg t ≤ 6 := by
  unfold bdg
  repeat' split
  all_goals omega
theorem wr_gt0 {x : Int} (h : 0 < x ∧ x ≤ 32) : ¬ wr x ≤ 0 := by rw [wr_id (by omega) (by omega)]; omega
theorem wr_le32 {x : Int} (h : 0 < x ∧ x ≤ 32) : ¬ 32 < wr x := by rw [wr_id (by omega) (by omega)]; omega
theorem wr_lt2 {x y : Int} (hx : 0 ≤ x ∧ x ≤ 6) (hy : 0 ≤ y ∧ y ≤ 6) (h : y ≤ x) : ¬ wr x < wr y := by rw [wr_id (by omega) (by omega), wr_id (by omega) (by omega)]; omega
theorem wr_lt3 {x y : Int} (hx : 0 ≤ x ∧ x ≤ 6) (hy : 0 ≤ y ∧ y ≤ 6) (h : x < y) : wr x < wr y := by rw [wr_id (by omega) (by omega), wr_id (by omega) (by omega)]; omega
def nob (t : Int) : Int := if t = 10012 then 1 else 0
theorem x_rel1 {r : Nat} {g0 g : Mem} {t b : Int} {W : List Int} {D : Nat × (Nat → Int)} {fr to : Nat → Int} {st cs dp pa br cm p f : Int} (N : Nat) (hr : 41 ≤ r) (hl : W.length < 32) (ht : 0 ≤ t ∧ t ≤ 20000) (hb : 0 ≤ b ∧ b ≤ bdg t) (hn : D.1 < 300) (X : XS r g0 g (t :: W) D fr to st cs dp pa br cm p f) : ∃ g', fX5_release_L0 r (N + 1) b g = fX5_release_L0 r N b g' ∧ XS r g0 g' W (xem D t) fr to st cs (dp - nob t) pa br cm p f := by
  have a1 : g 39 1 = (W.length : Int) + 1 := X.1.1
  have a2 : g 40 W.length = t := X.1.2.1
  have e3 : g 39 6 = dp := X.2.2.2.2.1.2.2.1
  have X2 := x_popW hr X
  have bb := bdg_bd t
  have e1 : (W.length : Int) + 1 - 1 = (W.length : Int) := by omega
  have gi : ∀ z : Option Mem, gd (W.length : Int) 32 z = z := fun z => gd_i (by omega) (by omega) (by omega)
  have hL : 0 < (W.length : Int) + 1 ∧ (W.length : Int) + 1 ≤ 32 := by omega
  have hb6 : 0 ≤ b ∧ b ≤ 6 := by omega
  have wl : wr (W.length : Int) = (W.length : Int) := wr_id (by omega) (by omega)
  have wt : wr t = t := wtE ht
  have u1 : up g 39 1 (W.length : Int) 39 1 = (W.length : Int) := rfl
  have u2 : up g 39 1 (W.length : Int) 40 W.length = t := a2
  have u3 : up g 39 1 (W.length : Int) 39 6 = dp := e3
  rw [fX5_release_L0, a1, if_neg (wr_gt0 hL), if_neg (wr_le32 hL), e1, gi, wl, Int.toNat_natCast, a2, bind_e ht, bd_s, if_neg (wr_lt2 bb hb6 hb.2), bnd_e, u1, gi, jn_e, wl, Int.toNat_natCast, u2, wt]
  by_cases c : t = 10012
  · obtain ⟨g', e, X3⟩ := x_emit t hr hn (x_dp (v := dp - 1) hr X2)
    refine ⟨g', ?_, ?_⟩
    · rw [if_pos c, bnd_e, u3]
      have v1 : up (up g 39 1 (W.length : Int)) 39 6 (dp - 1) 39 1 = (W.length : Int) := rfl
      have v2 : up (up g 39 1 (W.length : Int)) 39 6 (dp - 1) 40 W.length = t := a2
      dsimp only
      rw [v1, gi, wl, Int.toNat_natCast, v2, e, bd_s]
    · rw [show nob t = 1 from if_pos c]; exact X3
  · obtain ⟨g', e, X3⟩ := x_emit t hr hn X2
    refine ⟨g', ?_, ?_⟩
    · rw [if_neg c]
      dsimp only
      rw [u1, gi, wl, Int.toNat_natCast, u2, e, bd_s]
    · rw [show nob t = 0 from if_neg c, Int.sub_zero]; exact X3
def bW : List Int → Int
  | [] => 0
  | t :: _ => bdg t
theorem x_rel0 {r : Nat} {g0 g : Mem} {W : List Int} {D : Nat × (Nat → Int)} {fr to : Nat → Int} {st cs dp pa br cm p f : Int} {b : Int} (N : Nat) (hl : W.length < 32) (ht : ∀ t, t ∈ W → 0 ≤ t ∧ t ≤ 20000) (hb : bW W < b ∧ b ≤ 6) (X : XS r g0 g W D fr to st cs dp pa br cm p f) : fX5_release_L0 r (N + 1) b g = some g := by
  have a1 := X.1.1
  have a2 := X.1.2
  rw [fX5_release_L0, a1]
  cases W with
  | nil => rw [if_pos (by decide)]
  | cons t W =>
    have bb := bdg_bd t
    have hb' : bdg t < b := hb.1
    have l' : W.length + 1 < 32 := hl
    have e0 : (((t :: W).length : Nat) : Int) = (W.length : Int) + 1 := rfl
    have e1 : (W.length : Int) + 1 - 1 = (W.length : Int) := by omega
    have hL : 0 < (W.length : Int) + 1 ∧ (W.length : Int) + 1 ≤ 32 := by omega
    have hb6 : 0 ≤ b ∧ b ≤ 6 := by omega
    have gi : ∀ z : Option Mem, gd (W.length : Int) 32 z = z := fun z => gd_i (by omega) (by omega) (by omega)
    have wl : wr (W.length : Int) = (W.length : Int) := wr_id (by omega) (by omega)
    rw [e0, if_neg (wr_gt0 hL), if_neg (wr_le32 hL), e1, gi, wl, Int.toNat_natCast, a2.1, bind_e (ht t (by simp)), bd_s, if_pos (wr_lt3 bb hb6 hb')]
