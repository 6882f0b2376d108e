/-! THE BASE: numbers as Int, memory as rows of Int, partial programs, and the rows of plain instructions over them -/
abbrev Mem : Type := Nat → Nat → Int
def up (g : Mem) (k j : Nat) (v : Int) : Mem := fun a b => if a = k ∧ b = j then v else g a b
theorem up_ne {g : Mem} {k j a : Nat} {v : Int} (h : a ≠ k) : up g k j v a = g a := by
  funext b; simp [up, h]
theorem up_row {g : Mem} {k j : Nat} {v : Int} (b : Nat) : up g k j v k b = if b = j then v else g k b := by simp [up]
/-- the int, the long that a machine word holds -/
def wr (z : Int) : Int := z.bmod 4294967296
def wl (z : Int) : Int := z.bmod 18446744073709551616
def vi (z : Int) : Value := .int (Int32.ofInt z)
def vl (z : Int) : Value := .long (Int64.ofInt z)
theorem wr_id {z : Int} (h1 : -2147483648 ≤ z) (h2 : z < 2147483648) : wr z = z := by
  unfold wr; rw [Int.bmod_def]; omega
theorem wl_id {z : Int} (h1 : -9223372036854775808 ≤ z) (h2 : z < 9223372036854775808) : wl z = z := by
  unfold wl; rw [Int.bmod_def]; omega
theorem wr_rng (z : Int) : -2147483648 ≤ wr z ∧ wr z < 2147483648 := by
  unfold wr; rw [Int.bmod_def]; omega
theorem wl_rng (z : Int) : -9223372036854775808 ≤ wl z ∧ wl z < 9223372036854775808 := by
  unfold wl; rw [Int.bmod_def]; omega
theorem ti (z : Int) : (Int32.ofInt z).toInt = wr z := Int32.toInt_ofInt
theorem tl (z : Int) : (Int64.ofInt z).toInt = wl z := Int64.toInt_ofInt
theorem oi (x : Int32) : Int32.ofInt x.toInt = x := Int32.ofInt_toInt x
theorem ol (x : Int64) : Int64.ofInt x.toInt = x := Int64.ofInt_toInt x
theorem oi_wr (z : Int) : Int32.ofInt (wr z) = Int32.ofInt z := by rw [← ti, oi]
theorem ol_wl (z : Int) : Int64.ofInt (wl z) = Int64.ofInt z := by rw [← tl, ol]
theorem oi_eq {a b : Int} : Int32.ofInt a = Int32.ofInt b ↔ wr a = wr b := by
  rw [← Int32.toInt_inj, ti, ti]
theorem ol_eq {a b : Int} : Int64.ofInt a = Int64.ofInt b ↔ wl a = wl b := by
  rw [← Int64.toInt_inj, tl, tl]
theorem oi_lt {a b : Int} : Int32.ofInt a < Int32.ofInt b ↔ wr a < wr b := by
  rw [Int32.lt_iff_toInt_lt, ti, ti]
theorem oi_le {a b : Int} : Int32.ofInt a ≤ Int32.ofInt b ↔ wr a ≤ wr b := by
  rw [Int32.le_iff_toInt_le, ti, ti]
theorem ol_lt {a b : Int} : Int64.ofInt a < Int64.ofInt b ↔ wl a < wl b := by
  rw [Int64.lt_iff_toInt_lt, tl, tl]
theorem o0 : (0 : Int32) = Int32.ofInt 0 := rfl
theorem wr_0 : wr 0 = 0 := by decide
theorem oz_eq {a : Int} : Int32.ofInt a = 0 ↔ wr a = 0 := by rw [o0, oi_eq, wr_0]
theorem oz_lt {a : Int} : Int32.ofInt a < 0 ↔ wr a < 0 := by rw [o0, oi_lt, wr_0]
theorem oz_le {a : Int} : Int32.ofInt a ≤ 0 ↔ wr a ≤ 0 := by rw [o0, oi_le, wr_0]
theorem oz_gt {a : Int} : 0 < Int32.ofInt a ↔ 0 < wr a := by rw [o0, oi_lt, wr_0]
theorem oz_ge {a : Int} : 0 ≤ Int32.ofInt a ↔ 0 ≤ wr a := by rw [o0, oi_le, wr_0]
theorem oi_div (a b : Int) : Int32.ofInt a / Int32.ofInt b = Int32.ofInt ((wr a).tdiv (wr b)) := by
  rw [← Int32.toInt_inj, ti, Int32.toInt_div, ti, ti]; rfl
theorem ol_div (a b : Int) : Int64.ofInt a / Int64.ofInt b = Int64.ofInt ((wl a).tdiv (wl b)) := by
  rw [← Int64.toInt_inj, tl, Int64.toInt_div, tl, tl]; rfl
theorem oi_rem (a b : Int) : Int32.ofInt a - Int32.ofInt a / Int32.ofInt b * Int32.ofInt b = Int32.ofInt ((wr a).tmod (wr b)) := by
  rw [oi_div, ← oi_wr a, ← oi_wr b, ← Int32.ofInt_mul, ← Int32.ofInt_sub, Int.tmod_def, Int.mul_comm (wr b)]
theorem ol_oi (a : Int) : (Int32.ofInt a).toInt64 = Int64.ofInt (wr a) := by
  rw [← Int64.toInt_inj, tl, Int32.toInt_toInt64, ti, wl_id] <;> have := wr_rng a <;> omega
theorem oi_ol (a : Int) : (Int64.ofInt a).toInt32 = Int32.ofInt a := by
  rw [← Int32.toInt_inj, ti, Int64.toInt_toInt32, tl]
  unfold wl wr
  rw [Int.bmod_bmod_of_dvd]
  exact ⟨4294967296, rfl⟩
/-- bytes -/
def w8 (z : Int) : Int := z.bmod 256
theorem oi_b (a : Int) : (Int32.ofInt a).toInt8.toInt32 = Int32.ofInt (w8 a) := by
  rw [← Int32.toInt_inj, ti, Int8.toInt_toInt32, Int32.toInt_toInt8, ti]
  unfold w8 wr
  have e1 : (a.bmod 4294967296).bmod 256 = a.bmod 256 := Int.bmod_bmod_of_dvd (show (256 : Nat) ∣ 4294967296 from ⟨16777216, rfl⟩)
  show (a.bmod 4294967296).bmod 256 = _
  rw [e1]
  have h : -128 ≤ a.bmod 256 ∧ a.bmod 256 < 128 := by rw [Int.bmod_def]; omega
  exact (wr_id (z := a.bmod 256) (by omega) (by omega)).symm
theorem vpin {e : Int} {n : Nat} (h : 0 ≤ wr e ∧ wr e < (n : Int)) : vp_in (Int32.ofInt e) n := by
  rw [vp_in_iff, ti]; exact h
theorem clamp (e : Int) : (Int32.ofInt e).toNatClampNeg = (wr e).toNat := by
  rw [← ti]; rfl
/-- partial programs -/
def bnd {α β : Type} (x : α) (f : α → Option β) : Option β := f x
theorem bnd_some {α β : Type} {x : α} {f : α → Option β} {r : β} (h : bnd x f = some r) : ∃ y, y = x ∧ f y = some r := ⟨x, rfl, h⟩
def bd {α β : Type} (o : Option α) (f : α → Option β) : Option β := match o with
  | none => none
  | some x => f x
theorem bd_some {α β : Type} {o : Option α} {f : α → Option β} {r : β} (h : bd o f = some r) : ∃ y, o = some y ∧ f y = some r := by
  cases o with
  | none => cases h
  | some x => exact ⟨x, rfl, h⟩
theorem bd_of {α β : Type} {o : Option α} {f : α → Option β} {x : α} (h : o = some x) : bd o f = f x := by rw [h]; rfl
def bd2 {α β γ : Type} (o : Option (α × β)) (f : α → β → Option γ) : Option γ := match o with
  | none => none
  | some x => f x.1 x.2
theorem bd2_some {α β γ : Type} {o : Option (α × β)} {f : α → β → Option γ} {r : γ} (h : bd2 o f = some r) : ∃ a b, o = some (a, b) ∧ f a b = some r := by
  cases o with
  | none => cases h
  | some x => exact ⟨x.1, x.2, rfl, h⟩
theorem bd2_of {α β γ : Type} {o : Option (α × β)} {f : α → β → Option γ} {a : α} {b : β} (h : o = some (a, b)) : bd2 o f = f a b := by rw [h]; rfl
def gc {β : Type} (c : Prop) [Decidable c] (k : Option β) : Option β := if c then k else none
theorem gc_some {β : Type} {c : Prop} [Decidable c] {k : Option β} {r : β} (h : gc c k = some r) : c ∧ k = some r := by
  unfold gc at h
  by_cases hc : c
  · rw [if_pos hc] at h; exact ⟨hc, h⟩
  · rw [if_neg hc] at h; cases h
theorem gc_of {β : Type} {c : Prop} [Decidable c] {k : Option β} (h : c) : gc c k = k := if_pos h
def gd {β : Type} (i : Int) (n : Nat) (k : Option β) : Option β := gc (0 ≤ wr i ∧ wr i < (n : Int)) k
theorem gd_some {β : Type} {i : Int} {n : Nat} {k : Option β} {r : β} (h : gd i n k = some r) : (0 ≤ wr i ∧ wr i < (n : Int)) ∧ k = some r := gc_some h
theorem it_t {β : Type} {c : Prop} [Decidable c] {a b : Option β} {r : β} (hc : c) (h : (if c then a else b) = some r) : a = some r := by rw [if_pos hc] at h; exact h
theorem it_f {β : Type} {c : Prop} [Decidable c] {a b : Option β} {r : β} (hc : ¬ c) (h : (if c then a else b) = some r) : b = some r := by rw [if_neg hc] at h; exact h
def jn {κ β : Type} (K : κ) (body : κ → Option β) : Option β := body K
section BASE
variable {p : Program} {l : Launch} {e : Env} {R : Room} {s : State} {m : MethodId} {args : Array Value} {below : List Frame} {meth : Method} {c : Code} {H : Heap} {locs : List Loc} {cells slots : Nat} {Q : State → Prop}
variable {cc : ByteArray} {pc : Nat} {ls : Array Slot} {rest : List Value} {a b : Int}
theorem x_iconst (hx : p.tables.exec = Jvm.exec) (hb : c.code = cc) {n : Int} (hdg : decode cc pc = .ok (.iconst n, 1)) (k : W p l e R s m args below meth c H locs cells slots Q (F0 m (pc + 1) ls (vi n :: rest))) : W p l e R s m args below meth c H locs cells slots Q (F0 m pc ls rest) := lv_iconst hx hb hdg rfl k
theorem x_bipush (hx : p.tables.exec = Jvm.exec) (hb : c.code = cc) {n : Int} (hn : (Int8.ofInt n).toInt32 = Int32.ofInt n) (hdg : decode cc pc = .ok (.bipush n, 2)) (k : W p l e R s m args below meth c H locs cells slots Q (F0 m (pc + 2) ls (vi n :: rest))) : W p l e R s m args below meth c H locs cells slots Q (F0 m pc ls rest) := lv_bipush hx hb hdg hn k
theorem x_sipush (hx : p.tables.exec = Jvm.exec) (hb : c.code = cc) {n : Int} (hn : (Int16.ofInt n).toInt32 = Int32.ofInt n) (hdg : decode cc pc = .ok (.sipush n, 3)) (k : W p l e R s m args below meth c H locs cells slots Q (F0 m (pc + 3) ls (vi n :: rest))) : W p l e R s m args below meth c H locs cells slots Q (F0 m pc ls rest) := lv_sipush hx hb hdg hn k
theorem x_ldc (hx : p.tables.exec = Jvm.exec) (hb : c.code = cc) {own : String} {index : Nat} {n : Int} (hown : s.vm.findClass own = some m.cls) (hconst : (Jvm.Cond.constant own index (Int32.ofInt n)).before args s = true) (hdg : decode cc pc = .ok (.ldc index, 2)) (k : W p l e R s m args below meth c H locs cells slots Q (F0 m (pc + 2) ls (vi n :: rest))) : W p l e R s m args below meth c H locs cells slots Q (F0 m pc ls rest) := lv_ldc hx hb hown hconst hdg k
theorem x_iload_n (hx : p.tables.exec = Jvm.exec) (hb : c.code = cc) {k : Fin 4} {i : Nat} (hdg : decode cc pc = .ok (.iload_n k, 1)) (hi : (k : Nat) = i) (hl : ls[i]? = some (.val (vi a))) (kk : W p l e R s m args below meth c H locs cells slots Q (F0 m (pc + 1) ls (vi a :: rest))) : W p l e R s m args below meth c H locs cells slots Q (F0 m pc ls rest) := lv_iload_n hx hb hdg hi hl kk
theorem x_iload (hx : p.tables.exec = Jvm.exec) (hb : c.code = cc) {i : Nat} (hdg : decode cc pc = .ok (.iload i, 2)) (hl : ls[i]? = some (.val (vi a))) (kk : W p l e R s m args below meth c H locs cells slots Q (F0 m (pc + 2) ls (vi a :: rest))) : W p l e R s m args below meth c H locs cells slots Q (F0 m pc ls rest) := lv_iload hx hb hdg hl kk
theorem x_lload_n (hx : p.tables.exec = Jvm.exec) (hb : c.code = cc) {k : Fin 4} {i : Nat} (hdg : decode cc pc = .ok (.lload_n k, 1)) (hi : (k : Nat) = i) (hl : ls[i]? = some (.val (vl a))) (kk : W p l e R s m args below meth c H locs cells slots Q (F0 m (pc + 1) ls (vl a :: rest))) : W p l e R s m args below meth c H locs cells slots Q (F0 m pc ls rest) := lv_lload_n hx hb hdg hi hl kk
theorem x_lload (hx : p.tables.exec = Jvm.exec) (hb : c.code = cc) {i : Nat} (hdg : decode cc pc = .ok (.lload i, 2)) (hl : ls[i]? = some (.val (vl a))) (kk : W p l e R s m args below meth c H locs cells slots Q (F0 m (pc + 2) ls (vl a :: rest))) : W p l e R s m args below meth c H locs cells slots Q (F0 m pc ls rest) := lv_lload hx hb hdg hl kk
theorem x_istore_n (hx : p.tables.exec = Jvm.exec) (hb : c.code = cc) {k : Fin 4} {i nL : Nat} {lv lv' : List (Nat × Value)} (hdg : decode cc pc = .ok (.istore_n k, 1)) (hi : (k : Nat) = i) (h : lv_has ls nL lv) (hn : i < nL) (hl : (i, vi a) :: lv.filter (fun q => !(q.1 == i) && !(q.1 + 1 == i && q.2.category == 2)) = lv') (kk : ∀ ls' : Array Slot, lv_has ls' nL lv' → W p l e R s m args below meth c H locs cells slots Q (F0 m (pc + 1) ls' rest)) : W p l e R s m args below meth c H locs cells slots Q (F0 m pc ls (vi a :: rest)) := lv_istore_n hx hb hdg hi h hn hl kk
theorem x_istore (hx : p.tables.exec = Jvm.exec) (hb : c.code = cc) {i nL : Nat} {lv lv' : List (Nat × Value)} (hdg : decode cc pc = .ok (.istore i, 2)) (h : lv_has ls nL lv) (hn : i < nL) (hl : (i, vi a) :: lv.filter (fun q => !(q.1 == i) && !(q.1 + 1 == i && q.2.category == 2)) = lv') (kk : ∀ ls' : Array Slot, lv_has ls' nL lv' → W p l e R s m args below meth c H locs cells slots Q (F0 m (pc + 2) ls' rest)) : W p l e R s m args below meth c H locs cells slots Q (F0 m pc ls (vi a :: rest)) := lv_istore hx hb hdg h hn hl kk
theorem x_lstore_n (hx : p.tables.exec = Jvm.exec) (hb : c.code = cc) {k : Fin 4} {i nL : Nat} {lv lv' : List (Nat × Value)} (hdg : decode cc pc = .ok (.lstore_n k, 1)) (hi : (k : Nat) = i) (h : lv_has ls nL lv) (hn : i + 1 < nL) (hl : (i, vl a) :: lv.filter (fun q => !(q.1 == i) && (!(q.1 == i + 1) && !(q.1 + 1 == i && q.2.category == 2))) = lv') (kk : ∀ ls' : Array Slot, lv_has ls' nL lv' → W p l e R s m args below meth c H locs cells slots Q (F0 m (pc + 1) ls' rest)) : W p l e R s m args below meth c H locs cells slots Q (F0 m pc ls (vl a :: rest)) := lv_lstore_n hx hb hdg hi h hn hl kk
theorem x_lstore (hx : p.tables.exec = Jvm.exec) (hb : c.code = cc) {i nL : Nat} {lv lv' : List (Nat × Value)} (hdg : decode cc pc = .ok (.lstore i, 2)) (h : lv_has ls nL lv) (hn : i + 1 < nL) (hl : (i, vl a) :: lv.filter (fun q => !(q.1 == i) && (!(q.1 == i + 1) && !(q.1 + 1 == i && q.2.category == 2))) = lv') (kk : ∀ ls' : Array Slot, lv_has ls' nL lv' → W p l e R s m args below meth c H locs cells slots Q (F0 m (pc + 2) ls' rest)) : W p l e R s m args below meth c H locs cells slots Q (F0 m pc ls (vl a :: rest)) := lv_lstore hx hb hdg h hn hl kk
theorem x_iinc (hx : p.tables.exec = Jvm.exec) (hb : c.code = cc) {i nL k : Nat} {n : Int} {lv lv' : List (Nat × Value)} (hdg : decode cc pc = .ok (.iinc i n, 3)) (h : lv_has ls nL lv) (hk : lv[k]? = some (i, vi a)) (hv : b = a + n) (hn : i < nL) (hl : (i, vi b) :: lv.filter (fun q => !(q.1 == i) && !(q.1 + 1 == i && q.2.category == 2)) = lv') (kk : ∀ ls' : Array Slot, lv_has ls' nL lv' → W p l e R s m args below meth c H locs cells slots Q (F0 m (pc + 3) ls' rest)) : W p l e R s m args below meth c H locs cells slots Q (F0 m pc ls rest) := lv_iinc hx hb hdg h hk (by rw [hv, Int32.ofInt_add]) hn hl kk
theorem x_iadd (hx : p.tables.exec = Jvm.exec) (hb : c.code = cc) (hdg : decode cc pc = .ok (.iadd, 1)) (k : W p l e R s m args below meth c H locs cells slots Q (F0 m (pc + 1) ls (vi (a + b) :: rest))) : W p l e R s m args below meth c H locs cells slots Q (F0 m pc ls (vi b :: vi a :: rest)) := lv_iadd hx hb hdg (by rw [← Int32.ofInt_add]; exact k)
theorem x_isub (hx : p.tables.exec = Jvm.exec) (hb : c.code = cc) (hdg : decode cc pc = .ok (.isub, 1)) (k : W p l e R s m args below meth c H locs cells slots Q (F0 m (pc + 1) ls (vi (a - b) :: rest))) : W p l e R s m args below meth c H locs cells slots Q (F0 m pc ls (vi b :: vi a :: rest)) := lv_isub hx hb hdg (by rw [← Int32.ofInt_sub]; exact k)
theorem x_imul (hx : p.tables.exec = Jvm.exec) (hb : c.code = cc) (hdg : decode cc pc = .ok (.imul, 1)) (k : W p l e R s m args below meth c H locs cells slots Q (F0 m (pc + 1) ls (vi (a * b) :: rest))) : W p l e R s m args below meth c H locs cells slots Q (F0 m pc ls (vi b :: vi a :: rest)) := lv_imul hx hb hdg (by rw [← Int32.ofInt_mul]; exact k)
theorem x_ineg (hx : p.tables.exec = Jvm.exec) (hb : c.code = cc) (hdg : decode cc pc = .ok (.ineg, 1)) (k : W p l e R s m args below meth c H locs cells slots Q (F0 m (pc + 1) ls (vi (-a) :: rest))) : W p l e R s m args below meth c H locs cells slots Q (F0 m pc ls (vi a :: rest)) := lv_ineg hx hb hdg (by rw [← Int32.ofInt_neg]; exact k)
theorem x_idiv (hx : p.tables.exec = Jvm.exec) (hb : c.code = cc) {a' b' : Int} (hdg : decode cc pc = .ok (.idiv, 1)) (ha : wr a = a') (hb' : wr b = b') (hne : ¬ b' = 0) (k : W p l e R s m args below meth c H locs cells slots Q (F0 m (pc + 1) ls (vi (a'.tdiv b') :: rest))) : W p l e R s m args below meth c H locs cells slots Q (F0 m pc ls (vi b :: vi a :: rest)) :=
  lv_idiv hx hb hdg (by rw [oz_eq, hb']; exact hne) (by rw [oi_div, ha, hb']; exact k)
theorem x_irem (hx : p.tables.exec = Jvm.exec) (hb : c.code = cc) {a' b' : Int} (hdg : decode cc pc = .ok (.irem, 1)) (ha : wr a = a') (hb' : wr b = b') (hne : ¬ b' = 0) (k : W p l e R s m args below meth c H locs cells slots Q (F0 m (pc + 1) ls (vi (a'.tmod b') :: rest))) : W p l e R s m args below meth c H locs cells slots Q (F0 m pc ls (vi b :: vi a :: rest)) :=
  lv_irem hx hb hdg (by rw [oz_eq, hb']; exact hne) (by rw [oi_rem, ha, hb']; exact k)
def iAnd (a b : Int) : Int := (Int32.ofInt a &&& Int32.ofInt b).toInt
def iOr (a b : Int) : Int := (Int32.ofInt a ||| Int32.ofInt b).toInt
def iXor (a b : Int) : Int := (Int32.ofInt a ^^^ Int32.ofInt b).toInt
def iShl (a b : Int) : Int := (Int32.ofInt a <<< (Int32.ofInt b &&& 31)).toInt
def iShr (a b : Int) : Int := (Int32.ofInt a >>> (Int32.ofInt b &&& 31)).toInt
def iUshr (a b : Int) : Int := ((Int32.ofInt a).toUInt32 >>> ((Int32.ofInt b).toUInt32 &&& Int32.toUInt32 31)).toInt32.toInt
def lXor (a b : Int) : Int := (Int64.ofInt a ^^^ Int64.ofInt b).toInt
def iC (a : Int) : Int := ((Int32.ofInt a).toUInt32 % 65536).toInt32.toInt
theorem x_iand (hx : p.tables.exec = Jvm.exec) (hb : c.code = cc) (hdg : decode cc pc = .ok (.iand, 1)) (k : W p l e R s m args below meth c H locs cells slots Q (F0 m (pc + 1) ls (vi (iAnd a b) :: rest))) : W p l e R s m args below meth c H locs cells slots Q (F0 m pc ls (vi b :: vi a :: rest)) := lv_iand hx hb hdg (by unfold vi iAnd at k; rw [oi] at k; exact k)
theorem x_ior (hx : p.tables.exec = Jvm.exec) (hb : c.code = cc) (hdg : decode cc pc = .ok (.ior, 1)) (k : W p l e R s m args below meth c H locs cells slots Q (F0 m (pc + 1) ls (vi (iOr a b) :: rest))) : W p l e R s m args below meth c H locs cells slots Q (F0 m pc ls (vi b :: vi a :: rest)) := lv_ior hx hb hdg (by unfold vi iOr at k; rw [oi] at k; exact k)
theorem x_ixor (hx : p.tables.exec = Jvm.exec) (hb : c.code = cc) (hdg : decode cc pc = .ok (.ixor, 1)) (k : W p l e R s m args below meth c H locs cells slots Q (F0 m (pc + 1) ls (vi (iXor a b) :: rest))) : W p l e R s m args below meth c H locs cells slots Q (F0 m pc ls (vi b :: vi a :: rest)) := lv_ixor hx hb hdg (by unfold vi iXor at k; rw [oi] at k; exact k)
theorem x_ishl (hx : p.tables.exec = Jvm.exec) (hb : c.code = cc) (hdg : decode cc pc = .ok (.ishl, 1)) (k : W p l e R s m args below meth c H locs cells slots Q (F0 m (pc + 1) ls (vi (iShl a b) :: rest))) : W p l e R s m args below meth c H locs cells slots Q (F0 m pc ls (vi b :: vi a :: rest)) := lv_ishl hx hb hdg (by unfold vi iShl at k; rw [oi] at k; exact k)
theorem x_ishr (hx : p.tables.exec = Jvm.exec) (hb : c.code = cc) (hdg : decode cc pc = .ok (.ishr, 1)) (k : W p l e R s m args below meth c H locs cells slots Q (F0 m (pc + 1) ls (vi (iShr a b) :: rest))) : W p l e R s m args below meth c H locs cells slots Q (F0 m pc ls (vi b :: vi a :: rest)) := lv_ishr hx hb hdg (by unfold vi iShr at k; rw [oi] at k; exact k)
theorem x_iushr (hx : p.tables.exec = Jvm.exec) (hb : c.code = cc) (hdg : decode cc pc = .ok (.iushr, 1)) (k : W p l e R s m args below meth c H locs cells slots Q (F0 m (pc + 1) ls (vi (iUshr a b) :: rest))) : W p l e R s m args below meth c H locs cells slots Q (F0 m pc ls (vi b :: vi a :: rest)) := lv_iushr hx hb hdg rfl (by unfold vi iUshr at k; rw [oi] at k; exact k)
theorem x_i2l (hx : p.tables.exec = Jvm.exec) (hb : c.code = cc) {a' : Int} (ha : wr a = a') (hdg : decode cc pc = .ok (.i2l, 1)) (k : W p l e R s m args below meth c H locs cells slots Q (F0 m (pc + 1) ls (vl a' :: rest))) : W p l e R s m args below meth c H locs cells slots Q (F0 m pc ls (vi a :: rest)) := lv_i2l hx hb hdg (ol_oi a) (by rw [ha]; exact k)
theorem x_l2i (hx : p.tables.exec = Jvm.exec) (hb : c.code = cc) (hdg : decode cc pc = .ok (.l2i, 1)) (k : W p l e R s m args below meth c H locs cells slots Q (F0 m (pc + 1) ls (vi a :: rest))) : W p l e R s m args below meth c H locs cells slots Q (F0 m pc ls (vl a :: rest)) := lv_l2i hx hb hdg (oi_ol a) k
theorem x_i2b (hx : p.tables.exec = Jvm.exec) (hb : c.code = cc) (hdg : decode cc pc = .ok (.i2b, 1)) (k : W p l e R s m args below meth c H locs cells slots Q (F0 m (pc + 1) ls (vi (w8 a) :: rest))) : W p l e R s m args below meth c H locs cells slots Q (F0 m pc ls (vi a :: rest)) := lv_i2b hx hb hdg (oi_b a) k
theorem x_i2c (hx : p.tables.exec = Jvm.exec) (hb : c.code = cc) (hdg : decode cc pc = .ok (.i2c, 1)) (k : W p l e R s m args below meth c H locs cells slots Q (F0 m (pc + 1) ls (vi (iC a) :: rest))) : W p l e R s m args below meth c H locs cells slots Q (F0 m pc ls (vi a :: rest)) := lv_i2c hx hb hdg rfl (by unfold vi iC at k; rw [oi] at k; exact k)
theorem x_lconst (hx : p.tables.exec = Jvm.exec) (hb : c.code = cc) {n : Fin 2} {z : Int} (hz : Int64.ofNat (n : Nat) = Int64.ofInt z) (hdg : decode cc pc = .ok (.lconst n, 1)) (k : W p l e R s m args below meth c H locs cells slots Q (F0 m (pc + 1) ls (vl z :: rest))) : W p l e R s m args below meth c H locs cells slots Q (F0 m pc ls rest) := lv_lconst hx hb hdg hz k
theorem x_ladd (hx : p.tables.exec = Jvm.exec) (hb : c.code = cc) (hdg : decode cc pc = .ok (.ladd, 1)) (k : W p l e R s m args below meth c H locs cells slots Q (F0 m (pc + 1) ls (vl (a + b) :: rest))) : W p l e R s m args below meth c H locs cells slots Q (F0 m pc ls (vl b :: vl a :: rest)) := lv_ladd hx hb hdg (by rw [← Int64.ofInt_add]; exact k)
theorem x_lsub (hx : p.tables.exec = Jvm.exec) (hb : c.code = cc) (hdg : decode cc pc = .ok (.lsub, 1)) (k : W p l e R s m args below meth c H locs cells slots Q (F0 m (pc + 1) ls (vl (a - b) :: rest))) : W p l e R s m args below meth c H locs cells slots Q (F0 m pc ls (vl b :: vl a :: rest)) := lv_lsub hx hb hdg (by rw [← Int64.ofInt_sub]; exact k)
theorem x_lmul (hx : p.tables.exec = Jvm.exec) (hb : c.code = cc) (hdg : decode cc pc = .ok (.lmul, 1)) (k : W p l e R s m args below meth c H locs cells slots Q (F0 m (pc + 1) ls (vl (a * b) :: rest))) : W p l e R s m args below meth c H locs cells slots Q (F0 m pc ls (vl b :: vl a :: rest)) := lv_lmul hx hb hdg (by rw [← Int64.ofInt_mul]; exact k)
theorem x_lneg (hx : p.tables.exec = Jvm.exec) (hb : c.code = cc) (hdg : decode cc pc = .ok (.lneg, 1)) (k : W p l e R s m args below meth c H locs cells slots Q (F0 m (pc + 1) ls (vl (-a) :: rest))) : W p l e R s m args below meth c H locs cells slots Q (F0 m pc ls (vl a :: rest)) := lv_lneg hx hb hdg (by rw [← Int64.ofInt_neg]; exact k)
theorem x_ldiv (hx : p.tables.exec = Jvm.exec) (hb : c.code = cc) (hdg : decode cc pc = .ok (.ldiv, 1)) (hne : ¬ wl b = 0) (k : W p l e R s m args below meth c H locs cells slots Q (F0 m (pc + 1) ls (vl ((wl a).tdiv (wl b)) :: rest))) : W p l e R s m args below meth c H locs cells slots Q (F0 m pc ls (vl b :: vl a :: rest)) :=
  lv_ldiv hx hb hdg (by rw [show (0 : Int64) = Int64.ofInt 0 from rfl, ol_eq]; exact hne) (by rw [ol_div]; exact k)
theorem x_lxor (hx : p.tables.exec = Jvm.exec) (hb : c.code = cc) (hdg : decode cc pc = .ok (.lxor, 1)) (k : W p l e R s m args below meth c H locs cells slots Q (F0 m (pc + 1) ls (vl (lXor a b) :: rest))) : W p l e R s m args below meth c H locs cells slots Q (F0 m pc ls (vl b :: vl a :: rest)) := lv_lxor hx hb hdg (by unfold vl lXor at k; rw [ol] at k; exact k)
def lCmp (a b : Int) : Int := if wl b < wl a then 1 else if wl a = wl b then 0 else -1
theorem x_lcmp (hx : p.tables.exec = Jvm.exec) (hb : c.code = cc) (hdg : decode cc pc = .ok (.lcmp, 1)) (k : W p l e R s m args below meth c H locs cells slots Q (F0 m (pc + 1) ls (vi (lCmp a b) :: rest))) : W p l e R s m args below meth c H locs cells slots Q (F0 m pc ls (vl b :: vl a :: rest)) := by
  refine W.lcmp hx hb hdg ?_
  have e1 : lg_cmp (Int64.ofInt a) (Int64.ofInt b) = Int32.ofInt (lCmp a b) := by
    unfold lg_cmp lCmp
    by_cases h1 : wl b < wl a
    · rw [if_pos h1, if_pos (show Int64.ofInt a > Int64.ofInt b from ol_lt.mpr h1)]; rfl
    · rw [if_neg h1, if_neg (fun z => h1 (ol_lt.mp z))]
      by_cases h2 : wl a = wl b
      · rw [if_pos h2, if_pos (ol_eq.mpr h2)]; rfl
      · rw [if_neg h2, if_neg (fun z => h2 (ol_eq.mp z))]; rfl
  rw [e1]
  exact k
variable {off : Int} {tgt : Nat} {a' b' : Int}
theorem x_if_eq (hx : p.tables.exec = Jvm.exec) (hb : c.code = cc) (ha : wr a = a') (hdg : decode cc pc = .ok (.ifCond .eq off, 3)) (ht : (pc : Int) + off = (tgt : Int)) (kt : a' = 0 → W p l e R s m args below meth c H locs cells slots Q (F0 m tgt ls rest)) (kf : ¬ a' = 0 → W p l e R s m args below meth c H locs cells slots Q (F0 m (pc + 3) ls rest)) : W p l e R s m args below meth c H locs cells slots Q (F0 m pc ls (vi a :: rest)) := by
  subst ha
  exact lv_if_eq hx hb hdg ht (fun h => kt (oz_eq.mp h)) (fun h => kf (fun z => h (oz_eq.mpr z)))
theorem x_if_ne (hx : p.tables.exec = Jvm.exec) (hb : c.code = cc) (ha : wr a = a') (hdg : decode cc pc = .ok (.ifCond .ne off, 3)) (ht : (pc : Int) + off = (tgt : Int)) (kt : ¬ a' = 0 → W p l e R s m args below meth c H locs cells slots Q (F0 m tgt ls rest)) (kf : a' = 0 → W p l e R s m args below meth c H locs cells slots Q (F0 m (pc + 3) ls rest)) : W p l e R s m args below meth c H locs cells slots Q (F0 m pc ls (vi a :: rest)) := by
  subst ha
  exact lv_if_ne hx hb hdg ht (fun h => kt (fun z => h (oz_eq.mpr z))) (fun h => kf (oz_eq.mp h))
theorem x_if_lt (hx : p.tables.exec = Jvm.exec) (hb : c.code = cc) (ha : wr a = a') (hdg : decode cc pc = .ok (.ifCond .lt off, 3)) (ht : (pc : Int) + off = (tgt : Int)) (kt : a' < 0 → W p l e R s m args below meth c H locs cells slots Q (F0 m tgt ls rest)) (kf : ¬ a' < 0 → W p l e R s m args below meth c H locs cells slots Q (F0 m (pc + 3) ls rest)) : W p l e R s m args below meth c H locs cells slots Q (F0 m pc ls (vi a :: rest)) := by
  subst ha
  exact lv_if_lt hx hb hdg ht (fun h => kt (oz_lt.mp h)) (fun h => kf (fun z => h (oz_lt.mpr z)))
theorem x_if_ge (hx : p.tables.exec = Jvm.exec) (hb : c.code = cc) (ha : wr a = a') (hdg : decode cc pc = .ok (.ifCond .ge off, 3)) (ht : (pc : Int) + off = (tgt : Int)) (kt : 0 ≤ a' → W p l e R s m args below meth c H locs cells slots Q (F0 m tgt ls rest)) (kf : ¬ 0 ≤ a' → W p l e R s m args below meth c H locs cells slots Q (F0 m (pc + 3) ls rest)) : W p l e R s m args below meth c H locs cells slots Q (F0 m pc ls (vi a :: rest)) := by
  subst ha
  exact lv_if_ge hx hb hdg ht (fun h => kt (oz_ge.mp h)) (fun h => kf (fun z => h (oz_ge.mpr z)))
theorem x_if_gt (hx : p.tables.exec = Jvm.exec) (hb : c.code = cc) (ha : wr a = a') (hdg : decode cc pc = .ok (.ifCond .gt off, 3)) (ht : (pc : Int) + off = (tgt : Int)) (kt : 0 < a' → W p l e R s m args below meth c H locs cells slots Q (F0 m tgt ls rest)) (kf : ¬ 0 < a' → W p l e R s m args below meth c H locs cells slots Q (F0 m (pc + 3) ls rest)) : W p l e R s m args below meth c H locs cells slots Q (F0 m pc ls (vi a :: rest)) := by
  subst ha
  exact lv_if_gt hx hb hdg ht (fun h => kt (oz_gt.mp h)) (fun h => kf (fun z => h (oz_gt.mpr z)))
theorem x_if_le (hx : p.tables.exec = Jvm.exec) (hb : c.code = cc) (ha : wr a = a') (hdg : decode cc pc = .ok (.ifCond .le off, 3)) (ht : (pc : Int) + off = (tgt : Int)) (kt : a' ≤ 0 → W p l e R s m args below meth c H locs cells slots Q (F0 m tgt ls rest)) (kf : ¬ a' ≤ 0 → W p l e R s m args below meth c H locs cells slots Q (F0 m (pc + 3) ls rest)) : W p l e R s m args below meth c H locs cells slots Q (F0 m pc ls (vi a :: rest)) := by
  subst ha
  exact lv_if_le hx hb hdg ht (fun h => kt (oz_le.mp h)) (fun h => kf (fun z => h (oz_le.mpr z)))
theorem x_icmp_eq (hx : p.tables.exec = Jvm.exec) (hb : c.code = cc) (ha : wr a = a') (hb' : wr b = b') (hdg : decode cc pc = .ok (.if_icmp .eq off, 3)) (ht : (pc : Int) + off = (tgt : Int)) (kt : a' = b' → W p l e R s m args below meth c H locs cells slots Q (F0 m tgt ls rest)) (kf : ¬ a' = b' → W p l e R s m args below meth c H locs cells slots Q (F0 m (pc + 3) ls rest)) : W p l e R s m args below meth c H locs cells slots Q (F0 m pc ls (vi b :: vi a :: rest)) := by
  subst ha hb'
  exact lv_icmp_eq hx hb hdg ht (fun h => kt (oi_eq.mp h)) (fun h => kf (fun z => h (oi_eq.mpr z)))
theorem x_icmp_ne (hx : p.tables.exec = Jvm.exec) (hb : c.code = cc) (ha : wr a = a') (hb' : wr b = b') (hdg : decode cc pc = .ok (.if_icmp .ne off, 3)) (ht : (pc : Int) + off = (tgt : Int)) (kt : ¬ a' = b' → W p l e R s m args below meth c H locs cells slots Q (F0 m tgt ls rest)) (kf : a' = b' → W p l e R s m args below meth c H locs cells slots Q (F0 m (pc + 3) ls rest)) : W p l e R s m args below meth c H locs cells slots Q (F0 m pc ls (vi b :: vi a :: rest)) := by
  subst ha hb'
  exact lv_icmp_ne hx hb hdg ht (fun h => kt (fun z => h (oi_eq.mpr z))) (fun h => kf (oi_eq.mp h))
theorem x_icmp_lt (hx : p.tables.exec = Jvm.exec) (hb : c.code = cc) (ha : wr a = a') (hb' : wr b = b') (hdg : decode cc pc = .ok (.if_icmp .lt off, 3)) (ht : (pc : Int) + off = (tgt : Int)) (kt : a' < b' → W p l e R s m args below meth c H locs cells slots Q (F0 m tgt ls rest)) (kf : ¬ a' < b' → W p l e R s m args below meth c H locs cells slots Q (F0 m (pc + 3) ls rest)) : W p l e R s m args below meth c H locs cells slots Q (F0 m pc ls (vi b :: vi a :: rest)) := by
  subst ha hb'
  exact lv_icmp_lt hx hb hdg ht (fun h => kt (oi_lt.mp h)) (fun h => kf (fun z => h (oi_lt.mpr z)))
theorem x_icmp_ge (hx : p.tables.exec = Jvm.exec) (hb : c.code = cc) (ha : wr a = a') (hb' : wr b = b') (hdg : decode cc pc = .ok (.if_icmp .ge off, 3)) (ht : (pc : Int) + off = (tgt : Int)) (kt : b' ≤ a' → W p l e R s m args below meth c H locs cells slots Q (F0 m tgt ls rest)) (kf : ¬ b' ≤ a' → W p l e R s m args below meth c H locs cells slots Q (F0 m (pc + 3) ls rest)) : W p l e R s m args below meth c H locs cells slots Q (F0 m pc ls (vi b :: vi a :: rest)) := by
  subst ha hb'
  exact lv_icmp_ge hx hb hdg ht (fun h => kt (oi_le.mp h)) (fun h => kf (fun z => h (oi_le.mpr z)))
theorem x_icmp_gt (hx : p.tables.exec = Jvm.exec) (hb : c.code = cc) (ha : wr a = a') (hb' : wr b = b') (hdg : decode cc pc = .ok (.if_icmp .gt off, 3)) (ht : (pc : Int) + off = (tgt : Int)) (kt : b' < a' → W p l e R s m args below meth c H locs cells slots Q (F0 m tgt ls rest)) (kf : ¬ b' < a' → W p l e R s m args below meth c H locs cells slots Q (F0 m (pc + 3) ls rest)) : W p l e R s m args below meth c H locs cells slots Q (F0 m pc ls (vi b :: vi a :: rest)) := by
  subst ha hb'
  exact lv_icmp_gt hx hb hdg ht (fun h => kt (oi_lt.mp h)) (fun h => kf (fun z => h (oi_lt.mpr z)))
theorem x_icmp_le (hx : p.tables.exec = Jvm.exec) (hb : c.code = cc) (ha : wr a = a') (hb' : wr b = b') (hdg : decode cc pc = .ok (.if_icmp .le off, 3)) (ht : (pc : Int) + off = (tgt : Int)) (kt : a' ≤ b' → W p l e R s m args below meth c H locs cells slots Q (F0 m tgt ls rest)) (kf : ¬ a' ≤ b' → W p l e R s m args below meth c H locs cells slots Q (F0 m (pc + 3) ls rest)) : W p l e R s m args below meth c H locs cells slots Q (F0 m pc ls (vi b :: vi a :: rest)) := by
  subst ha hb'
  exact lv_icmp_le hx hb hdg ht (fun h => kt (oi_le.mp h)) (fun h => kf (fun z => h (oi_le.mpr z)))
end BASE
