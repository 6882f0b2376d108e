/-! MAKING: the cells come one behind another; rows of constructors -/
def ue {α : Type} (E : Nat → α) (k : Nat) (e : α) : Nat → α := fun j => if j = k then e else E j
theorem ue_self {α : Type} {E : Nat → α} {k : Nat} {e : α} : ue E k e k = e := if_pos rfl
theorem ue_ne {α : Type} {E : Nat → α} {k j : Nat} {e : α} (h : j ≠ k) : ue E k e j = E j := if_neg h
def pw (ad : Nat → Nat) (n : Nat) (E : Nat → va_E) : va_W := (List.range n).map (fun k => (ad k, E k))
theorem pw_len {ad : Nat → Nat} {n : Nat} {E : Nat → va_E} : (pw ad n E).length = n := by simp [pw]
theorem pw_at {ad : Nat → Nat} {n k : Nat} {E : Nat → va_E} (hk : k < n) : (pw ad n E)[k]? = some (ad k, E k) := by simp [pw, hk]
theorem pw_congr {ad ad' : Nat → Nat} {n : Nat} {E E' : Nat → va_E} (h : ∀ k, k < n → ad k = ad' k ∧ E k = E' k) : pw ad n E = pw ad' n E' := by
  unfold pw
  apply List.map_congr_left
  intro k hk
  obtain ⟨h1, h2⟩ := h k (List.mem_range.mp hk)
  rw [h1, h2]
theorem pw_set {ad : Nat → Nat} {n k : Nat} {E : Nat → va_E} {e : va_E} (hk : k < n) : (pw ad n E).set k (ad k, e) = pw ad n (ue E k e) := by
  apply List.ext_getElem?
  intro i
  by_cases hi : i = k
  · subst hi
    rw [List.getElem?_set_self (by rw [pw_len]; exact hk), pw_at hk, ue_self]
  · rw [List.getElem?_set_ne (Ne.symm hi)]
    by_cases h1 : i < n
    · rw [pw_at h1, pw_at h1, ue_ne hi]
    · rw [List.getElem?_eq_none (by rw [pw_len]; omega), List.getElem?_eq_none (by rw [pw_len]; omega)]
theorem pw_push {ad : Nat → Nat} {n q : Nat} {E : Nat → va_E} {e : va_E} : pw ad n E ++ [(q, e)] = pw (ue ad n q) (n + 1) (ue E n e) := by
  apply List.ext_getElem?
  intro i
  rcases Nat.lt_trichotomy i n with h1 | h1 | h1
  · rw [List.getElem?_append_left (by rw [pw_len]; exact h1), pw_at h1, pw_at (by omega), ue_ne (by omega), ue_ne (by omega)]
  · subst h1
    rw [List.getElem?_append_right (by rw [pw_len]; omega), pw_len, Nat.sub_self, pw_at (by omega), ue_self, ue_self]
    rfl
  · rw [List.getElem?_eq_none (by rw [List.length_append, pw_len]; simp; omega), List.getElem?_eq_none (by rw [pw_len]; omega)]
def tys4 (cy : Nat → ClassId) : List (ClassId × FieldType) := [(cy 0, .int), (cy 1, .long), (cy 2, .byte), (cy 3, .boolean)]
def Sp (D : va_G) (cy : Nat → ClassId) (U : State) : Prop := va_K D vwCl (tys4 cy) U ∧ ∀ q ∈ nests, va_Nw (.methodLinkNest q.1 q.2.1 q.2.2.1 q.2.2.2) U
def Ap (ad : Nat → Nat) (n sz : Nat) : Nat → Prop := fun q => (∃ k, k < n ∧ q = ad k) ∨ sz ≤ q
def Hn (D : va_G) (A : Nat → Prop) (H0 : Heap) (ad : Nat → Nat) (n : Nat) (E : Nat → va_E) (H : Heap) (locs : List Loc) : Prop := va_P D vwCl (pw ad n E) H ∧ va_D A (pw ad n E) ∧ va_S A H0 H locs ∧ ∀ q, H0.size ≤ q → A q
def Cn (p : Program) (s : State) (m : MethodId) (args : Array Value) (c : Code) (cc : ByteArray) (nL : Nat) (own : String) (D : va_G) (cy : Nat → ClassId) : Prop :=
  p.tables.exec = Jvm.exec ∧ c.code = cc ∧ c.maxLocals = nL ∧ s.vm.findClass own = some m.cls ∧ (∀ w ∈ lw_g, w.before args s = true) ∧ Sp D cy s
theorem q_oi : Cond.instanceMethod objectInit ∈ lw_g := in_g (by decide +kernel) (by decide +kernel)
theorem q_oc : Cond.code objectInit ⟨#[0xb1]⟩ 1 none ∈ lw_g := in_g (by decide +kernel) (by decide +kernel)
theorem q_aI : Cond.arrayClass .int ∈ lw_g := in_g (by decide +kernel) (by decide +kernel)
theorem q_aJ : Cond.arrayClass .long ∈ lw_g := in_g (by decide +kernel) (by decide +kernel)
theorem q_aB : Cond.arrayClass .byte ∈ lw_g := in_g (by decide +kernel) (by decide +kernel)
theorem q_aZ : Cond.arrayClass .boolean ∈ lw_g := in_g (by decide +kernel) (by decide +kernel)
section NEW
variable {p : Program} {l : Launch} {e : Env} {R : Room} {s : State} {m : MethodId} {args : Array Value} {below : List Frame} {meth : Method} {c : Code} {H : Heap} {locs : List Loc} {cells slots : Nat} {Q : State → Prop}
variable {cc : ByteArray} {pc nL : Nat} {own : String} {D : va_G} {cy : Nat → ClassId} {A : Nat → Prop} {H0 : Heap} {ad : Nat → Nat} {n : Nat} {E : Nat → va_E} {ls : Array Slot} {rest : List Value}
theorem n_newa {atype : ArrayType} {ty : FieldType} {N' t : Nat} {z : Int} {a0 : vp_A} (C : Cn p s m args c cc nL own D cy) (hM : Hn D A H0 ad n E H locs) (harr : Cond.arrayClass (newarray.typeOf atype) ∈ lw_g) (hty : newarray.typeOf atype = ty) (ht : (tys4 cy)[t]? = some (cy t, ty)) (hinj : ∀ a b, va_RA s a ty → va_RA s b ty → a = b)
    (ha : ∀ cA : ClassId, vp_cell cA a0 = arrV cA N' (fun _ => defaultValue ty)) (hn : ¬ Int32.ofInt z < 0) (hN : (Int32.ofInt z).toNatClampNeg = N') (hbytes : N' * componentBytes ty ≤ 536870912) (hcells : cells + 1 ≤ R.cells) (hslots : slots + N' ≤ R.slots) (hdg : decode cc pc = .ok (.newarray atype, 2))
    (kk : ∀ (q : Nat) (H1 : Heap), Hn D A H0 (ue ad n q) (n + 1) (ue E n (.inl (cy t, a0))) H1 locs → W p l e R s m args below meth c H1 locs (cells + 1) (slots + N') Q (F0 m (pc + 2) ls (.ref q :: rest))) : W p l e R s m args below meth c H locs cells slots Q (F0 m pc ls (vi z :: rest)) := by
  obtain ⟨hP, hD, hS, hA⟩ := hM
  refine va_newa C.1 C.2.1 (C.2.2.2.2.1 _ harr) hty C.2.2.2.2.2.1 hP hD hS hA ha hn hN hbytes hcells hslots hdg (fun q cA H1 hK1 hP1 hD1 hS1 => ?_)
  have e1 : cA = cy t := hinj _ _ (hK1.2 4 (cA, ty) rfl).2 (C.2.2.2.2.2.1.2 t _ ht).2
  subst e1
  rw [pw_push] at hP1 hD1
  exact kk q H1 ⟨hP1, hD1, hS1, hA⟩
theorem n_putF {C0 : String} {Tt : u_T} {N ci index : Nat} {fs : List Value} {v : Value} {ty : FieldType} (C : Cn p s m args c cc nL own D cy) (hin2 : meth.name = "<init>") (hM : Hn D A H0 ad n E H locs) (k : Nat) {a : Nat} (hak : a = ad k) (hk : k < n) (he : E k = .inr (ci, fs)) (hc : vwCl[ci]? = some (C0, Tt, N)) (hin : ∀ w ∈ u_ws C0 Tt N, w ∈ lw_g) (ty0 : Nat → FieldType) (hty : ∀ k, k < N → parseFieldDescriptor (Tt k).2.2.1 = some (ty0 k)) (hnm : ∀ a, a < N → ∀ b, b < N → a ≠ b → (Tt a).2.1 ≠ (Tt b).2.1) (j : Nat) (hj : j < N) (hlk : Cond.fieldLink own index (Tt j).1 (Tt j).2.1 (Tt j).2.2.1 ∈ lw_g) (hfin : (Tt j).2.2.2 = true) (hdecl : (Tt j).1 = own) (hd : parseFieldDescriptor (Tt j).2.2.1 = some ty) (hn : narrow ty v = v) (hfit : fits ty v = true) (hl : j < fs.length) (hdg : decode cc pc = .ok (.putfield index, 3))
    (kk : ∀ (H1 : Heap) (locs1 : List Loc), Hn D A H0 ad n (ue E k (.inr (ci, fs.set j v))) H1 locs1 → W p l e R s m args below meth c H1 locs1 cells slots Q (F0 m (pc + 3) ls rest)) : W p l e R s m args below meth c H locs cells slots Q (F0 m pc ls (v :: .ref a :: rest)) := by
  subst hak
  obtain ⟨hP, hD, hS, hA⟩ := hM
  refine va_putF C.1 C.2.1 C.2.2.2.2.1 hin ty0 hty hnm C.2.2.2.1 C.2.2.2.2.2.1 hP hD hS k ((pw_at hk).trans (by rw [he])) hc j hj (C.2.2.2.2.1 _ hlk) (fun _ q => q) hfin hin2 hdecl hd hn hfit hl hdg (fun H1 locs1 h1 h2 h3 => ?_)
  rw [pw_set hk] at h1 h2
  exact kk H1 locs1 ⟨h1, h2, h3, hA⟩
theorem n_put {C0 : String} {Tt : u_T} {N ci index : Nat} {fs : List Value} {v : Value} {ty : FieldType} (C : Cn p s m args c cc nL own D cy) (hM : Hn D A H0 ad n E H locs) (k : Nat) {a : Nat} (hak : a = ad k) (hk : k < n) (he : E k = .inr (ci, fs)) (hc : vwCl[ci]? = some (C0, Tt, N)) (hin : ∀ w ∈ u_ws C0 Tt N, w ∈ lw_g) (ty0 : Nat → FieldType) (hty : ∀ k, k < N → parseFieldDescriptor (Tt k).2.2.1 = some (ty0 k)) (hnm : ∀ a, a < N → ∀ b, b < N → a ≠ b → (Tt a).2.1 ≠ (Tt b).2.1) (j : Nat) (hj : j < N) (hlk : Cond.fieldLink own index (Tt j).1 (Tt j).2.1 (Tt j).2.2.1 ∈ lw_g) (hfin : (Tt j).2.2.2 = false) (hd : parseFieldDescriptor (Tt j).2.2.1 = some ty) (hn : narrow ty v = v) (hfit : fits ty v = true) (hl : j < fs.length) (hdg : decode cc pc = .ok (.putfield index, 3))
    (kk : ∀ (H1 : Heap) (locs1 : List Loc), Hn D A H0 ad n (ue E k (.inr (ci, fs.set j v))) H1 locs1 → W p l e R s m args below meth c H1 locs1 cells slots Q (F0 m (pc + 3) ls rest)) : W p l e R s m args below meth c H locs cells slots Q (F0 m pc ls (v :: .ref a :: rest)) := by
  subst hak
  obtain ⟨hP, hD, hS, hA⟩ := hM
  refine va_put C.1 C.2.1 C.2.2.2.2.1 hin ty0 hty hnm C.2.2.2.1 C.2.2.2.2.2.1 hP hD hS k ((pw_at hk).trans (by rw [he])) hc j hj (C.2.2.2.2.1 _ hlk) (fun _ q => q) hfin hd hn hfit hl hdg (fun H1 locs1 h1 h2 h3 => ?_)
  rw [pw_set hk] at h1 h2
  exact kk H1 locs1 ⟨h1, h2, h3, hA⟩
theorem n_iast {N' : Nat} {f : Nat → Int32} {x i : Int} (C : Cn p s m args c cc nL own D cy) (hM : Hn D A H0 ad n E H locs) (k : Nat) {a : Nat} (hak : a = ad k) (hk : k < n) (he : E k = .inl (cy 0, N', .inl f)) (hin : 0 ≤ wr i ∧ wr i < (N' : Int)) (hdg : decode cc pc = .ok (.iastore, 1))
    (kk : ∀ (H1 : Heap) (locs1 : List Loc), Hn D A H0 ad n (ue E k (.inl (cy 0, N', .inl (upd f (wr i).toNat (Int32.ofInt x))))) H1 locs1 → W p l e R s m args below meth c H1 locs1 cells slots Q (F0 m (pc + 1) ls rest)) : W p l e R s m args below meth c H locs cells slots Q (F0 m pc ls (vi x :: vi i :: .ref a :: rest)) := by
  subst hak
  obtain ⟨hP, hD, hS, hA⟩ := hM
  refine va_iast C.1 C.2.1 C.2.2.2.2.2.1 hP hD hS k 0 ((pw_at hk).trans (by rw [he])) rfl (vpin hin) hdg (fun H1 locs1 h1 h2 h3 => ?_)
  rw [pw_set hk, clamp] at h1 h2
  exact kk H1 locs1 ⟨h1, h2, h3, hA⟩
theorem n_new {C0 : String} {Tt : u_T} {N ci index : Nat} {fs : List Value} (C : Cn p s m args c cc nL own D cy) (hM : Hn D A H0 ad n E H locs) (hin : ∀ w ∈ u_ws C0 Tt N, w ∈ lw_g) (ty : Nat → FieldType) (hty : ∀ k, k < N → parseFieldDescriptor (Tt k).2.2.1 = some (ty k)) (hcl : Cond.classLink own index C0 ∈ lw_g) (hinst : Cond.instantiable C0 N ∈ lw_g) (hini : Cond.initialized C0 ∈ lw_g) (hc : vwCl[ci]? = some (C0, Tt, N)) (hfs : ∀ j, j < N → defaultValue (ty j) = vp_V fs j) (hcells : cells + 1 ≤ R.cells) (hslots : slots + N ≤ R.slots) (hdg : decode cc pc = .ok (.new index, 3))
    (kk : ∀ (q : Nat) (H1 : Heap), Hn D A H0 (ue ad n q) (n + 1) (ue E n (.inr (ci, fs))) H1 locs → W p l e R s m args below meth c H1 locs (cells + 1) (slots + N) Q (F0 m (pc + 3) ls (.ref q :: rest))) : W p l e R s m args below meth c H locs cells slots Q (F0 m pc ls rest) := by
  obtain ⟨hP, hD, hS, hA⟩ := hM
  refine va_new C.1 C.2.1 C.2.2.2.2.1 hin ty hty C.2.2.2.1 (C.2.2.2.2.1 _ hcl) (C.2.2.2.2.1 _ hinst) (C.2.2.2.2.1 _ hini) C.2.2.2.2.2.1 hP hD hS hA hc hfs hcells hslots hdg (fun q H1 h1 h2 h3 => ?_)
  rw [pw_push] at h1 h2
  exact kk q H1 ⟨h1, h2, h3, hA⟩
theorem n_obj {idx : Nat} {a : Addr} (C : Cn p s m args c cc nL own D cy) (hl : ls.size = nL) (hlk : Cond.methodLink own idx objectInit ∈ lw_g) (hf : 1 ≤ R.frames) (hlo : (rest.map fun v => v.category).sum + 12 ≤ R.locals) (hdg : decode cc pc = .ok (.invokespecial idx, 3)) (kk : W p l e R s m args below meth c H locs cells slots Q (F0 m (pc + 3) ls rest)) : W p l e R s m args below meth c H locs cells slots Q (F0 m pc ls (.ref a :: rest)) :=
  W.objInit C.1 C.2.1 C.2.2.2.1 (C.2.2.2.2.1 _ hlk) (C.2.2.2.2.1 _ q_oi) (C.2.2.2.2.1 _ q_oc) rfl (by rw [C.2.2.1]; exact hl) rfl hdg hf (by show 2 * 0 + _ + 12 ≤ _; omega) kk
def QN (D : va_G) (ad : Nat → Nat) (n sz n1 : Nat) (E1 : (Nat → Nat) → Nat → va_E) : Array Value → State → Outcome → State → Prop := fun _ st oc t => oc = .returned none ∧ (∃ ad1 : Nat → Nat, (∀ j, j < n → ad1 j = ad j) ∧ va_P D vwCl (pw ad1 n1 (E1 ad1)) t.heap ∧ va_D (Ap ad n sz) (pw ad1 n1 (E1 ad1))) ∧ va_F (Ap ad n sz) st t
/-- a constructor's contract: from the object k among n cells, to n1 cells -/
def Nt (l : Launch) (y : MethodName) (cc : ByteArray) (fr mc ms lo : Nat) (D : va_G) (cy : Nat → ClassId) (k n n1 : Nat) (ad : Nat → Nat) (E : Nat → va_E) (E1 : (Nat → Nat) → Nat → va_E) : Prop :=
  ∀ sz, Met l y (Cond.code y cc 1 none :: lw_g) { frames := fr, cells := mc, slots := ms, locals := lo } (va_Pc [.ref (ad k)] (fun U => U.heap.size = sz ∧ va_P D vwCl (pw ad n E) U.heap ∧ Sp D cy U ∧ va_D (Ap ad n sz) (pw ad n E))) (QN D ad n sz n1 E1) mc ms (Ap ad n sz)
theorem Sp_go {s U : State} (h : Sp D cy s) (hW : s.WarmedH U.vm) : Sp D cy U := ⟨va_K.moved hW.alike h.1, fun q hq => va_Nw.warmM hW (h.2 q hq)⟩
theorem n_start {y : MethodName} {fr mc ms lo k n1 : Nat} {E1 : (Nat → Nat) → Nat → va_E} (hy : plainName y.cls = true)
    (body : ∀ p e s m args below meth c (ls : Array Slot), Cn p s m args c cc 1 y.cls D cy → meth.name = y.name → meth.sig.returnType = none → meth.locks = false → Hn D (Ap ad n s.heap.size) s.heap ad n E s.heap [] → lv_has ls 1 [(0, .ref (ad k))] → W p l e { frames := fr, cells := mc, slots := ms, locals := lo } s m args below meth c s.heap [] 0 0 (MQ below (QN D ad n s.heap.size n1 E1) args s mc ms (Ap ad n s.heap.size)) (F0 m 0 ls [])) : Nt l y cc fr mc ms lo D cy k n n1 ad E E1 := by
  intro sz
  refine Met.ofW (cc := cc) (maxL := 1) (ret := none) hy rfl ?_
  intro p e s m args below meth c s₁ B hml hv
  obtain ⟨rfl, hsz, hP, hS, hD⟩ := hv
  subst hsz
  have hts := atoms_spec (ws := Cond.code y cc 1 none :: lw_g) B.pre
  rw [lg_entry_eq]
  exact body p e s m _ below meth c _ ⟨B.exec, B.bytes, hml, findClass_of_methodNamed B.named, fun w hw => hts w (List.mem_cons_of_mem _ hw), hS⟩ (name_of_methodNamed B.named B.method).1 B.returns B.notSynchronized ⟨hP, hD, va_S.rf, fun q hq => Or.inr hq⟩ (lv_entry [.ref (ad k)] (Nat.le_of_ble_eq_true rfl))
theorem n_ret {mc ms n0 n1 : Nat} {ad0 : Nat → Nat} {E1 : (Nat → Nat) → Nat → va_E} (C : Cn p s m args c cc nL own D cy) (hr : meth.sig.returnType = none) (hlocks : meth.locks = false) (hM : Hn D (Ap ad0 n0 s.heap.size) s.heap ad n1 E H locs) (had : ∀ j, j < n0 → ad j = ad0 j) (hE : ∀ j, j < n1 → E j = E1 ad j) (hcs : cells = mc) (hss : slots = ms) (hdg : decode cc pc = .ok (.return_, 1)) : W p l e R s m args below meth c H locs cells slots (MQ below (QN D ad0 n0 s.heap.size n1 E1) args s mc ms (Ap ad0 n0 s.heap.size)) (F0 m pc ls []) := by
  subst hcs hss
  obtain ⟨hP, hD, hS, hA⟩ := hM
  have e1 : pw ad n1 E = pw ad n1 (E1 ad) := pw_congr (fun k hk => ⟨rfl, hE k hk⟩)
  rw [e1] at hP hD
  exact W.vret C.1 C.2.1 hr (fun t ht _ => ⟨rfl, ⟨ad, had, by rw [ht]; exact hP, hD⟩, hS.F ht⟩) hS.2.2 hdg hlocks
theorem n_back {a : Array Value} {mc ms n1 : Nat} {st0 : List Value} {E1 : (Nat → Nat) → Nat → va_E} (hM : Hn D A s.heap ad n E H locs) (hr : va_Run p l e R s m args below meth c H locs cells slots mc ms (F0 m pc ls st0) rest (QN D ad n H.size n1 E1 a) (Ap ad n H.size))
    (kk : ∀ (ad1 : Nat → Nat) (H1 : Heap) (locs1 : List Loc), (∀ j, j < n → ad1 j = ad j) → Hn D A s.heap ad1 n1 (E1 ad1) H1 locs1 → W p l e R s m args below meth c H1 locs1 (cells + mc) (slots + ms) Q (F0 m (pc + 3) ls rest)) : W p l e R s m args below meth c H locs cells slots Q (F0 m pc ls st0) := by
  obtain ⟨hP0, hD0, hS, hA⟩ := hM
  have hsub : ∀ q, Ap ad n H.size q → A q := fun q hq => hq.elim (fun ⟨k, hk, e1⟩ => by rw [e1]; exact hD0.2 k _ (pw_at hk)) (fun h1 => hA q (Nat.le_trans hS.1 h1))
  intro T hT X
  obtain ⟨v, st₀, t, T', L, h0, X', hL, e1, e2, ⟨hv, ⟨ad1, ha1, hP, hD⟩, hz, hk⟩, st⟩ := hr T hT X
  cases hv
  rw [h0] at hz hk
  obtain ⟨t2, a1, b1⟩ := kk ad1 T'.heap (locs ++ L) ha1 ⟨by rw [e1]; exact hP, hD.weaken (fun _ _ _ z => hsub _ z), ⟨Nat.le_trans hS.1 (by rw [e1]; exact hz), fun q h1 h2 => by rw [e1, hk q (Nat.lt_of_lt_of_le h1 hS.1) (fun z => h2 (hsub q z))]; exact hS.2.1 q h1 h2, fun q hq => by
      rcases List.mem_append.mp hq with h | h
      · exact hS.2.2 q h
      · exact hsub _ (hL q h)⟩, hA⟩ T' rfl X'
  exact ⟨t2, st t2 a1, b1⟩
theorem n_pre {k : Nat} (C : Cn p s m args c cc nL own D cy) (hM : Hn D A s.heap ad n E H locs) : PreS s H (va_Pc [.ref (ad k)] (fun U => U.heap.size = H.size ∧ va_P D vwCl (pw ad n E) U.heap ∧ Sp D cy U ∧ va_D (Ap ad n H.size) (pw ad n E))) [.ref (ad k)] := by
  refine ⟨fun a U f mk q => ?_, fun U hU hW => ⟨rfl, by rw [hU], by rw [hU]; exact hM.1, Sp_go C.2.2.2.2.2 hW, ⟨hM.2.1.1, fun j q hq => ?_⟩⟩⟩
  · obtain ⟨q1, q2, q3, ⟨q4, q5⟩, q6⟩ := q
    exact ⟨q1, q2, q3, ⟨va_K.moved (u := U) (U := U.calling f mk a) (Vm.Alike.refl U.vm) q4, fun z hz => va_Nw.same rfl (u := U) (U := U.calling f mk a) rfl (q5 z hz)⟩, q6⟩
  · have hj : j < n := by have := (List.getElem?_eq_some_iff.mp hq).1; rw [pw_len] at this; exact this
    rw [pw_at hj] at hq
    rw [← Option.some.inj hq]
    exact Or.inl ⟨j, hj, rfl⟩
theorem n_callN {y : MethodName} {bytes : ByteArray} {fr mc ms lo index k n1 : Nat} {host : String} {E1 : (Nat → Nat) → Nat → va_E} (C : Cn p s m args c cc nL own D cy) (hM : Hn D A s.heap ad n E H locs) (hct : Nt l y bytes fr mc ms lo D cy k n n1 ad E E1)
    (hc : Cond.code y bytes 1 none ∈ lw_g) (hlk : (own, index, y, host) ∈ nests) (hit : Cond.instanceMethod y ∈ lw_g) (hini : Cond.initialized y.cls ∈ lw_g) (hy1 : y.name = "<init>")
    (hd : y.cls ≠ "java/lang/invoke/MethodHandle" ∧ y.cls ≠ "java/lang/invoke/VarHandle" ∧ (parseMethodDescriptor y.desc).map (fun d => d.parameters.length) = some 0) (hR : fr + 1 ≤ R.frames ∧ 8 + (1 + 11) + lo ≤ R.locals) (hf : cells + mc ≤ R.cells ∧ slots + ms ≤ R.slots) (hl : ls.size = nL) (hrm : (rest.map fun v => v.category).sum ≤ 8) (hdg : decode cc pc = .ok (.invokespecial index, 3))
    (kk : ∀ (ad1 : Nat → Nat) (H1 : Heap) (locs1 : List Loc), (∀ j, j < n → ad1 j = ad j) → Hn D A s.heap ad1 n1 (E1 ad1) H1 locs1 → W p l e R s m args below meth c H1 locs1 (cells + mc) (slots + ms) Q (F0 m (pc + 3) ls rest)) : W p l e R s m args below meth c H locs cells slots Q (F0 m pc ls (.ref (ad k) :: rest)) := by
  obtain ⟨hx, hb, hml, hown, hts, hSp⟩ := id C
  exact n_back hM (va_runIN (As := []) ⟨hx, hb, hml, hown, hts⟩ (hct H.size) ⟨va_cnB 0 hts (good_in hc) rfl rfl rfl (hSp.2 _ hlk) (hts _ hini) hd hR, hy1, hts _ hit⟩ (n_pre C hM) rfl rfl hl rfl (lv_room hrm) hdg hf) kk
theorem n_callL {y : MethodName} {bytes : ByteArray} {fr mc ms lo index k n1 : Nat} {E1 : (Nat → Nat) → Nat → va_E} (C : Cn p s m args c cc nL own D cy) (hM : Hn D A s.heap ad n E H locs) (hct : Nt l y bytes fr mc ms lo D cy k n n1 ad E E1)
    (hc : Cond.code y bytes 1 none ∈ lw_g) (hlk : Cond.methodLink own index y ∈ lw_g) (hit : Cond.instanceMethod y ∈ lw_g) (hini : Cond.initialized y.cls ∈ lw_g) (hy1 : y.name = "<init>")
    (hd : y.cls ≠ "java/lang/invoke/MethodHandle" ∧ y.cls ≠ "java/lang/invoke/VarHandle" ∧ (parseMethodDescriptor y.desc).map (fun d => d.parameters.length) = some 0) (hR : fr + 1 ≤ R.frames ∧ 8 + (1 + 11) + lo ≤ R.locals) (hf : cells + mc ≤ R.cells ∧ slots + ms ≤ R.slots) (hl : ls.size = nL) (hrm : (rest.map fun v => v.category).sum ≤ 8) (hdg : decode cc pc = .ok (.invokespecial index, 3))
    (kk : ∀ (ad1 : Nat → Nat) (H1 : Heap) (locs1 : List Loc), (∀ j, j < n → ad1 j = ad j) → Hn D A s.heap ad1 n1 (E1 ad1) H1 locs1 → W p l e R s m args below meth c H1 locs1 (cells + mc) (slots + ms) Q (F0 m (pc + 3) ls rest)) : W p l e R s m args below meth c H locs cells slots Q (F0 m pc ls (.ref (ad k) :: rest)) := by
  obtain ⟨hx, hb, hml, hown, hts, hSp⟩ := id C
  exact n_back hM (va_runI (As := []) ⟨hx, hb, hml, hown, hts⟩ (hct H.size) ⟨callB_of 0 hts (good_in hc) rfl rfl rfl (hts _ hini) (hts _ hlk) hd hR, hy1, hts _ hit⟩ (n_pre C hM) rfl rfl hl rfl (lv_room hrm) hdg hf) kk
/-- what the cells hold, as they come and are written -/
theorem nw_new {k n : Nat} {E : Nat → va_E} {S : Nat → va_E} {o e1 : va_E} (hk : k < n) (hE : E k = o) (hF : ∀ j, j ≠ k → j < n → E j = S j) (he : e1 = S n) : ue E n e1 k = o ∧ ∀ j, j ≠ k → j < n + 1 → ue E n e1 j = S j := by
  refine ⟨by rw [ue_ne (by omega)]; exact hE, fun j h1 h2 => ?_⟩
  by_cases hj : j = n
  · subst hj; rw [ue_self]; exact he
  · rw [ue_ne hj]; exact hF j h1 (by omega)
theorem nw_put {k n : Nat} {E : Nat → va_E} {S : Nat → va_E} {o : va_E} (hF : ∀ j, j ≠ k → j < n → E j = S j) : ue E k o k = o ∧ ∀ j, j ≠ k → j < n → ue E k o j = S j := ⟨ue_self, fun j h1 h2 => by rw [ue_ne h1]; exact hF j h1 h2⟩
theorem nw_ad {k n q : Nat} {ad ad0 : Nat → Nat} (hn : k ≤ n) (h : ∀ j, j < k → ad j = ad0 j) : ∀ j, j < k → ue ad n q j = ad0 j := fun j hj => by rw [ue_ne (by omega)]; exact h j hj
end NEW
