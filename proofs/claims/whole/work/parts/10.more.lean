/-! more rows: names for tops, joins, switches, Math -/
def fuel : Nat := 100000
theorem q_nat : Cond.native arraycopyName ∈ lw_g := in_g (by decide +kernel) (by decide +kernel)
theorem q_stat : Cond.static arraycopyName ∈ lw_g := in_g (by decide +kernel) (by decide +kernel)
theorem ret2 {α β : Type} {a b : α} {x y : β} (h : some (a, x) = some (b, y)) : b = a ∧ y = x := by
  cases h; exact ⟨rfl, rfl⟩
theorem jn_go {κ β : Type} {K : κ} {body : κ → Option β} {r : β} {P : Prop} (h : jn K body = some r) (Φ : κ → Prop) (h1 : Φ K) (h2 : ∀ J, Φ J → body J = some r → P) : P := h2 K h1 h
section MORE
variable {p : Program} {l : Launch} {e : Env} {R : Room} {s : State} {m : MethodId} {args : Array Value} {below : List Frame} {meth : Method} {c : Code} {H : Heap} {locs : List Loc} {Q : State → Prop}
variable {cc : ByteArray} {pc nL : Nat} {own : String} {ret : Option FieldType} {Θ : Th} {g h g' h' : Mem} {ls : Array Slot} {rest st0 : List Value} {i z a b : Int}
theorem x_top {a b : Int} (hq : b = a) (k : W p l e R s m args below meth c H locs 0 0 Q (F0 m pc ls (vi b :: rest))) : W p l e R s m args below meth c H locs 0 0 Q (F0 m pc ls (vi a :: rest)) := hq ▸ k
theorem x_topl {a b : Int} (hq : b = a) (k : W p l e R s m args below meth c H locs 0 0 Q (F0 m pc ls (vl b :: rest))) : W p l e R s m args below meth c H locs 0 0 Q (F0 m pc ls (vl a :: rest)) := hq ▸ k
theorem x_mabs {index : Nat} (C : Cx p s m args meth c cc nL own ret Θ) (hl : ls.size = nL) (hfr : 1 ≤ R.frames) (hlo : (rest.map fun v => v.category).sum + 13 ≤ R.locals) (hlk : Cond.methodLink own index yJ9_abs_0f7a4 ∈ lw_g) (hdg : decode cc pc = .ok (.invokestatic index, 3)) (k : W p l e R s m args below meth c H locs 0 0 Q (F0 m (pc + 3) ls (vi (mAbs a) :: rest))) : W p l e R s m args below meth c H locs 0 0 Q (F0 m pc ls (vi a :: rest)) := by
  refine va_mabs C.1 C.2.1 (C.2.2.1.trans hl.symm) C.2.2.2.1 (C.2.2.2.2.1 _ hlk) (C.2.2.2.2.1 _ q_s_J9_abs_0f7a4) (C.2.2.2.2.1 _ q_n_J9) (C.2.2.2.2.1 _ q_c_J9_abs_0f7a4) hfr hlo (Nat.zero_le _) (Nat.zero_le _) hdg ?_
  have e1 : (if 0 ≤ Int32.ofInt a then Int32.ofInt a else 0 - Int32.ofInt a) = Int32.ofInt (mAbs a) := by
    unfold mAbs
    by_cases h1 : 0 ≤ wr a
    · rw [if_pos h1, if_pos (oz_ge.mpr h1), oi_wr]
    · rw [if_neg h1, if_neg (fun q => h1 (oz_ge.mp q)), Int32.ofInt_neg, oi_wr, Int32.zero_sub]
  rw [e1]
  exact k
theorem x_mmax {index : Nat} (C : Cx p s m args meth c cc nL own ret Θ) (hl : ls.size = nL) (hfr : 1 ≤ R.frames) (hlo : (rest.map fun v => v.category).sum + 13 ≤ R.locals) (hlk : Cond.methodLink own index yJ9_max_7cf53 ∈ lw_g) (hdg : decode cc pc = .ok (.invokestatic index, 3)) (k : W p l e R s m args below meth c H locs 0 0 Q (F0 m (pc + 3) ls (vi (mMax a b) :: rest))) : W p l e R s m args below meth c H locs 0 0 Q (F0 m pc ls (vi b :: vi a :: rest)) := by
  refine va_mmax C.1 C.2.1 (C.2.2.1.trans hl.symm) C.2.2.2.1 (C.2.2.2.2.1 _ hlk) (C.2.2.2.2.1 _ q_s_J9_max_7cf53) (C.2.2.2.2.1 _ q_n_J9) (C.2.2.2.2.1 _ q_c_J9_max_7cf53) hfr hlo (Nat.zero_le _) (Nat.zero_le _) hdg ?_
  have e1 : (if Int32.ofInt a < Int32.ofInt b then Int32.ofInt b else Int32.ofInt a) = Int32.ofInt (mMax a b) := by
    unfold mMax
    by_cases h1 : wr a < wr b
    · rw [if_pos h1, if_pos (oi_lt.mpr h1), oi_wr]
    · rw [if_neg h1, if_neg (fun q => h1 (oi_lt.mp q)), oi_wr]
  rw [e1]
  exact k
theorem x_mmin {index : Nat} (C : Cx p s m args meth c cc nL own ret Θ) (hl : ls.size = nL) (hfr : 1 ≤ R.frames) (hlo : (rest.map fun v => v.category).sum + 13 ≤ R.locals) (hlk : Cond.methodLink own index yJ9_min_7cf53 ∈ lw_g) (hdg : decode cc pc = .ok (.invokestatic index, 3)) (k : W p l e R s m args below meth c H locs 0 0 Q (F0 m (pc + 3) ls (vi (mMin a b) :: rest))) : W p l e R s m args below meth c H locs 0 0 Q (F0 m pc ls (vi b :: vi a :: rest)) := by
  refine va_mmin C.1 C.2.1 (C.2.2.1.trans hl.symm) C.2.2.2.1 (C.2.2.2.2.1 _ hlk) (C.2.2.2.2.1 _ q_s_J9_min_7cf53) (C.2.2.2.2.1 _ q_n_J9) (C.2.2.2.2.1 _ q_c_J9_min_7cf53) hfr hlo (Nat.zero_le _) (Nat.zero_le _) hdg ?_
  have e1 : (if Int32.ofInt b < Int32.ofInt a then Int32.ofInt b else Int32.ofInt a) = Int32.ofInt (mMin a b) := by
    unfold mMin
    by_cases h1 : wr b < wr a
    · rw [if_pos h1, if_pos (oi_lt.mpr h1), oi_wr]
    · rw [if_neg h1, if_neg (fun q => h1 (oi_lt.mp q)), oi_wr]
  rw [e1]
  exact k
theorem x_tableIn {x : Int} {dflt lo hi off : Int} {offs : Array Int} {len tgt : Nat} (v : Int) (hv : wr x = v) (hx : p.tables.exec = Jvm.exec) (hb : c.code = cc) (hdg : decode cc pc = .ok (.tableswitch dflt lo hi offs, len)) (h1 : ¬ v < lo) (h2 : ¬ hi < v) (ho : offs[(v - lo).toNat]? = some off) (ht : (pc : Int) + off = (tgt : Int)) (k : W p l e R s m args below meth c H locs 0 0 Q (F0 m tgt ls rest)) : W p l e R s m args below meth c H locs 0 0 Q (F0 m pc ls (vi x :: rest)) := by
  subst hv
  exact lv_tableIn hx hb hdg (by rw [ti]; exact h1) (by rw [ti]; exact h2) (by rw [ti]; exact ho) ht k
theorem x_tableOut {x : Int} {dflt lo hi : Int} {offs : Array Int} {len tgt : Nat} (hx : p.tables.exec = Jvm.exec) (hb : c.code = cc) (hdg : decode cc pc = .ok (.tableswitch dflt lo hi offs, len)) (h1 : wr x < lo ∨ hi < wr x) (ht : (pc : Int) + dflt = (tgt : Int)) (k : W p l e R s m args below meth c H locs 0 0 Q (F0 m tgt ls rest)) : W p l e R s m args below meth c H locs 0 0 Q (F0 m pc ls (vi x :: rest)) :=
  lv_tableOut hx hb hdg (by rw [ti]; exact h1) ht k
theorem x_lookupIn {x : Int} {dflt off : Int} {ps : Array (Int × Int)} {len tgt : Nat} (v : Int) (hv : wr x = v) (hx : p.tables.exec = Jvm.exec) (hb : c.code = cc) (hdg : decode cc pc = .ok (.lookupswitch dflt ps, len)) (hp : (ps.toList.zip (ps.toList.drop 1)).all (fun (a, next) => a.1 < next.1) = true) (ho : Op.lookupswitch.offset ps.toList dflt v = off) (ht : (pc : Int) + off = (tgt : Int)) (k : W p l e R s m args below meth c H locs 0 0 Q (F0 m tgt ls rest)) : W p l e R s m args below meth c H locs 0 0 Q (F0 m pc ls (vi x :: rest)) := by
  subst hv
  exact lv_lookup hx hb hdg hp (by rw [ti]; exact ho) ht k
theorem x_lookupOut {x : Int} {dflt : Int} {ps : Array (Int × Int)} {len tgt : Nat} (hx : p.tables.exec = Jvm.exec) (hb : c.code = cc) (hdg : decode cc pc = .ok (.lookupswitch dflt ps, len)) (hp : (ps.toList.zip (ps.toList.drop 1)).all (fun (a, next) => a.1 < next.1) = true) (ho : Op.lookupswitch.offset ps.toList dflt (wr x) = dflt) (ht : (pc : Int) + dflt = (tgt : Int)) (k : W p l e R s m args below meth c H locs 0 0 Q (F0 m tgt ls rest)) : W p l e R s m args below meth c H locs 0 0 Q (F0 m pc ls (vi x :: rest)) :=
  lv_lookup hx hb hdg hp (by rw [ti]; exact ho) ht k
def cpy (g : Mem) (k d n : Nat) : Mem := fun a b => if a = d ∧ b < n then g k b else g a b
theorem x_copy {index : Nat} (C : Cx p s m args meth c cc nL own ret Θ) (hM : Hd Θ s g h H locs) (hl : ls.size = nL) (hlk : Cond.methodLink own index arraycopyName ∈ lw_g) (hnat : Cond.native arraycopyName ∈ lw_g) (hst : Cond.static arraycopyName ∈ lw_g) (hini : Cond.initialized "java/lang/System" ∈ lw_g) (hfr : 1 ≤ R.frames) (hlo : (rest.map fun v => v.category).sum + (nativeFrameWords "java/lang/System" "arraycopy" 5 + 11) ≤ R.locals) (eg : g' = cpy g 25 29 12) (hdg : decode cc pc = .ok (.invokestatic index, 3)) (kk : ∀ (H1 : Heap) (locs1 : List Loc), Hd Θ s g' h H1 locs1 → W p l e R s m args below meth c H1 locs1 0 0 Q (F0 m (pc + 3) ls rest)) : W p l e R s m args below meth c H locs 0 0 Q (F0 m pc ls (vi 12 :: vi 0 :: .ref (Θ.2.2.1 29) :: vi 0 :: .ref (Θ.2.2.1 25) :: rest)) := by
  refine va_copyi C.1 C.2.1 (C.2.2.1.trans hl.symm) C.2.2.2.1 (C.2.2.2.2.1 _ hlk) (C.2.2.2.2.1 _ hnat) (C.2.2.2.2.1 _ hst) (C.2.2.2.2.1 _ hini) C.2.2.2.2.2.2.2.1 hM.1 (wld_D C.2.2.2.2.2.2.2.2.1) hM.2 25 29 0 0 (n0 := 12) (n1 := 12) (ty := .int) ((wld_X (by decide)).trans (by rw [eX_25]; rfl)) ((wld_X (by decide)).trans (by rw [eX_29]; rfl)) rfl rfl rfl (by decide) (by decide) (by decide) (by decide) (by decide) (fun _ _ => rfl) hfr hlo hdg (fun H1 locs1 h1 _ h3 => kk H1 locs1 ⟨?_, h3⟩)
  rw [wld_setX (g' := g') (k := 29) (by decide) ?_ (fun a ha => by rw [eg]; funext b; simp [cpy, ha])] at h1
  · exact h1
  · rw [eX_29, eg]
    unfold iA
    congr 4
    funext j
    unfold va_cpy
    simp [cpy]
    by_cases hj : j < 12
    · simp [hj]
    · simp [hj]
theorem x_ldcS {index : Nat} {tx : String} (C : Cx p s m args meth c cc nL own ret Θ) (k : Nat) (hk : strs[k]? = some (own, index, tx)) (hdg : decode cc pc = .ok (.ldc index, 2)) (kk : W p l e R s m args below meth c H locs 0 0 Q (F0 m (pc + 2) ls (.ref (Θ.2.2.1 (100 + k)) :: rest))) : W p l e R s m args below meth c H locs 0 0 Q (F0 m pc ls rest) :=
  va_ldcS C.1 C.2.1 C.2.2.2.1 (C.2.2.2.2.2.2.2.2.2.2.2.1.2.2 k _ hk) hdg kk
theorem x_ldcw (hx : p.tables.exec = Jvm.exec) (hb : c.code = cc) {own : String} {index : Nat} {n : Int} (hown : s.vm.findClass own = some m.cls) (hconst : (Jvm.Cond.constant own index (Int32.ofInt n)).before args s = true) (hdg : decode cc pc = .ok (.ldc_w index, 3)) (k : W p l e R s m args below meth c H locs 0 0 Q (F0 m (pc + 3) ls (vi n :: rest))) : W p l e R s m args below meth c H locs 0 0 Q (F0 m pc ls rest) := lv_ldcw hx hb hown hconst hdg k
theorem x_startF {y : MethodName} {maxL fr lo : Nat} {rt : Option FieldType} {av : List Value} {res : Option Value} (hy : plainFor y = true) (hav : (lg_sl av).length ≤ maxL)
    (body : ∀ p e s m args below meth c (ls : Array Slot), Cx p s m args meth c cc maxL y.cls rt Θ → Hd Θ s g h s.heap [] → lv_has ls maxL (lv_args 0 av) → W p l e { frames := fr, cells := 0, slots := 0, locals := lo } s m args below meth c s.heap [] 0 0 (MQ below (Qx Θ s.heap.size g' h' res) args s 0 0 (AA Θ s.heap.size)) (F0 m 0 ls [])) : Ct l y cc maxL rt fr lo Θ av g h g' h' res := by
  intro sz
  refine MetFree.of_bodySF (code := cc) (maxLocals := maxL) (ret := rt) hy ?_ ?_
  · intro args s m h hn
    obtain ⟨meth, c, h1, h2, h3, h4, h5, h6, -, -⟩ := Cond.code_spec hn (atoms_spec (ws := Cond.code y cc maxL rt :: lw_g) h _ List.mem_cons_self)
    exact ⟨meth, c, h1, h2, h3, h4, h5, h6⟩
  · intro p e s m args below meth c s₁ B hml hv _
    have hh0 : s₁.heap = s.heap := by rw [B.state]; rfl
    obtain ⟨rfl, hsz, hP, hS⟩ := hv
    subst hsz
    have hts := atoms_spec (ws := Cond.code y cc maxL rt :: lw_g) B.pre
    have key : W p l e (headSpec (Cond.code y cc maxL rt :: lw_g) { frames := fr, cells := 0, slots := 0, locals := lo }).room s m av.toArray below meth c s.heap [] 0 0 (MQ below (Qx Θ s.heap.size g' h' res) av.toArray s 0 0 (AA Θ s.heap.size)) (entryFrame m av.toArray maxL) := by
      rw [lg_entry_eq]
      exact body p e s m av.toArray below meth c _ ⟨B.exec, B.bytes, hml, findClass_of_methodNamed B.named, fun w hw => hts w (List.mem_cons_of_mem _ hw), B.returns, B.notSynchronized, hS⟩ ⟨hP, va_S.rf⟩ (lv_entry av hav)
    obtain ⟨t, a1, o, b1, b2, b3⟩ := key s₁ hh0 (Stand.of_body B)
    exact ⟨t, o, a1, b1, b2, ⟨b3.1, b3.2⟩⟩
end MORE
