section GW
variable {p : Program} {l : Launch} {e : Env} {R : Room} {s : State} {m : MethodId} {args : Array Value} {below : List Frame} {meth : Method} {c : Code} {H : Heap} {locs : List Loc} {cells slots : Nat} {Q : State → Prop}
variable {cc : ByteArray} {pc : Nat} {ls : Array Slot} {rest : List Value}
theorem g_irem (hexec : p.tables.exec = Jvm.exec) (hb : c.code = cc) {x y : Int32} (hdg : decode cc pc = .ok (.irem, 1)) (hne : ¬ y = 0) (k : W p l e R s m args below meth c H locs cells slots Q (F0 m (pc + 1) ls (.int (remI x y) :: rest))) : W p l e R s m args below meth c H locs cells slots Q (F0 m pc ls (.int y :: .int x :: rest)) := lv_irem hexec hb hdg hne k
theorem g_lrem (hexec : p.tables.exec = Jvm.exec) (hb : c.code = cc) {x y : Int64} (hdg : decode cc pc = .ok (.lrem, 1)) (hne : ¬ y = 0) (k : W p l e R s m args below meth c H locs cells slots Q (F0 m (pc + 1) ls (.long (remL x y) :: rest))) : W p l e R s m args below meth c H locs cells slots Q (F0 m pc ls (.long y :: .long x :: rest)) := lv_lrem hexec hb hdg hne k
theorem g_ishl (hexec : p.tables.exec = Jvm.exec) (hb : c.code = cc) {x y : Int32} (hdg : decode cc pc = .ok (.ishl, 1)) (k : W p l e R s m args below meth c H locs cells slots Q (F0 m (pc + 1) ls (.int (shlI x y) :: rest))) : W p l e R s m args below meth c H locs cells slots Q (F0 m pc ls (.int y :: .int x :: rest)) := lv_ishl hexec hb hdg k
theorem g_ishr (hexec : p.tables.exec = Jvm.exec) (hb : c.code = cc) {x y : Int32} (hdg : decode cc pc = .ok (.ishr, 1)) (k : W p l e R s m args below meth c H locs cells slots Q (F0 m (pc + 1) ls (.int (shrI x y) :: rest))) : W p l e R s m args below meth c H locs cells slots Q (F0 m pc ls (.int y :: .int x :: rest)) := lv_ishr hexec hb hdg k
theorem g_iushr (hexec : p.tables.exec = Jvm.exec) (hb : c.code = cc) {x y : Int32} (hdg : decode cc pc = .ok (.iushr, 1)) (k : W p l e R s m args below meth c H locs cells slots Q (F0 m (pc + 1) ls (.int (ushrI x y) :: rest))) : W p l e R s m args below meth c H locs cells slots Q (F0 m pc ls (.int y :: .int x :: rest)) := lv_iushr hexec hb hdg rfl k
theorem g_lshl (hexec : p.tables.exec = Jvm.exec) (hb : c.code = cc) {x : Int64} {y : Int32} (hdg : decode cc pc = .ok (.lshl, 1)) (k : W p l e R s m args below meth c H locs cells slots Q (F0 m (pc + 1) ls (.long (shlL x y) :: rest))) : W p l e R s m args below meth c H locs cells slots Q (F0 m pc ls (.int y :: .long x :: rest)) := lv_lshl hexec hb hdg rfl k
theorem g_lushr (hexec : p.tables.exec = Jvm.exec) (hb : c.code = cc) {x : Int64} {y : Int32} (hdg : decode cc pc = .ok (.lushr, 1)) (k : W p l e R s m args below meth c H locs cells slots Q (F0 m (pc + 1) ls (.long (ushrL x y) :: rest))) : W p l e R s m args below meth c H locs cells slots Q (F0 m pc ls (.int y :: .long x :: rest)) := lv_lushr hexec hb hdg rfl k
theorem g_i2l (hexec : p.tables.exec = Jvm.exec) (hb : c.code = cc) {x : Int32} (hdg : decode cc pc = .ok (.i2l, 1)) (k : W p l e R s m args below meth c H locs cells slots Q (F0 m (pc + 1) ls (.long (Int32.toInt64 x) :: rest))) : W p l e R s m args below meth c H locs cells slots Q (F0 m pc ls (.int x :: rest)) := lv_i2l hexec hb hdg rfl k
theorem g_l2i (hexec : p.tables.exec = Jvm.exec) (hb : c.code = cc) {x : Int64} (hdg : decode cc pc = .ok (.l2i, 1)) (k : W p l e R s m args below meth c H locs cells slots Q (F0 m (pc + 1) ls (.int (Int64.toInt32 x) :: rest))) : W p l e R s m args below meth c H locs cells slots Q (F0 m pc ls (.long x :: rest)) := lv_l2i hexec hb hdg rfl k
theorem g_i2c (hexec : p.tables.exec = Jvm.exec) (hb : c.code = cc) {x : Int32} (hdg : decode cc pc = .ok (.i2c, 1)) (k : W p l e R s m args below meth c H locs cells slots Q (F0 m (pc + 1) ls (.int (i2cI x) :: rest))) : W p l e R s m args below meth c H locs cells slots Q (F0 m pc ls (.int x :: rest)) := lv_i2c hexec hb hdg rfl k
theorem lc_lt (x y : Int64) : (lg_cmp x y < 0) ↔ x < y := by
  unfold lg_cmp
  by_cases h : x > y
  · rw [if_pos h]
    refine ⟨fun q => absurd q (by decide), fun q => ?_⟩
    have h' : y < x := h
    rw [Int64.lt_iff_toInt_lt] at h' q; omega
  · rw [if_neg h]
    by_cases h2 : x = y
    · rw [if_pos h2]
      refine ⟨fun q => absurd q (by decide), fun q => ?_⟩
      rw [h2, Int64.lt_iff_toInt_lt] at q; omega
    · rw [if_neg h2]
      refine ⟨fun _ => ?_, fun _ => by decide⟩
      have h' : ¬ y < x := h
      rw [Int64.lt_iff_toInt_lt] at h' ⊢
      have h3 : x.toInt ≠ y.toInt := fun q => h2 (Int64.toInt_inj.mp q)
      omega
theorem lc_eq (x y : Int64) : (lg_cmp x y = 0) ↔ x = y := by
  unfold lg_cmp
  by_cases h : x > y
  · rw [if_pos h]
    refine ⟨fun q => absurd q (by decide), fun q => ?_⟩
    have h' : y < x := h
    rw [q, Int64.lt_iff_toInt_lt] at h'; omega
  · rw [if_neg h]
    by_cases h2 : x = y
    · rw [if_pos h2]; exact ⟨fun _ => h2, fun _ => rfl⟩
    · rw [if_neg h2]; exact ⟨fun q => absurd q (by decide), fun q => absurd q h2⟩
theorem lc_ge (x y : Int64) : (0 ≤ lg_cmp x y) ↔ y ≤ x := lg_cmp_ge x y
theorem lc_gt (x y : Int64) : (0 < lg_cmp x y) ↔ y < x := by
  unfold lg_cmp
  by_cases h : x > y
  · rw [if_pos h]; exact ⟨fun _ => h, fun _ => by decide⟩
  · rw [if_neg h]
    by_cases h2 : x = y
    · rw [if_pos h2]; exact ⟨fun q => absurd q (by decide), fun q => absurd q h⟩
    · rw [if_neg h2]; exact ⟨fun q => absurd q (by decide), fun q => absurd q h⟩
theorem lc_le (x y : Int64) : (lg_cmp x y ≤ 0) ↔ x ≤ y := by
  have h1 := lc_gt x y
  rw [Int32.lt_iff_toInt_lt, Int64.lt_iff_toInt_lt] at h1
  rw [Int32.le_iff_toInt_le, Int64.le_iff_toInt_le]
  omega
theorem g_lcmp_eq (hexec : p.tables.exec = Jvm.exec) (hb : c.code = cc) {x y : Int64} {off : Int} {tgt pc2 : Nat} (hd1 : decode cc pc = .ok (.lcmp, 1)) (h2 : pc + 1 = pc2) (hd2 : decode cc pc2 = .ok (.ifCond .eq off, 3)) (ht : (pc2 : Int) + off = (tgt : Int)) (kt : x = y → W p l e R s m args below meth c H locs cells slots Q (F0 m tgt ls rest)) (kf : ¬ x = y → W p l e R s m args below meth c H locs cells slots Q (F0 m (pc2 + 3) ls rest)) : W p l e R s m args below meth c H locs cells slots Q (F0 m pc ls (.long y :: .long x :: rest)) := by
  refine W.lcmp hexec hb hd1 ?_
  rw [h2]
  exact lv_if_eq hexec hb hd2 ht (fun q => kt ((lc_eq x y).mp q)) (fun q => kf (fun z => q ((lc_eq x y).mpr z)))
theorem g_lcmp_ne (hexec : p.tables.exec = Jvm.exec) (hb : c.code = cc) {x y : Int64} {off : Int} {tgt pc2 : Nat} (hd1 : decode cc pc = .ok (.lcmp, 1)) (h2 : pc + 1 = pc2) (hd2 : decode cc pc2 = .ok (.ifCond .ne off, 3)) (ht : (pc2 : Int) + off = (tgt : Int)) (kt : ¬ x = y → W p l e R s m args below meth c H locs cells slots Q (F0 m tgt ls rest)) (kf : x = y → W p l e R s m args below meth c H locs cells slots Q (F0 m (pc2 + 3) ls rest)) : W p l e R s m args below meth c H locs cells slots Q (F0 m pc ls (.long y :: .long x :: rest)) := by
  refine W.lcmp hexec hb hd1 ?_
  rw [h2]
  exact lv_if_ne hexec hb hd2 ht (fun q => kt (fun z => q ((lc_eq x y).mpr z))) (fun q => kf ((lc_eq x y).mp q))
theorem g_lcmp_lt (hexec : p.tables.exec = Jvm.exec) (hb : c.code = cc) {x y : Int64} {off : Int} {tgt pc2 : Nat} (hd1 : decode cc pc = .ok (.lcmp, 1)) (h2 : pc + 1 = pc2) (hd2 : decode cc pc2 = .ok (.ifCond .lt off, 3)) (ht : (pc2 : Int) + off = (tgt : Int)) (kt : x < y → W p l e R s m args below meth c H locs cells slots Q (F0 m tgt ls rest)) (kf : ¬ x < y → W p l e R s m args below meth c H locs cells slots Q (F0 m (pc2 + 3) ls rest)) : W p l e R s m args below meth c H locs cells slots Q (F0 m pc ls (.long y :: .long x :: rest)) := by
  refine W.lcmp hexec hb hd1 ?_
  rw [h2]
  exact lv_if_lt hexec hb hd2 ht (fun q => kt ((lc_lt x y).mp q)) (fun q => kf (fun z => q ((lc_lt x y).mpr z)))
theorem g_lcmp_ge (hexec : p.tables.exec = Jvm.exec) (hb : c.code = cc) {x y : Int64} {off : Int} {tgt pc2 : Nat} (hd1 : decode cc pc = .ok (.lcmp, 1)) (h2 : pc + 1 = pc2) (hd2 : decode cc pc2 = .ok (.ifCond .ge off, 3)) (ht : (pc2 : Int) + off = (tgt : Int)) (kt : y ≤ x → W p l e R s m args below meth c H locs cells slots Q (F0 m tgt ls rest)) (kf : ¬ y ≤ x → W p l e R s m args below meth c H locs cells slots Q (F0 m (pc2 + 3) ls rest)) : W p l e R s m args below meth c H locs cells slots Q (F0 m pc ls (.long y :: .long x :: rest)) := by
  refine W.lcmp hexec hb hd1 ?_
  rw [h2]
  exact lv_if_ge hexec hb hd2 ht (fun q => kt ((lc_ge x y).mp q)) (fun q => kf (fun z => q ((lc_ge x y).mpr z)))
theorem g_lcmp_gt (hexec : p.tables.exec = Jvm.exec) (hb : c.code = cc) {x y : Int64} {off : Int} {tgt pc2 : Nat} (hd1 : decode cc pc = .ok (.lcmp, 1)) (h2 : pc + 1 = pc2) (hd2 : decode cc pc2 = .ok (.ifCond .gt off, 3)) (ht : (pc2 : Int) + off = (tgt : Int)) (kt : y < x → W p l e R s m args below meth c H locs cells slots Q (F0 m tgt ls rest)) (kf : ¬ y < x → W p l e R s m args below meth c H locs cells slots Q (F0 m (pc2 + 3) ls rest)) : W p l e R s m args below meth c H locs cells slots Q (F0 m pc ls (.long y :: .long x :: rest)) := by
  refine W.lcmp hexec hb hd1 ?_
  rw [h2]
  exact lv_if_gt hexec hb hd2 ht (fun q => kt ((lc_gt x y).mp q)) (fun q => kf (fun z => q ((lc_gt x y).mpr z)))
theorem g_lcmp_le (hexec : p.tables.exec = Jvm.exec) (hb : c.code = cc) {x y : Int64} {off : Int} {tgt pc2 : Nat} (hd1 : decode cc pc = .ok (.lcmp, 1)) (h2 : pc + 1 = pc2) (hd2 : decode cc pc2 = .ok (.ifCond .le off, 3)) (ht : (pc2 : Int) + off = (tgt : Int)) (kt : x ≤ y → W p l e R s m args below meth c H locs cells slots Q (F0 m tgt ls rest)) (kf : ¬ x ≤ y → W p l e R s m args below meth c H locs cells slots Q (F0 m (pc2 + 3) ls rest)) : W p l e R s m args below meth c H locs cells slots Q (F0 m pc ls (.long y :: .long x :: rest)) := by
  refine W.lcmp hexec hb hd1 ?_
  rw [h2]
  exact lv_if_le hexec hb hd2 ht (fun q => kt ((lc_le x y).mp q)) (fun q => kf (fun z => q ((lc_le x y).mpr z)))
theorem g_absL (hexec : p.tables.exec = Jvm.exec) (hb : c.code = cc) (hml : c.maxLocals = ls.size) {own : String} {index : Nat} (hown : s.vm.findClass own = some m.cls) (hlink : (Cond.methodLink own index Lib.MathLoose.abs_long.x).before args s = true) (hstat : (Cond.static Lib.MathLoose.abs_long.x).before args s = true) (hini : (Cond.initialized "java/lang/Math").before args s = true) (hcode : (Cond.code Lib.MathLoose.abs_long.x Lib.MathLoose.abs_long.code 2 (some .long)).before args s = true)
    (hframes : 1 ≤ R.frames) (hlocals : (rest.map fun v => v.category).sum + 13 ≤ R.locals) (hc : cells ≤ R.cells) (hs : slots ≤ R.slots) {x : Int64} (hdg : decode cc pc = .ok (.invokestatic index, 3))
    (kk : W p l e R s m args below meth c H locs cells slots Q (F0 m (pc + 3) ls (.long (absL x) :: rest))) : W p l e R s m args below meth c H locs cells slots Q (F0 m pc ls (.long x :: rest)) :=
  va_mabs_long hexec hb hml hown hlink hstat hini hcode hframes hlocals hc hs hdg kk
end GW
theorem i32_ne {x k : Int32} {z : Int} (h : ¬ x = k) (hz : k.toInt = z) : x.toInt ≠ z := fun q => h (Int32.toInt_inj.mp (q.trans hz.symm))
section GE
variable {dC : Nat → ClassId} {dI : Nat → Nat → Nat} {k : Nat → ClassId}
/-- a method's entry -/
theorem g_entry {l : Launch} {y : MethodName} {ws ws' : List Cond} {rm : Room} {cc : ByteArray} {maxL mc ms sz : Nat} {ret : Option FieldType} {av : List Value} {w0 : va_W} {Qc : Array Value → State → Outcome → State → Prop} {lv : List (Nat × Value)} (hy : plainName y.cls = true) (hw : ws = Cond.code y cc maxL ret :: ws') (hln : (lg_sl av).length ≤ maxL) (hlv : lv_args 0 av = lv)
    (body : ∀ (p : Program) (e : Env) (s : State) (m : MethodId) (below : List Frame) (meth : Method) (c : Code) (ls : Array Slot), p.tables.exec = Jvm.exec → c.code = cc → meth.sig.returnType = ret → c.maxLocals = maxL → (∀ w ∈ ws, w.before av.toArray s = true) → s.vm.findClass y.cls = some m.cls → meth.locks = false → meth.name = y.name →
      s.heap.size = sz → gK dC dI k (va_A w0 sz) s → (∀ q : Nat, s.heap.size ≤ q → va_A w0 sz q) → va_P (dC, dI) vwCl w0 s.heap → va_D (va_A w0 sz) w0 → va_S (va_A w0 sz) s.heap s.heap [] → lv_has ls maxL lv →
      W p l e (headSpec ws rm).room s m av.toArray below meth c s.heap [] 0 0 (MQ below Qc av.toArray s mc ms (va_A w0 sz)) (F0 m 0 ls [])) :
    Met l y ws rm (gPre dC dI k av sz w0) Qc mc ms (va_A w0 sz) := by
  refine Met.ofW (cc := cc) (maxL := maxL) (ret := ret) hy hw ?_
  intro p e s m args below meth c s₁ B hml hv
  obtain ⟨rfl, hsz, hP, hK, hD0⟩ := hv
  have hl := lv_entry av (n := maxL) hln
  rw [lg_entry_eq]
  generalize (lg_sl av ++ List.replicate (maxL - (lg_sl av).length) Slot.unset).toArray = ls at hl ⊢
  rw [hlv] at hl
  exact body p e s m below meth c ls B.exec B.bytes B.returns hml (atoms_spec (ws := ws) B.pre) (findClass_of_methodNamed B.named) B.notSynchronized (name_of_methodNamed B.named B.method).1 hsz hK (fun q h => Or.inr (by rw [← hsz]; exact h)) hP hD0.self va_S.rf hl
/-- the same for a method of the JDK -/
theorem g_entryF {l : Launch} {y : MethodName} {ws ws' : List Cond} {rm : Room} {cc : ByteArray} {maxL mc ms sz : Nat} {ret : Option FieldType} {av : List Value} {w0 : va_W} {Qc : Array Value → State → Outcome → State → Prop} {lv : List (Nat × Value)} (hy : plainFor y = true) (hw : ws = Cond.code y cc maxL ret :: ws') (hln : (lg_sl av).length ≤ maxL) (hlv : lv_args 0 av = lv)
    (body : ∀ (p : Program) (e : Env) (s : State) (m : MethodId) (below : List Frame) (meth : Method) (c : Code) (ls : Array Slot), p.tables.exec = Jvm.exec → c.code = cc → meth.sig.returnType = ret → c.maxLocals = maxL → (∀ w ∈ ws, w.before av.toArray s = true) → s.vm.findClass y.cls = some m.cls → meth.locks = false → meth.name = y.name →
      s.heap.size = sz → gK dC dI k (va_A w0 sz) s → (∀ q : Nat, s.heap.size ≤ q → va_A w0 sz q) → va_P (dC, dI) vwCl w0 s.heap → va_D (va_A w0 sz) w0 → va_S (va_A w0 sz) s.heap s.heap [] → lv_has ls maxL lv →
      W p l e (headSpec ws rm).room s m av.toArray below meth c s.heap [] 0 0 (MQ below Qc av.toArray s mc ms (va_A w0 sz)) (F0 m 0 ls [])) :
    Met l y ws rm (gPre dC dI k av sz w0) Qc mc ms (va_A w0 sz) := by
  refine va_MetF (cc := cc) (maxL := maxL) (ret := ret) hy hw ?_
  intro p e s m args below meth c s₁ B hml hv
  obtain ⟨rfl, hsz, hP, hK, hD0⟩ := hv
  have hl := lv_entry av (n := maxL) hln
  rw [lg_entry_eq]
  generalize (lg_sl av ++ List.replicate (maxL - (lg_sl av).length) Slot.unset).toArray = ls at hl ⊢
  rw [hlv] at hl
  exact body p e s m below meth c ls B.exec B.bytes B.returns hml (atoms_spec (ws := ws) B.pre) (findClass_of_methodNamed B.named) B.notSynchronized (name_of_methodNamed B.named B.method).1 hsz hK (fun q h => Or.inr (by rw [← hsz]; exact h)) hP hD0.self va_S.rf hl
variable {p : Program} {l : Launch} {e : Env} {R : Room} {s : State} {m : MethodId} {args : Array Value} {below : List Frame} {meth : Method} {c : Code} {H : Heap} {locs : List Loc} {cells slots : Nat} {Q : State → Prop}
variable {cc : ByteArray} {pc : Nat} {ls : Array Slot} {rest : List Value} {A : Nat → Prop} {ws : va_W}
theorem g_ireti {v : Int32} (hx : p.tables.exec = Jvm.exec) (hb : c.code = cc) (hr : meth.sig.returnType = some .int) (hlk : meth.locks = false) (hP : va_P (dC, dI) vwCl ws H) (hD : va_D A ws) (hS : va_S A s.heap H locs) (hd : decode cc pc = .ok (.ireturn, 1)) :
    W p l e R s m args below meth c H locs cells slots (MQ below (gQI dC dI A v ws) args s cells slots A) (F0 m pc ls [.int v]) :=
  W.iret hx hb hr (fun t ht _ => ⟨⟨v, (), rfl, rfl, by rw [ht]; exact hP, hD⟩, hS.F ht⟩) hS.2.2 hd
theorem g_iretz {v : Int32} {ty : FieldType} (hx : p.tables.exec = Jvm.exec) (hb : c.code = cc) (hr : meth.sig.returnType = some ty) (hlk : meth.locks = false) (hP : va_P (dC, dI) vwCl ws H) (hD : va_D A ws) (hS : va_S A s.heap H locs) (hz : narrow ty (.int v) = .int v) (hd : decode cc pc = .ok (.ireturn, 1)) :
    W p l e R s m args below meth c H locs cells slots (MQ below (gQI dC dI A v ws) args s cells slots A) (F0 m pc ls [.int v]) :=
  W.zret hx hb hr hz (fun t ht _ => ⟨⟨v, (), rfl, rfl, by rw [ht]; exact hP, hD⟩, hS.F ht⟩) hS.2.2 hd
theorem g_lret {v : Int64} (hx : p.tables.exec = Jvm.exec) (hb : c.code = cc) (hr : meth.sig.returnType = some .long) (hlk : meth.locks = false) (hP : va_P (dC, dI) vwCl ws H) (hD : va_D A ws) (hS : va_S A s.heap H locs) (hd : decode cc pc = .ok (.lreturn, 1)) :
    W p l e R s m args below meth c H locs cells slots (MQ below (gQL dC dI A v ws) args s cells slots A) (F0 m pc ls [.long v]) :=
  W.lret hx hb hr (fun t ht _ => ⟨⟨v, (), rfl, rfl, by rw [ht]; exact hP, hD⟩, hS.F ht⟩) hS.2.2 hd
theorem g_vret (hx : p.tables.exec = Jvm.exec) (hb : c.code = cc) (hr : meth.sig.returnType = none) (hlk : meth.locks = false) (hP : va_P (dC, dI) vwCl ws H) (hD : va_D A ws) (hS : va_S A s.heap H locs) (hd : decode cc pc = .ok (.return_, 1)) :
    W p l e R s m args below meth c H locs cells slots (MQ below (gQV dC dI A ws) args s cells slots A) (F0 m pc ls []) :=
  W.vret hx hb hr (fun t ht _ => ⟨⟨(), rfl, trivial, by rw [ht]; exact hP, hD⟩, hS.F ht⟩) hS.2.2 hd
/-- what a callee is given -/
theorem g_preS {wc : va_W} {As : List Value} (hG : gK dC dI k A s) (hP : va_P (dC, dI) vwCl ws H) (hD : va_D A ws) (hS : va_S A s.heap H locs) (hA : ∀ q, s.heap.size ≤ q → A q) (isC : List Nat) (hC : isC.map (fun i => ws[i]?) = wc.map some) (hn : va_nd isC = true) : PreS s H (gPre dC dI k As H.size wc) As := by
  refine ⟨gPre_blind, fun U hU hW => ⟨rfl, by rw [hU], ?_, ?_, ?_⟩⟩
  · rw [hU]; exact hP.sub isC (map_fm hC)
  · exact hG.go hS (va_free hD hS hA isC hC) hU hW
  · exact (hD.sub isC hn hC).weaken (fun _ _ _ _ => trivial)
theorem g_preV {wc : va_W} {As : List Value} {b ci q0 : Nat} {q : vw_C} {fs : List Value} (hG : gK dC dI k A s) (hP : va_P (dC, dI) vwCl ws H) (hD : va_D A ws) (hS : va_S A s.heap H locs) (hA : ∀ q, s.heap.size ≤ q → A q) (isC : List Nat) (hC : isC.map (fun i => ws[i]?) = wc.map some) (hn : va_nd isC = true) (hc : vwCl[ci]? = some q) (he : ws[q0]? = some (b, .inr (ci, fs))) : PreV s H q.1 b (gPre dC dI k (.ref b :: As) H.size wc) As := by
  obtain ⟨h1, h2⟩ := g_preS (As := .ref b :: As) hG hP hD hS hA isC hC hn
  exact ⟨h1, va_recv hG.1 hP hc he, h2⟩
theorem g_calli {wc w1 w2 : va_W} {mc ms : Nat} {r : Int32} {a : Array Value} {st0 : List Value} (hr : va_Run p l e R s m args below meth c H locs cells slots mc ms (F0 m pc ls st0) rest (gQI dC dI (va_A wc H.size) r w1 a) (va_A wc H.size)) (hP : va_P (dC, dI) vwCl ws H) (hD : va_D A ws) (hS : va_S A s.heap H locs) (hA : ∀ q, s.heap.size ≤ q → A q)
    (isC isR pm : List Nat) (hC : isC.map (fun i => ws[i]?) = wc.map some) (hR : isR.map (fun i => ws[i]?) = (isR.filterMap (fun i => ws[i]?)).map some) (hn : va_nd isR = true) (hdis : ∀ i ∈ isR, i ∉ isC) (hpm : pm.map (fun i => (isR.filterMap (fun i => ws[i]?) ++ w1)[i]?) = w2.map some) (hpn : va_nd pm = true)
    (kk : ∀ (H1 : Heap) (locs1 : List Loc), va_P (dC, dI) vwCl w2 H1 → va_D A w2 → va_S A s.heap H1 locs1 → W p l e R s m args below meth c H1 locs1 (cells + mc) (slots + ms) Q (F0 m (pc + 3) ls (.int r :: rest))) : W p l e R s m args below meth c H locs cells slots Q (F0 m pc ls st0) := by
  have hFc := va_free hD hS hA isC hC
  refine va_calli hr hS (fun q _ h => hFc q h) hFc (fun r1 u t H1 locs1 ht hvm hw hB hz1 hk1 hS1 => ?_)
  subst hw
  obtain ⟨hP1, hD1⟩ := hB
  rw [ht] at hP1
  obtain ⟨hP2, hD2⟩ := va_join hP hD isC isR hC hR hn hdis hk1 hFc hP1 hD1
  exact kk H1 locs1 (hP2.sub pm (map_fm hpm)) (hD2.sub pm hpn hpm) hS1
theorem g_calll {wc w1 w2 : va_W} {mc ms : Nat} {r : Int64} {a : Array Value} {st0 : List Value} (hr : va_Run p l e R s m args below meth c H locs cells slots mc ms (F0 m pc ls st0) rest (gQL dC dI (va_A wc H.size) r w1 a) (va_A wc H.size)) (hP : va_P (dC, dI) vwCl ws H) (hD : va_D A ws) (hS : va_S A s.heap H locs) (hA : ∀ q, s.heap.size ≤ q → A q)
    (isC isR pm : List Nat) (hC : isC.map (fun i => ws[i]?) = wc.map some) (hR : isR.map (fun i => ws[i]?) = (isR.filterMap (fun i => ws[i]?)).map some) (hn : va_nd isR = true) (hdis : ∀ i ∈ isR, i ∉ isC) (hpm : pm.map (fun i => (isR.filterMap (fun i => ws[i]?) ++ w1)[i]?) = w2.map some) (hpn : va_nd pm = true)
    (kk : ∀ (H1 : Heap) (locs1 : List Loc), va_P (dC, dI) vwCl w2 H1 → va_D A w2 → va_S A s.heap H1 locs1 → W p l e R s m args below meth c H1 locs1 (cells + mc) (slots + ms) Q (F0 m (pc + 3) ls (.long r :: rest))) : W p l e R s m args below meth c H locs cells slots Q (F0 m pc ls st0) := by
  have hFc := va_free hD hS hA isC hC
  refine va_calll hr hS (fun q _ h => hFc q h) hFc (fun r1 u t H1 locs1 ht hvm hw hB hz1 hk1 hS1 => ?_)
  subst hw
  obtain ⟨hP1, hD1⟩ := hB
  rw [ht] at hP1
  obtain ⟨hP2, hD2⟩ := va_join hP hD isC isR hC hR hn hdis hk1 hFc hP1 hD1
  exact kk H1 locs1 (hP2.sub pm (map_fm hpm)) (hD2.sub pm hpn hpm) hS1
theorem g_callv {wc w1 w2 : va_W} {mc ms : Nat} {a : Array Value} {st0 : List Value} (hr : va_Run p l e R s m args below meth c H locs cells slots mc ms (F0 m pc ls st0) rest (gQV dC dI (va_A wc H.size) w1 a) (va_A wc H.size)) (hP : va_P (dC, dI) vwCl ws H) (hD : va_D A ws) (hS : va_S A s.heap H locs) (hA : ∀ q, s.heap.size ≤ q → A q)
    (isC isR pm : List Nat) (hC : isC.map (fun i => ws[i]?) = wc.map some) (hR : isR.map (fun i => ws[i]?) = (isR.filterMap (fun i => ws[i]?)).map some) (hn : va_nd isR = true) (hdis : ∀ i ∈ isR, i ∉ isC) (hpm : pm.map (fun i => (isR.filterMap (fun i => ws[i]?) ++ w1)[i]?) = w2.map some) (hpn : va_nd pm = true)
    (kk : ∀ (H1 : Heap) (locs1 : List Loc), va_P (dC, dI) vwCl w2 H1 → va_D A w2 → va_S A s.heap H1 locs1 → W p l e R s m args below meth c H1 locs1 (cells + mc) (slots + ms) Q (F0 m (pc + 3) ls rest)) : W p l e R s m args below meth c H locs cells slots Q (F0 m pc ls st0) := by
  have hFc := va_free hD hS hA isC hC
  refine va_callv hr hS (fun q _ h => hFc q h) hFc (fun u t H1 locs1 ht hvm hw hB hz1 hk1 hS1 => ?_)
  obtain ⟨hP1, hD1⟩ := hB
  rw [ht] at hP1
  obtain ⟨hP2, hD2⟩ := va_join hP hD isC isR hC hR hn hdis hk1 hFc hP1 hD1
  exact kk H1 locs1 (hP2.sub pm (map_fm hpm)) (hD2.sub pm hpn hpm) hS1
end GE
